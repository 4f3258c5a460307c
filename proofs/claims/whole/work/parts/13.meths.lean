/-! the methods; the words of calls. By program. -/
abbrev m_J9_abs_0f7a4 : Mt := (yJ9_abs_0f7a4, cJ9_abs_0f7a4, 1, (some .int), 0)
theorem oy_J9_abs_0f7a4 : okY yJ9_abs_0f7a4 1 := ⟨by decide, by decide, by decide +kernel⟩
abbrev m_J9_floorMod_7cf53 : Mt := (yJ9_floorMod_7cf53, cJ9_floorMod_7cf53, 3, (some .int), 0)
theorem oy_J9_floorMod_7cf53 : okY yJ9_floorMod_7cf53 2 := ⟨by decide, by decide, by decide +kernel⟩
abbrev m_J9_max_7cf53 : Mt := (yJ9_max_7cf53, cJ9_max_7cf53, 2, (some .int), 0)
theorem oy_J9_max_7cf53 : okY yJ9_max_7cf53 2 := ⟨by decide, by decide, by decide +kernel⟩
abbrev m_J9_min_7cf53 : Mt := (yJ9_min_7cf53, cJ9_min_7cf53, 2, (some .int), 0)
theorem oy_J9_min_7cf53 : okY yJ9_min_7cf53 2 := ⟨by decide, by decide, by decide +kernel⟩
abbrev m_X0_close : Mt := (yX0_close, cX0_close, 2, none, 0)
theorem oy_X0_close : okY yX0_close 1 := ⟨by decide, by decide, by decide +kernel⟩
abbrev m_X0_compared : Mt := (yX0_compared, cX0_compared, 5, (some .int), 0)
theorem oy_X0_compared : okY yX0_compared 3 := ⟨by decide, by decide, by decide +kernel⟩
abbrev m_X0_copy : Mt := (yX0_copy, cX0_copy, 2, none, 0)
theorem oy_X0_copy : okY yX0_copy 1 := ⟨by decide, by decide, by decide +kernel⟩
abbrev m_X0_forget : Mt := (yX0_forget, cX0_forget, 1, none, 0)
theorem oy_X0_forget : okY yX0_forget 0 := ⟨by decide, by decide, by decide +kernel⟩
abbrev m_X0_joined : Mt := (yX0_joined, cX0_joined, 4, (some .int), 1)
theorem oy_X0_joined : okY yX0_joined 3 := ⟨by decide, by decide, by decide +kernel⟩
abbrev m_X0_open : Mt := (yX0_open, cX0_open, 2, none, 0)
theorem oy_X0_open : okY yX0_open 1 := ⟨by decide, by decide, by decide +kernel⟩
abbrev m_X0_put : Mt := (yX0_put, cX0_put, 3, none, 0)
theorem oy_X0_put : okY yX0_put 2 := ⟨by decide, by decide, by decide +kernel⟩
abbrev m_X0_work : Mt := (yX0_work, cX0_work, 6, (some .int), 2)
theorem oy_X0_work : okY yX0_work 2 := ⟨by decide, by decide, by decide +kernel⟩
abbrev m_X10_asManyAsUnturned : Mt := (yX10_asManyAsUnturned, cX10_asManyAsUnturned, 3, (some .int), 0)
theorem oy_X10_asManyAsUnturned : okY yX10_asManyAsUnturned 0 := ⟨by decide, by decide, by decide +kernel⟩
abbrev m_X1_apart : Mt := (yX1_apart, cX1_apart, 3, (some .int), 1)
theorem oy_X1_apart : okY yX1_apart 2 := ⟨by decide, by decide, by decide +kernel⟩
abbrev m_X6_struck : Mt := (yX6_struck, cX6_struck, 7, (some .int), 2)
theorem oy_X6_struck : okY yX6_struck 3 := ⟨by decide, by decide, by decide +kernel⟩
abbrev m_X10_cover : Mt := (yX10_cover, cX10_cover, 4, none, 3)
theorem oy_X10_cover : okY yX10_cover 2 := ⟨by decide, by decide, by decide +kernel⟩
abbrev m_X10_findEdges : Mt := (yX10_findEdges, cX10_findEdges, 6, (some .int), 0)
theorem oy_X10_findEdges : okY yX10_findEdges 1 := ⟨by decide, by decide, by decide +kernel⟩
abbrev m_X10_gather : Mt := (yX10_gather, cX10_gather, 3, none, 1)
theorem oy_X10_gather : okY yX10_gather 1 := ⟨by decide, by decide, by decide +kernel⟩
abbrev m_X10_lower : Mt := (yX10_lower, cX10_lower, 2, none, 1)
theorem oy_X10_lower : okY yX10_lower 0 := ⟨by decide, by decide, by decide +kernel⟩
abbrev m_X10_spin : Mt := (yX10_spin, cX10_spin, 6, none, 1)
theorem oy_X10_spin : okY yX10_spin 1 := ⟨by decide, by decide, by decide +kernel⟩
abbrev m_X10_sum : Mt := (yX10_sum, cX10_sum, 3, (some .int), 0)
theorem oy_X10_sum : okY yX10_sum 0 := ⟨by decide, by decide, by decide +kernel⟩
abbrev m_X10_tellAfter : Mt := (yX10_tellAfter, cX10_tellAfter, 5, none, 4)
theorem oy_X10_tellAfter : okY yX10_tellAfter 2 := ⟨by decide, by decide, by decide +kernel⟩
abbrev m_X7_copy : Mt := (yX7_copy, cX7_copy, 2, none, 0)
theorem oy_X7_copy : okY yX7_copy 1 := ⟨by decide, by decide, by decide +kernel⟩
abbrev m_X9_copy : Mt := (yX9_copy, cX9_copy, 2, none, 1)
theorem oy_X9_copy : okY yX9_copy 1 := ⟨by decide, by decide, by decide +kernel⟩
abbrev m_X11_again : Mt := (yX11_again, cX11_again, 2, (some .boolean), 2)
theorem oy_X11_again : okY yX11_again 1 := ⟨by decide, by decide, by decide +kernel⟩
abbrev m_X11_isKnown : Mt := (yX11_isKnown, cX11_isKnown, 2, (some .boolean), 0)
theorem oy_X11_isKnown : okY yX11_isKnown 1 := ⟨by decide, by decide, by decide +kernel⟩
abbrev m_X11_isYear : Mt := (yX11_isYear, cX11_isYear, 1, (some .boolean), 0)
theorem oy_X11_isYear : okY yX11_isYear 1 := ⟨by decide, by decide, by decide +kernel⟩
abbrev m_X11_isAsked : Mt := (yX11_isAsked, cX11_isAsked, 4, (some .boolean), 1)
theorem oy_X11_isAsked : okY yX11_isAsked 3 := ⟨by decide, by decide, by decide +kernel⟩
abbrev m_X1_bearing : Mt := (yX1_bearing, cX1_bearing, 6, (some .int), 1)
theorem oy_X1_bearing : okY yX1_bearing 2 := ⟨by decide, by decide, by decide +kernel⟩
abbrev m_X2_bearingOf : Mt := (yX2_bearingOf, cX2_bearingOf, 4, (some .int), 2)
theorem oy_X2_bearingOf : okY yX2_bearingOf 1 := ⟨by decide, by decide, by decide +kernel⟩
abbrev m_X2_describe : Mt := (yX2_describe, cX2_describe, 7, none, 2)
theorem oy_X2_describe : okY yX2_describe 2 := ⟨by decide, by decide, by decide +kernel⟩
abbrev m_X2_holds : Mt := (yX2_holds, cX2_holds, 5, (some .boolean), 3)
theorem oy_X2_holds : okY yX2_holds 3 := ⟨by decide, by decide, by decide +kernel⟩
abbrev m_X2_joins : Mt := (yX2_joins, cX2_joins, 4, (some .boolean), 0)
theorem oy_X2_joins : okY yX2_joins 1 := ⟨by decide, by decide, by decide +kernel⟩
abbrev m_X2_choose : Mt := (yX2_choose, cX2_choose, 4, none, 4)
theorem oy_X2_choose : okY yX2_choose 2 := ⟨by decide, by decide, by decide +kernel⟩
abbrev m_X2_apply : Mt := (yX2_apply, cX2_apply, 6, none, 0)
theorem oy_X2_apply : okY yX2_apply 3 := ⟨by decide, by decide, by decide +kernel⟩
abbrev m_X2_know : Mt := (yX2_know, cX2_know, 5, none, 1)
theorem oy_X2_know : okY yX2_know 3 := ⟨by decide, by decide, by decide +kernel⟩
abbrev m_X9_hillOver : Mt := (yX9_hillOver, cX9_hillOver, 6, (some .int), 0)
theorem oy_X9_hillOver : okY yX9_hillOver 1 := ⟨by decide, by decide, by decide +kernel⟩
abbrev m_X6_rising : Mt := (yX6_rising, cX6_rising, 5, (some .int), 3)
theorem oy_X6_rising : okY yX6_rising 3 := ⟨by decide, by decide, by decide +kernel⟩
abbrev m_X6_watch : Mt := (yX6_watch, cX6_watch, 4, none, 4)
theorem oy_X6_watch : okY yX6_watch 2 := ⟨by decide, by decide, by decide +kernel⟩
abbrev m_X11_lookAt : Mt := (yX11_lookAt, cX11_lookAt, 4, none, 5)
theorem oy_X11_lookAt : okY yX11_lookAt 3 := ⟨by decide, by decide, by decide +kernel⟩
abbrev m_X11_turnAll : Mt := (yX11_turnAll, cX11_turnAll, 5, none, 6)
theorem oy_X11_turnAll : okY yX11_turnAll 4 := ⟨by decide, by decide, by decide +kernel⟩
abbrev m_X11_allHits : Mt := (yX11_allHits, cX11_allHits, 4, (some .int), 7)
theorem oy_X11_allHits : okY yX11_allHits 3 := ⟨by decide, by decide, by decide +kernel⟩
abbrev m_X11_strikes : Mt := (yX11_strikes, cX11_strikes, 4, (some .boolean), 3)
theorem oy_X11_strikes : okY yX11_strikes 3 := ⟨by decide, by decide, by decide +kernel⟩
abbrev m_X4_forget : Mt := (yX4_forget, cX4_forget, 1, none, 1)
theorem oy_X4_forget : okY yX4_forget 0 := ⟨by decide, by decide, by decide +kernel⟩
abbrev m_X4_join : Mt := (yX4_join, cX4_join, 3, none, 0)
theorem oy_X4_join : okY yX4_join 2 := ⟨by decide, by decide, by decide +kernel⟩
abbrev m_X4_bestOf : Mt := (yX4_bestOf, cX4_bestOf, 2, (some .int), 0)
theorem oy_X4_bestOf : okY yX4_bestOf 1 := ⟨by decide, by decide, by decide +kernel⟩
abbrev m_X4_bestWith : Mt := (yX4_bestWith, cX4_bestWith, 6, (some .int), 1)
theorem oy_X4_bestWith : okY yX4_bestWith 2 := ⟨by decide, by decide, by decide +kernel⟩
abbrev m_X4_put : Mt := (yX4_put, cX4_put, 4, none, 0)
theorem oy_X4_put : okY yX4_put 2 := ⟨by decide, by decide, by decide +kernel⟩
abbrev m_X4_rename : Mt := (yX4_rename, cX4_rename, 4, none, 0)
theorem oy_X4_rename : okY yX4_rename 2 := ⟨by decide, by decide, by decide +kernel⟩
abbrev m_X4_squeeze : Mt := (yX4_squeeze, cX4_squeeze, 3, (some .int), 1)
theorem oy_X4_squeeze : okY yX4_squeeze 0 := ⟨by decide, by decide, by decide +kernel⟩
abbrev m_X4_most : Mt := (yX4_most, cX4_most, 4, (some .int), 2)
theorem oy_X4_most : okY yX4_most 0 := ⟨by decide, by decide, by decide +kernel⟩
abbrev m_X11_alone : Mt := (yX11_alone, cX11_alone, 5, (some .int), 6)
theorem oy_X11_alone : okY yX11_alone 3 := ⟨by decide, by decide, by decide +kernel⟩
abbrev m_X7_note : Mt := (yX7_note, cX7_note, 6, (some .int), 0)
theorem oy_X7_note : okY yX7_note 5 := ⟨by decide, by decide, by decide +kernel⟩
abbrev m_X11_annul : Mt := (yX11_annul, cX11_annul, 2, (some .int), 1)
theorem oy_X11_annul : okY yX11_annul 1 := ⟨by decide, by decide, by decide +kernel⟩
abbrev m_X11_markRounds : Mt := (yX11_markRounds, cX11_markRounds, 8, none, 1)
theorem oy_X11_markRounds : okY yX11_markRounds 4 := ⟨by decide, by decide, by decide +kernel⟩
abbrev m_X11_markedUpTo : Mt := (yX11_markedUpTo, cX11_markedUpTo, 4, (some .int), 0)
theorem oy_X11_markedUpTo : okY yX11_markedUpTo 1 := ⟨by decide, by decide, by decide +kernel⟩
abbrev m_X11_anything : Mt := (yX11_anything, cX11_anything, 8, (some .int), 2)
theorem oy_X11_anything : okY yX11_anything 5 := ⟨by decide, by decide, by decide +kernel⟩
abbrev m_X11_back : Mt := (yX11_back, cX11_back, 2, (some .int), 0)
theorem oy_X11_back : okY yX11_back 1 := ⟨by decide, by decide, by decide +kernel⟩
abbrev m_X11_isDegree : Mt := (yX11_isDegree, cX11_isDegree, 1, (some .boolean), 0)
theorem oy_X11_isDegree : okY yX11_isDegree 1 := ⟨by decide, by decide, by decide +kernel⟩
abbrev m_X11_near : Mt := (yX11_near, cX11_near, 6, (some .int), 2)
theorem oy_X11_near : okY yX11_near 3 := ⟨by decide, by decide, by decide +kernel⟩
abbrev m_X11_power : Mt := (yX11_power, cX11_power, 5, (some .long), 0)
theorem oy_X11_power : okY yX11_power 2 := ⟨by decide, by decide, by decide +kernel⟩
abbrev m_X11_ways : Mt := (yX11_ways, cX11_ways, 9, (some .long), 1)
theorem oy_X11_ways : okY yX11_ways 4 := ⟨by decide, by decide, by decide +kernel⟩
abbrev m_X11_chance : Mt := (yX11_chance, cX11_chance, 4, (some .long), 3)
theorem oy_X11_chance : okY yX11_chance 2 := ⟨by decide, by decide, by decide +kernel⟩
abbrev m_X11_clear : Mt := (yX11_clear, cX11_clear, 2, (some .int), 0)
theorem oy_X11_clear : okY yX11_clear 0 := ⟨by decide, by decide, by decide +kernel⟩
abbrev m_X11_slotsHeld : Mt := (yX11_slotsHeld, cX11_slotsHeld, 3, (some .int), 0)
theorem oy_X11_slotsHeld : okY yX11_slotsHeld 0 := ⟨by decide, by decide, by decide +kernel⟩
abbrev m_X11_thingsInAll : Mt := (yX11_thingsInAll, cX11_thingsInAll, 1, (some .int), 0)
theorem oy_X11_thingsInAll : okY yX11_thingsInAll 0 := ⟨by decide, by decide, by decide +kernel⟩
abbrev m_X11_count : Mt := (yX11_count, cX11_count, 2, (some .int), 1)
theorem oy_X11_count : okY yX11_count 1 := ⟨by decide, by decide, by decide +kernel⟩
abbrev m_X11_counts : Mt := (yX11_counts, cX11_counts, 6, (some .int), 1)
theorem oy_X11_counts : okY yX11_counts 5 := ⟨by decide, by decide, by decide +kernel⟩
abbrev m_X11_isAge : Mt := (yX11_isAge, cX11_isAge, 1, (some .boolean), 0)
theorem oy_X11_isAge : okY yX11_isAge 1 := ⟨by decide, by decide, by decide +kernel⟩
abbrev m_X11_isThing : Mt := (yX11_isThing, cX11_isThing, 2, (some .boolean), 1)
theorem oy_X11_isThing : okY yX11_isThing 1 := ⟨by decide, by decide, by decide +kernel⟩
abbrev m_X11_date : Mt := (yX11_date, cX11_date, 3, (some .int), 2)
theorem oy_X11_date : okY yX11_date 2 := ⟨by decide, by decide, by decide +kernel⟩
abbrev m_X11_degree : Mt := (yX11_degree, cX11_degree, 3, (some .int), 2)
theorem oy_X11_degree : okY yX11_degree 2 := ⟨by decide, by decide, by decide +kernel⟩
abbrev m_X8_append : Mt := (yX8_append, cX8_append, 3, none, 0)
theorem oy_X8_append : okY yX8_append 1 := ⟨by decide, by decide, by decide +kernel⟩
abbrev m_X11_feed : Mt := (yX11_feed, cX11_feed, 6, (some .int), 1)
theorem oy_X11_feed : okY yX11_feed 5 := ⟨by decide, by decide, by decide +kernel⟩
abbrev m_X11_isSpot : Mt := (yX11_isSpot, cX11_isSpot, 2, (some .boolean), 0)
theorem oy_X11_isSpot : okY yX11_isSpot 2 := ⟨by decide, by decide, by decide +kernel⟩
abbrev m_X11_found : Mt := (yX11_found, cX11_found, 5, (some .int), 1)
theorem oy_X11_found : okY yX11_found 3 := ⟨by decide, by decide, by decide +kernel⟩
abbrev m_X1_turned : Mt := (yX1_turned, cX1_turned, 3, (some .int), 0)
theorem oy_X1_turned : okY yX1_turned 2 := ⟨by decide, by decide, by decide +kernel⟩
abbrev m_X11_hitsTurned : Mt := (yX11_hitsTurned, cX11_hitsTurned, 6, (some .int), 4)
theorem oy_X11_hitsTurned : okY yX11_hitsTurned 3 := ⟨by decide, by decide, by decide +kernel⟩
abbrev m_X11_hitsNow : Mt := (yX11_hitsNow, cX11_hitsNow, 2, (some .int), 5)
theorem oy_X11_hitsNow : okY yX11_hitsNow 1 := ⟨by decide, by decide, by decide +kernel⟩
abbrev m_X11_hitsIn : Mt := (yX11_hitsIn, cX11_hitsIn, 3, (some .int), 6)
theorem oy_X11_hitsIn : okY yX11_hitsIn 2 := ⟨by decide, by decide, by decide +kernel⟩
abbrev m_X11_isYears : Mt := (yX11_isYears, cX11_isYears, 3, (some .boolean), 1)
theorem oy_X11_isYears : okY yX11_isYears 3 := ⟨by decide, by decide, by decide +kernel⟩
abbrev m_X11_free : Mt := (yX11_free, cX11_free, 10, (some .int), 7)
theorem oy_X11_free : okY yX11_free 5 := ⟨by decide, by decide, by decide +kernel⟩
abbrev m_X11_freer : Mt := (yX11_freer, cX11_freer, 10, (some .int), 7)
theorem oy_X11_freer : okY yX11_freer 6 := ⟨by decide, by decide, by decide +kernel⟩
abbrev m_X11_gone : Mt := (yX11_gone, cX11_gone, 2, (some .int), 2)
theorem oy_X11_gone : okY yX11_gone 1 := ⟨by decide, by decide, by decide +kernel⟩
abbrev m_X11_height : Mt := (yX11_height, cX11_height, 2, (some .int), 1)
theorem oy_X11_height : okY yX11_height 1 := ⟨by decide, by decide, by decide +kernel⟩
abbrev m_X11_isPlace : Mt := (yX11_isPlace, cX11_isPlace, 2, (some .boolean), 0)
theorem oy_X11_isPlace : okY yX11_isPlace 1 := ⟨by decide, by decide, by decide +kernel⟩
abbrev m_X11_hit : Mt := (yX11_hit, cX11_hit, 7, (some .int), 5)
theorem oy_X11_hit : okY yX11_hit 4 := ⟨by decide, by decide, by decide +kernel⟩
abbrev m_X11_hitAt : Mt := (yX11_hitAt, cX11_hitAt, 8, (some .int), 6)
theorem oy_X11_hitAt : okY yX11_hitAt 5 := ⟨by decide, by decide, by decide +kernel⟩
abbrev m_X11_hits : Mt := (yX11_hits, cX11_hits, 6, (some .int), 6)
theorem oy_X11_hits : okY yX11_hits 5 := ⟨by decide, by decide, by decide +kernel⟩
abbrev m_X11_hitsOf : Mt := (yX11_hitsOf, cX11_hitsOf, 7, (some .int), 4)
theorem oy_X11_hitsOf : okY yX11_hitsOf 2 := ⟨by decide, by decide, by decide +kernel⟩
abbrev m_X11_hold : Mt := (yX11_hold, cX11_hold, 2, (some .boolean), 2)
theorem oy_X11_hold : okY yX11_hold 1 := ⟨by decide, by decide, by decide +kernel⟩
abbrev m_X11_isMade : Mt := (yX11_isMade, cX11_isMade, 2, (some .boolean), 0)
theorem oy_X11_isMade : okY yX11_isMade 2 := ⟨by decide, by decide, by decide +kernel⟩
abbrev m_X11_life : Mt := (yX11_life, cX11_life, 7, (some .int), 1)
theorem oy_X11_life : okY yX11_life 4 := ⟨by decide, by decide, by decide +kernel⟩
abbrev m_X11_line : Mt := (yX11_line, cX11_line, 4, (some .int), 4)
theorem oy_X11_line : okY yX11_line 3 := ⟨by decide, by decide, by decide +kernel⟩
abbrev m_X2_joinedInAll : Mt := (yX2_joinedInAll, cX2_joinedInAll, 3, (some .int), 1)
theorem oy_X2_joinedInAll : okY yX2_joinedInAll 0 := ⟨by decide, by decide, by decide +kernel⟩
abbrev m_X11_lines : Mt := (yX11_lines, cX11_lines, 3, (some .int), 5)
theorem oy_X11_lines : okY yX11_lines 2 := ⟨by decide, by decide, by decide +kernel⟩
abbrev m_X1_eastward : Mt := (yX1_eastward, cX1_eastward, 1, (some .int), 0)
theorem oy_X1_eastward : okY yX1_eastward 1 := ⟨by decide, by decide, by decide +kernel⟩
abbrev m_X1_northward : Mt := (yX1_northward, cX1_northward, 1, (some .int), 0)
theorem oy_X1_northward : okY yX1_northward 1 := ⟨by decide, by decide, by decide +kernel⟩
abbrev m_X3_stir : Mt := (yX3_stir, cX3_stir, 3, (some .int), 0)
theorem oy_X3_stir : okY yX3_stir 2 := ⟨by decide, by decide, by decide +kernel⟩
abbrev m_X3_lot : Mt := (yX3_lot, cX3_lot, 3, (some .int), 1)
theorem oy_X3_lot : okY yX3_lot 3 := ⟨by decide, by decide, by decide +kernel⟩
abbrev m_X3_make : Mt := (yX3_make, cX3_make, 8, none, 2)
theorem oy_X3_make : okY yX3_make 4 := ⟨by decide, by decide, by decide +kernel⟩
abbrev m_X3_strikes : Mt := (yX3_strikes, cX3_strikes, 7, (some .int), 2)
theorem oy_X3_strikes : okY yX3_strikes 2 := ⟨by decide, by decide, by decide +kernel⟩
abbrev m_X11_made : Mt := (yX11_made, cX11_made, 4, (some .int), 5)
theorem oy_X11_made : okY yX11_made 3 := ⟨by decide, by decide, by decide +kernel⟩
abbrev m_X11_madeAt : Mt := (yX11_madeAt, cX11_madeAt, 6, (some .int), 5)
theorem oy_X11_madeAt : okY yX11_madeAt 5 := ⟨by decide, by decide, by decide +kernel⟩
abbrev m_X11_many : Mt := (yX11_many, cX11_many, 4, (some .int), 7)
theorem oy_X11_many : okY yX11_many 3 := ⟨by decide, by decide, by decide +kernel⟩
abbrev m_X11_move : Mt := (yX11_move, cX11_move, 4, (some .int), 2)
theorem oy_X11_move : okY yX11_move 3 := ⟨by decide, by decide, by decide +kernel⟩
abbrev m_X11_next : Mt := (yX11_next, cX11_next, 8, (some .int), 6)
theorem oy_X11_next : okY yX11_next 3 := ⟨by decide, by decide, by decide +kernel⟩
abbrev m_X11_odds : Mt := (yX11_odds, cX11_odds, 8, (some .int), 5)
theorem oy_X11_odds : okY yX11_odds 5 := ⟨by decide, by decide, by decide +kernel⟩
abbrev m_X11_otherwise : Mt := (yX11_otherwise, cX11_otherwise, 6, (some .int), 6)
theorem oy_X11_otherwise : okY yX11_otherwise 4 := ⟨by decide, by decide, by decide +kernel⟩
abbrev m_X11_place : Mt := (yX11_place, cX11_place, 1, (some .int), 0)
theorem oy_X11_place : okY yX11_place 0 := ⟨by decide, by decide, by decide +kernel⟩
abbrev m_X11_pointing : Mt := (yX11_pointing, cX11_pointing, 4, (some .int), 3)
theorem oy_X11_pointing : okY yX11_pointing 3 := ⟨by decide, by decide, by decide +kernel⟩
abbrev m_X11_price : Mt := (yX11_price, cX11_price, 5, (some .int), 6)
theorem oy_X11_price : okY yX11_price 2 := ⟨by decide, by decide, by decide +kernel⟩
abbrev m_X5_kindHere : Mt := (yX5_kindHere, cX5_kindHere, 1, (some .int), 0)
theorem oy_X5_kindHere : okY yX5_kindHere 0 := ⟨by decide, by decide, by decide +kernel⟩
abbrev m_X5_stop : Mt := (yX5_stop, cX5_stop, 2, none, 0)
theorem oy_X5_stop : okY yX5_stop 1 := ⟨by decide, by decide, by decide +kernel⟩
abbrev m_X5_blame : Mt := (yX5_blame, cX5_blame, 3, none, 0)
theorem oy_X5_blame : okY yX5_blame 2 := ⟨by decide, by decide, by decide +kernel⟩
abbrev m_X5_hasRoom : Mt := (yX5_hasRoom, cX5_hasRoom, 3, (some .boolean), 1)
theorem oy_X5_hasRoom : okY yX5_hasRoom 2 := ⟨by decide, by decide, by decide +kernel⟩
abbrev m_X5_take : Mt := (yX5_take, cX5_take, 2, (some .boolean), 0)
theorem oy_X5_take : okY yX5_take 1 := ⟨by decide, by decide, by decide +kernel⟩
abbrev m_X5_thingNamed : Mt := (yX5_thingNamed, cX5_thingNamed, 4, (some .int), 0)
theorem oy_X5_thingNamed : okY yX5_thingNamed 1 := ⟨by decide, by decide, by decide +kernel⟩
abbrev m_X5_tellDoor : Mt := (yX5_tellDoor, cX5_tellDoor, 4, none, 2)
theorem oy_X5_tellDoor : okY yX5_tellDoor 0 := ⟨by decide, by decide, by decide +kernel⟩
abbrev m_X5_blameAbove : Mt := (yX5_blameAbove, cX5_blameAbove, 3, none, 1)
theorem oy_X5_blameAbove : okY yX5_blameAbove 2 := ⟨by decide, by decide, by decide +kernel⟩
abbrev m_X5_tellHill : Mt := (yX5_tellHill, cX5_tellHill, 3, none, 2)
theorem oy_X5_tellHill : okY yX5_tellHill 0 := ⟨by decide, by decide, by decide +kernel⟩
abbrev m_X5_tellNear : Mt := (yX5_tellNear, cX5_tellNear, 2, none, 2)
theorem oy_X5_tellNear : okY yX5_tellNear 0 := ⟨by decide, by decide, by decide +kernel⟩
abbrev m_X5_unit : Mt := (yX5_unit, cX5_unit, 4, none, 1)
theorem oy_X5_unit : okY yX5_unit 1 := ⟨by decide, by decide, by decide +kernel⟩
abbrev m_X5_product : Mt := (yX5_product, cX5_product, 4, none, 2)
theorem oy_X5_product : okY yX5_product 1 := ⟨by decide, by decide, by decide +kernel⟩
abbrev m_X5_sum : Mt := (yX5_sum, cX5_sum, 4, none, 3)
theorem oy_X5_sum : okY yX5_sum 1 := ⟨by decide, by decide, by decide +kernel⟩
abbrev m_X5_literal : Mt := (yX5_literal, cX5_literal, 3, none, 4)
theorem oy_X5_literal : okY yX5_literal 0 := ⟨by decide, by decide, by decide +kernel⟩
abbrev m_X5_tellRule : Mt := (yX5_tellRule, cX5_tellRule, 4, none, 5)
theorem oy_X5_tellRule : okY yX5_tellRule 0 := ⟨by decide, by decide, by decide +kernel⟩
abbrev m_X5_blameIfNamed : Mt := (yX5_blameIfNamed, cX5_blameIfNamed, 4, none, 1)
theorem oy_X5_blameIfNamed : okY yX5_blameIfNamed 1 := ⟨by decide, by decide, by decide +kernel⟩
abbrev m_X5_tellSky : Mt := (yX5_tellSky, cX5_tellSky, 3, none, 4)
theorem oy_X5_tellSky : okY yX5_tellSky 0 := ⟨by decide, by decide, by decide +kernel⟩
abbrev m_X9_isTaken : Mt := (yX9_isTaken, cX9_isTaken, 4, (some .boolean), 0)
theorem oy_X9_isTaken : okY yX9_isTaken 2 := ⟨by decide, by decide, by decide +kernel⟩
abbrev m_X5_tellThing : Mt := (yX5_tellThing, cX5_tellThing, 4, none, 2)
theorem oy_X5_tellThing : okY yX5_tellThing 1 := ⟨by decide, by decide, by decide +kernel⟩
abbrev m_X5_tellAll : Mt := (yX5_tellAll, cX5_tellAll, 4, none, 6)
theorem oy_X5_tellAll : okY yX5_tellAll 1 := ⟨by decide, by decide, by decide +kernel⟩
abbrev m_X7_forget : Mt := (yX7_forget, cX7_forget, 1, none, 0)
theorem oy_X7_forget : okY yX7_forget 0 := ⟨by decide, by decide, by decide +kernel⟩
abbrev m_X8_sign : Mt := (yX8_sign, cX8_sign, 2, (some .int), 0)
theorem oy_X8_sign : okY yX8_sign 1 := ⟨by decide, by decide, by decide +kernel⟩
abbrev m_X8_behindBlanks : Mt := (yX8_behindBlanks, cX8_behindBlanks, 4, (some .int), 1)
theorem oy_X8_behindBlanks : okY yX8_behindBlanks 1 := ⟨by decide, by decide, by decide +kernel⟩
abbrev m_X8_isDigit : Mt := (yX8_isDigit, cX8_isDigit, 1, (some .boolean), 0)
theorem oy_X8_isDigit : okY yX8_isDigit 1 := ⟨by decide, by decide, by decide +kernel⟩
abbrev m_X8_cutNumber : Mt := (yX8_cutNumber, cX8_cutNumber, 4, (some .int), 1)
theorem oy_X8_cutNumber : okY yX8_cutNumber 1 := ⟨by decide, by decide, by decide +kernel⟩
abbrev m_X8_isLetter : Mt := (yX8_isLetter, cX8_isLetter, 1, (some .boolean), 0)
theorem oy_X8_isLetter : okY yX8_isLetter 1 := ⟨by decide, by decide, by decide +kernel⟩
abbrev m_X8_isWord : Mt := (yX8_isWord, cX8_isWord, 7, (some .boolean), 5)
theorem oy_X8_isWord : okY yX8_isWord 3 := ⟨by decide, by decide, by decide +kernel⟩
abbrev m_X8_wordKind : Mt := (yX8_wordKind, cX8_wordKind, 4, (some .int), 6)
theorem oy_X8_wordKind : okY yX8_wordKind 2 := ⟨by decide, by decide, by decide +kernel⟩
abbrev m_X8_cutWord : Mt := (yX8_cutWord, cX8_cutWord, 5, (some .int), 7)
theorem oy_X8_cutWord : okY yX8_cutWord 1 := ⟨by decide, by decide, by decide +kernel⟩
abbrev m_X8_signKind : Mt := (yX8_signKind, cX8_signKind, 2, (some .int), 0)
theorem oy_X8_signKind : okY yX8_signKind 2 := ⟨by decide, by decide, by decide +kernel⟩
abbrev m_X8_cutOne : Mt := (yX8_cutOne, cX8_cutOne, 3, (some .int), 8)
theorem oy_X8_cutOne : okY yX8_cutOne 1 := ⟨by decide, by decide, by decide +kernel⟩
abbrev m_X8_cut : Mt := (yX8_cut, cX8_cut, 3, none, 9)
theorem oy_X8_cut : okY yX8_cut 0 := ⟨by decide, by decide, by decide +kernel⟩
abbrev m_X9_forget : Mt := (yX9_forget, cX9_forget, 1, none, 1)
theorem oy_X9_forget : okY yX9_forget 0 := ⟨by decide, by decide, by decide +kernel⟩
abbrev m_X11_read : Mt := (yX11_read, cX11_read, 2, (some .int), 10)
theorem oy_X11_read : okY yX11_read 0 := ⟨by decide, by decide, by decide +kernel⟩
abbrev m_X11_rise : Mt := (yX11_rise, cX11_rise, 3, (some .int), 4)
theorem oy_X11_rise : okY yX11_rise 2 := ⟨by decide, by decide, by decide +kernel⟩
abbrev m_X11_say : Mt := (yX11_say, cX11_say, 6, (some .int), 7)
theorem oy_X11_say : okY yX11_say 3 := ⟨by decide, by decide, by decide +kernel⟩
abbrev m_X11_seen : Mt := (yX11_seen, cX11_seen, 5, (some .long), 2)
theorem oy_X11_seen : okY yX11_seen 4 := ⟨by decide, by decide, by decide +kernel⟩
abbrev m_X11_site : Mt := (yX11_site, cX11_site, 3, (some .int), 1)
theorem oy_X11_site : okY yX11_site 2 := ⟨by decide, by decide, by decide +kernel⟩
abbrev m_X11_story : Mt := (yX11_story, cX11_story, 6, (some .int), 7)
theorem oy_X11_story : okY yX11_story 5 := ⟨by decide, by decide, by decide +kernel⟩
abbrev m_X11_striking : Mt := (yX11_striking, cX11_striking, 4, (some .int), 6)
theorem oy_X11_striking : okY yX11_striking 3 := ⟨by decide, by decide, by decide +kernel⟩
abbrev m_X11_thing : Mt := (yX11_thing, cX11_thing, 4, (some .int), 2)
theorem oy_X11_thing : okY yX11_thing 3 := ⟨by decide, by decide, by decide +kernel⟩
abbrev m_X11_vector : Mt := (yX11_vector, cX11_vector, 3, (some .int), 1)
theorem oy_X11_vector : okY yX11_vector 2 := ⟨by decide, by decide, by decide +kernel⟩
abbrev m_X12_copy : Mt := (yX12_copy, cX12_copy, 4, none, 0)
theorem oy_X12_copy : okY yX12_copy 2 := ⟨by decide, by decide, by decide +kernel⟩
abbrev m_X12_again : Mt := (yX12_again, cX12_again, 2, (some .boolean), 1)
theorem oy_X12_again : okY yX12_again 1 := ⟨by decide, by decide, by decide +kernel⟩
abbrev m_X12_plain : Mt := (yX12_plain, cX12_plain, 1, (some .int), 0)
theorem oy_X12_plain : okY yX12_plain 1 := ⟨by decide, by decide, by decide +kernel⟩
abbrev m_X12_apart : Mt := (yX12_apart, cX12_apart, 3, (some .int), 1)
theorem oy_X12_apart : okY yX12_apart 2 := ⟨by decide, by decide, by decide +kernel⟩
abbrev m_X12_hitBy : Mt := (yX12_hitBy, cX12_hitBy, 6, (some .int), 2)
theorem oy_X12_hitBy : okY yX12_hitBy 3 := ⟨by decide, by decide, by decide +kernel⟩
abbrev m_X12_turned : Mt := (yX12_turned, cX12_turned, 2, (some .int), 0)
theorem oy_X12_turned : okY yX12_turned 2 := ⟨by decide, by decide, by decide +kernel⟩
abbrev m_X12_hitsOf : Mt := (yX12_hitsOf, cX12_hitsOf, 6, (some .int), 3)
theorem oy_X12_hitsOf : okY yX12_hitsOf 3 := ⟨by decide, by decide, by decide +kernel⟩
abbrev m_X12_isKnown : Mt := (yX12_isKnown, cX12_isKnown, 2, (some .boolean), 0)
theorem oy_X12_isKnown : okY yX12_isKnown 1 := ⟨by decide, by decide, by decide +kernel⟩
abbrev m_X12_isYear : Mt := (yX12_isYear, cX12_isYear, 1, (some .boolean), 0)
theorem oy_X12_isYear : okY yX12_isYear 1 := ⟨by decide, by decide, by decide +kernel⟩
abbrev m_X12_isSet : Mt := (yX12_isSet, cX12_isSet, 4, (some .boolean), 1)
theorem oy_X12_isSet : okY yX12_isSet 3 := ⟨by decide, by decide, by decide +kernel⟩
abbrev m_X12_degreeOf : Mt := (yX12_degreeOf, cX12_degreeOf, 6, (some .int), 1)
theorem oy_X12_degreeOf : okY yX12_degreeOf 2 := ⟨by decide, by decide, by decide +kernel⟩
abbrev m_X12_sum : Mt := (yX12_sum, cX12_sum, 8, (some .int), 0)
theorem oy_X12_sum : okY yX12_sum 2 := ⟨by decide, by decide, by decide +kernel⟩
abbrev m_X12_isLit : Mt := (yX12_isLit, cX12_isLit, 5, (some .boolean), 1)
theorem oy_X12_isLit : okY yX12_isLit 1 := ⟨by decide, by decide, by decide +kernel⟩
abbrev m_X12_isHeld : Mt := (yX12_isHeld, cX12_isHeld, 6, (some .boolean), 2)
theorem oy_X12_isHeld : okY yX12_isHeld 2 := ⟨by decide, by decide, by decide +kernel⟩
abbrev m_X12_isLive : Mt := (yX12_isLive, cX12_isLive, 4, (some .boolean), 0)
theorem oy_X12_isLive : okY yX12_isLive 2 := ⟨by decide, by decide, by decide +kernel⟩
abbrev m_X12_lastOf : Mt := (yX12_lastOf, cX12_lastOf, 5, (some .int), 1)
theorem oy_X12_lastOf : okY yX12_lastOf 3 := ⟨by decide, by decide, by decide +kernel⟩
abbrev m_X12_layThings : Mt := (yX12_layThings, cX12_layThings, 5, none, 2)
theorem oy_X12_layThings : okY yX12_layThings 1 := ⟨by decide, by decide, by decide +kernel⟩
abbrev m_X12_isDoor : Mt := (yX12_isDoor, cX12_isDoor, 4, (some .boolean), 0)
theorem oy_X12_isDoor : okY yX12_isDoor 2 := ⟨by decide, by decide, by decide +kernel⟩
abbrev m_X12_lineOf : Mt := (yX12_lineOf, cX12_lineOf, 5, (some .int), 1)
theorem oy_X12_lineOf : okY yX12_lineOf 2 := ⟨by decide, by decide, by decide +kernel⟩
abbrev m_X12_look : Mt := (yX12_look, cX12_look, 3, none, 2)
theorem oy_X12_look : okY yX12_look 1 := ⟨by decide, by decide, by decide +kernel⟩
abbrev m_X12_lay : Mt := (yX12_lay, cX12_lay, 8, none, 3)
theorem oy_X12_lay : okY yX12_lay 1 := ⟨by decide, by decide, by decide +kernel⟩
abbrev m_X12_heightOf : Mt := (yX12_heightOf, cX12_heightOf, 4, (some .int), 0)
theorem oy_X12_heightOf : okY yX12_heightOf 1 := ⟨by decide, by decide, by decide +kernel⟩
abbrev m_X12_skyAt : Mt := (yX12_skyAt, cX12_skyAt, 5, (some .int), 1)
theorem oy_X12_skyAt : okY yX12_skyAt 3 := ⟨by decide, by decide, by decide +kernel⟩
abbrev m_X12_riseOf : Mt := (yX12_riseOf, cX12_riseOf, 4, (some .int), 2)
theorem oy_X12_riseOf : okY yX12_riseOf 2 := ⟨by decide, by decide, by decide +kernel⟩
abbrev m_X12_laySky : Mt := (yX12_laySky, cX12_laySky, 3, none, 3)
theorem oy_X12_laySky : okY yX12_laySky 1 := ⟨by decide, by decide, by decide +kernel⟩
abbrev m_X12_layAll : Mt := (yX12_layAll, cX12_layAll, 3, none, 4)
theorem oy_X12_layAll : okY yX12_layAll 2 := ⟨by decide, by decide, by decide +kernel⟩
abbrev m_X12_allHits : Mt := (yX12_allHits, cX12_allHits, 6, (some .int), 5)
theorem oy_X12_allHits : okY yX12_allHits 3 := ⟨by decide, by decide, by decide +kernel⟩
abbrev m_X12_alone : Mt := (yX12_alone, cX12_alone, 11, (some .int), 5)
theorem oy_X12_alone : okY yX12_alone 3 := ⟨by decide, by decide, by decide +kernel⟩
abbrev m_X12_fact : Mt := (yX12_fact, cX12_fact, 6, (some .int), 0)
theorem oy_X12_fact : okY yX12_fact 4 := ⟨by decide, by decide, by decide +kernel⟩
abbrev m_X12_isIn : Mt := (yX12_isIn, cX12_isIn, 3, (some .boolean), 0)
theorem oy_X12_isIn : okY yX12_isIn 3 := ⟨by decide, by decide, by decide +kernel⟩
abbrev m_X12_annul : Mt := (yX12_annul, cX12_annul, 2, (some .int), 1)
theorem oy_X12_annul : okY yX12_annul 1 := ⟨by decide, by decide, by decide +kernel⟩
abbrev m_X12_isCounting : Mt := (yX12_isCounting, cX12_isCounting, 5, (some .boolean), 1)
theorem oy_X12_isCounting : okY yX12_isCounting 5 := ⟨by decide, by decide, by decide +kernel⟩
abbrev m_X12_anything : Mt := (yX12_anything, cX12_anything, 11, (some .int), 2)
theorem oy_X12_anything : okY yX12_anything 5 := ⟨by decide, by decide, by decide +kernel⟩
abbrev m_X12_asMany : Mt := (yX12_asMany, cX12_asMany, 5, (some .int), 4)
theorem oy_X12_asMany : okY yX12_asMany 1 := ⟨by decide, by decide, by decide +kernel⟩
abbrev m_X12_await : Mt := (yX12_await, cX12_await, 2, none, 0)
theorem oy_X12_await : okY yX12_await 1 := ⟨by decide, by decide, by decide +kernel⟩
abbrev m_X12_back : Mt := (yX12_back, cX12_back, 2, (some .int), 0)
theorem oy_X12_back : okY yX12_back 1 := ⟨by decide, by decide, by decide +kernel⟩
abbrev m_X12_begin : Mt := (yX12_begin, cX12_begin, 2, none, 0)
theorem oy_X12_begin : okY yX12_begin 1 := ⟨by decide, by decide, by decide +kernel⟩
abbrev m_X12_byteAt : Mt := (yX12_byteAt, cX12_byteAt, 2, (some .int), 0)
theorem oy_X12_byteAt : okY yX12_byteAt 1 := ⟨by decide, by decide, by decide +kernel⟩
abbrev m_X12_pointed : Mt := (yX12_pointed, cX12_pointed, 6, (some .int), 2)
theorem oy_X12_pointed : okY yX12_pointed 3 := ⟨by decide, by decide, by decide +kernel⟩
abbrev m_X12_chosen : Mt := (yX12_chosen, cX12_chosen, 5, (some .long), 0)
theorem oy_X12_chosen : okY yX12_chosen 2 := ⟨by decide, by decide, by decide +kernel⟩
abbrev m_X12_power : Mt := (yX12_power, cX12_power, 5, (some .long), 0)
theorem oy_X12_power : okY yX12_power 2 := ⟨by decide, by decide, by decide +kernel⟩
abbrev m_X12_rows : Mt := (yX12_rows, cX12_rows, 7, (some .long), 1)
theorem oy_X12_rows : okY yX12_rows 4 := ⟨by decide, by decide, by decide +kernel⟩
abbrev m_X12_chance : Mt := (yX12_chance, cX12_chance, 3, (some .long), 3)
theorem oy_X12_chance : okY yX12_chance 2 := ⟨by decide, by decide, by decide +kernel⟩
abbrev m_X12_clear : Mt := (yX12_clear, cX12_clear, 2, (some .int), 0)
theorem oy_X12_clear : okY yX12_clear 0 := ⟨by decide, by decide, by decide +kernel⟩
abbrev m_X12_emit : Mt := (yX12_emit, cX12_emit, 3, none, 0)
theorem oy_X12_emit : okY yX12_emit 2 := ⟨by decide, by decide, by decide +kernel⟩
abbrev m_X12_isSign : Mt := (yX12_isSign, cX12_isSign, 2, (some .boolean), 0)
theorem oy_X12_isSign : okY yX12_isSign 1 := ⟨by decide, by decide, by decide +kernel⟩
abbrev m_X12_wrong : Mt := (yX12_wrong, cX12_wrong, 2, (some .boolean), 0)
theorem oy_X12_wrong : okY yX12_wrong 1 := ⟨by decide, by decide, by decide +kernel⟩
abbrev m_X12_pass : Mt := (yX12_pass, cX12_pass, 1, (some .boolean), 1)
theorem oy_X12_pass : okY yX12_pass 0 := ⟨by decide, by decide, by decide +kernel⟩
abbrev m_X12_rank : Mt := (yX12_rank, cX12_rank, 1, (some .int), 0)
theorem oy_X12_rank : okY yX12_rank 1 := ⟨by decide, by decide, by decide +kernel⟩
abbrev m_X12_reduce : Mt := (yX12_reduce, cX12_reduce, 3, none, 1)
theorem oy_X12_reduce : okY yX12_reduce 2 := ⟨by decide, by decide, by decide +kernel⟩
abbrev m_X12_variableOf : Mt := (yX12_variableOf, cX12_variableOf, 1, (some .int), 0)
theorem oy_X12_variableOf : okY yX12_variableOf 1 := ⟨by decide, by decide, by decide +kernel⟩
abbrev m_X12_expr : Mt := (yX12_expr, cX12_expr, 5, (some .boolean), 2)
theorem oy_X12_expr : okY yX12_expr 0 := ⟨by decide, by decide, by decide +kernel⟩
abbrev m_X12_isWord : Mt := (yX12_isWord, cX12_isWord, 2, (some .boolean), 0)
theorem oy_X12_isWord : okY yX12_isWord 1 := ⟨by decide, by decide, by decide +kernel⟩
abbrev m_X12_cond : Mt := (yX12_cond, cX12_cond, 6, (some .boolean), 3)
theorem oy_X12_cond : okY yX12_cond 0 := ⟨by decide, by decide, by decide +kernel⟩
abbrev m_X12_count : Mt := (yX12_count, cX12_count, 2, (some .int), 0)
theorem oy_X12_count : okY yX12_count 1 := ⟨by decide, by decide, by decide +kernel⟩
abbrev m_X12_counts : Mt := (yX12_counts, cX12_counts, 6, (some .int), 2)
theorem oy_X12_counts : okY yX12_counts 5 := ⟨by decide, by decide, by decide +kernel⟩
abbrev m_X12_isThing : Mt := (yX12_isThing, cX12_isThing, 2, (some .boolean), 0)
theorem oy_X12_isThing : okY yX12_isThing 1 := ⟨by decide, by decide, by decide +kernel⟩
abbrev m_X12_date : Mt := (yX12_date, cX12_date, 3, (some .int), 1)
theorem oy_X12_date : okY yX12_date 2 := ⟨by decide, by decide, by decide +kernel⟩
abbrev m_X12_degree : Mt := (yX12_degree, cX12_degree, 3, (some .int), 2)
theorem oy_X12_degree : okY yX12_degree 2 := ⟨by decide, by decide, by decide +kernel⟩
abbrev m_X12_typed : Mt := (yX12_typed, cX12_typed, 3, none, 0)
theorem oy_X12_typed : okY yX12_typed 1 := ⟨by decide, by decide, by decide +kernel⟩
abbrev m_X12_feed : Mt := (yX12_feed, cX12_feed, 6, (some .int), 1)
theorem oy_X12_feed : okY yX12_feed 5 := ⟨by decide, by decide, by decide +kernel⟩
abbrev m_X12_found : Mt := (yX12_found, cX12_found, 5, (some .int), 1)
theorem oy_X12_found : okY yX12_found 3 := ⟨by decide, by decide, by decide +kernel⟩
abbrev m_X12_isSpan : Mt := (yX12_isSpan, cX12_isSpan, 6, (some .boolean), 2)
theorem oy_X12_isSpan : okY yX12_isSpan 5 := ⟨by decide, by decide, by decide +kernel⟩
abbrev m_X12_free : Mt := (yX12_free, cX12_free, 10, (some .int), 4)
theorem oy_X12_free : okY yX12_free 5 := ⟨by decide, by decide, by decide +kernel⟩
abbrev m_X12_freer : Mt := (yX12_freer, cX12_freer, 10, (some .int), 5)
theorem oy_X12_freer : okY yX12_freer 6 := ⟨by decide, by decide, by decide +kernel⟩
abbrev m_X12_gone : Mt := (yX12_gone, cX12_gone, 2, (some .int), 1)
theorem oy_X12_gone : okY yX12_gone 1 := ⟨by decide, by decide, by decide +kernel⟩
abbrev m_X12_height : Mt := (yX12_height, cX12_height, 2, (some .int), 1)
theorem oy_X12_height : okY yX12_height 1 := ⟨by decide, by decide, by decide +kernel⟩
abbrev m_X12_hit : Mt := (yX12_hit, cX12_hit, 5, (some .int), 4)
theorem oy_X12_hit : okY yX12_hit 4 := ⟨by decide, by decide, by decide +kernel⟩
abbrev m_X12_hitAt : Mt := (yX12_hitAt, cX12_hitAt, 8, (some .int), 5)
theorem oy_X12_hitAt : okY yX12_hitAt 5 := ⟨by decide, by decide, by decide +kernel⟩
abbrev m_X12_hits : Mt := (yX12_hits, cX12_hits, 6, (some .int), 5)
theorem oy_X12_hits : okY yX12_hits 5 := ⟨by decide, by decide, by decide +kernel⟩
abbrev m_X12_hold : Mt := (yX12_hold, cX12_hold, 2, (some .boolean), 1)
theorem oy_X12_hold : okY yX12_hold 1 := ⟨by decide, by decide, by decide +kernel⟩
abbrev m_X12_isDigit : Mt := (yX12_isDigit, cX12_isDigit, 2, (some .boolean), 1)
theorem oy_X12_isDigit : okY yX12_isDigit 1 := ⟨by decide, by decide, by decide +kernel⟩
abbrev m_X12_isLetter : Mt := (yX12_isLetter, cX12_isLetter, 2, (some .boolean), 1)
theorem oy_X12_isLetter : okY yX12_isLetter 1 := ⟨by decide, by decide, by decide +kernel⟩
abbrev m_X12_isMake : Mt := (yX12_isMake, cX12_isMake, 2, (some .boolean), 1)
theorem oy_X12_isMake : okY yX12_isMake 2 := ⟨by decide, by decide, by decide +kernel⟩
abbrev m_X12_life : Mt := (yX12_life, cX12_life, 7, (some .int), 1)
theorem oy_X12_life : okY yX12_life 4 := ⟨by decide, by decide, by decide +kernel⟩
abbrev m_X12_line : Mt := (yX12_line, cX12_line, 4, (some .int), 4)
theorem oy_X12_line : okY yX12_line 3 := ⟨by decide, by decide, by decide +kernel⟩
abbrev m_X12_lines : Mt := (yX12_lines, cX12_lines, 5, (some .int), 4)
theorem oy_X12_lines : okY yX12_lines 2 := ⟨by decide, by decide, by decide +kernel⟩
abbrev m_X12_mixed : Mt := (yX12_mixed, cX12_mixed, 3, (some .int), 0)
theorem oy_X12_mixed : okY yX12_mixed 2 := ⟨by decide, by decide, by decide +kernel⟩
abbrev m_X12_lot : Mt := (yX12_lot, cX12_lot, 3, (some .int), 1)
theorem oy_X12_lot : okY yX12_lot 3 := ⟨by decide, by decide, by decide +kernel⟩
abbrev m_X12_vectorOf : Mt := (yX12_vectorOf, cX12_vectorOf, 2, (some .int), 0)
theorem oy_X12_vectorOf : okY yX12_vectorOf 2 := ⟨by decide, by decide, by decide +kernel⟩
abbrev m_X12_make : Mt := (yX12_make, cX12_make, 7, none, 4)
theorem oy_X12_make : okY yX12_make 3 := ⟨by decide, by decide, by decide +kernel⟩
abbrev m_X12_madeHits : Mt := (yX12_madeHits, cX12_madeHits, 9, (some .int), 5)
theorem oy_X12_madeHits : okY yX12_madeHits 3 := ⟨by decide, by decide, by decide +kernel⟩
abbrev m_X12_made : Mt := (yX12_made, cX12_made, 4, (some .int), 6)
theorem oy_X12_made : okY yX12_made 3 := ⟨by decide, by decide, by decide +kernel⟩
abbrev m_X12_madeAt : Mt := (yX12_madeAt, cX12_madeAt, 6, (some .int), 5)
theorem oy_X12_madeAt : okY yX12_madeAt 5 := ⟨by decide, by decide, by decide +kernel⟩
abbrev m_X12_many : Mt := (yX12_many, cX12_many, 4, (some .int), 5)
theorem oy_X12_many : okY yX12_many 3 := ⟨by decide, by decide, by decide +kernel⟩
abbrev m_X12_move : Mt := (yX12_move, cX12_move, 4, (some .int), 1)
theorem oy_X12_move : okY yX12_move 3 := ⟨by decide, by decide, by decide +kernel⟩
abbrev m_X12_takes : Mt := (yX12_takes, cX12_takes, 2, (some .boolean), 2)
theorem oy_X12_takes : okY yX12_takes 1 := ⟨by decide, by decide, by decide +kernel⟩
abbrev m_X12_tells : Mt := (yX12_tells, cX12_tells, 4, none, 0)
theorem oy_X12_tells : okY yX12_tells 2 := ⟨by decide, by decide, by decide +kernel⟩
abbrev m_X12_names : Mt := (yX12_names, cX12_names, 4, (some .boolean), 3)
theorem oy_X12_names : okY yX12_names 1 := ⟨by decide, by decide, by decide +kernel⟩
abbrev m_X12_next : Mt := (yX12_next, cX12_next, 9, (some .int), 5)
theorem oy_X12_next : okY yX12_next 3 := ⟨by decide, by decide, by decide +kernel⟩
abbrev m_X12_odds : Mt := (yX12_odds, cX12_odds, 8, (some .int), 6)
theorem oy_X12_odds : okY yX12_odds 5 := ⟨by decide, by decide, by decide +kernel⟩
abbrev m_X12_otherwise : Mt := (yX12_otherwise, cX12_otherwise, 7, (some .int), 5)
theorem oy_X12_otherwise : okY yX12_otherwise 4 := ⟨by decide, by decide, by decide +kernel⟩
abbrev m_X12_takesInt : Mt := (yX12_takesInt, cX12_takesInt, 4, (some .boolean), 3)
theorem oy_X12_takesInt : okY yX12_takesInt 2 := ⟨by decide, by decide, by decide +kernel⟩
abbrev m_X12_thingAt : Mt := (yX12_thingAt, cX12_thingAt, 3, (some .int), 1)
theorem oy_X12_thingAt : okY yX12_thingAt 1 := ⟨by decide, by decide, by decide +kernel⟩
abbrev m_X12_tellDoor : Mt := (yX12_tellDoor, cX12_tellDoor, 3, (some .boolean), 3)
theorem oy_X12_tellDoor : okY yX12_tellDoor 0 := ⟨by decide, by decide, by decide +kernel⟩
abbrev m_X12_tellHill : Mt := (yX12_tellHill, cX12_tellHill, 2, (some .boolean), 4)
theorem oy_X12_tellHill : okY yX12_tellHill 0 := ⟨by decide, by decide, by decide +kernel⟩
abbrev m_X12_tellRule : Mt := (yX12_tellRule, cX12_tellRule, 1, (some .boolean), 4)
theorem oy_X12_tellRule : okY yX12_tellRule 0 := ⟨by decide, by decide, by decide +kernel⟩
abbrev m_X12_tellSky : Mt := (yX12_tellSky, cX12_tellSky, 2, (some .boolean), 4)
theorem oy_X12_tellSky : okY yX12_tellSky 0 := ⟨by decide, by decide, by decide +kernel⟩
abbrev m_X12_tellThing : Mt := (yX12_tellThing, cX12_tellThing, 5, (some .boolean), 4)
theorem oy_X12_tellThing : okY yX12_tellThing 1 := ⟨by decide, by decide, by decide +kernel⟩
abbrev m_X12_tell : Mt := (yX12_tell, cX12_tell, 2, (some .boolean), 5)
theorem oy_X12_tell : okY yX12_tell 0 := ⟨by decide, by decide, by decide +kernel⟩
abbrev m_X12_parses : Mt := (yX12_parses, cX12_parses, 1, (some .boolean), 6)
theorem oy_X12_parses : okY yX12_parses 0 := ⟨by decide, by decide, by decide +kernel⟩
abbrev m_X12_place : Mt := (yX12_place, cX12_place, 1, (some .int), 0)
theorem oy_X12_place : okY yX12_place 0 := ⟨by decide, by decide, by decide +kernel⟩
abbrev m_X12_pointing : Mt := (yX12_pointing, cX12_pointing, 4, (some .int), 3)
theorem oy_X12_pointing : okY yX12_pointing 3 := ⟨by decide, by decide, by decide +kernel⟩
abbrev m_X12_strikeBy : Mt := (yX12_strikeBy, cX12_strikeBy, 5, none, 0)
theorem oy_X12_strikeBy : okY yX12_strikeBy 1 := ⟨by decide, by decide, by decide +kernel⟩
abbrev m_X12_strike : Mt := (yX12_strike, cX12_strike, 4, none, 3)
theorem oy_X12_strike : okY yX12_strike 0 := ⟨by decide, by decide, by decide +kernel⟩
abbrev m_X12_price : Mt := (yX12_price, cX12_price, 5, (some .int), 5)
theorem oy_X12_price : okY yX12_price 2 := ⟨by decide, by decide, by decide +kernel⟩
abbrev m_X12_signAt : Mt := (yX12_signAt, cX12_signAt, 4, (some .int), 1)
theorem oy_X12_signAt : okY yX12_signAt 1 := ⟨by decide, by decide, by decide +kernel⟩
abbrev m_X12_token : Mt := (yX12_token, cX12_token, 4, none, 0)
theorem oy_X12_token : okY yX12_token 3 := ⟨by decide, by decide, by decide +kernel⟩
abbrev m_X12_wordOf : Mt := (yX12_wordOf, cX12_wordOf, 2, (some .int), 0)
theorem oy_X12_wordOf : okY yX12_wordOf 1 := ⟨by decide, by decide, by decide +kernel⟩
abbrev m_X12_scan : Mt := (yX12_scan, cX12_scan, 6, (some .int), 2)
theorem oy_X12_scan : okY yX12_scan 1 := ⟨by decide, by decide, by decide +kernel⟩
abbrev m_X12_scanAll : Mt := (yX12_scanAll, cX12_scanAll, 4, none, 3)
theorem oy_X12_scanAll : okY yX12_scanAll 0 := ⟨by decide, by decide, by decide +kernel⟩
abbrev m_X12_read : Mt := (yX12_read, cX12_read, 1, (some .int), 7)
theorem oy_X12_read : okY yX12_read 0 := ⟨by decide, by decide, by decide +kernel⟩
abbrev m_X12_rise : Mt := (yX12_rise, cX12_rise, 3, (some .int), 3)
theorem oy_X12_rise : okY yX12_rise 2 := ⟨by decide, by decide, by decide +kernel⟩
abbrev m_X12_say : Mt := (yX12_say, cX12_say, 4, (some .int), 5)
theorem oy_X12_say : okY yX12_say 3 := ⟨by decide, by decide, by decide +kernel⟩
abbrev m_X12_seen : Mt := (yX12_seen, cX12_seen, 5, (some .long), 2)
theorem oy_X12_seen : okY yX12_seen 4 := ⟨by decide, by decide, by decide +kernel⟩
abbrev m_X12_site : Mt := (yX12_site, cX12_site, 3, (some .int), 1)
theorem oy_X12_site : okY yX12_site 2 := ⟨by decide, by decide, by decide +kernel⟩
abbrev m_X12_story : Mt := (yX12_story, cX12_story, 8, (some .int), 5)
theorem oy_X12_story : okY yX12_story 5 := ⟨by decide, by decide, by decide +kernel⟩
abbrev m_X12_striking : Mt := (yX12_striking, cX12_striking, 4, (some .int), 5)
theorem oy_X12_striking : okY yX12_striking 3 := ⟨by decide, by decide, by decide +kernel⟩
abbrev m_X12_thing : Mt := (yX12_thing, cX12_thing, 4, (some .int), 3)
theorem oy_X12_thing : okY yX12_thing 3 := ⟨by decide, by decide, by decide +kernel⟩
abbrev m_X12_vector : Mt := (yX12_vector, cX12_vector, 3, (some .int), 1)
theorem oy_X12_vector : okY yX12_vector 2 := ⟨by decide, by decide, by decide +kernel⟩
theorem dJ9_floorMod_7cf53_0 : decode cJ9_floorMod_7cf53 0 = .ok (.iload_n 0, 1) := by decide +kernel
theorem dJ9_floorMod_7cf53_1 : decode cJ9_floorMod_7cf53 1 = .ok (.iload_n 1, 1) := by decide +kernel
theorem dJ9_floorMod_7cf53_2 : decode cJ9_floorMod_7cf53 2 = .ok (.irem, 1) := by decide +kernel
theorem dJ9_floorMod_7cf53_3 : decode cJ9_floorMod_7cf53 3 = .ok (.istore_n 2, 1) := by decide +kernel
theorem dJ9_floorMod_7cf53_4 : decode cJ9_floorMod_7cf53 4 = .ok (.iload_n 0, 1) := by decide +kernel
theorem dJ9_floorMod_7cf53_5 : decode cJ9_floorMod_7cf53 5 = .ok (.iload_n 1, 1) := by decide +kernel
theorem dJ9_floorMod_7cf53_6 : decode cJ9_floorMod_7cf53 6 = .ok (.ixor, 1) := by decide +kernel
theorem dJ9_floorMod_7cf53_7 : decode cJ9_floorMod_7cf53 7 = .ok (.ifCond .ge 11, 3) := by decide +kernel
theorem dJ9_floorMod_7cf53_10 : decode cJ9_floorMod_7cf53 10 = .ok (.iload_n 2, 1) := by decide +kernel
theorem dJ9_floorMod_7cf53_11 : decode cJ9_floorMod_7cf53 11 = .ok (.ifCond .eq 7, 3) := by decide +kernel
theorem dJ9_floorMod_7cf53_14 : decode cJ9_floorMod_7cf53 14 = .ok (.iload_n 2, 1) := by decide +kernel
theorem dJ9_floorMod_7cf53_15 : decode cJ9_floorMod_7cf53 15 = .ok (.iload_n 1, 1) := by decide +kernel
theorem dJ9_floorMod_7cf53_16 : decode cJ9_floorMod_7cf53 16 = .ok (.iadd, 1) := by decide +kernel
theorem dJ9_floorMod_7cf53_17 : decode cJ9_floorMod_7cf53 17 = .ok (.ireturn, 1) := by decide +kernel
theorem dJ9_floorMod_7cf53_18 : decode cJ9_floorMod_7cf53 18 = .ok (.iload_n 2, 1) := by decide +kernel
theorem dJ9_floorMod_7cf53_19 : decode cJ9_floorMod_7cf53 19 = .ok (.ireturn, 1) := by decide +kernel
theorem dJ9_abs_0f7a4_0 : decode cJ9_abs_0f7a4 0 = .ok (.iload_n 0, 1) := by decide +kernel
theorem dJ9_abs_0f7a4_1 : decode cJ9_abs_0f7a4 1 = .ok (.ifCond .ge 8, 3) := by decide +kernel
theorem dJ9_abs_0f7a4_4 : decode cJ9_abs_0f7a4 4 = .ok (.iload_n 0, 1) := by decide +kernel
theorem dJ9_abs_0f7a4_5 : decode cJ9_abs_0f7a4 5 = .ok (.ineg, 1) := by decide +kernel
theorem dJ9_abs_0f7a4_6 : decode cJ9_abs_0f7a4 6 = .ok (.goto 4, 3) := by decide +kernel
theorem dJ9_abs_0f7a4_9 : decode cJ9_abs_0f7a4 9 = .ok (.iload_n 0, 1) := by decide +kernel
theorem dJ9_abs_0f7a4_10 : decode cJ9_abs_0f7a4 10 = .ok (.ireturn, 1) := by decide +kernel
theorem dJ9_max_7cf53_0 : decode cJ9_max_7cf53 0 = .ok (.iload_n 0, 1) := by decide +kernel
theorem dJ9_max_7cf53_1 : decode cJ9_max_7cf53 1 = .ok (.iload_n 1, 1) := by decide +kernel
theorem dJ9_max_7cf53_2 : decode cJ9_max_7cf53 2 = .ok (.if_icmp .lt 7, 3) := by decide +kernel
theorem dJ9_max_7cf53_5 : decode cJ9_max_7cf53 5 = .ok (.iload_n 0, 1) := by decide +kernel
theorem dJ9_max_7cf53_6 : decode cJ9_max_7cf53 6 = .ok (.goto 4, 3) := by decide +kernel
theorem dJ9_max_7cf53_9 : decode cJ9_max_7cf53 9 = .ok (.iload_n 1, 1) := by decide +kernel
theorem dJ9_max_7cf53_10 : decode cJ9_max_7cf53 10 = .ok (.ireturn, 1) := by decide +kernel
theorem dJ9_min_7cf53_0 : decode cJ9_min_7cf53 0 = .ok (.iload_n 0, 1) := by decide +kernel
theorem dJ9_min_7cf53_1 : decode cJ9_min_7cf53 1 = .ok (.iload_n 1, 1) := by decide +kernel
theorem dJ9_min_7cf53_2 : decode cJ9_min_7cf53 2 = .ok (.if_icmp .gt 7, 3) := by decide +kernel
theorem dJ9_min_7cf53_5 : decode cJ9_min_7cf53 5 = .ok (.iload_n 0, 1) := by decide +kernel
theorem dJ9_min_7cf53_6 : decode cJ9_min_7cf53 6 = .ok (.goto 4, 3) := by decide +kernel
theorem dJ9_min_7cf53_9 : decode cJ9_min_7cf53 9 = .ok (.iload_n 1, 1) := by decide +kernel
theorem dJ9_min_7cf53_10 : decode cJ9_min_7cf53 10 = .ok (.ireturn, 1) := by decide +kernel
theorem qw_1025 : (Jvm.Cond.constantLong "SkyStones" (309 : Nat) (-1 : Int64) : Cond) ∈ wAll := wAll_of (List.mem_append_right _ (List.mem_of_getElem? (i := 1025) (by decide +kernel))) (by decide +kernel)
theorem qw_1049 : (Jvm.Cond.constant "SkyStones$Maker" (44 : Nat) (1103515245 : Int32) : Cond) ∈ wAll := wAll_of (List.mem_append_right _ (List.mem_of_getElem? (i := 1049) (by decide +kernel))) (by decide +kernel)
theorem qw_1410 : (Jvm.Cond.constantLong "SkyStonesModel" (281 : Nat) (27 : Int64) : Cond) ∈ wAll := wAll_of (List.mem_append_right _ (List.mem_of_getElem? (i := 1410) (by decide +kernel))) (by decide +kernel)
theorem qw_1411 : (Jvm.Cond.constantLong "SkyStonesModel" (283 : Nat) (96 : Int64) : Cond) ∈ wAll := wAll_of (List.mem_append_right _ (List.mem_of_getElem? (i := 1411) (by decide +kernel))) (by decide +kernel)
theorem qw_1415 : (Jvm.Cond.constantLong "SkyStonesModel" (235 : Nat) (10502357 : Int64) : Cond) ∈ wAll := wAll_of (List.mem_append_right _ (List.mem_of_getElem? (i := 1415) (by decide +kernel))) (by decide +kernel)
theorem qw_1416 : (Jvm.Cond.constantLong "SkyStonesModel" (237 : Nat) (168728 : Int64) : Cond) ∈ wAll := wAll_of (List.mem_append_right _ (List.mem_of_getElem? (i := 1416) (by decide +kernel))) (by decide +kernel)
theorem qw_1417 : (Jvm.Cond.constantLong "SkyStonesModel" (239 : Nat) (90090 : Int64) : Cond) ∈ wAll := wAll_of (List.mem_append_right _ (List.mem_of_getElem? (i := 1417) (by decide +kernel))) (by decide +kernel)
theorem qw_1418 : (Jvm.Cond.constantLong "SkyStonesModel" (241 : Nat) (164361 : Int64) : Cond) ∈ wAll := wAll_of (List.mem_append_right _ (List.mem_of_getElem? (i := 1418) (by decide +kernel))) (by decide +kernel)
theorem qw_1419 : (Jvm.Cond.constantLong "SkyStonesModel" (243 : Nat) (14173 : Int64) : Cond) ∈ wAll := wAll_of (List.mem_append_right _ (List.mem_of_getElem? (i := 1419) (by decide +kernel))) (by decide +kernel)
theorem qw_1420 : (Jvm.Cond.constantLong "SkyStonesModel" (245 : Nat) (385682 : Int64) : Cond) ∈ wAll := wAll_of (List.mem_append_right _ (List.mem_of_getElem? (i := 1420) (by decide +kernel))) (by decide +kernel)
theorem qw_1421 : (Jvm.Cond.constantLong "SkyStonesModel" (247 : Nat) (279252 : Int64) : Cond) ∈ wAll := wAll_of (List.mem_append_right _ (List.mem_of_getElem? (i := 1421) (by decide +kernel))) (by decide +kernel)
theorem qw_1422 : (Jvm.Cond.constantLong "SkyStonesModel" (249 : Nat) (1905275 : Int64) : Cond) ∈ wAll := wAll_of (List.mem_append_right _ (List.mem_of_getElem? (i := 1422) (by decide +kernel))) (by decide +kernel)
theorem qw_1423 : (Jvm.Cond.constantLong "SkyStonesModel" (251 : Nat) (249 : Int64) : Cond) ∈ wAll := wAll_of (List.mem_append_right _ (List.mem_of_getElem? (i := 1423) (by decide +kernel))) (by decide +kernel)
theorem qw_1424 : (Jvm.Cond.constantLong "SkyStonesModel" (253 : Nat) (10631 : Int64) : Cond) ∈ wAll := wAll_of (List.mem_append_right _ (List.mem_of_getElem? (i := 1424) (by decide +kernel))) (by decide +kernel)
theorem qw_1425 : (Jvm.Cond.constantLong "SkyStonesModel" (255 : Nat) (1111 : Int64) : Cond) ∈ wAll := wAll_of (List.mem_append_right _ (List.mem_of_getElem? (i := 1425) (by decide +kernel))) (by decide +kernel)
theorem qw_1426 : (Jvm.Cond.constantLong "SkyStonesModel" (257 : Nat) (423 : Int64) : Cond) ∈ wAll := wAll_of (List.mem_append_right _ (List.mem_of_getElem? (i := 1426) (by decide +kernel))) (by decide +kernel)
theorem qw_1427 : (Jvm.Cond.constantLong "SkyStonesModel" (259 : Nat) (495765 : Int64) : Cond) ∈ wAll := wAll_of (List.mem_append_right _ (List.mem_of_getElem? (i := 1427) (by decide +kernel))) (by decide +kernel)
theorem qw_1428 : (Jvm.Cond.constantLong "SkyStonesModel" (261 : Nat) (117630947 : Int64) : Cond) ∈ wAll := wAll_of (List.mem_append_right _ (List.mem_of_getElem? (i := 1428) (by decide +kernel))) (by decide +kernel)
theorem qw_1429 : (Jvm.Cond.constantLong "SkyStonesModel" (263 : Nat) (5146 : Int64) : Cond) ∈ wAll := wAll_of (List.mem_append_right _ (List.mem_of_getElem? (i := 1429) (by decide +kernel))) (by decide +kernel)
theorem qw_1430 : (Jvm.Cond.constantLong "SkyStonesModel" (265 : Nat) (4419 : Int64) : Cond) ∈ wAll := wAll_of (List.mem_append_right _ (List.mem_of_getElem? (i := 1430) (by decide +kernel))) (by decide +kernel)
theorem qw_1431 : (Jvm.Cond.constantLong "SkyStonesModel" (267 : Nat) (283563658 : Int64) : Cond) ∈ wAll := wAll_of (List.mem_append_right _ (List.mem_of_getElem? (i := 1431) (by decide +kernel))) (by decide +kernel)
theorem qw_1432 : (Jvm.Cond.constantLong "SkyStonesModel" (269 : Nat) (7008275 : Int64) : Cond) ∈ wAll := wAll_of (List.mem_append_right _ (List.mem_of_getElem? (i := 1432) (by decide +kernel))) (by decide +kernel)
theorem qw_1433 : (Jvm.Cond.constantLong "SkyStonesModel" (271 : Nat) (40187 : Int64) : Cond) ∈ wAll := wAll_of (List.mem_append_right _ (List.mem_of_getElem? (i := 1433) (by decide +kernel))) (by decide +kernel)
theorem qw_1434 : (Jvm.Cond.constantLong "SkyStonesModel" (273 : Nat) (11263 : Int64) : Cond) ∈ wAll := wAll_of (List.mem_append_right _ (List.mem_of_getElem? (i := 1434) (by decide +kernel))) (by decide +kernel)
theorem qw_1435 : (Jvm.Cond.constantLong "SkyStonesModel" (275 : Nat) (60203876 : Int64) : Cond) ∈ wAll := wAll_of (List.mem_append_right _ (List.mem_of_getElem? (i := 1435) (by decide +kernel))) (by decide +kernel)
theorem qw_1804 : (Jvm.Cond.constantLong "SkyStonesModel" (530 : Nat) (-1 : Int64) : Cond) ∈ wAll := wAll_of (List.mem_append_right _ (List.mem_of_getElem? (i := 1804) (by decide +kernel))) (by decide +kernel)
theorem qw_1826 : (Jvm.Cond.constant "SkyStonesModel" (532 : Nat) (1103515245 : Int32) : Cond) ∈ wAll := wAll_of (List.mem_append_right _ (List.mem_of_getElem? (i := 1826) (by decide +kernel))) (by decide +kernel)
theorem qw_447 : (Jvm.Cond.selects "SkyStones$Tape" ({ cls := "SkyStones$Tape", name := "append", desc := "(I)V" } : Jvm.MethodName) ({ cls := "SkyStones$Tape", name := "append", desc := "(I)V" } : Jvm.MethodName) : Cond) ∈ wAll := wAll_of (List.mem_append_right _ (List.mem_of_getElem? (i := 447) (by decide +kernel))) (by decide +kernel)
theorem qw_445 : (Jvm.Cond.methodLink "SkyStones" (103 : Nat) ({ cls := "SkyStones$Tape", name := "append", desc := "(I)V" } : Jvm.MethodName) : Cond) ∈ wAll := wAll_of (List.mem_append_right _ (List.mem_of_getElem? (i := 445) (by decide +kernel))) (by decide +kernel)
theorem qw_446 : (Jvm.Cond.instanceMethod ({ cls := "SkyStones$Tape", name := "append", desc := "(I)V" } : Jvm.MethodName) : Cond) ∈ wAll := wAll_of (List.mem_append_right _ (List.mem_of_getElem? (i := 446) (by decide +kernel))) (by decide +kernel)
theorem qw_2 : (Jvm.Cond.initialized "SkyStones$Tape" : Cond) ∈ wAll := wAll_of (List.mem_append_right _ (List.mem_of_getElem? (i := 2) (by decide +kernel))) (by decide +kernel)
theorem qw_448 : (Jvm.Cond.code ({ cls := "SkyStones$Tape", name := "append", desc := "(I)V" } : Jvm.MethodName) prog_10_method_2_code (3 : Nat) (Option.none : Option Jvm.ClassFile.FieldType) : Cond) ∈ wAll := wAll_of (List.mem_append_right _ (List.mem_of_getElem? (i := 448) (by decide +kernel))) (by decide +kernel)
theorem qs_25 : (Cond.selects yX11_thingsInAll.cls yX11_thingsInAll yX11_thingsInAll) ∈ wAll := wAll_of (List.mem_append_left _ (List.mem_of_getElem? (i := 25) (by decide +kernel))) (by decide +kernel)
theorem qw_664 : (Jvm.Cond.methodLink "SkyStones" (124 : Nat) ({ cls := "SkyStones", name := "thingsInAll", desc := "()I" } : Jvm.MethodName) : Cond) ∈ wAll := wAll_of (List.mem_append_right _ (List.mem_of_getElem? (i := 664) (by decide +kernel))) (by decide +kernel)
theorem qw_666 : (Jvm.Cond.instanceMethod ({ cls := "SkyStones", name := "thingsInAll", desc := "()I" } : Jvm.MethodName) : Cond) ∈ wAll := wAll_of (List.mem_append_right _ (List.mem_of_getElem? (i := 666) (by decide +kernel))) (by decide +kernel)
theorem qw_1 : (Jvm.Cond.initialized "SkyStones" : Cond) ∈ wAll := wAll_of (List.mem_append_right _ (List.mem_of_getElem? (i := 1) (by decide +kernel))) (by decide +kernel)
theorem qw_667 : (Jvm.Cond.code ({ cls := "SkyStones", name := "thingsInAll", desc := "()I" } : Jvm.MethodName) prog_1_method_46_code (1 : Nat) (Option.some Jvm.ClassFile.FieldType.int) : Cond) ∈ wAll := wAll_of (List.mem_append_right _ (List.mem_of_getElem? (i := 667) (by decide +kernel))) (by decide +kernel)
theorem qw_668 : (Jvm.Cond.methodLink "SkyStones" (131 : Nat) ({ cls := "SkyStones", name := "isSpot", desc := "(II)Z" } : Jvm.MethodName) : Cond) ∈ wAll := wAll_of (List.mem_append_right _ (List.mem_of_getElem? (i := 668) (by decide +kernel))) (by decide +kernel)
theorem qw_669 : (Jvm.Cond.static ({ cls := "SkyStones", name := "isSpot", desc := "(II)Z" } : Jvm.MethodName) : Cond) ∈ wAll := wAll_of (List.mem_append_right _ (List.mem_of_getElem? (i := 669) (by decide +kernel))) (by decide +kernel)
theorem qw_670 : (Jvm.Cond.code ({ cls := "SkyStones", name := "isSpot", desc := "(II)Z" } : Jvm.MethodName) prog_1_method_48_code (2 : Nat) (Option.some Jvm.ClassFile.FieldType.boolean) : Cond) ∈ wAll := wAll_of (List.mem_append_right _ (List.mem_of_getElem? (i := 670) (by decide +kernel))) (by decide +kernel)
theorem qw_671 : (Jvm.Cond.methodLink "SkyStones" (135 : Nat) ({ cls := "SkyStones", name := "isAge", desc := "(I)Z" } : Jvm.MethodName) : Cond) ∈ wAll := wAll_of (List.mem_append_right _ (List.mem_of_getElem? (i := 671) (by decide +kernel))) (by decide +kernel)
theorem qw_672 : (Jvm.Cond.static ({ cls := "SkyStones", name := "isAge", desc := "(I)Z" } : Jvm.MethodName) : Cond) ∈ wAll := wAll_of (List.mem_append_right _ (List.mem_of_getElem? (i := 672) (by decide +kernel))) (by decide +kernel)
theorem qw_673 : (Jvm.Cond.code ({ cls := "SkyStones", name := "isAge", desc := "(I)Z" } : Jvm.MethodName) prog_1_method_49_code (1 : Nat) (Option.some Jvm.ClassFile.FieldType.boolean) : Cond) ∈ wAll := wAll_of (List.mem_append_right _ (List.mem_of_getElem? (i := 673) (by decide +kernel))) (by decide +kernel)
theorem qw_676 : (Jvm.Cond.selects "SkyStones$Survey" ({ cls := "SkyStones$Survey", name := "note", desc := "(IIIII)I" } : Jvm.MethodName) ({ cls := "SkyStones$Survey", name := "note", desc := "(IIIII)I" } : Jvm.MethodName) : Cond) ∈ wAll := wAll_of (List.mem_append_right _ (List.mem_of_getElem? (i := 676) (by decide +kernel))) (by decide +kernel)
theorem qw_674 : (Jvm.Cond.methodLink "SkyStones" (139 : Nat) ({ cls := "SkyStones$Survey", name := "note", desc := "(IIIII)I" } : Jvm.MethodName) : Cond) ∈ wAll := wAll_of (List.mem_append_right _ (List.mem_of_getElem? (i := 674) (by decide +kernel))) (by decide +kernel)
theorem qw_675 : (Jvm.Cond.instanceMethod ({ cls := "SkyStones$Survey", name := "note", desc := "(IIIII)I" } : Jvm.MethodName) : Cond) ∈ wAll := wAll_of (List.mem_append_right _ (List.mem_of_getElem? (i := 675) (by decide +kernel))) (by decide +kernel)
theorem qw_6 : (Jvm.Cond.initialized "SkyStones$Survey" : Cond) ∈ wAll := wAll_of (List.mem_append_right _ (List.mem_of_getElem? (i := 6) (by decide +kernel))) (by decide +kernel)
theorem qw_677 : (Jvm.Cond.code ({ cls := "SkyStones$Survey", name := "note", desc := "(IIIII)I" } : Jvm.MethodName) prog_9_method_4_code (6 : Nat) (Option.some Jvm.ClassFile.FieldType.int) : Cond) ∈ wAll := wAll_of (List.mem_append_right _ (List.mem_of_getElem? (i := 677) (by decide +kernel))) (by decide +kernel)
theorem qs_26 : (Cond.selects yX11_isThing.cls yX11_isThing yX11_isThing) ∈ wAll := wAll_of (List.mem_append_left _ (List.mem_of_getElem? (i := 26) (by decide +kernel))) (by decide +kernel)
theorem qw_682 : (Jvm.Cond.methodLink "SkyStones" (146 : Nat) ({ cls := "SkyStones", name := "isThing", desc := "(I)Z" } : Jvm.MethodName) : Cond) ∈ wAll := wAll_of (List.mem_append_right _ (List.mem_of_getElem? (i := 682) (by decide +kernel))) (by decide +kernel)
theorem qw_684 : (Jvm.Cond.instanceMethod ({ cls := "SkyStones", name := "isThing", desc := "(I)Z" } : Jvm.MethodName) : Cond) ∈ wAll := wAll_of (List.mem_append_right _ (List.mem_of_getElem? (i := 684) (by decide +kernel))) (by decide +kernel)
theorem qw_685 : (Jvm.Cond.code ({ cls := "SkyStones", name := "isThing", desc := "(I)Z" } : Jvm.MethodName) prog_1_method_47_code (2 : Nat) (Option.some Jvm.ClassFile.FieldType.boolean) : Cond) ∈ wAll := wAll_of (List.mem_append_right _ (List.mem_of_getElem? (i := 685) (by decide +kernel))) (by decide +kernel)
theorem qs_27 : (Cond.selects yX11_isKnown.cls yX11_isKnown yX11_isKnown) ∈ wAll := wAll_of (List.mem_append_left _ (List.mem_of_getElem? (i := 27) (by decide +kernel))) (by decide +kernel)
theorem qw_702 : (Jvm.Cond.methodLink "SkyStones" (152 : Nat) ({ cls := "SkyStones", name := "isKnown", desc := "(I)Z" } : Jvm.MethodName) : Cond) ∈ wAll := wAll_of (List.mem_append_right _ (List.mem_of_getElem? (i := 702) (by decide +kernel))) (by decide +kernel)
theorem qw_704 : (Jvm.Cond.instanceMethod ({ cls := "SkyStones", name := "isKnown", desc := "(I)Z" } : Jvm.MethodName) : Cond) ∈ wAll := wAll_of (List.mem_append_right _ (List.mem_of_getElem? (i := 704) (by decide +kernel))) (by decide +kernel)
theorem qw_705 : (Jvm.Cond.code ({ cls := "SkyStones", name := "isKnown", desc := "(I)Z" } : Jvm.MethodName) prog_1_method_54_code (2 : Nat) (Option.some Jvm.ClassFile.FieldType.boolean) : Cond) ∈ wAll := wAll_of (List.mem_append_right _ (List.mem_of_getElem? (i := 705) (by decide +kernel))) (by decide +kernel)
theorem qw_721 : (Jvm.Cond.methodLink "SkyStones" (174 : Nat) ({ cls := "SkyStones$Compass", name := "bearing", desc := "(II)I" } : Jvm.MethodName) : Cond) ∈ wAll := wAll_of (List.mem_append_right _ (List.mem_of_getElem? (i := 721) (by decide +kernel))) (by decide +kernel)
theorem qw_722 : (Jvm.Cond.static ({ cls := "SkyStones$Compass", name := "bearing", desc := "(II)I" } : Jvm.MethodName) : Cond) ∈ wAll := wAll_of (List.mem_append_right _ (List.mem_of_getElem? (i := 722) (by decide +kernel))) (by decide +kernel)
theorem qw_19 : (Jvm.Cond.initialized "SkyStones$Compass" : Cond) ∈ wAll := wAll_of (List.mem_append_right _ (List.mem_of_getElem? (i := 19) (by decide +kernel))) (by decide +kernel)
theorem qw_723 : (Jvm.Cond.code ({ cls := "SkyStones$Compass", name := "bearing", desc := "(II)I" } : Jvm.MethodName) prog_3_method_2_code (6 : Nat) (Option.some Jvm.ClassFile.FieldType.int) : Cond) ∈ wAll := wAll_of (List.mem_append_right _ (List.mem_of_getElem? (i := 723) (by decide +kernel))) (by decide +kernel)
theorem qw_737 : (Jvm.Cond.methodLink "SkyStones" (180 : Nat) ({ cls := "SkyStones", name := "isDegree", desc := "(I)Z" } : Jvm.MethodName) : Cond) ∈ wAll := wAll_of (List.mem_append_right _ (List.mem_of_getElem? (i := 737) (by decide +kernel))) (by decide +kernel)
theorem qw_738 : (Jvm.Cond.static ({ cls := "SkyStones", name := "isDegree", desc := "(I)Z" } : Jvm.MethodName) : Cond) ∈ wAll := wAll_of (List.mem_append_right _ (List.mem_of_getElem? (i := 738) (by decide +kernel))) (by decide +kernel)
theorem qw_739 : (Jvm.Cond.code ({ cls := "SkyStones", name := "isDegree", desc := "(I)Z" } : Jvm.MethodName) prog_1_method_50_code (1 : Nat) (Option.some Jvm.ClassFile.FieldType.boolean) : Cond) ∈ wAll := wAll_of (List.mem_append_right _ (List.mem_of_getElem? (i := 739) (by decide +kernel))) (by decide +kernel)
theorem qw_740 : (Jvm.Cond.methodLink "SkyStones" (183 : Nat) ({ cls := "SkyStones$Compass", name := "eastward", desc := "(I)I" } : Jvm.MethodName) : Cond) ∈ wAll := wAll_of (List.mem_append_right _ (List.mem_of_getElem? (i := 740) (by decide +kernel))) (by decide +kernel)
theorem qw_741 : (Jvm.Cond.static ({ cls := "SkyStones$Compass", name := "eastward", desc := "(I)I" } : Jvm.MethodName) : Cond) ∈ wAll := wAll_of (List.mem_append_right _ (List.mem_of_getElem? (i := 741) (by decide +kernel))) (by decide +kernel)
theorem qw_742 : (Jvm.Cond.code ({ cls := "SkyStones$Compass", name := "eastward", desc := "(I)I" } : Jvm.MethodName) prog_3_method_3_code (1 : Nat) (Option.some Jvm.ClassFile.FieldType.int) : Cond) ∈ wAll := wAll_of (List.mem_append_right _ (List.mem_of_getElem? (i := 742) (by decide +kernel))) (by decide +kernel)
theorem qw_743 : (Jvm.Cond.methodLink "SkyStones" (187 : Nat) ({ cls := "SkyStones$Compass", name := "northward", desc := "(I)I" } : Jvm.MethodName) : Cond) ∈ wAll := wAll_of (List.mem_append_right _ (List.mem_of_getElem? (i := 743) (by decide +kernel))) (by decide +kernel)
theorem qw_744 : (Jvm.Cond.static ({ cls := "SkyStones$Compass", name := "northward", desc := "(I)I" } : Jvm.MethodName) : Cond) ∈ wAll := wAll_of (List.mem_append_right _ (List.mem_of_getElem? (i := 744) (by decide +kernel))) (by decide +kernel)
theorem qw_745 : (Jvm.Cond.code ({ cls := "SkyStones$Compass", name := "northward", desc := "(I)I" } : Jvm.MethodName) prog_3_method_4_code (1 : Nat) (Option.some Jvm.ClassFile.FieldType.int) : Cond) ∈ wAll := wAll_of (List.mem_append_right _ (List.mem_of_getElem? (i := 745) (by decide +kernel))) (by decide +kernel)
theorem qw_803 : (Jvm.Cond.selects "SkyStones$Told" ({ cls := "SkyStones$Told", name := "hillOver", desc := "(I)I" } : Jvm.MethodName) ({ cls := "SkyStones$Told", name := "hillOver", desc := "(I)I" } : Jvm.MethodName) : Cond) ∈ wAll := wAll_of (List.mem_append_right _ (List.mem_of_getElem? (i := 803) (by decide +kernel))) (by decide +kernel)
theorem qw_801 : (Jvm.Cond.methodLink "SkyStones" (213 : Nat) ({ cls := "SkyStones$Told", name := "hillOver", desc := "(I)I" } : Jvm.MethodName) : Cond) ∈ wAll := wAll_of (List.mem_append_right _ (List.mem_of_getElem? (i := 801) (by decide +kernel))) (by decide +kernel)
theorem qw_802 : (Jvm.Cond.instanceMethod ({ cls := "SkyStones$Told", name := "hillOver", desc := "(I)I" } : Jvm.MethodName) : Cond) ∈ wAll := wAll_of (List.mem_append_right _ (List.mem_of_getElem? (i := 802) (by decide +kernel))) (by decide +kernel)
theorem qw_3 : (Jvm.Cond.initialized "SkyStones$Told" : Cond) ∈ wAll := wAll_of (List.mem_append_right _ (List.mem_of_getElem? (i := 3) (by decide +kernel))) (by decide +kernel)
theorem qw_804 : (Jvm.Cond.code ({ cls := "SkyStones$Told", name := "hillOver", desc := "(I)I" } : Jvm.MethodName) prog_11_method_5_code (6 : Nat) (Option.some Jvm.ClassFile.FieldType.int) : Cond) ∈ wAll := wAll_of (List.mem_append_right _ (List.mem_of_getElem? (i := 804) (by decide +kernel))) (by decide +kernel)
theorem qs_31 : (Cond.selects yX11_isPlace.cls yX11_isPlace yX11_isPlace) ∈ wAll := wAll_of (List.mem_append_left _ (List.mem_of_getElem? (i := 31) (by decide +kernel))) (by decide +kernel)
theorem qw_809 : (Jvm.Cond.methodLink "SkyStones" (216 : Nat) ({ cls := "SkyStones", name := "isPlace", desc := "(I)Z" } : Jvm.MethodName) : Cond) ∈ wAll := wAll_of (List.mem_append_right _ (List.mem_of_getElem? (i := 809) (by decide +kernel))) (by decide +kernel)
theorem qw_811 : (Jvm.Cond.instanceMethod ({ cls := "SkyStones", name := "isPlace", desc := "(I)Z" } : Jvm.MethodName) : Cond) ∈ wAll := wAll_of (List.mem_append_right _ (List.mem_of_getElem? (i := 811) (by decide +kernel))) (by decide +kernel)
theorem qw_812 : (Jvm.Cond.code ({ cls := "SkyStones", name := "isPlace", desc := "(I)Z" } : Jvm.MethodName) prog_1_method_55_code (2 : Nat) (Option.some Jvm.ClassFile.FieldType.boolean) : Cond) ∈ wAll := wAll_of (List.mem_append_right _ (List.mem_of_getElem? (i := 812) (by decide +kernel))) (by decide +kernel)
theorem qw_813 : (Jvm.Cond.methodLink "SkyStones" (219 : Nat) ({ cls := "SkyStones", name := "isYear", desc := "(I)Z" } : Jvm.MethodName) : Cond) ∈ wAll := wAll_of (List.mem_append_right _ (List.mem_of_getElem? (i := 813) (by decide +kernel))) (by decide +kernel)
theorem qw_814 : (Jvm.Cond.static ({ cls := "SkyStones", name := "isYear", desc := "(I)Z" } : Jvm.MethodName) : Cond) ∈ wAll := wAll_of (List.mem_append_right _ (List.mem_of_getElem? (i := 814) (by decide +kernel))) (by decide +kernel)
theorem qw_815 : (Jvm.Cond.code ({ cls := "SkyStones", name := "isYear", desc := "(I)Z" } : Jvm.MethodName) prog_1_method_51_code (1 : Nat) (Option.some Jvm.ClassFile.FieldType.boolean) : Cond) ∈ wAll := wAll_of (List.mem_append_right _ (List.mem_of_getElem? (i := 815) (by decide +kernel))) (by decide +kernel)
theorem qw_837 : (Jvm.Cond.selects "SkyStones$Sky" ({ cls := "SkyStones$Sky", name := "struck", desc := "(IIZ)I" } : Jvm.MethodName) ({ cls := "SkyStones$Sky", name := "struck", desc := "(IIZ)I" } : Jvm.MethodName) : Cond) ∈ wAll := wAll_of (List.mem_append_right _ (List.mem_of_getElem? (i := 837) (by decide +kernel))) (by decide +kernel)
theorem qw_835 : (Jvm.Cond.methodLink "SkyStones" (235 : Nat) ({ cls := "SkyStones$Sky", name := "struck", desc := "(IIZ)I" } : Jvm.MethodName) : Cond) ∈ wAll := wAll_of (List.mem_append_right _ (List.mem_of_getElem? (i := 835) (by decide +kernel))) (by decide +kernel)
theorem qw_836 : (Jvm.Cond.instanceMethod ({ cls := "SkyStones$Sky", name := "struck", desc := "(IIZ)I" } : Jvm.MethodName) : Cond) ∈ wAll := wAll_of (List.mem_append_right _ (List.mem_of_getElem? (i := 836) (by decide +kernel))) (by decide +kernel)
theorem qw_8 : (Jvm.Cond.initialized "SkyStones$Sky" : Cond) ∈ wAll := wAll_of (List.mem_append_right _ (List.mem_of_getElem? (i := 8) (by decide +kernel))) (by decide +kernel)
theorem qw_838 : (Jvm.Cond.code ({ cls := "SkyStones$Sky", name := "struck", desc := "(IIZ)I" } : Jvm.MethodName) prog_8_method_4_code (7 : Nat) (Option.some Jvm.ClassFile.FieldType.int) : Cond) ∈ wAll := wAll_of (List.mem_append_right _ (List.mem_of_getElem? (i := 838) (by decide +kernel))) (by decide +kernel)
theorem qs_32 : (Cond.selects yX11_isAsked.cls yX11_isAsked yX11_isAsked) ∈ wAll := wAll_of (List.mem_append_left _ (List.mem_of_getElem? (i := 32) (by decide +kernel))) (by decide +kernel)
theorem qw_846 : (Jvm.Cond.methodLink "SkyStones" (239 : Nat) ({ cls := "SkyStones", name := "isAsked", desc := "(III)Z" } : Jvm.MethodName) : Cond) ∈ wAll := wAll_of (List.mem_append_right _ (List.mem_of_getElem? (i := 846) (by decide +kernel))) (by decide +kernel)
theorem qw_848 : (Jvm.Cond.instanceMethod ({ cls := "SkyStones", name := "isAsked", desc := "(III)Z" } : Jvm.MethodName) : Cond) ∈ wAll := wAll_of (List.mem_append_right _ (List.mem_of_getElem? (i := 848) (by decide +kernel))) (by decide +kernel)
theorem qw_849 : (Jvm.Cond.code ({ cls := "SkyStones", name := "isAsked", desc := "(III)Z" } : Jvm.MethodName) prog_1_method_56_code (4 : Nat) (Option.some Jvm.ClassFile.FieldType.boolean) : Cond) ∈ wAll := wAll_of (List.mem_append_right _ (List.mem_of_getElem? (i := 849) (by decide +kernel))) (by decide +kernel)
theorem qs_34 : (Cond.selects yX11_hitsTurned.cls yX11_hitsTurned yX11_hitsTurned) ∈ wAll := wAll_of (List.mem_append_left _ (List.mem_of_getElem? (i := 34) (by decide +kernel))) (by decide +kernel)
theorem qw_854 : (Jvm.Cond.methodLink "SkyStones" (247 : Nat) ({ cls := "SkyStones", name := "hitsTurned", desc := "(IIZ)I" } : Jvm.MethodName) : Cond) ∈ wAll := wAll_of (List.mem_append_right _ (List.mem_of_getElem? (i := 854) (by decide +kernel))) (by decide +kernel)
theorem qw_856 : (Jvm.Cond.instanceMethod ({ cls := "SkyStones", name := "hitsTurned", desc := "(IIZ)I" } : Jvm.MethodName) : Cond) ∈ wAll := wAll_of (List.mem_append_right _ (List.mem_of_getElem? (i := 856) (by decide +kernel))) (by decide +kernel)
theorem qw_857 : (Jvm.Cond.code ({ cls := "SkyStones", name := "hitsTurned", desc := "(IIZ)I" } : Jvm.MethodName) prog_1_method_61_code (6 : Nat) (Option.some Jvm.ClassFile.FieldType.int) : Cond) ∈ wAll := wAll_of (List.mem_append_right _ (List.mem_of_getElem? (i := 857) (by decide +kernel))) (by decide +kernel)
theorem qs_35 : (Cond.selects yX11_strikes.cls yX11_strikes yX11_strikes) ∈ wAll := wAll_of (List.mem_append_left _ (List.mem_of_getElem? (i := 35) (by decide +kernel))) (by decide +kernel)
theorem qw_861 : (Jvm.Cond.methodLink "SkyStones" (253 : Nat) ({ cls := "SkyStones", name := "strikes", desc := "(IIZ)Z" } : Jvm.MethodName) : Cond) ∈ wAll := wAll_of (List.mem_append_right _ (List.mem_of_getElem? (i := 861) (by decide +kernel))) (by decide +kernel)
theorem qw_863 : (Jvm.Cond.instanceMethod ({ cls := "SkyStones", name := "strikes", desc := "(IIZ)Z" } : Jvm.MethodName) : Cond) ∈ wAll := wAll_of (List.mem_append_right _ (List.mem_of_getElem? (i := 863) (by decide +kernel))) (by decide +kernel)
theorem qw_864 : (Jvm.Cond.code ({ cls := "SkyStones", name := "strikes", desc := "(IIZ)Z" } : Jvm.MethodName) prog_1_method_60_code (4 : Nat) (Option.some Jvm.ClassFile.FieldType.boolean) : Cond) ∈ wAll := wAll_of (List.mem_append_right _ (List.mem_of_getElem? (i := 864) (by decide +kernel))) (by decide +kernel)
theorem qs_45 : (Cond.selects yX11_markedUpTo.cls yX11_markedUpTo yX11_markedUpTo) ∈ wAll := wAll_of (List.mem_append_left _ (List.mem_of_getElem? (i := 45) (by decide +kernel))) (by decide +kernel)
theorem qw_977 : (Jvm.Cond.methodLink "SkyStones" (291 : Nat) ({ cls := "SkyStones", name := "markedUpTo", desc := "(I)I" } : Jvm.MethodName) : Cond) ∈ wAll := wAll_of (List.mem_append_right _ (List.mem_of_getElem? (i := 977) (by decide +kernel))) (by decide +kernel)
theorem qw_979 : (Jvm.Cond.instanceMethod ({ cls := "SkyStones", name := "markedUpTo", desc := "(I)I" } : Jvm.MethodName) : Cond) ∈ wAll := wAll_of (List.mem_append_right _ (List.mem_of_getElem? (i := 979) (by decide +kernel))) (by decide +kernel)
theorem qw_980 : (Jvm.Cond.code ({ cls := "SkyStones", name := "markedUpTo", desc := "(I)I" } : Jvm.MethodName) prog_1_method_67_code (4 : Nat) (Option.some Jvm.ClassFile.FieldType.int) : Cond) ∈ wAll := wAll_of (List.mem_append_right _ (List.mem_of_getElem? (i := 980) (by decide +kernel))) (by decide +kernel)
theorem qw_985 : (Jvm.Cond.methodLink "SkyStones" (294 : Nat) ({ cls := "SkyStones", name := "isYears", desc := "(III)Z" } : Jvm.MethodName) : Cond) ∈ wAll := wAll_of (List.mem_append_right _ (List.mem_of_getElem? (i := 985) (by decide +kernel))) (by decide +kernel)
theorem qw_986 : (Jvm.Cond.static ({ cls := "SkyStones", name := "isYears", desc := "(III)Z" } : Jvm.MethodName) : Cond) ∈ wAll := wAll_of (List.mem_append_right _ (List.mem_of_getElem? (i := 986) (by decide +kernel))) (by decide +kernel)
theorem qw_987 : (Jvm.Cond.code ({ cls := "SkyStones", name := "isYears", desc := "(III)Z" } : Jvm.MethodName) prog_1_method_52_code (3 : Nat) (Option.some Jvm.ClassFile.FieldType.boolean) : Cond) ∈ wAll := wAll_of (List.mem_append_right _ (List.mem_of_getElem? (i := 987) (by decide +kernel))) (by decide +kernel)
theorem qs_48 : (Cond.selects yX11_near.cls yX11_near yX11_near) ∈ wAll := wAll_of (List.mem_append_left _ (List.mem_of_getElem? (i := 48) (by decide +kernel))) (by decide +kernel)
theorem qw_1016 : (Jvm.Cond.methodLink "SkyStones" (306 : Nat) ({ cls := "SkyStones", name := "near", desc := "(II[I)I" } : Jvm.MethodName) : Cond) ∈ wAll := wAll_of (List.mem_append_right _ (List.mem_of_getElem? (i := 1016) (by decide +kernel))) (by decide +kernel)
theorem qw_1018 : (Jvm.Cond.instanceMethod ({ cls := "SkyStones", name := "near", desc := "(II[I)I" } : Jvm.MethodName) : Cond) ∈ wAll := wAll_of (List.mem_append_right _ (List.mem_of_getElem? (i := 1018) (by decide +kernel))) (by decide +kernel)
theorem qw_1019 : (Jvm.Cond.code ({ cls := "SkyStones", name := "near", desc := "(II[I)I" } : Jvm.MethodName) prog_1_method_65_code (6 : Nat) (Option.some Jvm.ClassFile.FieldType.int) : Cond) ∈ wAll := wAll_of (List.mem_append_right _ (List.mem_of_getElem? (i := 1019) (by decide +kernel))) (by decide +kernel)
theorem qw_1026 : (Jvm.Cond.methodLink "SkyStones" (311 : Nat) ({ cls := "SkyStones", name := "ways", desc := "(IIII)J" } : Jvm.MethodName) : Cond) ∈ wAll := wAll_of (List.mem_append_right _ (List.mem_of_getElem? (i := 1026) (by decide +kernel))) (by decide +kernel)
theorem qw_1027 : (Jvm.Cond.static ({ cls := "SkyStones", name := "ways", desc := "(IIII)J" } : Jvm.MethodName) : Cond) ∈ wAll := wAll_of (List.mem_append_right _ (List.mem_of_getElem? (i := 1027) (by decide +kernel))) (by decide +kernel)
theorem qw_1028 : (Jvm.Cond.code ({ cls := "SkyStones", name := "ways", desc := "(IIII)J" } : Jvm.MethodName) prog_1_method_68_code (9 : Nat) (Option.some Jvm.ClassFile.FieldType.long) : Cond) ∈ wAll := wAll_of (List.mem_append_right _ (List.mem_of_getElem? (i := 1028) (by decide +kernel))) (by decide +kernel)
theorem qw_1036 : (Jvm.Cond.methodLink "SkyStones" (315 : Nat) ({ cls := "SkyStones", name := "isMade", desc := "(II)Z" } : Jvm.MethodName) : Cond) ∈ wAll := wAll_of (List.mem_append_right _ (List.mem_of_getElem? (i := 1036) (by decide +kernel))) (by decide +kernel)
theorem qw_1037 : (Jvm.Cond.static ({ cls := "SkyStones", name := "isMade", desc := "(II)Z" } : Jvm.MethodName) : Cond) ∈ wAll := wAll_of (List.mem_append_right _ (List.mem_of_getElem? (i := 1037) (by decide +kernel))) (by decide +kernel)
theorem qw_1038 : (Jvm.Cond.code ({ cls := "SkyStones", name := "isMade", desc := "(II)Z" } : Jvm.MethodName) prog_1_method_53_code (2 : Nat) (Option.some Jvm.ClassFile.FieldType.boolean) : Cond) ∈ wAll := wAll_of (List.mem_append_right _ (List.mem_of_getElem? (i := 1038) (by decide +kernel))) (by decide +kernel)
theorem qw_1069 : (Jvm.Cond.methodLink "SkyStones" (333 : Nat) ({ cls := "java/lang/Math", name := "abs", desc := "(I)I" } : Jvm.MethodName) : Cond) ∈ wAll := wAll_of (List.mem_append_right _ (List.mem_of_getElem? (i := 1069) (by decide +kernel))) (by decide +kernel)
theorem qw_725 : (Jvm.Cond.static ({ cls := "java/lang/Math", name := "abs", desc := "(I)I" } : Jvm.MethodName) : Cond) ∈ wAll := wAll_of (List.mem_append_right _ (List.mem_of_getElem? (i := 725) (by decide +kernel))) (by decide +kernel)
theorem qw_20 : (Jvm.Cond.initialized "java/lang/Math" : Cond) ∈ wAll := wAll_of (List.mem_append_right _ (List.mem_of_getElem? (i := 20) (by decide +kernel))) (by decide +kernel)
theorem qw_726 : (Jvm.Cond.code ({ cls := "java/lang/Math", name := "abs", desc := "(I)I" } : Jvm.MethodName) prog_15_method_59_code (1 : Nat) (Option.some Jvm.ClassFile.FieldType.int) : Cond) ∈ wAll := wAll_of (List.mem_append_right _ (List.mem_of_getElem? (i := 726) (by decide +kernel))) (by decide +kernel)
theorem qs_49 : (Cond.selects yX11_markRounds.cls yX11_markRounds yX11_markRounds) ∈ wAll := wAll_of (List.mem_append_left _ (List.mem_of_getElem? (i := 49) (by decide +kernel))) (by decide +kernel)
theorem qw_1074 : (Jvm.Cond.methodLink "SkyStones" (338 : Nat) ({ cls := "SkyStones", name := "markRounds", desc := "(IIII)V" } : Jvm.MethodName) : Cond) ∈ wAll := wAll_of (List.mem_append_right _ (List.mem_of_getElem? (i := 1074) (by decide +kernel))) (by decide +kernel)
theorem qw_1076 : (Jvm.Cond.instanceMethod ({ cls := "SkyStones", name := "markRounds", desc := "(IIII)V" } : Jvm.MethodName) : Cond) ∈ wAll := wAll_of (List.mem_append_right _ (List.mem_of_getElem? (i := 1076) (by decide +kernel))) (by decide +kernel)
theorem qw_1077 : (Jvm.Cond.code ({ cls := "SkyStones", name := "markRounds", desc := "(IIII)V" } : Jvm.MethodName) prog_1_method_66_code (8 : Nat) (Option.none : Option Jvm.ClassFile.FieldType) : Cond) ∈ wAll := wAll_of (List.mem_append_right _ (List.mem_of_getElem? (i := 1077) (by decide +kernel))) (by decide +kernel)
theorem qw_858 : (Jvm.Cond.methodLink "SkyStones" (367 : Nat) ({ cls := "SkyStones$Compass", name := "turned", desc := "(II)I" } : Jvm.MethodName) : Cond) ∈ wAll := wAll_of (List.mem_append_right _ (List.mem_of_getElem? (i := 858) (by decide +kernel))) (by decide +kernel)
theorem qw_859 : (Jvm.Cond.static ({ cls := "SkyStones$Compass", name := "turned", desc := "(II)I" } : Jvm.MethodName) : Cond) ∈ wAll := wAll_of (List.mem_append_right _ (List.mem_of_getElem? (i := 859) (by decide +kernel))) (by decide +kernel)
theorem qw_860 : (Jvm.Cond.code ({ cls := "SkyStones$Compass", name := "turned", desc := "(II)I" } : Jvm.MethodName) prog_3_method_6_code (3 : Nat) (Option.some Jvm.ClassFile.FieldType.int) : Cond) ∈ wAll := wAll_of (List.mem_append_right _ (List.mem_of_getElem? (i := 860) (by decide +kernel))) (by decide +kernel)
theorem qw_1020 : (Jvm.Cond.methodLink "SkyStones" (370 : Nat) ({ cls := "SkyStones$Compass", name := "apart", desc := "(II)I" } : Jvm.MethodName) : Cond) ∈ wAll := wAll_of (List.mem_append_right _ (List.mem_of_getElem? (i := 1020) (by decide +kernel))) (by decide +kernel)
theorem qw_840 : (Jvm.Cond.static ({ cls := "SkyStones$Compass", name := "apart", desc := "(II)I" } : Jvm.MethodName) : Cond) ∈ wAll := wAll_of (List.mem_append_right _ (List.mem_of_getElem? (i := 840) (by decide +kernel))) (by decide +kernel)
theorem qw_841 : (Jvm.Cond.code ({ cls := "SkyStones$Compass", name := "apart", desc := "(II)I" } : Jvm.MethodName) prog_3_method_5_code (3 : Nat) (Option.some Jvm.ClassFile.FieldType.int) : Cond) ∈ wAll := wAll_of (List.mem_append_right _ (List.mem_of_getElem? (i := 841) (by decide +kernel))) (by decide +kernel)
theorem qw_1078 : (Jvm.Cond.methodLink "SkyStones" (373 : Nat) ({ cls := "java/lang/Math", name := "max", desc := "(II)I" } : Jvm.MethodName) : Cond) ∈ wAll := wAll_of (List.mem_append_right _ (List.mem_of_getElem? (i := 1078) (by decide +kernel))) (by decide +kernel)
theorem qw_728 : (Jvm.Cond.static ({ cls := "java/lang/Math", name := "max", desc := "(II)I" } : Jvm.MethodName) : Cond) ∈ wAll := wAll_of (List.mem_append_right _ (List.mem_of_getElem? (i := 728) (by decide +kernel))) (by decide +kernel)
theorem qw_729 : (Jvm.Cond.code ({ cls := "java/lang/Math", name := "max", desc := "(II)I" } : Jvm.MethodName) prog_15_method_65_code (2 : Nat) (Option.some Jvm.ClassFile.FieldType.int) : Cond) ∈ wAll := wAll_of (List.mem_append_right _ (List.mem_of_getElem? (i := 729) (by decide +kernel))) (by decide +kernel)
theorem qw_1079 : (Jvm.Cond.methodLink "SkyStones" (376 : Nat) ({ cls := "java/lang/Math", name := "min", desc := "(II)I" } : Jvm.MethodName) : Cond) ∈ wAll := wAll_of (List.mem_append_right _ (List.mem_of_getElem? (i := 1079) (by decide +kernel))) (by decide +kernel)
theorem qw_731 : (Jvm.Cond.static ({ cls := "java/lang/Math", name := "min", desc := "(II)I" } : Jvm.MethodName) : Cond) ∈ wAll := wAll_of (List.mem_append_right _ (List.mem_of_getElem? (i := 731) (by decide +kernel))) (by decide +kernel)
theorem qw_732 : (Jvm.Cond.code ({ cls := "java/lang/Math", name := "min", desc := "(II)I" } : Jvm.MethodName) prog_15_method_69_code (2 : Nat) (Option.some Jvm.ClassFile.FieldType.int) : Cond) ∈ wAll := wAll_of (List.mem_append_right _ (List.mem_of_getElem? (i := 732) (by decide +kernel))) (by decide +kernel)
theorem qw_1029 : (Jvm.Cond.methodLink "SkyStones" (379 : Nat) ({ cls := "SkyStones", name := "power", desc := "(II)J" } : Jvm.MethodName) : Cond) ∈ wAll := wAll_of (List.mem_append_right _ (List.mem_of_getElem? (i := 1029) (by decide +kernel))) (by decide +kernel)
theorem qw_1030 : (Jvm.Cond.static ({ cls := "SkyStones", name := "power", desc := "(II)J" } : Jvm.MethodName) : Cond) ∈ wAll := wAll_of (List.mem_append_right _ (List.mem_of_getElem? (i := 1030) (by decide +kernel))) (by decide +kernel)
theorem qw_1031 : (Jvm.Cond.code ({ cls := "SkyStones", name := "power", desc := "(II)J" } : Jvm.MethodName) prog_1_method_69_code (5 : Nat) (Option.some Jvm.ClassFile.FieldType.long) : Cond) ∈ wAll := wAll_of (List.mem_append_right _ (List.mem_of_getElem? (i := 1031) (by decide +kernel))) (by decide +kernel)
theorem qs_30 : (Cond.selects yX0_compared.cls yX0_compared yX0_compared) ∈ wAll := wAll_of (List.mem_append_left _ (List.mem_of_getElem? (i := 30) (by decide +kernel))) (by decide +kernel)
theorem qw_774 : (Jvm.Cond.methodLink "SkyStones$Code" (45 : Nat) ({ cls := "SkyStones$Code", name := "compared", desc := "(III)I" } : Jvm.MethodName) : Cond) ∈ wAll := wAll_of (List.mem_append_right _ (List.mem_of_getElem? (i := 774) (by decide +kernel))) (by decide +kernel)
theorem qw_776 : (Jvm.Cond.instanceMethod ({ cls := "SkyStones$Code", name := "compared", desc := "(III)I" } : Jvm.MethodName) : Cond) ∈ wAll := wAll_of (List.mem_append_right _ (List.mem_of_getElem? (i := 776) (by decide +kernel))) (by decide +kernel)
theorem qw_4 : (Jvm.Cond.initialized "SkyStones$Code" : Cond) ∈ wAll := wAll_of (List.mem_append_right _ (List.mem_of_getElem? (i := 4) (by decide +kernel))) (by decide +kernel)
theorem qw_777 : (Jvm.Cond.code ({ cls := "SkyStones$Code", name := "compared", desc := "(III)I" } : Jvm.MethodName) prog_2_method_9_code (5 : Nat) (Option.some Jvm.ClassFile.FieldType.int) : Cond) ∈ wAll := wAll_of (List.mem_append_right _ (List.mem_of_getElem? (i := 777) (by decide +kernel))) (by decide +kernel)
theorem qw_724 : (Jvm.Cond.methodLink "SkyStones$Compass" (9 : Nat) ({ cls := "java/lang/Math", name := "abs", desc := "(I)I" } : Jvm.MethodName) : Cond) ∈ wAll := wAll_of (List.mem_append_right _ (List.mem_of_getElem? (i := 724) (by decide +kernel))) (by decide +kernel)
theorem qw_727 : (Jvm.Cond.methodLink "SkyStones$Compass" (15 : Nat) ({ cls := "java/lang/Math", name := "max", desc := "(II)I" } : Jvm.MethodName) : Cond) ∈ wAll := wAll_of (List.mem_append_right _ (List.mem_of_getElem? (i := 727) (by decide +kernel))) (by decide +kernel)
theorem qw_730 : (Jvm.Cond.methodLink "SkyStones$Compass" (19 : Nat) ({ cls := "java/lang/Math", name := "min", desc := "(II)I" } : Jvm.MethodName) : Cond) ∈ wAll := wAll_of (List.mem_append_right _ (List.mem_of_getElem? (i := 730) (by decide +kernel))) (by decide +kernel)
theorem qw_765 : (Jvm.Cond.methodLink "SkyStones$Ground" (78 : Nat) ({ cls := "SkyStones$Compass", name := "bearing", desc := "(II)I" } : Jvm.MethodName) : Cond) ∈ wAll := wAll_of (List.mem_append_right _ (List.mem_of_getElem? (i := 765) (by decide +kernel))) (by decide +kernel)
theorem qw_752 : (Jvm.Cond.selects "SkyStones$Ground" ({ cls := "SkyStones$Ground", name := "joins", desc := "(I)Z" } : Jvm.MethodName) ({ cls := "SkyStones$Ground", name := "joins", desc := "(I)Z" } : Jvm.MethodName) : Cond) ∈ wAll := wAll_of (List.mem_append_right _ (List.mem_of_getElem? (i := 752) (by decide +kernel))) (by decide +kernel)
theorem qw_787 : (Jvm.Cond.methodLink "SkyStones$Ground" (84 : Nat) ({ cls := "SkyStones$Ground", name := "joins", desc := "(I)Z" } : Jvm.MethodName) : Cond) ∈ wAll := wAll_of (List.mem_append_right _ (List.mem_of_getElem? (i := 787) (by decide +kernel))) (by decide +kernel)
theorem qw_751 : (Jvm.Cond.instanceMethod ({ cls := "SkyStones$Ground", name := "joins", desc := "(I)Z" } : Jvm.MethodName) : Cond) ∈ wAll := wAll_of (List.mem_append_right _ (List.mem_of_getElem? (i := 751) (by decide +kernel))) (by decide +kernel)
theorem qw_7 : (Jvm.Cond.initialized "SkyStones$Ground" : Cond) ∈ wAll := wAll_of (List.mem_append_right _ (List.mem_of_getElem? (i := 7) (by decide +kernel))) (by decide +kernel)
theorem qw_753 : (Jvm.Cond.code ({ cls := "SkyStones$Ground", name := "joins", desc := "(I)Z" } : Jvm.MethodName) prog_4_method_4_code (4 : Nat) (Option.some Jvm.ClassFile.FieldType.boolean) : Cond) ∈ wAll := wAll_of (List.mem_append_right _ (List.mem_of_getElem? (i := 753) (by decide +kernel))) (by decide +kernel)
theorem qw_762 : (Jvm.Cond.methodLink "SkyStones$Ground" (88 : Nat) ({ cls := "java/lang/Math", name := "abs", desc := "(I)I" } : Jvm.MethodName) : Cond) ∈ wAll := wAll_of (List.mem_append_right _ (List.mem_of_getElem? (i := 762) (by decide +kernel))) (by decide +kernel)
theorem qw_763 : (Jvm.Cond.methodLink "SkyStones$Ground" (94 : Nat) ({ cls := "java/lang/Math", name := "max", desc := "(II)I" } : Jvm.MethodName) : Cond) ∈ wAll := wAll_of (List.mem_append_right _ (List.mem_of_getElem? (i := 763) (by decide +kernel))) (by decide +kernel)
theorem qw_764 : (Jvm.Cond.methodLink "SkyStones$Ground" (100 : Nat) ({ cls := "java/lang/Math", name := "min", desc := "(II)I" } : Jvm.MethodName) : Cond) ∈ wAll := wAll_of (List.mem_append_right _ (List.mem_of_getElem? (i := 764) (by decide +kernel))) (by decide +kernel)
theorem qw_760 : (Jvm.Cond.selects "SkyStones$Ground" ({ cls := "SkyStones$Ground", name := "describe", desc := "(LSkyStones$Told;I)V" } : Jvm.MethodName) ({ cls := "SkyStones$Ground", name := "describe", desc := "(LSkyStones$Told;I)V" } : Jvm.MethodName) : Cond) ∈ wAll := wAll_of (List.mem_append_right _ (List.mem_of_getElem? (i := 760) (by decide +kernel))) (by decide +kernel)
theorem qw_758 : (Jvm.Cond.methodLink "SkyStones$Ground" (106 : Nat) ({ cls := "SkyStones$Ground", name := "describe", desc := "(LSkyStones$Told;I)V" } : Jvm.MethodName) : Cond) ∈ wAll := wAll_of (List.mem_append_right _ (List.mem_of_getElem? (i := 758) (by decide +kernel))) (by decide +kernel)
theorem qw_759 : (Jvm.Cond.instanceMethod ({ cls := "SkyStones$Ground", name := "describe", desc := "(LSkyStones$Told;I)V" } : Jvm.MethodName) : Cond) ∈ wAll := wAll_of (List.mem_append_right _ (List.mem_of_getElem? (i := 759) (by decide +kernel))) (by decide +kernel)
theorem qw_761 : (Jvm.Cond.code ({ cls := "SkyStones$Ground", name := "describe", desc := "(LSkyStones$Told;I)V" } : Jvm.MethodName) prog_4_method_7_code (7 : Nat) (Option.none : Option Jvm.ClassFile.FieldType) : Cond) ∈ wAll := wAll_of (List.mem_append_right _ (List.mem_of_getElem? (i := 761) (by decide +kernel))) (by decide +kernel)
theorem qw_1043 : (Jvm.Cond.methodLink "SkyStones$Maker" (18 : Nat) ({ cls := "SkyStones$Maker", name := "lot", desc := "(III)I" } : Jvm.MethodName) : Cond) ∈ wAll := wAll_of (List.mem_append_right _ (List.mem_of_getElem? (i := 1043) (by decide +kernel))) (by decide +kernel)
theorem qw_1044 : (Jvm.Cond.static ({ cls := "SkyStones$Maker", name := "lot", desc := "(III)I" } : Jvm.MethodName) : Cond) ∈ wAll := wAll_of (List.mem_append_right _ (List.mem_of_getElem? (i := 1044) (by decide +kernel))) (by decide +kernel)
theorem qw_11 : (Jvm.Cond.initialized "SkyStones$Maker" : Cond) ∈ wAll := wAll_of (List.mem_append_right _ (List.mem_of_getElem? (i := 11) (by decide +kernel))) (by decide +kernel)
theorem qw_1045 : (Jvm.Cond.code ({ cls := "SkyStones$Maker", name := "lot", desc := "(III)I" } : Jvm.MethodName) prog_5_method_3_code (3 : Nat) (Option.some Jvm.ClassFile.FieldType.int) : Cond) ∈ wAll := wAll_of (List.mem_append_right _ (List.mem_of_getElem? (i := 1045) (by decide +kernel))) (by decide +kernel)
theorem qw_1050 : (Jvm.Cond.methodLink "SkyStones$Maker" (31 : Nat) ({ cls := "SkyStones$Compass", name := "eastward", desc := "(I)I" } : Jvm.MethodName) : Cond) ∈ wAll := wAll_of (List.mem_append_right _ (List.mem_of_getElem? (i := 1050) (by decide +kernel))) (by decide +kernel)
theorem qw_1051 : (Jvm.Cond.methodLink "SkyStones$Maker" (37 : Nat) ({ cls := "SkyStones$Compass", name := "northward", desc := "(I)I" } : Jvm.MethodName) : Cond) ∈ wAll := wAll_of (List.mem_append_right _ (List.mem_of_getElem? (i := 1051) (by decide +kernel))) (by decide +kernel)
theorem qw_1046 : (Jvm.Cond.methodLink "SkyStones$Maker" (40 : Nat) ({ cls := "SkyStones$Maker", name := "stir", desc := "(II)I" } : Jvm.MethodName) : Cond) ∈ wAll := wAll_of (List.mem_append_right _ (List.mem_of_getElem? (i := 1046) (by decide +kernel))) (by decide +kernel)
theorem qw_1047 : (Jvm.Cond.static ({ cls := "SkyStones$Maker", name := "stir", desc := "(II)I" } : Jvm.MethodName) : Cond) ∈ wAll := wAll_of (List.mem_append_right _ (List.mem_of_getElem? (i := 1047) (by decide +kernel))) (by decide +kernel)
theorem qw_1048 : (Jvm.Cond.code ({ cls := "SkyStones$Maker", name := "stir", desc := "(II)I" } : Jvm.MethodName) prog_5_method_4_code (3 : Nat) (Option.some Jvm.ClassFile.FieldType.int) : Cond) ∈ wAll := wAll_of (List.mem_append_right _ (List.mem_of_getElem? (i := 1048) (by decide +kernel))) (by decide +kernel)
theorem qw_1056 : (Jvm.Cond.methodLink "SkyStones$Maker" (45 : Nat) ({ cls := "SkyStones$Compass", name := "bearing", desc := "(II)I" } : Jvm.MethodName) : Cond) ∈ wAll := wAll_of (List.mem_append_right _ (List.mem_of_getElem? (i := 1056) (by decide +kernel))) (by decide +kernel)
theorem qs_38 : (Cond.selects yX4_squeeze.cls yX4_squeeze yX4_squeeze) ∈ wAll := wAll_of (List.mem_append_left _ (List.mem_of_getElem? (i := 38) (by decide +kernel))) (by decide +kernel)
theorem qw_924 : (Jvm.Cond.methodLink "SkyStones$Pairing" (24 : Nat) ({ cls := "SkyStones$Pairing", name := "squeeze", desc := "()I" } : Jvm.MethodName) : Cond) ∈ wAll := wAll_of (List.mem_append_right _ (List.mem_of_getElem? (i := 924) (by decide +kernel))) (by decide +kernel)
theorem qw_926 : (Jvm.Cond.instanceMethod ({ cls := "SkyStones$Pairing", name := "squeeze", desc := "()I" } : Jvm.MethodName) : Cond) ∈ wAll := wAll_of (List.mem_append_right _ (List.mem_of_getElem? (i := 926) (by decide +kernel))) (by decide +kernel)
theorem qw_10 : (Jvm.Cond.initialized "SkyStones$Pairing" : Cond) ∈ wAll := wAll_of (List.mem_append_right _ (List.mem_of_getElem? (i := 10) (by decide +kernel))) (by decide +kernel)
theorem qw_927 : (Jvm.Cond.code ({ cls := "SkyStones$Pairing", name := "squeeze", desc := "()I" } : Jvm.MethodName) prog_6_method_5_code (3 : Nat) (Option.some Jvm.ClassFile.FieldType.int) : Cond) ∈ wAll := wAll_of (List.mem_append_right _ (List.mem_of_getElem? (i := 927) (by decide +kernel))) (by decide +kernel)
theorem qs_40 : (Cond.selects yX4_bestWith.cls yX4_bestWith yX4_bestWith) ∈ wAll := wAll_of (List.mem_append_left _ (List.mem_of_getElem? (i := 40) (by decide +kernel))) (by decide +kernel)
theorem qw_932 : (Jvm.Cond.methodLink "SkyStones$Pairing" (28 : Nat) ({ cls := "SkyStones$Pairing", name := "bestWith", desc := "(II)I" } : Jvm.MethodName) : Cond) ∈ wAll := wAll_of (List.mem_append_right _ (List.mem_of_getElem? (i := 932) (by decide +kernel))) (by decide +kernel)
theorem qw_934 : (Jvm.Cond.instanceMethod ({ cls := "SkyStones$Pairing", name := "bestWith", desc := "(II)I" } : Jvm.MethodName) : Cond) ∈ wAll := wAll_of (List.mem_append_right _ (List.mem_of_getElem? (i := 934) (by decide +kernel))) (by decide +kernel)
theorem qw_935 : (Jvm.Cond.code ({ cls := "SkyStones$Pairing", name := "bestWith", desc := "(II)I" } : Jvm.MethodName) prog_6_method_7_code (6 : Nat) (Option.some Jvm.ClassFile.FieldType.int) : Cond) ∈ wAll := wAll_of (List.mem_append_right _ (List.mem_of_getElem? (i := 935) (by decide +kernel))) (by decide +kernel)
theorem qs_42 : (Cond.selects yX4_put.cls yX4_put yX4_put) ∈ wAll := wAll_of (List.mem_append_left _ (List.mem_of_getElem? (i := 42) (by decide +kernel))) (by decide +kernel)
theorem qw_941 : (Jvm.Cond.methodLink "SkyStones$Pairing" (32 : Nat) ({ cls := "SkyStones$Pairing", name := "put", desc := "(II)V" } : Jvm.MethodName) : Cond) ∈ wAll := wAll_of (List.mem_append_right _ (List.mem_of_getElem? (i := 941) (by decide +kernel))) (by decide +kernel)
theorem qw_943 : (Jvm.Cond.instanceMethod ({ cls := "SkyStones$Pairing", name := "put", desc := "(II)V" } : Jvm.MethodName) : Cond) ∈ wAll := wAll_of (List.mem_append_right _ (List.mem_of_getElem? (i := 943) (by decide +kernel))) (by decide +kernel)
theorem qw_944 : (Jvm.Cond.code ({ cls := "SkyStones$Pairing", name := "put", desc := "(II)V" } : Jvm.MethodName) prog_6_method_9_code (4 : Nat) (Option.none : Option Jvm.ClassFile.FieldType) : Cond) ∈ wAll := wAll_of (List.mem_append_right _ (List.mem_of_getElem? (i := 944) (by decide +kernel))) (by decide +kernel)
theorem qs_41 : (Cond.selects yX4_bestOf.cls yX4_bestOf yX4_bestOf) ∈ wAll := wAll_of (List.mem_append_left _ (List.mem_of_getElem? (i := 41) (by decide +kernel))) (by decide +kernel)
theorem qw_936 : (Jvm.Cond.methodLink "SkyStones$Pairing" (36 : Nat) ({ cls := "SkyStones$Pairing", name := "bestOf", desc := "(I)I" } : Jvm.MethodName) : Cond) ∈ wAll := wAll_of (List.mem_append_right _ (List.mem_of_getElem? (i := 936) (by decide +kernel))) (by decide +kernel)
theorem qw_938 : (Jvm.Cond.instanceMethod ({ cls := "SkyStones$Pairing", name := "bestOf", desc := "(I)I" } : Jvm.MethodName) : Cond) ∈ wAll := wAll_of (List.mem_append_right _ (List.mem_of_getElem? (i := 938) (by decide +kernel))) (by decide +kernel)
theorem qw_939 : (Jvm.Cond.code ({ cls := "SkyStones$Pairing", name := "bestOf", desc := "(I)I" } : Jvm.MethodName) prog_6_method_8_code (2 : Nat) (Option.some Jvm.ClassFile.FieldType.int) : Cond) ∈ wAll := wAll_of (List.mem_append_right _ (List.mem_of_getElem? (i := 939) (by decide +kernel))) (by decide +kernel)
theorem qs_39 : (Cond.selects yX4_rename.cls yX4_rename yX4_rename) ∈ wAll := wAll_of (List.mem_append_left _ (List.mem_of_getElem? (i := 39) (by decide +kernel))) (by decide +kernel)
theorem qw_928 : (Jvm.Cond.methodLink "SkyStones$Pairing" (40 : Nat) ({ cls := "SkyStones$Pairing", name := "rename", desc := "(II)V" } : Jvm.MethodName) : Cond) ∈ wAll := wAll_of (List.mem_append_right _ (List.mem_of_getElem? (i := 928) (by decide +kernel))) (by decide +kernel)
theorem qw_930 : (Jvm.Cond.instanceMethod ({ cls := "SkyStones$Pairing", name := "rename", desc := "(II)V" } : Jvm.MethodName) : Cond) ∈ wAll := wAll_of (List.mem_append_right _ (List.mem_of_getElem? (i := 930) (by decide +kernel))) (by decide +kernel)
theorem qw_931 : (Jvm.Cond.code ({ cls := "SkyStones$Pairing", name := "rename", desc := "(II)V" } : Jvm.MethodName) prog_6_method_6_code (4 : Nat) (Option.none : Option Jvm.ClassFile.FieldType) : Cond) ∈ wAll := wAll_of (List.mem_append_right _ (List.mem_of_getElem? (i := 931) (by decide +kernel))) (by decide +kernel)
theorem qw_940 : (Jvm.Cond.methodLink "SkyStones$Pairing" (43 : Nat) ({ cls := "java/lang/Math", name := "max", desc := "(II)I" } : Jvm.MethodName) : Cond) ∈ wAll := wAll_of (List.mem_append_right _ (List.mem_of_getElem? (i := 940) (by decide +kernel))) (by decide +kernel)
theorem qs_7 : (Cond.selects yX5_kindHere.cls yX5_kindHere yX5_kindHere) ∈ wAll := wAll_of (List.mem_append_left _ (List.mem_of_getElem? (i := 7) (by decide +kernel))) (by decide +kernel)
theorem qw_564 : (Jvm.Cond.methodLink "SkyStones$Reader" (42 : Nat) ({ cls := "SkyStones$Reader", name := "kindHere", desc := "()I" } : Jvm.MethodName) : Cond) ∈ wAll := wAll_of (List.mem_append_right _ (List.mem_of_getElem? (i := 564) (by decide +kernel))) (by decide +kernel)
theorem qw_566 : (Jvm.Cond.instanceMethod ({ cls := "SkyStones$Reader", name := "kindHere", desc := "()I" } : Jvm.MethodName) : Cond) ∈ wAll := wAll_of (List.mem_append_right _ (List.mem_of_getElem? (i := 566) (by decide +kernel))) (by decide +kernel)
theorem qw_5 : (Jvm.Cond.initialized "SkyStones$Reader" : Cond) ∈ wAll := wAll_of (List.mem_append_right _ (List.mem_of_getElem? (i := 5) (by decide +kernel))) (by decide +kernel)
theorem qw_567 : (Jvm.Cond.code ({ cls := "SkyStones$Reader", name := "kindHere", desc := "()I" } : Jvm.MethodName) prog_7_method_3_code (1 : Nat) (Option.some Jvm.ClassFile.FieldType.int) : Cond) ∈ wAll := wAll_of (List.mem_append_right _ (List.mem_of_getElem? (i := 567) (by decide +kernel))) (by decide +kernel)
theorem qs_10 : (Cond.selects yX5_stop.cls yX5_stop yX5_stop) ∈ wAll := wAll_of (List.mem_append_left _ (List.mem_of_getElem? (i := 10) (by decide +kernel))) (by decide +kernel)
theorem qw_576 : (Jvm.Cond.methodLink "SkyStones$Reader" (65 : Nat) ({ cls := "SkyStones$Reader", name := "stop", desc := "(I)V" } : Jvm.MethodName) : Cond) ∈ wAll := wAll_of (List.mem_append_right _ (List.mem_of_getElem? (i := 576) (by decide +kernel))) (by decide +kernel)
theorem qw_578 : (Jvm.Cond.instanceMethod ({ cls := "SkyStones$Reader", name := "stop", desc := "(I)V" } : Jvm.MethodName) : Cond) ∈ wAll := wAll_of (List.mem_append_right _ (List.mem_of_getElem? (i := 578) (by decide +kernel))) (by decide +kernel)
theorem qw_579 : (Jvm.Cond.code ({ cls := "SkyStones$Reader", name := "stop", desc := "(I)V" } : Jvm.MethodName) prog_7_method_4_code (2 : Nat) (Option.none : Option Jvm.ClassFile.FieldType) : Cond) ∈ wAll := wAll_of (List.mem_append_right _ (List.mem_of_getElem? (i := 579) (by decide +kernel))) (by decide +kernel)
theorem qs_14 : (Cond.selects yX5_blame.cls yX5_blame yX5_blame) ∈ wAll := wAll_of (List.mem_append_left _ (List.mem_of_getElem? (i := 14) (by decide +kernel))) (by decide +kernel)
theorem qw_592 : (Jvm.Cond.methodLink "SkyStones$Reader" (80 : Nat) ({ cls := "SkyStones$Reader", name := "blame", desc := "(II)V" } : Jvm.MethodName) : Cond) ∈ wAll := wAll_of (List.mem_append_right _ (List.mem_of_getElem? (i := 592) (by decide +kernel))) (by decide +kernel)
theorem qw_594 : (Jvm.Cond.instanceMethod ({ cls := "SkyStones$Reader", name := "blame", desc := "(II)V" } : Jvm.MethodName) : Cond) ∈ wAll := wAll_of (List.mem_append_right _ (List.mem_of_getElem? (i := 594) (by decide +kernel))) (by decide +kernel)
theorem qw_595 : (Jvm.Cond.code ({ cls := "SkyStones$Reader", name := "blame", desc := "(II)V" } : Jvm.MethodName) prog_7_method_7_code (3 : Nat) (Option.none : Option Jvm.ClassFile.FieldType) : Cond) ∈ wAll := wAll_of (List.mem_append_right _ (List.mem_of_getElem? (i := 595) (by decide +kernel))) (by decide +kernel)
theorem qs_13 : (Cond.selects yX5_thingNamed.cls yX5_thingNamed yX5_thingNamed) ∈ wAll := wAll_of (List.mem_append_left _ (List.mem_of_getElem? (i := 13) (by decide +kernel))) (by decide +kernel)
theorem qw_588 : (Jvm.Cond.methodLink "SkyStones$Reader" (92 : Nat) ({ cls := "SkyStones$Reader", name := "thingNamed", desc := "(J)I" } : Jvm.MethodName) : Cond) ∈ wAll := wAll_of (List.mem_append_right _ (List.mem_of_getElem? (i := 588) (by decide +kernel))) (by decide +kernel)
theorem qw_590 : (Jvm.Cond.instanceMethod ({ cls := "SkyStones$Reader", name := "thingNamed", desc := "(J)I" } : Jvm.MethodName) : Cond) ∈ wAll := wAll_of (List.mem_append_right _ (List.mem_of_getElem? (i := 590) (by decide +kernel))) (by decide +kernel)
theorem qw_591 : (Jvm.Cond.code ({ cls := "SkyStones$Reader", name := "thingNamed", desc := "(J)I" } : Jvm.MethodName) prog_7_method_9_code (4 : Nat) (Option.some Jvm.ClassFile.FieldType.int) : Cond) ∈ wAll := wAll_of (List.mem_append_right _ (List.mem_of_getElem? (i := 591) (by decide +kernel))) (by decide +kernel)
theorem qs_9 : (Cond.selects yX5_hasRoom.cls yX5_hasRoom yX5_hasRoom) ∈ wAll := wAll_of (List.mem_append_left _ (List.mem_of_getElem? (i := 9) (by decide +kernel))) (by decide +kernel)
theorem qw_572 : (Jvm.Cond.methodLink "SkyStones$Reader" (99 : Nat) ({ cls := "SkyStones$Reader", name := "hasRoom", desc := "(II)Z" } : Jvm.MethodName) : Cond) ∈ wAll := wAll_of (List.mem_append_right _ (List.mem_of_getElem? (i := 572) (by decide +kernel))) (by decide +kernel)
theorem qw_574 : (Jvm.Cond.instanceMethod ({ cls := "SkyStones$Reader", name := "hasRoom", desc := "(II)Z" } : Jvm.MethodName) : Cond) ∈ wAll := wAll_of (List.mem_append_right _ (List.mem_of_getElem? (i := 574) (by decide +kernel))) (by decide +kernel)
theorem qw_575 : (Jvm.Cond.code ({ cls := "SkyStones$Reader", name := "hasRoom", desc := "(II)Z" } : Jvm.MethodName) prog_7_method_6_code (3 : Nat) (Option.some Jvm.ClassFile.FieldType.boolean) : Cond) ∈ wAll := wAll_of (List.mem_append_right _ (List.mem_of_getElem? (i := 575) (by decide +kernel))) (by decide +kernel)
theorem qs_11 : (Cond.selects yX5_take.cls yX5_take yX5_take) ∈ wAll := wAll_of (List.mem_append_left _ (List.mem_of_getElem? (i := 11) (by decide +kernel))) (by decide +kernel)
theorem qw_580 : (Jvm.Cond.methodLink "SkyStones$Reader" (103 : Nat) ({ cls := "SkyStones$Reader", name := "take", desc := "(I)Z" } : Jvm.MethodName) : Cond) ∈ wAll := wAll_of (List.mem_append_right _ (List.mem_of_getElem? (i := 580) (by decide +kernel))) (by decide +kernel)
theorem qw_582 : (Jvm.Cond.instanceMethod ({ cls := "SkyStones$Reader", name := "take", desc := "(I)Z" } : Jvm.MethodName) : Cond) ∈ wAll := wAll_of (List.mem_append_right _ (List.mem_of_getElem? (i := 582) (by decide +kernel))) (by decide +kernel)
theorem qw_583 : (Jvm.Cond.code ({ cls := "SkyStones$Reader", name := "take", desc := "(I)Z" } : Jvm.MethodName) prog_7_method_5_code (2 : Nat) (Option.some Jvm.ClassFile.FieldType.boolean) : Cond) ∈ wAll := wAll_of (List.mem_append_right _ (List.mem_of_getElem? (i := 583) (by decide +kernel))) (by decide +kernel)
theorem qs_12 : (Cond.selects yX5_blameIfNamed.cls yX5_blameIfNamed yX5_blameIfNamed) ∈ wAll := wAll_of (List.mem_append_left _ (List.mem_of_getElem? (i := 12) (by decide +kernel))) (by decide +kernel)
theorem qw_584 : (Jvm.Cond.methodLink "SkyStones$Reader" (107 : Nat) ({ cls := "SkyStones$Reader", name := "blameIfNamed", desc := "(I)V" } : Jvm.MethodName) : Cond) ∈ wAll := wAll_of (List.mem_append_right _ (List.mem_of_getElem? (i := 584) (by decide +kernel))) (by decide +kernel)
theorem qw_586 : (Jvm.Cond.instanceMethod ({ cls := "SkyStones$Reader", name := "blameIfNamed", desc := "(I)V" } : Jvm.MethodName) : Cond) ∈ wAll := wAll_of (List.mem_append_right _ (List.mem_of_getElem? (i := 586) (by decide +kernel))) (by decide +kernel)
theorem qw_587 : (Jvm.Cond.code ({ cls := "SkyStones$Reader", name := "blameIfNamed", desc := "(I)V" } : Jvm.MethodName) prog_7_method_10_code (4 : Nat) (Option.none : Option Jvm.ClassFile.FieldType) : Cond) ∈ wAll := wAll_of (List.mem_append_right _ (List.mem_of_getElem? (i := 587) (by decide +kernel))) (by decide +kernel)
theorem qs_15 : (Cond.selects yX5_blameAbove.cls yX5_blameAbove yX5_blameAbove) ∈ wAll := wAll_of (List.mem_append_left _ (List.mem_of_getElem? (i := 15) (by decide +kernel))) (by decide +kernel)
theorem qw_596 : (Jvm.Cond.methodLink "SkyStones$Reader" (110 : Nat) ({ cls := "SkyStones$Reader", name := "blameAbove", desc := "(II)V" } : Jvm.MethodName) : Cond) ∈ wAll := wAll_of (List.mem_append_right _ (List.mem_of_getElem? (i := 596) (by decide +kernel))) (by decide +kernel)
theorem qw_598 : (Jvm.Cond.instanceMethod ({ cls := "SkyStones$Reader", name := "blameAbove", desc := "(II)V" } : Jvm.MethodName) : Cond) ∈ wAll := wAll_of (List.mem_append_right _ (List.mem_of_getElem? (i := 598) (by decide +kernel))) (by decide +kernel)
theorem qw_599 : (Jvm.Cond.code ({ cls := "SkyStones$Reader", name := "blameAbove", desc := "(II)V" } : Jvm.MethodName) prog_7_method_8_code (3 : Nat) (Option.none : Option Jvm.ClassFile.FieldType) : Cond) ∈ wAll := wAll_of (List.mem_append_right _ (List.mem_of_getElem? (i := 599) (by decide +kernel))) (by decide +kernel)
theorem qw_602 : (Jvm.Cond.selects "SkyStones$Told" ({ cls := "SkyStones$Told", name := "isTaken", desc := "(II)Z" } : Jvm.MethodName) ({ cls := "SkyStones$Told", name := "isTaken", desc := "(II)Z" } : Jvm.MethodName) : Cond) ∈ wAll := wAll_of (List.mem_append_right _ (List.mem_of_getElem? (i := 602) (by decide +kernel))) (by decide +kernel)
theorem qw_600 : (Jvm.Cond.methodLink "SkyStones$Reader" (113 : Nat) ({ cls := "SkyStones$Told", name := "isTaken", desc := "(II)Z" } : Jvm.MethodName) : Cond) ∈ wAll := wAll_of (List.mem_append_right _ (List.mem_of_getElem? (i := 600) (by decide +kernel))) (by decide +kernel)
theorem qw_601 : (Jvm.Cond.instanceMethod ({ cls := "SkyStones$Told", name := "isTaken", desc := "(II)Z" } : Jvm.MethodName) : Cond) ∈ wAll := wAll_of (List.mem_append_right _ (List.mem_of_getElem? (i := 601) (by decide +kernel))) (by decide +kernel)
theorem qw_603 : (Jvm.Cond.code ({ cls := "SkyStones$Told", name := "isTaken", desc := "(II)Z" } : Jvm.MethodName) prog_11_method_4_code (4 : Nat) (Option.some Jvm.ClassFile.FieldType.boolean) : Cond) ∈ wAll := wAll_of (List.mem_append_right _ (List.mem_of_getElem? (i := 603) (by decide +kernel))) (by decide +kernel)
theorem qw_618 : (Jvm.Cond.selects "SkyStones$Code" ({ cls := "SkyStones$Code", name := "open", desc := "(I)V" } : Jvm.MethodName) ({ cls := "SkyStones$Code", name := "open", desc := "(I)V" } : Jvm.MethodName) : Cond) ∈ wAll := wAll_of (List.mem_append_right _ (List.mem_of_getElem? (i := 618) (by decide +kernel))) (by decide +kernel)
theorem qw_616 : (Jvm.Cond.methodLink "SkyStones$Reader" (156 : Nat) ({ cls := "SkyStones$Code", name := "open", desc := "(I)V" } : Jvm.MethodName) : Cond) ∈ wAll := wAll_of (List.mem_append_right _ (List.mem_of_getElem? (i := 616) (by decide +kernel))) (by decide +kernel)
theorem qw_617 : (Jvm.Cond.instanceMethod ({ cls := "SkyStones$Code", name := "open", desc := "(I)V" } : Jvm.MethodName) : Cond) ∈ wAll := wAll_of (List.mem_append_right _ (List.mem_of_getElem? (i := 617) (by decide +kernel))) (by decide +kernel)
theorem qw_619 : (Jvm.Cond.code ({ cls := "SkyStones$Code", name := "open", desc := "(I)V" } : Jvm.MethodName) prog_2_method_4_code (2 : Nat) (Option.none : Option Jvm.ClassFile.FieldType) : Cond) ∈ wAll := wAll_of (List.mem_append_right _ (List.mem_of_getElem? (i := 619) (by decide +kernel))) (by decide +kernel)
theorem qw_839 : (Jvm.Cond.methodLink "SkyStones$Sky" (53 : Nat) ({ cls := "SkyStones$Compass", name := "apart", desc := "(II)I" } : Jvm.MethodName) : Cond) ∈ wAll := wAll_of (List.mem_append_right _ (List.mem_of_getElem? (i := 839) (by decide +kernel))) (by decide +kernel)
theorem qs_0 : (Cond.selects yX8_behindBlanks.cls yX8_behindBlanks yX8_behindBlanks) ∈ wAll := wAll_of (List.mem_append_left _ (List.mem_of_getElem? (i := 0) (by decide +kernel))) (by decide +kernel)
theorem qw_461 : (Jvm.Cond.methodLink "SkyStones$Tape" (36 : Nat) ({ cls := "SkyStones$Tape", name := "behindBlanks", desc := "(I)I" } : Jvm.MethodName) : Cond) ∈ wAll := wAll_of (List.mem_append_right _ (List.mem_of_getElem? (i := 461) (by decide +kernel))) (by decide +kernel)
theorem qw_463 : (Jvm.Cond.instanceMethod ({ cls := "SkyStones$Tape", name := "behindBlanks", desc := "(I)I" } : Jvm.MethodName) : Cond) ∈ wAll := wAll_of (List.mem_append_right _ (List.mem_of_getElem? (i := 463) (by decide +kernel))) (by decide +kernel)
theorem qw_464 : (Jvm.Cond.code ({ cls := "SkyStones$Tape", name := "behindBlanks", desc := "(I)I" } : Jvm.MethodName) prog_10_method_7_code (4 : Nat) (Option.some Jvm.ClassFile.FieldType.int) : Cond) ∈ wAll := wAll_of (List.mem_append_right _ (List.mem_of_getElem? (i := 464) (by decide +kernel))) (by decide +kernel)
theorem qs_1 : (Cond.selects yX8_sign.cls yX8_sign yX8_sign) ∈ wAll := wAll_of (List.mem_append_left _ (List.mem_of_getElem? (i := 1) (by decide +kernel))) (by decide +kernel)
theorem qw_465 : (Jvm.Cond.methodLink "SkyStones$Tape" (43 : Nat) ({ cls := "SkyStones$Tape", name := "sign", desc := "(I)I" } : Jvm.MethodName) : Cond) ∈ wAll := wAll_of (List.mem_append_right _ (List.mem_of_getElem? (i := 465) (by decide +kernel))) (by decide +kernel)
theorem qw_467 : (Jvm.Cond.instanceMethod ({ cls := "SkyStones$Tape", name := "sign", desc := "(I)I" } : Jvm.MethodName) : Cond) ∈ wAll := wAll_of (List.mem_append_right _ (List.mem_of_getElem? (i := 467) (by decide +kernel))) (by decide +kernel)
theorem qw_468 : (Jvm.Cond.code ({ cls := "SkyStones$Tape", name := "sign", desc := "(I)I" } : Jvm.MethodName) prog_10_method_4_code (2 : Nat) (Option.some Jvm.ClassFile.FieldType.int) : Cond) ∈ wAll := wAll_of (List.mem_append_right _ (List.mem_of_getElem? (i := 468) (by decide +kernel))) (by decide +kernel)
theorem qw_473 : (Jvm.Cond.methodLink "SkyStones$Tape" (46 : Nat) ({ cls := "SkyStones$Tape", name := "isLetter", desc := "(I)Z" } : Jvm.MethodName) : Cond) ∈ wAll := wAll_of (List.mem_append_right _ (List.mem_of_getElem? (i := 473) (by decide +kernel))) (by decide +kernel)
theorem qw_474 : (Jvm.Cond.static ({ cls := "SkyStones$Tape", name := "isLetter", desc := "(I)Z" } : Jvm.MethodName) : Cond) ∈ wAll := wAll_of (List.mem_append_right _ (List.mem_of_getElem? (i := 474) (by decide +kernel))) (by decide +kernel)
theorem qw_475 : (Jvm.Cond.code ({ cls := "SkyStones$Tape", name := "isLetter", desc := "(I)Z" } : Jvm.MethodName) prog_10_method_5_code (1 : Nat) (Option.some Jvm.ClassFile.FieldType.boolean) : Cond) ∈ wAll := wAll_of (List.mem_append_right _ (List.mem_of_getElem? (i := 475) (by decide +kernel))) (by decide +kernel)
theorem qw_539 : (Jvm.Cond.methodLink "SkyStones$Tape" (53 : Nat) ({ cls := "SkyStones$Tape", name := "isDigit", desc := "(I)Z" } : Jvm.MethodName) : Cond) ∈ wAll := wAll_of (List.mem_append_right _ (List.mem_of_getElem? (i := 539) (by decide +kernel))) (by decide +kernel)
theorem qw_540 : (Jvm.Cond.static ({ cls := "SkyStones$Tape", name := "isDigit", desc := "(I)Z" } : Jvm.MethodName) : Cond) ∈ wAll := wAll_of (List.mem_append_right _ (List.mem_of_getElem? (i := 540) (by decide +kernel))) (by decide +kernel)
theorem qw_541 : (Jvm.Cond.code ({ cls := "SkyStones$Tape", name := "isDigit", desc := "(I)Z" } : Jvm.MethodName) prog_10_method_6_code (1 : Nat) (Option.some Jvm.ClassFile.FieldType.boolean) : Cond) ∈ wAll := wAll_of (List.mem_append_right _ (List.mem_of_getElem? (i := 541) (by decide +kernel))) (by decide +kernel)
theorem qw_886 : (Jvm.Cond.methodLink "SkyStones$Turns" (51 : Nat) ({ cls := "SkyStones$Sky", name := "struck", desc := "(IIZ)I" } : Jvm.MethodName) : Cond) ∈ wAll := wAll_of (List.mem_append_right _ (List.mem_of_getElem? (i := 886) (by decide +kernel))) (by decide +kernel)
theorem qs_37 : (Cond.selects yX10_findEdges.cls yX10_findEdges yX10_findEdges) ∈ wAll := wAll_of (List.mem_append_left _ (List.mem_of_getElem? (i := 37) (by decide +kernel))) (by decide +kernel)
theorem qw_891 : (Jvm.Cond.methodLink "SkyStones$Turns" (56 : Nat) ({ cls := "SkyStones$Turns", name := "findEdges", desc := "(I)I" } : Jvm.MethodName) : Cond) ∈ wAll := wAll_of (List.mem_append_right _ (List.mem_of_getElem? (i := 891) (by decide +kernel))) (by decide +kernel)
theorem qw_893 : (Jvm.Cond.instanceMethod ({ cls := "SkyStones$Turns", name := "findEdges", desc := "(I)I" } : Jvm.MethodName) : Cond) ∈ wAll := wAll_of (List.mem_append_right _ (List.mem_of_getElem? (i := 893) (by decide +kernel))) (by decide +kernel)
theorem qw_9 : (Jvm.Cond.initialized "SkyStones$Turns" : Cond) ∈ wAll := wAll_of (List.mem_append_right _ (List.mem_of_getElem? (i := 9) (by decide +kernel))) (by decide +kernel)
theorem qw_894 : (Jvm.Cond.code ({ cls := "SkyStones$Turns", name := "findEdges", desc := "(I)I" } : Jvm.MethodName) prog_12_method_5_code (6 : Nat) (Option.some Jvm.ClassFile.FieldType.int) : Cond) ∈ wAll := wAll_of (List.mem_append_right _ (List.mem_of_getElem? (i := 894) (by decide +kernel))) (by decide +kernel)
theorem qs_51 : (Cond.selects yX12_begin.cls yX12_begin yX12_begin) ∈ wAll := wAll_of (List.mem_append_left _ (List.mem_of_getElem? (i := 51) (by decide +kernel))) (by decide +kernel)
theorem qw_1130 : (Jvm.Cond.methodLink "SkyStonesModel" (218 : Nat) ({ cls := "SkyStonesModel", name := "begin", desc := "(I)V" } : Jvm.MethodName) : Cond) ∈ wAll := wAll_of (List.mem_append_right _ (List.mem_of_getElem? (i := 1130) (by decide +kernel))) (by decide +kernel)
theorem qw_1132 : (Jvm.Cond.instanceMethod ({ cls := "SkyStonesModel", name := "begin", desc := "(I)V" } : Jvm.MethodName) : Cond) ∈ wAll := wAll_of (List.mem_append_right _ (List.mem_of_getElem? (i := 1132) (by decide +kernel))) (by decide +kernel)
theorem qw_12 : (Jvm.Cond.initialized "SkyStonesModel" : Cond) ∈ wAll := wAll_of (List.mem_append_right _ (List.mem_of_getElem? (i := 12) (by decide +kernel))) (by decide +kernel)
theorem qw_1133 : (Jvm.Cond.code ({ cls := "SkyStonesModel", name := "begin", desc := "(I)V" } : Jvm.MethodName) prog_14_method_27_code (2 : Nat) (Option.none : Option Jvm.ClassFile.FieldType) : Cond) ∈ wAll := wAll_of (List.mem_append_right _ (List.mem_of_getElem? (i := 1133) (by decide +kernel))) (by decide +kernel)
theorem qs_52 : (Cond.selects yX12_typed.cls yX12_typed yX12_typed) ∈ wAll := wAll_of (List.mem_append_left _ (List.mem_of_getElem? (i := 52) (by decide +kernel))) (by decide +kernel)
theorem qw_1382 : (Jvm.Cond.methodLink "SkyStonesModel" (225 : Nat) ({ cls := "SkyStonesModel", name := "typed", desc := "(I)V" } : Jvm.MethodName) : Cond) ∈ wAll := wAll_of (List.mem_append_right _ (List.mem_of_getElem? (i := 1382) (by decide +kernel))) (by decide +kernel)
theorem qw_1384 : (Jvm.Cond.instanceMethod ({ cls := "SkyStonesModel", name := "typed", desc := "(I)V" } : Jvm.MethodName) : Cond) ∈ wAll := wAll_of (List.mem_append_right _ (List.mem_of_getElem? (i := 1384) (by decide +kernel))) (by decide +kernel)
theorem qw_1385 : (Jvm.Cond.code ({ cls := "SkyStonesModel", name := "typed", desc := "(I)V" } : Jvm.MethodName) prog_14_method_3_code (3 : Nat) (Option.none : Option Jvm.ClassFile.FieldType) : Cond) ∈ wAll := wAll_of (List.mem_append_right _ (List.mem_of_getElem? (i := 1385) (by decide +kernel))) (by decide +kernel)
theorem qs_54 : (Cond.selects yX12_byteAt.cls yX12_byteAt yX12_byteAt) ∈ wAll := wAll_of (List.mem_append_left _ (List.mem_of_getElem? (i := 54) (by decide +kernel))) (by decide +kernel)
theorem qw_1398 : (Jvm.Cond.methodLink "SkyStonesModel" (228 : Nat) ({ cls := "SkyStonesModel", name := "byteAt", desc := "(I)I" } : Jvm.MethodName) : Cond) ∈ wAll := wAll_of (List.mem_append_right _ (List.mem_of_getElem? (i := 1398) (by decide +kernel))) (by decide +kernel)
theorem qw_1400 : (Jvm.Cond.instanceMethod ({ cls := "SkyStonesModel", name := "byteAt", desc := "(I)I" } : Jvm.MethodName) : Cond) ∈ wAll := wAll_of (List.mem_append_right _ (List.mem_of_getElem? (i := 1400) (by decide +kernel))) (by decide +kernel)
theorem qw_1401 : (Jvm.Cond.code ({ cls := "SkyStonesModel", name := "byteAt", desc := "(I)I" } : Jvm.MethodName) prog_14_method_5_code (2 : Nat) (Option.some Jvm.ClassFile.FieldType.int) : Cond) ∈ wAll := wAll_of (List.mem_append_right _ (List.mem_of_getElem? (i := 1401) (by decide +kernel))) (by decide +kernel)
theorem qs_56 : (Cond.selects yX12_isLetter.cls yX12_isLetter yX12_isLetter) ∈ wAll := wAll_of (List.mem_append_left _ (List.mem_of_getElem? (i := 56) (by decide +kernel))) (by decide +kernel)
theorem qw_1406 : (Jvm.Cond.methodLink "SkyStonesModel" (277 : Nat) ({ cls := "SkyStonesModel", name := "isLetter", desc := "(I)Z" } : Jvm.MethodName) : Cond) ∈ wAll := wAll_of (List.mem_append_right _ (List.mem_of_getElem? (i := 1406) (by decide +kernel))) (by decide +kernel)
theorem qw_1408 : (Jvm.Cond.instanceMethod ({ cls := "SkyStonesModel", name := "isLetter", desc := "(I)Z" } : Jvm.MethodName) : Cond) ∈ wAll := wAll_of (List.mem_append_right _ (List.mem_of_getElem? (i := 1408) (by decide +kernel))) (by decide +kernel)
theorem qw_1409 : (Jvm.Cond.code ({ cls := "SkyStonesModel", name := "isLetter", desc := "(I)Z" } : Jvm.MethodName) prog_14_method_6_code (2 : Nat) (Option.some Jvm.ClassFile.FieldType.boolean) : Cond) ∈ wAll := wAll_of (List.mem_append_right _ (List.mem_of_getElem? (i := 1409) (by decide +kernel))) (by decide +kernel)
theorem qw_1412 : (Jvm.Cond.methodLink "SkyStonesModel" (285 : Nat) ({ cls := "SkyStonesModel", name := "wordOf", desc := "(J)I" } : Jvm.MethodName) : Cond) ∈ wAll := wAll_of (List.mem_append_right _ (List.mem_of_getElem? (i := 1412) (by decide +kernel))) (by decide +kernel)
theorem qw_1413 : (Jvm.Cond.static ({ cls := "SkyStonesModel", name := "wordOf", desc := "(J)I" } : Jvm.MethodName) : Cond) ∈ wAll := wAll_of (List.mem_append_right _ (List.mem_of_getElem? (i := 1413) (by decide +kernel))) (by decide +kernel)
theorem qw_1414 : (Jvm.Cond.code ({ cls := "SkyStonesModel", name := "wordOf", desc := "(J)I" } : Jvm.MethodName) prog_14_method_9_code (2 : Nat) (Option.some Jvm.ClassFile.FieldType.int) : Cond) ∈ wAll := wAll_of (List.mem_append_right _ (List.mem_of_getElem? (i := 1414) (by decide +kernel))) (by decide +kernel)
theorem qs_57 : (Cond.selects yX12_token.cls yX12_token yX12_token) ∈ wAll := wAll_of (List.mem_append_left _ (List.mem_of_getElem? (i := 57) (by decide +kernel))) (by decide +kernel)
theorem qw_1436 : (Jvm.Cond.methodLink "SkyStonesModel" (289 : Nat) ({ cls := "SkyStonesModel", name := "token", desc := "(III)V" } : Jvm.MethodName) : Cond) ∈ wAll := wAll_of (List.mem_append_right _ (List.mem_of_getElem? (i := 1436) (by decide +kernel))) (by decide +kernel)
theorem qw_1438 : (Jvm.Cond.instanceMethod ({ cls := "SkyStonesModel", name := "token", desc := "(III)V" } : Jvm.MethodName) : Cond) ∈ wAll := wAll_of (List.mem_append_right _ (List.mem_of_getElem? (i := 1438) (by decide +kernel))) (by decide +kernel)
theorem qw_1439 : (Jvm.Cond.code ({ cls := "SkyStonesModel", name := "token", desc := "(III)V" } : Jvm.MethodName) prog_14_method_8_code (4 : Nat) (Option.none : Option Jvm.ClassFile.FieldType) : Cond) ∈ wAll := wAll_of (List.mem_append_right _ (List.mem_of_getElem? (i := 1439) (by decide +kernel))) (by decide +kernel)
theorem qs_58 : (Cond.selects yX12_isDigit.cls yX12_isDigit yX12_isDigit) ∈ wAll := wAll_of (List.mem_append_left _ (List.mem_of_getElem? (i := 58) (by decide +kernel))) (by decide +kernel)
theorem qw_1440 : (Jvm.Cond.methodLink "SkyStonesModel" (293 : Nat) ({ cls := "SkyStonesModel", name := "isDigit", desc := "(I)Z" } : Jvm.MethodName) : Cond) ∈ wAll := wAll_of (List.mem_append_right _ (List.mem_of_getElem? (i := 1440) (by decide +kernel))) (by decide +kernel)
theorem qw_1442 : (Jvm.Cond.instanceMethod ({ cls := "SkyStonesModel", name := "isDigit", desc := "(I)Z" } : Jvm.MethodName) : Cond) ∈ wAll := wAll_of (List.mem_append_right _ (List.mem_of_getElem? (i := 1442) (by decide +kernel))) (by decide +kernel)
theorem qw_1443 : (Jvm.Cond.code ({ cls := "SkyStonesModel", name := "isDigit", desc := "(I)Z" } : Jvm.MethodName) prog_14_method_7_code (2 : Nat) (Option.some Jvm.ClassFile.FieldType.boolean) : Cond) ∈ wAll := wAll_of (List.mem_append_right _ (List.mem_of_getElem? (i := 1443) (by decide +kernel))) (by decide +kernel)
theorem qs_59 : (Cond.selects yX12_signAt.cls yX12_signAt yX12_signAt) ∈ wAll := wAll_of (List.mem_append_left _ (List.mem_of_getElem? (i := 59) (by decide +kernel))) (by decide +kernel)
theorem qw_1444 : (Jvm.Cond.methodLink "SkyStonesModel" (296 : Nat) ({ cls := "SkyStonesModel", name := "signAt", desc := "(I)I" } : Jvm.MethodName) : Cond) ∈ wAll := wAll_of (List.mem_append_right _ (List.mem_of_getElem? (i := 1444) (by decide +kernel))) (by decide +kernel)
theorem qw_1446 : (Jvm.Cond.instanceMethod ({ cls := "SkyStonesModel", name := "signAt", desc := "(I)I" } : Jvm.MethodName) : Cond) ∈ wAll := wAll_of (List.mem_append_right _ (List.mem_of_getElem? (i := 1446) (by decide +kernel))) (by decide +kernel)
theorem qw_1447 : (Jvm.Cond.code ({ cls := "SkyStonesModel", name := "signAt", desc := "(I)I" } : Jvm.MethodName) prog_14_method_10_code (4 : Nat) (Option.some Jvm.ClassFile.FieldType.int) : Cond) ∈ wAll := wAll_of (List.mem_append_right _ (List.mem_of_getElem? (i := 1447) (by decide +kernel))) (by decide +kernel)
theorem qs_55 : (Cond.selects yX12_scan.cls yX12_scan yX12_scan) ∈ wAll := wAll_of (List.mem_append_left _ (List.mem_of_getElem? (i := 55) (by decide +kernel))) (by decide +kernel)
theorem qw_1402 : (Jvm.Cond.methodLink "SkyStonesModel" (299 : Nat) ({ cls := "SkyStonesModel", name := "scan", desc := "(I)I" } : Jvm.MethodName) : Cond) ∈ wAll := wAll_of (List.mem_append_right _ (List.mem_of_getElem? (i := 1402) (by decide +kernel))) (by decide +kernel)
theorem qw_1404 : (Jvm.Cond.instanceMethod ({ cls := "SkyStonesModel", name := "scan", desc := "(I)I" } : Jvm.MethodName) : Cond) ∈ wAll := wAll_of (List.mem_append_right _ (List.mem_of_getElem? (i := 1404) (by decide +kernel))) (by decide +kernel)
theorem qw_1405 : (Jvm.Cond.code ({ cls := "SkyStonesModel", name := "scan", desc := "(I)I" } : Jvm.MethodName) prog_14_method_11_code (6 : Nat) (Option.some Jvm.ClassFile.FieldType.int) : Cond) ∈ wAll := wAll_of (List.mem_append_right _ (List.mem_of_getElem? (i := 1405) (by decide +kernel))) (by decide +kernel)
theorem qs_63 : (Cond.selects yX12_wrong.cls yX12_wrong yX12_wrong) ∈ wAll := wAll_of (List.mem_append_left _ (List.mem_of_getElem? (i := 63) (by decide +kernel))) (by decide +kernel)
theorem qw_1460 : (Jvm.Cond.methodLink "SkyStonesModel" (314 : Nat) ({ cls := "SkyStonesModel", name := "wrong", desc := "(I)Z" } : Jvm.MethodName) : Cond) ∈ wAll := wAll_of (List.mem_append_right _ (List.mem_of_getElem? (i := 1460) (by decide +kernel))) (by decide +kernel)
theorem qw_1462 : (Jvm.Cond.instanceMethod ({ cls := "SkyStonesModel", name := "wrong", desc := "(I)Z" } : Jvm.MethodName) : Cond) ∈ wAll := wAll_of (List.mem_append_right _ (List.mem_of_getElem? (i := 1462) (by decide +kernel))) (by decide +kernel)
theorem qw_1463 : (Jvm.Cond.code ({ cls := "SkyStonesModel", name := "wrong", desc := "(I)Z" } : Jvm.MethodName) prog_14_method_13_code (2 : Nat) (Option.some Jvm.ClassFile.FieldType.boolean) : Cond) ∈ wAll := wAll_of (List.mem_append_right _ (List.mem_of_getElem? (i := 1463) (by decide +kernel))) (by decide +kernel)
theorem qs_64 : (Cond.selects yX12_pass.cls yX12_pass yX12_pass) ∈ wAll := wAll_of (List.mem_append_left _ (List.mem_of_getElem? (i := 64) (by decide +kernel))) (by decide +kernel)
theorem qw_1464 : (Jvm.Cond.methodLink "SkyStonesModel" (317 : Nat) ({ cls := "SkyStonesModel", name := "pass", desc := "()Z" } : Jvm.MethodName) : Cond) ∈ wAll := wAll_of (List.mem_append_right _ (List.mem_of_getElem? (i := 1464) (by decide +kernel))) (by decide +kernel)
theorem qw_1466 : (Jvm.Cond.instanceMethod ({ cls := "SkyStonesModel", name := "pass", desc := "()Z" } : Jvm.MethodName) : Cond) ∈ wAll := wAll_of (List.mem_append_right _ (List.mem_of_getElem? (i := 1466) (by decide +kernel))) (by decide +kernel)
theorem qw_1467 : (Jvm.Cond.code ({ cls := "SkyStonesModel", name := "pass", desc := "()Z" } : Jvm.MethodName) prog_14_method_15_code (1 : Nat) (Option.some Jvm.ClassFile.FieldType.boolean) : Cond) ∈ wAll := wAll_of (List.mem_append_right _ (List.mem_of_getElem? (i := 1467) (by decide +kernel))) (by decide +kernel)
theorem qs_66 : (Cond.selects yX12_takes.cls yX12_takes yX12_takes) ∈ wAll := wAll_of (List.mem_append_left _ (List.mem_of_getElem? (i := 66) (by decide +kernel))) (by decide +kernel)
theorem qw_1472 : (Jvm.Cond.methodLink "SkyStonesModel" (321 : Nat) ({ cls := "SkyStonesModel", name := "takes", desc := "(I)Z" } : Jvm.MethodName) : Cond) ∈ wAll := wAll_of (List.mem_append_right _ (List.mem_of_getElem? (i := 1472) (by decide +kernel))) (by decide +kernel)
theorem qw_1474 : (Jvm.Cond.instanceMethod ({ cls := "SkyStonesModel", name := "takes", desc := "(I)Z" } : Jvm.MethodName) : Cond) ∈ wAll := wAll_of (List.mem_append_right _ (List.mem_of_getElem? (i := 1474) (by decide +kernel))) (by decide +kernel)
theorem qw_1475 : (Jvm.Cond.code ({ cls := "SkyStonesModel", name := "takes", desc := "(I)Z" } : Jvm.MethodName) prog_14_method_18_code (2 : Nat) (Option.some Jvm.ClassFile.FieldType.boolean) : Cond) ∈ wAll := wAll_of (List.mem_append_right _ (List.mem_of_getElem? (i := 1475) (by decide +kernel))) (by decide +kernel)
theorem qs_67 : (Cond.selects yX12_tells.cls yX12_tells yX12_tells) ∈ wAll := wAll_of (List.mem_append_left _ (List.mem_of_getElem? (i := 67) (by decide +kernel))) (by decide +kernel)
theorem qw_1476 : (Jvm.Cond.methodLink "SkyStonesModel" (327 : Nat) ({ cls := "SkyStonesModel", name := "tells", desc := "(II)V" } : Jvm.MethodName) : Cond) ∈ wAll := wAll_of (List.mem_append_right _ (List.mem_of_getElem? (i := 1476) (by decide +kernel))) (by decide +kernel)
theorem qw_1478 : (Jvm.Cond.instanceMethod ({ cls := "SkyStonesModel", name := "tells", desc := "(II)V" } : Jvm.MethodName) : Cond) ∈ wAll := wAll_of (List.mem_append_right _ (List.mem_of_getElem? (i := 1478) (by decide +kernel))) (by decide +kernel)
theorem qw_1479 : (Jvm.Cond.code ({ cls := "SkyStonesModel", name := "tells", desc := "(II)V" } : Jvm.MethodName) prog_14_method_14_code (4 : Nat) (Option.none : Option Jvm.ClassFile.FieldType) : Cond) ∈ wAll := wAll_of (List.mem_append_right _ (List.mem_of_getElem? (i := 1479) (by decide +kernel))) (by decide +kernel)
theorem qw_1527 : (Jvm.Cond.methodLink "SkyStonesModel" (334 : Nat) ({ cls := "SkyStonesModel", name := "rank", desc := "(I)I" } : Jvm.MethodName) : Cond) ∈ wAll := wAll_of (List.mem_append_right _ (List.mem_of_getElem? (i := 1527) (by decide +kernel))) (by decide +kernel)
theorem qw_1528 : (Jvm.Cond.static ({ cls := "SkyStonesModel", name := "rank", desc := "(I)I" } : Jvm.MethodName) : Cond) ∈ wAll := wAll_of (List.mem_append_right _ (List.mem_of_getElem? (i := 1528) (by decide +kernel))) (by decide +kernel)
theorem qw_1529 : (Jvm.Cond.code ({ cls := "SkyStonesModel", name := "rank", desc := "(I)I" } : Jvm.MethodName) prog_14_method_21_code (1 : Nat) (Option.some Jvm.ClassFile.FieldType.int) : Cond) ∈ wAll := wAll_of (List.mem_append_right _ (List.mem_of_getElem? (i := 1529) (by decide +kernel))) (by decide +kernel)
theorem qs_77 : (Cond.selects yX12_emit.cls yX12_emit yX12_emit) ∈ wAll := wAll_of (List.mem_append_left _ (List.mem_of_getElem? (i := 77) (by decide +kernel))) (by decide +kernel)
theorem qw_1519 : (Jvm.Cond.methodLink "SkyStonesModel" (337 : Nat) ({ cls := "SkyStonesModel", name := "emit", desc := "(II)V" } : Jvm.MethodName) : Cond) ∈ wAll := wAll_of (List.mem_append_right _ (List.mem_of_getElem? (i := 1519) (by decide +kernel))) (by decide +kernel)
theorem qw_1521 : (Jvm.Cond.instanceMethod ({ cls := "SkyStonesModel", name := "emit", desc := "(II)V" } : Jvm.MethodName) : Cond) ∈ wAll := wAll_of (List.mem_append_right _ (List.mem_of_getElem? (i := 1521) (by decide +kernel))) (by decide +kernel)
theorem qw_1522 : (Jvm.Cond.code ({ cls := "SkyStonesModel", name := "emit", desc := "(II)V" } : Jvm.MethodName) prog_14_method_20_code (3 : Nat) (Option.none : Option Jvm.ClassFile.FieldType) : Cond) ∈ wAll := wAll_of (List.mem_append_right _ (List.mem_of_getElem? (i := 1522) (by decide +kernel))) (by decide +kernel)
theorem qs_74 : (Cond.selects yX12_isSign.cls yX12_isSign yX12_isSign) ∈ wAll := wAll_of (List.mem_append_left _ (List.mem_of_getElem? (i := 74) (by decide +kernel))) (by decide +kernel)
theorem qw_1504 : (Jvm.Cond.methodLink "SkyStonesModel" (343 : Nat) ({ cls := "SkyStonesModel", name := "isSign", desc := "(I)Z" } : Jvm.MethodName) : Cond) ∈ wAll := wAll_of (List.mem_append_right _ (List.mem_of_getElem? (i := 1504) (by decide +kernel))) (by decide +kernel)
theorem qw_1506 : (Jvm.Cond.instanceMethod ({ cls := "SkyStonesModel", name := "isSign", desc := "(I)Z" } : Jvm.MethodName) : Cond) ∈ wAll := wAll_of (List.mem_append_right _ (List.mem_of_getElem? (i := 1506) (by decide +kernel))) (by decide +kernel)
theorem qw_1507 : (Jvm.Cond.code ({ cls := "SkyStonesModel", name := "isSign", desc := "(I)Z" } : Jvm.MethodName) prog_14_method_16_code (2 : Nat) (Option.some Jvm.ClassFile.FieldType.boolean) : Cond) ∈ wAll := wAll_of (List.mem_append_right _ (List.mem_of_getElem? (i := 1507) (by decide +kernel))) (by decide +kernel)
theorem qs_76 : (Cond.selects yX12_await.cls yX12_await yX12_await) ∈ wAll := wAll_of (List.mem_append_left _ (List.mem_of_getElem? (i := 76) (by decide +kernel))) (by decide +kernel)
theorem qw_1512 : (Jvm.Cond.methodLink "SkyStonesModel" (346 : Nat) ({ cls := "SkyStonesModel", name := "await", desc := "(I)V" } : Jvm.MethodName) : Cond) ∈ wAll := wAll_of (List.mem_append_right _ (List.mem_of_getElem? (i := 1512) (by decide +kernel))) (by decide +kernel)
theorem qw_1514 : (Jvm.Cond.instanceMethod ({ cls := "SkyStonesModel", name := "await", desc := "(I)V" } : Jvm.MethodName) : Cond) ∈ wAll := wAll_of (List.mem_append_right _ (List.mem_of_getElem? (i := 1514) (by decide +kernel))) (by decide +kernel)
theorem qw_1515 : (Jvm.Cond.code ({ cls := "SkyStonesModel", name := "await", desc := "(I)V" } : Jvm.MethodName) prog_14_method_23_code (2 : Nat) (Option.none : Option Jvm.ClassFile.FieldType) : Cond) ∈ wAll := wAll_of (List.mem_append_right _ (List.mem_of_getElem? (i := 1515) (by decide +kernel))) (by decide +kernel)
theorem qw_1516 : (Jvm.Cond.methodLink "SkyStonesModel" (349 : Nat) ({ cls := "SkyStonesModel", name := "variableOf", desc := "(I)I" } : Jvm.MethodName) : Cond) ∈ wAll := wAll_of (List.mem_append_right _ (List.mem_of_getElem? (i := 1516) (by decide +kernel))) (by decide +kernel)
theorem qw_1517 : (Jvm.Cond.static ({ cls := "SkyStonesModel", name := "variableOf", desc := "(I)I" } : Jvm.MethodName) : Cond) ∈ wAll := wAll_of (List.mem_append_right _ (List.mem_of_getElem? (i := 1517) (by decide +kernel))) (by decide +kernel)
theorem qw_1518 : (Jvm.Cond.code ({ cls := "SkyStonesModel", name := "variableOf", desc := "(I)I" } : Jvm.MethodName) prog_14_method_24_code (1 : Nat) (Option.some Jvm.ClassFile.FieldType.int) : Cond) ∈ wAll := wAll_of (List.mem_append_right _ (List.mem_of_getElem? (i := 1518) (by decide +kernel))) (by decide +kernel)
theorem qs_78 : (Cond.selects yX12_reduce.cls yX12_reduce yX12_reduce) ∈ wAll := wAll_of (List.mem_append_left _ (List.mem_of_getElem? (i := 78) (by decide +kernel))) (by decide +kernel)
theorem qw_1523 : (Jvm.Cond.methodLink "SkyStonesModel" (352 : Nat) ({ cls := "SkyStonesModel", name := "reduce", desc := "(II)V" } : Jvm.MethodName) : Cond) ∈ wAll := wAll_of (List.mem_append_right _ (List.mem_of_getElem? (i := 1523) (by decide +kernel))) (by decide +kernel)
theorem qw_1525 : (Jvm.Cond.instanceMethod ({ cls := "SkyStonesModel", name := "reduce", desc := "(II)V" } : Jvm.MethodName) : Cond) ∈ wAll := wAll_of (List.mem_append_right _ (List.mem_of_getElem? (i := 1525) (by decide +kernel))) (by decide +kernel)
theorem qw_1526 : (Jvm.Cond.code ({ cls := "SkyStonesModel", name := "reduce", desc := "(II)V" } : Jvm.MethodName) prog_14_method_22_code (3 : Nat) (Option.none : Option Jvm.ClassFile.FieldType) : Cond) ∈ wAll := wAll_of (List.mem_append_right _ (List.mem_of_getElem? (i := 1526) (by decide +kernel))) (by decide +kernel)
theorem qs_73 : (Cond.selects yX12_isWord.cls yX12_isWord yX12_isWord) ∈ wAll := wAll_of (List.mem_append_left _ (List.mem_of_getElem? (i := 73) (by decide +kernel))) (by decide +kernel)
theorem qw_1500 : (Jvm.Cond.methodLink "SkyStonesModel" (358 : Nat) ({ cls := "SkyStonesModel", name := "isWord", desc := "(I)Z" } : Jvm.MethodName) : Cond) ∈ wAll := wAll_of (List.mem_append_right _ (List.mem_of_getElem? (i := 1500) (by decide +kernel))) (by decide +kernel)
theorem qw_1502 : (Jvm.Cond.instanceMethod ({ cls := "SkyStonesModel", name := "isWord", desc := "(I)Z" } : Jvm.MethodName) : Cond) ∈ wAll := wAll_of (List.mem_append_right _ (List.mem_of_getElem? (i := 1502) (by decide +kernel))) (by decide +kernel)
theorem qw_1503 : (Jvm.Cond.code ({ cls := "SkyStonesModel", name := "isWord", desc := "(I)Z" } : Jvm.MethodName) prog_14_method_17_code (2 : Nat) (Option.some Jvm.ClassFile.FieldType.boolean) : Cond) ∈ wAll := wAll_of (List.mem_append_right _ (List.mem_of_getElem? (i := 1503) (by decide +kernel))) (by decide +kernel)
theorem qs_75 : (Cond.selects yX12_expr.cls yX12_expr yX12_expr) ∈ wAll := wAll_of (List.mem_append_left _ (List.mem_of_getElem? (i := 75) (by decide +kernel))) (by decide +kernel)
theorem qw_1508 : (Jvm.Cond.methodLink "SkyStonesModel" (361 : Nat) ({ cls := "SkyStonesModel", name := "expr", desc := "()Z" } : Jvm.MethodName) : Cond) ∈ wAll := wAll_of (List.mem_append_right _ (List.mem_of_getElem? (i := 1508) (by decide +kernel))) (by decide +kernel)
theorem qw_1510 : (Jvm.Cond.instanceMethod ({ cls := "SkyStonesModel", name := "expr", desc := "()Z" } : Jvm.MethodName) : Cond) ∈ wAll := wAll_of (List.mem_append_right _ (List.mem_of_getElem? (i := 1510) (by decide +kernel))) (by decide +kernel)
theorem qw_1511 : (Jvm.Cond.code ({ cls := "SkyStonesModel", name := "expr", desc := "()Z" } : Jvm.MethodName) prog_14_method_25_code (5 : Nat) (Option.some Jvm.ClassFile.FieldType.boolean) : Cond) ∈ wAll := wAll_of (List.mem_append_right _ (List.mem_of_getElem? (i := 1511) (by decide +kernel))) (by decide +kernel)
theorem qs_65 : (Cond.selects yX12_names.cls yX12_names yX12_names) ∈ wAll := wAll_of (List.mem_append_left _ (List.mem_of_getElem? (i := 65) (by decide +kernel))) (by decide +kernel)
theorem qw_1468 : (Jvm.Cond.methodLink "SkyStonesModel" (367 : Nat) ({ cls := "SkyStonesModel", name := "names", desc := "(I)Z" } : Jvm.MethodName) : Cond) ∈ wAll := wAll_of (List.mem_append_right _ (List.mem_of_getElem? (i := 1468) (by decide +kernel))) (by decide +kernel)
theorem qw_1470 : (Jvm.Cond.instanceMethod ({ cls := "SkyStonesModel", name := "names", desc := "(I)Z" } : Jvm.MethodName) : Cond) ∈ wAll := wAll_of (List.mem_append_right _ (List.mem_of_getElem? (i := 1470) (by decide +kernel))) (by decide +kernel)
theorem qw_1471 : (Jvm.Cond.code ({ cls := "SkyStonesModel", name := "names", desc := "(I)Z" } : Jvm.MethodName) prog_14_method_29_code (4 : Nat) (Option.some Jvm.ClassFile.FieldType.boolean) : Cond) ∈ wAll := wAll_of (List.mem_append_right _ (List.mem_of_getElem? (i := 1471) (by decide +kernel))) (by decide +kernel)
theorem qs_68 : (Cond.selects yX12_takesInt.cls yX12_takesInt yX12_takesInt) ∈ wAll := wAll_of (List.mem_append_left _ (List.mem_of_getElem? (i := 68) (by decide +kernel))) (by decide +kernel)
theorem qw_1480 : (Jvm.Cond.methodLink "SkyStonesModel" (369 : Nat) ({ cls := "SkyStonesModel", name := "takesInt", desc := "(II)Z" } : Jvm.MethodName) : Cond) ∈ wAll := wAll_of (List.mem_append_right _ (List.mem_of_getElem? (i := 1480) (by decide +kernel))) (by decide +kernel)
theorem qw_1482 : (Jvm.Cond.instanceMethod ({ cls := "SkyStonesModel", name := "takesInt", desc := "(II)Z" } : Jvm.MethodName) : Cond) ∈ wAll := wAll_of (List.mem_append_right _ (List.mem_of_getElem? (i := 1482) (by decide +kernel))) (by decide +kernel)
theorem qw_1483 : (Jvm.Cond.code ({ cls := "SkyStonesModel", name := "takesInt", desc := "(II)Z" } : Jvm.MethodName) prog_14_method_19_code (4 : Nat) (Option.some Jvm.ClassFile.FieldType.boolean) : Cond) ∈ wAll := wAll_of (List.mem_append_right _ (List.mem_of_getElem? (i := 1483) (by decide +kernel))) (by decide +kernel)
theorem qs_70 : (Cond.selects yX12_thingAt.cls yX12_thingAt yX12_thingAt) ∈ wAll := wAll_of (List.mem_append_left _ (List.mem_of_getElem? (i := 70) (by decide +kernel))) (by decide +kernel)
theorem qw_1488 : (Jvm.Cond.methodLink "SkyStonesModel" (373 : Nat) ({ cls := "SkyStonesModel", name := "thingAt", desc := "(I)I" } : Jvm.MethodName) : Cond) ∈ wAll := wAll_of (List.mem_append_right _ (List.mem_of_getElem? (i := 1488) (by decide +kernel))) (by decide +kernel)
theorem qw_1490 : (Jvm.Cond.instanceMethod ({ cls := "SkyStonesModel", name := "thingAt", desc := "(I)I" } : Jvm.MethodName) : Cond) ∈ wAll := wAll_of (List.mem_append_right _ (List.mem_of_getElem? (i := 1490) (by decide +kernel))) (by decide +kernel)
theorem qw_1491 : (Jvm.Cond.code ({ cls := "SkyStonesModel", name := "thingAt", desc := "(I)I" } : Jvm.MethodName) prog_14_method_30_code (3 : Nat) (Option.some Jvm.ClassFile.FieldType.int) : Cond) ∈ wAll := wAll_of (List.mem_append_right _ (List.mem_of_getElem? (i := 1491) (by decide +kernel))) (by decide +kernel)
theorem qs_80 : (Cond.selects yX12_cond.cls yX12_cond yX12_cond) ∈ wAll := wAll_of (List.mem_append_left _ (List.mem_of_getElem? (i := 80) (by decide +kernel))) (by decide +kernel)
theorem qw_1534 : (Jvm.Cond.methodLink "SkyStonesModel" (376 : Nat) ({ cls := "SkyStonesModel", name := "cond", desc := "()Z" } : Jvm.MethodName) : Cond) ∈ wAll := wAll_of (List.mem_append_right _ (List.mem_of_getElem? (i := 1534) (by decide +kernel))) (by decide +kernel)
theorem qw_1536 : (Jvm.Cond.instanceMethod ({ cls := "SkyStonesModel", name := "cond", desc := "()Z" } : Jvm.MethodName) : Cond) ∈ wAll := wAll_of (List.mem_append_right _ (List.mem_of_getElem? (i := 1536) (by decide +kernel))) (by decide +kernel)
theorem qw_1537 : (Jvm.Cond.code ({ cls := "SkyStonesModel", name := "cond", desc := "()Z" } : Jvm.MethodName) prog_14_method_26_code (6 : Nat) (Option.some Jvm.ClassFile.FieldType.boolean) : Cond) ∈ wAll := wAll_of (List.mem_append_right _ (List.mem_of_getElem? (i := 1537) (by decide +kernel))) (by decide +kernel)
theorem qs_62 : (Cond.selects yX12_tellThing.cls yX12_tellThing yX12_tellThing) ∈ wAll := wAll_of (List.mem_append_left _ (List.mem_of_getElem? (i := 62) (by decide +kernel))) (by decide +kernel)
theorem qw_1456 : (Jvm.Cond.methodLink "SkyStonesModel" (379 : Nat) ({ cls := "SkyStonesModel", name := "tellThing", desc := "(Z)Z" } : Jvm.MethodName) : Cond) ∈ wAll := wAll_of (List.mem_append_right _ (List.mem_of_getElem? (i := 1456) (by decide +kernel))) (by decide +kernel)
theorem qw_1458 : (Jvm.Cond.instanceMethod ({ cls := "SkyStonesModel", name := "tellThing", desc := "(Z)Z" } : Jvm.MethodName) : Cond) ∈ wAll := wAll_of (List.mem_append_right _ (List.mem_of_getElem? (i := 1458) (by decide +kernel))) (by decide +kernel)
theorem qw_1459 : (Jvm.Cond.code ({ cls := "SkyStonesModel", name := "tellThing", desc := "(Z)Z" } : Jvm.MethodName) prog_14_method_31_code (5 : Nat) (Option.some Jvm.ClassFile.FieldType.boolean) : Cond) ∈ wAll := wAll_of (List.mem_append_right _ (List.mem_of_getElem? (i := 1459) (by decide +kernel))) (by decide +kernel)
theorem qs_69 : (Cond.selects yX12_tellDoor.cls yX12_tellDoor yX12_tellDoor) ∈ wAll := wAll_of (List.mem_append_left _ (List.mem_of_getElem? (i := 69) (by decide +kernel))) (by decide +kernel)
theorem qw_1484 : (Jvm.Cond.methodLink "SkyStonesModel" (383 : Nat) ({ cls := "SkyStonesModel", name := "tellDoor", desc := "()Z" } : Jvm.MethodName) : Cond) ∈ wAll := wAll_of (List.mem_append_right _ (List.mem_of_getElem? (i := 1484) (by decide +kernel))) (by decide +kernel)
theorem qw_1486 : (Jvm.Cond.instanceMethod ({ cls := "SkyStonesModel", name := "tellDoor", desc := "()Z" } : Jvm.MethodName) : Cond) ∈ wAll := wAll_of (List.mem_append_right _ (List.mem_of_getElem? (i := 1486) (by decide +kernel))) (by decide +kernel)
theorem qw_1487 : (Jvm.Cond.code ({ cls := "SkyStonesModel", name := "tellDoor", desc := "()Z" } : Jvm.MethodName) prog_14_method_32_code (3 : Nat) (Option.some Jvm.ClassFile.FieldType.boolean) : Cond) ∈ wAll := wAll_of (List.mem_append_right _ (List.mem_of_getElem? (i := 1487) (by decide +kernel))) (by decide +kernel)
theorem qs_71 : (Cond.selects yX12_tellHill.cls yX12_tellHill yX12_tellHill) ∈ wAll := wAll_of (List.mem_append_left _ (List.mem_of_getElem? (i := 71) (by decide +kernel))) (by decide +kernel)
theorem qw_1492 : (Jvm.Cond.methodLink "SkyStonesModel" (386 : Nat) ({ cls := "SkyStonesModel", name := "tellHill", desc := "()Z" } : Jvm.MethodName) : Cond) ∈ wAll := wAll_of (List.mem_append_right _ (List.mem_of_getElem? (i := 1492) (by decide +kernel))) (by decide +kernel)
theorem qw_1494 : (Jvm.Cond.instanceMethod ({ cls := "SkyStonesModel", name := "tellHill", desc := "()Z" } : Jvm.MethodName) : Cond) ∈ wAll := wAll_of (List.mem_append_right _ (List.mem_of_getElem? (i := 1494) (by decide +kernel))) (by decide +kernel)
theorem qw_1495 : (Jvm.Cond.code ({ cls := "SkyStonesModel", name := "tellHill", desc := "()Z" } : Jvm.MethodName) prog_14_method_33_code (2 : Nat) (Option.some Jvm.ClassFile.FieldType.boolean) : Cond) ∈ wAll := wAll_of (List.mem_append_right _ (List.mem_of_getElem? (i := 1495) (by decide +kernel))) (by decide +kernel)
theorem qs_72 : (Cond.selects yX12_tellSky.cls yX12_tellSky yX12_tellSky) ∈ wAll := wAll_of (List.mem_append_left _ (List.mem_of_getElem? (i := 72) (by decide +kernel))) (by decide +kernel)
theorem qw_1496 : (Jvm.Cond.methodLink "SkyStonesModel" (389 : Nat) ({ cls := "SkyStonesModel", name := "tellSky", desc := "()Z" } : Jvm.MethodName) : Cond) ∈ wAll := wAll_of (List.mem_append_right _ (List.mem_of_getElem? (i := 1496) (by decide +kernel))) (by decide +kernel)
theorem qw_1498 : (Jvm.Cond.instanceMethod ({ cls := "SkyStonesModel", name := "tellSky", desc := "()Z" } : Jvm.MethodName) : Cond) ∈ wAll := wAll_of (List.mem_append_right _ (List.mem_of_getElem? (i := 1498) (by decide +kernel))) (by decide +kernel)
theorem qw_1499 : (Jvm.Cond.code ({ cls := "SkyStonesModel", name := "tellSky", desc := "()Z" } : Jvm.MethodName) prog_14_method_34_code (2 : Nat) (Option.some Jvm.ClassFile.FieldType.boolean) : Cond) ∈ wAll := wAll_of (List.mem_append_right _ (List.mem_of_getElem? (i := 1499) (by decide +kernel))) (by decide +kernel)
theorem qs_79 : (Cond.selects yX12_tellRule.cls yX12_tellRule yX12_tellRule) ∈ wAll := wAll_of (List.mem_append_left _ (List.mem_of_getElem? (i := 79) (by decide +kernel))) (by decide +kernel)
theorem qw_1530 : (Jvm.Cond.methodLink "SkyStonesModel" (392 : Nat) ({ cls := "SkyStonesModel", name := "tellRule", desc := "()Z" } : Jvm.MethodName) : Cond) ∈ wAll := wAll_of (List.mem_append_right _ (List.mem_of_getElem? (i := 1530) (by decide +kernel))) (by decide +kernel)
theorem qw_1532 : (Jvm.Cond.instanceMethod ({ cls := "SkyStonesModel", name := "tellRule", desc := "()Z" } : Jvm.MethodName) : Cond) ∈ wAll := wAll_of (List.mem_append_right _ (List.mem_of_getElem? (i := 1532) (by decide +kernel))) (by decide +kernel)
theorem qw_1533 : (Jvm.Cond.code ({ cls := "SkyStonesModel", name := "tellRule", desc := "()Z" } : Jvm.MethodName) prog_14_method_35_code (1 : Nat) (Option.some Jvm.ClassFile.FieldType.boolean) : Cond) ∈ wAll := wAll_of (List.mem_append_right _ (List.mem_of_getElem? (i := 1533) (by decide +kernel))) (by decide +kernel)
theorem qs_61 : (Cond.selects yX12_tell.cls yX12_tell yX12_tell) ∈ wAll := wAll_of (List.mem_append_left _ (List.mem_of_getElem? (i := 61) (by decide +kernel))) (by decide +kernel)
theorem qw_1452 : (Jvm.Cond.methodLink "SkyStonesModel" (395 : Nat) ({ cls := "SkyStonesModel", name := "tell", desc := "()Z" } : Jvm.MethodName) : Cond) ∈ wAll := wAll_of (List.mem_append_right _ (List.mem_of_getElem? (i := 1452) (by decide +kernel))) (by decide +kernel)
theorem qw_1454 : (Jvm.Cond.instanceMethod ({ cls := "SkyStonesModel", name := "tell", desc := "()Z" } : Jvm.MethodName) : Cond) ∈ wAll := wAll_of (List.mem_append_right _ (List.mem_of_getElem? (i := 1454) (by decide +kernel))) (by decide +kernel)
theorem qw_1455 : (Jvm.Cond.code ({ cls := "SkyStonesModel", name := "tell", desc := "()Z" } : Jvm.MethodName) prog_14_method_36_code (2 : Nat) (Option.some Jvm.ClassFile.FieldType.boolean) : Cond) ∈ wAll := wAll_of (List.mem_append_right _ (List.mem_of_getElem? (i := 1455) (by decide +kernel))) (by decide +kernel)
theorem qs_53 : (Cond.selects yX12_scanAll.cls yX12_scanAll yX12_scanAll) ∈ wAll := wAll_of (List.mem_append_left _ (List.mem_of_getElem? (i := 53) (by decide +kernel))) (by decide +kernel)
theorem qw_1394 : (Jvm.Cond.methodLink "SkyStonesModel" (398 : Nat) ({ cls := "SkyStonesModel", name := "scanAll", desc := "()V" } : Jvm.MethodName) : Cond) ∈ wAll := wAll_of (List.mem_append_right _ (List.mem_of_getElem? (i := 1394) (by decide +kernel))) (by decide +kernel)
theorem qw_1396 : (Jvm.Cond.instanceMethod ({ cls := "SkyStonesModel", name := "scanAll", desc := "()V" } : Jvm.MethodName) : Cond) ∈ wAll := wAll_of (List.mem_append_right _ (List.mem_of_getElem? (i := 1396) (by decide +kernel))) (by decide +kernel)
theorem qw_1397 : (Jvm.Cond.code ({ cls := "SkyStonesModel", name := "scanAll", desc := "()V" } : Jvm.MethodName) prog_14_method_12_code (4 : Nat) (Option.none : Option Jvm.ClassFile.FieldType) : Cond) ∈ wAll := wAll_of (List.mem_append_right _ (List.mem_of_getElem? (i := 1397) (by decide +kernel))) (by decide +kernel)
theorem qs_60 : (Cond.selects yX12_parses.cls yX12_parses yX12_parses) ∈ wAll := wAll_of (List.mem_append_left _ (List.mem_of_getElem? (i := 60) (by decide +kernel))) (by decide +kernel)
theorem qw_1448 : (Jvm.Cond.methodLink "SkyStonesModel" (401 : Nat) ({ cls := "SkyStonesModel", name := "parses", desc := "()Z" } : Jvm.MethodName) : Cond) ∈ wAll := wAll_of (List.mem_append_right _ (List.mem_of_getElem? (i := 1448) (by decide +kernel))) (by decide +kernel)
theorem qw_1450 : (Jvm.Cond.instanceMethod ({ cls := "SkyStonesModel", name := "parses", desc := "()Z" } : Jvm.MethodName) : Cond) ∈ wAll := wAll_of (List.mem_append_right _ (List.mem_of_getElem? (i := 1450) (by decide +kernel))) (by decide +kernel)
theorem qw_1451 : (Jvm.Cond.code ({ cls := "SkyStonesModel", name := "parses", desc := "()Z" } : Jvm.MethodName) prog_14_method_37_code (1 : Nat) (Option.some Jvm.ClassFile.FieldType.boolean) : Cond) ∈ wAll := wAll_of (List.mem_append_right _ (List.mem_of_getElem? (i := 1451) (by decide +kernel))) (by decide +kernel)
theorem qs_81 : (Cond.selects yX12_copy.cls yX12_copy yX12_copy) ∈ wAll := wAll_of (List.mem_append_left _ (List.mem_of_getElem? (i := 81) (by decide +kernel))) (by decide +kernel)
theorem qw_1538 : (Jvm.Cond.methodLink "SkyStonesModel" (404 : Nat) ({ cls := "SkyStonesModel", name := "copy", desc := "(II)V" } : Jvm.MethodName) : Cond) ∈ wAll := wAll_of (List.mem_append_right _ (List.mem_of_getElem? (i := 1538) (by decide +kernel))) (by decide +kernel)
theorem qw_1540 : (Jvm.Cond.instanceMethod ({ cls := "SkyStonesModel", name := "copy", desc := "(II)V" } : Jvm.MethodName) : Cond) ∈ wAll := wAll_of (List.mem_append_right _ (List.mem_of_getElem? (i := 1540) (by decide +kernel))) (by decide +kernel)
theorem qw_1541 : (Jvm.Cond.code ({ cls := "SkyStonesModel", name := "copy", desc := "(II)V" } : Jvm.MethodName) prog_14_method_28_code (4 : Nat) (Option.none : Option Jvm.ClassFile.FieldType) : Cond) ∈ wAll := wAll_of (List.mem_append_right _ (List.mem_of_getElem? (i := 1541) (by decide +kernel))) (by decide +kernel)
theorem qw_1558 : (Jvm.Cond.methodLink "SkyStonesModel" (407 : Nat) ({ cls := "SkyStonesModel", name := "isIn", desc := "(III)Z" } : Jvm.MethodName) : Cond) ∈ wAll := wAll_of (List.mem_append_right _ (List.mem_of_getElem? (i := 1558) (by decide +kernel))) (by decide +kernel)
theorem qw_1559 : (Jvm.Cond.static ({ cls := "SkyStonesModel", name := "isIn", desc := "(III)Z" } : Jvm.MethodName) : Cond) ∈ wAll := wAll_of (List.mem_append_right _ (List.mem_of_getElem? (i := 1559) (by decide +kernel))) (by decide +kernel)
theorem qw_1560 : (Jvm.Cond.code ({ cls := "SkyStonesModel", name := "isIn", desc := "(III)Z" } : Jvm.MethodName) prog_14_method_42_code (3 : Nat) (Option.some Jvm.ClassFile.FieldType.boolean) : Cond) ∈ wAll := wAll_of (List.mem_append_right _ (List.mem_of_getElem? (i := 1560) (by decide +kernel))) (by decide +kernel)
theorem qs_82 : (Cond.selects yX12_fact.cls yX12_fact yX12_fact) ∈ wAll := wAll_of (List.mem_append_left _ (List.mem_of_getElem? (i := 82) (by decide +kernel))) (by decide +kernel)
theorem qw_1561 : (Jvm.Cond.methodLink "SkyStonesModel" (411 : Nat) ({ cls := "SkyStonesModel", name := "fact", desc := "(IIII)I" } : Jvm.MethodName) : Cond) ∈ wAll := wAll_of (List.mem_append_right _ (List.mem_of_getElem? (i := 1561) (by decide +kernel))) (by decide +kernel)
theorem qw_1563 : (Jvm.Cond.instanceMethod ({ cls := "SkyStonesModel", name := "fact", desc := "(IIII)I" } : Jvm.MethodName) : Cond) ∈ wAll := wAll_of (List.mem_append_right _ (List.mem_of_getElem? (i := 1563) (by decide +kernel))) (by decide +kernel)
theorem qw_1564 : (Jvm.Cond.code ({ cls := "SkyStonesModel", name := "fact", desc := "(IIII)I" } : Jvm.MethodName) prog_14_method_43_code (6 : Nat) (Option.some Jvm.ClassFile.FieldType.int) : Cond) ∈ wAll := wAll_of (List.mem_append_right _ (List.mem_of_getElem? (i := 1564) (by decide +kernel))) (by decide +kernel)
theorem qs_83 : (Cond.selects yX12_isThing.cls yX12_isThing yX12_isThing) ∈ wAll := wAll_of (List.mem_append_left _ (List.mem_of_getElem? (i := 83) (by decide +kernel))) (by decide +kernel)
theorem qw_1569 : (Jvm.Cond.methodLink "SkyStonesModel" (415 : Nat) ({ cls := "SkyStonesModel", name := "isThing", desc := "(I)Z" } : Jvm.MethodName) : Cond) ∈ wAll := wAll_of (List.mem_append_right _ (List.mem_of_getElem? (i := 1569) (by decide +kernel))) (by decide +kernel)
theorem qw_1571 : (Jvm.Cond.instanceMethod ({ cls := "SkyStonesModel", name := "isThing", desc := "(I)Z" } : Jvm.MethodName) : Cond) ∈ wAll := wAll_of (List.mem_append_right _ (List.mem_of_getElem? (i := 1571) (by decide +kernel))) (by decide +kernel)
theorem qw_1572 : (Jvm.Cond.code ({ cls := "SkyStonesModel", name := "isThing", desc := "(I)Z" } : Jvm.MethodName) prog_14_method_44_code (2 : Nat) (Option.some Jvm.ClassFile.FieldType.boolean) : Cond) ∈ wAll := wAll_of (List.mem_append_right _ (List.mem_of_getElem? (i := 1572) (by decide +kernel))) (by decide +kernel)
theorem qs_87 : (Cond.selects yX12_isLive.cls yX12_isLive yX12_isLive) ∈ wAll := wAll_of (List.mem_append_left _ (List.mem_of_getElem? (i := 87) (by decide +kernel))) (by decide +kernel)
theorem qw_1601 : (Jvm.Cond.methodLink "SkyStonesModel" (418 : Nat) ({ cls := "SkyStonesModel", name := "isLive", desc := "(II)Z" } : Jvm.MethodName) : Cond) ∈ wAll := wAll_of (List.mem_append_right _ (List.mem_of_getElem? (i := 1601) (by decide +kernel))) (by decide +kernel)
theorem qw_1603 : (Jvm.Cond.instanceMethod ({ cls := "SkyStonesModel", name := "isLive", desc := "(II)Z" } : Jvm.MethodName) : Cond) ∈ wAll := wAll_of (List.mem_append_right _ (List.mem_of_getElem? (i := 1603) (by decide +kernel))) (by decide +kernel)
theorem qw_1604 : (Jvm.Cond.code ({ cls := "SkyStonesModel", name := "isLive", desc := "(II)Z" } : Jvm.MethodName) prog_14_method_51_code (4 : Nat) (Option.some Jvm.ClassFile.FieldType.boolean) : Cond) ∈ wAll := wAll_of (List.mem_append_right _ (List.mem_of_getElem? (i := 1604) (by decide +kernel))) (by decide +kernel)
theorem qs_86 : (Cond.selects yX12_lastOf.cls yX12_lastOf yX12_lastOf) ∈ wAll := wAll_of (List.mem_append_left _ (List.mem_of_getElem? (i := 86) (by decide +kernel))) (by decide +kernel)
theorem qw_1597 : (Jvm.Cond.methodLink "SkyStonesModel" (421 : Nat) ({ cls := "SkyStonesModel", name := "lastOf", desc := "(III)I" } : Jvm.MethodName) : Cond) ∈ wAll := wAll_of (List.mem_append_right _ (List.mem_of_getElem? (i := 1597) (by decide +kernel))) (by decide +kernel)
theorem qw_1599 : (Jvm.Cond.instanceMethod ({ cls := "SkyStonesModel", name := "lastOf", desc := "(III)I" } : Jvm.MethodName) : Cond) ∈ wAll := wAll_of (List.mem_append_right _ (List.mem_of_getElem? (i := 1599) (by decide +kernel))) (by decide +kernel)
theorem qw_1600 : (Jvm.Cond.code ({ cls := "SkyStonesModel", name := "lastOf", desc := "(III)I" } : Jvm.MethodName) prog_14_method_52_code (5 : Nat) (Option.some Jvm.ClassFile.FieldType.int) : Cond) ∈ wAll := wAll_of (List.mem_append_right _ (List.mem_of_getElem? (i := 1600) (by decide +kernel))) (by decide +kernel)
theorem qw_1612 : (Jvm.Cond.methodLink "SkyStonesModel" (425 : Nat) ({ cls := "SkyStonesModel", name := "plain", desc := "(I)I" } : Jvm.MethodName) : Cond) ∈ wAll := wAll_of (List.mem_append_right _ (List.mem_of_getElem? (i := 1612) (by decide +kernel))) (by decide +kernel)
theorem qw_1613 : (Jvm.Cond.static ({ cls := "SkyStonesModel", name := "plain", desc := "(I)I" } : Jvm.MethodName) : Cond) ∈ wAll := wAll_of (List.mem_append_right _ (List.mem_of_getElem? (i := 1613) (by decide +kernel))) (by decide +kernel)
theorem qw_1614 : (Jvm.Cond.code ({ cls := "SkyStonesModel", name := "plain", desc := "(I)I" } : Jvm.MethodName) prog_14_method_54_code (1 : Nat) (Option.some Jvm.ClassFile.FieldType.int) : Cond) ∈ wAll := wAll_of (List.mem_append_right _ (List.mem_of_getElem? (i := 1614) (by decide +kernel))) (by decide +kernel)
theorem qs_85 : (Cond.selects yX12_layThings.cls yX12_layThings yX12_layThings) ∈ wAll := wAll_of (List.mem_append_left _ (List.mem_of_getElem? (i := 85) (by decide +kernel))) (by decide +kernel)
theorem qw_1593 : (Jvm.Cond.methodLink "SkyStonesModel" (428 : Nat) ({ cls := "SkyStonesModel", name := "layThings", desc := "(I)V" } : Jvm.MethodName) : Cond) ∈ wAll := wAll_of (List.mem_append_right _ (List.mem_of_getElem? (i := 1593) (by decide +kernel))) (by decide +kernel)
theorem qw_1595 : (Jvm.Cond.instanceMethod ({ cls := "SkyStonesModel", name := "layThings", desc := "(I)V" } : Jvm.MethodName) : Cond) ∈ wAll := wAll_of (List.mem_append_right _ (List.mem_of_getElem? (i := 1595) (by decide +kernel))) (by decide +kernel)
theorem qw_1596 : (Jvm.Cond.code ({ cls := "SkyStonesModel", name := "layThings", desc := "(I)V" } : Jvm.MethodName) prog_14_method_53_code (5 : Nat) (Option.none : Option Jvm.ClassFile.FieldType) : Cond) ∈ wAll := wAll_of (List.mem_append_right _ (List.mem_of_getElem? (i := 1596) (by decide +kernel))) (by decide +kernel)
theorem qw_1609 : (Jvm.Cond.methodLink "SkyStonesModel" (431 : Nat) ({ cls := "SkyStonesModel", name := "degreeOf", desc := "(II)I" } : Jvm.MethodName) : Cond) ∈ wAll := wAll_of (List.mem_append_right _ (List.mem_of_getElem? (i := 1609) (by decide +kernel))) (by decide +kernel)
theorem qw_1610 : (Jvm.Cond.static ({ cls := "SkyStonesModel", name := "degreeOf", desc := "(II)I" } : Jvm.MethodName) : Cond) ∈ wAll := wAll_of (List.mem_append_right _ (List.mem_of_getElem? (i := 1610) (by decide +kernel))) (by decide +kernel)
theorem qw_1611 : (Jvm.Cond.code ({ cls := "SkyStonesModel", name := "degreeOf", desc := "(II)I" } : Jvm.MethodName) prog_14_method_55_code (6 : Nat) (Option.some Jvm.ClassFile.FieldType.int) : Cond) ∈ wAll := wAll_of (List.mem_append_right _ (List.mem_of_getElem? (i := 1611) (by decide +kernel))) (by decide +kernel)
theorem qs_89 : (Cond.selects yX12_look.cls yX12_look yX12_look) ∈ wAll := wAll_of (List.mem_append_left _ (List.mem_of_getElem? (i := 89) (by decide +kernel))) (by decide +kernel)
theorem qw_1630 : (Jvm.Cond.methodLink "SkyStonesModel" (435 : Nat) ({ cls := "SkyStonesModel", name := "look", desc := "(I)V" } : Jvm.MethodName) : Cond) ∈ wAll := wAll_of (List.mem_append_right _ (List.mem_of_getElem? (i := 1630) (by decide +kernel))) (by decide +kernel)
theorem qw_1632 : (Jvm.Cond.instanceMethod ({ cls := "SkyStonesModel", name := "look", desc := "(I)V" } : Jvm.MethodName) : Cond) ∈ wAll := wAll_of (List.mem_append_right _ (List.mem_of_getElem? (i := 1632) (by decide +kernel))) (by decide +kernel)
theorem qw_1633 : (Jvm.Cond.code ({ cls := "SkyStonesModel", name := "look", desc := "(I)V" } : Jvm.MethodName) prog_14_method_58_code (3 : Nat) (Option.none : Option Jvm.ClassFile.FieldType) : Cond) ∈ wAll := wAll_of (List.mem_append_right _ (List.mem_of_getElem? (i := 1633) (by decide +kernel))) (by decide +kernel)
theorem qs_92 : (Cond.selects yX12_isHeld.cls yX12_isHeld yX12_isHeld) ∈ wAll := wAll_of (List.mem_append_left _ (List.mem_of_getElem? (i := 92) (by decide +kernel))) (by decide +kernel)
theorem qw_1642 : (Jvm.Cond.methodLink "SkyStonesModel" (438 : Nat) ({ cls := "SkyStonesModel", name := "isHeld", desc := "(II)Z" } : Jvm.MethodName) : Cond) ∈ wAll := wAll_of (List.mem_append_right _ (List.mem_of_getElem? (i := 1642) (by decide +kernel))) (by decide +kernel)
theorem qw_1644 : (Jvm.Cond.instanceMethod ({ cls := "SkyStonesModel", name := "isHeld", desc := "(II)Z" } : Jvm.MethodName) : Cond) ∈ wAll := wAll_of (List.mem_append_right _ (List.mem_of_getElem? (i := 1644) (by decide +kernel))) (by decide +kernel)
theorem qw_1645 : (Jvm.Cond.code ({ cls := "SkyStonesModel", name := "isHeld", desc := "(II)Z" } : Jvm.MethodName) prog_14_method_62_code (6 : Nat) (Option.some Jvm.ClassFile.FieldType.boolean) : Cond) ∈ wAll := wAll_of (List.mem_append_right _ (List.mem_of_getElem? (i := 1645) (by decide +kernel))) (by decide +kernel)
theorem qs_90 : (Cond.selects yX12_lineOf.cls yX12_lineOf yX12_lineOf) ∈ wAll := wAll_of (List.mem_append_left _ (List.mem_of_getElem? (i := 90) (by decide +kernel))) (by decide +kernel)
theorem qw_1634 : (Jvm.Cond.methodLink "SkyStonesModel" (441 : Nat) ({ cls := "SkyStonesModel", name := "lineOf", desc := "(II)I" } : Jvm.MethodName) : Cond) ∈ wAll := wAll_of (List.mem_append_right _ (List.mem_of_getElem? (i := 1634) (by decide +kernel))) (by decide +kernel)
theorem qw_1636 : (Jvm.Cond.instanceMethod ({ cls := "SkyStonesModel", name := "lineOf", desc := "(II)I" } : Jvm.MethodName) : Cond) ∈ wAll := wAll_of (List.mem_append_right _ (List.mem_of_getElem? (i := 1636) (by decide +kernel))) (by decide +kernel)
theorem qw_1637 : (Jvm.Cond.code ({ cls := "SkyStonesModel", name := "lineOf", desc := "(II)I" } : Jvm.MethodName) prog_14_method_59_code (5 : Nat) (Option.some Jvm.ClassFile.FieldType.int) : Cond) ∈ wAll := wAll_of (List.mem_append_right _ (List.mem_of_getElem? (i := 1637) (by decide +kernel))) (by decide +kernel)
theorem qs_91 : (Cond.selects yX12_isDoor.cls yX12_isDoor yX12_isDoor) ∈ wAll := wAll_of (List.mem_append_left _ (List.mem_of_getElem? (i := 91) (by decide +kernel))) (by decide +kernel)
theorem qw_1638 : (Jvm.Cond.methodLink "SkyStonesModel" (444 : Nat) ({ cls := "SkyStonesModel", name := "isDoor", desc := "(II)Z" } : Jvm.MethodName) : Cond) ∈ wAll := wAll_of (List.mem_append_right _ (List.mem_of_getElem? (i := 1638) (by decide +kernel))) (by decide +kernel)
theorem qw_1640 : (Jvm.Cond.instanceMethod ({ cls := "SkyStonesModel", name := "isDoor", desc := "(II)Z" } : Jvm.MethodName) : Cond) ∈ wAll := wAll_of (List.mem_append_right _ (List.mem_of_getElem? (i := 1640) (by decide +kernel))) (by decide +kernel)
theorem qw_1641 : (Jvm.Cond.code ({ cls := "SkyStonesModel", name := "isDoor", desc := "(II)Z" } : Jvm.MethodName) prog_14_method_57_code (4 : Nat) (Option.some Jvm.ClassFile.FieldType.boolean) : Cond) ∈ wAll := wAll_of (List.mem_append_right _ (List.mem_of_getElem? (i := 1641) (by decide +kernel))) (by decide +kernel)
theorem qs_94 : (Cond.selects yX12_sum.cls yX12_sum yX12_sum) ∈ wAll := wAll_of (List.mem_append_left _ (List.mem_of_getElem? (i := 94) (by decide +kernel))) (by decide +kernel)
theorem qw_1650 : (Jvm.Cond.methodLink "SkyStonesModel" (451 : Nat) ({ cls := "SkyStonesModel", name := "sum", desc := "(II)I" } : Jvm.MethodName) : Cond) ∈ wAll := wAll_of (List.mem_append_right _ (List.mem_of_getElem? (i := 1650) (by decide +kernel))) (by decide +kernel)
theorem qw_1652 : (Jvm.Cond.instanceMethod ({ cls := "SkyStonesModel", name := "sum", desc := "(II)I" } : Jvm.MethodName) : Cond) ∈ wAll := wAll_of (List.mem_append_right _ (List.mem_of_getElem? (i := 1652) (by decide +kernel))) (by decide +kernel)
theorem qw_1653 : (Jvm.Cond.code ({ cls := "SkyStonesModel", name := "sum", desc := "(II)I" } : Jvm.MethodName) prog_14_method_60_code (8 : Nat) (Option.some Jvm.ClassFile.FieldType.int) : Cond) ∈ wAll := wAll_of (List.mem_append_right _ (List.mem_of_getElem? (i := 1653) (by decide +kernel))) (by decide +kernel)
theorem qs_93 : (Cond.selects yX12_isLit.cls yX12_isLit yX12_isLit) ∈ wAll := wAll_of (List.mem_append_left _ (List.mem_of_getElem? (i := 93) (by decide +kernel))) (by decide +kernel)
theorem qw_1646 : (Jvm.Cond.methodLink "SkyStonesModel" (454 : Nat) ({ cls := "SkyStonesModel", name := "isLit", desc := "(I)Z" } : Jvm.MethodName) : Cond) ∈ wAll := wAll_of (List.mem_append_right _ (List.mem_of_getElem? (i := 1646) (by decide +kernel))) (by decide +kernel)
theorem qw_1648 : (Jvm.Cond.instanceMethod ({ cls := "SkyStonesModel", name := "isLit", desc := "(I)Z" } : Jvm.MethodName) : Cond) ∈ wAll := wAll_of (List.mem_append_right _ (List.mem_of_getElem? (i := 1648) (by decide +kernel))) (by decide +kernel)
theorem qw_1649 : (Jvm.Cond.code ({ cls := "SkyStonesModel", name := "isLit", desc := "(I)Z" } : Jvm.MethodName) prog_14_method_61_code (5 : Nat) (Option.some Jvm.ClassFile.FieldType.boolean) : Cond) ∈ wAll := wAll_of (List.mem_append_right _ (List.mem_of_getElem? (i := 1649) (by decide +kernel))) (by decide +kernel)
theorem qs_84 : (Cond.selects yX12_isKnown.cls yX12_isKnown yX12_isKnown) ∈ wAll := wAll_of (List.mem_append_left _ (List.mem_of_getElem? (i := 84) (by decide +kernel))) (by decide +kernel)
theorem qw_1589 : (Jvm.Cond.methodLink "SkyStonesModel" (457 : Nat) ({ cls := "SkyStonesModel", name := "isKnown", desc := "(I)Z" } : Jvm.MethodName) : Cond) ∈ wAll := wAll_of (List.mem_append_right _ (List.mem_of_getElem? (i := 1589) (by decide +kernel))) (by decide +kernel)
theorem qw_1591 : (Jvm.Cond.instanceMethod ({ cls := "SkyStonesModel", name := "isKnown", desc := "(I)Z" } : Jvm.MethodName) : Cond) ∈ wAll := wAll_of (List.mem_append_right _ (List.mem_of_getElem? (i := 1591) (by decide +kernel))) (by decide +kernel)
theorem qw_1592 : (Jvm.Cond.code ({ cls := "SkyStonesModel", name := "isKnown", desc := "(I)Z" } : Jvm.MethodName) prog_14_method_50_code (2 : Nat) (Option.some Jvm.ClassFile.FieldType.boolean) : Cond) ∈ wAll := wAll_of (List.mem_append_right _ (List.mem_of_getElem? (i := 1592) (by decide +kernel))) (by decide +kernel)
theorem qw_1619 : (Jvm.Cond.methodLink "SkyStonesModel" (460 : Nat) ({ cls := "SkyStonesModel", name := "vectorOf", desc := "(II)I" } : Jvm.MethodName) : Cond) ∈ wAll := wAll_of (List.mem_append_right _ (List.mem_of_getElem? (i := 1619) (by decide +kernel))) (by decide +kernel)
theorem qw_1620 : (Jvm.Cond.static ({ cls := "SkyStonesModel", name := "vectorOf", desc := "(II)I" } : Jvm.MethodName) : Cond) ∈ wAll := wAll_of (List.mem_append_right _ (List.mem_of_getElem? (i := 1620) (by decide +kernel))) (by decide +kernel)
theorem qw_1621 : (Jvm.Cond.code ({ cls := "SkyStonesModel", name := "vectorOf", desc := "(II)I" } : Jvm.MethodName) prog_14_method_65_code (2 : Nat) (Option.some Jvm.ClassFile.FieldType.int) : Cond) ∈ wAll := wAll_of (List.mem_append_right _ (List.mem_of_getElem? (i := 1621) (by decide +kernel))) (by decide +kernel)
theorem qs_88 : (Cond.selects yX12_lay.cls yX12_lay yX12_lay) ∈ wAll := wAll_of (List.mem_append_left _ (List.mem_of_getElem? (i := 88) (by decide +kernel))) (by decide +kernel)
theorem qw_1626 : (Jvm.Cond.methodLink "SkyStonesModel" (463 : Nat) ({ cls := "SkyStonesModel", name := "lay", desc := "(I)V" } : Jvm.MethodName) : Cond) ∈ wAll := wAll_of (List.mem_append_right _ (List.mem_of_getElem? (i := 1626) (by decide +kernel))) (by decide +kernel)
theorem qw_1628 : (Jvm.Cond.instanceMethod ({ cls := "SkyStonesModel", name := "lay", desc := "(I)V" } : Jvm.MethodName) : Cond) ∈ wAll := wAll_of (List.mem_append_right _ (List.mem_of_getElem? (i := 1628) (by decide +kernel))) (by decide +kernel)
theorem qw_1629 : (Jvm.Cond.code ({ cls := "SkyStonesModel", name := "lay", desc := "(I)V" } : Jvm.MethodName) prog_14_method_56_code (8 : Nat) (Option.none : Option Jvm.ClassFile.FieldType) : Cond) ∈ wAll := wAll_of (List.mem_append_right _ (List.mem_of_getElem? (i := 1629) (by decide +kernel))) (by decide +kernel)
theorem qs_95 : (Cond.selects yX12_heightOf.cls yX12_heightOf yX12_heightOf) ∈ wAll := wAll_of (List.mem_append_left _ (List.mem_of_getElem? (i := 95) (by decide +kernel))) (by decide +kernel)
theorem qw_1662 : (Jvm.Cond.methodLink "SkyStonesModel" (466 : Nat) ({ cls := "SkyStonesModel", name := "heightOf", desc := "(I)I" } : Jvm.MethodName) : Cond) ∈ wAll := wAll_of (List.mem_append_right _ (List.mem_of_getElem? (i := 1662) (by decide +kernel))) (by decide +kernel)
theorem qw_1664 : (Jvm.Cond.instanceMethod ({ cls := "SkyStonesModel", name := "heightOf", desc := "(I)I" } : Jvm.MethodName) : Cond) ∈ wAll := wAll_of (List.mem_append_right _ (List.mem_of_getElem? (i := 1664) (by decide +kernel))) (by decide +kernel)
theorem qw_1665 : (Jvm.Cond.code ({ cls := "SkyStonesModel", name := "heightOf", desc := "(I)I" } : Jvm.MethodName) prog_14_method_69_code (4 : Nat) (Option.some Jvm.ClassFile.FieldType.int) : Cond) ∈ wAll := wAll_of (List.mem_append_right _ (List.mem_of_getElem? (i := 1665) (by decide +kernel))) (by decide +kernel)
theorem qs_97 : (Cond.selects yX12_skyAt.cls yX12_skyAt yX12_skyAt) ∈ wAll := wAll_of (List.mem_append_left _ (List.mem_of_getElem? (i := 97) (by decide +kernel))) (by decide +kernel)
theorem qw_1677 : (Jvm.Cond.methodLink "SkyStonesModel" (469 : Nat) ({ cls := "SkyStonesModel", name := "skyAt", desc := "(III)I" } : Jvm.MethodName) : Cond) ∈ wAll := wAll_of (List.mem_append_right _ (List.mem_of_getElem? (i := 1677) (by decide +kernel))) (by decide +kernel)
theorem qw_1679 : (Jvm.Cond.instanceMethod ({ cls := "SkyStonesModel", name := "skyAt", desc := "(III)I" } : Jvm.MethodName) : Cond) ∈ wAll := wAll_of (List.mem_append_right _ (List.mem_of_getElem? (i := 1679) (by decide +kernel))) (by decide +kernel)
theorem qw_1680 : (Jvm.Cond.code ({ cls := "SkyStonesModel", name := "skyAt", desc := "(III)I" } : Jvm.MethodName) prog_14_method_71_code (5 : Nat) (Option.some Jvm.ClassFile.FieldType.int) : Cond) ∈ wAll := wAll_of (List.mem_append_right _ (List.mem_of_getElem? (i := 1680) (by decide +kernel))) (by decide +kernel)
theorem qw_1670 : (Jvm.Cond.methodLink "SkyStonesModel" (472 : Nat) ({ cls := "SkyStonesModel", name := "isYear", desc := "(I)Z" } : Jvm.MethodName) : Cond) ∈ wAll := wAll_of (List.mem_append_right _ (List.mem_of_getElem? (i := 1670) (by decide +kernel))) (by decide +kernel)
theorem qw_1671 : (Jvm.Cond.static ({ cls := "SkyStonesModel", name := "isYear", desc := "(I)Z" } : Jvm.MethodName) : Cond) ∈ wAll := wAll_of (List.mem_append_right _ (List.mem_of_getElem? (i := 1671) (by decide +kernel))) (by decide +kernel)
theorem qw_1672 : (Jvm.Cond.code ({ cls := "SkyStonesModel", name := "isYear", desc := "(I)Z" } : Jvm.MethodName) prog_14_method_73_code (1 : Nat) (Option.some Jvm.ClassFile.FieldType.boolean) : Cond) ∈ wAll := wAll_of (List.mem_append_right _ (List.mem_of_getElem? (i := 1672) (by decide +kernel))) (by decide +kernel)
theorem qs_96 : (Cond.selects yX12_riseOf.cls yX12_riseOf yX12_riseOf) ∈ wAll := wAll_of (List.mem_append_left _ (List.mem_of_getElem? (i := 96) (by decide +kernel))) (by decide +kernel)
theorem qw_1673 : (Jvm.Cond.methodLink "SkyStonesModel" (475 : Nat) ({ cls := "SkyStonesModel", name := "riseOf", desc := "(II)I" } : Jvm.MethodName) : Cond) ∈ wAll := wAll_of (List.mem_append_right _ (List.mem_of_getElem? (i := 1673) (by decide +kernel))) (by decide +kernel)
theorem qw_1675 : (Jvm.Cond.instanceMethod ({ cls := "SkyStonesModel", name := "riseOf", desc := "(II)I" } : Jvm.MethodName) : Cond) ∈ wAll := wAll_of (List.mem_append_right _ (List.mem_of_getElem? (i := 1675) (by decide +kernel))) (by decide +kernel)
theorem qw_1676 : (Jvm.Cond.code ({ cls := "SkyStonesModel", name := "riseOf", desc := "(II)I" } : Jvm.MethodName) prog_14_method_72_code (4 : Nat) (Option.some Jvm.ClassFile.FieldType.int) : Cond) ∈ wAll := wAll_of (List.mem_append_right _ (List.mem_of_getElem? (i := 1676) (by decide +kernel))) (by decide +kernel)
theorem qw_1693 : (Jvm.Cond.methodLink "SkyStonesModel" (478 : Nat) ({ cls := "SkyStonesModel", name := "apart", desc := "(II)I" } : Jvm.MethodName) : Cond) ∈ wAll := wAll_of (List.mem_append_right _ (List.mem_of_getElem? (i := 1693) (by decide +kernel))) (by decide +kernel)
theorem qw_1694 : (Jvm.Cond.static ({ cls := "SkyStonesModel", name := "apart", desc := "(II)I" } : Jvm.MethodName) : Cond) ∈ wAll := wAll_of (List.mem_append_right _ (List.mem_of_getElem? (i := 1694) (by decide +kernel))) (by decide +kernel)
theorem qw_1695 : (Jvm.Cond.code ({ cls := "SkyStonesModel", name := "apart", desc := "(II)I" } : Jvm.MethodName) prog_14_method_76_code (3 : Nat) (Option.some Jvm.ClassFile.FieldType.int) : Cond) ∈ wAll := wAll_of (List.mem_append_right _ (List.mem_of_getElem? (i := 1695) (by decide +kernel))) (by decide +kernel)
theorem qs_98 : (Cond.selects yX12_laySky.cls yX12_laySky yX12_laySky) ∈ wAll := wAll_of (List.mem_append_left _ (List.mem_of_getElem? (i := 98) (by decide +kernel))) (by decide +kernel)
theorem qw_1685 : (Jvm.Cond.methodLink "SkyStonesModel" (481 : Nat) ({ cls := "SkyStonesModel", name := "laySky", desc := "(I)V" } : Jvm.MethodName) : Cond) ∈ wAll := wAll_of (List.mem_append_right _ (List.mem_of_getElem? (i := 1685) (by decide +kernel))) (by decide +kernel)
theorem qw_1687 : (Jvm.Cond.instanceMethod ({ cls := "SkyStonesModel", name := "laySky", desc := "(I)V" } : Jvm.MethodName) : Cond) ∈ wAll := wAll_of (List.mem_append_right _ (List.mem_of_getElem? (i := 1687) (by decide +kernel))) (by decide +kernel)
theorem qw_1688 : (Jvm.Cond.code ({ cls := "SkyStonesModel", name := "laySky", desc := "(I)V" } : Jvm.MethodName) prog_14_method_75_code (3 : Nat) (Option.none : Option Jvm.ClassFile.FieldType) : Cond) ∈ wAll := wAll_of (List.mem_append_right _ (List.mem_of_getElem? (i := 1688) (by decide +kernel))) (by decide +kernel)
theorem qs_99 : (Cond.selects yX12_hitBy.cls yX12_hitBy yX12_hitBy) ∈ wAll := wAll_of (List.mem_append_left _ (List.mem_of_getElem? (i := 99) (by decide +kernel))) (by decide +kernel)
theorem qw_1689 : (Jvm.Cond.methodLink "SkyStonesModel" (484 : Nat) ({ cls := "SkyStonesModel", name := "hitBy", desc := "(IIZ)I" } : Jvm.MethodName) : Cond) ∈ wAll := wAll_of (List.mem_append_right _ (List.mem_of_getElem? (i := 1689) (by decide +kernel))) (by decide +kernel)
theorem qw_1691 : (Jvm.Cond.instanceMethod ({ cls := "SkyStonesModel", name := "hitBy", desc := "(IIZ)I" } : Jvm.MethodName) : Cond) ∈ wAll := wAll_of (List.mem_append_right _ (List.mem_of_getElem? (i := 1691) (by decide +kernel))) (by decide +kernel)
theorem qw_1692 : (Jvm.Cond.code ({ cls := "SkyStonesModel", name := "hitBy", desc := "(IIZ)I" } : Jvm.MethodName) prog_14_method_77_code (6 : Nat) (Option.some Jvm.ClassFile.FieldType.int) : Cond) ∈ wAll := wAll_of (List.mem_append_right _ (List.mem_of_getElem? (i := 1692) (by decide +kernel))) (by decide +kernel)
theorem qw_1712 : (Jvm.Cond.methodLink "SkyStonesModel" (488 : Nat) ({ cls := "SkyStonesModel", name := "turned", desc := "(II)I" } : Jvm.MethodName) : Cond) ∈ wAll := wAll_of (List.mem_append_right _ (List.mem_of_getElem? (i := 1712) (by decide +kernel))) (by decide +kernel)
theorem qw_1713 : (Jvm.Cond.static ({ cls := "SkyStonesModel", name := "turned", desc := "(II)I" } : Jvm.MethodName) : Cond) ∈ wAll := wAll_of (List.mem_append_right _ (List.mem_of_getElem? (i := 1713) (by decide +kernel))) (by decide +kernel)
theorem qw_1714 : (Jvm.Cond.code ({ cls := "SkyStonesModel", name := "turned", desc := "(II)I" } : Jvm.MethodName) prog_14_method_79_code (2 : Nat) (Option.some Jvm.ClassFile.FieldType.int) : Cond) ∈ wAll := wAll_of (List.mem_append_right _ (List.mem_of_getElem? (i := 1714) (by decide +kernel))) (by decide +kernel)
theorem qs_100 : (Cond.selects yX12_isSet.cls yX12_isSet yX12_isSet) ∈ wAll := wAll_of (List.mem_append_left _ (List.mem_of_getElem? (i := 100) (by decide +kernel))) (by decide +kernel)
theorem qw_1700 : (Jvm.Cond.methodLink "SkyStonesModel" (491 : Nat) ({ cls := "SkyStonesModel", name := "isSet", desc := "(III)Z" } : Jvm.MethodName) : Cond) ∈ wAll := wAll_of (List.mem_append_right _ (List.mem_of_getElem? (i := 1700) (by decide +kernel))) (by decide +kernel)
theorem qw_1702 : (Jvm.Cond.instanceMethod ({ cls := "SkyStonesModel", name := "isSet", desc := "(III)Z" } : Jvm.MethodName) : Cond) ∈ wAll := wAll_of (List.mem_append_right _ (List.mem_of_getElem? (i := 1702) (by decide +kernel))) (by decide +kernel)
theorem qw_1703 : (Jvm.Cond.code ({ cls := "SkyStonesModel", name := "isSet", desc := "(III)Z" } : Jvm.MethodName) prog_14_method_81_code (4 : Nat) (Option.some Jvm.ClassFile.FieldType.boolean) : Cond) ∈ wAll := wAll_of (List.mem_append_right _ (List.mem_of_getElem? (i := 1703) (by decide +kernel))) (by decide +kernel)
theorem qs_101 : (Cond.selects yX12_layAll.cls yX12_layAll yX12_layAll) ∈ wAll := wAll_of (List.mem_append_left _ (List.mem_of_getElem? (i := 101) (by decide +kernel))) (by decide +kernel)
theorem qw_1704 : (Jvm.Cond.methodLink "SkyStonesModel" (494 : Nat) ({ cls := "SkyStonesModel", name := "layAll", desc := "(II)V" } : Jvm.MethodName) : Cond) ∈ wAll := wAll_of (List.mem_append_right _ (List.mem_of_getElem? (i := 1704) (by decide +kernel))) (by decide +kernel)
theorem qw_1706 : (Jvm.Cond.instanceMethod ({ cls := "SkyStonesModel", name := "layAll", desc := "(II)V" } : Jvm.MethodName) : Cond) ∈ wAll := wAll_of (List.mem_append_right _ (List.mem_of_getElem? (i := 1706) (by decide +kernel))) (by decide +kernel)
theorem qw_1707 : (Jvm.Cond.code ({ cls := "SkyStonesModel", name := "layAll", desc := "(II)V" } : Jvm.MethodName) prog_14_method_82_code (3 : Nat) (Option.none : Option Jvm.ClassFile.FieldType) : Cond) ∈ wAll := wAll_of (List.mem_append_right _ (List.mem_of_getElem? (i := 1707) (by decide +kernel))) (by decide +kernel)
theorem qs_102 : (Cond.selects yX12_hitsOf.cls yX12_hitsOf yX12_hitsOf) ∈ wAll := wAll_of (List.mem_append_left _ (List.mem_of_getElem? (i := 102) (by decide +kernel))) (by decide +kernel)
theorem qw_1708 : (Jvm.Cond.methodLink "SkyStonesModel" (497 : Nat) ({ cls := "SkyStonesModel", name := "hitsOf", desc := "(IIZ)I" } : Jvm.MethodName) : Cond) ∈ wAll := wAll_of (List.mem_append_right _ (List.mem_of_getElem? (i := 1708) (by decide +kernel))) (by decide +kernel)
theorem qw_1710 : (Jvm.Cond.instanceMethod ({ cls := "SkyStonesModel", name := "hitsOf", desc := "(IIZ)I" } : Jvm.MethodName) : Cond) ∈ wAll := wAll_of (List.mem_append_right _ (List.mem_of_getElem? (i := 1710) (by decide +kernel))) (by decide +kernel)
theorem qw_1711 : (Jvm.Cond.code ({ cls := "SkyStonesModel", name := "hitsOf", desc := "(IIZ)I" } : Jvm.MethodName) prog_14_method_80_code (6 : Nat) (Option.some Jvm.ClassFile.FieldType.int) : Cond) ∈ wAll := wAll_of (List.mem_append_right _ (List.mem_of_getElem? (i := 1711) (by decide +kernel))) (by decide +kernel)
theorem qs_103 : (Cond.selects yX12_asMany.cls yX12_asMany yX12_asMany) ∈ wAll := wAll_of (List.mem_append_left _ (List.mem_of_getElem? (i := 103) (by decide +kernel))) (by decide +kernel)
theorem qw_1723 : (Jvm.Cond.methodLink "SkyStonesModel" (500 : Nat) ({ cls := "SkyStonesModel", name := "asMany", desc := "(I)I" } : Jvm.MethodName) : Cond) ∈ wAll := wAll_of (List.mem_append_right _ (List.mem_of_getElem? (i := 1723) (by decide +kernel))) (by decide +kernel)
theorem qw_1725 : (Jvm.Cond.instanceMethod ({ cls := "SkyStonesModel", name := "asMany", desc := "(I)I" } : Jvm.MethodName) : Cond) ∈ wAll := wAll_of (List.mem_append_right _ (List.mem_of_getElem? (i := 1725) (by decide +kernel))) (by decide +kernel)
theorem qw_1726 : (Jvm.Cond.code ({ cls := "SkyStonesModel", name := "asMany", desc := "(I)I" } : Jvm.MethodName) prog_14_method_85_code (5 : Nat) (Option.some Jvm.ClassFile.FieldType.int) : Cond) ∈ wAll := wAll_of (List.mem_append_right _ (List.mem_of_getElem? (i := 1726) (by decide +kernel))) (by decide +kernel)
theorem qs_105 : (Cond.selects yX12_strikeBy.cls yX12_strikeBy yX12_strikeBy) ∈ wAll := wAll_of (List.mem_append_left _ (List.mem_of_getElem? (i := 105) (by decide +kernel))) (by decide +kernel)
theorem qw_1743 : (Jvm.Cond.methodLink "SkyStonesModel" (503 : Nat) ({ cls := "SkyStonesModel", name := "strikeBy", desc := "(I)V" } : Jvm.MethodName) : Cond) ∈ wAll := wAll_of (List.mem_append_right _ (List.mem_of_getElem? (i := 1743) (by decide +kernel))) (by decide +kernel)
theorem qw_1745 : (Jvm.Cond.instanceMethod ({ cls := "SkyStonesModel", name := "strikeBy", desc := "(I)V" } : Jvm.MethodName) : Cond) ∈ wAll := wAll_of (List.mem_append_right _ (List.mem_of_getElem? (i := 1745) (by decide +kernel))) (by decide +kernel)
theorem qw_1746 : (Jvm.Cond.code ({ cls := "SkyStonesModel", name := "strikeBy", desc := "(I)V" } : Jvm.MethodName) prog_14_method_90_code (5 : Nat) (Option.none : Option Jvm.ClassFile.FieldType) : Cond) ∈ wAll := wAll_of (List.mem_append_right _ (List.mem_of_getElem? (i := 1746) (by decide +kernel))) (by decide +kernel)
theorem qs_104 : (Cond.selects yX12_strike.cls yX12_strike yX12_strike) ∈ wAll := wAll_of (List.mem_append_left _ (List.mem_of_getElem? (i := 104) (by decide +kernel))) (by decide +kernel)
theorem qw_1739 : (Jvm.Cond.methodLink "SkyStonesModel" (506 : Nat) ({ cls := "SkyStonesModel", name := "strike", desc := "()V" } : Jvm.MethodName) : Cond) ∈ wAll := wAll_of (List.mem_append_right _ (List.mem_of_getElem? (i := 1739) (by decide +kernel))) (by decide +kernel)
theorem qw_1741 : (Jvm.Cond.instanceMethod ({ cls := "SkyStonesModel", name := "strike", desc := "()V" } : Jvm.MethodName) : Cond) ∈ wAll := wAll_of (List.mem_append_right _ (List.mem_of_getElem? (i := 1741) (by decide +kernel))) (by decide +kernel)
theorem qw_1742 : (Jvm.Cond.code ({ cls := "SkyStonesModel", name := "strike", desc := "()V" } : Jvm.MethodName) prog_14_method_89_code (4 : Nat) (Option.none : Option Jvm.ClassFile.FieldType) : Cond) ∈ wAll := wAll_of (List.mem_append_right _ (List.mem_of_getElem? (i := 1742) (by decide +kernel))) (by decide +kernel)
theorem qs_106 : (Cond.selects yX12_isSpan.cls yX12_isSpan yX12_isSpan) ∈ wAll := wAll_of (List.mem_append_left _ (List.mem_of_getElem? (i := 106) (by decide +kernel))) (by decide +kernel)
theorem qw_1763 : (Jvm.Cond.methodLink "SkyStonesModel" (509 : Nat) ({ cls := "SkyStonesModel", name := "isSpan", desc := "(IIIII)Z" } : Jvm.MethodName) : Cond) ∈ wAll := wAll_of (List.mem_append_right _ (List.mem_of_getElem? (i := 1763) (by decide +kernel))) (by decide +kernel)
theorem qw_1765 : (Jvm.Cond.instanceMethod ({ cls := "SkyStonesModel", name := "isSpan", desc := "(IIIII)Z" } : Jvm.MethodName) : Cond) ∈ wAll := wAll_of (List.mem_append_right _ (List.mem_of_getElem? (i := 1765) (by decide +kernel))) (by decide +kernel)
theorem qw_1766 : (Jvm.Cond.code ({ cls := "SkyStonesModel", name := "isSpan", desc := "(IIIII)Z" } : Jvm.MethodName) prog_14_method_95_code (6 : Nat) (Option.some Jvm.ClassFile.FieldType.boolean) : Cond) ∈ wAll := wAll_of (List.mem_append_right _ (List.mem_of_getElem? (i := 1766) (by decide +kernel))) (by decide +kernel)
theorem qs_107 : (Cond.selects yX12_pointed.cls yX12_pointed yX12_pointed) ∈ wAll := wAll_of (List.mem_append_left _ (List.mem_of_getElem? (i := 107) (by decide +kernel))) (by decide +kernel)
theorem qw_1787 : (Jvm.Cond.methodLink "SkyStonesModel" (516 : Nat) ({ cls := "SkyStonesModel", name := "pointed", desc := "(IIZ)I" } : Jvm.MethodName) : Cond) ∈ wAll := wAll_of (List.mem_append_right _ (List.mem_of_getElem? (i := 1787) (by decide +kernel))) (by decide +kernel)
theorem qw_1789 : (Jvm.Cond.instanceMethod ({ cls := "SkyStonesModel", name := "pointed", desc := "(IIZ)I" } : Jvm.MethodName) : Cond) ∈ wAll := wAll_of (List.mem_append_right _ (List.mem_of_getElem? (i := 1789) (by decide +kernel))) (by decide +kernel)
theorem qw_1790 : (Jvm.Cond.code ({ cls := "SkyStonesModel", name := "pointed", desc := "(IIZ)I" } : Jvm.MethodName) prog_14_method_101_code (6 : Nat) (Option.some Jvm.ClassFile.FieldType.int) : Cond) ∈ wAll := wAll_of (List.mem_append_right _ (List.mem_of_getElem? (i := 1790) (by decide +kernel))) (by decide +kernel)
theorem qw_1798 : (Jvm.Cond.methodLink "SkyStonesModel" (519 : Nat) ({ cls := "SkyStonesModel", name := "chosen", desc := "(II)J" } : Jvm.MethodName) : Cond) ∈ wAll := wAll_of (List.mem_append_right _ (List.mem_of_getElem? (i := 1798) (by decide +kernel))) (by decide +kernel)
theorem qw_1799 : (Jvm.Cond.static ({ cls := "SkyStonesModel", name := "chosen", desc := "(II)J" } : Jvm.MethodName) : Cond) ∈ wAll := wAll_of (List.mem_append_right _ (List.mem_of_getElem? (i := 1799) (by decide +kernel))) (by decide +kernel)
theorem qw_1800 : (Jvm.Cond.code ({ cls := "SkyStonesModel", name := "chosen", desc := "(II)J" } : Jvm.MethodName) prog_14_method_103_code (5 : Nat) (Option.some Jvm.ClassFile.FieldType.long) : Cond) ∈ wAll := wAll_of (List.mem_append_right _ (List.mem_of_getElem? (i := 1800) (by decide +kernel))) (by decide +kernel)
theorem qw_1801 : (Jvm.Cond.methodLink "SkyStonesModel" (523 : Nat) ({ cls := "SkyStonesModel", name := "power", desc := "(II)J" } : Jvm.MethodName) : Cond) ∈ wAll := wAll_of (List.mem_append_right _ (List.mem_of_getElem? (i := 1801) (by decide +kernel))) (by decide +kernel)
theorem qw_1802 : (Jvm.Cond.static ({ cls := "SkyStonesModel", name := "power", desc := "(II)J" } : Jvm.MethodName) : Cond) ∈ wAll := wAll_of (List.mem_append_right _ (List.mem_of_getElem? (i := 1802) (by decide +kernel))) (by decide +kernel)
theorem qw_1803 : (Jvm.Cond.code ({ cls := "SkyStonesModel", name := "power", desc := "(II)J" } : Jvm.MethodName) prog_14_method_104_code (5 : Nat) (Option.some Jvm.ClassFile.FieldType.long) : Cond) ∈ wAll := wAll_of (List.mem_append_right _ (List.mem_of_getElem? (i := 1803) (by decide +kernel))) (by decide +kernel)
theorem qw_1795 : (Jvm.Cond.methodLink "SkyStonesModel" (526 : Nat) ({ cls := "SkyStonesModel", name := "rows", desc := "(IIII)J" } : Jvm.MethodName) : Cond) ∈ wAll := wAll_of (List.mem_append_right _ (List.mem_of_getElem? (i := 1795) (by decide +kernel))) (by decide +kernel)
theorem qw_1796 : (Jvm.Cond.static ({ cls := "SkyStonesModel", name := "rows", desc := "(IIII)J" } : Jvm.MethodName) : Cond) ∈ wAll := wAll_of (List.mem_append_right _ (List.mem_of_getElem? (i := 1796) (by decide +kernel))) (by decide +kernel)
theorem qw_1797 : (Jvm.Cond.code ({ cls := "SkyStonesModel", name := "rows", desc := "(IIII)J" } : Jvm.MethodName) prog_14_method_105_code (7 : Nat) (Option.some Jvm.ClassFile.FieldType.long) : Cond) ∈ wAll := wAll_of (List.mem_append_right _ (List.mem_of_getElem? (i := 1797) (by decide +kernel))) (by decide +kernel)
theorem qw_1823 : (Jvm.Cond.methodLink "SkyStonesModel" (533 : Nat) ({ cls := "SkyStonesModel", name := "mixed", desc := "(II)I" } : Jvm.MethodName) : Cond) ∈ wAll := wAll_of (List.mem_append_right _ (List.mem_of_getElem? (i := 1823) (by decide +kernel))) (by decide +kernel)
theorem qw_1824 : (Jvm.Cond.static ({ cls := "SkyStonesModel", name := "mixed", desc := "(II)I" } : Jvm.MethodName) : Cond) ∈ wAll := wAll_of (List.mem_append_right _ (List.mem_of_getElem? (i := 1824) (by decide +kernel))) (by decide +kernel)
theorem qw_1825 : (Jvm.Cond.code ({ cls := "SkyStonesModel", name := "mixed", desc := "(II)I" } : Jvm.MethodName) prog_14_method_107_code (3 : Nat) (Option.some Jvm.ClassFile.FieldType.int) : Cond) ∈ wAll := wAll_of (List.mem_append_right _ (List.mem_of_getElem? (i := 1825) (by decide +kernel))) (by decide +kernel)
theorem qw_1820 : (Jvm.Cond.methodLink "SkyStonesModel" (536 : Nat) ({ cls := "SkyStonesModel", name := "lot", desc := "(III)I" } : Jvm.MethodName) : Cond) ∈ wAll := wAll_of (List.mem_append_right _ (List.mem_of_getElem? (i := 1820) (by decide +kernel))) (by decide +kernel)
theorem qw_1821 : (Jvm.Cond.static ({ cls := "SkyStonesModel", name := "lot", desc := "(III)I" } : Jvm.MethodName) : Cond) ∈ wAll := wAll_of (List.mem_append_right _ (List.mem_of_getElem? (i := 1821) (by decide +kernel))) (by decide +kernel)
theorem qw_1822 : (Jvm.Cond.code ({ cls := "SkyStonesModel", name := "lot", desc := "(III)I" } : Jvm.MethodName) prog_14_method_108_code (3 : Nat) (Option.some Jvm.ClassFile.FieldType.int) : Cond) ∈ wAll := wAll_of (List.mem_append_right _ (List.mem_of_getElem? (i := 1822) (by decide +kernel))) (by decide +kernel)
theorem qs_109 : (Cond.selects yX12_make.cls yX12_make yX12_make) ∈ wAll := wAll_of (List.mem_append_left _ (List.mem_of_getElem? (i := 109) (by decide +kernel))) (by decide +kernel)
theorem qw_1816 : (Jvm.Cond.methodLink "SkyStonesModel" (539 : Nat) ({ cls := "SkyStonesModel", name := "make", desc := "(III)V" } : Jvm.MethodName) : Cond) ∈ wAll := wAll_of (List.mem_append_right _ (List.mem_of_getElem? (i := 1816) (by decide +kernel))) (by decide +kernel)
theorem qw_1818 : (Jvm.Cond.instanceMethod ({ cls := "SkyStonesModel", name := "make", desc := "(III)V" } : Jvm.MethodName) : Cond) ∈ wAll := wAll_of (List.mem_append_right _ (List.mem_of_getElem? (i := 1818) (by decide +kernel))) (by decide +kernel)
theorem qw_1819 : (Jvm.Cond.code ({ cls := "SkyStonesModel", name := "make", desc := "(III)V" } : Jvm.MethodName) prog_14_method_109_code (7 : Nat) (Option.none : Option Jvm.ClassFile.FieldType) : Cond) ∈ wAll := wAll_of (List.mem_append_right _ (List.mem_of_getElem? (i := 1819) (by decide +kernel))) (by decide +kernel)
theorem qw_1809 : (Jvm.Cond.methodLink "SkyStonesModel" (542 : Nat) ({ cls := "SkyStonesModel", name := "isMake", desc := "(II)Z" } : Jvm.MethodName) : Cond) ∈ wAll := wAll_of (List.mem_append_right _ (List.mem_of_getElem? (i := 1809) (by decide +kernel))) (by decide +kernel)
theorem qw_1810 : (Jvm.Cond.static ({ cls := "SkyStonesModel", name := "isMake", desc := "(II)Z" } : Jvm.MethodName) : Cond) ∈ wAll := wAll_of (List.mem_append_right _ (List.mem_of_getElem? (i := 1810) (by decide +kernel))) (by decide +kernel)
theorem qw_1811 : (Jvm.Cond.code ({ cls := "SkyStonesModel", name := "isMake", desc := "(II)Z" } : Jvm.MethodName) prog_14_method_110_code (2 : Nat) (Option.some Jvm.ClassFile.FieldType.boolean) : Cond) ∈ wAll := wAll_of (List.mem_append_right _ (List.mem_of_getElem? (i := 1811) (by decide +kernel))) (by decide +kernel)
theorem qs_108 : (Cond.selects yX12_madeHits.cls yX12_madeHits yX12_madeHits) ∈ wAll := wAll_of (List.mem_append_left _ (List.mem_of_getElem? (i := 108) (by decide +kernel))) (by decide +kernel)
theorem qw_1812 : (Jvm.Cond.methodLink "SkyStonesModel" (545 : Nat) ({ cls := "SkyStonesModel", name := "madeHits", desc := "(III)I" } : Jvm.MethodName) : Cond) ∈ wAll := wAll_of (List.mem_append_right _ (List.mem_of_getElem? (i := 1812) (by decide +kernel))) (by decide +kernel)
theorem qw_1814 : (Jvm.Cond.instanceMethod ({ cls := "SkyStonesModel", name := "madeHits", desc := "(III)I" } : Jvm.MethodName) : Cond) ∈ wAll := wAll_of (List.mem_append_right _ (List.mem_of_getElem? (i := 1814) (by decide +kernel))) (by decide +kernel)
theorem qw_1815 : (Jvm.Cond.code ({ cls := "SkyStonesModel", name := "madeHits", desc := "(III)I" } : Jvm.MethodName) prog_14_method_111_code (9 : Nat) (Option.some Jvm.ClassFile.FieldType.int) : Cond) ∈ wAll := wAll_of (List.mem_append_right _ (List.mem_of_getElem? (i := 1815) (by decide +kernel))) (by decide +kernel)
theorem qw_1839 : (Jvm.Cond.methodLink "SkyStonesModel" (548 : Nat) ({ cls := "SkyStonesModel", name := "isCounting", desc := "(IIIII)Z" } : Jvm.MethodName) : Cond) ∈ wAll := wAll_of (List.mem_append_right _ (List.mem_of_getElem? (i := 1839) (by decide +kernel))) (by decide +kernel)
theorem qw_1840 : (Jvm.Cond.static ({ cls := "SkyStonesModel", name := "isCounting", desc := "(IIIII)Z" } : Jvm.MethodName) : Cond) ∈ wAll := wAll_of (List.mem_append_right _ (List.mem_of_getElem? (i := 1840) (by decide +kernel))) (by decide +kernel)
theorem qw_1841 : (Jvm.Cond.code ({ cls := "SkyStonesModel", name := "isCounting", desc := "(IIIII)Z" } : Jvm.MethodName) prog_14_method_115_code (5 : Nat) (Option.some Jvm.ClassFile.FieldType.boolean) : Cond) ∈ wAll := wAll_of (List.mem_append_right _ (List.mem_of_getElem? (i := 1841) (by decide +kernel))) (by decide +kernel)
theorem kl_11_103 : LwV RX11 103 m_X8_append := ⟨qw_445, qw_446, qw_447, qw_2, qw_448⟩
theorem kl_11_124 : LwV RX11 124 m_X11_thingsInAll := ⟨qw_664, qw_666, qs_25, qw_1, qw_667⟩
theorem kl_11_131 : LwS RX11 131 m_X11_isSpot := ⟨qw_668, qw_669, qw_1, qw_670⟩
theorem kl_11_135 : LwS RX11 135 m_X11_isAge := ⟨qw_671, qw_672, qw_1, qw_673⟩
theorem kl_11_139 : LwV RX11 139 m_X7_note := ⟨qw_674, qw_675, qw_676, qw_6, qw_677⟩
theorem kl_11_146 : LwV RX11 146 m_X11_isThing := ⟨qw_682, qw_684, qs_26, qw_1, qw_685⟩
theorem kl_11_152 : LwV RX11 152 m_X11_isKnown := ⟨qw_702, qw_704, qs_27, qw_1, qw_705⟩
theorem kl_11_174 : LwS RX11 174 m_X1_bearing := ⟨qw_721, qw_722, qw_19, qw_723⟩
theorem kl_11_180 : LwS RX11 180 m_X11_isDegree := ⟨qw_737, qw_738, qw_1, qw_739⟩
theorem kl_11_183 : LwS RX11 183 m_X1_eastward := ⟨qw_740, qw_741, qw_19, qw_742⟩
theorem kl_11_187 : LwS RX11 187 m_X1_northward := ⟨qw_743, qw_744, qw_19, qw_745⟩
theorem kl_11_213 : LwV RX11 213 m_X9_hillOver := ⟨qw_801, qw_802, qw_803, qw_3, qw_804⟩
theorem kl_11_216 : LwV RX11 216 m_X11_isPlace := ⟨qw_809, qw_811, qs_31, qw_1, qw_812⟩
theorem kl_11_219 : LwS RX11 219 m_X11_isYear := ⟨qw_813, qw_814, qw_1, qw_815⟩
theorem kl_11_235 : LwV RX11 235 m_X6_struck := ⟨qw_835, qw_836, qw_837, qw_8, qw_838⟩
theorem kl_11_239 : LwV RX11 239 m_X11_isAsked := ⟨qw_846, qw_848, qs_32, qw_1, qw_849⟩
theorem kl_11_247 : LwV RX11 247 m_X11_hitsTurned := ⟨qw_854, qw_856, qs_34, qw_1, qw_857⟩
theorem kl_11_253 : LwV RX11 253 m_X11_strikes := ⟨qw_861, qw_863, qs_35, qw_1, qw_864⟩
theorem kl_11_291 : LwV RX11 291 m_X11_markedUpTo := ⟨qw_977, qw_979, qs_45, qw_1, qw_980⟩
theorem kl_11_294 : LwS RX11 294 m_X11_isYears := ⟨qw_985, qw_986, qw_1, qw_987⟩
theorem kl_11_306 : LwV RX11 306 m_X11_near := ⟨qw_1016, qw_1018, qs_48, qw_1, qw_1019⟩
theorem kl_11_311 : LwS RX11 311 m_X11_ways := ⟨qw_1026, qw_1027, qw_1, qw_1028⟩
theorem kl_11_315 : LwS RX11 315 m_X11_isMade := ⟨qw_1036, qw_1037, qw_1, qw_1038⟩
theorem kl_11_333 : LwS RX11 333 m_J9_abs_0f7a4 := ⟨qw_1069, qw_725, qw_20, qw_726⟩
theorem kl_11_338 : LwV RX11 338 m_X11_markRounds := ⟨qw_1074, qw_1076, qs_49, qw_1, qw_1077⟩
theorem kl_11_367 : LwS RX11 367 m_X1_turned := ⟨qw_858, qw_859, qw_19, qw_860⟩
theorem kl_11_370 : LwS RX11 370 m_X1_apart := ⟨qw_1020, qw_840, qw_19, qw_841⟩
theorem kl_11_373 : LwS RX11 373 m_J9_max_7cf53 := ⟨qw_1078, qw_728, qw_20, qw_729⟩
theorem kl_11_376 : LwS RX11 376 m_J9_min_7cf53 := ⟨qw_1079, qw_731, qw_20, qw_732⟩
theorem kl_11_379 : LwS RX11 379 m_X11_power := ⟨qw_1029, qw_1030, qw_1, qw_1031⟩
theorem kl_0_45 : LwV RX0 45 m_X0_compared := ⟨qw_774, qw_776, qs_30, qw_4, qw_777⟩
theorem kl_1_9 : LwS RX1 9 m_J9_abs_0f7a4 := ⟨qw_724, qw_725, qw_20, qw_726⟩
theorem kl_1_15 : LwS RX1 15 m_J9_max_7cf53 := ⟨qw_727, qw_728, qw_20, qw_729⟩
theorem kl_1_19 : LwS RX1 19 m_J9_min_7cf53 := ⟨qw_730, qw_731, qw_20, qw_732⟩
theorem kl_2_78 : LwS RX2 78 m_X1_bearing := ⟨qw_765, qw_722, qw_19, qw_723⟩
theorem kl_2_84 : LwV RX2 84 m_X2_joins := ⟨qw_787, qw_751, qw_752, qw_7, qw_753⟩
theorem kl_2_88 : LwS RX2 88 m_J9_abs_0f7a4 := ⟨qw_762, qw_725, qw_20, qw_726⟩
theorem kl_2_94 : LwS RX2 94 m_J9_max_7cf53 := ⟨qw_763, qw_728, qw_20, qw_729⟩
theorem kl_2_100 : LwS RX2 100 m_J9_min_7cf53 := ⟨qw_764, qw_731, qw_20, qw_732⟩
theorem kl_2_106 : LwV RX2 106 m_X2_describe := ⟨qw_758, qw_759, qw_760, qw_7, qw_761⟩
theorem kl_3_18 : LwS RX3 18 m_X3_lot := ⟨qw_1043, qw_1044, qw_11, qw_1045⟩
theorem kl_3_31 : LwS RX3 31 m_X1_eastward := ⟨qw_1050, qw_741, qw_19, qw_742⟩
theorem kl_3_37 : LwS RX3 37 m_X1_northward := ⟨qw_1051, qw_744, qw_19, qw_745⟩
theorem kl_3_40 : LwS RX3 40 m_X3_stir := ⟨qw_1046, qw_1047, qw_11, qw_1048⟩
theorem kl_3_45 : LwS RX3 45 m_X1_bearing := ⟨qw_1056, qw_722, qw_19, qw_723⟩
theorem kl_4_24 : LwV RX4 24 m_X4_squeeze := ⟨qw_924, qw_926, qs_38, qw_10, qw_927⟩
theorem kl_4_28 : LwV RX4 28 m_X4_bestWith := ⟨qw_932, qw_934, qs_40, qw_10, qw_935⟩
theorem kl_4_32 : LwV RX4 32 m_X4_put := ⟨qw_941, qw_943, qs_42, qw_10, qw_944⟩
theorem kl_4_36 : LwV RX4 36 m_X4_bestOf := ⟨qw_936, qw_938, qs_41, qw_10, qw_939⟩
theorem kl_4_40 : LwV RX4 40 m_X4_rename := ⟨qw_928, qw_930, qs_39, qw_10, qw_931⟩
theorem kl_4_43 : LwS RX4 43 m_J9_max_7cf53 := ⟨qw_940, qw_728, qw_20, qw_729⟩
theorem kl_5_42 : LwV RX5 42 m_X5_kindHere := ⟨qw_564, qw_566, qs_7, qw_5, qw_567⟩
theorem kl_5_65 : LwV RX5 65 m_X5_stop := ⟨qw_576, qw_578, qs_10, qw_5, qw_579⟩
theorem kl_5_80 : LwV RX5 80 m_X5_blame := ⟨qw_592, qw_594, qs_14, qw_5, qw_595⟩
theorem kl_5_92 : LwV RX5 92 m_X5_thingNamed := ⟨qw_588, qw_590, qs_13, qw_5, qw_591⟩
theorem kl_5_99 : LwV RX5 99 m_X5_hasRoom := ⟨qw_572, qw_574, qs_9, qw_5, qw_575⟩
theorem kl_5_103 : LwV RX5 103 m_X5_take := ⟨qw_580, qw_582, qs_11, qw_5, qw_583⟩
theorem kl_5_107 : LwV RX5 107 m_X5_blameIfNamed := ⟨qw_584, qw_586, qs_12, qw_5, qw_587⟩
theorem kl_5_110 : LwV RX5 110 m_X5_blameAbove := ⟨qw_596, qw_598, qs_15, qw_5, qw_599⟩
theorem kl_5_113 : LwV RX5 113 m_X9_isTaken := ⟨qw_600, qw_601, qw_602, qw_3, qw_603⟩
theorem kl_5_156 : LwV RX5 156 m_X0_open := ⟨qw_616, qw_617, qw_618, qw_4, qw_619⟩
theorem kl_6_53 : LwS RX6 53 m_X1_apart := ⟨qw_839, qw_840, qw_19, qw_841⟩
theorem kl_8_36 : LwV RX8 36 m_X8_behindBlanks := ⟨qw_461, qw_463, qs_0, qw_2, qw_464⟩
theorem kl_8_43 : LwV RX8 43 m_X8_sign := ⟨qw_465, qw_467, qs_1, qw_2, qw_468⟩
theorem kl_8_46 : LwS RX8 46 m_X8_isLetter := ⟨qw_473, qw_474, qw_2, qw_475⟩
theorem kl_8_53 : LwS RX8 53 m_X8_isDigit := ⟨qw_539, qw_540, qw_2, qw_541⟩
theorem kl_10_51 : LwV RX10 51 m_X6_struck := ⟨qw_886, qw_836, qw_837, qw_8, qw_838⟩
theorem kl_10_56 : LwV RX10 56 m_X10_findEdges := ⟨qw_891, qw_893, qs_37, qw_9, qw_894⟩
theorem kl_12_218 : LwV RX12 218 m_X12_begin := ⟨qw_1130, qw_1132, qs_51, qw_12, qw_1133⟩
theorem kl_12_225 : LwV RX12 225 m_X12_typed := ⟨qw_1382, qw_1384, qs_52, qw_12, qw_1385⟩
theorem kl_12_228 : LwV RX12 228 m_X12_byteAt := ⟨qw_1398, qw_1400, qs_54, qw_12, qw_1401⟩
theorem kl_12_277 : LwV RX12 277 m_X12_isLetter := ⟨qw_1406, qw_1408, qs_56, qw_12, qw_1409⟩
theorem kl_12_285 : LwS RX12 285 m_X12_wordOf := ⟨qw_1412, qw_1413, qw_12, qw_1414⟩
theorem kl_12_289 : LwV RX12 289 m_X12_token := ⟨qw_1436, qw_1438, qs_57, qw_12, qw_1439⟩
theorem kl_12_293 : LwV RX12 293 m_X12_isDigit := ⟨qw_1440, qw_1442, qs_58, qw_12, qw_1443⟩
theorem kl_12_296 : LwV RX12 296 m_X12_signAt := ⟨qw_1444, qw_1446, qs_59, qw_12, qw_1447⟩
theorem kl_12_299 : LwV RX12 299 m_X12_scan := ⟨qw_1402, qw_1404, qs_55, qw_12, qw_1405⟩
theorem kl_12_314 : LwV RX12 314 m_X12_wrong := ⟨qw_1460, qw_1462, qs_63, qw_12, qw_1463⟩
theorem kl_12_317 : LwV RX12 317 m_X12_pass := ⟨qw_1464, qw_1466, qs_64, qw_12, qw_1467⟩
theorem kl_12_321 : LwV RX12 321 m_X12_takes := ⟨qw_1472, qw_1474, qs_66, qw_12, qw_1475⟩
theorem kl_12_327 : LwV RX12 327 m_X12_tells := ⟨qw_1476, qw_1478, qs_67, qw_12, qw_1479⟩
theorem kl_12_334 : LwS RX12 334 m_X12_rank := ⟨qw_1527, qw_1528, qw_12, qw_1529⟩
theorem kl_12_337 : LwV RX12 337 m_X12_emit := ⟨qw_1519, qw_1521, qs_77, qw_12, qw_1522⟩
theorem kl_12_343 : LwV RX12 343 m_X12_isSign := ⟨qw_1504, qw_1506, qs_74, qw_12, qw_1507⟩
theorem kl_12_346 : LwV RX12 346 m_X12_await := ⟨qw_1512, qw_1514, qs_76, qw_12, qw_1515⟩
theorem kl_12_349 : LwS RX12 349 m_X12_variableOf := ⟨qw_1516, qw_1517, qw_12, qw_1518⟩
theorem kl_12_352 : LwV RX12 352 m_X12_reduce := ⟨qw_1523, qw_1525, qs_78, qw_12, qw_1526⟩
theorem kl_12_358 : LwV RX12 358 m_X12_isWord := ⟨qw_1500, qw_1502, qs_73, qw_12, qw_1503⟩
theorem kl_12_361 : LwV RX12 361 m_X12_expr := ⟨qw_1508, qw_1510, qs_75, qw_12, qw_1511⟩
theorem kl_12_367 : LwV RX12 367 m_X12_names := ⟨qw_1468, qw_1470, qs_65, qw_12, qw_1471⟩
theorem kl_12_369 : LwV RX12 369 m_X12_takesInt := ⟨qw_1480, qw_1482, qs_68, qw_12, qw_1483⟩
theorem kl_12_373 : LwV RX12 373 m_X12_thingAt := ⟨qw_1488, qw_1490, qs_70, qw_12, qw_1491⟩
theorem kl_12_376 : LwV RX12 376 m_X12_cond := ⟨qw_1534, qw_1536, qs_80, qw_12, qw_1537⟩
theorem kl_12_379 : LwV RX12 379 m_X12_tellThing := ⟨qw_1456, qw_1458, qs_62, qw_12, qw_1459⟩
theorem kl_12_383 : LwV RX12 383 m_X12_tellDoor := ⟨qw_1484, qw_1486, qs_69, qw_12, qw_1487⟩
theorem kl_12_386 : LwV RX12 386 m_X12_tellHill := ⟨qw_1492, qw_1494, qs_71, qw_12, qw_1495⟩
theorem kl_12_389 : LwV RX12 389 m_X12_tellSky := ⟨qw_1496, qw_1498, qs_72, qw_12, qw_1499⟩
theorem kl_12_392 : LwV RX12 392 m_X12_tellRule := ⟨qw_1530, qw_1532, qs_79, qw_12, qw_1533⟩
theorem kl_12_395 : LwV RX12 395 m_X12_tell := ⟨qw_1452, qw_1454, qs_61, qw_12, qw_1455⟩
theorem kl_12_398 : LwV RX12 398 m_X12_scanAll := ⟨qw_1394, qw_1396, qs_53, qw_12, qw_1397⟩
theorem kl_12_401 : LwV RX12 401 m_X12_parses := ⟨qw_1448, qw_1450, qs_60, qw_12, qw_1451⟩
theorem kl_12_404 : LwV RX12 404 m_X12_copy := ⟨qw_1538, qw_1540, qs_81, qw_12, qw_1541⟩
theorem kl_12_407 : LwS RX12 407 m_X12_isIn := ⟨qw_1558, qw_1559, qw_12, qw_1560⟩
theorem kl_12_411 : LwV RX12 411 m_X12_fact := ⟨qw_1561, qw_1563, qs_82, qw_12, qw_1564⟩
theorem kl_12_415 : LwV RX12 415 m_X12_isThing := ⟨qw_1569, qw_1571, qs_83, qw_12, qw_1572⟩
theorem kl_12_418 : LwV RX12 418 m_X12_isLive := ⟨qw_1601, qw_1603, qs_87, qw_12, qw_1604⟩
theorem kl_12_421 : LwV RX12 421 m_X12_lastOf := ⟨qw_1597, qw_1599, qs_86, qw_12, qw_1600⟩
theorem kl_12_425 : LwS RX12 425 m_X12_plain := ⟨qw_1612, qw_1613, qw_12, qw_1614⟩
theorem kl_12_428 : LwV RX12 428 m_X12_layThings := ⟨qw_1593, qw_1595, qs_85, qw_12, qw_1596⟩
theorem kl_12_431 : LwS RX12 431 m_X12_degreeOf := ⟨qw_1609, qw_1610, qw_12, qw_1611⟩
theorem kl_12_435 : LwV RX12 435 m_X12_look := ⟨qw_1630, qw_1632, qs_89, qw_12, qw_1633⟩
theorem kl_12_438 : LwV RX12 438 m_X12_isHeld := ⟨qw_1642, qw_1644, qs_92, qw_12, qw_1645⟩
theorem kl_12_441 : LwV RX12 441 m_X12_lineOf := ⟨qw_1634, qw_1636, qs_90, qw_12, qw_1637⟩
theorem kl_12_444 : LwV RX12 444 m_X12_isDoor := ⟨qw_1638, qw_1640, qs_91, qw_12, qw_1641⟩
theorem kl_12_451 : LwV RX12 451 m_X12_sum := ⟨qw_1650, qw_1652, qs_94, qw_12, qw_1653⟩
theorem kl_12_454 : LwV RX12 454 m_X12_isLit := ⟨qw_1646, qw_1648, qs_93, qw_12, qw_1649⟩
theorem kl_12_457 : LwV RX12 457 m_X12_isKnown := ⟨qw_1589, qw_1591, qs_84, qw_12, qw_1592⟩
theorem kl_12_460 : LwS RX12 460 m_X12_vectorOf := ⟨qw_1619, qw_1620, qw_12, qw_1621⟩
theorem kl_12_463 : LwV RX12 463 m_X12_lay := ⟨qw_1626, qw_1628, qs_88, qw_12, qw_1629⟩
theorem kl_12_466 : LwV RX12 466 m_X12_heightOf := ⟨qw_1662, qw_1664, qs_95, qw_12, qw_1665⟩
theorem kl_12_469 : LwV RX12 469 m_X12_skyAt := ⟨qw_1677, qw_1679, qs_97, qw_12, qw_1680⟩
theorem kl_12_472 : LwS RX12 472 m_X12_isYear := ⟨qw_1670, qw_1671, qw_12, qw_1672⟩
theorem kl_12_475 : LwV RX12 475 m_X12_riseOf := ⟨qw_1673, qw_1675, qs_96, qw_12, qw_1676⟩
theorem kl_12_478 : LwS RX12 478 m_X12_apart := ⟨qw_1693, qw_1694, qw_12, qw_1695⟩
theorem kl_12_481 : LwV RX12 481 m_X12_laySky := ⟨qw_1685, qw_1687, qs_98, qw_12, qw_1688⟩
theorem kl_12_484 : LwV RX12 484 m_X12_hitBy := ⟨qw_1689, qw_1691, qs_99, qw_12, qw_1692⟩
theorem kl_12_488 : LwS RX12 488 m_X12_turned := ⟨qw_1712, qw_1713, qw_12, qw_1714⟩
theorem kl_12_491 : LwV RX12 491 m_X12_isSet := ⟨qw_1700, qw_1702, qs_100, qw_12, qw_1703⟩
theorem kl_12_494 : LwV RX12 494 m_X12_layAll := ⟨qw_1704, qw_1706, qs_101, qw_12, qw_1707⟩
theorem kl_12_497 : LwV RX12 497 m_X12_hitsOf := ⟨qw_1708, qw_1710, qs_102, qw_12, qw_1711⟩
theorem kl_12_500 : LwV RX12 500 m_X12_asMany := ⟨qw_1723, qw_1725, qs_103, qw_12, qw_1726⟩
theorem kl_12_503 : LwV RX12 503 m_X12_strikeBy := ⟨qw_1743, qw_1745, qs_105, qw_12, qw_1746⟩
theorem kl_12_506 : LwV RX12 506 m_X12_strike := ⟨qw_1739, qw_1741, qs_104, qw_12, qw_1742⟩
theorem kl_12_509 : LwV RX12 509 m_X12_isSpan := ⟨qw_1763, qw_1765, qs_106, qw_12, qw_1766⟩
theorem kl_12_516 : LwV RX12 516 m_X12_pointed := ⟨qw_1787, qw_1789, qs_107, qw_12, qw_1790⟩
theorem kl_12_519 : LwS RX12 519 m_X12_chosen := ⟨qw_1798, qw_1799, qw_12, qw_1800⟩
theorem kl_12_523 : LwS RX12 523 m_X12_power := ⟨qw_1801, qw_1802, qw_12, qw_1803⟩
theorem kl_12_526 : LwS RX12 526 m_X12_rows := ⟨qw_1795, qw_1796, qw_12, qw_1797⟩
theorem kl_12_533 : LwS RX12 533 m_X12_mixed := ⟨qw_1823, qw_1824, qw_12, qw_1825⟩
theorem kl_12_536 : LwS RX12 536 m_X12_lot := ⟨qw_1820, qw_1821, qw_12, qw_1822⟩
theorem kl_12_539 : LwV RX12 539 m_X12_make := ⟨qw_1816, qw_1818, qs_109, qw_12, qw_1819⟩
theorem kl_12_542 : LwS RX12 542 m_X12_isMake := ⟨qw_1809, qw_1810, qw_12, qw_1811⟩
theorem kl_12_545 : LwV RX12 545 m_X12_madeHits := ⟨qw_1812, qw_1814, qs_108, qw_12, qw_1815⟩
theorem kl_12_548 : LwS RX12 548 m_X12_isCounting := ⟨qw_1839, qw_1840, qw_12, qw_1841⟩

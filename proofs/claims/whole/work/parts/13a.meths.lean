/-! the methods; the words of calls. By program. -/
abbrev m_J0_isLatin1_aae02 : Mt := (yJ0_isLatin1_aae02, cJ0_isLatin1_aae02, 1, (some .boolean), 0)
theorem oy_J0_isLatin1_aae02 : okY yJ0_isLatin1_aae02 0 := ⟨by decide, by decide, by decide +kernel⟩
abbrev m_J3_checkIndex_8e157 : Mt := (yJ3_checkIndex_8e157, cJ3_checkIndex_8e157, 3, (some .int), 0)
theorem oy_J3_checkIndex_8e157 : okY yJ3_checkIndex_8e157 3 := ⟨by decide, by decide, by decide +kernel⟩
abbrev m_J0_checkIndex_df160 : Mt := (yJ0_checkIndex_df160, cJ0_checkIndex_df160, 2, none, 1)
theorem oy_J0_checkIndex_df160 : okY yJ0_checkIndex_df160 2 := ⟨by decide, by decide, by decide +kernel⟩
abbrev m_J1_charAt_3b067 : Mt := (yJ1_charAt_3b067, cJ1_charAt_3b067, 2, (some .char), 2)
theorem oy_J1_charAt_3b067 : okY yJ1_charAt_3b067 2 := ⟨by decide, by decide, by decide +kernel⟩
abbrev m_J0_charAt_5068e : Mt := (yJ0_charAt_5068e, cJ0_charAt_5068e, 2, (some .char), 4)
theorem oy_J0_charAt_5068e : okY yJ0_charAt_5068e 1 := ⟨by decide, by decide, by decide +kernel⟩
abbrev m_J0_coder_7d493 : Mt := (yJ0_coder_7d493, cJ0_coder_7d493, 1, (some .byte), 0)
theorem oy_J0_coder_7d493 : okY yJ0_coder_7d493 0 := ⟨by decide, by decide, by decide +kernel⟩
abbrev m_J0_length_8abf5 : Mt := (yJ0_length_8abf5, cJ0_length_8abf5, 1, (some .int), 1)
theorem oy_J0_length_8abf5 : okY yJ0_length_8abf5 0 := ⟨by decide, by decide, by decide +kernel⟩
abbrev m_J7_fill_53178 : Mt := (yJ7_fill_53178, cJ7_fill_53178, 4, none, 0)
theorem oy_J7_fill_53178 : okY yJ7_fill_53178 2 := ⟨by decide, by decide, by decide +kernel⟩
abbrev m_J9_abs_0f7a4 : Mt := (yJ9_abs_0f7a4, cJ9_abs_0f7a4, 1, (some .int), 0)
theorem oy_J9_abs_0f7a4 : okY yJ9_abs_0f7a4 1 := ⟨by decide, by decide, by decide +kernel⟩
abbrev m_J9_floorMod_7cf53 : Mt := (yJ9_floorMod_7cf53, cJ9_floorMod_7cf53, 3, (some .int), 0)
theorem oy_J9_floorMod_7cf53 : okY yJ9_floorMod_7cf53 2 := ⟨by decide, by decide, by decide +kernel⟩
abbrev m_J9_max_7cf53 : Mt := (yJ9_max_7cf53, cJ9_max_7cf53, 2, (some .int), 0)
theorem oy_J9_max_7cf53 : okY yJ9_max_7cf53 2 := ⟨by decide, by decide, by decide +kernel⟩
abbrev m_J9_min_7cf53 : Mt := (yJ9_min_7cf53, cJ9_min_7cf53, 2, (some .int), 0)
theorem oy_J9_min_7cf53 : okY yJ9_min_7cf53 2 := ⟨by decide, by decide, by decide +kernel⟩
abbrev m_X0_close : Mt := (yX0_close, cX0_close, 2, none, 0)
theorem oy_X0_close : okY yX0_close 1 := ⟨by decide, by decide, by decide +kernel⟩
abbrev m_X0_compared : Mt := (yX0_compared, cX0_compared, 5, (some .int), 0)
theorem oy_X0_compared : okY yX0_compared 3 := ⟨by decide, by decide, by decide +kernel⟩
abbrev m_X0_copy : Mt := (yX0_copy, cX0_copy, 2, none, 1)
theorem oy_X0_copy : okY yX0_copy 1 := ⟨by decide, by decide, by decide +kernel⟩
abbrev m_X0_forget : Mt := (yX0_forget, cX0_forget, 1, none, 0)
theorem oy_X0_forget : okY yX0_forget 0 := ⟨by decide, by decide, by decide +kernel⟩
abbrev m_X0_joined : Mt := (yX0_joined, cX0_joined, 4, (some .int), 1)
theorem oy_X0_joined : okY yX0_joined 3 := ⟨by decide, by decide, by decide +kernel⟩
abbrev m_X0_open : Mt := (yX0_open, cX0_open, 2, none, 0)
theorem oy_X0_open : okY yX0_open 1 := ⟨by decide, by decide, by decide +kernel⟩
abbrev m_X0_put : Mt := (yX0_put, cX0_put, 3, none, 0)
theorem oy_X0_put : okY yX0_put 2 := ⟨by decide, by decide, by decide +kernel⟩
abbrev m_X0_work : Mt := (yX0_work, cX0_work, 6, (some .int), 2)
theorem oy_X0_work : okY yX0_work 2 := ⟨by decide, by decide, by decide +kernel⟩
abbrev m_X10_asManyAsUnturned : Mt := (yX10_asManyAsUnturned, cX10_asManyAsUnturned, 3, (some .int), 0)
theorem oy_X10_asManyAsUnturned : okY yX10_asManyAsUnturned 0 := ⟨by decide, by decide, by decide +kernel⟩
abbrev m_X1_apart : Mt := (yX1_apart, cX1_apart, 3, (some .int), 1)
theorem oy_X1_apart : okY yX1_apart 2 := ⟨by decide, by decide, by decide +kernel⟩
abbrev m_X6_struck : Mt := (yX6_struck, cX6_struck, 7, (some .int), 2)
theorem oy_X6_struck : okY yX6_struck 3 := ⟨by decide, by decide, by decide +kernel⟩
abbrev m_X10_cover : Mt := (yX10_cover, cX10_cover, 4, none, 3)
theorem oy_X10_cover : okY yX10_cover 2 := ⟨by decide, by decide, by decide +kernel⟩
abbrev m_X10_findEdges : Mt := (yX10_findEdges, cX10_findEdges, 6, (some .int), 0)
theorem oy_X10_findEdges : okY yX10_findEdges 1 := ⟨by decide, by decide, by decide +kernel⟩
abbrev m_X10_gather : Mt := (yX10_gather, cX10_gather, 3, none, 1)
theorem oy_X10_gather : okY yX10_gather 1 := ⟨by decide, by decide, by decide +kernel⟩
abbrev m_X10_lower : Mt := (yX10_lower, cX10_lower, 2, none, 1)
theorem oy_X10_lower : okY yX10_lower 0 := ⟨by decide, by decide, by decide +kernel⟩
abbrev m_X10_spin : Mt := (yX10_spin, cX10_spin, 6, none, 1)
theorem oy_X10_spin : okY yX10_spin 1 := ⟨by decide, by decide, by decide +kernel⟩
abbrev m_X10_sum : Mt := (yX10_sum, cX10_sum, 3, (some .int), 0)
theorem oy_X10_sum : okY yX10_sum 0 := ⟨by decide, by decide, by decide +kernel⟩
abbrev m_X10_tellAfter : Mt := (yX10_tellAfter, cX10_tellAfter, 5, none, 4)
theorem oy_X10_tellAfter : okY yX10_tellAfter 2 := ⟨by decide, by decide, by decide +kernel⟩
abbrev m_X7_copy : Mt := (yX7_copy, cX7_copy, 2, none, 1)
theorem oy_X7_copy : okY yX7_copy 1 := ⟨by decide, by decide, by decide +kernel⟩
abbrev m_X9_copy : Mt := (yX9_copy, cX9_copy, 2, none, 2)
theorem oy_X9_copy : okY yX9_copy 1 := ⟨by decide, by decide, by decide +kernel⟩
abbrev m_X11_again : Mt := (yX11_again, cX11_again, 2, (some .boolean), 3)
theorem oy_X11_again : okY yX11_again 1 := ⟨by decide, by decide, by decide +kernel⟩
abbrev m_X11_isKnown : Mt := (yX11_isKnown, cX11_isKnown, 2, (some .boolean), 0)
theorem oy_X11_isKnown : okY yX11_isKnown 1 := ⟨by decide, by decide, by decide +kernel⟩
abbrev m_X11_isYear : Mt := (yX11_isYear, cX11_isYear, 1, (some .boolean), 0)
theorem oy_X11_isYear : okY yX11_isYear 1 := ⟨by decide, by decide, by decide +kernel⟩
abbrev m_X11_isAsked : Mt := (yX11_isAsked, cX11_isAsked, 4, (some .boolean), 1)
theorem oy_X11_isAsked : okY yX11_isAsked 3 := ⟨by decide, by decide, by decide +kernel⟩
abbrev m_X1_bearing : Mt := (yX1_bearing, cX1_bearing, 6, (some .int), 1)
theorem oy_X1_bearing : okY yX1_bearing 2 := ⟨by decide, by decide, by decide +kernel⟩
abbrev m_X2_bearingOf : Mt := (yX2_bearingOf, cX2_bearingOf, 4, (some .int), 2)
theorem oy_X2_bearingOf : okY yX2_bearingOf 1 := ⟨by decide, by decide, by decide +kernel⟩
abbrev m_X2_describe : Mt := (yX2_describe, cX2_describe, 7, none, 2)
theorem oy_X2_describe : okY yX2_describe 2 := ⟨by decide, by decide, by decide +kernel⟩
abbrev m_X2_holds : Mt := (yX2_holds, cX2_holds, 5, (some .boolean), 3)
theorem oy_X2_holds : okY yX2_holds 3 := ⟨by decide, by decide, by decide +kernel⟩
abbrev m_X2_joins : Mt := (yX2_joins, cX2_joins, 4, (some .boolean), 0)
theorem oy_X2_joins : okY yX2_joins 1 := ⟨by decide, by decide, by decide +kernel⟩
abbrev m_X2_choose : Mt := (yX2_choose, cX2_choose, 4, none, 4)
theorem oy_X2_choose : okY yX2_choose 2 := ⟨by decide, by decide, by decide +kernel⟩
abbrev m_X2_apply : Mt := (yX2_apply, cX2_apply, 6, none, 0)
theorem oy_X2_apply : okY yX2_apply 3 := ⟨by decide, by decide, by decide +kernel⟩
abbrev m_X2_know : Mt := (yX2_know, cX2_know, 5, none, 1)
theorem oy_X2_know : okY yX2_know 3 := ⟨by decide, by decide, by decide +kernel⟩
abbrev m_X9_hillOver : Mt := (yX9_hillOver, cX9_hillOver, 6, (some .int), 0)
theorem oy_X9_hillOver : okY yX9_hillOver 1 := ⟨by decide, by decide, by decide +kernel⟩
abbrev m_X6_rising : Mt := (yX6_rising, cX6_rising, 5, (some .int), 3)
theorem oy_X6_rising : okY yX6_rising 3 := ⟨by decide, by decide, by decide +kernel⟩
abbrev m_X6_watch : Mt := (yX6_watch, cX6_watch, 4, none, 4)
theorem oy_X6_watch : okY yX6_watch 2 := ⟨by decide, by decide, by decide +kernel⟩
abbrev m_X11_lookAt : Mt := (yX11_lookAt, cX11_lookAt, 4, none, 5)
theorem oy_X11_lookAt : okY yX11_lookAt 3 := ⟨by decide, by decide, by decide +kernel⟩
abbrev m_X11_turnAll : Mt := (yX11_turnAll, cX11_turnAll, 5, none, 6)
theorem oy_X11_turnAll : okY yX11_turnAll 4 := ⟨by decide, by decide, by decide +kernel⟩
abbrev m_X11_allHits : Mt := (yX11_allHits, cX11_allHits, 4, (some .int), 7)
theorem oy_X11_allHits : okY yX11_allHits 3 := ⟨by decide, by decide, by decide +kernel⟩
abbrev m_X11_strikes : Mt := (yX11_strikes, cX11_strikes, 4, (some .boolean), 3)
theorem oy_X11_strikes : okY yX11_strikes 3 := ⟨by decide, by decide, by decide +kernel⟩
abbrev m_X4_forget : Mt := (yX4_forget, cX4_forget, 1, none, 1)
theorem oy_X4_forget : okY yX4_forget 0 := ⟨by decide, by decide, by decide +kernel⟩
abbrev m_X4_join : Mt := (yX4_join, cX4_join, 3, none, 0)
theorem oy_X4_join : okY yX4_join 2 := ⟨by decide, by decide, by decide +kernel⟩
abbrev m_X4_bestOf : Mt := (yX4_bestOf, cX4_bestOf, 2, (some .int), 0)
theorem oy_X4_bestOf : okY yX4_bestOf 1 := ⟨by decide, by decide, by decide +kernel⟩
abbrev m_X4_bestWith : Mt := (yX4_bestWith, cX4_bestWith, 6, (some .int), 1)
theorem oy_X4_bestWith : okY yX4_bestWith 2 := ⟨by decide, by decide, by decide +kernel⟩
abbrev m_X4_put : Mt := (yX4_put, cX4_put, 4, none, 0)
theorem oy_X4_put : okY yX4_put 2 := ⟨by decide, by decide, by decide +kernel⟩
abbrev m_X4_rename : Mt := (yX4_rename, cX4_rename, 4, none, 0)
theorem oy_X4_rename : okY yX4_rename 2 := ⟨by decide, by decide, by decide +kernel⟩
abbrev m_X4_squeeze : Mt := (yX4_squeeze, cX4_squeeze, 3, (some .int), 1)
theorem oy_X4_squeeze : okY yX4_squeeze 0 := ⟨by decide, by decide, by decide +kernel⟩
abbrev m_X4_most : Mt := (yX4_most, cX4_most, 4, (some .int), 2)
theorem oy_X4_most : okY yX4_most 0 := ⟨by decide, by decide, by decide +kernel⟩
abbrev m_X11_alone : Mt := (yX11_alone, cX11_alone, 5, (some .int), 6)
theorem oy_X11_alone : okY yX11_alone 3 := ⟨by decide, by decide, by decide +kernel⟩
abbrev m_X7_note : Mt := (yX7_note, cX7_note, 6, (some .int), 0)
theorem oy_X7_note : okY yX7_note 5 := ⟨by decide, by decide, by decide +kernel⟩
abbrev m_X11_annul : Mt := (yX11_annul, cX11_annul, 2, (some .int), 1)
theorem oy_X11_annul : okY yX11_annul 1 := ⟨by decide, by decide, by decide +kernel⟩
abbrev m_X11_markRounds : Mt := (yX11_markRounds, cX11_markRounds, 8, none, 1)
theorem oy_X11_markRounds : okY yX11_markRounds 4 := ⟨by decide, by decide, by decide +kernel⟩
abbrev m_X11_markedUpTo : Mt := (yX11_markedUpTo, cX11_markedUpTo, 4, (some .int), 0)
theorem oy_X11_markedUpTo : okY yX11_markedUpTo 1 := ⟨by decide, by decide, by decide +kernel⟩
abbrev m_X11_anything : Mt := (yX11_anything, cX11_anything, 8, (some .int), 2)
theorem oy_X11_anything : okY yX11_anything 5 := ⟨by decide, by decide, by decide +kernel⟩
abbrev m_X11_back : Mt := (yX11_back, cX11_back, 2, (some .int), 0)
theorem oy_X11_back : okY yX11_back 1 := ⟨by decide, by decide, by decide +kernel⟩
abbrev m_X11_isDegree : Mt := (yX11_isDegree, cX11_isDegree, 1, (some .boolean), 0)
theorem oy_X11_isDegree : okY yX11_isDegree 1 := ⟨by decide, by decide, by decide +kernel⟩
abbrev m_X11_near : Mt := (yX11_near, cX11_near, 6, (some .int), 2)
theorem oy_X11_near : okY yX11_near 3 := ⟨by decide, by decide, by decide +kernel⟩
abbrev m_X11_power : Mt := (yX11_power, cX11_power, 5, (some .long), 0)
theorem oy_X11_power : okY yX11_power 2 := ⟨by decide, by decide, by decide +kernel⟩
abbrev m_X11_ways : Mt := (yX11_ways, cX11_ways, 9, (some .long), 1)
theorem oy_X11_ways : okY yX11_ways 4 := ⟨by decide, by decide, by decide +kernel⟩
abbrev m_X11_chance : Mt := (yX11_chance, cX11_chance, 4, (some .long), 3)
theorem oy_X11_chance : okY yX11_chance 2 := ⟨by decide, by decide, by decide +kernel⟩
abbrev m_X11_clear : Mt := (yX11_clear, cX11_clear, 2, (some .int), 0)
theorem oy_X11_clear : okY yX11_clear 0 := ⟨by decide, by decide, by decide +kernel⟩
abbrev m_X11_slotsHeld : Mt := (yX11_slotsHeld, cX11_slotsHeld, 3, (some .int), 0)
theorem oy_X11_slotsHeld : okY yX11_slotsHeld 0 := ⟨by decide, by decide, by decide +kernel⟩
abbrev m_X11_thingsInAll : Mt := (yX11_thingsInAll, cX11_thingsInAll, 1, (some .int), 0)
theorem oy_X11_thingsInAll : okY yX11_thingsInAll 0 := ⟨by decide, by decide, by decide +kernel⟩
abbrev m_X11_count : Mt := (yX11_count, cX11_count, 2, (some .int), 1)
theorem oy_X11_count : okY yX11_count 1 := ⟨by decide, by decide, by decide +kernel⟩
abbrev m_X11_counts : Mt := (yX11_counts, cX11_counts, 6, (some .int), 1)
theorem oy_X11_counts : okY yX11_counts 5 := ⟨by decide, by decide, by decide +kernel⟩
abbrev m_X11_isAge : Mt := (yX11_isAge, cX11_isAge, 1, (some .boolean), 0)
theorem oy_X11_isAge : okY yX11_isAge 1 := ⟨by decide, by decide, by decide +kernel⟩
abbrev m_X11_isThing : Mt := (yX11_isThing, cX11_isThing, 2, (some .boolean), 1)
theorem oy_X11_isThing : okY yX11_isThing 1 := ⟨by decide, by decide, by decide +kernel⟩
abbrev m_X11_date : Mt := (yX11_date, cX11_date, 3, (some .int), 2)
theorem oy_X11_date : okY yX11_date 2 := ⟨by decide, by decide, by decide +kernel⟩
abbrev m_X11_degree : Mt := (yX11_degree, cX11_degree, 3, (some .int), 2)
theorem oy_X11_degree : okY yX11_degree 2 := ⟨by decide, by decide, by decide +kernel⟩
abbrev m_X8_append : Mt := (yX8_append, cX8_append, 3, none, 0)
theorem oy_X8_append : okY yX8_append 1 := ⟨by decide, by decide, by decide +kernel⟩
abbrev m_X11_feed : Mt := (yX11_feed, cX11_feed, 6, (some .int), 1)
theorem oy_X11_feed : okY yX11_feed 5 := ⟨by decide, by decide, by decide +kernel⟩
abbrev m_X11_isSpot : Mt := (yX11_isSpot, cX11_isSpot, 2, (some .boolean), 0)
theorem oy_X11_isSpot : okY yX11_isSpot 2 := ⟨by decide, by decide, by decide +kernel⟩
abbrev m_X11_found : Mt := (yX11_found, cX11_found, 5, (some .int), 1)
theorem oy_X11_found : okY yX11_found 3 := ⟨by decide, by decide, by decide +kernel⟩
abbrev m_X1_turned : Mt := (yX1_turned, cX1_turned, 3, (some .int), 0)
theorem oy_X1_turned : okY yX1_turned 2 := ⟨by decide, by decide, by decide +kernel⟩
abbrev m_X11_hitsTurned : Mt := (yX11_hitsTurned, cX11_hitsTurned, 6, (some .int), 4)
theorem oy_X11_hitsTurned : okY yX11_hitsTurned 3 := ⟨by decide, by decide, by decide +kernel⟩
abbrev m_X11_hitsNow : Mt := (yX11_hitsNow, cX11_hitsNow, 2, (some .int), 5)
theorem oy_X11_hitsNow : okY yX11_hitsNow 1 := ⟨by decide, by decide, by decide +kernel⟩
abbrev m_X11_hitsIn : Mt := (yX11_hitsIn, cX11_hitsIn, 3, (some .int), 6)
theorem oy_X11_hitsIn : okY yX11_hitsIn 2 := ⟨by decide, by decide, by decide +kernel⟩
abbrev m_X11_isYears : Mt := (yX11_isYears, cX11_isYears, 3, (some .boolean), 1)
theorem oy_X11_isYears : okY yX11_isYears 3 := ⟨by decide, by decide, by decide +kernel⟩
abbrev m_X11_free : Mt := (yX11_free, cX11_free, 10, (some .int), 7)
theorem oy_X11_free : okY yX11_free 5 := ⟨by decide, by decide, by decide +kernel⟩
abbrev m_X11_freer : Mt := (yX11_freer, cX11_freer, 10, (some .int), 7)
theorem oy_X11_freer : okY yX11_freer 6 := ⟨by decide, by decide, by decide +kernel⟩
abbrev m_X11_gone : Mt := (yX11_gone, cX11_gone, 2, (some .int), 2)
theorem oy_X11_gone : okY yX11_gone 1 := ⟨by decide, by decide, by decide +kernel⟩
abbrev m_X11_height : Mt := (yX11_height, cX11_height, 2, (some .int), 1)
theorem oy_X11_height : okY yX11_height 1 := ⟨by decide, by decide, by decide +kernel⟩
abbrev m_X11_isPlace : Mt := (yX11_isPlace, cX11_isPlace, 2, (some .boolean), 0)
theorem oy_X11_isPlace : okY yX11_isPlace 1 := ⟨by decide, by decide, by decide +kernel⟩
abbrev m_X11_hit : Mt := (yX11_hit, cX11_hit, 7, (some .int), 5)
theorem oy_X11_hit : okY yX11_hit 4 := ⟨by decide, by decide, by decide +kernel⟩
abbrev m_X11_hitAt : Mt := (yX11_hitAt, cX11_hitAt, 8, (some .int), 6)
theorem oy_X11_hitAt : okY yX11_hitAt 5 := ⟨by decide, by decide, by decide +kernel⟩
abbrev m_X11_hits : Mt := (yX11_hits, cX11_hits, 6, (some .int), 6)
theorem oy_X11_hits : okY yX11_hits 5 := ⟨by decide, by decide, by decide +kernel⟩
abbrev m_X11_hitsOf : Mt := (yX11_hitsOf, cX11_hitsOf, 7, (some .int), 4)
theorem oy_X11_hitsOf : okY yX11_hitsOf 2 := ⟨by decide, by decide, by decide +kernel⟩
abbrev m_X11_hold : Mt := (yX11_hold, cX11_hold, 2, (some .boolean), 3)
theorem oy_X11_hold : okY yX11_hold 1 := ⟨by decide, by decide, by decide +kernel⟩
abbrev m_X11_isMade : Mt := (yX11_isMade, cX11_isMade, 2, (some .boolean), 0)
theorem oy_X11_isMade : okY yX11_isMade 2 := ⟨by decide, by decide, by decide +kernel⟩
abbrev m_X11_life : Mt := (yX11_life, cX11_life, 7, (some .int), 1)
theorem oy_X11_life : okY yX11_life 4 := ⟨by decide, by decide, by decide +kernel⟩
abbrev m_X11_line : Mt := (yX11_line, cX11_line, 4, (some .int), 4)
theorem oy_X11_line : okY yX11_line 3 := ⟨by decide, by decide, by decide +kernel⟩
abbrev m_X2_joinedInAll : Mt := (yX2_joinedInAll, cX2_joinedInAll, 3, (some .int), 1)
theorem oy_X2_joinedInAll : okY yX2_joinedInAll 0 := ⟨by decide, by decide, by decide +kernel⟩
abbrev m_X11_lines : Mt := (yX11_lines, cX11_lines, 3, (some .int), 5)
theorem oy_X11_lines : okY yX11_lines 2 := ⟨by decide, by decide, by decide +kernel⟩
abbrev m_X1_eastward : Mt := (yX1_eastward, cX1_eastward, 1, (some .int), 0)
theorem oy_X1_eastward : okY yX1_eastward 1 := ⟨by decide, by decide, by decide +kernel⟩
abbrev m_X1_northward : Mt := (yX1_northward, cX1_northward, 1, (some .int), 0)
theorem oy_X1_northward : okY yX1_northward 1 := ⟨by decide, by decide, by decide +kernel⟩
abbrev m_X3_stir : Mt := (yX3_stir, cX3_stir, 3, (some .int), 0)
theorem oy_X3_stir : okY yX3_stir 2 := ⟨by decide, by decide, by decide +kernel⟩
abbrev m_X3_lot : Mt := (yX3_lot, cX3_lot, 3, (some .int), 1)
theorem oy_X3_lot : okY yX3_lot 3 := ⟨by decide, by decide, by decide +kernel⟩
abbrev m_X3_make : Mt := (yX3_make, cX3_make, 8, none, 2)
theorem oy_X3_make : okY yX3_make 4 := ⟨by decide, by decide, by decide +kernel⟩
abbrev m_X3_strikes : Mt := (yX3_strikes, cX3_strikes, 7, (some .int), 2)
theorem oy_X3_strikes : okY yX3_strikes 2 := ⟨by decide, by decide, by decide +kernel⟩
abbrev m_X11_made : Mt := (yX11_made, cX11_made, 4, (some .int), 5)
theorem oy_X11_made : okY yX11_made 3 := ⟨by decide, by decide, by decide +kernel⟩
abbrev m_X11_madeAt : Mt := (yX11_madeAt, cX11_madeAt, 6, (some .int), 5)
theorem oy_X11_madeAt : okY yX11_madeAt 5 := ⟨by decide, by decide, by decide +kernel⟩
abbrev m_X11_many : Mt := (yX11_many, cX11_many, 4, (some .int), 7)
theorem oy_X11_many : okY yX11_many 3 := ⟨by decide, by decide, by decide +kernel⟩
abbrev m_X11_move : Mt := (yX11_move, cX11_move, 4, (some .int), 2)
theorem oy_X11_move : okY yX11_move 3 := ⟨by decide, by decide, by decide +kernel⟩
abbrev m_X11_next : Mt := (yX11_next, cX11_next, 8, (some .int), 6)
theorem oy_X11_next : okY yX11_next 3 := ⟨by decide, by decide, by decide +kernel⟩
abbrev m_X11_odds : Mt := (yX11_odds, cX11_odds, 8, (some .int), 5)
theorem oy_X11_odds : okY yX11_odds 5 := ⟨by decide, by decide, by decide +kernel⟩
abbrev m_X11_otherwise : Mt := (yX11_otherwise, cX11_otherwise, 6, (some .int), 6)
theorem oy_X11_otherwise : okY yX11_otherwise 4 := ⟨by decide, by decide, by decide +kernel⟩
abbrev m_X11_place : Mt := (yX11_place, cX11_place, 1, (some .int), 0)
theorem oy_X11_place : okY yX11_place 0 := ⟨by decide, by decide, by decide +kernel⟩
abbrev m_X11_pointing : Mt := (yX11_pointing, cX11_pointing, 4, (some .int), 3)
theorem oy_X11_pointing : okY yX11_pointing 3 := ⟨by decide, by decide, by decide +kernel⟩
abbrev m_X11_price : Mt := (yX11_price, cX11_price, 5, (some .int), 6)
theorem oy_X11_price : okY yX11_price 2 := ⟨by decide, by decide, by decide +kernel⟩
abbrev m_X5_kindHere : Mt := (yX5_kindHere, cX5_kindHere, 1, (some .int), 0)
theorem oy_X5_kindHere : okY yX5_kindHere 0 := ⟨by decide, by decide, by decide +kernel⟩
abbrev m_X5_stop : Mt := (yX5_stop, cX5_stop, 2, none, 0)
theorem oy_X5_stop : okY yX5_stop 1 := ⟨by decide, by decide, by decide +kernel⟩
abbrev m_X5_blame : Mt := (yX5_blame, cX5_blame, 3, none, 0)
theorem oy_X5_blame : okY yX5_blame 2 := ⟨by decide, by decide, by decide +kernel⟩
abbrev m_X5_hasRoom : Mt := (yX5_hasRoom, cX5_hasRoom, 3, (some .boolean), 1)
theorem oy_X5_hasRoom : okY yX5_hasRoom 2 := ⟨by decide, by decide, by decide +kernel⟩
abbrev m_X5_take : Mt := (yX5_take, cX5_take, 2, (some .boolean), 0)
theorem oy_X5_take : okY yX5_take 1 := ⟨by decide, by decide, by decide +kernel⟩
abbrev m_X5_unit (n : Nat) : Mt := (yX5_unit, cX5_unit, 4, none, 3 * n + 6)
theorem oy_X5_unit : okY yX5_unit 1 := ⟨by decide, by decide, by decide +kernel⟩
abbrev m_X5_product (n : Nat) : Mt := (yX5_product, cX5_product, 4, none, 3 * n + 7)
theorem oy_X5_product : okY yX5_product 1 := ⟨by decide, by decide, by decide +kernel⟩
abbrev m_X5_sum (n : Nat) : Mt := (yX5_sum, cX5_sum, 4, none, 3 * n + 5)
theorem oy_X5_sum : okY yX5_sum 1 := ⟨by decide, by decide, by decide +kernel⟩
abbrev m_X5_thingNamed : Mt := (yX5_thingNamed, cX5_thingNamed, 4, (some .int), 0)
theorem oy_X5_thingNamed : okY yX5_thingNamed 1 := ⟨by decide, by decide, by decide +kernel⟩
abbrev m_X5_tellDoor : Mt := (yX5_tellDoor, cX5_tellDoor, 4, none, 2)
theorem oy_X5_tellDoor : okY yX5_tellDoor 0 := ⟨by decide, by decide, by decide +kernel⟩
abbrev m_X5_blameAbove : Mt := (yX5_blameAbove, cX5_blameAbove, 3, none, 1)
theorem oy_X5_blameAbove : okY yX5_blameAbove 2 := ⟨by decide, by decide, by decide +kernel⟩
abbrev m_X5_tellHill : Mt := (yX5_tellHill, cX5_tellHill, 3, none, 2)
theorem oy_X5_tellHill : okY yX5_tellHill 0 := ⟨by decide, by decide, by decide +kernel⟩
abbrev m_X5_tellNear : Mt := (yX5_tellNear, cX5_tellNear, 2, none, 2)
theorem oy_X5_tellNear : okY yX5_tellNear 0 := ⟨by decide, by decide, by decide +kernel⟩
abbrev m_X5_literal : Mt := (yX5_literal, cX5_literal, 3, none, 30)
theorem oy_X5_literal : okY yX5_literal 0 := ⟨by decide, by decide, by decide +kernel⟩
abbrev m_X5_tellRule : Mt := (yX5_tellRule, cX5_tellRule, 4, none, 31)
theorem oy_X5_tellRule : okY yX5_tellRule 0 := ⟨by decide, by decide, by decide +kernel⟩
abbrev m_X5_blameIfNamed : Mt := (yX5_blameIfNamed, cX5_blameIfNamed, 4, none, 1)
theorem oy_X5_blameIfNamed : okY yX5_blameIfNamed 1 := ⟨by decide, by decide, by decide +kernel⟩
abbrev m_X5_tellSky : Mt := (yX5_tellSky, cX5_tellSky, 3, none, 30)
theorem oy_X5_tellSky : okY yX5_tellSky 0 := ⟨by decide, by decide, by decide +kernel⟩
abbrev m_X9_isTaken : Mt := (yX9_isTaken, cX9_isTaken, 4, (some .boolean), 0)
theorem oy_X9_isTaken : okY yX9_isTaken 2 := ⟨by decide, by decide, by decide +kernel⟩
abbrev m_X5_tellThing : Mt := (yX5_tellThing, cX5_tellThing, 4, none, 2)
theorem oy_X5_tellThing : okY yX5_tellThing 1 := ⟨by decide, by decide, by decide +kernel⟩
abbrev m_X5_tellAll : Mt := (yX5_tellAll, cX5_tellAll, 4, none, 32)
theorem oy_X5_tellAll : okY yX5_tellAll 1 := ⟨by decide, by decide, by decide +kernel⟩
abbrev m_X7_forget : Mt := (yX7_forget, cX7_forget, 1, none, 0)
theorem oy_X7_forget : okY yX7_forget 0 := ⟨by decide, by decide, by decide +kernel⟩
abbrev m_X8_sign : Mt := (yX8_sign, cX8_sign, 2, (some .int), 0)
theorem oy_X8_sign : okY yX8_sign 1 := ⟨by decide, by decide, by decide +kernel⟩
abbrev m_X8_behindBlanks : Mt := (yX8_behindBlanks, cX8_behindBlanks, 4, (some .int), 1)
theorem oy_X8_behindBlanks : okY yX8_behindBlanks 1 := ⟨by decide, by decide, by decide +kernel⟩
abbrev m_X8_isDigit : Mt := (yX8_isDigit, cX8_isDigit, 1, (some .boolean), 0)
theorem oy_X8_isDigit : okY yX8_isDigit 1 := ⟨by decide, by decide, by decide +kernel⟩
abbrev m_X8_cutNumber : Mt := (yX8_cutNumber, cX8_cutNumber, 4, (some .int), 1)
theorem oy_X8_cutNumber : okY yX8_cutNumber 1 := ⟨by decide, by decide, by decide +kernel⟩
abbrev m_X8_isLetter : Mt := (yX8_isLetter, cX8_isLetter, 1, (some .boolean), 0)
theorem oy_X8_isLetter : okY yX8_isLetter 1 := ⟨by decide, by decide, by decide +kernel⟩
abbrev m_X8_isWord : Mt := (yX8_isWord, cX8_isWord, 7, (some .boolean), 5)
theorem oy_X8_isWord : okY yX8_isWord 3 := ⟨by decide, by decide, by decide +kernel⟩
abbrev m_X8_wordKind : Mt := (yX8_wordKind, cX8_wordKind, 4, (some .int), 6)
theorem oy_X8_wordKind : okY yX8_wordKind 2 := ⟨by decide, by decide, by decide +kernel⟩
abbrev m_X8_cutWord : Mt := (yX8_cutWord, cX8_cutWord, 5, (some .int), 7)
theorem oy_X8_cutWord : okY yX8_cutWord 1 := ⟨by decide, by decide, by decide +kernel⟩
abbrev m_X8_signKind : Mt := (yX8_signKind, cX8_signKind, 2, (some .int), 0)
theorem oy_X8_signKind : okY yX8_signKind 2 := ⟨by decide, by decide, by decide +kernel⟩
abbrev m_X8_cutOne : Mt := (yX8_cutOne, cX8_cutOne, 3, (some .int), 8)
theorem oy_X8_cutOne : okY yX8_cutOne 1 := ⟨by decide, by decide, by decide +kernel⟩
abbrev m_X8_cut : Mt := (yX8_cut, cX8_cut, 3, none, 9)
theorem oy_X8_cut : okY yX8_cut 0 := ⟨by decide, by decide, by decide +kernel⟩
abbrev m_X9_forget : Mt := (yX9_forget, cX9_forget, 1, none, 1)
theorem oy_X9_forget : okY yX9_forget 0 := ⟨by decide, by decide, by decide +kernel⟩
abbrev m_X11_read : Mt := (yX11_read, cX11_read, 2, (some .int), 33)
theorem oy_X11_read : okY yX11_read 0 := ⟨by decide, by decide, by decide +kernel⟩
abbrev m_X11_rise : Mt := (yX11_rise, cX11_rise, 3, (some .int), 4)
theorem oy_X11_rise : okY yX11_rise 2 := ⟨by decide, by decide, by decide +kernel⟩
abbrev m_X11_say : Mt := (yX11_say, cX11_say, 6, (some .int), 7)
theorem oy_X11_say : okY yX11_say 3 := ⟨by decide, by decide, by decide +kernel⟩
abbrev m_X11_seen : Mt := (yX11_seen, cX11_seen, 5, (some .long), 2)
theorem oy_X11_seen : okY yX11_seen 4 := ⟨by decide, by decide, by decide +kernel⟩
abbrev m_X11_site : Mt := (yX11_site, cX11_site, 3, (some .int), 1)
theorem oy_X11_site : okY yX11_site 2 := ⟨by decide, by decide, by decide +kernel⟩
abbrev m_X11_story : Mt := (yX11_story, cX11_story, 6, (some .int), 7)
theorem oy_X11_story : okY yX11_story 5 := ⟨by decide, by decide, by decide +kernel⟩
abbrev m_X11_striking : Mt := (yX11_striking, cX11_striking, 4, (some .int), 6)
theorem oy_X11_striking : okY yX11_striking 3 := ⟨by decide, by decide, by decide +kernel⟩
abbrev m_X11_thing : Mt := (yX11_thing, cX11_thing, 4, (some .int), 2)
theorem oy_X11_thing : okY yX11_thing 3 := ⟨by decide, by decide, by decide +kernel⟩
abbrev m_X11_vector : Mt := (yX11_vector, cX11_vector, 3, (some .int), 1)
theorem oy_X11_vector : okY yX11_vector 2 := ⟨by decide, by decide, by decide +kernel⟩
abbrev m_X12_copy : Mt := (yX12_copy, cX12_copy, 4, none, 0)
theorem oy_X12_copy : okY yX12_copy 2 := ⟨by decide, by decide, by decide +kernel⟩
abbrev m_X12_again : Mt := (yX12_again, cX12_again, 2, (some .boolean), 1)
theorem oy_X12_again : okY yX12_again 1 := ⟨by decide, by decide, by decide +kernel⟩
abbrev m_X12_plain : Mt := (yX12_plain, cX12_plain, 1, (some .int), 0)
theorem oy_X12_plain : okY yX12_plain 1 := ⟨by decide, by decide, by decide +kernel⟩
abbrev m_X12_apart : Mt := (yX12_apart, cX12_apart, 3, (some .int), 1)
theorem oy_X12_apart : okY yX12_apart 2 := ⟨by decide, by decide, by decide +kernel⟩
abbrev m_X12_hitBy : Mt := (yX12_hitBy, cX12_hitBy, 6, (some .int), 2)
theorem oy_X12_hitBy : okY yX12_hitBy 3 := ⟨by decide, by decide, by decide +kernel⟩
abbrev m_X12_turned : Mt := (yX12_turned, cX12_turned, 2, (some .int), 0)
theorem oy_X12_turned : okY yX12_turned 2 := ⟨by decide, by decide, by decide +kernel⟩
abbrev m_X12_hitsOf : Mt := (yX12_hitsOf, cX12_hitsOf, 6, (some .int), 3)
theorem oy_X12_hitsOf : okY yX12_hitsOf 3 := ⟨by decide, by decide, by decide +kernel⟩
abbrev m_X12_isKnown : Mt := (yX12_isKnown, cX12_isKnown, 2, (some .boolean), 0)
theorem oy_X12_isKnown : okY yX12_isKnown 1 := ⟨by decide, by decide, by decide +kernel⟩
abbrev m_X12_isYear : Mt := (yX12_isYear, cX12_isYear, 1, (some .boolean), 0)
theorem oy_X12_isYear : okY yX12_isYear 1 := ⟨by decide, by decide, by decide +kernel⟩
abbrev m_X12_isSet : Mt := (yX12_isSet, cX12_isSet, 4, (some .boolean), 1)
theorem oy_X12_isSet : okY yX12_isSet 3 := ⟨by decide, by decide, by decide +kernel⟩
abbrev m_X12_degreeOf : Mt := (yX12_degreeOf, cX12_degreeOf, 6, (some .int), 1)
theorem oy_X12_degreeOf : okY yX12_degreeOf 2 := ⟨by decide, by decide, by decide +kernel⟩
abbrev m_X12_sum : Mt := (yX12_sum, cX12_sum, 8, (some .int), 0)
theorem oy_X12_sum : okY yX12_sum 2 := ⟨by decide, by decide, by decide +kernel⟩
abbrev m_X12_isLit : Mt := (yX12_isLit, cX12_isLit, 5, (some .boolean), 1)
theorem oy_X12_isLit : okY yX12_isLit 1 := ⟨by decide, by decide, by decide +kernel⟩
abbrev m_X12_isHeld : Mt := (yX12_isHeld, cX12_isHeld, 6, (some .boolean), 2)
theorem oy_X12_isHeld : okY yX12_isHeld 2 := ⟨by decide, by decide, by decide +kernel⟩
abbrev m_X12_isLive : Mt := (yX12_isLive, cX12_isLive, 4, (some .boolean), 0)
theorem oy_X12_isLive : okY yX12_isLive 2 := ⟨by decide, by decide, by decide +kernel⟩
abbrev m_X12_lastOf : Mt := (yX12_lastOf, cX12_lastOf, 5, (some .int), 1)
theorem oy_X12_lastOf : okY yX12_lastOf 3 := ⟨by decide, by decide, by decide +kernel⟩
abbrev m_X12_layThings : Mt := (yX12_layThings, cX12_layThings, 5, none, 2)
theorem oy_X12_layThings : okY yX12_layThings 1 := ⟨by decide, by decide, by decide +kernel⟩
abbrev m_X12_isDoor : Mt := (yX12_isDoor, cX12_isDoor, 4, (some .boolean), 0)
theorem oy_X12_isDoor : okY yX12_isDoor 2 := ⟨by decide, by decide, by decide +kernel⟩
abbrev m_X12_lineOf : Mt := (yX12_lineOf, cX12_lineOf, 5, (some .int), 1)
theorem oy_X12_lineOf : okY yX12_lineOf 2 := ⟨by decide, by decide, by decide +kernel⟩
abbrev m_X12_look : Mt := (yX12_look, cX12_look, 3, none, 2)
theorem oy_X12_look : okY yX12_look 1 := ⟨by decide, by decide, by decide +kernel⟩
abbrev m_X12_lay : Mt := (yX12_lay, cX12_lay, 8, none, 3)
theorem oy_X12_lay : okY yX12_lay 1 := ⟨by decide, by decide, by decide +kernel⟩
abbrev m_X12_heightOf : Mt := (yX12_heightOf, cX12_heightOf, 4, (some .int), 0)
theorem oy_X12_heightOf : okY yX12_heightOf 1 := ⟨by decide, by decide, by decide +kernel⟩
abbrev m_X12_skyAt : Mt := (yX12_skyAt, cX12_skyAt, 5, (some .int), 1)
theorem oy_X12_skyAt : okY yX12_skyAt 3 := ⟨by decide, by decide, by decide +kernel⟩
abbrev m_X12_riseOf : Mt := (yX12_riseOf, cX12_riseOf, 4, (some .int), 2)
theorem oy_X12_riseOf : okY yX12_riseOf 2 := ⟨by decide, by decide, by decide +kernel⟩
abbrev m_X12_laySky : Mt := (yX12_laySky, cX12_laySky, 3, none, 3)
theorem oy_X12_laySky : okY yX12_laySky 1 := ⟨by decide, by decide, by decide +kernel⟩
abbrev m_X12_layAll : Mt := (yX12_layAll, cX12_layAll, 3, none, 4)
theorem oy_X12_layAll : okY yX12_layAll 2 := ⟨by decide, by decide, by decide +kernel⟩
abbrev m_X12_allHits : Mt := (yX12_allHits, cX12_allHits, 6, (some .int), 5)
theorem oy_X12_allHits : okY yX12_allHits 3 := ⟨by decide, by decide, by decide +kernel⟩
abbrev m_X12_alone : Mt := (yX12_alone, cX12_alone, 11, (some .int), 5)
theorem oy_X12_alone : okY yX12_alone 3 := ⟨by decide, by decide, by decide +kernel⟩
abbrev m_X12_fact : Mt := (yX12_fact, cX12_fact, 6, (some .int), 0)
theorem oy_X12_fact : okY yX12_fact 4 := ⟨by decide, by decide, by decide +kernel⟩
abbrev m_X12_isIn : Mt := (yX12_isIn, cX12_isIn, 3, (some .boolean), 0)
theorem oy_X12_isIn : okY yX12_isIn 3 := ⟨by decide, by decide, by decide +kernel⟩
abbrev m_X12_annul : Mt := (yX12_annul, cX12_annul, 2, (some .int), 1)
theorem oy_X12_annul : okY yX12_annul 1 := ⟨by decide, by decide, by decide +kernel⟩
abbrev m_X12_isCounting : Mt := (yX12_isCounting, cX12_isCounting, 5, (some .boolean), 1)
theorem oy_X12_isCounting : okY yX12_isCounting 5 := ⟨by decide, by decide, by decide +kernel⟩
abbrev m_X12_anything : Mt := (yX12_anything, cX12_anything, 11, (some .int), 2)
theorem oy_X12_anything : okY yX12_anything 5 := ⟨by decide, by decide, by decide +kernel⟩
abbrev m_X12_asMany : Mt := (yX12_asMany, cX12_asMany, 5, (some .int), 4)
theorem oy_X12_asMany : okY yX12_asMany 1 := ⟨by decide, by decide, by decide +kernel⟩
abbrev m_X12_await : Mt := (yX12_await, cX12_await, 2, none, 0)
theorem oy_X12_await : okY yX12_await 1 := ⟨by decide, by decide, by decide +kernel⟩
abbrev m_X12_back : Mt := (yX12_back, cX12_back, 2, (some .int), 0)
theorem oy_X12_back : okY yX12_back 1 := ⟨by decide, by decide, by decide +kernel⟩
abbrev m_X12_begin : Mt := (yX12_begin, cX12_begin, 2, none, 0)
theorem oy_X12_begin : okY yX12_begin 1 := ⟨by decide, by decide, by decide +kernel⟩
abbrev m_X12_byteAt : Mt := (yX12_byteAt, cX12_byteAt, 2, (some .int), 0)
theorem oy_X12_byteAt : okY yX12_byteAt 1 := ⟨by decide, by decide, by decide +kernel⟩
abbrev m_X12_pointed : Mt := (yX12_pointed, cX12_pointed, 6, (some .int), 2)
theorem oy_X12_pointed : okY yX12_pointed 3 := ⟨by decide, by decide, by decide +kernel⟩
abbrev m_X12_chosen : Mt := (yX12_chosen, cX12_chosen, 5, (some .long), 0)
theorem oy_X12_chosen : okY yX12_chosen 2 := ⟨by decide, by decide, by decide +kernel⟩
abbrev m_X12_power : Mt := (yX12_power, cX12_power, 5, (some .long), 0)
theorem oy_X12_power : okY yX12_power 2 := ⟨by decide, by decide, by decide +kernel⟩
abbrev m_X12_rows : Mt := (yX12_rows, cX12_rows, 7, (some .long), 1)
theorem oy_X12_rows : okY yX12_rows 4 := ⟨by decide, by decide, by decide +kernel⟩
abbrev m_X12_chance : Mt := (yX12_chance, cX12_chance, 3, (some .long), 3)
theorem oy_X12_chance : okY yX12_chance 2 := ⟨by decide, by decide, by decide +kernel⟩
abbrev m_X12_clear : Mt := (yX12_clear, cX12_clear, 2, (some .int), 0)
theorem oy_X12_clear : okY yX12_clear 0 := ⟨by decide, by decide, by decide +kernel⟩
abbrev m_X12_emit : Mt := (yX12_emit, cX12_emit, 3, none, 0)
theorem oy_X12_emit : okY yX12_emit 2 := ⟨by decide, by decide, by decide +kernel⟩
abbrev m_X12_isSign : Mt := (yX12_isSign, cX12_isSign, 2, (some .boolean), 0)
theorem oy_X12_isSign : okY yX12_isSign 1 := ⟨by decide, by decide, by decide +kernel⟩
abbrev m_X12_wrong : Mt := (yX12_wrong, cX12_wrong, 2, (some .boolean), 0)
theorem oy_X12_wrong : okY yX12_wrong 1 := ⟨by decide, by decide, by decide +kernel⟩
abbrev m_X12_pass : Mt := (yX12_pass, cX12_pass, 1, (some .boolean), 1)
theorem oy_X12_pass : okY yX12_pass 0 := ⟨by decide, by decide, by decide +kernel⟩
abbrev m_X12_rank : Mt := (yX12_rank, cX12_rank, 1, (some .int), 0)
theorem oy_X12_rank : okY yX12_rank 1 := ⟨by decide, by decide, by decide +kernel⟩
abbrev m_X12_reduce : Mt := (yX12_reduce, cX12_reduce, 3, none, 1)
theorem oy_X12_reduce : okY yX12_reduce 2 := ⟨by decide, by decide, by decide +kernel⟩
abbrev m_X12_variableOf : Mt := (yX12_variableOf, cX12_variableOf, 1, (some .int), 0)
theorem oy_X12_variableOf : okY yX12_variableOf 1 := ⟨by decide, by decide, by decide +kernel⟩
abbrev m_X12_expr : Mt := (yX12_expr, cX12_expr, 5, (some .boolean), 2)
theorem oy_X12_expr : okY yX12_expr 0 := ⟨by decide, by decide, by decide +kernel⟩
abbrev m_X12_isWord : Mt := (yX12_isWord, cX12_isWord, 2, (some .boolean), 0)
theorem oy_X12_isWord : okY yX12_isWord 1 := ⟨by decide, by decide, by decide +kernel⟩
abbrev m_X12_cond : Mt := (yX12_cond, cX12_cond, 6, (some .boolean), 3)
theorem oy_X12_cond : okY yX12_cond 0 := ⟨by decide, by decide, by decide +kernel⟩
abbrev m_X12_count : Mt := (yX12_count, cX12_count, 2, (some .int), 0)
theorem oy_X12_count : okY yX12_count 1 := ⟨by decide, by decide, by decide +kernel⟩
abbrev m_X12_counts : Mt := (yX12_counts, cX12_counts, 6, (some .int), 2)
theorem oy_X12_counts : okY yX12_counts 5 := ⟨by decide, by decide, by decide +kernel⟩
abbrev m_X12_isThing : Mt := (yX12_isThing, cX12_isThing, 2, (some .boolean), 0)
theorem oy_X12_isThing : okY yX12_isThing 1 := ⟨by decide, by decide, by decide +kernel⟩
abbrev m_X12_date : Mt := (yX12_date, cX12_date, 3, (some .int), 1)
theorem oy_X12_date : okY yX12_date 2 := ⟨by decide, by decide, by decide +kernel⟩
abbrev m_X12_degree : Mt := (yX12_degree, cX12_degree, 3, (some .int), 2)
theorem oy_X12_degree : okY yX12_degree 2 := ⟨by decide, by decide, by decide +kernel⟩
abbrev m_X12_typed : Mt := (yX12_typed, cX12_typed, 3, none, 0)
theorem oy_X12_typed : okY yX12_typed 1 := ⟨by decide, by decide, by decide +kernel⟩
abbrev m_X12_feed : Mt := (yX12_feed, cX12_feed, 6, (some .int), 1)
theorem oy_X12_feed : okY yX12_feed 5 := ⟨by decide, by decide, by decide +kernel⟩
abbrev m_X12_found : Mt := (yX12_found, cX12_found, 5, (some .int), 1)
theorem oy_X12_found : okY yX12_found 3 := ⟨by decide, by decide, by decide +kernel⟩
abbrev m_X12_isSpan : Mt := (yX12_isSpan, cX12_isSpan, 6, (some .boolean), 2)
theorem oy_X12_isSpan : okY yX12_isSpan 5 := ⟨by decide, by decide, by decide +kernel⟩
abbrev m_X12_free : Mt := (yX12_free, cX12_free, 10, (some .int), 4)
theorem oy_X12_free : okY yX12_free 5 := ⟨by decide, by decide, by decide +kernel⟩
abbrev m_X12_freer : Mt := (yX12_freer, cX12_freer, 10, (some .int), 5)
theorem oy_X12_freer : okY yX12_freer 6 := ⟨by decide, by decide, by decide +kernel⟩
abbrev m_X12_gone : Mt := (yX12_gone, cX12_gone, 2, (some .int), 1)
theorem oy_X12_gone : okY yX12_gone 1 := ⟨by decide, by decide, by decide +kernel⟩
abbrev m_X12_height : Mt := (yX12_height, cX12_height, 2, (some .int), 1)
theorem oy_X12_height : okY yX12_height 1 := ⟨by decide, by decide, by decide +kernel⟩
abbrev m_X12_hit : Mt := (yX12_hit, cX12_hit, 5, (some .int), 4)
theorem oy_X12_hit : okY yX12_hit 4 := ⟨by decide, by decide, by decide +kernel⟩
abbrev m_X12_hitAt : Mt := (yX12_hitAt, cX12_hitAt, 8, (some .int), 5)
theorem oy_X12_hitAt : okY yX12_hitAt 5 := ⟨by decide, by decide, by decide +kernel⟩
abbrev m_X12_hits : Mt := (yX12_hits, cX12_hits, 6, (some .int), 5)
theorem oy_X12_hits : okY yX12_hits 5 := ⟨by decide, by decide, by decide +kernel⟩
abbrev m_X12_hold : Mt := (yX12_hold, cX12_hold, 2, (some .boolean), 1)
theorem oy_X12_hold : okY yX12_hold 1 := ⟨by decide, by decide, by decide +kernel⟩
abbrev m_X12_isDigit : Mt := (yX12_isDigit, cX12_isDigit, 2, (some .boolean), 1)
theorem oy_X12_isDigit : okY yX12_isDigit 1 := ⟨by decide, by decide, by decide +kernel⟩
abbrev m_X12_isLetter : Mt := (yX12_isLetter, cX12_isLetter, 2, (some .boolean), 1)
theorem oy_X12_isLetter : okY yX12_isLetter 1 := ⟨by decide, by decide, by decide +kernel⟩
abbrev m_X12_isMake : Mt := (yX12_isMake, cX12_isMake, 2, (some .boolean), 1)
theorem oy_X12_isMake : okY yX12_isMake 2 := ⟨by decide, by decide, by decide +kernel⟩
abbrev m_X12_life : Mt := (yX12_life, cX12_life, 7, (some .int), 1)
theorem oy_X12_life : okY yX12_life 4 := ⟨by decide, by decide, by decide +kernel⟩
abbrev m_X12_line : Mt := (yX12_line, cX12_line, 4, (some .int), 4)
theorem oy_X12_line : okY yX12_line 3 := ⟨by decide, by decide, by decide +kernel⟩
abbrev m_X12_lines : Mt := (yX12_lines, cX12_lines, 5, (some .int), 4)
theorem oy_X12_lines : okY yX12_lines 2 := ⟨by decide, by decide, by decide +kernel⟩
abbrev m_X12_mixed : Mt := (yX12_mixed, cX12_mixed, 3, (some .int), 0)
theorem oy_X12_mixed : okY yX12_mixed 2 := ⟨by decide, by decide, by decide +kernel⟩
abbrev m_X12_lot : Mt := (yX12_lot, cX12_lot, 3, (some .int), 1)
theorem oy_X12_lot : okY yX12_lot 3 := ⟨by decide, by decide, by decide +kernel⟩
abbrev m_X12_vectorOf : Mt := (yX12_vectorOf, cX12_vectorOf, 2, (some .int), 0)
theorem oy_X12_vectorOf : okY yX12_vectorOf 2 := ⟨by decide, by decide, by decide +kernel⟩
abbrev m_X12_make : Mt := (yX12_make, cX12_make, 7, none, 4)
theorem oy_X12_make : okY yX12_make 3 := ⟨by decide, by decide, by decide +kernel⟩
abbrev m_X12_madeHits : Mt := (yX12_madeHits, cX12_madeHits, 9, (some .int), 5)
theorem oy_X12_madeHits : okY yX12_madeHits 3 := ⟨by decide, by decide, by decide +kernel⟩
abbrev m_X12_made : Mt := (yX12_made, cX12_made, 4, (some .int), 6)
theorem oy_X12_made : okY yX12_made 3 := ⟨by decide, by decide, by decide +kernel⟩
abbrev m_X12_madeAt : Mt := (yX12_madeAt, cX12_madeAt, 6, (some .int), 5)
theorem oy_X12_madeAt : okY yX12_madeAt 5 := ⟨by decide, by decide, by decide +kernel⟩
abbrev m_X12_many : Mt := (yX12_many, cX12_many, 4, (some .int), 5)
theorem oy_X12_many : okY yX12_many 3 := ⟨by decide, by decide, by decide +kernel⟩
abbrev m_X12_move : Mt := (yX12_move, cX12_move, 4, (some .int), 1)
theorem oy_X12_move : okY yX12_move 3 := ⟨by decide, by decide, by decide +kernel⟩
abbrev m_X12_takes : Mt := (yX12_takes, cX12_takes, 2, (some .boolean), 2)
theorem oy_X12_takes : okY yX12_takes 1 := ⟨by decide, by decide, by decide +kernel⟩
abbrev m_X12_tells : Mt := (yX12_tells, cX12_tells, 4, none, 0)
theorem oy_X12_tells : okY yX12_tells 2 := ⟨by decide, by decide, by decide +kernel⟩
abbrev m_X12_names : Mt := (yX12_names, cX12_names, 4, (some .boolean), 3)
theorem oy_X12_names : okY yX12_names 1 := ⟨by decide, by decide, by decide +kernel⟩
abbrev m_X12_next : Mt := (yX12_next, cX12_next, 9, (some .int), 5)
theorem oy_X12_next : okY yX12_next 3 := ⟨by decide, by decide, by decide +kernel⟩
abbrev m_X12_odds : Mt := (yX12_odds, cX12_odds, 8, (some .int), 6)
theorem oy_X12_odds : okY yX12_odds 5 := ⟨by decide, by decide, by decide +kernel⟩
abbrev m_X12_otherwise : Mt := (yX12_otherwise, cX12_otherwise, 7, (some .int), 5)
theorem oy_X12_otherwise : okY yX12_otherwise 4 := ⟨by decide, by decide, by decide +kernel⟩
abbrev m_X12_takesInt : Mt := (yX12_takesInt, cX12_takesInt, 4, (some .boolean), 3)
theorem oy_X12_takesInt : okY yX12_takesInt 2 := ⟨by decide, by decide, by decide +kernel⟩
abbrev m_X12_thingAt : Mt := (yX12_thingAt, cX12_thingAt, 3, (some .int), 1)
theorem oy_X12_thingAt : okY yX12_thingAt 1 := ⟨by decide, by decide, by decide +kernel⟩
abbrev m_X12_tellDoor : Mt := (yX12_tellDoor, cX12_tellDoor, 3, (some .boolean), 3)
theorem oy_X12_tellDoor : okY yX12_tellDoor 0 := ⟨by decide, by decide, by decide +kernel⟩
abbrev m_X12_tellHill : Mt := (yX12_tellHill, cX12_tellHill, 2, (some .boolean), 4)
theorem oy_X12_tellHill : okY yX12_tellHill 0 := ⟨by decide, by decide, by decide +kernel⟩
abbrev m_X12_tellRule : Mt := (yX12_tellRule, cX12_tellRule, 1, (some .boolean), 4)
theorem oy_X12_tellRule : okY yX12_tellRule 0 := ⟨by decide, by decide, by decide +kernel⟩
abbrev m_X12_tellSky : Mt := (yX12_tellSky, cX12_tellSky, 2, (some .boolean), 4)
theorem oy_X12_tellSky : okY yX12_tellSky 0 := ⟨by decide, by decide, by decide +kernel⟩
abbrev m_X12_tellThing : Mt := (yX12_tellThing, cX12_tellThing, 5, (some .boolean), 4)
theorem oy_X12_tellThing : okY yX12_tellThing 1 := ⟨by decide, by decide, by decide +kernel⟩
abbrev m_X12_tell : Mt := (yX12_tell, cX12_tell, 2, (some .boolean), 5)
theorem oy_X12_tell : okY yX12_tell 0 := ⟨by decide, by decide, by decide +kernel⟩
abbrev m_X12_parses : Mt := (yX12_parses, cX12_parses, 1, (some .boolean), 6)
theorem oy_X12_parses : okY yX12_parses 0 := ⟨by decide, by decide, by decide +kernel⟩
abbrev m_X12_place : Mt := (yX12_place, cX12_place, 1, (some .int), 0)
theorem oy_X12_place : okY yX12_place 0 := ⟨by decide, by decide, by decide +kernel⟩
abbrev m_X12_pointing : Mt := (yX12_pointing, cX12_pointing, 4, (some .int), 3)
theorem oy_X12_pointing : okY yX12_pointing 3 := ⟨by decide, by decide, by decide +kernel⟩
abbrev m_X12_strikeBy : Mt := (yX12_strikeBy, cX12_strikeBy, 5, none, 0)
theorem oy_X12_strikeBy : okY yX12_strikeBy 1 := ⟨by decide, by decide, by decide +kernel⟩
abbrev m_X12_strike : Mt := (yX12_strike, cX12_strike, 4, none, 3)
theorem oy_X12_strike : okY yX12_strike 0 := ⟨by decide, by decide, by decide +kernel⟩
abbrev m_X12_price : Mt := (yX12_price, cX12_price, 5, (some .int), 5)
theorem oy_X12_price : okY yX12_price 2 := ⟨by decide, by decide, by decide +kernel⟩
abbrev m_X12_signAt : Mt := (yX12_signAt, cX12_signAt, 4, (some .int), 1)
theorem oy_X12_signAt : okY yX12_signAt 1 := ⟨by decide, by decide, by decide +kernel⟩
abbrev m_X12_token : Mt := (yX12_token, cX12_token, 4, none, 0)
theorem oy_X12_token : okY yX12_token 3 := ⟨by decide, by decide, by decide +kernel⟩
abbrev m_X12_wordOf : Mt := (yX12_wordOf, cX12_wordOf, 2, (some .int), 0)
theorem oy_X12_wordOf : okY yX12_wordOf 1 := ⟨by decide, by decide, by decide +kernel⟩
abbrev m_X12_scan : Mt := (yX12_scan, cX12_scan, 6, (some .int), 2)
theorem oy_X12_scan : okY yX12_scan 1 := ⟨by decide, by decide, by decide +kernel⟩
abbrev m_X12_scanAll : Mt := (yX12_scanAll, cX12_scanAll, 4, none, 3)
theorem oy_X12_scanAll : okY yX12_scanAll 0 := ⟨by decide, by decide, by decide +kernel⟩
abbrev m_X12_read : Mt := (yX12_read, cX12_read, 1, (some .int), 7)
theorem oy_X12_read : okY yX12_read 0 := ⟨by decide, by decide, by decide +kernel⟩
abbrev m_X12_rise : Mt := (yX12_rise, cX12_rise, 3, (some .int), 3)
theorem oy_X12_rise : okY yX12_rise 2 := ⟨by decide, by decide, by decide +kernel⟩
abbrev m_X12_say : Mt := (yX12_say, cX12_say, 4, (some .int), 5)
theorem oy_X12_say : okY yX12_say 3 := ⟨by decide, by decide, by decide +kernel⟩
abbrev m_X12_seen : Mt := (yX12_seen, cX12_seen, 5, (some .long), 2)
theorem oy_X12_seen : okY yX12_seen 4 := ⟨by decide, by decide, by decide +kernel⟩
abbrev m_X12_site : Mt := (yX12_site, cX12_site, 3, (some .int), 1)
theorem oy_X12_site : okY yX12_site 2 := ⟨by decide, by decide, by decide +kernel⟩
abbrev m_X12_story : Mt := (yX12_story, cX12_story, 8, (some .int), 5)
theorem oy_X12_story : okY yX12_story 5 := ⟨by decide, by decide, by decide +kernel⟩
abbrev m_X12_striking : Mt := (yX12_striking, cX12_striking, 4, (some .int), 5)
theorem oy_X12_striking : okY yX12_striking 3 := ⟨by decide, by decide, by decide +kernel⟩
abbrev m_X12_thing : Mt := (yX12_thing, cX12_thing, 4, (some .int), 3)
theorem oy_X12_thing : okY yX12_thing 3 := ⟨by decide, by decide, by decide +kernel⟩
abbrev m_X12_vector : Mt := (yX12_vector, cX12_vector, 3, (some .int), 1)
theorem oy_X12_vector : okY yX12_vector 2 := ⟨by decide, by decide, by decide +kernel⟩
theorem dJ9_floorMod_7cf53_0 : decode cJ9_floorMod_7cf53 0 = .ok (.iload_n 0, 1) := by decide +kernel
theorem dJ9_floorMod_7cf53_1 : decode cJ9_floorMod_7cf53 1 = .ok (.iload_n 1, 1) := by decide +kernel
theorem dJ9_floorMod_7cf53_2 : decode cJ9_floorMod_7cf53 2 = .ok (.irem, 1) := by decide +kernel
theorem dJ9_floorMod_7cf53_3 : decode cJ9_floorMod_7cf53 3 = .ok (.istore_n 2, 1) := by decide +kernel
theorem dJ9_floorMod_7cf53_4 : decode cJ9_floorMod_7cf53 4 = .ok (.iload_n 0, 1) := by decide +kernel
theorem dJ9_floorMod_7cf53_5 : decode cJ9_floorMod_7cf53 5 = .ok (.iload_n 1, 1) := by decide +kernel
theorem dJ9_floorMod_7cf53_6 : decode cJ9_floorMod_7cf53 6 = .ok (.ixor, 1) := by decide +kernel
theorem dJ9_floorMod_7cf53_7 : decode cJ9_floorMod_7cf53 7 = .ok (.ifCond .ge 11, 3) := by decide +kernel
theorem dJ9_floorMod_7cf53_10 : decode cJ9_floorMod_7cf53 10 = .ok (.iload_n 2, 1) := by decide +kernel
theorem dJ9_floorMod_7cf53_11 : decode cJ9_floorMod_7cf53 11 = .ok (.ifCond .eq 7, 3) := by decide +kernel
theorem dJ9_floorMod_7cf53_14 : decode cJ9_floorMod_7cf53 14 = .ok (.iload_n 2, 1) := by decide +kernel
theorem dJ9_floorMod_7cf53_15 : decode cJ9_floorMod_7cf53 15 = .ok (.iload_n 1, 1) := by decide +kernel
theorem dJ9_floorMod_7cf53_16 : decode cJ9_floorMod_7cf53 16 = .ok (.iadd, 1) := by decide +kernel
theorem dJ9_floorMod_7cf53_17 : decode cJ9_floorMod_7cf53 17 = .ok (.ireturn, 1) := by decide +kernel
theorem dJ9_floorMod_7cf53_18 : decode cJ9_floorMod_7cf53 18 = .ok (.iload_n 2, 1) := by decide +kernel
theorem dJ9_floorMod_7cf53_19 : decode cJ9_floorMod_7cf53 19 = .ok (.ireturn, 1) := by decide +kernel
theorem dJ9_abs_0f7a4_0 : decode cJ9_abs_0f7a4 0 = .ok (.iload_n 0, 1) := by decide +kernel
theorem dJ9_abs_0f7a4_1 : decode cJ9_abs_0f7a4 1 = .ok (.ifCond .ge 8, 3) := by decide +kernel
theorem dJ9_abs_0f7a4_4 : decode cJ9_abs_0f7a4 4 = .ok (.iload_n 0, 1) := by decide +kernel
theorem dJ9_abs_0f7a4_5 : decode cJ9_abs_0f7a4 5 = .ok (.ineg, 1) := by decide +kernel
theorem dJ9_abs_0f7a4_6 : decode cJ9_abs_0f7a4 6 = .ok (.goto 4, 3) := by decide +kernel
theorem dJ9_abs_0f7a4_9 : decode cJ9_abs_0f7a4 9 = .ok (.iload_n 0, 1) := by decide +kernel
theorem dJ9_abs_0f7a4_10 : decode cJ9_abs_0f7a4 10 = .ok (.ireturn, 1) := by decide +kernel
theorem dJ9_max_7cf53_0 : decode cJ9_max_7cf53 0 = .ok (.iload_n 0, 1) := by decide +kernel
theorem dJ9_max_7cf53_1 : decode cJ9_max_7cf53 1 = .ok (.iload_n 1, 1) := by decide +kernel
theorem dJ9_max_7cf53_2 : decode cJ9_max_7cf53 2 = .ok (.if_icmp .lt 7, 3) := by decide +kernel
theorem dJ9_max_7cf53_5 : decode cJ9_max_7cf53 5 = .ok (.iload_n 0, 1) := by decide +kernel
theorem dJ9_max_7cf53_6 : decode cJ9_max_7cf53 6 = .ok (.goto 4, 3) := by decide +kernel
theorem dJ9_max_7cf53_9 : decode cJ9_max_7cf53 9 = .ok (.iload_n 1, 1) := by decide +kernel
theorem dJ9_max_7cf53_10 : decode cJ9_max_7cf53 10 = .ok (.ireturn, 1) := by decide +kernel
theorem dJ9_min_7cf53_0 : decode cJ9_min_7cf53 0 = .ok (.iload_n 0, 1) := by decide +kernel
theorem dJ9_min_7cf53_1 : decode cJ9_min_7cf53 1 = .ok (.iload_n 1, 1) := by decide +kernel
theorem dJ9_min_7cf53_2 : decode cJ9_min_7cf53 2 = .ok (.if_icmp .gt 7, 3) := by decide +kernel
theorem dJ9_min_7cf53_5 : decode cJ9_min_7cf53 5 = .ok (.iload_n 0, 1) := by decide +kernel
theorem dJ9_min_7cf53_6 : decode cJ9_min_7cf53 6 = .ok (.goto 4, 3) := by decide +kernel
theorem dJ9_min_7cf53_9 : decode cJ9_min_7cf53 9 = .ok (.iload_n 1, 1) := by decide +kernel
theorem dJ9_min_7cf53_10 : decode cJ9_min_7cf53 10 = .ok (.ireturn, 1) := by decide +kernel
theorem dJ0_length_8abf5_0 : decode cJ0_length_8abf5 0 = .ok (.aload_n 0, 1) := by decide +kernel
theorem dJ0_length_8abf5_1 : decode cJ0_length_8abf5 1 = .ok (.getfield 9, 3) := by decide +kernel
theorem dJ0_length_8abf5_4 : decode cJ0_length_8abf5 4 = .ok (.arraylength, 1) := by decide +kernel
theorem dJ0_length_8abf5_5 : decode cJ0_length_8abf5 5 = .ok (.aload_n 0, 1) := by decide +kernel
theorem dJ0_length_8abf5_6 : decode cJ0_length_8abf5 6 = .ok (.invokevirtual 335, 3) := by decide +kernel
theorem dJ0_length_8abf5_9 : decode cJ0_length_8abf5 9 = .ok (.ishr, 1) := by decide +kernel
theorem dJ0_length_8abf5_10 : decode cJ0_length_8abf5 10 = .ok (.ireturn, 1) := by decide +kernel
theorem dJ0_charAt_5068e_0 : decode cJ0_charAt_5068e 0 = .ok (.aload_n 0, 1) := by decide +kernel
theorem dJ0_charAt_5068e_1 : decode cJ0_charAt_5068e 1 = .ok (.invokevirtual 492, 3) := by decide +kernel
theorem dJ0_charAt_5068e_4 : decode cJ0_charAt_5068e 4 = .ok (.ifCond .eq 12, 3) := by decide +kernel
theorem dJ0_charAt_5068e_7 : decode cJ0_charAt_5068e 7 = .ok (.aload_n 0, 1) := by decide +kernel
theorem dJ0_charAt_5068e_8 : decode cJ0_charAt_5068e 8 = .ok (.getfield 9, 3) := by decide +kernel
theorem dJ0_charAt_5068e_11 : decode cJ0_charAt_5068e 11 = .ok (.iload_n 1, 1) := by decide +kernel
theorem dJ0_charAt_5068e_12 : decode cJ0_charAt_5068e 12 = .ok (.invokestatic 495, 3) := by decide +kernel
theorem dJ0_charAt_5068e_15 : decode cJ0_charAt_5068e 15 = .ok (.ireturn, 1) := by decide +kernel
theorem dJ0_charAt_5068e_16 : decode cJ0_charAt_5068e 16 = .ok (.aload_n 0, 1) := by decide +kernel
theorem dJ0_charAt_5068e_17 : decode cJ0_charAt_5068e 17 = .ok (.getfield 9, 3) := by decide +kernel
theorem dJ0_charAt_5068e_20 : decode cJ0_charAt_5068e 20 = .ok (.iload_n 1, 1) := by decide +kernel
theorem dJ0_charAt_5068e_21 : decode cJ0_charAt_5068e 21 = .ok (.invokestatic 498, 3) := by decide +kernel
theorem dJ0_charAt_5068e_24 : decode cJ0_charAt_5068e 24 = .ok (.ireturn, 1) := by decide +kernel
theorem dJ0_coder_7d493_0 : decode cJ0_coder_7d493 0 = .ok (.getstatic 38, 3) := by decide +kernel
theorem dJ0_coder_7d493_3 : decode cJ0_coder_7d493 3 = .ok (.ifCond .eq 10, 3) := by decide +kernel
theorem dJ0_coder_7d493_6 : decode cJ0_coder_7d493 6 = .ok (.aload_n 0, 1) := by decide +kernel
theorem dJ0_coder_7d493_7 : decode cJ0_coder_7d493 7 = .ok (.getfield 15, 3) := by decide +kernel
theorem dJ0_coder_7d493_10 : decode cJ0_coder_7d493 10 = .ok (.goto 4, 3) := by decide +kernel
theorem dJ0_coder_7d493_13 : decode cJ0_coder_7d493 13 = .ok (.iconst 1, 1) := by decide +kernel
theorem dJ0_coder_7d493_14 : decode cJ0_coder_7d493 14 = .ok (.ireturn, 1) := by decide +kernel
theorem dJ0_isLatin1_aae02_0 : decode cJ0_isLatin1_aae02 0 = .ok (.getstatic 38, 3) := by decide +kernel
theorem dJ0_isLatin1_aae02_3 : decode cJ0_isLatin1_aae02 3 = .ok (.ifCond .eq 14, 3) := by decide +kernel
theorem dJ0_isLatin1_aae02_6 : decode cJ0_isLatin1_aae02 6 = .ok (.aload_n 0, 1) := by decide +kernel
theorem dJ0_isLatin1_aae02_7 : decode cJ0_isLatin1_aae02 7 = .ok (.getfield 15, 3) := by decide +kernel
theorem dJ0_isLatin1_aae02_10 : decode cJ0_isLatin1_aae02 10 = .ok (.ifCond .ne 7, 3) := by decide +kernel
theorem dJ0_isLatin1_aae02_13 : decode cJ0_isLatin1_aae02 13 = .ok (.iconst 1, 1) := by decide +kernel
theorem dJ0_isLatin1_aae02_14 : decode cJ0_isLatin1_aae02 14 = .ok (.goto 4, 3) := by decide +kernel
theorem dJ0_isLatin1_aae02_17 : decode cJ0_isLatin1_aae02 17 = .ok (.iconst 0, 1) := by decide +kernel
theorem dJ0_isLatin1_aae02_18 : decode cJ0_isLatin1_aae02 18 = .ok (.ireturn, 1) := by decide +kernel
theorem dJ0_checkIndex_df160_0 : decode cJ0_checkIndex_df160 0 = .ok (.iload_n 0, 1) := by decide +kernel
theorem dJ0_checkIndex_df160_1 : decode cJ0_checkIndex_df160 1 = .ok (.iload_n 1, 1) := by decide +kernel
theorem dJ0_checkIndex_df160_2 : decode cJ0_checkIndex_df160 2 = .ok (.getstatic 1053, 3) := by decide +kernel
theorem dJ0_checkIndex_df160_5 : decode cJ0_checkIndex_df160 5 = .ok (.invokestatic 1059, 3) := by decide +kernel
theorem dJ0_checkIndex_df160_8 : decode cJ0_checkIndex_df160 8 = .ok (.pop, 1) := by decide +kernel
theorem dJ0_checkIndex_df160_9 : decode cJ0_checkIndex_df160 9 = .ok (.return_, 1) := by decide +kernel
theorem dJ1_charAt_3b067_0 : decode cJ1_charAt_3b067 0 = .ok (.iload_n 1, 1) := by decide +kernel
theorem dJ1_charAt_3b067_1 : decode cJ1_charAt_3b067 1 = .ok (.aload_n 0, 1) := by decide +kernel
theorem dJ1_charAt_3b067_2 : decode cJ1_charAt_3b067 2 = .ok (.arraylength, 1) := by decide +kernel
theorem dJ1_charAt_3b067_3 : decode cJ1_charAt_3b067 3 = .ok (.invokestatic 9, 3) := by decide +kernel
theorem dJ1_charAt_3b067_6 : decode cJ1_charAt_3b067 6 = .ok (.aload_n 0, 1) := by decide +kernel
theorem dJ1_charAt_3b067_7 : decode cJ1_charAt_3b067 7 = .ok (.iload_n 1, 1) := by decide +kernel
theorem dJ1_charAt_3b067_8 : decode cJ1_charAt_3b067 8 = .ok (.baload, 1) := by decide +kernel
theorem dJ1_charAt_3b067_9 : decode cJ1_charAt_3b067 9 = .ok (.sipush 255, 3) := by decide +kernel
theorem dJ1_charAt_3b067_12 : decode cJ1_charAt_3b067 12 = .ok (.iand, 1) := by decide +kernel
theorem dJ1_charAt_3b067_13 : decode cJ1_charAt_3b067 13 = .ok (.i2c, 1) := by decide +kernel
theorem dJ1_charAt_3b067_14 : decode cJ1_charAt_3b067 14 = .ok (.ireturn, 1) := by decide +kernel
theorem dJ7_fill_53178_0 : decode cJ7_fill_53178 0 = .ok (.iconst 0, 1) := by decide +kernel
theorem dJ7_fill_53178_1 : decode cJ7_fill_53178 1 = .ok (.istore_n 2, 1) := by decide +kernel
theorem dJ7_fill_53178_2 : decode cJ7_fill_53178 2 = .ok (.aload_n 0, 1) := by decide +kernel
theorem dJ7_fill_53178_3 : decode cJ7_fill_53178 3 = .ok (.arraylength, 1) := by decide +kernel
theorem dJ7_fill_53178_4 : decode cJ7_fill_53178 4 = .ok (.istore_n 3, 1) := by decide +kernel
theorem dJ7_fill_53178_5 : decode cJ7_fill_53178 5 = .ok (.iload_n 2, 1) := by decide +kernel
theorem dJ7_fill_53178_6 : decode cJ7_fill_53178 6 = .ok (.iload_n 3, 1) := by decide +kernel
theorem dJ7_fill_53178_7 : decode cJ7_fill_53178 7 = .ok (.if_icmp .ge 13, 3) := by decide +kernel
theorem dJ7_fill_53178_10 : decode cJ7_fill_53178 10 = .ok (.aload_n 0, 1) := by decide +kernel
theorem dJ7_fill_53178_11 : decode cJ7_fill_53178 11 = .ok (.iload_n 2, 1) := by decide +kernel
theorem dJ7_fill_53178_12 : decode cJ7_fill_53178 12 = .ok (.iload_n 1, 1) := by decide +kernel
theorem dJ7_fill_53178_13 : decode cJ7_fill_53178 13 = .ok (.iastore, 1) := by decide +kernel
theorem dJ7_fill_53178_14 : decode cJ7_fill_53178 14 = .ok (.iinc 2 1, 3) := by decide +kernel
theorem dJ7_fill_53178_17 : decode cJ7_fill_53178 17 = .ok (.goto (-12), 3) := by decide +kernel
theorem dJ7_fill_53178_20 : decode cJ7_fill_53178 20 = .ok (.return_, 1) := by decide +kernel
theorem dJ3_checkIndex_8e157_0 : decode cJ3_checkIndex_8e157 0 = .ok (.iload_n 0, 1) := by decide +kernel
theorem dJ3_checkIndex_8e157_1 : decode cJ3_checkIndex_8e157 1 = .ok (.ifCond .lt 8, 3) := by decide +kernel
theorem dJ3_checkIndex_8e157_4 : decode cJ3_checkIndex_8e157 4 = .ok (.iload_n 0, 1) := by decide +kernel
theorem dJ3_checkIndex_8e157_5 : decode cJ3_checkIndex_8e157 5 = .ok (.iload_n 1, 1) := by decide +kernel
theorem dJ3_checkIndex_8e157_6 : decode cJ3_checkIndex_8e157 6 = .ok (.if_icmp .lt 10, 3) := by decide +kernel
theorem dJ3_checkIndex_8e157_9 : decode cJ3_checkIndex_8e157 9 = .ok (.aload_n 2, 1) := by decide +kernel
theorem dJ3_checkIndex_8e157_10 : decode cJ3_checkIndex_8e157 10 = .ok (.iload_n 0, 1) := by decide +kernel
theorem dJ3_checkIndex_8e157_11 : decode cJ3_checkIndex_8e157 11 = .ok (.iload_n 1, 1) := by decide +kernel
theorem dJ3_checkIndex_8e157_12 : decode cJ3_checkIndex_8e157 12 = .ok (.invokestatic 95, 3) := by decide +kernel
theorem dJ3_checkIndex_8e157_15 : decode cJ3_checkIndex_8e157 15 = .ok (.athrow, 1) := by decide +kernel
theorem dJ3_checkIndex_8e157_16 : decode cJ3_checkIndex_8e157 16 = .ok (.iload_n 0, 1) := by decide +kernel
theorem dJ3_checkIndex_8e157_17 : decode cJ3_checkIndex_8e157 17 = .ok (.ireturn, 1) := by decide +kernel

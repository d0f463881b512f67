theorem tp {w : Cond} (h : w ∈ k2_sels lw_privs) : w ∈ lw_tbl := List.mem_append_left _ h
theorem tt1 {w : Cond} (h : w ∈ tables_1_1) : w ∈ lw_tbl := List.mem_append_right _ (List.mem_append_left _ h)
theorem tt2 {w : Cond} (h : w ∈ tables_1_2) : w ∈ lw_tbl := List.mem_append_right _ (List.mem_append_right _ (List.mem_append_left _ h))
theorem tt3 {w : Cond} (h : w ∈ tables_1_3) : w ∈ lw_tbl := List.mem_append_right _ (List.mem_append_right _ (List.mem_append_right _ (List.mem_append_left _ h)))
theorem tt4 {w : Cond} (h : w ∈ tables_1_4) : w ∈ lw_tbl := List.mem_append_right _ (List.mem_append_right _ (List.mem_append_right _ (List.mem_append_right _ (List.mem_append_left _ h))))
theorem tt5 {w : Cond} (h : w ∈ tables_1_5) : w ∈ lw_tbl := List.mem_append_right _ (List.mem_append_right _ (List.mem_append_right _ (List.mem_append_right _ (List.mem_append_right _ (List.mem_append_left _ h)))))
theorem tt6 {w : Cond} (h : w ∈ tables_1_6) : w ∈ lw_tbl := List.mem_append_right _ (List.mem_append_right _ (List.mem_append_right _ (List.mem_append_right _ (List.mem_append_right _ (List.mem_append_right _ (List.mem_append_left _ h))))))
theorem tt7 {w : Cond} (h : w ∈ tables_1_7) : w ∈ lw_tbl := List.mem_append_right _ (List.mem_append_right _ (List.mem_append_right _ (List.mem_append_right _ (List.mem_append_right _ (List.mem_append_right _ (List.mem_append_right _ (h)))))))
abbrev mX0_init : MY := (yX0_init, cX0_init, 1, none, 1, 20, 0)
abbrev mX0_lay : MY := (yX0_lay, cX0_lay, 5, none, 3, 69, 0)
abbrev mX0_listWords : MY := (yX0_listWords, cX0_listWords, 7, none, 2, 43, 0)
abbrev mX0_countSpelled : MY := (yX0_countSpelled, cX0_countSpelled, 2, none, 1, 22, 0)
abbrev mX0_times : MY := (yX0_times, cX0_times, 3, (some .long), 0, 0, 0)
abbrev mX0_choices : MY := (yX0_choices, cX0_choices, 2, (some .int), 0, 0, 0)
abbrev mX1_init : MY := (yX1_init, cX1_init, 1, none, 1, 20, 1)
abbrev mX1_lastNode : MY := (yX1_lastNode, cX1_lastNode, 1, (some .int), 0, 0, 1)
abbrev mX1_lay : MY := (yX1_lay, cX1_lay, 6, none, 3, 77, 1)
abbrev mX1_layWord : MY := (yX1_layWord, cX1_layWord, 2, none, 2, 51, 1)
abbrev mX1_layLeft : MY := (yX1_layLeft, cX1_layLeft, 7, none, 2, 51, 1)
abbrev mX1_layAlternative : MY := (yX1_layAlternative, cX1_layAlternative, 8, none, 1, 24, 1)
abbrev mX1_endMatch : MY := (yX1_endMatch, cX1_endMatch, 5, none, 1, 21, 1)
abbrev mX1_addNode : MY := (yX1_addNode, cX1_addNode, 1, (some .int), 0, 0, 1)
abbrev mX1_addEdge : MY := (yX1_addEdge, cX1_addEdge, 5, none, 0, 0, 1)
abbrev mX2_init : MY := (yX2_init, cX2_init, 1, none, 2, 40, 2)
abbrev mX2_draw : MY := (yX2_draw, cX2_draw, 4, (some .boolean), 6, 141, 2)
abbrev mX2_both : MY := (yX2_both, cX2_both, 3, (some .long), 0, 0, 2)
abbrev mX2_countPlaces : MY := (yX2_countPlaces, cX2_countPlaces, 4, (some .int), 3, 67, 2)
abbrev mX2_findPlace : MY := (yX2_findPlace, cX2_findPlace, 5, (some .int), 3, 67, 2)
abbrev mX2_look : MY := (yX2_look, cX2_look, 5, none, 2, 43, 2)
abbrev mX3_init : MY := (yX3_init, cX3_init, 1, none, 1, 20, 3)
abbrev mX3_readRule : MY := (yX3_readRule, cX3_readRule, 4, (some .int), 3, 70, 3)
abbrev mX3_takes : MY := (yX3_takes, cX3_takes, 6, (some .boolean), 2, 45, 3)
abbrev mX3_takesTenths : MY := (yX3_takesTenths, cX3_takesTenths, 4, (some .boolean), 1, 21, 3)
abbrev mX3_takesWord : MY := (yX3_takesWord, cX3_takesWord, 4, (some .boolean), 1, 22, 3)
abbrev mX3_opensSide : MY := (yX3_opensSide, cX3_opensSide, 2, (some .boolean), 0, 0, 3)
abbrev mX3_takesArrow : MY := (yX3_takesArrow, cX3_takesArrow, 1, (some .boolean), 0, 0, 3)
abbrev mX3_packSides : MY := (yX3_packSides, cX3_packSides, 6, none, 1, 22, 3)
abbrev mX4_init : MY := (yX4_init, cX4_init, 1, none, 1, 20, 4)
abbrev mX4_lengthOf : MY := (yX4_lengthOf, cX4_lengthOf, 1, (some .int), 0, 0, 4)
abbrev mX4_wordAt : MY := (yX4_wordAt, cX4_wordAt, 2, (some .int), 0, 0, 4)
abbrev mX4_with : MY := (yX4_with, cX4_with, 3, (some .int), 0, 0, 4)
abbrev mX4_holds : MY := (yX4_holds, cX4_holds, 6, (some .boolean), 1, 20, 4)
abbrev mX4_empty : MY := (yX4_empty, cX4_empty, 1, none, 0, 0, 4)
abbrev mX4_copyOf : MY := (yX4_copyOf, cX4_copyOf, 2, none, 1, 26, 4)
abbrev mX4_alternativePhrase : MY := (yX4_alternativePhrase, cX4_alternativePhrase, 3, (some .int), 0, 0, 4)
abbrev mX4_alternativeTenths : MY := (yX4_alternativeTenths, cX4_alternativeTenths, 3, (some .int), 0, 0, 4)
abbrev mX4_addRule : MY := (yX4_addRule, cX4_addRule, 3, (some .boolean), 3, 74, 4)
abbrev mX4_addLefts : MY := (yX4_addLefts, cX4_addLefts, 9, (some .boolean), 2, 46, 4)
abbrev mX4_addErasers : MY := (yX4_addErasers, cX4_addErasers, 4, (some .boolean), 2, 46, 4)
abbrev mX4_takeLeft : MY := (yX4_takeLeft, cX4_takeLeft, 3, (some .int), 1, 22, 4)
abbrev mX4_findLeft : MY := (yX4_findLeft, cX4_findLeft, 3, (some .int), 0, 0, 4)
abbrev mX4_addAlternative : MY := (yX4_addAlternative, cX4_addAlternative, 6, (some .boolean), 1, 21, 4)
abbrev mX4_longestAt : MY := (yX4_longestAt, cX4_longestAt, 7, (some .int), 1, 22, 4)
abbrev mX4_goesRound : MY := (yX4_goesRound, cX4_goesRound, 2, (some .boolean), 5, 116, 4)
abbrev mX4_findLeads : MY := (yX4_findLeads, cX4_findLeads, 3, none, 4, 94, 4)
abbrev mX4_leadsAtOnce : MY := (yX4_leadsAtOnce, cX4_leadsAtOnce, 6, (some .long), 3, 69, 4)
abbrev mX4_leftsIn : MY := (yX4_leftsIn, cX4_leftsIn, 5, (some .long), 2, 45, 4)
abbrev mX5_init : MY := (yX5_init, cX5_init, 1, none, 1, 20, 5)
abbrev mX5_gather : MY := (yX5_gather, cX5_gather, 3, (some .boolean), 5, 119, 5)
abbrev mX5_findWordsOut : MY := (yX5_findWordsOut, cX5_findWordsOut, 7, none, 2, 43, 5)
abbrev mX5_addWordsOut : MY := (yX5_addWordsOut, cX5_addWordsOut, 9, none, 0, 0, 5)
abbrev mX5_addArcs : MY := (yX5_addArcs, cX5_addArcs, 8, (some .boolean), 4, 92, 5)
abbrev mX5_makeTarget : MY := (yX5_makeTarget, cX5_makeTarget, 5, none, 3, 68, 5)
abbrev mX5_addArc : MY := (yX5_addArc, cX5_addArc, 4, none, 2, 48, 5)
abbrev mX5_clearMade : MY := (yX5_clearMade, cX5_clearMade, 2, none, 2, 47, 5)
abbrev mX5_put : MY := (yX5_put, cX5_put, 2, none, 0, 0, 5)
abbrev mX5_has : MY := (yX5_has, cX5_has, 3, (some .boolean), 0, 0, 5)
abbrev mX5_closeMade : MY := (yX5_closeMade, cX5_closeMade, 3, none, 1, 22, 5)
abbrev mX5_takeMade : MY := (yX5_takeMade, cX5_takeMade, 4, (some .int), 3, 66, 5)
abbrev mX5_leastOfMade : MY := (yX5_leastOfMade, cX5_leastOfMade, 4, (some .int), 2, 43, 5)
abbrev mX5_sameAsMade : MY := (yX5_sameAsMade, cX5_sameAsMade, 3, (some .boolean), 0, 0, 5)
abbrev mX5_countWays : MY := (yX5_countWays, cX5_countWays, 5, none, 3, 71, 5)
abbrev mX5_countWaysOf : MY := (yX5_countWaysOf, cX5_countWaysOf, 9, none, 2, 43, 5)
abbrev mX5_endsAt : MY := (yX5_endsAt, cX5_endsAt, 2, (some .boolean), 1, 22, 5)
abbrev mX5_after : MY := (yX5_after, cX5_after, 4, (some .int), 0, 0, 5)
abbrev mX5_numberOf : MY := (yX5_numberOf, cX5_numberOf, 8, (some .long), 2, 43, 5)
abbrev mX5_waysBelow : MY := (yX5_waysBelow, cX5_waysBelow, 6, (some .long), 0, 0, 5)
abbrev mX6_init : MY := (yX6_init, cX6_init, 1, none, 1, 20, 6)
abbrev mX6_spellPhrase : MY := (yX6_spellPhrase, cX6_spellPhrase, 16, none, 2, 43, 6)
abbrev mX6_spellFlat : MY := (yX6_spellFlat, cX6_spellFlat, 17, none, 1, 23, 6)
abbrev mX6_spellHeaviest : MY := (yX6_spellHeaviest, cX6_spellHeaviest, 5, none, 4, 97, 6)
abbrev mX6_add : MY := (yX6_add, cX6_add, 2, none, 0, 0, 6)
abbrev mX6_tell : MY := (yX6_tell, cX6_tell, 2, (some .int), 0, 0, 6)
abbrev mX7_init : MY := (yX7_init, cX7_init, 1, none, 1, 20, 7)
abbrev mX7_plain : MY := (yX7_plain, cX7_plain, 3, (some .boolean), 0, 0, 7)
abbrev mX7_addFour : MY := (yX7_addFour, cX7_addFour, 3, none, 0, 0, 7)
abbrev mX7_split : MY := (yX7_split, cX7_split, 4, none, 2, 47, 7)
abbrev mX7_addDigit : MY := (yX7_addDigit, cX7_addDigit, 4, none, 1, 24, 7)
abbrev mX7_addMark : MY := (yX7_addMark, cX7_addMark, 2, none, 1, 24, 7)
abbrev mX7_addToken : MY := (yX7_addToken, cX7_addToken, 5, none, 0, 0, 7)
abbrev mX7_faultAt : MY := (yX7_faultAt, cX7_faultAt, 2, (some .int), 0, 0, 7)
abbrev mX7_readRow : MY := (yX7_readRow, cX7_readRow, 4, (some .int), 1, 22, 7)
abbrev mX8_init : MY := (yX8_init, cX8_init, 1, none, 1, 20, 8)
abbrev mX8_begin : MY := (yX8_begin, cX8_begin, 3, none, 3, 72, 8)
abbrev mX8_go : MY := (yX8_go, cX8_go, 4, none, 3, 74, 8)
abbrev mX8_goFrom : MY := (yX8_goFrom, cX8_goFrom, 6, none, 2, 49, 8)
abbrev mX8_skip : MY := (yX8_skip, cX8_skip, 4, none, 2, 49, 8)
abbrev mX8_along : MY := (yX8_along, cX8_along, 7, none, 1, 23, 8)
abbrev mX8_tenthsOf : MY := (yX8_tenthsOf, cX8_tenthsOf, 3, (some .long), 0, 0, 8)
abbrev mX8_atEnd : MY := (yX8_atEnd, cX8_atEnd, 2, (some .long), 1, 20, 8)
abbrev mX8_leastWord : MY := (yX8_leastWord, cX8_leastWord, 4, (some .int), 2, 46, 8)
abbrev mX8_leastWordFrom : MY := (yX8_leastWordFrom, cX8_leastWordFrom, 6, (some .int), 1, 21, 8)
abbrev mX9_init : MY := (yX9_init, cX9_init, 2, none, 1, 21, 9)
abbrev mX9_addCode : MY := (yX9_addCode, cX9_addCode, 3, none, 0, 0, 9)
abbrev mX9_takeNumbers : MY := (yX9_takeNumbers, cX9_takeNumbers, 2, none, 1, 26, 9)
abbrev mX10_init : MY := (yX10_init, cX10_init, 1, none, 1, 20, 10)
abbrev mX10_find : MY := (yX10_find, cX10_find, 4, (some .int), 0, 0, 10)
abbrev mX10_findAll : MY := (yX10_findAll, cX10_findAll, 3, none, 1, 23, 10)
abbrev mX10_numberAll : MY := (yX10_numberAll, cX10_numberAll, 4, (some .boolean), 1, 23, 10)
abbrev mX10_forgetFrom : MY := (yX10_forgetFrom, cX10_forgetFrom, 2, none, 0, 0, 10)
abbrev mX10_digitOf : MY := (yX10_digitOf, cX10_digitOf, 1, (some .int), 0, 0, 10)
abbrev mX10_lengthOf : MY := (yX10_lengthOf, cX10_lengthOf, 5, (some .int), 0, 0, 10)
abbrev mX10_byteAt : MY := (yX10_byteAt, cX10_byteAt, 6, (some .int), 0, 0, 10)
abbrev mX10_tenthsOf : MY := (yX10_tenthsOf, cX10_tenthsOf, 2, (some .int), 0, 0, 10)
abbrev mX11_init : MY := (yX11_init, cX11_init, 1, none, 7, 164, 11)
abbrev mX11_feed : MY := (yX11_feed, cX11_feed, 5, (some .int), 1, 22, 11)
abbrev mX11_cut : MY := (yX11_cut, cX11_cut, 2, (some .int), 0, 0, 11)
abbrev mX11_told : MY := (yX11_told, cX11_told, 2, (some .int), 0, 0, 11)
abbrev mX11_word : MY := (yX11_word, cX11_word, 6, (some .int), 1, 25, 11)
abbrev mX11_rule : MY := (yX11_rule, cX11_rule, 5, (some .int), 4, 96, 11)
abbrev mX11_fresh : MY := (yX11_fresh, cX11_fresh, 2, (some .int), 1, 20, 11)
abbrev mX11_reload : MY := (yX11_reload, cX11_reload, 1, (some .int), 2, 47, 11)
abbrev mX11_left : MY := (yX11_left, cX11_left, 5, (some .int), 6, 137, 11)
abbrev mX11_alternative : MY := (yX11_alternative, cX11_alternative, 6, (some .int), 1, 22, 11)
abbrev mX11_input : MY := (yX11_input, cX11_input, 1, (some .int), 4, 93, 11)
abbrev mX11_longest : MY := (yX11_longest, cX11_longest, 3, (some .int), 2, 48, 11)
abbrev mX11_graph : MY := (yX11_graph, cX11_graph, 2, (some .int), 7, 164, 11)
abbrev mX11_size : MY := (yX11_size, cX11_size, 2, (some .int), 0, 0, 11)
abbrev mX11_match : MY := (yX11_match, cX11_match, 4, (some .int), 0, 0, 11)
abbrev mX11_edge : MY := (yX11_edge, cX11_edge, 4, (some .int), 0, 0, 11)
abbrev mX11_phrases : MY := (yX11_phrases, cX11_phrases, 1, (some .long), 0, 0, 11)
abbrev mX11_phrase : MY := (yX11_phrase, cX11_phrase, 4, (some .int), 3, 78, 11)
abbrev mX11_weight : MY := (yX11_weight, cX11_weight, 4, (some .long), 4, 97, 11)
abbrev mX11_which : MY := (yX11_which, cX11_which, 2, (some .long), 3, 70, 11)
abbrev mX11_heaviest : MY := (yX11_heaviest, cX11_heaviest, 1, (some .long), 5, 121, 11)
abbrev mX11_position : MY := (yX11_position, cX11_position, 5, (some .int), 1, 21, 11)
abbrev mX11_rows : MY := (yX11_rows, cX11_rows, 2, (some .long), 1, 23, 11)
abbrev mX11_row : MY := (yX11_row, cX11_row, 5, (some .int), 3, 78, 11)
abbrev mX11_document : MY := (yX11_document, cX11_document, 1, (some .int), 4, 93, 11)
abbrev mX11_hits : MY := (yX11_hits, cX11_hits, 1, (some .int), 4, 90, 11)
abbrev mX11_hit : MY := (yX11_hit, cX11_hit, 4, (some .int), 4, 91, 11)
abbrev mX11_hitWeight : MY := (yX11_hitWeight, cX11_hitWeight, 6, (some .long), 4, 97, 11)
abbrev mX11_takeRow : MY := (yX11_takeRow, cX11_takeRow, 4, (some .int), 3, 70, 11)
abbrev mX12_next : MY := (yX12_next, cX12_next, 2, none, 1, 20, 12)
abbrev mX12_isOfWord : MY := (yX12_isOfWord, cX12_isOfWord, 1, (some .boolean), 0, 0, 12)
abbrev mX12_tenths : MY := (yX12_tenths, cX12_tenths, 2, (some .int), 0, 0, 12)
abbrev mX12_numberOf : MY := (yX12_numberOf, cX12_numberOf, 6, (some .int), 0, 0, 12)
abbrev mX12_numbered : MY := (yX12_numbered, cX12_numbered, 5, (some .int), 1, 25, 12)
abbrev mX12_feed : MY := (yX12_feed, cX12_feed, 7, (some .int), 0, 0, 12)
abbrev mX12_cut : MY := (yX12_cut, cX12_cut, 2, (some .int), 0, 0, 12)
abbrev mX12_word : MY := (yX12_word, cX12_word, 3, (some .int), 0, 0, 12)
abbrev mX12_readRow : MY := (yX12_readRow, cX12_readRow, 2, (some .int), 2, 41, 12)
abbrev mX12_takeRow : MY := (yX12_takeRow, cX12_takeRow, 3, (some .int), 2, 49, 12)
abbrev mX12_readSide : MY := (yX12_readSide, cX12_readSide, 2, (some .boolean), 2, 41, 12)
abbrev mX12_readSides : MY := (yX12_readSides, cX12_readSides, 3, (some .boolean), 3, 62, 12)
abbrev mX12_readRule : MY := (yX12_readRule, cX12_readRule, 2, (some .int), 4, 84, 12)
abbrev mX12_copyState : MY := (yX12_copyState, cX12_copyState, 4, none, 0, 0, 12)
abbrev mX12_leftOf : MY := (yX12_leftOf, cX12_leftOf, 6, (some .int), 0, 0, 12)
abbrev mX12_tells : MY := (yX12_tells, cX12_tells, 8, (some .boolean), 0, 0, 12)
abbrev mX12_lay : MY := (yX12_lay, cX12_lay, 8, (some .boolean), 1, 27, 12)
abbrev mX12_rule : MY := (yX12_rule, cX12_rule, 7, (some .int), 5, 105, 12)
abbrev mX12_fresh : MY := (yX12_fresh, cX12_fresh, 2, (some .int), 0, 0, 12)
abbrev mX12_reload : MY := (yX12_reload, cX12_reload, 1, (some .int), 2, 51, 12)
abbrev mX12_isItself : MY := (yX12_isItself, cX12_isItself, 5, (some .boolean), 0, 0, 12)
abbrev mX12_holds : MY := (yX12_holds, cX12_holds, 6, (some .boolean), 0, 0, 12)
abbrev mX12_goRound : MY := (yX12_goRound, cX12_goRound, 7, none, 1, 25, 12)
abbrev mX12_left : MY := (yX12_left, cX12_left, 4, (some .int), 0, 0, 12)
abbrev mX12_alternative : MY := (yX12_alternative, cX12_alternative, 5, (some .int), 0, 0, 12)
abbrev mX12_input : MY := (yX12_input, cX12_input, 4, (some .int), 3, 71, 12)
abbrev mX12_standsAt : MY := (yX12_standsAt, cX12_standsAt, 9, (some .int), 0, 0, 12)
abbrev mX12_longest : MY := (yX12_longest, cX12_longest, 3, (some .int), 1, 28, 12)
abbrev mX12_last : MY := (yX12_last, cX12_last, 1, (some .int), 0, 0, 12)
abbrev mX12_edge : MY := (yX12_edge, cX12_edge, 5, none, 0, 0, 12)
abbrev mX12_has : MY := (yX12_has, cX12_has, 3, (some .boolean), 0, 0, 12)
abbrev mX12_add : MY := (yX12_add, cX12_add, 3, none, 0, 0, 12)
abbrev mX12_close : MY := (yX12_close, cX12_close, 3, none, 1, 22, 12)
abbrev mX12_ends : MY := (yX12_ends, cX12_ends, 2, (some .boolean), 1, 22, 12)
abbrev mX12_known : MY := (yX12_known, cX12_known, 4, (some .int), 0, 0, 12)
abbrev mX12_wipe : MY := (yX12_wipe, cX12_wipe, 3, none, 0, 0, 12)
abbrev mX12_findSets : MY := (yX12_findSets, cX12_findSets, 4, (some .boolean), 2, 46, 12)
abbrev mX12_leastBehind : MY := (yX12_leastBehind, cX12_leastBehind, 5, (some .int), 1, 22, 12)
abbrev mX12_findAll : MY := (yX12_findAll, cX12_findAll, 4, none, 2, 43, 12)
abbrev mX12_step : MY := (yX12_step, cX12_step, 4, (some .int), 0, 0, 12)
abbrev mX12_findFlat : MY := (yX12_findFlat, cX12_findFlat, 6, none, 2, 43, 12)
abbrev mX12_findWeights : MY := (yX12_findWeights, cX12_findWeights, 4, none, 3, 63, 12)
abbrev mX12_isFirst : MY := (yX12_isFirst, cX12_isFirst, 2, (some .boolean), 2, 42, 12)
abbrev mX12_isBorder : MY := (yX12_isBorder, cX12_isBorder, 3, (some .boolean), 1, 20, 12)
abbrev mX12_finish : MY := (yX12_finish, cX12_finish, 1, none, 4, 86, 12)
abbrev mX12_init : MY := (yX12_init, cX12_init, 2, none, 6, 135, 12)
abbrev mX12_layAlternative : MY := (yX12_layAlternative, cX12_layAlternative, 8, none, 1, 24, 12)
abbrev mX12_make : MY := (yX12_make, cX12_make, 10, (some .boolean), 5, 106, 12)
abbrev mX12_graph : MY := (yX12_graph, cX12_graph, 3, (some .int), 6, 135, 12)
abbrev mX12_size : MY := (yX12_size, cX12_size, 2, (some .int), 0, 0, 12)
abbrev mX12_match : MY := (yX12_match, cX12_match, 3, (some .int), 0, 0, 12)
abbrev mX12_edge_ : MY := (yX12_edge_, cX12_edge_, 3, (some .int), 0, 0, 12)
abbrev mX12_phrases : MY := (yX12_phrases, cX12_phrases, 1, (some .long), 0, 0, 12)
abbrev mX12_findPhrase : MY := (yX12_findPhrase, cX12_findPhrase, 10, none, 2, 43, 12)
abbrev mX12_phrase : MY := (yX12_phrase, cX12_phrase, 4, (some .int), 3, 72, 12)
abbrev mX12_beginWeights : MY := (yX12_beginWeights, cX12_beginWeights, 2, none, 1, 21, 12)
abbrev mX12_closeWeights : MY := (yX12_closeWeights, cX12_closeWeights, 2, none, 0, 0, 12)
abbrev mX12_weigh : MY := (yX12_weigh, cX12_weigh, 5, none, 1, 21, 12)
abbrev mX12_weight : MY := (yX12_weight, cX12_weight, 4, (some .long), 3, 72, 12)
abbrev mX12_numberOfRow : MY := (yX12_numberOfRow, cX12_numberOfRow, 7, (some .long), 2, 43, 12)
abbrev mX12_which : MY := (yX12_which, cX12_which, 3, (some .long), 3, 69, 12)
abbrev mX12_tens : MY := (yX12_tens, cX12_tens, 4, (some .long), 0, 0, 12)
abbrev mX12_greatest : MY := (yX12_greatest, cX12_greatest, 6, (some .long), 1, 23, 12)
abbrev mX12_heaviest : MY := (yX12_heaviest, cX12_heaviest, 6, (some .long), 3, 69, 12)
abbrev mX12_position : MY := (yX12_position, cX12_position, 5, (some .int), 0, 0, 12)
abbrev mX12_rows : MY := (yX12_rows, cX12_rows, 4, (some .long), 0, 0, 12)
abbrev mX12_findFlatRow : MY := (yX12_findFlatRow, cX12_findFlatRow, 9, none, 0, 0, 12)
abbrev mX12_findLost : MY := (yX12_findLost, cX12_findLost, 12, none, 2, 43, 12)
abbrev mX12_findBesides : MY := (yX12_findBesides, cX12_findBesides, 12, none, 1, 23, 12)
abbrev mX12_row : MY := (yX12_row, cX12_row, 5, (some .int), 3, 74, 12)
abbrev mX12_document : MY := (yX12_document, cX12_document, 4, (some .int), 3, 71, 12)
abbrev mX12_isHit : MY := (yX12_isHit, cX12_isHit, 5, (some .boolean), 2, 45, 12)
abbrev mX12_hits : MY := (yX12_hits, cX12_hits, 3, (some .int), 3, 69, 12)
abbrev mX12_placeOfHit : MY := (yX12_placeOfHit, cX12_placeOfHit, 4, (some .int), 3, 69, 12)
abbrev mX12_hit : MY := (yX12_hit, cX12_hit, 4, (some .int), 4, 92, 12)
abbrev mX12_hitWeight : MY := (yX12_hitWeight, cX12_hitWeight, 4, (some .long), 4, 92, 12)
abbrev mX12_told : MY := (yX12_told, cX12_told, 2, (some .int), 0, 0, 12)
abbrev mJ6_numberOfTrailingZeros_0f7a4 : MY := (yJ6_numberOfTrailingZeros_0f7a4, cJ6_numberOfTrailingZeros_0f7a4, 2, (some .int), 0, 0, 13)
abbrev mJ13_numberOfTrailingZeros_95d88 : MY := (yJ13_numberOfTrailingZeros_95d88, cJ13_numberOfTrailingZeros_95d88, 3, (some .int), 1, 21, 14)
abbrev mJ13_bitCount_95d88 : MY := (yJ13_bitCount_95d88, cJ13_bitCount_95d88, 2, (some .int), 0, 0, 14)
abbrev mJ9_max_7cf53 : MY := (yJ9_max_7cf53, cJ9_max_7cf53, 2, (some .int), 0, 0, 15)
abbrev mJ9_max_f86c9 : MY := (yJ9_max_f86c9, cJ9_max_f86c9, 4, (some .long), 0, 0, 15)
abbrev mJ9_min_7cf53 : MY := (yJ9_min_7cf53, cJ9_min_7cf53, 2, (some .int), 0, 0, 15)
abbrev mJ9_min_f86c9 : MY := (yJ9_min_f86c9, cJ9_min_f86c9, 4, (some .long), 0, 0, 15)
abbrev mJ7_rangeCheck_23922 : MY := (yJ7_rangeCheck_23922, cJ7_rangeCheck_23922, 3, none, 0, 0, 17)
abbrev mJ7_fill_d0a16 : MY := (yJ7_fill_d0a16, cJ7_fill_d0a16, 5, none, 0, 0, 17)
abbrev mJ7_fill_bad5a : MY := (yJ7_fill_bad5a, cJ7_fill_bad5a, 6, none, 1, 22, 17)
abbrev mJ7_fill_53178 : MY := (yJ7_fill_53178, cJ7_fill_53178, 4, none, 0, 0, 17)
abbrev mJ7_copyOf_59c91 : MY := (yJ7_copyOf_59c91, cJ7_copyOf_59c91, 3, (some (.array .int)), 1, 26, 17)
theorem lk_X0_init : mLk mX0_init 0 := ⟨(tt1 (List.mem_of_getElem? (i := 13) (by decide +kernel))), (tt2 (List.mem_of_getElem? (i := 132) (by decide +kernel))), ⟨by decide +kernel, by decide +kernel⟩, by decide +kernel⟩
theorem lk_X0_lay : mLk mX0_lay 1 := ⟨(tt1 (List.mem_of_getElem? (i := 13) (by decide +kernel))), (tt3 (List.mem_of_getElem? (i := 120) (by decide +kernel))), ⟨by decide +kernel, by decide +kernel⟩, by decide +kernel⟩
theorem lk_X0_listWords : mLk mX0_listWords 0 := ⟨(tt1 (List.mem_of_getElem? (i := 13) (by decide +kernel))), (tt3 (List.mem_of_getElem? (i := 128) (by decide +kernel))), ⟨by decide +kernel, by decide +kernel⟩, by decide +kernel⟩
theorem lk_X0_countSpelled : mLk mX0_countSpelled 0 := ⟨(tt1 (List.mem_of_getElem? (i := 13) (by decide +kernel))), (tt3 (List.mem_of_getElem? (i := 134) (by decide +kernel))), ⟨by decide +kernel, by decide +kernel⟩, by decide +kernel⟩
theorem lk_X0_times : mLk mX0_times 2 := ⟨(tt1 (List.mem_of_getElem? (i := 13) (by decide +kernel))), (tt3 (List.mem_of_getElem? (i := 141) (by decide +kernel))), ⟨by decide +kernel, by decide +kernel⟩, by decide +kernel⟩
theorem lk_X0_choices : mLk mX0_choices 1 := ⟨(tt1 (List.mem_of_getElem? (i := 13) (by decide +kernel))), (tt3 (List.mem_of_getElem? (i := 138) (by decide +kernel))), ⟨by decide +kernel, by decide +kernel⟩, by decide +kernel⟩
theorem lk_X1_init : mLk mX1_init 0 := ⟨(tt1 (List.mem_of_getElem? (i := 11) (by decide +kernel))), (tt1 (List.mem_of_getElem? (i := 222) (by decide +kernel))), ⟨by decide +kernel, by decide +kernel⟩, by decide +kernel⟩
theorem lk_X1_lastNode : mLk mX1_lastNode 0 := ⟨(tt1 (List.mem_of_getElem? (i := 11) (by decide +kernel))), (tt3 (List.mem_of_getElem? (i := 15) (by decide +kernel))), ⟨by decide +kernel, by decide +kernel⟩, by decide +kernel⟩
theorem lk_X1_lay : mLk mX1_lay 2 := ⟨(tt1 (List.mem_of_getElem? (i := 11) (by decide +kernel))), (tt2 (List.mem_of_getElem? (i := 196) (by decide +kernel))), ⟨by decide +kernel, by decide +kernel⟩, by decide +kernel⟩
theorem lk_X1_layWord : mLk mX1_layWord 1 := ⟨(tt1 (List.mem_of_getElem? (i := 11) (by decide +kernel))), (tt2 (List.mem_of_getElem? (i := 215) (by decide +kernel))), ⟨by decide +kernel, by decide +kernel⟩, by decide +kernel⟩
theorem lk_X1_layLeft : mLk mX1_layLeft 2 := ⟨(tt1 (List.mem_of_getElem? (i := 11) (by decide +kernel))), (tt2 (List.mem_of_getElem? (i := 239) (by decide +kernel))), ⟨by decide +kernel, by decide +kernel⟩, by decide +kernel⟩
theorem lk_X1_layAlternative : mLk mX1_layAlternative 3 := ⟨(tt1 (List.mem_of_getElem? (i := 11) (by decide +kernel))), (tt2 (List.mem_of_getElem? (i := 220) (by decide +kernel))), ⟨by decide +kernel, by decide +kernel⟩, by decide +kernel⟩
theorem lk_X1_endMatch : mLk mX1_endMatch 1 := ⟨(tt1 (List.mem_of_getElem? (i := 11) (by decide +kernel))), (tt2 (List.mem_of_getElem? (i := 234) (by decide +kernel))), ⟨by decide +kernel, by decide +kernel⟩, by decide +kernel⟩
theorem lk_X1_addNode : mLk mX1_addNode 0 := ⟨(tt1 (List.mem_of_getElem? (i := 11) (by decide +kernel))), (tt2 (List.mem_of_getElem? (i := 200) (by decide +kernel))), ⟨by decide +kernel, by decide +kernel⟩, by decide +kernel⟩
theorem lk_X1_addEdge : mLk mX1_addEdge 4 := ⟨(tt1 (List.mem_of_getElem? (i := 11) (by decide +kernel))), (tt2 (List.mem_of_getElem? (i := 227) (by decide +kernel))), ⟨by decide +kernel, by decide +kernel⟩, by decide +kernel⟩
theorem lk_X2_init : mLk mX2_init 0 := ⟨(tt1 (List.mem_of_getElem? (i := 10) (by decide +kernel))), (tt1 (List.mem_of_getElem? (i := 216) (by decide +kernel))), ⟨by decide +kernel, by decide +kernel⟩, by decide +kernel⟩
theorem lk_X2_draw : mLk mX2_draw 3 := ⟨(tt1 (List.mem_of_getElem? (i := 10) (by decide +kernel))), (tt2 (List.mem_of_getElem? (i := 192) (by decide +kernel))), ⟨by decide +kernel, by decide +kernel⟩, by decide +kernel⟩
theorem lk_X2_both : mLk mX2_both 2 := ⟨(tt1 (List.mem_of_getElem? (i := 10) (by decide +kernel))), (tt4 (List.mem_of_getElem? (i := 183) (by decide +kernel))), ⟨by decide +kernel, by decide +kernel⟩, by decide +kernel⟩
theorem lk_X2_countPlaces : mLk mX2_countPlaces 1 := ⟨(tt1 (List.mem_of_getElem? (i := 10) (by decide +kernel))), (tt5 (List.mem_of_getElem? (i := 67) (by decide +kernel))), ⟨by decide +kernel, by decide +kernel⟩, by decide +kernel⟩
theorem lk_X2_findPlace : mLk mX2_findPlace 2 := ⟨(tt1 (List.mem_of_getElem? (i := 10) (by decide +kernel))), (tt5 (List.mem_of_getElem? (i := 81) (by decide +kernel))), ⟨by decide +kernel, by decide +kernel⟩, by decide +kernel⟩
theorem lk_X2_look : mLk mX2_look 2 := ⟨(tt1 (List.mem_of_getElem? (i := 10) (by decide +kernel))), (tt5 (List.mem_of_getElem? (i := 71) (by decide +kernel))), ⟨by decide +kernel, by decide +kernel⟩, by decide +kernel⟩
theorem lk_X3_init : mLk mX3_init 0 := ⟨(tt1 (List.mem_of_getElem? (i := 5) (by decide +kernel))), (tt1 (List.mem_of_getElem? (i := 100) (by decide +kernel))), ⟨by decide +kernel, by decide +kernel⟩, by decide +kernel⟩
theorem lk_X3_readRule : mLk mX3_readRule 2 := ⟨(tt1 (List.mem_of_getElem? (i := 5) (by decide +kernel))), (tt4 (List.mem_of_getElem? (i := 3) (by decide +kernel))), ⟨by decide +kernel, by decide +kernel⟩, by decide +kernel⟩
theorem lk_X3_takes : mLk mX3_takes 3 := ⟨(tt1 (List.mem_of_getElem? (i := 5) (by decide +kernel))), (tt4 (List.mem_of_getElem? (i := 7) (by decide +kernel))), ⟨by decide +kernel, by decide +kernel⟩, by decide +kernel⟩
theorem lk_X3_takesTenths : mLk mX3_takesTenths 1 := ⟨(tt1 (List.mem_of_getElem? (i := 5) (by decide +kernel))), (tt4 (List.mem_of_getElem? (i := 11) (by decide +kernel))), ⟨by decide +kernel, by decide +kernel⟩, by decide +kernel⟩
theorem lk_X3_takesWord : mLk mX3_takesWord 2 := ⟨(tt1 (List.mem_of_getElem? (i := 5) (by decide +kernel))), (tt4 (List.mem_of_getElem? (i := 21) (by decide +kernel))), ⟨by decide +kernel, by decide +kernel⟩, by decide +kernel⟩
theorem lk_X3_opensSide : mLk mX3_opensSide 0 := ⟨(tt1 (List.mem_of_getElem? (i := 5) (by decide +kernel))), (tt4 (List.mem_of_getElem? (i := 25) (by decide +kernel))), ⟨by decide +kernel, by decide +kernel⟩, by decide +kernel⟩
theorem lk_X3_takesArrow : mLk mX3_takesArrow 0 := ⟨(tt1 (List.mem_of_getElem? (i := 5) (by decide +kernel))), (tt4 (List.mem_of_getElem? (i := 33) (by decide +kernel))), ⟨by decide +kernel, by decide +kernel⟩, by decide +kernel⟩
theorem lk_X3_packSides : mLk mX3_packSides 1 := ⟨(tt1 (List.mem_of_getElem? (i := 5) (by decide +kernel))), (tt4 (List.mem_of_getElem? (i := 53) (by decide +kernel))), ⟨by decide +kernel, by decide +kernel⟩, by decide +kernel⟩
theorem lk_X4_init : mLk mX4_init 0 := ⟨(tt1 (List.mem_of_getElem? (i := 7) (by decide +kernel))), (tt1 (List.mem_of_getElem? (i := 148) (by decide +kernel))), ⟨by decide +kernel, by decide +kernel⟩, by decide +kernel⟩
theorem lk_X4_lengthOf : mLk mX4_lengthOf 1 := ⟨(tt1 (List.mem_of_getElem? (i := 7) (by decide +kernel))), (tt2 (List.mem_of_getElem? (i := 223) (by decide +kernel))), ⟨by decide +kernel, by decide +kernel⟩, by decide +kernel⟩
theorem lk_X4_wordAt : mLk mX4_wordAt 2 := ⟨(tt1 (List.mem_of_getElem? (i := 7) (by decide +kernel))), (tt2 (List.mem_of_getElem? (i := 230) (by decide +kernel))), ⟨by decide +kernel, by decide +kernel⟩, by decide +kernel⟩
theorem lk_X4_with : mLk mX4_with 3 := ⟨(tt1 (List.mem_of_getElem? (i := 7) (by decide +kernel))), (tt2 (List.mem_of_getElem? (i := 207) (by decide +kernel))), ⟨by decide +kernel, by decide +kernel⟩, by decide +kernel⟩
theorem lk_X4_holds : mLk mX4_holds 2 := ⟨(tt1 (List.mem_of_getElem? (i := 7) (by decide +kernel))), (tt4 (List.mem_of_getElem? (i := 117) (by decide +kernel))), ⟨by decide +kernel, by decide +kernel⟩, by decide +kernel⟩
theorem lk_X4_empty : mLk mX4_empty 0 := ⟨(tt1 (List.mem_of_getElem? (i := 7) (by decide +kernel))), (tt4 (List.mem_of_getElem? (i := 88) (by decide +kernel))), ⟨by decide +kernel, by decide +kernel⟩, by decide +kernel⟩
theorem lk_X4_copyOf : mLk mX4_copyOf 1 := ⟨(tt1 (List.mem_of_getElem? (i := 7) (by decide +kernel))), (tt4 (List.mem_of_getElem? (i := 58) (by decide +kernel))), ⟨by decide +kernel, by decide +kernel⟩, by decide +kernel⟩
theorem lk_X4_alternativePhrase : mLk mX4_alternativePhrase 2 := ⟨(tt1 (List.mem_of_getElem? (i := 7) (by decide +kernel))), (tt3 (List.mem_of_getElem? (i := 3) (by decide +kernel))), ⟨by decide +kernel, by decide +kernel⟩, by decide +kernel⟩
theorem lk_X4_alternativeTenths : mLk mX4_alternativeTenths 2 := ⟨(tt1 (List.mem_of_getElem? (i := 7) (by decide +kernel))), (tt3 (List.mem_of_getElem? (i := 7) (by decide +kernel))), ⟨by decide +kernel, by decide +kernel⟩, by decide +kernel⟩
theorem lk_X4_addRule : mLk mX4_addRule 2 := ⟨(tt1 (List.mem_of_getElem? (i := 7) (by decide +kernel))), (tt4 (List.mem_of_getElem? (i := 63) (by decide +kernel))), ⟨by decide +kernel, by decide +kernel⟩, by decide +kernel⟩
theorem lk_X4_addLefts : mLk mX4_addLefts 5 := ⟨(tt1 (List.mem_of_getElem? (i := 7) (by decide +kernel))), (tt4 (List.mem_of_getElem? (i := 67) (by decide +kernel))), ⟨by decide +kernel, by decide +kernel⟩, by decide +kernel⟩
theorem lk_X4_addErasers : mLk mX4_addErasers 1 := ⟨(tt1 (List.mem_of_getElem? (i := 7) (by decide +kernel))), (tt4 (List.mem_of_getElem? (i := 80) (by decide +kernel))), ⟨by decide +kernel, by decide +kernel⟩, by decide +kernel⟩
theorem lk_X4_takeLeft : mLk mX4_takeLeft 1 := ⟨(tt1 (List.mem_of_getElem? (i := 7) (by decide +kernel))), (tt4 (List.mem_of_getElem? (i := 71) (by decide +kernel))), ⟨by decide +kernel, by decide +kernel⟩, by decide +kernel⟩
theorem lk_X4_findLeft : mLk mX4_findLeft 1 := ⟨(tt1 (List.mem_of_getElem? (i := 7) (by decide +kernel))), (tt2 (List.mem_of_getElem? (i := 211) (by decide +kernel))), ⟨by decide +kernel, by decide +kernel⟩, by decide +kernel⟩
theorem lk_X4_addAlternative : mLk mX4_addAlternative 3 := ⟨(tt1 (List.mem_of_getElem? (i := 7) (by decide +kernel))), (tt4 (List.mem_of_getElem? (i := 75) (by decide +kernel))), ⟨by decide +kernel, by decide +kernel⟩, by decide +kernel⟩
theorem lk_X4_longestAt : mLk mX4_longestAt 2 := ⟨(tt1 (List.mem_of_getElem? (i := 7) (by decide +kernel))), (tt2 (List.mem_of_getElem? (i := 204) (by decide +kernel))), ⟨by decide +kernel, by decide +kernel⟩, by decide +kernel⟩
theorem lk_X4_goesRound : mLk mX4_goesRound 1 := ⟨(tt1 (List.mem_of_getElem? (i := 7) (by decide +kernel))), (tt4 (List.mem_of_getElem? (i := 101) (by decide +kernel))), ⟨by decide +kernel, by decide +kernel⟩, by decide +kernel⟩
theorem lk_X4_findLeads : mLk mX4_findLeads 0 := ⟨(tt1 (List.mem_of_getElem? (i := 7) (by decide +kernel))), (tt4 (List.mem_of_getElem? (i := 105) (by decide +kernel))), ⟨by decide +kernel, by decide +kernel⟩, by decide +kernel⟩
theorem lk_X4_leadsAtOnce : mLk mX4_leadsAtOnce 1 := ⟨(tt1 (List.mem_of_getElem? (i := 7) (by decide +kernel))), (tt4 (List.mem_of_getElem? (i := 109) (by decide +kernel))), ⟨by decide +kernel, by decide +kernel⟩, by decide +kernel⟩
theorem lk_X4_leftsIn : mLk mX4_leftsIn 1 := ⟨(tt1 (List.mem_of_getElem? (i := 7) (by decide +kernel))), (tt4 (List.mem_of_getElem? (i := 114) (by decide +kernel))), ⟨by decide +kernel, by decide +kernel⟩, by decide +kernel⟩
theorem lk_X5_init : mLk mX5_init 0 := ⟨(tt1 (List.mem_of_getElem? (i := 12) (by decide +kernel))), (tt2 (List.mem_of_getElem? (i := 72) (by decide +kernel))), ⟨by decide +kernel, by decide +kernel⟩, by decide +kernel⟩
theorem lk_X5_gather : mLk mX5_gather 1 := ⟨(tt1 (List.mem_of_getElem? (i := 12) (by decide +kernel))), (tt3 (List.mem_of_getElem? (i := 11) (by decide +kernel))), ⟨by decide +kernel, by decide +kernel⟩, by decide +kernel⟩
theorem lk_X5_findWordsOut : mLk mX5_findWordsOut 2 := ⟨(tt1 (List.mem_of_getElem? (i := 12) (by decide +kernel))), (tt3 (List.mem_of_getElem? (i := 63) (by decide +kernel))), ⟨by decide +kernel, by decide +kernel⟩, by decide +kernel⟩
theorem lk_X5_addWordsOut : mLk mX5_addWordsOut 2 := ⟨(tt1 (List.mem_of_getElem? (i := 12) (by decide +kernel))), (tt3 (List.mem_of_getElem? (i := 76) (by decide +kernel))), ⟨by decide +kernel, by decide +kernel⟩, by decide +kernel⟩
theorem lk_X5_addArcs : mLk mX5_addArcs 1 := ⟨(tt1 (List.mem_of_getElem? (i := 12) (by decide +kernel))), (tt3 (List.mem_of_getElem? (i := 80) (by decide +kernel))), ⟨by decide +kernel, by decide +kernel⟩, by decide +kernel⟩
theorem lk_X5_makeTarget : mLk mX5_makeTarget 2 := ⟨(tt1 (List.mem_of_getElem? (i := 12) (by decide +kernel))), (tt3 (List.mem_of_getElem? (i := 84) (by decide +kernel))), ⟨by decide +kernel, by decide +kernel⟩, by decide +kernel⟩
theorem lk_X5_addArc : mLk mX5_addArc 2 := ⟨(tt1 (List.mem_of_getElem? (i := 12) (by decide +kernel))), (tt3 (List.mem_of_getElem? (i := 88) (by decide +kernel))), ⟨by decide +kernel, by decide +kernel⟩, by decide +kernel⟩
theorem lk_X5_clearMade : mLk mX5_clearMade 0 := ⟨(tt1 (List.mem_of_getElem? (i := 12) (by decide +kernel))), (tt3 (List.mem_of_getElem? (i := 22) (by decide +kernel))), ⟨by decide +kernel, by decide +kernel⟩, by decide +kernel⟩
theorem lk_X5_put : mLk mX5_put 1 := ⟨(tt1 (List.mem_of_getElem? (i := 12) (by decide +kernel))), (tt3 (List.mem_of_getElem? (i := 32) (by decide +kernel))), ⟨by decide +kernel, by decide +kernel⟩, by decide +kernel⟩
theorem lk_X5_has : mLk mX5_has 2 := ⟨(tt1 (List.mem_of_getElem? (i := 12) (by decide +kernel))), (tt3 (List.mem_of_getElem? (i := 40) (by decide +kernel))), ⟨by decide +kernel, by decide +kernel⟩, by decide +kernel⟩
theorem lk_X5_closeMade : mLk mX5_closeMade 1 := ⟨(tt1 (List.mem_of_getElem? (i := 12) (by decide +kernel))), (tt3 (List.mem_of_getElem? (i := 36) (by decide +kernel))), ⟨by decide +kernel, by decide +kernel⟩, by decide +kernel⟩
theorem lk_X5_takeMade : mLk mX5_takeMade 0 := ⟨(tt1 (List.mem_of_getElem? (i := 12) (by decide +kernel))), (tt3 (List.mem_of_getElem? (i := 44) (by decide +kernel))), ⟨by decide +kernel, by decide +kernel⟩, by decide +kernel⟩
theorem lk_X5_leastOfMade : mLk mX5_leastOfMade 0 := ⟨(tt1 (List.mem_of_getElem? (i := 12) (by decide +kernel))), (tt3 (List.mem_of_getElem? (i := 48) (by decide +kernel))), ⟨by decide +kernel, by decide +kernel⟩, by decide +kernel⟩
theorem lk_X5_sameAsMade : mLk mX5_sameAsMade 1 := ⟨(tt1 (List.mem_of_getElem? (i := 12) (by decide +kernel))), (tt3 (List.mem_of_getElem? (i := 59) (by decide +kernel))), ⟨by decide +kernel, by decide +kernel⟩, by decide +kernel⟩
theorem lk_X5_countWays : mLk mX5_countWays 1 := ⟨(tt1 (List.mem_of_getElem? (i := 12) (by decide +kernel))), (tt3 (List.mem_of_getElem? (i := 108) (by decide +kernel))), ⟨by decide +kernel, by decide +kernel⟩, by decide +kernel⟩
theorem lk_X5_countWaysOf : mLk mX5_countWaysOf 1 := ⟨(tt1 (List.mem_of_getElem? (i := 12) (by decide +kernel))), (tt3 (List.mem_of_getElem? (i := 112) (by decide +kernel))), ⟨by decide +kernel, by decide +kernel⟩, by decide +kernel⟩
theorem lk_X5_endsAt : mLk mX5_endsAt 1 := ⟨(tt1 (List.mem_of_getElem? (i := 12) (by decide +kernel))), (tt3 (List.mem_of_getElem? (i := 116) (by decide +kernel))), ⟨by decide +kernel, by decide +kernel⟩, by decide +kernel⟩
theorem lk_X5_after : mLk mX5_after 2 := ⟨(tt1 (List.mem_of_getElem? (i := 12) (by decide +kernel))), (tt5 (List.mem_of_getElem? (i := 6) (by decide +kernel))), ⟨by decide +kernel, by decide +kernel⟩, by decide +kernel⟩
theorem lk_X5_numberOf : mLk mX5_numberOf 2 := ⟨(tt1 (List.mem_of_getElem? (i := 12) (by decide +kernel))), (tt5 (List.mem_of_getElem? (i := 2) (by decide +kernel))), ⟨by decide +kernel, by decide +kernel⟩, by decide +kernel⟩
theorem lk_X5_waysBelow : mLk mX5_waysBelow 2 := ⟨(tt1 (List.mem_of_getElem? (i := 12) (by decide +kernel))), (tt5 (List.mem_of_getElem? (i := 11) (by decide +kernel))), ⟨by decide +kernel, by decide +kernel⟩, by decide +kernel⟩
theorem lk_X6_init : mLk mX6_init 0 := ⟨(tt1 (List.mem_of_getElem? (i := 8) (by decide +kernel))), (tt1 (List.mem_of_getElem? (i := 185) (by decide +kernel))), ⟨by decide +kernel, by decide +kernel⟩, by decide +kernel⟩
theorem lk_X6_spellPhrase : mLk mX6_spellPhrase 3 := ⟨(tt1 (List.mem_of_getElem? (i := 8) (by decide +kernel))), (tt4 (List.mem_of_getElem? (i := 178) (by decide +kernel))), ⟨by decide +kernel, by decide +kernel⟩, by decide +kernel⟩
theorem lk_X6_spellFlat : mLk mX6_spellFlat 3 := ⟨(tt1 (List.mem_of_getElem? (i := 8) (by decide +kernel))), (tt5 (List.mem_of_getElem? (i := 54) (by decide +kernel))), ⟨by decide +kernel, by decide +kernel⟩, by decide +kernel⟩
theorem lk_X6_spellHeaviest : mLk mX6_spellHeaviest 2 := ⟨(tt1 (List.mem_of_getElem? (i := 8) (by decide +kernel))), (tt5 (List.mem_of_getElem? (i := 19) (by decide +kernel))), ⟨by decide +kernel, by decide +kernel⟩, by decide +kernel⟩
theorem lk_X6_add : mLk mX6_add 1 := ⟨(tt1 (List.mem_of_getElem? (i := 8) (by decide +kernel))), (tt4 (List.mem_of_getElem? (i := 187) (by decide +kernel))), ⟨by decide +kernel, by decide +kernel⟩, by decide +kernel⟩
theorem lk_X6_tell : mLk mX6_tell 1 := ⟨(tt1 (List.mem_of_getElem? (i := 8) (by decide +kernel))), (tt4 (List.mem_of_getElem? (i := 191) (by decide +kernel))), ⟨by decide +kernel, by decide +kernel⟩, by decide +kernel⟩
theorem lk_X7_init : mLk mX7_init 0 := ⟨(tt1 (List.mem_of_getElem? (i := 2) (by decide +kernel))), (tt1 (List.mem_of_getElem? (i := 31) (by decide +kernel))), ⟨by decide +kernel, by decide +kernel⟩, by decide +kernel⟩
theorem lk_X7_plain : mLk mX7_plain 1 := ⟨(tt1 (List.mem_of_getElem? (i := 2) (by decide +kernel))), (tt3 (List.mem_of_getElem? (i := 192) (by decide +kernel))), ⟨by decide +kernel, by decide +kernel⟩, by decide +kernel⟩
theorem lk_X7_addFour : mLk mX7_addFour 1 := ⟨(tt1 (List.mem_of_getElem? (i := 2) (by decide +kernel))), (tt3 (List.mem_of_getElem? (i := 196) (by decide +kernel))), ⟨by decide +kernel, by decide +kernel⟩, by decide +kernel⟩
theorem lk_X7_split : mLk mX7_split 0 := ⟨(tt1 (List.mem_of_getElem? (i := 2) (by decide +kernel))), (tt3 (List.mem_of_getElem? (i := 223) (by decide +kernel))), ⟨by decide +kernel, by decide +kernel⟩, by decide +kernel⟩
theorem lk_X7_addDigit : mLk mX7_addDigit 3 := ⟨(tt1 (List.mem_of_getElem? (i := 2) (by decide +kernel))), (tt3 (List.mem_of_getElem? (i := 238) (by decide +kernel))), ⟨by decide +kernel, by decide +kernel⟩, by decide +kernel⟩
theorem lk_X7_addMark : mLk mX7_addMark 1 := ⟨(tt1 (List.mem_of_getElem? (i := 2) (by decide +kernel))), (tt3 (List.mem_of_getElem? (i := 230) (by decide +kernel))), ⟨by decide +kernel, by decide +kernel⟩, by decide +kernel⟩
theorem lk_X7_addToken : mLk mX7_addToken 3 := ⟨(tt1 (List.mem_of_getElem? (i := 2) (by decide +kernel))), (tt3 (List.mem_of_getElem? (i := 234) (by decide +kernel))), ⟨by decide +kernel, by decide +kernel⟩, by decide +kernel⟩
theorem lk_X7_faultAt : mLk mX7_faultAt 1 := ⟨(tt1 (List.mem_of_getElem? (i := 2) (by decide +kernel))), (tt4 (List.mem_of_getElem? (i := 37) (by decide +kernel))), ⟨by decide +kernel, by decide +kernel⟩, by decide +kernel⟩
theorem lk_X7_readRow : mLk mX7_readRow 2 := ⟨(tt1 (List.mem_of_getElem? (i := 2) (by decide +kernel))), (tt4 (List.mem_of_getElem? (i := 137) (by decide +kernel))), ⟨by decide +kernel, by decide +kernel⟩, by decide +kernel⟩
theorem lk_X8_init : mLk mX8_init 0 := ⟨(tt1 (List.mem_of_getElem? (i := 9) (by decide +kernel))), (tt1 (List.mem_of_getElem? (i := 200) (by decide +kernel))), ⟨by decide +kernel, by decide +kernel⟩, by decide +kernel⟩
theorem lk_X8_begin : mLk mX8_begin 2 := ⟨(tt1 (List.mem_of_getElem? (i := 9) (by decide +kernel))), (tt4 (List.mem_of_getElem? (i := 200) (by decide +kernel))), ⟨by decide +kernel, by decide +kernel⟩, by decide +kernel⟩
theorem lk_X8_go : mLk mX8_go 2 := ⟨(tt1 (List.mem_of_getElem? (i := 9) (by decide +kernel))), (tt4 (List.mem_of_getElem? (i := 221) (by decide +kernel))), ⟨by decide +kernel, by decide +kernel⟩, by decide +kernel⟩
theorem lk_X8_goFrom : mLk mX8_goFrom 3 := ⟨(tt1 (List.mem_of_getElem? (i := 9) (by decide +kernel))), (tt4 (List.mem_of_getElem? (i := 225) (by decide +kernel))), ⟨by decide +kernel, by decide +kernel⟩, by decide +kernel⟩
theorem lk_X8_skip : mLk mX8_skip 2 := ⟨(tt1 (List.mem_of_getElem? (i := 9) (by decide +kernel))), (tt4 (List.mem_of_getElem? (i := 206) (by decide +kernel))), ⟨by decide +kernel, by decide +kernel⟩, by decide +kernel⟩
theorem lk_X8_along : mLk mX8_along 4 := ⟨(tt1 (List.mem_of_getElem? (i := 9) (by decide +kernel))), (tt4 (List.mem_of_getElem? (i := 210) (by decide +kernel))), ⟨by decide +kernel, by decide +kernel⟩, by decide +kernel⟩
theorem lk_X8_tenthsOf : mLk mX8_tenthsOf 2 := ⟨(tt1 (List.mem_of_getElem? (i := 9) (by decide +kernel))), (tt4 (List.mem_of_getElem? (i := 213) (by decide +kernel))), ⟨by decide +kernel, by decide +kernel⟩, by decide +kernel⟩
theorem lk_X8_atEnd : mLk mX8_atEnd 1 := ⟨(tt1 (List.mem_of_getElem? (i := 9) (by decide +kernel))), (tt4 (List.mem_of_getElem? (i := 229) (by decide +kernel))), ⟨by decide +kernel, by decide +kernel⟩, by decide +kernel⟩
theorem lk_X8_leastWord : mLk mX8_leastWord 1 := ⟨(tt1 (List.mem_of_getElem? (i := 9) (by decide +kernel))), (tt5 (List.mem_of_getElem? (i := 25) (by decide +kernel))), ⟨by decide +kernel, by decide +kernel⟩, by decide +kernel⟩
theorem lk_X8_leastWordFrom : mLk mX8_leastWordFrom 2 := ⟨(tt1 (List.mem_of_getElem? (i := 9) (by decide +kernel))), (tt5 (List.mem_of_getElem? (i := 29) (by decide +kernel))), ⟨by decide +kernel, by decide +kernel⟩, by decide +kernel⟩
theorem lk_X9_init : mLk mX9_init 1 := ⟨(tt1 (List.mem_of_getElem? (i := 3) (by decide +kernel))), (tt1 (List.mem_of_getElem? (i := 63) (by decide +kernel))), ⟨by decide +kernel, by decide +kernel⟩, by decide +kernel⟩
theorem lk_X9_addCode : mLk mX9_addCode 1 := ⟨(tt1 (List.mem_of_getElem? (i := 3) (by decide +kernel))), (tt4 (List.mem_of_getElem? (i := 29) (by decide +kernel))), ⟨by decide +kernel, by decide +kernel⟩, by decide +kernel⟩
theorem lk_X9_takeNumbers : mLk mX9_takeNumbers 1 := ⟨(tt1 (List.mem_of_getElem? (i := 3) (by decide +kernel))), (tt4 (List.mem_of_getElem? (i := 143) (by decide +kernel))), ⟨by decide +kernel, by decide +kernel⟩, by decide +kernel⟩
theorem lk_X10_init : mLk mX10_init 0 := ⟨(tt1 (List.mem_of_getElem? (i := 6) (by decide +kernel))), (tt1 (List.mem_of_getElem? (i := 133) (by decide +kernel))), ⟨by decide +kernel, by decide +kernel⟩, by decide +kernel⟩
theorem lk_X10_find : mLk mX10_find 1 := ⟨(tt1 (List.mem_of_getElem? (i := 6) (by decide +kernel))), (tt4 (List.mem_of_getElem? (i := 45) (by decide +kernel))), ⟨by decide +kernel, by decide +kernel⟩, by decide +kernel⟩
theorem lk_X10_findAll : mLk mX10_findAll 1 := ⟨(tt1 (List.mem_of_getElem? (i := 6) (by decide +kernel))), (tt4 (List.mem_of_getElem? (i := 238) (by decide +kernel))), ⟨by decide +kernel, by decide +kernel⟩, by decide +kernel⟩
theorem lk_X10_numberAll : mLk mX10_numberAll 1 := ⟨(tt1 (List.mem_of_getElem? (i := 6) (by decide +kernel))), (tt4 (List.mem_of_getElem? (i := 41) (by decide +kernel))), ⟨by decide +kernel, by decide +kernel⟩, by decide +kernel⟩
theorem lk_X10_forgetFrom : mLk mX10_forgetFrom 1 := ⟨(tt1 (List.mem_of_getElem? (i := 6) (by decide +kernel))), (tt4 (List.mem_of_getElem? (i := 49) (by decide +kernel))), ⟨by decide +kernel, by decide +kernel⟩, by decide +kernel⟩
theorem lk_X10_digitOf : mLk mX10_digitOf 1 := ⟨(tt1 (List.mem_of_getElem? (i := 6) (by decide +kernel))), (tt3 (List.mem_of_getElem? (i := 226) (by decide +kernel))), ⟨by decide +kernel, by decide +kernel⟩, by decide +kernel⟩
theorem lk_X10_lengthOf : mLk mX10_lengthOf 1 := ⟨(tt1 (List.mem_of_getElem? (i := 6) (by decide +kernel))), (tt3 (List.mem_of_getElem? (i := 211) (by decide +kernel))), ⟨by decide +kernel, by decide +kernel⟩, by decide +kernel⟩
theorem lk_X10_byteAt : mLk mX10_byteAt 2 := ⟨(tt1 (List.mem_of_getElem? (i := 6) (by decide +kernel))), (tt3 (List.mem_of_getElem? (i := 215) (by decide +kernel))), ⟨by decide +kernel, by decide +kernel⟩, by decide +kernel⟩
theorem lk_X10_tenthsOf : mLk mX10_tenthsOf 1 := ⟨(tt1 (List.mem_of_getElem? (i := 6) (by decide +kernel))), (tt4 (List.mem_of_getElem? (i := 14) (by decide +kernel))), ⟨by decide +kernel, by decide +kernel⟩, by decide +kernel⟩
theorem lk_X11_init : mLk mX11_init 0 := ⟨(tt1 (List.mem_of_getElem? (i := 1) (by decide +kernel))), (tt1 (List.mem_of_getElem? (i := 23) (by decide +kernel))), ⟨by decide +kernel, by decide +kernel⟩, by decide +kernel⟩
theorem lk_X11_feed : mLk mX11_feed 4 := ⟨(tt1 (List.mem_of_getElem? (i := 1) (by decide +kernel))), (tt3 (List.mem_of_getElem? (i := 189) (by decide +kernel))), ⟨by decide +kernel, by decide +kernel⟩, by decide +kernel⟩
theorem lk_X11_cut : mLk mX11_cut 1 := ⟨(tt1 (List.mem_of_getElem? (i := 1) (by decide +kernel))), (tt3 (List.mem_of_getElem? (i := 200) (by decide +kernel))), ⟨by decide +kernel, by decide +kernel⟩, by decide +kernel⟩
theorem lk_X11_told : mLk mX11_told 1 := ⟨(tt1 (List.mem_of_getElem? (i := 1) (by decide +kernel))), (tt3 (List.mem_of_getElem? (i := 204) (by decide +kernel))), ⟨by decide +kernel, by decide +kernel⟩, by decide +kernel⟩
theorem lk_X11_word : mLk mX11_word 2 := ⟨(tt1 (List.mem_of_getElem? (i := 1) (by decide +kernel))), (tt3 (List.mem_of_getElem? (i := 208) (by decide +kernel))), ⟨by decide +kernel, by decide +kernel⟩, by decide +kernel⟩
theorem lk_X11_rule : mLk mX11_rule 1 := ⟨(tt1 (List.mem_of_getElem? (i := 1) (by decide +kernel))), (tt3 (List.mem_of_getElem? (i := 219) (by decide +kernel))), ⟨by decide +kernel, by decide +kernel⟩, by decide +kernel⟩
theorem lk_X11_fresh : mLk mX11_fresh 0 := ⟨(tt1 (List.mem_of_getElem? (i := 1) (by decide +kernel))), (tt4 (List.mem_of_getElem? (i := 84) (by decide +kernel))), ⟨by decide +kernel, by decide +kernel⟩, by decide +kernel⟩
theorem lk_X11_reload : mLk mX11_reload 0 := ⟨(tt1 (List.mem_of_getElem? (i := 1) (by decide +kernel))), (tt4 (List.mem_of_getElem? (i := 92) (by decide +kernel))), ⟨by decide +kernel, by decide +kernel⟩, by decide +kernel⟩
theorem lk_X11_left : mLk mX11_left 2 := ⟨(tt1 (List.mem_of_getElem? (i := 1) (by decide +kernel))), (tt4 (List.mem_of_getElem? (i := 96) (by decide +kernel))), ⟨by decide +kernel, by decide +kernel⟩, by decide +kernel⟩
theorem lk_X11_alternative : mLk mX11_alternative 3 := ⟨(tt1 (List.mem_of_getElem? (i := 1) (by decide +kernel))), (tt4 (List.mem_of_getElem? (i := 123) (by decide +kernel))), ⟨by decide +kernel, by decide +kernel⟩, by decide +kernel⟩
theorem lk_X11_input : mLk mX11_input 0 := ⟨(tt1 (List.mem_of_getElem? (i := 1) (by decide +kernel))), (tt4 (List.mem_of_getElem? (i := 129) (by decide +kernel))), ⟨by decide +kernel, by decide +kernel⟩, by decide +kernel⟩
theorem lk_X11_longest : mLk mX11_longest 1 := ⟨(tt1 (List.mem_of_getElem? (i := 1) (by decide +kernel))), (tt4 (List.mem_of_getElem? (i := 149) (by decide +kernel))), ⟨by decide +kernel, by decide +kernel⟩, by decide +kernel⟩
theorem lk_X11_graph : mLk mX11_graph 0 := ⟨(tt1 (List.mem_of_getElem? (i := 1) (by decide +kernel))), (tt4 (List.mem_of_getElem? (i := 154) (by decide +kernel))), ⟨by decide +kernel, by decide +kernel⟩, by decide +kernel⟩
theorem lk_X11_size : mLk mX11_size 1 := ⟨(tt1 (List.mem_of_getElem? (i := 1) (by decide +kernel))), (tt4 (List.mem_of_getElem? (i := 158) (by decide +kernel))), ⟨by decide +kernel, by decide +kernel⟩, by decide +kernel⟩
theorem lk_X11_match : mLk mX11_match 2 := ⟨(tt1 (List.mem_of_getElem? (i := 1) (by decide +kernel))), (tt4 (List.mem_of_getElem? (i := 162) (by decide +kernel))), ⟨by decide +kernel, by decide +kernel⟩, by decide +kernel⟩
theorem lk_X11_edge : mLk mX11_edge 2 := ⟨(tt1 (List.mem_of_getElem? (i := 1) (by decide +kernel))), (tt4 (List.mem_of_getElem? (i := 166) (by decide +kernel))), ⟨by decide +kernel, by decide +kernel⟩, by decide +kernel⟩
theorem lk_X11_phrases : mLk mX11_phrases 0 := ⟨(tt1 (List.mem_of_getElem? (i := 1) (by decide +kernel))), (tt4 (List.mem_of_getElem? (i := 170) (by decide +kernel))), ⟨by decide +kernel, by decide +kernel⟩, by decide +kernel⟩
theorem lk_X11_phrase : mLk mX11_phrase 2 := ⟨(tt1 (List.mem_of_getElem? (i := 1) (by decide +kernel))), (tt4 (List.mem_of_getElem? (i := 174) (by decide +kernel))), ⟨by decide +kernel, by decide +kernel⟩, by decide +kernel⟩
theorem lk_X11_weight : mLk mX11_weight 1 := ⟨(tt1 (List.mem_of_getElem? (i := 1) (by decide +kernel))), (tt4 (List.mem_of_getElem? (i := 195) (by decide +kernel))), ⟨by decide +kernel, by decide +kernel⟩, by decide +kernel⟩
theorem lk_X11_which : mLk mX11_which 0 := ⟨(tt1 (List.mem_of_getElem? (i := 1) (by decide +kernel))), (tt4 (List.mem_of_getElem? (i := 234) (by decide +kernel))), ⟨by decide +kernel, by decide +kernel⟩, by decide +kernel⟩
theorem lk_X11_heaviest : mLk mX11_heaviest 0 := ⟨(tt1 (List.mem_of_getElem? (i := 1) (by decide +kernel))), (tt5 (List.mem_of_getElem? (i := 15) (by decide +kernel))), ⟨by decide +kernel, by decide +kernel⟩, by decide +kernel⟩
theorem lk_X11_position : mLk mX11_position 2 := ⟨(tt1 (List.mem_of_getElem? (i := 1) (by decide +kernel))), (tt5 (List.mem_of_getElem? (i := 35) (by decide +kernel))), ⟨by decide +kernel, by decide +kernel⟩, by decide +kernel⟩
theorem lk_X11_rows : mLk mX11_rows 1 := ⟨(tt1 (List.mem_of_getElem? (i := 1) (by decide +kernel))), (tt5 (List.mem_of_getElem? (i := 40) (by decide +kernel))), ⟨by decide +kernel, by decide +kernel⟩, by decide +kernel⟩
theorem lk_X11_row : mLk mX11_row 3 := ⟨(tt1 (List.mem_of_getElem? (i := 1) (by decide +kernel))), (tt5 (List.mem_of_getElem? (i := 49) (by decide +kernel))), ⟨by decide +kernel, by decide +kernel⟩, by decide +kernel⟩
theorem lk_X11_document : mLk mX11_document 0 := ⟨(tt1 (List.mem_of_getElem? (i := 1) (by decide +kernel))), (tt5 (List.mem_of_getElem? (i := 59) (by decide +kernel))), ⟨by decide +kernel, by decide +kernel⟩, by decide +kernel⟩
theorem lk_X11_hits : mLk mX11_hits 0 := ⟨(tt1 (List.mem_of_getElem? (i := 1) (by decide +kernel))), (tt5 (List.mem_of_getElem? (i := 63) (by decide +kernel))), ⟨by decide +kernel, by decide +kernel⟩, by decide +kernel⟩
theorem lk_X11_hit : mLk mX11_hit 2 := ⟨(tt1 (List.mem_of_getElem? (i := 1) (by decide +kernel))), (tt5 (List.mem_of_getElem? (i := 77) (by decide +kernel))), ⟨by decide +kernel, by decide +kernel⟩, by decide +kernel⟩
theorem lk_X11_hitWeight : mLk mX11_hitWeight 1 := ⟨(tt1 (List.mem_of_getElem? (i := 1) (by decide +kernel))), (tt5 (List.mem_of_getElem? (i := 85) (by decide +kernel))), ⟨by decide +kernel, by decide +kernel⟩, by decide +kernel⟩
theorem lk_X11_takeRow : mLk mX11_takeRow 1 := ⟨(tt1 (List.mem_of_getElem? (i := 1) (by decide +kernel))), (tt4 (List.mem_of_getElem? (i := 133) (by decide +kernel))), ⟨by decide +kernel, by decide +kernel⟩, by decide +kernel⟩
theorem lk_X12_next : mLk mX12_next 0 := ⟨(tt1 (List.mem_of_getElem? (i := 18) (by decide +kernel))), (tt5 (List.mem_of_getElem? (i := 111) (by decide +kernel))), ⟨by decide +kernel, by decide +kernel⟩, by decide +kernel⟩
theorem lk_X12_isOfWord : mLk mX12_isOfWord 1 := ⟨(tt1 (List.mem_of_getElem? (i := 18) (by decide +kernel))), (tt5 (List.mem_of_getElem? (i := 114) (by decide +kernel))), ⟨by decide +kernel, by decide +kernel⟩, by decide +kernel⟩
theorem lk_X12_tenths : mLk mX12_tenths 0 := ⟨(tt1 (List.mem_of_getElem? (i := 18) (by decide +kernel))), (tt5 (List.mem_of_getElem? (i := 126) (by decide +kernel))), ⟨by decide +kernel, by decide +kernel⟩, by decide +kernel⟩
theorem lk_X12_numberOf : mLk mX12_numberOf 2 := ⟨(tt1 (List.mem_of_getElem? (i := 18) (by decide +kernel))), (tt5 (List.mem_of_getElem? (i := 134) (by decide +kernel))), ⟨by decide +kernel, by decide +kernel⟩, by decide +kernel⟩
theorem lk_X12_numbered : mLk mX12_numbered 2 := ⟨(tt1 (List.mem_of_getElem? (i := 18) (by decide +kernel))), (tt5 (List.mem_of_getElem? (i := 130) (by decide +kernel))), ⟨by decide +kernel, by decide +kernel⟩, by decide +kernel⟩
theorem lk_X12_feed : mLk mX12_feed 4 := ⟨(tt1 (List.mem_of_getElem? (i := 18) (by decide +kernel))), (tt5 (List.mem_of_getElem? (i := 90) (by decide +kernel))), ⟨by decide +kernel, by decide +kernel⟩, by decide +kernel⟩
theorem lk_X12_cut : mLk mX12_cut 1 := ⟨(tt1 (List.mem_of_getElem? (i := 18) (by decide +kernel))), (tt5 (List.mem_of_getElem? (i := 94) (by decide +kernel))), ⟨by decide +kernel, by decide +kernel⟩, by decide +kernel⟩
theorem lk_X12_word : mLk mX12_word 2 := ⟨(tt1 (List.mem_of_getElem? (i := 18) (by decide +kernel))), (tt5 (List.mem_of_getElem? (i := 98) (by decide +kernel))), ⟨by decide +kernel, by decide +kernel⟩, by decide +kernel⟩
theorem lk_X12_readRow : mLk mX12_readRow 1 := ⟨(tt1 (List.mem_of_getElem? (i := 18) (by decide +kernel))), (tt5 (List.mem_of_getElem? (i := 186) (by decide +kernel))), ⟨by decide +kernel, by decide +kernel⟩, by decide +kernel⟩
theorem lk_X12_takeRow : mLk mX12_takeRow 0 := ⟨(tt1 (List.mem_of_getElem? (i := 18) (by decide +kernel))), (tt5 (List.mem_of_getElem? (i := 190) (by decide +kernel))), ⟨by decide +kernel, by decide +kernel⟩, by decide +kernel⟩
theorem lk_X12_readSide : mLk mX12_readSide 0 := ⟨(tt1 (List.mem_of_getElem? (i := 18) (by decide +kernel))), (tt5 (List.mem_of_getElem? (i := 122) (by decide +kernel))), ⟨by decide +kernel, by decide +kernel⟩, by decide +kernel⟩
theorem lk_X12_readSides : mLk mX12_readSides 0 := ⟨(tt1 (List.mem_of_getElem? (i := 18) (by decide +kernel))), (tt5 (List.mem_of_getElem? (i := 118) (by decide +kernel))), ⟨by decide +kernel, by decide +kernel⟩, by decide +kernel⟩
theorem lk_X12_readRule : mLk mX12_readRule 0 := ⟨(tt1 (List.mem_of_getElem? (i := 18) (by decide +kernel))), (tt5 (List.mem_of_getElem? (i := 107) (by decide +kernel))), ⟨by decide +kernel, by decide +kernel⟩, by decide +kernel⟩
theorem lk_X12_copyState : mLk mX12_copyState 2 := ⟨(tt1 (List.mem_of_getElem? (i := 18) (by decide +kernel))), (tt5 (List.mem_of_getElem? (i := 138) (by decide +kernel))), ⟨by decide +kernel, by decide +kernel⟩, by decide +kernel⟩
theorem lk_X12_leftOf : mLk mX12_leftOf 1 := ⟨(tt1 (List.mem_of_getElem? (i := 18) (by decide +kernel))), (tt5 (List.mem_of_getElem? (i := 146) (by decide +kernel))), ⟨by decide +kernel, by decide +kernel⟩, by decide +kernel⟩
theorem lk_X12_tells : mLk mX12_tells 2 := ⟨(tt1 (List.mem_of_getElem? (i := 18) (by decide +kernel))), (tt5 (List.mem_of_getElem? (i := 150) (by decide +kernel))), ⟨by decide +kernel, by decide +kernel⟩, by decide +kernel⟩
theorem lk_X12_lay : mLk mX12_lay 4 := ⟨(tt1 (List.mem_of_getElem? (i := 18) (by decide +kernel))), (tt5 (List.mem_of_getElem? (i := 142) (by decide +kernel))), ⟨by decide +kernel, by decide +kernel⟩, by decide +kernel⟩
theorem lk_X12_rule : mLk mX12_rule 1 := ⟨(tt1 (List.mem_of_getElem? (i := 18) (by decide +kernel))), (tt5 (List.mem_of_getElem? (i := 102) (by decide +kernel))), ⟨by decide +kernel, by decide +kernel⟩, by decide +kernel⟩
theorem lk_X12_fresh : mLk mX12_fresh 0 := ⟨(tt1 (List.mem_of_getElem? (i := 18) (by decide +kernel))), (tt5 (List.mem_of_getElem? (i := 154) (by decide +kernel))), ⟨by decide +kernel, by decide +kernel⟩, by decide +kernel⟩
theorem lk_X12_reload : mLk mX12_reload 0 := ⟨(tt1 (List.mem_of_getElem? (i := 18) (by decide +kernel))), (tt5 (List.mem_of_getElem? (i := 158) (by decide +kernel))), ⟨by decide +kernel, by decide +kernel⟩, by decide +kernel⟩
theorem lk_X12_isItself : mLk mX12_isItself 2 := ⟨(tt1 (List.mem_of_getElem? (i := 18) (by decide +kernel))), (tt5 (List.mem_of_getElem? (i := 166) (by decide +kernel))), ⟨by decide +kernel, by decide +kernel⟩, by decide +kernel⟩
theorem lk_X12_holds : mLk mX12_holds 2 := ⟨(tt1 (List.mem_of_getElem? (i := 18) (by decide +kernel))), (tt5 (List.mem_of_getElem? (i := 170) (by decide +kernel))), ⟨by decide +kernel, by decide +kernel⟩, by decide +kernel⟩
theorem lk_X12_goRound : mLk mX12_goRound 0 := ⟨(tt1 (List.mem_of_getElem? (i := 18) (by decide +kernel))), (tt5 (List.mem_of_getElem? (i := 162) (by decide +kernel))), ⟨by decide +kernel, by decide +kernel⟩, by decide +kernel⟩
theorem lk_X12_left : mLk mX12_left 2 := ⟨(tt1 (List.mem_of_getElem? (i := 18) (by decide +kernel))), (tt5 (List.mem_of_getElem? (i := 174) (by decide +kernel))), ⟨by decide +kernel, by decide +kernel⟩, by decide +kernel⟩
theorem lk_X12_alternative : mLk mX12_alternative 3 := ⟨(tt1 (List.mem_of_getElem? (i := 18) (by decide +kernel))), (tt5 (List.mem_of_getElem? (i := 178) (by decide +kernel))), ⟨by decide +kernel, by decide +kernel⟩, by decide +kernel⟩
theorem lk_X12_input : mLk mX12_input 0 := ⟨(tt1 (List.mem_of_getElem? (i := 18) (by decide +kernel))), (tt5 (List.mem_of_getElem? (i := 182) (by decide +kernel))), ⟨by decide +kernel, by decide +kernel⟩, by decide +kernel⟩
theorem lk_X12_standsAt : mLk mX12_standsAt 4 := ⟨(tt1 (List.mem_of_getElem? (i := 18) (by decide +kernel))), (tt5 (List.mem_of_getElem? (i := 198) (by decide +kernel))), ⟨by decide +kernel, by decide +kernel⟩, by decide +kernel⟩
theorem lk_X12_longest : mLk mX12_longest 1 := ⟨(tt1 (List.mem_of_getElem? (i := 18) (by decide +kernel))), (tt5 (List.mem_of_getElem? (i := 194) (by decide +kernel))), ⟨by decide +kernel, by decide +kernel⟩, by decide +kernel⟩
theorem lk_X12_last : mLk mX12_last 0 := ⟨(tt1 (List.mem_of_getElem? (i := 18) (by decide +kernel))), (tt6 (List.mem_of_getElem? (i := 16) (by decide +kernel))), ⟨by decide +kernel, by decide +kernel⟩, by decide +kernel⟩
theorem lk_X12_edge : mLk mX12_edge 4 := ⟨(tt1 (List.mem_of_getElem? (i := 18) (by decide +kernel))), (tt5 (List.mem_of_getElem? (i := 212) (by decide +kernel))), ⟨by decide +kernel, by decide +kernel⟩, by decide +kernel⟩
theorem lk_X12_has : mLk mX12_has 2 := ⟨(tt1 (List.mem_of_getElem? (i := 18) (by decide +kernel))), (tt5 (List.mem_of_getElem? (i := 236) (by decide +kernel))), ⟨by decide +kernel, by decide +kernel⟩, by decide +kernel⟩
theorem lk_X12_add : mLk mX12_add 2 := ⟨(tt1 (List.mem_of_getElem? (i := 18) (by decide +kernel))), (tt5 (List.mem_of_getElem? (i := 228) (by decide +kernel))), ⟨by decide +kernel, by decide +kernel⟩, by decide +kernel⟩
theorem lk_X12_close : mLk mX12_close 1 := ⟨(tt1 (List.mem_of_getElem? (i := 18) (by decide +kernel))), (tt5 (List.mem_of_getElem? (i := 232) (by decide +kernel))), ⟨by decide +kernel, by decide +kernel⟩, by decide +kernel⟩
theorem lk_X12_ends : mLk mX12_ends 1 := ⟨(tt1 (List.mem_of_getElem? (i := 18) (by decide +kernel))), (tt6 (List.mem_of_getElem? (i := 21) (by decide +kernel))), ⟨by decide +kernel, by decide +kernel⟩, by decide +kernel⟩
theorem lk_X12_known : mLk mX12_known 0 := ⟨(tt1 (List.mem_of_getElem? (i := 18) (by decide +kernel))), (tt6 (List.mem_of_getElem? (i := 4) (by decide +kernel))), ⟨by decide +kernel, by decide +kernel⟩, by decide +kernel⟩
theorem lk_X12_wipe : mLk mX12_wipe 1 := ⟨(tt1 (List.mem_of_getElem? (i := 18) (by decide +kernel))), (tt5 (List.mem_of_getElem? (i := 224) (by decide +kernel))), ⟨by decide +kernel, by decide +kernel⟩, by decide +kernel⟩
theorem lk_X12_findSets : mLk mX12_findSets 0 := ⟨(tt1 (List.mem_of_getElem? (i := 18) (by decide +kernel))), (tt5 (List.mem_of_getElem? (i := 220) (by decide +kernel))), ⟨by decide +kernel, by decide +kernel⟩, by decide +kernel⟩
theorem lk_X12_leastBehind : mLk mX12_leastBehind 2 := ⟨(tt1 (List.mem_of_getElem? (i := 18) (by decide +kernel))), (tt6 (List.mem_of_getElem? (i := 0) (by decide +kernel))), ⟨by decide +kernel, by decide +kernel⟩, by decide +kernel⟩
theorem lk_X12_findAll : mLk mX12_findAll 0 := ⟨(tt1 (List.mem_of_getElem? (i := 18) (by decide +kernel))), (tt6 (List.mem_of_getElem? (i := 25) (by decide +kernel))), ⟨by decide +kernel, by decide +kernel⟩, by decide +kernel⟩
theorem lk_X12_step : mLk mX12_step 2 := ⟨(tt1 (List.mem_of_getElem? (i := 18) (by decide +kernel))), (tt7 (List.mem_of_getElem? (i := 86) (by decide +kernel))), ⟨by decide +kernel, by decide +kernel⟩, by decide +kernel⟩
theorem lk_X12_findFlat : mLk mX12_findFlat 0 := ⟨(tt1 (List.mem_of_getElem? (i := 18) (by decide +kernel))), (tt6 (List.mem_of_getElem? (i := 12) (by decide +kernel))), ⟨by decide +kernel, by decide +kernel⟩, by decide +kernel⟩
theorem lk_X12_findWeights : mLk mX12_findWeights 0 := ⟨(tt1 (List.mem_of_getElem? (i := 18) (by decide +kernel))), (tt6 (List.mem_of_getElem? (i := 29) (by decide +kernel))), ⟨by decide +kernel, by decide +kernel⟩, by decide +kernel⟩
theorem lk_X12_isFirst : mLk mX12_isFirst 1 := ⟨(tt1 (List.mem_of_getElem? (i := 18) (by decide +kernel))), (tt6 (List.mem_of_getElem? (i := 33) (by decide +kernel))), ⟨by decide +kernel, by decide +kernel⟩, by decide +kernel⟩
theorem lk_X12_isBorder : mLk mX12_isBorder 1 := ⟨(tt1 (List.mem_of_getElem? (i := 18) (by decide +kernel))), (tt6 (List.mem_of_getElem? (i := 37) (by decide +kernel))), ⟨by decide +kernel, by decide +kernel⟩, by decide +kernel⟩
theorem lk_X12_finish : mLk mX12_finish 0 := ⟨(tt1 (List.mem_of_getElem? (i := 18) (by decide +kernel))), (tt6 (List.mem_of_getElem? (i := 8) (by decide +kernel))), ⟨by decide +kernel, by decide +kernel⟩, by decide +kernel⟩
theorem lk_X12_init : mLk mX12_init 0 := ⟨(tt1 (List.mem_of_getElem? (i := 18) (by decide +kernel))), (tt5 (List.mem_of_getElem? (i := 202) (by decide +kernel))), ⟨by decide +kernel, by decide +kernel⟩, by decide +kernel⟩
theorem lk_X12_layAlternative : mLk mX12_layAlternative 5 := ⟨(tt1 (List.mem_of_getElem? (i := 18) (by decide +kernel))), (tt5 (List.mem_of_getElem? (i := 216) (by decide +kernel))), ⟨by decide +kernel, by decide +kernel⟩, by decide +kernel⟩
theorem lk_X12_make : mLk mX12_make 1 := ⟨(tt1 (List.mem_of_getElem? (i := 18) (by decide +kernel))), (tt5 (List.mem_of_getElem? (i := 208) (by decide +kernel))), ⟨by decide +kernel, by decide +kernel⟩, by decide +kernel⟩
theorem lk_X12_graph : mLk mX12_graph 0 := ⟨(tt1 (List.mem_of_getElem? (i := 18) (by decide +kernel))), (tt7 (List.mem_of_getElem? (i := 30) (by decide +kernel))), ⟨by decide +kernel, by decide +kernel⟩, by decide +kernel⟩
theorem lk_X12_size : mLk mX12_size 1 := ⟨(tt1 (List.mem_of_getElem? (i := 18) (by decide +kernel))), (tt7 (List.mem_of_getElem? (i := 34) (by decide +kernel))), ⟨by decide +kernel, by decide +kernel⟩, by decide +kernel⟩
theorem lk_X12_match : mLk mX12_match 2 := ⟨(tt1 (List.mem_of_getElem? (i := 18) (by decide +kernel))), (tt7 (List.mem_of_getElem? (i := 38) (by decide +kernel))), ⟨by decide +kernel, by decide +kernel⟩, by decide +kernel⟩
theorem lk_X12_edge_ : mLk mX12_edge_ 2 := ⟨(tt1 (List.mem_of_getElem? (i := 18) (by decide +kernel))), (tt7 (List.mem_of_getElem? (i := 42) (by decide +kernel))), ⟨by decide +kernel, by decide +kernel⟩, by decide +kernel⟩
theorem lk_X12_phrases : mLk mX12_phrases 0 := ⟨(tt1 (List.mem_of_getElem? (i := 18) (by decide +kernel))), (tt7 (List.mem_of_getElem? (i := 46) (by decide +kernel))), ⟨by decide +kernel, by decide +kernel⟩, by decide +kernel⟩
theorem lk_X12_findPhrase : mLk mX12_findPhrase 1 := ⟨(tt1 (List.mem_of_getElem? (i := 18) (by decide +kernel))), (tt7 (List.mem_of_getElem? (i := 54) (by decide +kernel))), ⟨by decide +kernel, by decide +kernel⟩, by decide +kernel⟩
theorem lk_X12_phrase : mLk mX12_phrase 2 := ⟨(tt1 (List.mem_of_getElem? (i := 18) (by decide +kernel))), (tt7 (List.mem_of_getElem? (i := 50) (by decide +kernel))), ⟨by decide +kernel, by decide +kernel⟩, by decide +kernel⟩
theorem lk_X12_beginWeights : mLk mX12_beginWeights 0 := ⟨(tt1 (List.mem_of_getElem? (i := 18) (by decide +kernel))), (tt7 (List.mem_of_getElem? (i := 63) (by decide +kernel))), ⟨by decide +kernel, by decide +kernel⟩, by decide +kernel⟩
theorem lk_X12_closeWeights : mLk mX12_closeWeights 0 := ⟨(tt1 (List.mem_of_getElem? (i := 18) (by decide +kernel))), (tt7 (List.mem_of_getElem? (i := 68) (by decide +kernel))), ⟨by decide +kernel, by decide +kernel⟩, by decide +kernel⟩
theorem lk_X12_weigh : mLk mX12_weigh 1 := ⟨(tt1 (List.mem_of_getElem? (i := 18) (by decide +kernel))), (tt7 (List.mem_of_getElem? (i := 72) (by decide +kernel))), ⟨by decide +kernel, by decide +kernel⟩, by decide +kernel⟩
theorem lk_X12_weight : mLk mX12_weight 1 := ⟨(tt1 (List.mem_of_getElem? (i := 18) (by decide +kernel))), (tt7 (List.mem_of_getElem? (i := 58) (by decide +kernel))), ⟨by decide +kernel, by decide +kernel⟩, by decide +kernel⟩
theorem lk_X12_numberOfRow : mLk mX12_numberOfRow 0 := ⟨(tt1 (List.mem_of_getElem? (i := 18) (by decide +kernel))), (tt7 (List.mem_of_getElem? (i := 82) (by decide +kernel))), ⟨by decide +kernel, by decide +kernel⟩, by decide +kernel⟩
theorem lk_X12_which : mLk mX12_which 0 := ⟨(tt1 (List.mem_of_getElem? (i := 18) (by decide +kernel))), (tt7 (List.mem_of_getElem? (i := 77) (by decide +kernel))), ⟨by decide +kernel, by decide +kernel⟩, by decide +kernel⟩
theorem lk_X12_tens : mLk mX12_tens 1 := ⟨(tt1 (List.mem_of_getElem? (i := 18) (by decide +kernel))), (tt7 (List.mem_of_getElem? (i := 97) (by decide +kernel))), ⟨by decide +kernel, by decide +kernel⟩, by decide +kernel⟩
theorem lk_X12_greatest : mLk mX12_greatest 0 := ⟨(tt1 (List.mem_of_getElem? (i := 18) (by decide +kernel))), (tt7 (List.mem_of_getElem? (i := 94) (by decide +kernel))), ⟨by decide +kernel, by decide +kernel⟩, by decide +kernel⟩
theorem lk_X12_heaviest : mLk mX12_heaviest 0 := ⟨(tt1 (List.mem_of_getElem? (i := 18) (by decide +kernel))), (tt7 (List.mem_of_getElem? (i := 90) (by decide +kernel))), ⟨by decide +kernel, by decide +kernel⟩, by decide +kernel⟩
theorem lk_X12_position : mLk mX12_position 2 := ⟨(tt1 (List.mem_of_getElem? (i := 18) (by decide +kernel))), (tt7 (List.mem_of_getElem? (i := 101) (by decide +kernel))), ⟨by decide +kernel, by decide +kernel⟩, by decide +kernel⟩
theorem lk_X12_rows : mLk mX12_rows 1 := ⟨(tt1 (List.mem_of_getElem? (i := 18) (by decide +kernel))), (tt7 (List.mem_of_getElem? (i := 105) (by decide +kernel))), ⟨by decide +kernel, by decide +kernel⟩, by decide +kernel⟩
theorem lk_X12_findFlatRow : mLk mX12_findFlatRow 1 := ⟨(tt1 (List.mem_of_getElem? (i := 18) (by decide +kernel))), (tt7 (List.mem_of_getElem? (i := 115) (by decide +kernel))), ⟨by decide +kernel, by decide +kernel⟩, by decide +kernel⟩
theorem lk_X12_findLost : mLk mX12_findLost 1 := ⟨(tt1 (List.mem_of_getElem? (i := 18) (by decide +kernel))), (tt7 (List.mem_of_getElem? (i := 119) (by decide +kernel))), ⟨by decide +kernel, by decide +kernel⟩, by decide +kernel⟩
theorem lk_X12_findBesides : mLk mX12_findBesides 1 := ⟨(tt1 (List.mem_of_getElem? (i := 18) (by decide +kernel))), (tt7 (List.mem_of_getElem? (i := 123) (by decide +kernel))), ⟨by decide +kernel, by decide +kernel⟩, by decide +kernel⟩
theorem lk_X12_row : mLk mX12_row 3 := ⟨(tt1 (List.mem_of_getElem? (i := 18) (by decide +kernel))), (tt7 (List.mem_of_getElem? (i := 110) (by decide +kernel))), ⟨by decide +kernel, by decide +kernel⟩, by decide +kernel⟩
theorem lk_X12_document : mLk mX12_document 0 := ⟨(tt1 (List.mem_of_getElem? (i := 18) (by decide +kernel))), (tt7 (List.mem_of_getElem? (i := 127) (by decide +kernel))), ⟨by decide +kernel, by decide +kernel⟩, by decide +kernel⟩
theorem lk_X12_isHit : mLk mX12_isHit 2 := ⟨(tt1 (List.mem_of_getElem? (i := 18) (by decide +kernel))), (tt7 (List.mem_of_getElem? (i := 135) (by decide +kernel))), ⟨by decide +kernel, by decide +kernel⟩, by decide +kernel⟩
theorem lk_X12_hits : mLk mX12_hits 0 := ⟨(tt1 (List.mem_of_getElem? (i := 18) (by decide +kernel))), (tt7 (List.mem_of_getElem? (i := 131) (by decide +kernel))), ⟨by decide +kernel, by decide +kernel⟩, by decide +kernel⟩
theorem lk_X12_placeOfHit : mLk mX12_placeOfHit 1 := ⟨(tt1 (List.mem_of_getElem? (i := 18) (by decide +kernel))), (tt7 (List.mem_of_getElem? (i := 143) (by decide +kernel))), ⟨by decide +kernel, by decide +kernel⟩, by decide +kernel⟩
theorem lk_X12_hit : mLk mX12_hit 2 := ⟨(tt1 (List.mem_of_getElem? (i := 18) (by decide +kernel))), (tt7 (List.mem_of_getElem? (i := 139) (by decide +kernel))), ⟨by decide +kernel, by decide +kernel⟩, by decide +kernel⟩
theorem lk_X12_hitWeight : mLk mX12_hitWeight 1 := ⟨(tt1 (List.mem_of_getElem? (i := 18) (by decide +kernel))), (tt7 (List.mem_of_getElem? (i := 147) (by decide +kernel))), ⟨by decide +kernel, by decide +kernel⟩, by decide +kernel⟩
theorem lk_X12_told : mLk mX12_told 1 := ⟨(tt1 (List.mem_of_getElem? (i := 18) (by decide +kernel))), (tt7 (List.mem_of_getElem? (i := 151) (by decide +kernel))), ⟨by decide +kernel, by decide +kernel⟩, by decide +kernel⟩
theorem lk_J6_numberOfTrailingZeros_0f7a4 : mLk mJ6_numberOfTrailingZeros_0f7a4 1 := ⟨(tt1 (List.mem_of_getElem? (i := 16) (by decide +kernel))), (tt3 (List.mem_of_getElem? (i := 54) (by decide +kernel))), ⟨by decide +kernel, by decide +kernel⟩, by decide +kernel⟩
theorem lk_J13_numberOfTrailingZeros_95d88 : mLk mJ13_numberOfTrailingZeros_95d88 1 := ⟨(tt1 (List.mem_of_getElem? (i := 15) (by decide +kernel))), (tt3 (List.mem_of_getElem? (i := 51) (by decide +kernel))), ⟨by decide +kernel, by decide +kernel⟩, by decide +kernel⟩
theorem lk_J13_bitCount_95d88 : mLk mJ13_bitCount_95d88 1 := ⟨(tt1 (List.mem_of_getElem? (i := 15) (by decide +kernel))), (tt3 (List.mem_of_getElem? (i := 69) (by decide +kernel))), ⟨by decide +kernel, by decide +kernel⟩, by decide +kernel⟩
theorem lk_J9_max_7cf53 : mLk mJ9_max_7cf53 2 := ⟨(tt1 (List.mem_of_getElem? (i := 4) (by decide +kernel))), (tt1 (List.mem_of_getElem? (i := 67) (by decide +kernel))), ⟨by decide +kernel, by decide +kernel⟩, by decide +kernel⟩
theorem lk_J9_max_f86c9 : mLk mJ9_max_f86c9 2 := ⟨(tt1 (List.mem_of_getElem? (i := 4) (by decide +kernel))), (tt4 (List.mem_of_getElem? (i := 217) (by decide +kernel))), ⟨by decide +kernel, by decide +kernel⟩, by decide +kernel⟩
theorem lk_J9_min_7cf53 : mLk mJ9_min_7cf53 2 := ⟨(tt1 (List.mem_of_getElem? (i := 4) (by decide +kernel))), (tt3 (List.mem_of_getElem? (i := 101) (by decide +kernel))), ⟨by decide +kernel, by decide +kernel⟩, by decide +kernel⟩
theorem lk_J9_min_f86c9 : mLk mJ9_min_f86c9 2 := ⟨(tt1 (List.mem_of_getElem? (i := 4) (by decide +kernel))), (tt5 (List.mem_of_getElem? (i := 44) (by decide +kernel))), ⟨by decide +kernel, by decide +kernel⟩, by decide +kernel⟩
theorem lk_J7_rangeCheck_23922 : mLk mJ7_rangeCheck_23922 3 := ⟨(tt1 (List.mem_of_getElem? (i := 14) (by decide +kernel))), (tt3 (List.mem_of_getElem? (i := 28) (by decide +kernel))), ⟨by decide +kernel, by decide +kernel⟩, by decide +kernel⟩
theorem lk_J7_fill_d0a16 : mLk mJ7_fill_d0a16 2 := ⟨(tt1 (List.mem_of_getElem? (i := 14) (by decide +kernel))), (tt3 (List.mem_of_getElem? (i := 66) (by decide +kernel))), ⟨by decide +kernel, by decide +kernel⟩, by decide +kernel⟩
theorem lk_J7_fill_bad5a : mLk mJ7_fill_bad5a 4 := ⟨(tt1 (List.mem_of_getElem? (i := 14) (by decide +kernel))), (tt3 (List.mem_of_getElem? (i := 25) (by decide +kernel))), ⟨by decide +kernel, by decide +kernel⟩, by decide +kernel⟩
theorem lk_J7_fill_53178 : mLk mJ7_fill_53178 2 := ⟨(tt1 (List.mem_of_getElem? (i := 14) (by decide +kernel))), (tt3 (List.mem_of_getElem? (i := 18) (by decide +kernel))), ⟨by decide +kernel, by decide +kernel⟩, by decide +kernel⟩
theorem lk_J7_copyOf_59c91 : mLk mJ7_copyOf_59c91 2 := ⟨(tt1 (List.mem_of_getElem? (i := 14) (by decide +kernel))), (tt3 (List.mem_of_getElem? (i := 91) (by decide +kernel))), ⟨by decide +kernel, by decide +kernel⟩, by decide +kernel⟩
theorem kX0_3 : Cond.methodLink RX0 3 objectInit ∈ lw_tbl ∧ Cond.instanceMethod objectInit ∈ lw_tbl ∧ Cond.code objectInit ⟨#[0xb1]⟩ 1 none ∈ lw_tbl := ⟨(tt2 (List.mem_of_getElem? (i := 133) (by decide +kernel))), (tt1 (List.mem_of_getElem? (i := 25) (by decide +kernel))), (tt1 (List.mem_of_getElem? (i := 26) (by decide +kernel)))⟩
theorem kX0_30 : mLS RX0 30 mJ7_fill_53178 2 := ⟨lk_J7_fill_53178, (tt3 (List.mem_of_getElem? (i := 121) (by decide +kernel))), (tt3 (List.mem_of_getElem? (i := 17) (by decide +kernel)))⟩
theorem kX0_36 : mLS RX0 36 mJ7_fill_d0a16 2 := ⟨lk_J7_fill_d0a16, (tt3 (List.mem_of_getElem? (i := 122) (by decide +kernel))), (tt3 (List.mem_of_getElem? (i := 65) (by decide +kernel)))⟩
theorem kX0_54 : mLS RX0 54 mJ9_max_7cf53 2 := ⟨lk_J9_max_7cf53, (tt3 (List.mem_of_getElem? (i := 123) (by decide +kernel))), (tt1 (List.mem_of_getElem? (i := 66) (by decide +kernel)))⟩
theorem kX0_60 : mLV RX0 60 mX1_lastNode 0 := ⟨lk_X1_lastNode, (tt3 (List.mem_of_getElem? (i := 124) (by decide +kernel))), (tt3 (List.mem_of_getElem? (i := 13) (by decide +kernel))), (tt3 (List.mem_of_getElem? (i := 14) (by decide +kernel)))⟩
theorem kX0_67 : mLV RX0 67 mX0_listWords 0 := ⟨lk_X0_listWords, (tt3 (List.mem_of_getElem? (i := 125) (by decide +kernel))), (tt3 (List.mem_of_getElem? (i := 127) (by decide +kernel))), (tp (List.mem_of_getElem? (i := 21) (by decide +kernel)))⟩
theorem kX0_70 : mLV RX0 70 mX0_countSpelled 0 := ⟨lk_X0_countSpelled, (tt3 (List.mem_of_getElem? (i := 131) (by decide +kernel))), (tt3 (List.mem_of_getElem? (i := 133) (by decide +kernel))), (tp (List.mem_of_getElem? (i := 22) (by decide +kernel)))⟩
theorem kX0_73 : mLS RX0 73 mJ13_bitCount_95d88 1 := ⟨lk_J13_bitCount_95d88, (tt3 (List.mem_of_getElem? (i := 129) (by decide +kernel))), (tt3 (List.mem_of_getElem? (i := 68) (by decide +kernel)))⟩
theorem kX0_79 : mLS RX0 79 mJ13_numberOfTrailingZeros_95d88 1 := ⟨lk_J13_numberOfTrailingZeros_95d88, (tt3 (List.mem_of_getElem? (i := 130) (by decide +kernel))), (tt3 (List.mem_of_getElem? (i := 50) (by decide +kernel)))⟩
theorem kX0_82 : mLV RX0 82 mX0_choices 1 := ⟨lk_X0_choices, (tt3 (List.mem_of_getElem? (i := 135) (by decide +kernel))), (tt3 (List.mem_of_getElem? (i := 136) (by decide +kernel))), (tt3 (List.mem_of_getElem? (i := 137) (by decide +kernel)))⟩
theorem kX0_86 : mLS RX0 86 mX0_times 2 := ⟨lk_X0_times, (tt3 (List.mem_of_getElem? (i := 139) (by decide +kernel))), (tt3 (List.mem_of_getElem? (i := 140) (by decide +kernel)))⟩
theorem kX1_3 : Cond.methodLink RX1 3 objectInit ∈ lw_tbl ∧ Cond.instanceMethod objectInit ∈ lw_tbl ∧ Cond.code objectInit ⟨#[0xb1]⟩ 1 none ∈ lw_tbl := ⟨(tt1 (List.mem_of_getElem? (i := 223) (by decide +kernel))), (tt1 (List.mem_of_getElem? (i := 25) (by decide +kernel))), (tt1 (List.mem_of_getElem? (i := 26) (by decide +kernel)))⟩
theorem kX1_62 : mLV RX1 62 mX1_addNode 0 := ⟨lk_X1_addNode, (tt2 (List.mem_of_getElem? (i := 197) (by decide +kernel))), (tt2 (List.mem_of_getElem? (i := 199) (by decide +kernel))), (tp (List.mem_of_getElem? (i := 0) (by decide +kernel)))⟩
theorem kX1_71 : mLV RX1 71 mX4_longestAt 2 := ⟨lk_X4_longestAt, (tt2 (List.mem_of_getElem? (i := 201) (by decide +kernel))), (tt2 (List.mem_of_getElem? (i := 202) (by decide +kernel))), (tt2 (List.mem_of_getElem? (i := 203) (by decide +kernel)))⟩
theorem kX1_80 : mLV RX1 80 mX1_layWord 1 := ⟨lk_X1_layWord, (tt2 (List.mem_of_getElem? (i := 212) (by decide +kernel))), (tt2 (List.mem_of_getElem? (i := 214) (by decide +kernel))), (tp (List.mem_of_getElem? (i := 2) (by decide +kernel)))⟩
theorem kX1_84 : mLV RX1 84 mX1_layLeft 2 := ⟨lk_X1_layLeft, (tt2 (List.mem_of_getElem? (i := 236) (by decide +kernel))), (tt2 (List.mem_of_getElem? (i := 238) (by decide +kernel))), (tp (List.mem_of_getElem? (i := 6) (by decide +kernel)))⟩
theorem kX1_88 : mLS RX1 88 mX4_with 3 := ⟨lk_X4_with, (tt2 (List.mem_of_getElem? (i := 216) (by decide +kernel))), (tt2 (List.mem_of_getElem? (i := 206) (by decide +kernel)))⟩
theorem kX1_92 : mLV RX1 92 mX1_layAlternative 3 := ⟨lk_X1_layAlternative, (tt2 (List.mem_of_getElem? (i := 217) (by decide +kernel))), (tt2 (List.mem_of_getElem? (i := 219) (by decide +kernel))), (tp (List.mem_of_getElem? (i := 3) (by decide +kernel)))⟩
theorem kX1_96 : mLV RX1 96 mX1_endMatch 1 := ⟨lk_X1_endMatch, (tt2 (List.mem_of_getElem? (i := 231) (by decide +kernel))), (tt2 (List.mem_of_getElem? (i := 233) (by decide +kernel))), (tp (List.mem_of_getElem? (i := 5) (by decide +kernel)))⟩
theorem kX1_105 : mLS RX1 105 mX4_lengthOf 1 := ⟨lk_X4_lengthOf, (tt2 (List.mem_of_getElem? (i := 221) (by decide +kernel))), (tt2 (List.mem_of_getElem? (i := 222) (by decide +kernel)))⟩
theorem kX1_109 : mLV RX1 109 mX4_alternativePhrase 2 := ⟨lk_X4_alternativePhrase, (tt3 (List.mem_of_getElem? (i := 0) (by decide +kernel))), (tt3 (List.mem_of_getElem? (i := 1) (by decide +kernel))), (tt3 (List.mem_of_getElem? (i := 2) (by decide +kernel)))⟩
theorem kX1_113 : mLS RX1 113 mJ9_max_7cf53 2 := ⟨lk_J9_max_7cf53, (tt2 (List.mem_of_getElem? (i := 235) (by decide +kernel))), (tt1 (List.mem_of_getElem? (i := 66) (by decide +kernel)))⟩
theorem kX1_118 : mLV RX1 118 mX4_alternativeTenths 2 := ⟨lk_X4_alternativeTenths, (tt3 (List.mem_of_getElem? (i := 4) (by decide +kernel))), (tt3 (List.mem_of_getElem? (i := 5) (by decide +kernel))), (tt3 (List.mem_of_getElem? (i := 6) (by decide +kernel)))⟩
theorem kX1_121 : mLV RX1 121 mX1_addEdge 4 := ⟨lk_X1_addEdge, (tt2 (List.mem_of_getElem? (i := 224) (by decide +kernel))), (tt2 (List.mem_of_getElem? (i := 226) (by decide +kernel))), (tp (List.mem_of_getElem? (i := 4) (by decide +kernel)))⟩
theorem kX1_125 : mLS RX1 125 mX4_wordAt 2 := ⟨lk_X4_wordAt, (tt2 (List.mem_of_getElem? (i := 228) (by decide +kernel))), (tt2 (List.mem_of_getElem? (i := 229) (by decide +kernel)))⟩
theorem kX2_3 : Cond.methodLink RX2 3 objectInit ∈ lw_tbl ∧ Cond.instanceMethod objectInit ∈ lw_tbl ∧ Cond.code objectInit ⟨#[0xb1]⟩ 1 none ∈ lw_tbl := ⟨(tt1 (List.mem_of_getElem? (i := 217) (by decide +kernel))), (tt1 (List.mem_of_getElem? (i := 25) (by decide +kernel))), (tt1 (List.mem_of_getElem? (i := 26) (by decide +kernel)))⟩
theorem kX2_11 : mLN RX2 11 mX1_init 0 := ⟨lk_X1_init, ⟨"SynonymGraphs", (tt1 (List.mem_of_getElem? (i := 220) (by decide +kernel)))⟩, (tt1 (List.mem_of_getElem? (i := 221) (by decide +kernel))), rfl, rfl⟩
theorem kX2_20 : mLN RX2 20 mX5_init 0 := ⟨lk_X5_init, ⟨"SynonymGraphs", (tt2 (List.mem_of_getElem? (i := 70) (by decide +kernel)))⟩, (tt2 (List.mem_of_getElem? (i := 71) (by decide +kernel))), rfl, rfl⟩
theorem kX2_27 : mLN RX2 27 mX0_init 0 := ⟨lk_X0_init, ⟨"SynonymGraphs", (tt2 (List.mem_of_getElem? (i := 130) (by decide +kernel)))⟩, (tt2 (List.mem_of_getElem? (i := 131) (by decide +kernel))), rfl, rfl⟩
theorem kX2_36 : mLV RX2 36 mX1_lay 2 := ⟨lk_X1_lay, (tt2 (List.mem_of_getElem? (i := 193) (by decide +kernel))), (tt2 (List.mem_of_getElem? (i := 194) (by decide +kernel))), (tt2 (List.mem_of_getElem? (i := 195) (by decide +kernel)))⟩
theorem kX2_40 : mLV RX2 40 mX5_gather 1 := ⟨lk_X5_gather, (tt3 (List.mem_of_getElem? (i := 8) (by decide +kernel))), (tt3 (List.mem_of_getElem? (i := 9) (by decide +kernel))), (tt3 (List.mem_of_getElem? (i := 10) (by decide +kernel)))⟩
theorem kX2_44 : mLV RX2 44 mX0_lay 1 := ⟨lk_X0_lay, (tt3 (List.mem_of_getElem? (i := 117) (by decide +kernel))), (tt3 (List.mem_of_getElem? (i := 118) (by decide +kernel))), (tt3 (List.mem_of_getElem? (i := 119) (by decide +kernel)))⟩
theorem kX2_63 : mLV RX2 63 mX2_look 2 := ⟨lk_X2_look, (tt5 (List.mem_of_getElem? (i := 68) (by decide +kernel))), (tt5 (List.mem_of_getElem? (i := 70) (by decide +kernel))), (tp (List.mem_of_getElem? (i := 45) (by decide +kernel)))⟩
theorem kX2_76 : mLV RX2 76 mX5_after 2 := ⟨lk_X5_after, (tt5 (List.mem_of_getElem? (i := 72) (by decide +kernel))), (tt5 (List.mem_of_getElem? (i := 4) (by decide +kernel))), (tt5 (List.mem_of_getElem? (i := 5) (by decide +kernel)))⟩
theorem kX2_80 : mLV RX2 80 mX5_endsAt 1 := ⟨lk_X5_endsAt, (tt5 (List.mem_of_getElem? (i := 73) (by decide +kernel))), (tt3 (List.mem_of_getElem? (i := 114) (by decide +kernel))), (tt3 (List.mem_of_getElem? (i := 115) (by decide +kernel)))⟩
theorem kX3_3 : Cond.methodLink RX3 3 objectInit ∈ lw_tbl ∧ Cond.instanceMethod objectInit ∈ lw_tbl ∧ Cond.code objectInit ⟨#[0xb1]⟩ 1 none ∈ lw_tbl := ⟨(tt1 (List.mem_of_getElem? (i := 101) (by decide +kernel))), (tt1 (List.mem_of_getElem? (i := 25) (by decide +kernel))), (tt1 (List.mem_of_getElem? (i := 26) (by decide +kernel)))⟩
theorem kX3_52 : mLV RX3 52 mX3_takes 3 := ⟨lk_X3_takes, (tt4 (List.mem_of_getElem? (i := 4) (by decide +kernel))), (tt4 (List.mem_of_getElem? (i := 6) (by decide +kernel))), (tp (List.mem_of_getElem? (i := 26) (by decide +kernel)))⟩
theorem kX3_56 : mLV RX3 56 mX7_faultAt 1 := ⟨lk_X7_faultAt, (tt4 (List.mem_of_getElem? (i := 34) (by decide +kernel))), (tt4 (List.mem_of_getElem? (i := 35) (by decide +kernel))), (tt4 (List.mem_of_getElem? (i := 36) (by decide +kernel)))⟩
theorem kX3_60 : mLV RX3 60 mX3_takesTenths 1 := ⟨lk_X3_takesTenths, (tt4 (List.mem_of_getElem? (i := 8) (by decide +kernel))), (tt4 (List.mem_of_getElem? (i := 10) (by decide +kernel))), (tp (List.mem_of_getElem? (i := 27) (by decide +kernel)))⟩
theorem kX3_64 : mLV RX3 64 mX3_takesWord 2 := ⟨lk_X3_takesWord, (tt4 (List.mem_of_getElem? (i := 18) (by decide +kernel))), (tt4 (List.mem_of_getElem? (i := 20) (by decide +kernel))), (tp (List.mem_of_getElem? (i := 28) (by decide +kernel)))⟩
theorem kX3_68 : mLV RX3 68 mX3_takesArrow 0 := ⟨lk_X3_takesArrow, (tt4 (List.mem_of_getElem? (i := 30) (by decide +kernel))), (tt4 (List.mem_of_getElem? (i := 32) (by decide +kernel))), (tp (List.mem_of_getElem? (i := 30) (by decide +kernel)))⟩
theorem kX3_72 : mLS RX3 72 mX10_tenthsOf 1 := ⟨lk_X10_tenthsOf, (tt4 (List.mem_of_getElem? (i := 12) (by decide +kernel))), (tt4 (List.mem_of_getElem? (i := 13) (by decide +kernel)))⟩
theorem kX3_78 : mLV RX3 78 mX3_opensSide 0 := ⟨lk_X3_opensSide, (tt4 (List.mem_of_getElem? (i := 22) (by decide +kernel))), (tt4 (List.mem_of_getElem? (i := 24) (by decide +kernel))), (tp (List.mem_of_getElem? (i := 29) (by decide +kernel)))⟩
theorem kX3_81 : mLV RX3 81 mX9_addCode 1 := ⟨lk_X9_addCode, (tt4 (List.mem_of_getElem? (i := 26) (by decide +kernel))), (tt4 (List.mem_of_getElem? (i := 27) (by decide +kernel))), (tt4 (List.mem_of_getElem? (i := 28) (by decide +kernel)))⟩
theorem kX3_88 : mLS RX3 88 mX4_with 3 := ⟨lk_X4_with, (tt4 (List.mem_of_getElem? (i := 54) (by decide +kernel))), (tt2 (List.mem_of_getElem? (i := 206) (by decide +kernel)))⟩
theorem kX4_3 : Cond.methodLink RX4 3 objectInit ∈ lw_tbl ∧ Cond.instanceMethod objectInit ∈ lw_tbl ∧ Cond.code objectInit ⟨#[0xb1]⟩ 1 none ∈ lw_tbl := ⟨(tt1 (List.mem_of_getElem? (i := 149) (by decide +kernel))), (tt1 (List.mem_of_getElem? (i := 25) (by decide +kernel))), (tt1 (List.mem_of_getElem? (i := 26) (by decide +kernel)))⟩
theorem kX4_28 : mLS RX4 28 mX4_lengthOf 1 := ⟨lk_X4_lengthOf, (tt4 (List.mem_of_getElem? (i := 118) (by decide +kernel))), (tt2 (List.mem_of_getElem? (i := 222) (by decide +kernel)))⟩
theorem kX4_43 : Cond.methodLink RX4 43 arraycopyName ∈ lw_tbl ∧ Cond.native arraycopyName ∈ lw_tbl ∧ Cond.static arraycopyName ∈ lw_tbl ∧ Cond.initialized "java/lang/System" ∈ lw_tbl := ⟨(tt4 (List.mem_of_getElem? (i := 59) (by decide +kernel))), (tt3 (List.mem_of_getElem? (i := 104) (by decide +kernel))), (tt3 (List.mem_of_getElem? (i := 103) (by decide +kernel))), (tt1 (List.mem_of_getElem? (i := 17) (by decide +kernel)))⟩
theorem kX4_57 : mLV RX4 57 mX4_addLefts 5 := ⟨lk_X4_addLefts, (tt4 (List.mem_of_getElem? (i := 64) (by decide +kernel))), (tt4 (List.mem_of_getElem? (i := 66) (by decide +kernel))), (tp (List.mem_of_getElem? (i := 31) (by decide +kernel)))⟩
theorem kX4_64 : mLV RX4 64 mX4_addErasers 1 := ⟨lk_X4_addErasers, (tt4 (List.mem_of_getElem? (i := 77) (by decide +kernel))), (tt4 (List.mem_of_getElem? (i := 79) (by decide +kernel))), (tp (List.mem_of_getElem? (i := 34) (by decide +kernel)))⟩
theorem kX4_69 : mLV RX4 69 mX4_takeLeft 1 := ⟨lk_X4_takeLeft, (tt4 (List.mem_of_getElem? (i := 68) (by decide +kernel))), (tt4 (List.mem_of_getElem? (i := 70) (by decide +kernel))), (tp (List.mem_of_getElem? (i := 32) (by decide +kernel)))⟩
theorem kX4_73 : mLV RX4 73 mX4_addAlternative 3 := ⟨lk_X4_addAlternative, (tt4 (List.mem_of_getElem? (i := 72) (by decide +kernel))), (tt4 (List.mem_of_getElem? (i := 74) (by decide +kernel))), (tp (List.mem_of_getElem? (i := 33) (by decide +kernel)))⟩
theorem kX4_77 : mLV RX4 77 mX4_findLeft 1 := ⟨lk_X4_findLeft, (tt2 (List.mem_of_getElem? (i := 208) (by decide +kernel))), (tt2 (List.mem_of_getElem? (i := 210) (by decide +kernel))), (tp (List.mem_of_getElem? (i := 1) (by decide +kernel)))⟩
theorem kX4_80 : mLS RX4 80 mJ9_max_7cf53 2 := ⟨lk_J9_max_7cf53, (tt4 (List.mem_of_getElem? (i := 76) (by decide +kernel))), (tt1 (List.mem_of_getElem? (i := 66) (by decide +kernel)))⟩
theorem kX4_94 : mLS RX4 94 mX4_with 3 := ⟨lk_X4_with, (tt2 (List.mem_of_getElem? (i := 205) (by decide +kernel))), (tt2 (List.mem_of_getElem? (i := 206) (by decide +kernel)))⟩
theorem kX4_98 : mLV RX4 98 mX4_findLeads 0 := ⟨lk_X4_findLeads, (tt4 (List.mem_of_getElem? (i := 102) (by decide +kernel))), (tt4 (List.mem_of_getElem? (i := 104) (by decide +kernel))), (tp (List.mem_of_getElem? (i := 35) (by decide +kernel)))⟩
theorem kX4_101 : mLV RX4 101 mX4_leadsAtOnce 1 := ⟨lk_X4_leadsAtOnce, (tt4 (List.mem_of_getElem? (i := 106) (by decide +kernel))), (tt4 (List.mem_of_getElem? (i := 108) (by decide +kernel))), (tp (List.mem_of_getElem? (i := 36) (by decide +kernel)))⟩
theorem kX4_105 : mLV RX4 105 mX4_alternativePhrase 2 := ⟨lk_X4_alternativePhrase, (tt4 (List.mem_of_getElem? (i := 110) (by decide +kernel))), (tt3 (List.mem_of_getElem? (i := 1) (by decide +kernel))), (tt3 (List.mem_of_getElem? (i := 2) (by decide +kernel)))⟩
theorem kX4_108 : mLV RX4 108 mX4_leftsIn 1 := ⟨lk_X4_leftsIn, (tt4 (List.mem_of_getElem? (i := 111) (by decide +kernel))), (tt4 (List.mem_of_getElem? (i := 113) (by decide +kernel))), (tp (List.mem_of_getElem? (i := 37) (by decide +kernel)))⟩
theorem kX4_111 : mLS RX4 111 mX4_holds 2 := ⟨lk_X4_holds, (tt4 (List.mem_of_getElem? (i := 115) (by decide +kernel))), (tt4 (List.mem_of_getElem? (i := 116) (by decide +kernel)))⟩
theorem kX5_3 : Cond.methodLink RX5 3 objectInit ∈ lw_tbl ∧ Cond.instanceMethod objectInit ∈ lw_tbl ∧ Cond.code objectInit ⟨#[0xb1]⟩ 1 none ∈ lw_tbl := ⟨(tt2 (List.mem_of_getElem? (i := 73) (by decide +kernel))), (tt1 (List.mem_of_getElem? (i := 25) (by decide +kernel))), (tt1 (List.mem_of_getElem? (i := 26) (by decide +kernel)))⟩
theorem kX5_56 : mLV RX5 56 mX1_lastNode 0 := ⟨lk_X1_lastNode, (tt3 (List.mem_of_getElem? (i := 12) (by decide +kernel))), (tt3 (List.mem_of_getElem? (i := 13) (by decide +kernel))), (tt3 (List.mem_of_getElem? (i := 14) (by decide +kernel)))⟩
theorem kX5_64 : mLS RX5 64 mJ7_fill_53178 2 := ⟨lk_J7_fill_53178, (tt3 (List.mem_of_getElem? (i := 16) (by decide +kernel))), (tt3 (List.mem_of_getElem? (i := 17) (by decide +kernel)))⟩
theorem kX5_70 : mLV RX5 70 mX5_clearMade 0 := ⟨lk_X5_clearMade, (tt3 (List.mem_of_getElem? (i := 19) (by decide +kernel))), (tt3 (List.mem_of_getElem? (i := 21) (by decide +kernel))), (tp (List.mem_of_getElem? (i := 7) (by decide +kernel)))⟩
theorem kX5_73 : mLV RX5 73 mX5_put 1 := ⟨lk_X5_put, (tt3 (List.mem_of_getElem? (i := 29) (by decide +kernel))), (tt3 (List.mem_of_getElem? (i := 31) (by decide +kernel))), (tp (List.mem_of_getElem? (i := 8) (by decide +kernel)))⟩
theorem kX5_77 : mLV RX5 77 mX5_closeMade 1 := ⟨lk_X5_closeMade, (tt3 (List.mem_of_getElem? (i := 33) (by decide +kernel))), (tt3 (List.mem_of_getElem? (i := 35) (by decide +kernel))), (tp (List.mem_of_getElem? (i := 9) (by decide +kernel)))⟩
theorem kX5_81 : mLV RX5 81 mX5_takeMade 0 := ⟨lk_X5_takeMade, (tt3 (List.mem_of_getElem? (i := 41) (by decide +kernel))), (tt3 (List.mem_of_getElem? (i := 43) (by decide +kernel))), (tp (List.mem_of_getElem? (i := 11) (by decide +kernel)))⟩
theorem kX5_84 : mLV RX5 84 mX5_findWordsOut 2 := ⟨lk_X5_findWordsOut, (tt3 (List.mem_of_getElem? (i := 60) (by decide +kernel))), (tt3 (List.mem_of_getElem? (i := 62) (by decide +kernel))), (tp (List.mem_of_getElem? (i := 14) (by decide +kernel)))⟩
theorem kX5_88 : mLV RX5 88 mX5_addArcs 1 := ⟨lk_X5_addArcs, (tt3 (List.mem_of_getElem? (i := 77) (by decide +kernel))), (tt3 (List.mem_of_getElem? (i := 79) (by decide +kernel))), (tp (List.mem_of_getElem? (i := 16) (by decide +kernel)))⟩
theorem kX5_95 : mLV RX5 95 mX5_countWays 1 := ⟨lk_X5_countWays, (tt3 (List.mem_of_getElem? (i := 105) (by decide +kernel))), (tt3 (List.mem_of_getElem? (i := 107) (by decide +kernel))), (tp (List.mem_of_getElem? (i := 19) (by decide +kernel)))⟩
theorem kX5_98 : mLS RX5 98 mJ7_fill_d0a16 2 := ⟨lk_J7_fill_d0a16, (tt3 (List.mem_of_getElem? (i := 64) (by decide +kernel))), (tt3 (List.mem_of_getElem? (i := 65) (by decide +kernel)))⟩
theorem kX5_101 : mLS RX5 101 mJ13_bitCount_95d88 1 := ⟨lk_J13_bitCount_95d88, (tt3 (List.mem_of_getElem? (i := 67) (by decide +kernel))), (tt3 (List.mem_of_getElem? (i := 68) (by decide +kernel)))⟩
theorem kX5_107 : mLS RX5 107 mJ13_numberOfTrailingZeros_95d88 1 := ⟨lk_J13_numberOfTrailingZeros_95d88, (tt3 (List.mem_of_getElem? (i := 49) (by decide +kernel))), (tt3 (List.mem_of_getElem? (i := 50) (by decide +kernel)))⟩
theorem kX5_110 : mLV RX5 110 mX5_addWordsOut 2 := ⟨lk_X5_addWordsOut, (tt3 (List.mem_of_getElem? (i := 73) (by decide +kernel))), (tt3 (List.mem_of_getElem? (i := 75) (by decide +kernel))), (tp (List.mem_of_getElem? (i := 15) (by decide +kernel)))⟩
theorem kX5_122 : mLV RX5 122 mX5_makeTarget 2 := ⟨lk_X5_makeTarget, (tt3 (List.mem_of_getElem? (i := 81) (by decide +kernel))), (tt3 (List.mem_of_getElem? (i := 83) (by decide +kernel))), (tp (List.mem_of_getElem? (i := 17) (by decide +kernel)))⟩
theorem kX5_125 : mLV RX5 125 mX5_addArc 2 := ⟨lk_X5_addArc, (tt3 (List.mem_of_getElem? (i := 85) (by decide +kernel))), (tt3 (List.mem_of_getElem? (i := 87) (by decide +kernel))), (tp (List.mem_of_getElem? (i := 18) (by decide +kernel)))⟩
theorem kX5_132 : mLS RX5 132 mJ7_copyOf_59c91 2 := ⟨lk_J7_copyOf_59c91, (tt3 (List.mem_of_getElem? (i := 89) (by decide +kernel))), (tt3 (List.mem_of_getElem? (i := 90) (by decide +kernel)))⟩
theorem kX5_136 : mLS RX5 136 mJ7_fill_bad5a 4 := ⟨lk_J7_fill_bad5a, (tt3 (List.mem_of_getElem? (i := 23) (by decide +kernel))), (tt3 (List.mem_of_getElem? (i := 24) (by decide +kernel)))⟩
theorem kX5_148 : mLV RX5 148 mX5_has 2 := ⟨lk_X5_has, (tt3 (List.mem_of_getElem? (i := 37) (by decide +kernel))), (tt3 (List.mem_of_getElem? (i := 39) (by decide +kernel))), (tp (List.mem_of_getElem? (i := 10) (by decide +kernel)))⟩
theorem kX5_152 : mLV RX5 152 mX5_leastOfMade 0 := ⟨lk_X5_leastOfMade, (tt3 (List.mem_of_getElem? (i := 45) (by decide +kernel))), (tt3 (List.mem_of_getElem? (i := 47) (by decide +kernel))), (tp (List.mem_of_getElem? (i := 12) (by decide +kernel)))⟩
theorem kX5_155 : mLV RX5 155 mX5_sameAsMade 1 := ⟨lk_X5_sameAsMade, (tt3 (List.mem_of_getElem? (i := 56) (by decide +kernel))), (tt3 (List.mem_of_getElem? (i := 58) (by decide +kernel))), (tp (List.mem_of_getElem? (i := 13) (by decide +kernel)))⟩
theorem kX5_159 : mLV RX5 159 mX5_countWaysOf 1 := ⟨lk_X5_countWaysOf, (tt3 (List.mem_of_getElem? (i := 109) (by decide +kernel))), (tt3 (List.mem_of_getElem? (i := 111) (by decide +kernel))), (tp (List.mem_of_getElem? (i := 20) (by decide +kernel)))⟩
theorem kX5_162 : mLV RX5 162 mX5_endsAt 1 := ⟨lk_X5_endsAt, (tt3 (List.mem_of_getElem? (i := 113) (by decide +kernel))), (tt3 (List.mem_of_getElem? (i := 114) (by decide +kernel))), (tt3 (List.mem_of_getElem? (i := 115) (by decide +kernel)))⟩
theorem kX5_165 : mLV RX5 165 mX5_after 2 := ⟨lk_X5_after, (tt5 (List.mem_of_getElem? (i := 3) (by decide +kernel))), (tt5 (List.mem_of_getElem? (i := 4) (by decide +kernel))), (tt5 (List.mem_of_getElem? (i := 5) (by decide +kernel)))⟩
theorem kX5_171 : mLV RX5 171 mX5_waysBelow 2 := ⟨lk_X5_waysBelow, (tt5 (List.mem_of_getElem? (i := 8) (by decide +kernel))), (tt5 (List.mem_of_getElem? (i := 10) (by decide +kernel))), (tp (List.mem_of_getElem? (i := 43) (by decide +kernel)))⟩
theorem kX6_3 : Cond.methodLink RX6 3 objectInit ∈ lw_tbl ∧ Cond.instanceMethod objectInit ∈ lw_tbl ∧ Cond.code objectInit ⟨#[0xb1]⟩ 1 none ∈ lw_tbl := ⟨(tt1 (List.mem_of_getElem? (i := 186) (by decide +kernel))), (tt1 (List.mem_of_getElem? (i := 25) (by decide +kernel))), (tt1 (List.mem_of_getElem? (i := 26) (by decide +kernel)))⟩
theorem kX6_25 : mLV RX6 25 mX5_endsAt 1 := ⟨lk_X5_endsAt, (tt4 (List.mem_of_getElem? (i := 179) (by decide +kernel))), (tt3 (List.mem_of_getElem? (i := 114) (by decide +kernel))), (tt3 (List.mem_of_getElem? (i := 115) (by decide +kernel)))⟩
theorem kX6_50 : mLV RX6 50 mX2_both 2 := ⟨lk_X2_both, (tt4 (List.mem_of_getElem? (i := 180) (by decide +kernel))), (tt4 (List.mem_of_getElem? (i := 181) (by decide +kernel))), (tt4 (List.mem_of_getElem? (i := 182) (by decide +kernel)))⟩
theorem kX6_57 : mLV RX6 57 mX6_add 1 := ⟨lk_X6_add, (tt4 (List.mem_of_getElem? (i := 184) (by decide +kernel))), (tt4 (List.mem_of_getElem? (i := 186) (by decide +kernel))), (tp (List.mem_of_getElem? (i := 39) (by decide +kernel)))⟩
theorem kX6_67 : mLV RX6 67 mX5_after 2 := ⟨lk_X5_after, (tt5 (List.mem_of_getElem? (i := 55) (by decide +kernel))), (tt5 (List.mem_of_getElem? (i := 4) (by decide +kernel))), (tt5 (List.mem_of_getElem? (i := 5) (by decide +kernel)))⟩
theorem kX6_74 : mLV RX6 74 mX8_begin 2 := ⟨lk_X8_begin, (tt5 (List.mem_of_getElem? (i := 20) (by decide +kernel))), (tt4 (List.mem_of_getElem? (i := 198) (by decide +kernel))), (tt4 (List.mem_of_getElem? (i := 199) (by decide +kernel)))⟩
theorem kX6_80 : mLV RX6 80 mX8_atEnd 1 := ⟨lk_X8_atEnd, (tt5 (List.mem_of_getElem? (i := 21) (by decide +kernel))), (tt4 (List.mem_of_getElem? (i := 227) (by decide +kernel))), (tt4 (List.mem_of_getElem? (i := 228) (by decide +kernel)))⟩
theorem kX6_84 : mLV RX6 84 mX8_leastWord 1 := ⟨lk_X8_leastWord, (tt5 (List.mem_of_getElem? (i := 22) (by decide +kernel))), (tt5 (List.mem_of_getElem? (i := 23) (by decide +kernel))), (tt5 (List.mem_of_getElem? (i := 24) (by decide +kernel)))⟩
theorem kX6_88 : mLV RX6 88 mX8_go 2 := ⟨lk_X8_go, (tt5 (List.mem_of_getElem? (i := 31) (by decide +kernel))), (tt4 (List.mem_of_getElem? (i := 219) (by decide +kernel))), (tt4 (List.mem_of_getElem? (i := 220) (by decide +kernel)))⟩
theorem kX7_3 : Cond.methodLink RX7 3 objectInit ∈ lw_tbl ∧ Cond.instanceMethod objectInit ∈ lw_tbl ∧ Cond.code objectInit ⟨#[0xb1]⟩ 1 none ∈ lw_tbl := ⟨(tt1 (List.mem_of_getElem? (i := 32) (by decide +kernel))), (tt1 (List.mem_of_getElem? (i := 25) (by decide +kernel))), (tt1 (List.mem_of_getElem? (i := 26) (by decide +kernel)))⟩
theorem kX7_33 : mLS RX7 33 mX10_digitOf 1 := ⟨lk_X10_digitOf, (tt3 (List.mem_of_getElem? (i := 224) (by decide +kernel))), (tt3 (List.mem_of_getElem? (i := 225) (by decide +kernel)))⟩
theorem kX7_39 : mLV RX7 39 mX7_addMark 1 := ⟨lk_X7_addMark, (tt3 (List.mem_of_getElem? (i := 227) (by decide +kernel))), (tt3 (List.mem_of_getElem? (i := 229) (by decide +kernel))), (tp (List.mem_of_getElem? (i := 23) (by decide +kernel)))⟩
theorem kX7_43 : mLV RX7 43 mX7_addDigit 3 := ⟨lk_X7_addDigit, (tt3 (List.mem_of_getElem? (i := 235) (by decide +kernel))), (tt3 (List.mem_of_getElem? (i := 237) (by decide +kernel))), (tp (List.mem_of_getElem? (i := 25) (by decide +kernel)))⟩
theorem kX7_47 : mLV RX7 47 mX7_addToken 3 := ⟨lk_X7_addToken, (tt3 (List.mem_of_getElem? (i := 231) (by decide +kernel))), (tt3 (List.mem_of_getElem? (i := 233) (by decide +kernel))), (tp (List.mem_of_getElem? (i := 24) (by decide +kernel)))⟩
theorem kX7_58 : mLV RX7 58 mX7_faultAt 1 := ⟨lk_X7_faultAt, (tt4 (List.mem_of_getElem? (i := 138) (by decide +kernel))), (tt4 (List.mem_of_getElem? (i := 35) (by decide +kernel))), (tt4 (List.mem_of_getElem? (i := 36) (by decide +kernel)))⟩
theorem kX7_61 : mLV RX7 61 mX9_addCode 1 := ⟨lk_X9_addCode, (tt4 (List.mem_of_getElem? (i := 139) (by decide +kernel))), (tt4 (List.mem_of_getElem? (i := 27) (by decide +kernel))), (tt4 (List.mem_of_getElem? (i := 28) (by decide +kernel)))⟩
theorem kX8_3 : Cond.methodLink RX8 3 objectInit ∈ lw_tbl ∧ Cond.instanceMethod objectInit ∈ lw_tbl ∧ Cond.code objectInit ⟨#[0xb1]⟩ 1 none ∈ lw_tbl := ⟨(tt1 (List.mem_of_getElem? (i := 201) (by decide +kernel))), (tt1 (List.mem_of_getElem? (i := 25) (by decide +kernel))), (tt1 (List.mem_of_getElem? (i := 26) (by decide +kernel)))⟩
theorem kX8_28 : mLS RX8 28 mJ7_fill_bad5a 4 := ⟨lk_J7_fill_bad5a, (tt4 (List.mem_of_getElem? (i := 201) (by decide +kernel))), (tt3 (List.mem_of_getElem? (i := 24) (by decide +kernel)))⟩
theorem kX8_36 : mLV RX8 36 mX8_skip 2 := ⟨lk_X8_skip, (tt4 (List.mem_of_getElem? (i := 203) (by decide +kernel))), (tt4 (List.mem_of_getElem? (i := 205) (by decide +kernel))), (tp (List.mem_of_getElem? (i := 40) (by decide +kernel)))⟩
theorem kX8_40 : mLV RX8 40 mX8_goFrom 3 := ⟨lk_X8_goFrom, (tt4 (List.mem_of_getElem? (i := 222) (by decide +kernel))), (tt4 (List.mem_of_getElem? (i := 224) (by decide +kernel))), (tp (List.mem_of_getElem? (i := 42) (by decide +kernel)))⟩
theorem kX8_51 : mLV RX8 51 mX8_along 4 := ⟨lk_X8_along, (tt4 (List.mem_of_getElem? (i := 207) (by decide +kernel))), (tt4 (List.mem_of_getElem? (i := 209) (by decide +kernel))), (tp (List.mem_of_getElem? (i := 41) (by decide +kernel)))⟩
theorem kX8_74 : mLS RX8 74 mX8_tenthsOf 2 := ⟨lk_X8_tenthsOf, (tt4 (List.mem_of_getElem? (i := 211) (by decide +kernel))), (tt4 (List.mem_of_getElem? (i := 212) (by decide +kernel)))⟩
theorem kX8_81 : mLS RX8 81 mJ9_max_f86c9 2 := ⟨lk_J9_max_f86c9, (tt4 (List.mem_of_getElem? (i := 215) (by decide +kernel))), (tt4 (List.mem_of_getElem? (i := 216) (by decide +kernel)))⟩
theorem kX8_89 : mLV RX8 89 mX1_lastNode 0 := ⟨lk_X1_lastNode, (tt4 (List.mem_of_getElem? (i := 230) (by decide +kernel))), (tt3 (List.mem_of_getElem? (i := 13) (by decide +kernel))), (tt3 (List.mem_of_getElem? (i := 14) (by decide +kernel)))⟩
theorem kX8_93 : mLV RX8 93 mX8_leastWordFrom 2 := ⟨lk_X8_leastWordFrom, (tt5 (List.mem_of_getElem? (i := 26) (by decide +kernel))), (tt5 (List.mem_of_getElem? (i := 28) (by decide +kernel))), (tp (List.mem_of_getElem? (i := 44) (by decide +kernel)))⟩
theorem kX8_97 : mLS RX8 97 mJ9_min_7cf53 2 := ⟨lk_J9_min_7cf53, (tt5 (List.mem_of_getElem? (i := 30) (by decide +kernel))), (tt3 (List.mem_of_getElem? (i := 100) (by decide +kernel)))⟩
theorem kX9_1 : Cond.methodLink RX9 1 objectInit ∈ lw_tbl ∧ Cond.instanceMethod objectInit ∈ lw_tbl ∧ Cond.code objectInit ⟨#[0xb1]⟩ 1 none ∈ lw_tbl := ⟨(tt1 (List.mem_of_getElem? (i := 64) (by decide +kernel))), (tt1 (List.mem_of_getElem? (i := 25) (by decide +kernel))), (tt1 (List.mem_of_getElem? (i := 26) (by decide +kernel)))⟩
theorem kX9_7 : mLS RX9 7 mJ9_max_7cf53 2 := ⟨lk_J9_max_7cf53, (tt1 (List.mem_of_getElem? (i := 65) (by decide +kernel))), (tt1 (List.mem_of_getElem? (i := 66) (by decide +kernel)))⟩
theorem kX9_30 : mLS RX9 30 mJ9_min_7cf53 2 := ⟨lk_J9_min_7cf53, (tt4 (List.mem_of_getElem? (i := 144) (by decide +kernel))), (tt3 (List.mem_of_getElem? (i := 100) (by decide +kernel)))⟩
theorem kX9_33 : Cond.methodLink RX9 33 arraycopyName ∈ lw_tbl ∧ Cond.native arraycopyName ∈ lw_tbl ∧ Cond.static arraycopyName ∈ lw_tbl ∧ Cond.initialized "java/lang/System" ∈ lw_tbl := ⟨(tt4 (List.mem_of_getElem? (i := 145) (by decide +kernel))), (tt3 (List.mem_of_getElem? (i := 104) (by decide +kernel))), (tt3 (List.mem_of_getElem? (i := 103) (by decide +kernel))), (tt1 (List.mem_of_getElem? (i := 17) (by decide +kernel)))⟩
theorem kX10_5 : Cond.methodLink RX10 5 objectInit ∈ lw_tbl ∧ Cond.instanceMethod objectInit ∈ lw_tbl ∧ Cond.code objectInit ⟨#[0xb1]⟩ 1 none ∈ lw_tbl := ⟨(tt1 (List.mem_of_getElem? (i := 134) (by decide +kernel))), (tt1 (List.mem_of_getElem? (i := 25) (by decide +kernel))), (tt1 (List.mem_of_getElem? (i := 26) (by decide +kernel)))⟩
theorem kX10_27 : mLV RX10 27 mX10_find 1 := ⟨lk_X10_find, (tt4 (List.mem_of_getElem? (i := 42) (by decide +kernel))), (tt4 (List.mem_of_getElem? (i := 43) (by decide +kernel))), (tt4 (List.mem_of_getElem? (i := 44) (by decide +kernel)))⟩
theorem kX11_3 : Cond.methodLink RX11 3 objectInit ∈ lw_tbl ∧ Cond.instanceMethod objectInit ∈ lw_tbl ∧ Cond.code objectInit ⟨#[0xb1]⟩ 1 none ∈ lw_tbl := ⟨(tt1 (List.mem_of_getElem? (i := 24) (by decide +kernel))), (tt1 (List.mem_of_getElem? (i := 25) (by decide +kernel))), (tt1 (List.mem_of_getElem? (i := 26) (by decide +kernel)))⟩
theorem kX11_11 : mLN RX11 11 mX7_init 0 := ⟨lk_X7_init, ⟨"SynonymGraphs", (tt1 (List.mem_of_getElem? (i := 29) (by decide +kernel)))⟩, (tt1 (List.mem_of_getElem? (i := 30) (by decide +kernel))), rfl, rfl⟩
theorem kX11_18 : mLI RX11 18 mX9_init 1 := ⟨lk_X9_init, (tt1 (List.mem_of_getElem? (i := 61) (by decide +kernel))), (tt1 (List.mem_of_getElem? (i := 62) (by decide +kernel))), rfl, rfl⟩
theorem kX11_27 : mLN RX11 27 mX3_init 0 := ⟨lk_X3_init, ⟨"SynonymGraphs", (tt1 (List.mem_of_getElem? (i := 98) (by decide +kernel)))⟩, (tt1 (List.mem_of_getElem? (i := 99) (by decide +kernel))), rfl, rfl⟩
theorem kX11_34 : mLN RX11 34 mX10_init 0 := ⟨lk_X10_init, ⟨"SynonymGraphs", (tt1 (List.mem_of_getElem? (i := 131) (by decide +kernel)))⟩, (tt1 (List.mem_of_getElem? (i := 132) (by decide +kernel))), rfl, rfl⟩
theorem kX11_47 : mLN RX11 47 mX4_init 0 := ⟨lk_X4_init, ⟨"SynonymGraphs", (tt1 (List.mem_of_getElem? (i := 146) (by decide +kernel)))⟩, (tt1 (List.mem_of_getElem? (i := 147) (by decide +kernel))), rfl, rfl⟩
theorem kX11_60 : mLN RX11 60 mX6_init 0 := ⟨lk_X6_init, ⟨"SynonymGraphs", (tt1 (List.mem_of_getElem? (i := 183) (by decide +kernel)))⟩, (tt1 (List.mem_of_getElem? (i := 184) (by decide +kernel))), rfl, rfl⟩
theorem kX11_67 : mLN RX11 67 mX8_init 0 := ⟨lk_X8_init, ⟨"SynonymGraphs", (tt1 (List.mem_of_getElem? (i := 198) (by decide +kernel)))⟩, (tt1 (List.mem_of_getElem? (i := 199) (by decide +kernel))), rfl, rfl⟩
theorem kX11_74 : mLN RX11 74 mX2_init 0 := ⟨lk_X2_init, ⟨"SynonymGraphs", (tt1 (List.mem_of_getElem? (i := 214) (by decide +kernel)))⟩, (tt1 (List.mem_of_getElem? (i := 215) (by decide +kernel))), rfl, rfl⟩
theorem kX11_86 : mLV RX11 86 mX2_draw 3 := ⟨lk_X2_draw, (tt2 (List.mem_of_getElem? (i := 189) (by decide +kernel))), (tt2 (List.mem_of_getElem? (i := 190) (by decide +kernel))), (tt2 (List.mem_of_getElem? (i := 191) (by decide +kernel)))⟩
theorem kX11_90 : mLS RX11 90 mX7_plain 1 := ⟨lk_X7_plain, (tt3 (List.mem_of_getElem? (i := 190) (by decide +kernel))), (tt3 (List.mem_of_getElem? (i := 191) (by decide +kernel)))⟩
theorem kX11_97 : mLV RX11 97 mX7_addFour 1 := ⟨lk_X7_addFour, (tt3 (List.mem_of_getElem? (i := 193) (by decide +kernel))), (tt3 (List.mem_of_getElem? (i := 194) (by decide +kernel))), (tt3 (List.mem_of_getElem? (i := 195) (by decide +kernel)))⟩
theorem kX11_115 : mLS RX11 115 mX10_lengthOf 1 := ⟨lk_X10_lengthOf, (tt3 (List.mem_of_getElem? (i := 209) (by decide +kernel))), (tt3 (List.mem_of_getElem? (i := 210) (by decide +kernel)))⟩
theorem kX11_119 : mLS RX11 119 mX10_byteAt 2 := ⟨lk_X10_byteAt, (tt3 (List.mem_of_getElem? (i := 213) (by decide +kernel))), (tt3 (List.mem_of_getElem? (i := 214) (by decide +kernel)))⟩
theorem kX11_123 : mLV RX11 123 mX7_split 0 := ⟨lk_X7_split, (tt3 (List.mem_of_getElem? (i := 220) (by decide +kernel))), (tt3 (List.mem_of_getElem? (i := 221) (by decide +kernel))), (tt3 (List.mem_of_getElem? (i := 222) (by decide +kernel)))⟩
theorem kX11_126 : mLV RX11 126 mX3_readRule 2 := ⟨lk_X3_readRule, (tt4 (List.mem_of_getElem? (i := 0) (by decide +kernel))), (tt4 (List.mem_of_getElem? (i := 1) (by decide +kernel))), (tt4 (List.mem_of_getElem? (i := 2) (by decide +kernel)))⟩
theorem kX11_130 : mLV RX11 130 mX10_numberAll 1 := ⟨lk_X10_numberAll, (tt4 (List.mem_of_getElem? (i := 38) (by decide +kernel))), (tt4 (List.mem_of_getElem? (i := 39) (by decide +kernel))), (tt4 (List.mem_of_getElem? (i := 40) (by decide +kernel)))⟩
theorem kX11_134 : mLV RX11 134 mX10_forgetFrom 1 := ⟨lk_X10_forgetFrom, (tt4 (List.mem_of_getElem? (i := 46) (by decide +kernel))), (tt4 (List.mem_of_getElem? (i := 47) (by decide +kernel))), (tt4 (List.mem_of_getElem? (i := 48) (by decide +kernel)))⟩
theorem kX11_137 : mLV RX11 137 mX3_packSides 1 := ⟨lk_X3_packSides, (tt4 (List.mem_of_getElem? (i := 50) (by decide +kernel))), (tt4 (List.mem_of_getElem? (i := 51) (by decide +kernel))), (tt4 (List.mem_of_getElem? (i := 52) (by decide +kernel)))⟩
theorem kX11_141 : mLV RX11 141 mX4_copyOf 1 := ⟨lk_X4_copyOf, (tt4 (List.mem_of_getElem? (i := 55) (by decide +kernel))), (tt4 (List.mem_of_getElem? (i := 56) (by decide +kernel))), (tt4 (List.mem_of_getElem? (i := 57) (by decide +kernel)))⟩
theorem kX11_145 : mLV RX11 145 mX4_addRule 2 := ⟨lk_X4_addRule, (tt4 (List.mem_of_getElem? (i := 60) (by decide +kernel))), (tt4 (List.mem_of_getElem? (i := 61) (by decide +kernel))), (tt4 (List.mem_of_getElem? (i := 62) (by decide +kernel)))⟩
theorem kX11_149 : mLV RX11 149 mX4_empty 0 := ⟨lk_X4_empty, (tt4 (List.mem_of_getElem? (i := 85) (by decide +kernel))), (tt4 (List.mem_of_getElem? (i := 86) (by decide +kernel))), (tt4 (List.mem_of_getElem? (i := 87) (by decide +kernel)))⟩
theorem kX11_156 : mLS RX11 156 mX4_lengthOf 1 := ⟨lk_X4_lengthOf, (tt4 (List.mem_of_getElem? (i := 97) (by decide +kernel))), (tt2 (List.mem_of_getElem? (i := 222) (by decide +kernel)))⟩
theorem kX11_162 : mLV RX11 162 mX4_goesRound 1 := ⟨lk_X4_goesRound, (tt4 (List.mem_of_getElem? (i := 98) (by decide +kernel))), (tt4 (List.mem_of_getElem? (i := 99) (by decide +kernel))), (tt4 (List.mem_of_getElem? (i := 100) (by decide +kernel)))⟩
theorem kX11_165 : mLS RX11 165 mX4_wordAt 2 := ⟨lk_X4_wordAt, (tt4 (List.mem_of_getElem? (i := 119) (by decide +kernel))), (tt2 (List.mem_of_getElem? (i := 229) (by decide +kernel)))⟩
theorem kX11_169 : mLV RX11 169 mX4_alternativePhrase 2 := ⟨lk_X4_alternativePhrase, (tt4 (List.mem_of_getElem? (i := 124) (by decide +kernel))), (tt3 (List.mem_of_getElem? (i := 1) (by decide +kernel))), (tt3 (List.mem_of_getElem? (i := 2) (by decide +kernel)))⟩
theorem kX11_172 : mLV RX11 172 mX4_alternativeTenths 2 := ⟨lk_X4_alternativeTenths, (tt4 (List.mem_of_getElem? (i := 125) (by decide +kernel))), (tt3 (List.mem_of_getElem? (i := 5) (by decide +kernel))), (tt3 (List.mem_of_getElem? (i := 6) (by decide +kernel)))⟩
theorem kX11_175 : mLV RX11 175 mX11_takeRow 1 := ⟨lk_X11_takeRow, (tt4 (List.mem_of_getElem? (i := 130) (by decide +kernel))), (tt4 (List.mem_of_getElem? (i := 132) (by decide +kernel))), (tp (List.mem_of_getElem? (i := 38) (by decide +kernel)))⟩
theorem kX11_179 : mLV RX11 179 mX4_longestAt 2 := ⟨lk_X4_longestAt, (tt4 (List.mem_of_getElem? (i := 150) (by decide +kernel))), (tt2 (List.mem_of_getElem? (i := 202) (by decide +kernel))), (tt2 (List.mem_of_getElem? (i := 203) (by decide +kernel)))⟩
theorem kX11_244 : mLV RX11 244 mX6_spellPhrase 3 := ⟨lk_X6_spellPhrase, (tt4 (List.mem_of_getElem? (i := 175) (by decide +kernel))), (tt4 (List.mem_of_getElem? (i := 176) (by decide +kernel))), (tt4 (List.mem_of_getElem? (i := 177) (by decide +kernel)))⟩
theorem kX11_248 : mLV RX11 248 mX6_tell 1 := ⟨lk_X6_tell, (tt4 (List.mem_of_getElem? (i := 188) (by decide +kernel))), (tt4 (List.mem_of_getElem? (i := 189) (by decide +kernel))), (tt4 (List.mem_of_getElem? (i := 190) (by decide +kernel)))⟩
theorem kX11_253 : mLV RX11 253 mX8_begin 2 := ⟨lk_X8_begin, (tt4 (List.mem_of_getElem? (i := 197) (by decide +kernel))), (tt4 (List.mem_of_getElem? (i := 198) (by decide +kernel))), (tt4 (List.mem_of_getElem? (i := 199) (by decide +kernel)))⟩
theorem kX11_261 : mLV RX11 261 mX8_go 2 := ⟨lk_X8_go, (tt4 (List.mem_of_getElem? (i := 218) (by decide +kernel))), (tt4 (List.mem_of_getElem? (i := 219) (by decide +kernel))), (tt4 (List.mem_of_getElem? (i := 220) (by decide +kernel)))⟩
theorem kX11_265 : mLV RX11 265 mX8_atEnd 1 := ⟨lk_X8_atEnd, (tt4 (List.mem_of_getElem? (i := 226) (by decide +kernel))), (tt4 (List.mem_of_getElem? (i := 227) (by decide +kernel))), (tt4 (List.mem_of_getElem? (i := 228) (by decide +kernel)))⟩
theorem kX11_272 : mLV RX11 272 mX7_readRow 2 := ⟨lk_X7_readRow, (tt4 (List.mem_of_getElem? (i := 134) (by decide +kernel))), (tt4 (List.mem_of_getElem? (i := 135) (by decide +kernel))), (tt4 (List.mem_of_getElem? (i := 136) (by decide +kernel)))⟩
theorem kX11_276 : mLV RX11 276 mX10_findAll 1 := ⟨lk_X10_findAll, (tt4 (List.mem_of_getElem? (i := 235) (by decide +kernel))), (tt4 (List.mem_of_getElem? (i := 236) (by decide +kernel))), (tt4 (List.mem_of_getElem? (i := 237) (by decide +kernel)))⟩
theorem kX11_282 : mLV RX11 282 mX5_numberOf 2 := ⟨lk_X5_numberOf, (tt4 (List.mem_of_getElem? (i := 239) (by decide +kernel))), (tt5 (List.mem_of_getElem? (i := 0) (by decide +kernel))), (tt5 (List.mem_of_getElem? (i := 1) (by decide +kernel)))⟩
theorem kX11_286 : mLV RX11 286 mX6_spellHeaviest 2 := ⟨lk_X6_spellHeaviest, (tt5 (List.mem_of_getElem? (i := 16) (by decide +kernel))), (tt5 (List.mem_of_getElem? (i := 17) (by decide +kernel))), (tt5 (List.mem_of_getElem? (i := 18) (by decide +kernel)))⟩
theorem kX11_290 : mLV RX11 290 mX0_choices 1 := ⟨lk_X0_choices, (tt5 (List.mem_of_getElem? (i := 36) (by decide +kernel))), (tt3 (List.mem_of_getElem? (i := 136) (by decide +kernel))), (tt3 (List.mem_of_getElem? (i := 137) (by decide +kernel)))⟩
theorem kX11_303 : mLS RX11 303 mJ9_min_f86c9 2 := ⟨lk_J9_min_f86c9, (tt5 (List.mem_of_getElem? (i := 42) (by decide +kernel))), (tt5 (List.mem_of_getElem? (i := 43) (by decide +kernel)))⟩
theorem kX11_309 : mLV RX11 309 mX2_both 2 := ⟨lk_X2_both, (tt5 (List.mem_of_getElem? (i := 45) (by decide +kernel))), (tt4 (List.mem_of_getElem? (i := 181) (by decide +kernel))), (tt4 (List.mem_of_getElem? (i := 182) (by decide +kernel)))⟩
theorem kX11_313 : mLV RX11 313 mX11_rows 1 := ⟨lk_X11_rows, (tt5 (List.mem_of_getElem? (i := 50) (by decide +kernel))), (tt5 (List.mem_of_getElem? (i := 38) (by decide +kernel))), (tt5 (List.mem_of_getElem? (i := 39) (by decide +kernel)))⟩
theorem kX11_317 : mLV RX11 317 mX6_spellFlat 3 := ⟨lk_X6_spellFlat, (tt5 (List.mem_of_getElem? (i := 51) (by decide +kernel))), (tt5 (List.mem_of_getElem? (i := 52) (by decide +kernel))), (tt5 (List.mem_of_getElem? (i := 53) (by decide +kernel)))⟩
theorem kX11_320 : mLV RX11 320 mX2_countPlaces 1 := ⟨lk_X2_countPlaces, (tt5 (List.mem_of_getElem? (i := 64) (by decide +kernel))), (tt5 (List.mem_of_getElem? (i := 65) (by decide +kernel))), (tt5 (List.mem_of_getElem? (i := 66) (by decide +kernel)))⟩
theorem kX11_323 : mLV RX11 323 mX2_findPlace 2 := ⟨lk_X2_findPlace, (tt5 (List.mem_of_getElem? (i := 78) (by decide +kernel))), (tt5 (List.mem_of_getElem? (i := 79) (by decide +kernel))), (tt5 (List.mem_of_getElem? (i := 80) (by decide +kernel)))⟩
theorem kX11_332 : mLS RX11 332 mJ9_max_f86c9 2 := ⟨lk_J9_max_f86c9, (tt5 (List.mem_of_getElem? (i := 86) (by decide +kernel))), (tt4 (List.mem_of_getElem? (i := 216) (by decide +kernel)))⟩
theorem kX11_335 : mLV RX11 335 mX9_takeNumbers 1 := ⟨lk_X9_takeNumbers, (tt4 (List.mem_of_getElem? (i := 140) (by decide +kernel))), (tt4 (List.mem_of_getElem? (i := 141) (by decide +kernel))), (tt4 (List.mem_of_getElem? (i := 142) (by decide +kernel)))⟩
theorem kX12_20 : mLS RX12 20 mX12_isOfWord 1 := ⟨lk_X12_isOfWord, (tt5 (List.mem_of_getElem? (i := 112) (by decide +kernel))), (tt5 (List.mem_of_getElem? (i := 113) (by decide +kernel)))⟩
theorem kX12_36 : mLV RX12 36 mX12_numberOf 2 := ⟨lk_X12_numberOf, (tt5 (List.mem_of_getElem? (i := 131) (by decide +kernel))), (tt5 (List.mem_of_getElem? (i := 133) (by decide +kernel))), (tp (List.mem_of_getElem? (i := 52) (by decide +kernel)))⟩
theorem kX12_43 : mLV RX12 43 mX12_next 0 := ⟨lk_X12_next, (tt5 (List.mem_of_getElem? (i := 108) (by decide +kernel))), (tt5 (List.mem_of_getElem? (i := 110) (by decide +kernel))), (tp (List.mem_of_getElem? (i := 47) (by decide +kernel)))⟩
theorem kX12_56 : mLV RX12 56 mX12_numbered 2 := ⟨lk_X12_numbered, (tt5 (List.mem_of_getElem? (i := 127) (by decide +kernel))), (tt5 (List.mem_of_getElem? (i := 129) (by decide +kernel))), (tp (List.mem_of_getElem? (i := 51) (by decide +kernel)))⟩
theorem kX12_74 : mLV RX12 74 mX12_tenths 0 := ⟨lk_X12_tenths, (tt5 (List.mem_of_getElem? (i := 123) (by decide +kernel))), (tt5 (List.mem_of_getElem? (i := 125) (by decide +kernel))), (tp (List.mem_of_getElem? (i := 50) (by decide +kernel)))⟩
theorem kX12_78 : mLV RX12 78 mX12_readSide 0 := ⟨lk_X12_readSide, (tt5 (List.mem_of_getElem? (i := 119) (by decide +kernel))), (tt5 (List.mem_of_getElem? (i := 121) (by decide +kernel))), (tp (List.mem_of_getElem? (i := 49) (by decide +kernel)))⟩
theorem kX12_86 : mLV RX12 86 mX12_readSides 0 := ⟨lk_X12_readSides, (tt5 (List.mem_of_getElem? (i := 115) (by decide +kernel))), (tt5 (List.mem_of_getElem? (i := 117) (by decide +kernel))), (tp (List.mem_of_getElem? (i := 48) (by decide +kernel)))⟩
theorem kX12_116 : mLV RX12 116 mX12_leftOf 1 := ⟨lk_X12_leftOf, (tt5 (List.mem_of_getElem? (i := 143) (by decide +kernel))), (tt5 (List.mem_of_getElem? (i := 145) (by decide +kernel))), (tp (List.mem_of_getElem? (i := 55) (by decide +kernel)))⟩
theorem kX12_120 : mLV RX12 120 mX12_tells 2 := ⟨lk_X12_tells, (tt5 (List.mem_of_getElem? (i := 147) (by decide +kernel))), (tt5 (List.mem_of_getElem? (i := 149) (by decide +kernel))), (tp (List.mem_of_getElem? (i := 56) (by decide +kernel)))⟩
theorem kX12_124 : mLV RX12 124 mX12_readRule 0 := ⟨lk_X12_readRule, (tt5 (List.mem_of_getElem? (i := 103) (by decide +kernel))), (tt5 (List.mem_of_getElem? (i := 105) (by decide +kernel))), (tp (List.mem_of_getElem? (i := 46) (by decide +kernel)))⟩
theorem kX12_130 : mLV RX12 130 mX12_copyState 2 := ⟨lk_X12_copyState, (tt5 (List.mem_of_getElem? (i := 135) (by decide +kernel))), (tt5 (List.mem_of_getElem? (i := 137) (by decide +kernel))), (tp (List.mem_of_getElem? (i := 53) (by decide +kernel)))⟩
theorem kX12_134 : mLV RX12 134 mX12_lay 4 := ⟨lk_X12_lay, (tt5 (List.mem_of_getElem? (i := 139) (by decide +kernel))), (tt5 (List.mem_of_getElem? (i := 141) (by decide +kernel))), (tp (List.mem_of_getElem? (i := 54) (by decide +kernel)))⟩
theorem kX12_138 : mLV RX12 138 mX12_goRound 0 := ⟨lk_X12_goRound, (tt5 (List.mem_of_getElem? (i := 159) (by decide +kernel))), (tt5 (List.mem_of_getElem? (i := 161) (by decide +kernel))), (tp (List.mem_of_getElem? (i := 57) (by decide +kernel)))⟩
theorem kX12_144 : mLV RX12 144 mX12_isItself 2 := ⟨lk_X12_isItself, (tt5 (List.mem_of_getElem? (i := 163) (by decide +kernel))), (tt5 (List.mem_of_getElem? (i := 165) (by decide +kernel))), (tp (List.mem_of_getElem? (i := 58) (by decide +kernel)))⟩
theorem kX12_147 : mLV RX12 147 mX12_holds 2 := ⟨lk_X12_holds, (tt5 (List.mem_of_getElem? (i := 167) (by decide +kernel))), (tt5 (List.mem_of_getElem? (i := 169) (by decide +kernel))), (tp (List.mem_of_getElem? (i := 59) (by decide +kernel)))⟩
theorem kX12_154 : mLV RX12 154 mX12_readRow 1 := ⟨lk_X12_readRow, (tt5 (List.mem_of_getElem? (i := 183) (by decide +kernel))), (tt5 (List.mem_of_getElem? (i := 185) (by decide +kernel))), (tp (List.mem_of_getElem? (i := 60) (by decide +kernel)))⟩
theorem kX12_157 : mLV RX12 157 mX12_takeRow 0 := ⟨lk_X12_takeRow, (tt5 (List.mem_of_getElem? (i := 187) (by decide +kernel))), (tt5 (List.mem_of_getElem? (i := 189) (by decide +kernel))), (tp (List.mem_of_getElem? (i := 61) (by decide +kernel)))⟩
theorem kX12_166 : mLV RX12 166 mX12_standsAt 4 := ⟨lk_X12_standsAt, (tt5 (List.mem_of_getElem? (i := 195) (by decide +kernel))), (tt5 (List.mem_of_getElem? (i := 197) (by decide +kernel))), (tp (List.mem_of_getElem? (i := 62) (by decide +kernel)))⟩
theorem kX12_191 : mLV RX12 191 mX12_has 2 := ⟨lk_X12_has, (tt5 (List.mem_of_getElem? (i := 233) (by decide +kernel))), (tt5 (List.mem_of_getElem? (i := 235) (by decide +kernel))), (tp (List.mem_of_getElem? (i := 70) (by decide +kernel)))⟩
theorem kX12_194 : mLV RX12 194 mX12_add 2 := ⟨lk_X12_add, (tt5 (List.mem_of_getElem? (i := 225) (by decide +kernel))), (tt5 (List.mem_of_getElem? (i := 227) (by decide +kernel))), (tp (List.mem_of_getElem? (i := 68) (by decide +kernel)))⟩
theorem kX12_197 : mLV RX12 197 mX12_last 0 := ⟨lk_X12_last, (tt6 (List.mem_of_getElem? (i := 13) (by decide +kernel))), (tt6 (List.mem_of_getElem? (i := 15) (by decide +kernel))), (tp (List.mem_of_getElem? (i := 75) (by decide +kernel)))⟩
theorem kX12_206 : mLV RX12 206 mX12_wipe 1 := ⟨lk_X12_wipe, (tt5 (List.mem_of_getElem? (i := 221) (by decide +kernel))), (tt5 (List.mem_of_getElem? (i := 223) (by decide +kernel))), (tp (List.mem_of_getElem? (i := 67) (by decide +kernel)))⟩
theorem kX12_210 : mLV RX12 210 mX12_close 1 := ⟨lk_X12_close, (tt5 (List.mem_of_getElem? (i := 229) (by decide +kernel))), (tt5 (List.mem_of_getElem? (i := 231) (by decide +kernel))), (tp (List.mem_of_getElem? (i := 69) (by decide +kernel)))⟩
theorem kX12_216 : mLV RX12 216 mX12_leastBehind 2 := ⟨lk_X12_leastBehind, (tt5 (List.mem_of_getElem? (i := 237) (by decide +kernel))), (tt5 (List.mem_of_getElem? (i := 239) (by decide +kernel))), (tp (List.mem_of_getElem? (i := 71) (by decide +kernel)))⟩
theorem kX12_219 : mLV RX12 219 mX12_known 0 := ⟨lk_X12_known, (tt6 (List.mem_of_getElem? (i := 1) (by decide +kernel))), (tt6 (List.mem_of_getElem? (i := 3) (by decide +kernel))), (tp (List.mem_of_getElem? (i := 72) (by decide +kernel)))⟩
theorem kX12_231 : mLV RX12 231 mX12_ends 1 := ⟨lk_X12_ends, (tt6 (List.mem_of_getElem? (i := 18) (by decide +kernel))), (tt6 (List.mem_of_getElem? (i := 20) (by decide +kernel))), (tp (List.mem_of_getElem? (i := 76) (by decide +kernel)))⟩
theorem kX12_266 : mLV RX12 266 mX12_isFirst 1 := ⟨lk_X12_isFirst, (tt6 (List.mem_of_getElem? (i := 30) (by decide +kernel))), (tt6 (List.mem_of_getElem? (i := 32) (by decide +kernel))), (tp (List.mem_of_getElem? (i := 79) (by decide +kernel)))⟩
theorem kX12_269 : mLV RX12 269 mX12_isBorder 1 := ⟨lk_X12_isBorder, (tt6 (List.mem_of_getElem? (i := 34) (by decide +kernel))), (tt6 (List.mem_of_getElem? (i := 36) (by decide +kernel))), (tp (List.mem_of_getElem? (i := 80) (by decide +kernel)))⟩
theorem kX12_275 : mLV RX12 275 mX12_findFlat 0 := ⟨lk_X12_findFlat, (tt6 (List.mem_of_getElem? (i := 9) (by decide +kernel))), (tt6 (List.mem_of_getElem? (i := 11) (by decide +kernel))), (tp (List.mem_of_getElem? (i := 74) (by decide +kernel)))⟩
theorem kX12_278 : mLV RX12 278 mX12_findAll 0 := ⟨lk_X12_findAll, (tt6 (List.mem_of_getElem? (i := 22) (by decide +kernel))), (tt6 (List.mem_of_getElem? (i := 24) (by decide +kernel))), (tp (List.mem_of_getElem? (i := 77) (by decide +kernel)))⟩
theorem kX12_281 : mLV RX12 281 mX12_findWeights 0 := ⟨lk_X12_findWeights, (tt6 (List.mem_of_getElem? (i := 26) (by decide +kernel))), (tt6 (List.mem_of_getElem? (i := 28) (by decide +kernel))), (tp (List.mem_of_getElem? (i := 78) (by decide +kernel)))⟩
theorem kX12_284 : Cond.methodLink RX12 284 objectInit ∈ lw_tbl ∧ Cond.instanceMethod objectInit ∈ lw_tbl ∧ Cond.code objectInit ⟨#[0xb1]⟩ 1 none ∈ lw_tbl := ⟨(tt5 (List.mem_of_getElem? (i := 203) (by decide +kernel))), (tt1 (List.mem_of_getElem? (i := 25) (by decide +kernel))), (tt1 (List.mem_of_getElem? (i := 26) (by decide +kernel)))⟩
theorem kX12_326 : mLV RX12 326 mX12_make 1 := ⟨lk_X12_make, (tt5 (List.mem_of_getElem? (i := 205) (by decide +kernel))), (tt5 (List.mem_of_getElem? (i := 207) (by decide +kernel))), (tp (List.mem_of_getElem? (i := 63) (by decide +kernel)))⟩
theorem kX12_329 : mLV RX12 329 mX12_edge 4 := ⟨lk_X12_edge, (tt5 (List.mem_of_getElem? (i := 209) (by decide +kernel))), (tt5 (List.mem_of_getElem? (i := 211) (by decide +kernel))), (tp (List.mem_of_getElem? (i := 64) (by decide +kernel)))⟩
theorem kX12_336 : mLV RX12 336 mX12_layAlternative 5 := ⟨lk_X12_layAlternative, (tt5 (List.mem_of_getElem? (i := 213) (by decide +kernel))), (tt5 (List.mem_of_getElem? (i := 215) (by decide +kernel))), (tp (List.mem_of_getElem? (i := 65) (by decide +kernel)))⟩
theorem kX12_340 : mLV RX12 340 mX12_findSets 0 := ⟨lk_X12_findSets, (tt5 (List.mem_of_getElem? (i := 217) (by decide +kernel))), (tt5 (List.mem_of_getElem? (i := 219) (by decide +kernel))), (tp (List.mem_of_getElem? (i := 66) (by decide +kernel)))⟩
theorem kX12_343 : mLV RX12 343 mX12_finish 0 := ⟨lk_X12_finish, (tt6 (List.mem_of_getElem? (i := 5) (by decide +kernel))), (tt6 (List.mem_of_getElem? (i := 7) (by decide +kernel))), (tp (List.mem_of_getElem? (i := 73) (by decide +kernel)))⟩
theorem kX12_352 : mLV RX12 352 mX12_findPhrase 1 := ⟨lk_X12_findPhrase, (tt7 (List.mem_of_getElem? (i := 51) (by decide +kernel))), (tt7 (List.mem_of_getElem? (i := 53) (by decide +kernel))), (tp (List.mem_of_getElem? (i := 81) (by decide +kernel)))⟩
theorem kX12_358 : mLV RX12 358 mX12_closeWeights 0 := ⟨lk_X12_closeWeights, (tt7 (List.mem_of_getElem? (i := 65) (by decide +kernel))), (tt7 (List.mem_of_getElem? (i := 67) (by decide +kernel))), (tp (List.mem_of_getElem? (i := 83) (by decide +kernel)))⟩
theorem kX12_365 : mLV RX12 365 mX12_beginWeights 0 := ⟨lk_X12_beginWeights, (tt7 (List.mem_of_getElem? (i := 60) (by decide +kernel))), (tt7 (List.mem_of_getElem? (i := 62) (by decide +kernel))), (tp (List.mem_of_getElem? (i := 82) (by decide +kernel)))⟩
theorem kX12_368 : mLV RX12 368 mX12_weigh 1 := ⟨lk_X12_weigh, (tt7 (List.mem_of_getElem? (i := 69) (by decide +kernel))), (tt7 (List.mem_of_getElem? (i := 71) (by decide +kernel))), (tp (List.mem_of_getElem? (i := 84) (by decide +kernel)))⟩
theorem kX12_371 : mLV RX12 371 mX12_step 2 := ⟨lk_X12_step, (tt7 (List.mem_of_getElem? (i := 83) (by decide +kernel))), (tt7 (List.mem_of_getElem? (i := 85) (by decide +kernel))), (tp (List.mem_of_getElem? (i := 86) (by decide +kernel)))⟩
theorem kX12_376 : mLV RX12 376 mX12_numberOfRow 0 := ⟨lk_X12_numberOfRow, (tt7 (List.mem_of_getElem? (i := 79) (by decide +kernel))), (tt7 (List.mem_of_getElem? (i := 81) (by decide +kernel))), (tp (List.mem_of_getElem? (i := 85) (by decide +kernel)))⟩
theorem kX12_380 : mLS RX12 380 mX12_tens 1 := ⟨lk_X12_tens, (tt7 (List.mem_of_getElem? (i := 95) (by decide +kernel))), (tt7 (List.mem_of_getElem? (i := 96) (by decide +kernel)))⟩
theorem kX12_384 : mLV RX12 384 mX12_greatest 0 := ⟨lk_X12_greatest, (tt7 (List.mem_of_getElem? (i := 91) (by decide +kernel))), (tt7 (List.mem_of_getElem? (i := 93) (by decide +kernel))), (tp (List.mem_of_getElem? (i := 87) (by decide +kernel)))⟩
theorem kX12_389 : mLV RX12 389 mX12_rows 1 := ⟨lk_X12_rows, (tt7 (List.mem_of_getElem? (i := 111) (by decide +kernel))), (tt7 (List.mem_of_getElem? (i := 103) (by decide +kernel))), (tt7 (List.mem_of_getElem? (i := 104) (by decide +kernel)))⟩
theorem kX12_392 : mLV RX12 392 mX12_findFlatRow 1 := ⟨lk_X12_findFlatRow, (tt7 (List.mem_of_getElem? (i := 112) (by decide +kernel))), (tt7 (List.mem_of_getElem? (i := 114) (by decide +kernel))), (tp (List.mem_of_getElem? (i := 88) (by decide +kernel)))⟩
theorem kX12_395 : mLV RX12 395 mX12_findLost 1 := ⟨lk_X12_findLost, (tt7 (List.mem_of_getElem? (i := 116) (by decide +kernel))), (tt7 (List.mem_of_getElem? (i := 118) (by decide +kernel))), (tp (List.mem_of_getElem? (i := 89) (by decide +kernel)))⟩
theorem kX12_398 : mLV RX12 398 mX12_findBesides 1 := ⟨lk_X12_findBesides, (tt7 (List.mem_of_getElem? (i := 120) (by decide +kernel))), (tt7 (List.mem_of_getElem? (i := 122) (by decide +kernel))), (tp (List.mem_of_getElem? (i := 90) (by decide +kernel)))⟩
theorem kX12_414 : mLV RX12 414 mX12_isHit 2 := ⟨lk_X12_isHit, (tt7 (List.mem_of_getElem? (i := 132) (by decide +kernel))), (tt7 (List.mem_of_getElem? (i := 134) (by decide +kernel))), (tp (List.mem_of_getElem? (i := 91) (by decide +kernel)))⟩
theorem kX12_418 : mLV RX12 418 mX12_placeOfHit 1 := ⟨lk_X12_placeOfHit, (tt7 (List.mem_of_getElem? (i := 140) (by decide +kernel))), (tt7 (List.mem_of_getElem? (i := 142) (by decide +kernel))), (tp (List.mem_of_getElem? (i := 92) (by decide +kernel)))⟩
theorem kJ13_311 : mLS RJ13 311 mJ6_numberOfTrailingZeros_0f7a4 1 := ⟨lk_J6_numberOfTrailingZeros_0f7a4, (tt3 (List.mem_of_getElem? (i := 52) (by decide +kernel))), (tt3 (List.mem_of_getElem? (i := 53) (by decide +kernel)))⟩
theorem kJ7_13 : mLS RJ7 13 mJ7_rangeCheck_23922 3 := ⟨lk_J7_rangeCheck_23922, (tt3 (List.mem_of_getElem? (i := 26) (by decide +kernel))), (tt3 (List.mem_of_getElem? (i := 27) (by decide +kernel)))⟩
theorem kJ7_304 : mLS RJ7 304 mJ9_min_7cf53 2 := ⟨lk_J9_min_7cf53, (tt3 (List.mem_of_getElem? (i := 99) (by decide +kernel))), (tt3 (List.mem_of_getElem? (i := 100) (by decide +kernel)))⟩
theorem kJ7_150 : Cond.methodLink RJ7 150 arraycopyName ∈ lw_tbl ∧ Cond.native arraycopyName ∈ lw_tbl ∧ Cond.static arraycopyName ∈ lw_tbl ∧ Cond.initialized "java/lang/System" ∈ lw_tbl := ⟨(tt3 (List.mem_of_getElem? (i := 102) (by decide +kernel))), (tt3 (List.mem_of_getElem? (i := 104) (by decide +kernel))), (tt3 (List.mem_of_getElem? (i := 103) (by decide +kernel))), (tt1 (List.mem_of_getElem? (i := 17) (by decide +kernel)))⟩
theorem kL_9 : mLI RL 9 mX11_init 0 := ⟨lk_X11_init, (tt1 (List.mem_of_getElem? (i := 21) (by decide +kernel))), (tt1 (List.mem_of_getElem? (i := 22) (by decide +kernel))), rfl, rfl⟩
theorem kL_12 : mLI RL 12 mX12_init 0 := ⟨lk_X12_init, (tt5 (List.mem_of_getElem? (i := 200) (by decide +kernel))), (tt5 (List.mem_of_getElem? (i := 201) (by decide +kernel))), rfl, rfl⟩
theorem kL_13 : mLV RL 13 mX11_feed 4 := ⟨lk_X11_feed, (tt3 (List.mem_of_getElem? (i := 186) (by decide +kernel))), (tt3 (List.mem_of_getElem? (i := 187) (by decide +kernel))), (tt3 (List.mem_of_getElem? (i := 188) (by decide +kernel)))⟩
theorem kL_17 : mLV RL 17 mX12_feed 4 := ⟨lk_X12_feed, (tt5 (List.mem_of_getElem? (i := 87) (by decide +kernel))), (tt5 (List.mem_of_getElem? (i := 88) (by decide +kernel))), (tt5 (List.mem_of_getElem? (i := 89) (by decide +kernel)))⟩
theorem kL_18 : mLV RL 18 mX11_cut 1 := ⟨lk_X11_cut, (tt3 (List.mem_of_getElem? (i := 197) (by decide +kernel))), (tt3 (List.mem_of_getElem? (i := 198) (by decide +kernel))), (tt3 (List.mem_of_getElem? (i := 199) (by decide +kernel)))⟩
theorem kL_22 : mLV RL 22 mX12_cut 1 := ⟨lk_X12_cut, (tt5 (List.mem_of_getElem? (i := 91) (by decide +kernel))), (tt5 (List.mem_of_getElem? (i := 92) (by decide +kernel))), (tt5 (List.mem_of_getElem? (i := 93) (by decide +kernel)))⟩
theorem kL_23 : mLV RL 23 mX11_told 1 := ⟨lk_X11_told, (tt3 (List.mem_of_getElem? (i := 201) (by decide +kernel))), (tt3 (List.mem_of_getElem? (i := 202) (by decide +kernel))), (tt3 (List.mem_of_getElem? (i := 203) (by decide +kernel)))⟩
theorem kL_26 : mLV RL 26 mX12_told 1 := ⟨lk_X12_told, (tt7 (List.mem_of_getElem? (i := 148) (by decide +kernel))), (tt7 (List.mem_of_getElem? (i := 149) (by decide +kernel))), (tt7 (List.mem_of_getElem? (i := 150) (by decide +kernel)))⟩
theorem kL_27 : mLV RL 27 mX11_word 2 := ⟨lk_X11_word, (tt3 (List.mem_of_getElem? (i := 205) (by decide +kernel))), (tt3 (List.mem_of_getElem? (i := 206) (by decide +kernel))), (tt3 (List.mem_of_getElem? (i := 207) (by decide +kernel)))⟩
theorem kL_31 : mLV RL 31 mX12_word 2 := ⟨lk_X12_word, (tt5 (List.mem_of_getElem? (i := 95) (by decide +kernel))), (tt5 (List.mem_of_getElem? (i := 96) (by decide +kernel))), (tt5 (List.mem_of_getElem? (i := 97) (by decide +kernel)))⟩
theorem kL_32 : mLV RL 32 mX11_rule 1 := ⟨lk_X11_rule, (tt3 (List.mem_of_getElem? (i := 216) (by decide +kernel))), (tt3 (List.mem_of_getElem? (i := 217) (by decide +kernel))), (tt3 (List.mem_of_getElem? (i := 218) (by decide +kernel)))⟩
theorem kL_36 : mLV RL 36 mX12_rule 1 := ⟨lk_X12_rule, (tt5 (List.mem_of_getElem? (i := 99) (by decide +kernel))), (tt5 (List.mem_of_getElem? (i := 100) (by decide +kernel))), (tt5 (List.mem_of_getElem? (i := 101) (by decide +kernel)))⟩
theorem kL_37 : mLV RL 37 mX11_fresh 0 := ⟨lk_X11_fresh, (tt4 (List.mem_of_getElem? (i := 81) (by decide +kernel))), (tt4 (List.mem_of_getElem? (i := 82) (by decide +kernel))), (tt4 (List.mem_of_getElem? (i := 83) (by decide +kernel)))⟩
theorem kL_41 : mLV RL 41 mX12_fresh 0 := ⟨lk_X12_fresh, (tt5 (List.mem_of_getElem? (i := 151) (by decide +kernel))), (tt5 (List.mem_of_getElem? (i := 152) (by decide +kernel))), (tt5 (List.mem_of_getElem? (i := 153) (by decide +kernel)))⟩
theorem kL_42 : mLV RL 42 mX11_reload 0 := ⟨lk_X11_reload, (tt4 (List.mem_of_getElem? (i := 89) (by decide +kernel))), (tt4 (List.mem_of_getElem? (i := 90) (by decide +kernel))), (tt4 (List.mem_of_getElem? (i := 91) (by decide +kernel)))⟩
theorem kL_45 : mLV RL 45 mX12_reload 0 := ⟨lk_X12_reload, (tt5 (List.mem_of_getElem? (i := 155) (by decide +kernel))), (tt5 (List.mem_of_getElem? (i := 156) (by decide +kernel))), (tt5 (List.mem_of_getElem? (i := 157) (by decide +kernel)))⟩
theorem kL_46 : mLV RL 46 mX11_left 2 := ⟨lk_X11_left, (tt4 (List.mem_of_getElem? (i := 93) (by decide +kernel))), (tt4 (List.mem_of_getElem? (i := 94) (by decide +kernel))), (tt4 (List.mem_of_getElem? (i := 95) (by decide +kernel)))⟩
theorem kL_49 : mLV RL 49 mX12_left 2 := ⟨lk_X12_left, (tt5 (List.mem_of_getElem? (i := 171) (by decide +kernel))), (tt5 (List.mem_of_getElem? (i := 172) (by decide +kernel))), (tt5 (List.mem_of_getElem? (i := 173) (by decide +kernel)))⟩
theorem kL_50 : mLV RL 50 mX11_alternative 3 := ⟨lk_X11_alternative, (tt4 (List.mem_of_getElem? (i := 120) (by decide +kernel))), (tt4 (List.mem_of_getElem? (i := 121) (by decide +kernel))), (tt4 (List.mem_of_getElem? (i := 122) (by decide +kernel)))⟩
theorem kL_54 : mLV RL 54 mX12_alternative 3 := ⟨lk_X12_alternative, (tt5 (List.mem_of_getElem? (i := 175) (by decide +kernel))), (tt5 (List.mem_of_getElem? (i := 176) (by decide +kernel))), (tt5 (List.mem_of_getElem? (i := 177) (by decide +kernel)))⟩
theorem kL_55 : mLV RL 55 mX11_input 0 := ⟨lk_X11_input, (tt4 (List.mem_of_getElem? (i := 126) (by decide +kernel))), (tt4 (List.mem_of_getElem? (i := 127) (by decide +kernel))), (tt4 (List.mem_of_getElem? (i := 128) (by decide +kernel)))⟩
theorem kL_58 : mLV RL 58 mX12_input 0 := ⟨lk_X12_input, (tt5 (List.mem_of_getElem? (i := 179) (by decide +kernel))), (tt5 (List.mem_of_getElem? (i := 180) (by decide +kernel))), (tt5 (List.mem_of_getElem? (i := 181) (by decide +kernel)))⟩
theorem kL_59 : mLV RL 59 mX11_longest 1 := ⟨lk_X11_longest, (tt4 (List.mem_of_getElem? (i := 146) (by decide +kernel))), (tt4 (List.mem_of_getElem? (i := 147) (by decide +kernel))), (tt4 (List.mem_of_getElem? (i := 148) (by decide +kernel)))⟩
theorem kL_62 : mLV RL 62 mX12_longest 1 := ⟨lk_X12_longest, (tt5 (List.mem_of_getElem? (i := 191) (by decide +kernel))), (tt5 (List.mem_of_getElem? (i := 192) (by decide +kernel))), (tt5 (List.mem_of_getElem? (i := 193) (by decide +kernel)))⟩
theorem kL_63 : mLV RL 63 mX11_graph 0 := ⟨lk_X11_graph, (tt4 (List.mem_of_getElem? (i := 151) (by decide +kernel))), (tt4 (List.mem_of_getElem? (i := 152) (by decide +kernel))), (tt4 (List.mem_of_getElem? (i := 153) (by decide +kernel)))⟩
theorem kL_66 : mLV RL 66 mX12_graph 0 := ⟨lk_X12_graph, (tt7 (List.mem_of_getElem? (i := 27) (by decide +kernel))), (tt7 (List.mem_of_getElem? (i := 28) (by decide +kernel))), (tt7 (List.mem_of_getElem? (i := 29) (by decide +kernel)))⟩
theorem kL_67 : mLV RL 67 mX11_size 1 := ⟨lk_X11_size, (tt4 (List.mem_of_getElem? (i := 155) (by decide +kernel))), (tt4 (List.mem_of_getElem? (i := 156) (by decide +kernel))), (tt4 (List.mem_of_getElem? (i := 157) (by decide +kernel)))⟩
theorem kL_70 : mLV RL 70 mX12_size 1 := ⟨lk_X12_size, (tt7 (List.mem_of_getElem? (i := 31) (by decide +kernel))), (tt7 (List.mem_of_getElem? (i := 32) (by decide +kernel))), (tt7 (List.mem_of_getElem? (i := 33) (by decide +kernel)))⟩
theorem kL_71 : mLV RL 71 mX11_match 2 := ⟨lk_X11_match, (tt4 (List.mem_of_getElem? (i := 159) (by decide +kernel))), (tt4 (List.mem_of_getElem? (i := 160) (by decide +kernel))), (tt4 (List.mem_of_getElem? (i := 161) (by decide +kernel)))⟩
theorem kL_74 : mLV RL 74 mX12_match 2 := ⟨lk_X12_match, (tt7 (List.mem_of_getElem? (i := 35) (by decide +kernel))), (tt7 (List.mem_of_getElem? (i := 36) (by decide +kernel))), (tt7 (List.mem_of_getElem? (i := 37) (by decide +kernel)))⟩
theorem kL_75 : mLV RL 75 mX11_edge 2 := ⟨lk_X11_edge, (tt4 (List.mem_of_getElem? (i := 163) (by decide +kernel))), (tt4 (List.mem_of_getElem? (i := 164) (by decide +kernel))), (tt4 (List.mem_of_getElem? (i := 165) (by decide +kernel)))⟩
theorem kL_78 : mLV RL 78 mX12_edge_ 2 := ⟨lk_X12_edge_, (tt7 (List.mem_of_getElem? (i := 39) (by decide +kernel))), (tt7 (List.mem_of_getElem? (i := 40) (by decide +kernel))), (tt7 (List.mem_of_getElem? (i := 41) (by decide +kernel)))⟩
theorem kL_79 : mLV RL 79 mX11_phrases 0 := ⟨lk_X11_phrases, (tt4 (List.mem_of_getElem? (i := 167) (by decide +kernel))), (tt4 (List.mem_of_getElem? (i := 168) (by decide +kernel))), (tt4 (List.mem_of_getElem? (i := 169) (by decide +kernel)))⟩
theorem kL_83 : mLV RL 83 mX12_phrases 0 := ⟨lk_X12_phrases, (tt7 (List.mem_of_getElem? (i := 43) (by decide +kernel))), (tt7 (List.mem_of_getElem? (i := 44) (by decide +kernel))), (tt7 (List.mem_of_getElem? (i := 45) (by decide +kernel)))⟩
theorem kL_86 : mLV RL 86 mX11_phrase 2 := ⟨lk_X11_phrase, (tt4 (List.mem_of_getElem? (i := 171) (by decide +kernel))), (tt4 (List.mem_of_getElem? (i := 172) (by decide +kernel))), (tt4 (List.mem_of_getElem? (i := 173) (by decide +kernel)))⟩
theorem kL_90 : mLV RL 90 mX12_phrase 2 := ⟨lk_X12_phrase, (tt7 (List.mem_of_getElem? (i := 47) (by decide +kernel))), (tt7 (List.mem_of_getElem? (i := 48) (by decide +kernel))), (tt7 (List.mem_of_getElem? (i := 49) (by decide +kernel)))⟩
theorem kL_91 : mLV RL 91 mX11_weight 1 := ⟨lk_X11_weight, (tt4 (List.mem_of_getElem? (i := 192) (by decide +kernel))), (tt4 (List.mem_of_getElem? (i := 193) (by decide +kernel))), (tt4 (List.mem_of_getElem? (i := 194) (by decide +kernel)))⟩
theorem kL_95 : mLV RL 95 mX12_weight 1 := ⟨lk_X12_weight, (tt7 (List.mem_of_getElem? (i := 55) (by decide +kernel))), (tt7 (List.mem_of_getElem? (i := 56) (by decide +kernel))), (tt7 (List.mem_of_getElem? (i := 57) (by decide +kernel)))⟩
theorem kL_96 : mLV RL 96 mX11_which 0 := ⟨lk_X11_which, (tt4 (List.mem_of_getElem? (i := 231) (by decide +kernel))), (tt4 (List.mem_of_getElem? (i := 232) (by decide +kernel))), (tt4 (List.mem_of_getElem? (i := 233) (by decide +kernel)))⟩
theorem kL_99 : mLV RL 99 mX12_which 0 := ⟨lk_X12_which, (tt7 (List.mem_of_getElem? (i := 74) (by decide +kernel))), (tt7 (List.mem_of_getElem? (i := 75) (by decide +kernel))), (tt7 (List.mem_of_getElem? (i := 76) (by decide +kernel)))⟩
theorem kL_100 : mLV RL 100 mX11_heaviest 0 := ⟨lk_X11_heaviest, (tt5 (List.mem_of_getElem? (i := 12) (by decide +kernel))), (tt5 (List.mem_of_getElem? (i := 13) (by decide +kernel))), (tt5 (List.mem_of_getElem? (i := 14) (by decide +kernel)))⟩
theorem kL_103 : mLV RL 103 mX12_heaviest 0 := ⟨lk_X12_heaviest, (tt7 (List.mem_of_getElem? (i := 87) (by decide +kernel))), (tt7 (List.mem_of_getElem? (i := 88) (by decide +kernel))), (tt7 (List.mem_of_getElem? (i := 89) (by decide +kernel)))⟩
theorem kL_104 : mLV RL 104 mX11_position 2 := ⟨lk_X11_position, (tt5 (List.mem_of_getElem? (i := 32) (by decide +kernel))), (tt5 (List.mem_of_getElem? (i := 33) (by decide +kernel))), (tt5 (List.mem_of_getElem? (i := 34) (by decide +kernel)))⟩
theorem kL_107 : mLV RL 107 mX12_position 2 := ⟨lk_X12_position, (tt7 (List.mem_of_getElem? (i := 98) (by decide +kernel))), (tt7 (List.mem_of_getElem? (i := 99) (by decide +kernel))), (tt7 (List.mem_of_getElem? (i := 100) (by decide +kernel)))⟩
theorem kL_108 : mLV RL 108 mX11_rows 1 := ⟨lk_X11_rows, (tt5 (List.mem_of_getElem? (i := 37) (by decide +kernel))), (tt5 (List.mem_of_getElem? (i := 38) (by decide +kernel))), (tt5 (List.mem_of_getElem? (i := 39) (by decide +kernel)))⟩
theorem kL_112 : mLV RL 112 mX12_rows 1 := ⟨lk_X12_rows, (tt7 (List.mem_of_getElem? (i := 102) (by decide +kernel))), (tt7 (List.mem_of_getElem? (i := 103) (by decide +kernel))), (tt7 (List.mem_of_getElem? (i := 104) (by decide +kernel)))⟩
theorem kL_113 : mLV RL 113 mX11_row 3 := ⟨lk_X11_row, (tt5 (List.mem_of_getElem? (i := 46) (by decide +kernel))), (tt5 (List.mem_of_getElem? (i := 47) (by decide +kernel))), (tt5 (List.mem_of_getElem? (i := 48) (by decide +kernel)))⟩
theorem kL_117 : mLV RL 117 mX12_row 3 := ⟨lk_X12_row, (tt7 (List.mem_of_getElem? (i := 107) (by decide +kernel))), (tt7 (List.mem_of_getElem? (i := 108) (by decide +kernel))), (tt7 (List.mem_of_getElem? (i := 109) (by decide +kernel)))⟩
theorem kL_118 : mLV RL 118 mX11_document 0 := ⟨lk_X11_document, (tt5 (List.mem_of_getElem? (i := 56) (by decide +kernel))), (tt5 (List.mem_of_getElem? (i := 57) (by decide +kernel))), (tt5 (List.mem_of_getElem? (i := 58) (by decide +kernel)))⟩
theorem kL_121 : mLV RL 121 mX12_document 0 := ⟨lk_X12_document, (tt7 (List.mem_of_getElem? (i := 124) (by decide +kernel))), (tt7 (List.mem_of_getElem? (i := 125) (by decide +kernel))), (tt7 (List.mem_of_getElem? (i := 126) (by decide +kernel)))⟩
theorem kL_122 : mLV RL 122 mX11_hits 0 := ⟨lk_X11_hits, (tt5 (List.mem_of_getElem? (i := 60) (by decide +kernel))), (tt5 (List.mem_of_getElem? (i := 61) (by decide +kernel))), (tt5 (List.mem_of_getElem? (i := 62) (by decide +kernel)))⟩
theorem kL_125 : mLV RL 125 mX12_hits 0 := ⟨lk_X12_hits, (tt7 (List.mem_of_getElem? (i := 128) (by decide +kernel))), (tt7 (List.mem_of_getElem? (i := 129) (by decide +kernel))), (tt7 (List.mem_of_getElem? (i := 130) (by decide +kernel)))⟩
theorem kL_126 : mLV RL 126 mX11_hit 2 := ⟨lk_X11_hit, (tt5 (List.mem_of_getElem? (i := 74) (by decide +kernel))), (tt5 (List.mem_of_getElem? (i := 75) (by decide +kernel))), (tt5 (List.mem_of_getElem? (i := 76) (by decide +kernel)))⟩
theorem kL_129 : mLV RL 129 mX12_hit 2 := ⟨lk_X12_hit, (tt7 (List.mem_of_getElem? (i := 136) (by decide +kernel))), (tt7 (List.mem_of_getElem? (i := 137) (by decide +kernel))), (tt7 (List.mem_of_getElem? (i := 138) (by decide +kernel)))⟩
theorem kL_130 : mLV RL 130 mX11_hitWeight 1 := ⟨lk_X11_hitWeight, (tt5 (List.mem_of_getElem? (i := 82) (by decide +kernel))), (tt5 (List.mem_of_getElem? (i := 83) (by decide +kernel))), (tt5 (List.mem_of_getElem? (i := 84) (by decide +kernel)))⟩
theorem kL_133 : mLV RL 133 mX12_hitWeight 1 := ⟨lk_X12_hitWeight, (tt7 (List.mem_of_getElem? (i := 144) (by decide +kernel))), (tt7 (List.mem_of_getElem? (i := 145) (by decide +kernel))), (tt7 (List.mem_of_getElem? (i := 146) (by decide +kernel)))⟩

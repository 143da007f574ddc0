abbrev rmJ6_bitCount_0f7a4 : Room := { frames := 0, cells := 0, slots := 0, locals := 0 }
abbrev rmJ9_floorMod_f86c9 : Room := { frames := 0, cells := 0, slots := 0, locals := 0 }
abbrev rmJ7_rangeCheck_23922 : Room := { frames := 0, cells := 0, slots := 0, locals := 0 }
abbrev rmJ7_fill_53178 : Room := { frames := 0, cells := 0, slots := 0, locals := 0 }
abbrev rmJ7_fill_fda19 : Room := { frames := 1, cells := 0, slots := 0, locals := 22 }
abbrev rmJ7_fill_031fb : Room := { frames := 0, cells := 0, slots := 0, locals := 0 }
abbrev rmX0_clear : Room := { frames := 0, cells := 0, slots := 0, locals := 0 }
abbrev rmX0_sets : Room := { frames := 0, cells := 0, slots := 0, locals := 0 }
abbrev rmX0_add : Room := { frames := 1, cells := 0, slots := 0, locals := 20 }
abbrev rmX0_setsOff : Room := { frames := 1, cells := 0, slots := 0, locals := 20 }
abbrev rmX0_leastSetOff : Room := { frames := 1, cells := 0, slots := 0, locals := 20 }
abbrev rmX0_leastBetweenMarks : Room := { frames := 1, cells := 0, slots := 0, locals := 24 }
abbrev rmX0_leastGap : Room := { frames := 2, cells := 0, slots := 0, locals := 47 }
abbrev rmX1_takeAll : Room := { frames := 0, cells := 0, slots := 0, locals := 0 }
abbrev rmX1_keep : Room := { frames := 0, cells := 0, slots := 0, locals := 0 }
abbrev rmX10_comeBy : Room := { frames := 0, cells := 0, slots := 0, locals := 0 }
abbrev rmX1_dropWrong : Room := { frames := 0, cells := 0, slots := 0, locals := 0 }
abbrev rmX1_select : Room := { frames := 1, cells := 0, slots := 0, locals := 28 }
abbrev rmX10_numberAt : Room := { frames := 1, cells := 0, slots := 0, locals := 24 }
abbrev rmX1_leastAt : Room := { frames := 2, cells := 0, slots := 0, locals := 49 }
abbrev rmX1_greatestAt : Room := { frames := 2, cells := 0, slots := 0, locals := 49 }
abbrev rmX1_surePlaces : Room := { frames := 3, cells := 0, slots := 0, locals := 72 }
abbrev rmX1_isSoForSome : Room := { frames := 0, cells := 0, slots := 0, locals := 0 }
abbrev rmX1_sureLiars : Room := { frames := 1, cells := 0, slots := 0, locals := 28 }
abbrev rmX4_clear : Room := { frames := 2, cells := 0, slots := 0, locals := 46 }
abbrev rmX4_leaderOf : Room := { frames := 0, cells := 0, slots := 0, locals := 0 }
abbrev rmX1_mostAlike : Room := { frames := 3, cells := 0, slots := 0, locals := 67 }
abbrev rmX1_findQuestion : Room := { frames := 4, cells := 0, slots := 0, locals := 92 }
abbrev rmX1_fillAnswers : Room := { frames := 1, cells := 0, slots := 0, locals := 28 }
abbrev rmX1_isApartBy : Room := { frames := 0, cells := 0, slots := 0, locals := 0 }
abbrev rmX1_isToldApart : Room := { frames := 1, cells := 0, slots := 0, locals := 24 }
abbrev rmX1_groupOf : Room := { frames := 0, cells := 0, slots := 0, locals := 0 }
abbrev rmX1_areGroupsToldApart : Room := { frames := 2, cells := 0, slots := 0, locals := 46 }
abbrev rmX1_enoughQuestions : Room := { frames := 3, cells := 0, slots := 0, locals := 68 }
abbrev rmX2_clear : Room := { frames := 0, cells := 0, slots := 0, locals := 0 }
abbrev rmX2_add : Room := { frames := 0, cells := 0, slots := 0, locals := 0 }
abbrev rmX2_copy : Room := { frames := 1, cells := 0, slots := 0, locals := 30 }
abbrev rmX2_branchHere : Room := { frames := 0, cells := 0, slots := 0, locals := 0 }
abbrev rmX2_look : Room := { frames := 0, cells := 0, slots := 0, locals := 0 }
abbrev rmX2_joined : Room := { frames := 0, cells := 0, slots := 0, locals := 0 }
abbrev rmX2_worth : Room := { frames := 1, cells := 0, slots := 0, locals := 24 }
abbrev rmX2_numberAt : Room := { frames := 2, cells := 0, slots := 0, locals := 49 }
abbrev rmX2_question : Room := { frames := 2, cells := 0, slots := 0, locals := 49 }
abbrev rmX3_begin : Room := { frames := 1, cells := 0, slots := 0, locals := 20 }
abbrev rmX3_branchBegins : Room := { frames := 0, cells := 0, slots := 0, locals := 0 }
abbrev rmX3_letWait : Room := { frames := 0, cells := 0, slots := 0, locals := 0 }
abbrev rmX3_nestBegins : Room := { frames := 1, cells := 0, slots := 0, locals := 21 }
abbrev rmX3_unit : Room := { frames := 2, cells := 0, slots := 0, locals := 41 }
abbrev rmX3_rankOf : Room := { frames := 0, cells := 0, slots := 0, locals := 0 }
abbrev rmX3_writeWaiting : Room := { frames := 1, cells := 0, slots := 0, locals := 22 }
abbrev rmX3_nestEnds : Room := { frames := 0, cells := 0, slots := 0, locals := 0 }
abbrev rmX3_partEnds : Room := { frames := 1, cells := 0, slots := 0, locals := 22 }
abbrev rmX3_behindUnit : Room := { frames := 2, cells := 0, slots := 0, locals := 43 }
abbrev rmX6_clear : Room := { frames := 0, cells := 0, slots := 0, locals := 0 }
abbrev rmX7_clear : Room := { frames := 1, cells := 0, slots := 0, locals := 22 }
abbrev rmX8_isBlank : Room := { frames := 0, cells := 0, slots := 0, locals := 0 }
abbrev rmX8_isLetter : Room := { frames := 0, cells := 0, slots := 0, locals := 0 }
abbrev rmX8_withLetter : Room := { frames := 0, cells := 0, slots := 0, locals := 0 }
abbrev rmX8_kindOf : Room := { frames := 0, cells := 0, slots := 0, locals := 0 }
abbrev rmX8_add : Room := { frames := 0, cells := 0, slots := 0, locals := 0 }
abbrev rmX8_cutName : Room := { frames := 1, cells := 0, slots := 0, locals := 24 }
abbrev rmX8_isDigit : Room := { frames := 0, cells := 0, slots := 0, locals := 0 }
abbrev rmX8_cutInt : Room := { frames := 1, cells := 0, slots := 0, locals := 24 }
abbrev rmX8_isSign : Room := { frames := 0, cells := 0, slots := 0, locals := 0 }
abbrev rmX8_cutOne : Room := { frames := 2, cells := 0, slots := 0, locals := 50 }
abbrev rmX8_cut : Room := { frames := 3, cells := 0, slots := 0, locals := 74 }
abbrev rmX5_kind : Room := { frames := 0, cells := 0, slots := 0, locals := 0 }
abbrev rmX5_stop : Room := { frames := 0, cells := 0, slots := 0, locals := 0 }
abbrev rmX7_isFullOf : Room := { frames := 0, cells := 0, slots := 0, locals := 0 }
abbrev rmX5_take : Room := { frames := 1, cells := 0, slots := 0, locals := 21 }
abbrev rmX5_taken : Room := { frames := 0, cells := 0, slots := 0, locals := 0 }
abbrev rmX7_tellName : Room := { frames := 0, cells := 0, slots := 0, locals := 0 }
abbrev rmX5_note : Room := { frames := 0, cells := 0, slots := 0, locals := 0 }
abbrev rmX5_takeName : Room := { frames := 2, cells := 0, slots := 0, locals := 42 }
abbrev rmX11_within : Room := { frames := 0, cells := 0, slots := 0, locals := 0 }
abbrev rmX5_takenWithin : Room := { frames := 1, cells := 0, slots := 0, locals := 25 }
abbrev rmX5_noteSize : Room := { frames := 2, cells := 0, slots := 0, locals := 49 }
abbrev rmX5_readLaw : Room := { frames := 3, cells := 0, slots := 0, locals := 65 }
abbrev rmX7_tellNumber : Room := { frames := 0, cells := 0, slots := 0, locals := 0 }
abbrev rmX7_endRow : Room := { frames := 0, cells := 0, slots := 0, locals := 0 }
abbrev rmX5_tellRow : Room := { frames := 3, cells := 0, slots := 0, locals := 72 }
abbrev rmX5_readList : Room := { frames := 2, cells := 0, slots := 0, locals := 49 }
abbrev rmX5_tellAsk : Room := { frames := 2, cells := 0, slots := 0, locals := 51 }
abbrev rmX6_isAt : Room := { frames := 0, cells := 0, slots := 0, locals := 0 }
abbrev rmX6_add : Room := { frames := 0, cells := 0, slots := 0, locals := 0 }
abbrev rmX5_tellShare : Room := { frames := 2, cells := 0, slots := 0, locals := 49 }
abbrev rmX5_tellBound : Room := { frames := 2, cells := 0, slots := 0, locals := 49 }
abbrev rmX5_isPrime : Room := { frames := 1, cells := 0, slots := 0, locals := 25 }
abbrev rmX5_tellNumber : Room := { frames := 2, cells := 0, slots := 0, locals := 49 }
abbrev rmX5_readTell : Room := { frames := 4, cells := 0, slots := 0, locals := 94 }
abbrev rmX5_findGreat : Room := { frames := 0, cells := 0, slots := 0, locals := 0 }
abbrev rmX5_readDraft : Room := { frames := 5, cells := 0, slots := 0, locals := 115 }
abbrev rmX5_exchange : Room := { frames := 0, cells := 0, slots := 0, locals := 0 }
abbrev rmX6_isSet : Room := { frames := 1, cells := 0, slots := 0, locals := 20 }
abbrev rmX6_isIn : Room := { frames := 0, cells := 0, slots := 0, locals := 0 }
abbrev rmX6_restOf : Room := { frames := 1, cells := 0, slots := 0, locals := 25 }
abbrev rmX6_othersProduct : Room := { frames := 2, cells := 0, slots := 0, locals := 47 }
abbrev rmX6_turnedOver : Room := { frames := 2, cells := 0, slots := 0, locals := 47 }
abbrev rmX6_findRow : Room := { frames := 3, cells := 0, slots := 0, locals := 72 }
abbrev rmX6_comesTo : Room := { frames := 2, cells := 0, slots := 0, locals := 47 }
abbrev rmX6_sharesOff : Room := { frames := 3, cells := 0, slots := 0, locals := 70 }
abbrev rmX6_offRow : Room := { frames := 4, cells := 0, slots := 0, locals := 96 }
abbrev rmX7_numberAt : Room := { frames := 0, cells := 0, slots := 0, locals := 0 }
abbrev rmX7_comesTo : Room := { frames := 1, cells := 0, slots := 0, locals := 23 }
abbrev rmX7_isSomeBelowZero : Room := { frames := 1, cells := 0, slots := 0, locals := 23 }
abbrev rmX9_clear : Room := { frames := 0, cells := 0, slots := 0, locals := 0 }
abbrev rmX9_isFull : Room := { frames := 0, cells := 0, slots := 0, locals := 0 }
abbrev rmX9_add : Room := { frames := 0, cells := 0, slots := 0, locals := 0 }
abbrev rmX9_copy : Room := { frames := 1, cells := 0, slots := 0, locals := 30 }
abbrev rmX10_settle : Room := { frames := 0, cells := 0, slots := 0, locals := 0 }
abbrev rmX10_howManyComeTo : Room := { frames := 1, cells := 0, slots := 0, locals := 28 }
abbrev rmX10_clashing : Room := { frames := 3, cells := 0, slots := 0, locals := 67 }
abbrev rmX10_partGroups : Room := { frames := 3, cells := 0, slots := 0, locals := 67 }
abbrev rmX10_fewestNumbers : Room := { frames := 4, cells := 0, slots := 0, locals := 91 }
abbrev rmX11_begin : Room := { frames := 1, cells := 0, slots := 0, locals := 26 }
abbrev rmX11_putFour : Room := { frames := 0, cells := 0, slots := 0, locals := 0 }
abbrev rmX11_feed : Room := { frames := 1, cells := 0, slots := 0, locals := 22 }
abbrev rmX11_back : Room := { frames := 0, cells := 0, slots := 0, locals := 0 }
abbrev rmX11_read : Room := { frames := 6, cells := 0, slots := 0, locals := 139 }
abbrev rmX11_place : Room := { frames := 0, cells := 0, slots := 0, locals := 0 }
abbrev rmX11_isRow : Room := { frames := 0, cells := 0, slots := 0, locals := 0 }
abbrev rmX11_areTwoRows : Room := { frames := 1, cells := 0, slots := 0, locals := 21 }
abbrev rmX11_row : Room := { frames := 1, cells := 0, slots := 0, locals := 23 }
abbrev rmX11_comes : Room := { frames := 2, cells := 0, slots := 0, locals := 49 }
abbrev rmX11_figuresOf : Room := { frames := 1, cells := 0, slots := 0, locals := 24 }
abbrev rmX11_two : Room := { frames := 2, cells := 0, slots := 0, locals := 49 }
abbrev rmX11_figure : Room := { frames := 1, cells := 0, slots := 0, locals := 25 }
abbrev rmX11_meets : Room := { frames := 2, cells := 0, slots := 0, locals := 49 }
abbrev rmX11_degree : Room := { frames := 1, cells := 0, slots := 0, locals := 23 }
abbrev rmX11_rest : Room := { frames := 2, cells := 0, slots := 0, locals := 49 }
abbrev rmX11_alike : Room := { frames := 2, cells := 0, slots := 0, locals := 49 }
abbrev rmX11_isSumPlace : Room := { frames := 1, cells := 0, slots := 0, locals := 25 }
abbrev rmX11_plus : Room := { frames := 2, cells := 0, slots := 0, locals := 48 }
abbrev rmX11_times : Room := { frames := 2, cells := 0, slots := 0, locals := 48 }
abbrev rmX11_isWorld : Room := { frames := 0, cells := 0, slots := 0, locals := 0 }
abbrev rmX11_world : Room := { frames := 2, cells := 0, slots := 0, locals := 49 }
abbrev rmX11_clash : Room := { frames := 4, cells := 0, slots := 0, locals := 91 }
abbrev rmX11_once : Room := { frames := 4, cells := 0, slots := 0, locals := 91 }
abbrev rmX11_few : Room := { frames := 5, cells := 0, slots := 0, locals := 113 }
abbrev rmX11_worldsAt : Room := { frames := 2, cells := 0, slots := 0, locals := 53 }
abbrev rmX11_game : Room := { frames := 3, cells := 0, slots := 0, locals := 73 }
abbrev rmX11_tell : Room := { frames := 1, cells := 0, slots := 0, locals := 25 }
abbrev rmX11_forget : Room := { frames := 1, cells := 0, slots := 0, locals := 20 }
abbrev rmX11_choose : Room := { frames := 2, cells := 0, slots := 0, locals := 53 }
abbrev rmX11_fits : Room := { frames := 3, cells := 0, slots := 0, locals := 76 }
abbrev rmX11_sure : Room := { frames := 4, cells := 0, slots := 0, locals := 94 }
abbrev rmX11_span : Room := { frames := 3, cells := 0, slots := 0, locals := 76 }
abbrev rmX11_liars : Room := { frames := 3, cells := 0, slots := 0, locals := 76 }
abbrev rmX11_next : Room := { frames := 5, cells := 0, slots := 0, locals := 114 }
abbrev rmX11_enough : Room := { frames := 4, cells := 0, slots := 0, locals := 89 }
abbrev rmX11_cost : Room := { frames := 2, cells := 0, slots := 0, locals := 48 }
abbrev rmX11_hide : Room := { frames := 1, cells := 0, slots := 0, locals := 21 }
abbrev rmX11_ask : Room := { frames := 2, cells := 0, slots := 0, locals := 49 }
abbrev rmX11_asks : Room := { frames := 3, cells := 0, slots := 0, locals := 73 }
abbrev rmX11_isSlot : Room := { frames := 0, cells := 0, slots := 0, locals := 0 }
abbrev rmX11_hold : Room := { frames := 2, cells := 0, slots := 0, locals := 51 }
abbrev rmX11_restore : Room := { frames := 2, cells := 0, slots := 0, locals := 51 }
abbrev rmX11_isWeighing : Room := { frames := 1, cells := 0, slots := 0, locals := 25 }
abbrev rmX11_bad : Room := { frames := 2, cells := 0, slots := 0, locals := 46 }
abbrev rmX11_badSet : Room := { frames := 2, cells := 0, slots := 0, locals := 46 }
abbrev rmX11_allTold : Room := { frames := 3, cells := 0, slots := 0, locals := 69 }
abbrev rmX11_margin : Room := { frames := 3, cells := 0, slots := 0, locals := 69 }
abbrev rmX11_shareRow : Room := { frames := 4, cells := 0, slots := 0, locals := 96 }
abbrev rmX11_secret : Room := { frames := 5, cells := 0, slots := 0, locals := 118 }
abbrev rmX11_shared : Room := { frames := 4, cells := 0, slots := 0, locals := 96 }
abbrev rmX11_wrong : Room := { frames := 5, cells := 0, slots := 0, locals := 121 }
abbrev rmX11_triangle : Room := { frames := 0, cells := 0, slots := 0, locals := 0 }
abbrev rmX11_paired : Room := { frames := 1, cells := 0, slots := 0, locals := 21 }
abbrev rmX11_pair : Room := { frames := 2, cells := 0, slots := 0, locals := 44 }
abbrev rmX11_unpair : Room := { frames := 1, cells := 0, slots := 0, locals := 25 }
abbrev rmX11_number : Room := { frames := 2, cells := 0, slots := 0, locals := 45 }
abbrev rmX11_slotsThatHold : Room := { frames := 0, cells := 0, slots := 0, locals := 0 }
abbrev rmX11_count : Room := { frames := 1, cells := 0, slots := 0, locals := 22 }
abbrev rmX12_put : Room := { frames := 0, cells := 0, slots := 0, locals := 0 }
abbrev rmX12_feed : Room := { frames := 1, cells := 0, slots := 0, locals := 22 }
abbrev rmX12_back : Room := { frames := 0, cells := 0, slots := 0, locals := 0 }
abbrev rmX12_byteAt : Room := { frames := 0, cells := 0, slots := 0, locals := 0 }
abbrev rmX12_isDigit : Room := { frames := 0, cells := 0, slots := 0, locals := 0 }
abbrev rmX12_isLetter : Room := { frames := 0, cells := 0, slots := 0, locals := 0 }
abbrev rmX12_appends : Room := { frames := 0, cells := 0, slots := 0, locals := 0 }
abbrev rmX12_word : Room := { frames := 1, cells := 0, slots := 0, locals := 22 }
abbrev rmX12_token : Room := { frames := 0, cells := 0, slots := 0, locals := 0 }
abbrev rmX12_sign : Room := { frames := 1, cells := 0, slots := 0, locals := 25 }
abbrev rmX12_cut : Room := { frames := 2, cells := 0, slots := 0, locals := 49 }
abbrev rmX12_is : Room := { frames := 0, cells := 0, slots := 0, locals := 0 }
abbrev rmX12_fail : Room := { frames := 0, cells := 0, slots := 0, locals := 0 }
abbrev rmX12_amiss : Room := { frames := 0, cells := 0, slots := 0, locals := 0 }
abbrev rmX12_goesOn : Room := { frames := 1, cells := 0, slots := 0, locals := 21 }
abbrev rmX12_must : Room := { frames := 2, cells := 0, slots := 0, locals := 41 }
abbrev rmX12_plain : Room := { frames := 0, cells := 0, slots := 0, locals := 0 }
abbrev rmX12_roomFor : Room := { frames := 2, cells := 0, slots := 0, locals := 41 }
abbrev rmX12_named : Room := { frames := 3, cells := 0, slots := 0, locals := 62 }
abbrev rmX12_bounded : Room := { frames := 2, cells := 0, slots := 0, locals := 41 }
abbrev rmX12_emit : Room := { frames := 0, cells := 0, slots := 0, locals := 0 }
abbrev rmX12_unit : Room := { frames := 2, cells := 0, slots := 0, locals := 41 }
abbrev rmX12_comesOut : Room := { frames := 1, cells := 0, slots := 0, locals := 22 }
abbrev rmX12_expression : Room := { frames := 3, cells := 0, slots := 0, locals := 61 }
abbrev rmX12_term : Room := { frames := 4, cells := 0, slots := 0, locals := 83 }
abbrev rmX12_tellLaw : Room := { frames := 5, cells := 0, slots := 0, locals := 103 }
abbrev rmX12_termOf : Room := { frames := 0, cells := 0, slots := 0, locals := 0 }
abbrev rmX12_tellsBy : Room := { frames := 1, cells := 0, slots := 0, locals := 27 }
abbrev rmX12_notes : Room := { frames := 0, cells := 0, slots := 0, locals := 0 }
abbrev rmX12_tellRow : Room := { frames := 6, cells := 0, slots := 0, locals := 126 }
abbrev rmX12_tellList : Room := { frames := 4, cells := 0, slots := 0, locals := 84 }
abbrev rmX12_tellPrime : Room := { frames := 3, cells := 0, slots := 0, locals := 64 }
abbrev rmX12_tellShare : Room := { frames := 3, cells := 0, slots := 0, locals := 64 }
abbrev rmX12_tell : Room := { frames := 7, cells := 0, slots := 0, locals := 150 }
abbrev rmX12_read : Room := { frames := 8, cells := 0, slots := 0, locals := 170 }
abbrev rmX12_place : Room := { frames := 0, cells := 0, slots := 0, locals := 0 }
abbrev rmX12_in : Room := { frames := 0, cells := 0, slots := 0, locals := 0 }
abbrev rmX12_isRow : Room := { frames := 1, cells := 0, slots := 0, locals := 25 }
abbrev rmX12_longAt : Room := { frames := 0, cells := 0, slots := 0, locals := 0 }
abbrev rmX12_at : Room := { frames := 0, cells := 0, slots := 0, locals := 0 }
abbrev rmX12_row : Room := { frames := 2, cells := 0, slots := 0, locals := 46 }
abbrev rmX12_comesBy : Room := { frames := 1, cells := 0, slots := 0, locals := 22 }
abbrev rmX12_comes : Room := { frames := 2, cells := 0, slots := 0, locals := 48 }
abbrev rmX12_isBelow : Room := { frames := 1, cells := 0, slots := 0, locals := 22 }
abbrev rmX12_figures : Room := { frames := 0, cells := 0, slots := 0, locals := 0 }
abbrev rmX12_two : Room := { frames := 2, cells := 0, slots := 0, locals := 48 }
abbrev rmX12_figure : Room := { frames := 1, cells := 0, slots := 0, locals := 25 }
abbrev rmX12_placeAt : Room := { frames := 1, cells := 0, slots := 0, locals := 22 }
abbrev rmX12_areRows : Room := { frames := 2, cells := 0, slots := 0, locals := 46 }
abbrev rmX12_plus : Room := { frames := 3, cells := 0, slots := 0, locals := 69 }
abbrev rmX12_times : Room := { frames := 3, cells := 0, slots := 0, locals := 69 }
abbrev rmX12_degree : Room := { frames := 2, cells := 0, slots := 0, locals := 46 }
abbrev rmX12_restOf : Room := { frames := 0, cells := 0, slots := 0, locals := 0 }
abbrev rmX12_restBy : Room := { frames := 1, cells := 0, slots := 0, locals := 22 }
abbrev rmX12_rest : Room := { frames := 2, cells := 0, slots := 0, locals := 46 }
abbrev rmX12_alike : Room := { frames := 2, cells := 0, slots := 0, locals := 46 }
abbrev rmX12_meets : Room := { frames := 2, cells := 0, slots := 0, locals := 48 }
abbrev rmX12_worldAll : Room := { frames := 0, cells := 0, slots := 0, locals := 0 }
abbrev rmX12_figureOf : Room := { frames := 0, cells := 0, slots := 0, locals := 0 }
abbrev rmX12_worldComes : Room := { frames := 1, cells := 0, slots := 0, locals := 24 }
abbrev rmX12_clears : Room := { frames := 0, cells := 0, slots := 0, locals := 0 }
abbrev rmX12_keyAt : Room := { frames := 0, cells := 0, slots := 0, locals := 0 }
abbrev rmX12_clashes : Room := { frames := 2, cells := 0, slots := 0, locals := 50 }
abbrev rmX12_clash : Room := { frames := 3, cells := 0, slots := 0, locals := 73 }
abbrev rmX12_world : Room := { frames := 1, cells := 0, slots := 0, locals := 25 }
abbrev rmX12_once : Room := { frames := 3, cells := 0, slots := 0, locals := 73 }
abbrev rmX12_fullPlaces : Room := { frames := 1, cells := 0, slots := 0, locals := 24 }
abbrev rmX12_few : Room := { frames := 2, cells := 0, slots := 0, locals := 50 }
abbrev rmX12_tell_ : Room := { frames := 1, cells := 0, slots := 0, locals := 25 }
abbrev rmX12_forget : Room := { frames := 0, cells := 0, slots := 0, locals := 0 }
abbrev rmX12_isRight : Room := { frames := 2, cells := 0, slots := 0, locals := 50 }
abbrev rmX12_isFit : Room := { frames := 3, cells := 0, slots := 0, locals := 72 }
abbrev rmX12_isAsked : Room := { frames := 1, cells := 0, slots := 0, locals := 25 }
abbrev rmX12_fillsFits : Room := { frames := 4, cells := 0, slots := 0, locals := 98 }
abbrev rmX12_fits : Room := { frames := 5, cells := 0, slots := 0, locals := 123 }
abbrev rmX12_spanOf : Room := { frames := 1, cells := 0, slots := 0, locals := 24 }
abbrev rmX12_sure : Room := { frames := 5, cells := 0, slots := 0, locals := 123 }
abbrev rmX12_span : Room := { frames := 5, cells := 0, slots := 0, locals := 123 }
abbrev rmX12_liars : Room := { frames := 5, cells := 0, slots := 0, locals := 123 }
abbrev rmX12_next : Room := { frames := 5, cells := 0, slots := 0, locals := 123 }
abbrev rmX12_worldsAt : Room := { frames := 2, cells := 0, slots := 0, locals := 50 }
abbrev rmX12_cost : Room := { frames := 1, cells := 0, slots := 0, locals := 25 }
abbrev rmX12_hide : Room := { frames := 2, cells := 0, slots := 0, locals := 46 }
abbrev rmX12_ask : Room := { frames := 2, cells := 0, slots := 0, locals := 48 }
abbrev rmX12_asksAfter : Room := { frames := 2, cells := 0, slots := 0, locals := 51 }
abbrev rmX12_asks : Room := { frames := 3, cells := 0, slots := 0, locals := 76 }
abbrev rmX12_isOneEnough : Room := { frames := 2, cells := 0, slots := 0, locals := 50 }
abbrev rmX12_areTwoEnough : Room := { frames := 3, cells := 0, slots := 0, locals := 75 }
abbrev rmX12_enough : Room := { frames := 5, cells := 0, slots := 0, locals := 123 }
abbrev rmX12_plays : Room := { frames := 3, cells := 0, slots := 0, locals := 76 }
abbrev rmX12_game : Room := { frames := 4, cells := 0, slots := 0, locals := 103 }
abbrev rmX12_sumOf : Room := { frames := 0, cells := 0, slots := 0, locals := 0 }
abbrev rmX12_bad : Room := { frames := 1, cells := 0, slots := 0, locals := 25 }
abbrev rmX12_badSet : Room := { frames := 1, cells := 0, slots := 0, locals := 25 }
abbrev rmX12_allTold : Room := { frames := 1, cells := 0, slots := 0, locals := 23 }
abbrev rmX12_margin : Room := { frames := 1, cells := 0, slots := 0, locals := 23 }
abbrev rmX12_bits : Room := { frames := 0, cells := 0, slots := 0, locals := 0 }
abbrev rmX12_turned : Room := { frames := 1, cells := 0, slots := 0, locals := 22 }
abbrev rmX12_rowComes : Room := { frames := 2, cells := 0, slots := 0, locals := 44 }
abbrev rmX12_isSet : Room := { frames := 1, cells := 0, slots := 0, locals := 25 }
abbrev rmX12_secret : Room := { frames := 3, cells := 0, slots := 0, locals := 70 }
abbrev rmX12_shared : Room := { frames := 3, cells := 0, slots := 0, locals := 70 }
abbrev rmX12_fillsRow : Room := { frames := 2, cells := 0, slots := 0, locals := 44 }
abbrev rmX12_shareRow : Room := { frames := 3, cells := 0, slots := 0, locals := 71 }
abbrev rmX12_wrong : Room := { frames := 3, cells := 0, slots := 0, locals := 70 }
abbrev rmX12_paired : Room := { frames := 0, cells := 0, slots := 0, locals := 0 }
abbrev rmX12_pair : Room := { frames := 1, cells := 0, slots := 0, locals := 25 }
abbrev rmX12_unpair : Room := { frames := 1, cells := 0, slots := 0, locals := 25 }
abbrev rmX12_number : Room := { frames := 2, cells := 0, slots := 0, locals := 46 }
abbrev rmX12_hold : Room := { frames := 1, cells := 0, slots := 0, locals := 25 }
abbrev rmX12_restore : Room := { frames := 1, cells := 0, slots := 0, locals := 25 }
abbrev rmX12_count : Room := { frames := 0, cells := 0, slots := 0, locals := 0 }
def w_J6_bitCount_0f7a4_0 (Q : Int32 → Prop) (x0 : Int32) : Prop :=
  ∀ x0_1, x0_1 = x0 - ((jushr x0 1) &&& 1431655765) → (∀ x0_2, x0_2 = (x0_1 &&& 858993459) + ((jushr x0_1 2) &&& 858993459) → (∀ x0_3, x0_3 = (x0_2 + (jushr x0_2 4)) &&& 252645135 → (∀ x0_4, x0_4 = x0_3 + (jushr x0_3 8) → (∀ x0_5, x0_5 = x0_4 + (jushr x0_4 16) → (Q (x0_5 &&& 63))))))
/-- java/lang/Integer.bitCount(I)I -/
def w_J6_bitCount_0f7a4 (x0 : Int32) (Q : Int32 → Prop) : Prop := w_J6_bitCount_0f7a4_0 Q x0
def w_J9_floorMod_f86c9_0 (Q : Int64 → Prop) (x0 : Int64) (x2 : Int64) : Prop :=
  ¬ x2 = 0 ∧ (∀ x4_1, x4_1 = lrem x0 x2 → ((0 ≤ (x0 ^^^ x2) → (Q x4_1)) ∧ (¬ (0 ≤ (x0 ^^^ x2)) → ((x4_1 = 0 → (Q x4_1)) ∧ (¬ (x4_1 = 0) → (Q (x4_1 + x2)))))))
/-- java/lang/Math.floorMod(JJ)J -/
def w_J9_floorMod_f86c9 (x0 : Int64) (x2 : Int64) (Q : Int64 → Prop) : Prop := w_J9_floorMod_f86c9_0 Q x0 x2
def w_J7_rangeCheck_23922_0 (Q : Prop) (x0 : Int32) (x1 : Int32) (x2 : Int32) : Prop :=
  (x1 ≤ x2 → ((0 ≤ x1 → ((x2 ≤ x0 → (Q)) ∧ (¬ (x2 ≤ x0) → (False)))) ∧ (¬ (0 ≤ x1) → (False)))) ∧ (¬ (x1 ≤ x2) → (False))
/-- java/util/Arrays.rangeCheck(III)V -/
def w_J7_rangeCheck_23922 (x0 : Int32) (x1 : Int32) (x2 : Int32) (Q : Prop) : Prop := w_J7_rangeCheck_23922_0 Q x0 x1 x2
def w_J7_fill_53178_b5 (o1 : Nat) (no1 : Nat) (Q : hp → Prop) (x1 : Int32) (x3 : Int32) (X5 : Int32 × hp → Prop) (x2 : Int32) (h : hp) : Prop :=
  (x3 ≤ x2 → (Q h)) ∧ (¬ (x3 ≤ x2) → (vp_in x2 no1 ∧ ∀ h3, h3 = sI h o1 (ix x2) x1 → (∀ x2_4, x2_4 = x2 + 1 → (X5 (x2_4, h3)))))
def w_J7_fill_53178_5 (o1 : Nat) (no1 : Nat) (Q : hp → Prop) (x1 : Int32) (x3 : Int32) (x2 : Int32) (h : hp) : Prop :=
  wLoop (fun X5 (q : Int32 × hp) => w_J7_fill_53178_b5 o1 no1 Q x1 x3 X5 q.1 q.2) (x2, h)
def w_J7_fill_53178_0 (o1 : Nat) (no1 : Nat) (Q : hp → Prop) (x1 : Int32) (h : hp) : Prop :=
  ∀ x3_1, x3_1 = nI no1 → (w_J7_fill_53178_5 o1 no1 Q x1 x3_1 0 h)
/-- java/util/Arrays.fill([II)V -/
def w_J7_fill_53178 (o1 : Nat) (no1 : Nat) (h : hp) (x1 : Int32) (Q : hp → Prop) : Prop := w_J7_fill_53178_0 o1 no1 Q x1 h
def w_J7_fill_fda19_b10 (o1 : Nat) (no1 : Nat) (Q : hp → Prop) (x2 : Int32) (x3 : Int32) (X10 : Int32 × hp → Prop) (x4 : Int32) (h : hp) : Prop :=
  (x2 ≤ x4 → (Q h)) ∧ (¬ (x2 ≤ x4) → (vp_in x4 no1 ∧ ∀ h3, h3 = sI h o1 (ix x4) x3 → (∀ x4_4, x4_4 = x4 + 1 → (X10 (x4_4, h3)))))
def w_J7_fill_fda19_10 (o1 : Nat) (no1 : Nat) (Q : hp → Prop) (x2 : Int32) (x3 : Int32) (x4 : Int32) (h : hp) : Prop :=
  wLoop (fun X10 (q : Int32 × hp) => w_J7_fill_fda19_b10 o1 no1 Q x2 x3 X10 q.1 q.2) (x4, h)
def w_J7_fill_fda19_0 (o1 : Nat) (no1 : Nat) (Q : hp → Prop) (x1 : Int32) (x2 : Int32) (x3 : Int32) (h : hp) : Prop :=
  w_J7_rangeCheck_23922 (nI no1) x1 x2 (w_J7_fill_fda19_10 o1 no1 Q x2 x3 x1 h)
/-- java/util/Arrays.fill([IIII)V -/
def w_J7_fill_fda19 (o1 : Nat) (no1 : Nat) (h : hp) (x1 : Int32) (x2 : Int32) (x3 : Int32) (Q : hp → Prop) : Prop := w_J7_fill_fda19_0 o1 no1 Q x1 x2 x3 h
def w_J7_fill_031fb_b5 (o1 : Nat) (no1 : Nat) (Q : hp → Prop) (x1 : Int32) (x3 : Int32) (X5 : Int32 × hp → Prop) (x2 : Int32) (h : hp) : Prop :=
  (x3 ≤ x2 → (Q h)) ∧ (¬ (x3 ≤ x2) → (vp_in x2 no1 ∧ ∀ h3, h3 = sI h o1 (ix x2) (jb x1) → (∀ x2_4, x2_4 = x2 + 1 → (X5 (x2_4, h3)))))
def w_J7_fill_031fb_5 (o1 : Nat) (no1 : Nat) (Q : hp → Prop) (x1 : Int32) (x3 : Int32) (x2 : Int32) (h : hp) : Prop :=
  wLoop (fun X5 (q : Int32 × hp) => w_J7_fill_031fb_b5 o1 no1 Q x1 x3 X5 q.1 q.2) (x2, h)
def w_J7_fill_031fb_0 (o1 : Nat) (no1 : Nat) (Q : hp → Prop) (x1 : Int32) (h : hp) : Prop :=
  ∀ x3_1, x3_1 = nI no1 → (w_J7_fill_031fb_5 o1 no1 Q x1 x3_1 0 h)
/-- java/util/Arrays.fill([BB)V -/
def w_J7_fill_031fb (o1 : Nat) (no1 : Nat) (h : hp) (x1 : Int32) (Q : hp → Prop) : Prop := w_J7_fill_031fb_0 o1 no1 Q x1 h
def w_X0_clear_0 (o : Nat) (Q : hp → Prop) (h : hp) : Prop :=
  ∀ h1, h1 = sI h o 0 0 → (vp_in 0 512 ∧ ∀ h2, h2 = sI h1 (o + 1) (ix 0) 0 → (Q h2))
/-- TwoAsks$Bags.clear()V -/
def w_X0_clear (o : Nat) (h : hp) (Q : hp → Prop) : Prop := w_X0_clear_0 o Q h
def w_X0_sets_0 (o : Nat) (Q : Int32 → Prop) (h : hp) : Prop :=
  Q (jshl 1 (gI h o 0))
/-- TwoAsks$Bags.sets()I -/
def w_X0_sets (o : Nat) (h : hp) (Q : Int32 → Prop) : Prop := w_X0_sets_0 o Q h
def w_X0_add_b17 (o : Nat) (Q : hp → Prop) (x1 : Int32) (x2 : Int32) (X17 : Int32 × hp → Prop) (x3 : Int32) (h : hp) : Prop :=
  (x2 ≤ x3 → (∀ h5, h5 = sI h o 0 ((gI h o 0) + 1) → (Q h5))) ∧ (¬ (x2 ≤ x3) → (vp_in x3 512 ∧ (vp_in (x2 + x3) 512 ∧ ∀ h6, h6 = sI h (o + 1) (ix (x2 + x3)) ((gI h (o + 1) (ix x3)) + x1) → (∀ x3_7, x3_7 = x3 + 1 → (X17 (x3_7, h6))))))
def w_X0_add_17 (o : Nat) (Q : hp → Prop) (x1 : Int32) (x2 : Int32) (x3 : Int32) (h : hp) : Prop :=
  wLoop (fun X17 (q : Int32 × hp) => w_X0_add_b17 o Q x1 x2 X17 q.1 q.2) (x3, h)
def w_X0_add_0 (o : Nat) (Q : hp → Prop) (x1 : Int32) (h : hp) : Prop :=
  ((gI h o 0) < 9 → (w_X0_sets o h (fun r2 => w_X0_add_17 o Q x1 r2 0 h))) ∧ (¬ ((gI h o 0) < 9) → (Q h))
/-- TwoAsks$Bags.add(I)V -/
def w_X0_add (o : Nat) (h : hp) (x1 : Int32) (Q : hp → Prop) : Prop := w_X0_add_0 o Q x1 h
def w_X0_setsOff_b5 (o : Nat) (Q : Int32 → Prop) (x1 : Int32) (x2 : Int32) (h : hp) (X5 : Int32 × Int32 → Prop) (x3 : Int32) (x4 : Int32) : Prop :=
  w_X0_sets o h (fun r1 => (r1 ≤ x4 → (Q x3)) ∧ (¬ (r1 ≤ x4) → (vp_in x4 512 ∧ ((¬ ((gI h (o + 1) (ix x4)) * x2) = x1 → (∀ x4_5, x4_5 = x4 + 1 → (X5 (x3, x4_5)))) ∧ (((gI h (o + 1) (ix x4)) * x2) = x1 → (∀ x3_6, x3_6 = x3 + 1 → (∀ x4_7, x4_7 = x4 + 1 → (X5 (x3_6, x4_7)))))))))
def w_X0_setsOff_5 (o : Nat) (Q : Int32 → Prop) (x1 : Int32) (x2 : Int32) (h : hp) (x3 : Int32) (x4 : Int32) : Prop :=
  wLoop (fun X5 (q : Int32 × Int32) => w_X0_setsOff_b5 o Q x1 x2 h X5 q.1 q.2) (x3, x4)
def w_X0_setsOff_0 (o : Nat) (Q : Int32 → Prop) (x1 : Int32) (x2 : Int32) (h : hp) : Prop :=
  w_X0_setsOff_5 o Q x1 x2 h 0 0
/-- TwoAsks$Bags.setsOff(II)I -/
def w_X0_setsOff (o : Nat) (h : hp) (x1 : Int32) (x2 : Int32) (Q : Int32 → Prop) : Prop := w_X0_setsOff_0 o Q x1 x2 h
def w_X0_leastSetOff_b2 (o : Nat) (Q : Int32 → Prop) (x1 : Int32) (x2 : Int32) (h : hp) (X2 : Int32 → Prop) (x3 : Int32) : Prop :=
  w_X0_sets o h (fun r1 => (r1 ≤ x3 → (Q (-2))) ∧ (¬ (r1 ≤ x3) → (vp_in x3 512 ∧ ((¬ ((gI h (o + 1) (ix x3)) * x2) = x1 → (∀ x3_5, x3_5 = x3 + 1 → (X2 x3_5))) ∧ (((gI h (o + 1) (ix x3)) * x2) = x1 → (Q x3))))))
def w_X0_leastSetOff_2 (o : Nat) (Q : Int32 → Prop) (x1 : Int32) (x2 : Int32) (h : hp) (x3 : Int32) : Prop :=
  wLoop (fun X2 (q : Int32) => w_X0_leastSetOff_b2 o Q x1 x2 h X2 q) x3
def w_X0_leastSetOff_0 (o : Nat) (Q : Int32 → Prop) (x1 : Int32) (x2 : Int32) (h : hp) : Prop :=
  w_X0_leastSetOff_2 o Q x1 x2 h 0
/-- TwoAsks$Bags.leastSetOff(II)I -/
def w_X0_leastSetOff (o : Nat) (h : hp) (x1 : Int32) (x2 : Int32) (Q : Int32 → Prop) : Prop := w_X0_leastSetOff_0 o Q x1 x2 h
def w_X0_leastBetweenMarks_b10 (o : Nat) (Q : Int32 → Prop) (h : hp) (X10 : Int32 × Int32 × Int32 → Prop) (x1 : Int32) (x2 : Int32) (x3 : Int32) : Prop :=
  (8992 ≤ x3 → (Q x1)) ∧ (¬ (8992 ≤ x3) → (vp_in x3 8992 ∧ (((gI h (o + 2) (ix x3)) = 0 → (∀ x3_3, x3_3 = x3 + 1 → (X10 (x1, x2, x3_3)))) ∧ (¬ ((gI h (o + 2) (ix x3)) = 0) → (∀ x1_4, x1_4 = (if (x3 - x2) < x1 then x3 - x2 else x1) → (∀ x3_5, x3_5 = x3 + 1 → (X10 (x1_4, x3, x3_5))))))))
def w_X0_leastBetweenMarks_10 (o : Nat) (Q : Int32 → Prop) (h : hp) (x1 : Int32) (x2 : Int32) (x3 : Int32) : Prop :=
  wLoop (fun X10 (q : Int32 × Int32 × Int32) => w_X0_leastBetweenMarks_b10 o Q h X10 q.1 q.2.1 q.2.2) (x1, x2, x3)
def w_X0_leastBetweenMarks_0 (o : Nat) (Q : Int32 → Prop) (h : hp) : Prop :=
  w_X0_leastBetweenMarks_10 o Q h 8992 0 1
/-- TwoAsks$Bags.leastBetweenMarks()I -/
def w_X0_leastBetweenMarks (o : Nat) (h : hp) (Q : Int32 → Prop) : Prop := w_X0_leastBetweenMarks_0 o Q h
def w_X0_leastGap_b20 (o : Nat) (Q : Int32 → hp → Prop) (X20 : Int32 × hp → Prop) (x1 : Int32) (h : hp) : Prop :=
  w_X0_sets o h (fun r3 => (r3 ≤ x1 → (w_X0_leastBetweenMarks o h (fun r6 => Q r6 h))) ∧ (¬ (r3 ≤ x1) → (vp_in x1 512 ∧ (∀ x2_8, x2_8 = gI h (o + 1) (ix x1) → ((8992 ≤ x2_8 → (Q 0 h)) ∧ (¬ (8992 ≤ x2_8) → (vp_in x2_8 8992 ∧ (((gI h (o + 2) (ix x2_8)) = 0 → (vp_in x2_8 8992 ∧ ∀ h11, h11 = sI h (o + 2) (ix x2_8) (jb 1) → (∀ x1_12, x1_12 = x1 + 1 → (X20 (x1_12, h11))))) ∧ (¬ ((gI h (o + 2) (ix x2_8)) = 0) → (Q 0 h))))))))))
def w_X0_leastGap_20 (o : Nat) (Q : Int32 → hp → Prop) (x1 : Int32) (h : hp) : Prop :=
  wLoop (fun X20 (q : Int32 × hp) => w_X0_leastGap_b20 o Q X20 q.1 q.2) (x1, h)
def w_X0_leastGap_0 (o : Nat) (Q : Int32 → hp → Prop) (h : hp) : Prop :=
  (¬ (gI h o 0) = 0 → (w_J7_fill_031fb (o + 2) 8992 h 0 (fun h2 => w_X0_leastGap_20 o Q 0 h2))) ∧ ((gI h o 0) = 0 → (Q (-2) h))
/-- TwoAsks$Bags.leastGap()I -/
def w_X0_leastGap (o : Nat) (h : hp) (Q : Int32 → hp → Prop) : Prop := w_X0_leastGap_0 o Q h
def w_X1_takeAll_b13 (Q : hp → Prop) (X13 : Int32 × hp → Prop) (x1 : Int32) (h : hp) : Prop :=
  ((gI h 71 1) ≤ x1 → (Q h)) ∧ (¬ ((gI h 71 1) ≤ x1) → (vp_in x1 10000 ∧ ∀ h3, h3 = sI h 72 (ix x1) x1 → (∀ x1_4, x1_4 = x1 + 1 → (X13 (x1_4, h3)))))
def w_X1_takeAll_13 (Q : hp → Prop) (x1 : Int32) (h : hp) : Prop :=
  wLoop (fun X13 (q : Int32 × hp) => w_X1_takeAll_b13 Q X13 q.1 q.2) (x1, h)
def w_X1_takeAll_0 (Q : hp → Prop) (h : hp) : Prop :=
  ∀ h1, h1 = sI h 71 1 (gI h 64 1) → (w_X1_takeAll_13 Q 0 h1)
/-- TwoAsks$Fitting.takeAll()V -/
def w_X1_takeAll (h : hp) (Q : hp → Prop) : Prop := w_X1_takeAll_0 Q h
def w_X1_keep_b5 (Q : hp → Prop) (x1 : Int64) (X5 : Int32 × Int32 × hp → Prop) (x3 : Int32) (x4 : Int32) (h : hp) : Prop :=
  ((gI h 71 1) ≤ x4 → (∀ h2, h2 = sI h 71 1 x3 → (Q h2))) ∧ (¬ ((gI h 71 1) ≤ x4) → (vp_in x4 10000 ∧ (vp_in (gI h 72 (ix x4)) 10000 ∧ ((¬ (gL h 65 (ix (gI h 72 (ix x4)))) = x1 → (∀ x4_4, x4_4 = x4 + 1 → (X5 (x3, x4_4, h)))) ∧ ((gL h 65 (ix (gI h 72 (ix x4)))) = x1 → (vp_in x4 10000 ∧ (vp_in x3 10000 ∧ ∀ h5, h5 = sI h 72 (ix x3) (gI h 72 (ix x4)) → (∀ x3_6, x3_6 = x3 + 1 → (∀ x4_7, x4_7 = x4 + 1 → (X5 (x3_6, x4_7, h5)))))))))))
def w_X1_keep_5 (Q : hp → Prop) (x1 : Int64) (x3 : Int32) (x4 : Int32) (h : hp) : Prop :=
  wLoop (fun X5 (q : Int32 × Int32 × hp) => w_X1_keep_b5 Q x1 X5 q.1 q.2.1 q.2.2) (x3, x4, h)
def w_X1_keep_0 (Q : hp → Prop) (x1 : Int64) (h : hp) : Prop :=
  w_X1_keep_5 Q x1 0 0 h
/-- TwoAsks$Fitting.keep(J)V -/
def w_X1_keep (h : hp) (x1 : Int64) (Q : hp → Prop) : Prop := w_X1_keep_0 Q x1 h
def w_X10_comeBy_b30 (Q : hp → Prop) (X15 : Int32 × Int64 × Int32 × hp → Prop) (x1 : Int64) (x4 : Int64) (x6 : Int32) (x7 : Int32) (X30 : Int32 × Int32 × hp → Prop) (x3 : Int32) (x8 : Int32) (h : hp) : Prop :=
  ((x7 * (gI h 64 2)) ≤ x8 → (∀ x4_4, x4_4 = x4 * x1 → (∀ x6_5, x6_5 = x6 + 1 → (X15 (x3, x4_4, x6_5, h))))) ∧ (¬ ((x7 * (gI h 64 2)) ≤ x8) → ((10000 ≤ x3 → (∀ x4_7, x4_7 = x4 * x1 → (∀ x6_8, x6_8 = x6 + 1 → (X15 (x3, x4_7, x6_8, h))))) ∧ (¬ (10000 ≤ x3) → (vp_in (x3 - x7) 10000 ∧ (vp_in x3 10000 ∧ ∀ h9, h9 = sL h 65 (ix x3) ((gL h 65 (ix (x3 - x7))) + x4) → (∀ x3_10, x3_10 = x3 + 1 → (∀ x8_11, x8_11 = x8 + 1 → (X30 (x3_10, x8_11, h9)))))))))
def w_X10_comeBy_30 (Q : hp → Prop) (X15 : Int32 × Int64 × Int32 × hp → Prop) (x1 : Int64) (x4 : Int64) (x6 : Int32) (x7 : Int32) (x3 : Int32) (x8 : Int32) (h : hp) : Prop :=
  wLoop (fun X30 (q : Int32 × Int32 × hp) => w_X10_comeBy_b30 Q X15 x1 x4 x6 x7 X30 q.1 q.2.1 q.2.2) (x3, x8, h)
def w_X10_comeBy_b15 (Q : hp → Prop) (x1 : Int64) (X15 : Int32 × Int64 × Int32 × hp → Prop) (x3 : Int32) (x4 : Int64) (x6 : Int32) (h : hp) : Prop :=
  ((gI h 64 0) ≤ x6 → (Q h)) ∧ (¬ ((gI h 64 0) ≤ x6) → (w_X10_comeBy_30 Q X15 x1 x4 x6 x3 x3 0 h))
def w_X10_comeBy_15 (Q : hp → Prop) (x1 : Int64) (x3 : Int32) (x4 : Int64) (x6 : Int32) (h : hp) : Prop :=
  wLoop (fun X15 (q : Int32 × Int64 × Int32 × hp) => w_X10_comeBy_b15 Q x1 X15 q.1 q.2.1 q.2.2.1 q.2.2.2) (x3, x4, x6, h)
def w_X10_comeBy_0 (Q : hp → Prop) (x1 : Int64) (h : hp) : Prop :=
  vp_in 0 10000 ∧ ∀ h1, h1 = sL h 65 (ix 0) 0 → (w_X10_comeBy_15 Q x1 1 1 0 h1)
/-- TwoAsks$Worlds.comeBy(J)V -/
def w_X10_comeBy (h : hp) (x1 : Int64) (Q : hp → Prop) : Prop := w_X10_comeBy_0 Q x1 h
def w_X1_dropWrong_50 (Q : hp → Prop) (X6 : Int32 × Int32 × hp → Prop) (x1 : Int64) (x3 : Int32) (x4 : Int32) (x5 : Int32) (x6 : Int32) (h : hp) : Prop :=
  vp_in x6 10000 ∧ ((x3 < (gI h 73 (ix x6)) → (∀ x5_7, x5_7 = x5 + 1 → (X6 (x4, x5_7, h)))) ∧ (¬ (x3 < (gI h 73 (ix x6))) → (vp_in x4 10000 ∧ ∀ h8, h8 = sI h 72 (ix x4) x6 → (∀ x4_9, x4_9 = x4 + 1 → (∀ x5_10, x5_10 = x5 + 1 → (X6 (x4_9, x5_10, h8)))))))
def w_X1_dropWrong_b6 (Q : hp → Prop) (x1 : Int64) (x3 : Int32) (X6 : Int32 × Int32 × hp → Prop) (x4 : Int32) (x5 : Int32) (h : hp) : Prop :=
  ((gI h 71 1) ≤ x5 → (∀ h2, h2 = sI h 71 1 x4 → (Q h2))) ∧ (¬ ((gI h 71 1) ≤ x5) → (vp_in x5 10000 ∧ (∀ x6_3, x6_3 = gI h 72 (ix x5) → (vp_in x6_3 10000 ∧ (((gL h 65 (ix x6_3)) = x1 → (w_X1_dropWrong_50 Q X6 x1 x3 x4 x5 x6_3 h)) ∧ (¬ ((gL h 65 (ix x6_3)) = x1) → (vp_in x6_3 10000 ∧ (vp_in x6_3 10000 ∧ ∀ h5, h5 = sI h 73 (ix x6_3) ((gI h 73 (ix x6_3)) + 1) → (w_X1_dropWrong_50 Q X6 x1 x3 x4 x5 x6_3 h5)))))))))
def w_X1_dropWrong_6 (Q : hp → Prop) (x1 : Int64) (x3 : Int32) (x4 : Int32) (x5 : Int32) (h : hp) : Prop :=
  wLoop (fun X6 (q : Int32 × Int32 × hp) => w_X1_dropWrong_b6 Q x1 x3 X6 q.1 q.2.1 q.2.2) (x4, x5, h)
def w_X1_dropWrong_0 (Q : hp → Prop) (x1 : Int64) (x3 : Int32) (h : hp) : Prop :=
  w_X1_dropWrong_6 Q x1 x3 0 0 h
/-- TwoAsks$Fitting.dropWrong(JI)V -/
def w_X1_dropWrong (h : hp) (x1 : Int64) (x3 : Int32) (Q : hp → Prop) : Prop := w_X1_dropWrong_0 Q x1 x3 h
def w_X1_select_b73 (o1 : Nat) (Q : hp → Prop) (x2 : Int32) (x3 : Int32) (X73 : Int32 × hp → Prop) (x5 : Int32) (h : hp) : Prop :=
  (x2 ≤ x5 → (Q h)) ∧ (¬ (x2 ≤ x5) → (vp_in x5 20 ∧ (w_X10_comeBy h ((gI h (o1 + 1) (ix x5)).toInt64) (fun h10 => vp_in x5 20 ∧ (w_X1_dropWrong h10 (gL h10 (o1 + 2) (ix x5)) x3 (fun h11 => ∀ x5_12, x5_12 = x5 + 1 → (X73 (x5_12, h11))))))))
def w_X1_select_73 (o1 : Nat) (Q : hp → Prop) (x2 : Int32) (x3 : Int32) (x5 : Int32) (h : hp) : Prop :=
  wLoop (fun X73 (q : Int32 × hp) => w_X1_select_b73 o1 Q x2 x3 X73 q.1 q.2) (x5, h)
def w_X1_select_b8 (o1 : Nat) (Q : hp → Prop) (x2 : Int32) (x3 : Int32) (x4 : Int32) (X8 : Int32 × hp → Prop) (x5 : Int32) (h : hp) : Prop :=
  ((gI h 64 1) ≤ x5 → (w_X1_select_73 o1 Q x2 x3 0 h)) ∧ (¬ ((gI h 64 1) ≤ x5) → (vp_in x5 10000 ∧ ((x4 < (gI h 66 (ix x5)) → (∀ x5_4, x5_4 = x5 + 1 → (X8 (x5_4, h)))) ∧ (¬ (x4 < (gI h 66 (ix x5))) → (vp_in (gI h 71 1) 10000 ∧ ∀ h5, h5 = sI h 72 (ix (gI h 71 1)) x5 → (vp_in x5 10000 ∧ ∀ h6, h6 = sI h5 73 (ix x5) 0 → (∀ h7, h7 = sI h6 71 1 ((gI h6 71 1) + 1) → (∀ x5_8, x5_8 = x5 + 1 → (X8 (x5_8, h7))))))))))
def w_X1_select_8 (o1 : Nat) (Q : hp → Prop) (x2 : Int32) (x3 : Int32) (x4 : Int32) (x5 : Int32) (h : hp) : Prop :=
  wLoop (fun X8 (q : Int32 × hp) => w_X1_select_b8 o1 Q x2 x3 x4 X8 q.1 q.2) (x5, h)
def w_X1_select_0 (o1 : Nat) (Q : hp → Prop) (x2 : Int32) (x3 : Int32) (x4 : Int32) (h : hp) : Prop :=
  ∀ h1, h1 = sI h 71 1 0 → (w_X1_select_8 o1 Q x2 x3 x4 0 h1)
/-- TwoAsks$Fitting.select(LTwoAsks$Told;III)V -/
def w_X1_select (o1 : Nat) (h : hp) (x2 : Int32) (x3 : Int32) (x4 : Int32) (Q : hp → Prop) : Prop := w_X1_select_0 o1 Q x2 x3 x4 h
def w_X10_numberAt_b17 (Q : Int32 → Prop) (x2 : Int32) (x4 : Int32) (h : hp) (X17 : Int32 × Int32 → Prop) (x3 : Int32) (x5 : Int32) : Prop :=
  (x2 ≤ x5 → (¬ x4 = 0 ∧ (Q (jrem x3 x4)))) ∧ (¬ (x2 ≤ x5) → (¬ x4 = 0 ∧ (∀ x3_3, x3_3 = x3 / x4 → (∀ x5_4, x5_4 = x5 + 1 → (X17 (x3_3, x5_4))))))
def w_X10_numberAt_17 (Q : Int32 → Prop) (x2 : Int32) (x4 : Int32) (h : hp) (x3 : Int32) (x5 : Int32) : Prop :=
  wLoop (fun X17 (q : Int32 × Int32) => w_X10_numberAt_b17 Q x2 x4 h X17 q.1 q.2) (x3, x5)
def w_X10_numberAt_0 (Q : Int32 → Prop) (x1 : Int32) (x2 : Int32) (h : hp) : Prop :=
  ∀ x4_1, x4_1 = (if ((gI h 64 2) + 1) < 2 then 2 else (gI h 64 2) + 1) → (w_X10_numberAt_17 Q x2 x4_1 h x1 0)
/-- TwoAsks$Worlds.numberAt(II)I -/
def w_X10_numberAt (h : hp) (x1 : Int32) (x2 : Int32) (Q : Int32 → Prop) : Prop := w_X10_numberAt_0 Q x1 x2 h
def w_X1_leastAt_b5 (Q : Int32 → Prop) (x1 : Int32) (h : hp) (X5 : Int32 × Int32 → Prop) (x2 : Int32) (x3 : Int32) : Prop :=
  ((gI h 71 1) ≤ x3 → (Q x2)) ∧ (¬ ((gI h 71 1) ≤ x3) → (vp_in x3 10000 ∧ (w_X10_numberAt h (gI h 72 (ix x3)) x1 (fun r2 => ∀ x2_4, x2_4 = (if r2 < x2 then r2 else x2) → (∀ x3_5, x3_5 = x3 + 1 → (X5 (x2_4, x3_5)))))))
def w_X1_leastAt_5 (Q : Int32 → Prop) (x1 : Int32) (h : hp) (x2 : Int32) (x3 : Int32) : Prop :=
  wLoop (fun X5 (q : Int32 × Int32) => w_X1_leastAt_b5 Q x1 h X5 q.1 q.2) (x2, x3)
def w_X1_leastAt_0 (Q : Int32 → Prop) (x1 : Int32) (h : hp) : Prop :=
  w_X1_leastAt_5 Q x1 h 9 0
/-- TwoAsks$Fitting.leastAt(I)I -/
def w_X1_leastAt (h : hp) (x1 : Int32) (Q : Int32 → Prop) : Prop := w_X1_leastAt_0 Q x1 h
def w_X1_greatestAt_b4 (Q : Int32 → Prop) (x1 : Int32) (h : hp) (X4 : Int32 × Int32 → Prop) (x2 : Int32) (x3 : Int32) : Prop :=
  ((gI h 71 1) ≤ x3 → (Q x2)) ∧ (¬ ((gI h 71 1) ≤ x3) → (vp_in x3 10000 ∧ (w_X10_numberAt h (gI h 72 (ix x3)) x1 (fun r2 => ∀ x2_4, x2_4 = (if x2 < r2 then r2 else x2) → (∀ x3_5, x3_5 = x3 + 1 → (X4 (x2_4, x3_5)))))))
def w_X1_greatestAt_4 (Q : Int32 → Prop) (x1 : Int32) (h : hp) (x2 : Int32) (x3 : Int32) : Prop :=
  wLoop (fun X4 (q : Int32 × Int32) => w_X1_greatestAt_b4 Q x1 h X4 q.1 q.2) (x2, x3)
def w_X1_greatestAt_0 (Q : Int32 → Prop) (x1 : Int32) (h : hp) : Prop :=
  w_X1_greatestAt_4 Q x1 h 0 0
/-- TwoAsks$Fitting.greatestAt(I)I -/
def w_X1_greatestAt (h : hp) (x1 : Int32) (Q : Int32 → Prop) : Prop := w_X1_greatestAt_0 Q x1 h
def w_X1_surePlaces_b4 (Q : Int32 → Prop) (h : hp) (X4 : Int32 × Int32 → Prop) (x1 : Int32) (x2 : Int32) : Prop :=
  ((gI h 64 0) ≤ x2 → (Q x1)) ∧ (¬ ((gI h 64 0) ≤ x2) → (((gI h 71 1) ≤ 0 → (Q x1)) ∧ (¬ ((gI h 71 1) ≤ 0) → (w_X1_leastAt h x2 (fun r3 => w_X1_greatestAt h x2 (fun r5 => (¬ r3 = r5 → (∀ x2_8, x2_8 = x2 + 1 → (X4 (x1, x2_8)))) ∧ (r3 = r5 → (∀ x1_9, x1_9 = x1 ||| (jshl 1 x2) → (∀ x2_10, x2_10 = x2 + 1 → (X4 (x1_9, x2_10)))))))))))
def w_X1_surePlaces_4 (Q : Int32 → Prop) (h : hp) (x1 : Int32) (x2 : Int32) : Prop :=
  wLoop (fun X4 (q : Int32 × Int32) => w_X1_surePlaces_b4 Q h X4 q.1 q.2) (x1, x2)
def w_X1_surePlaces_0 (Q : Int32 → Prop) (h : hp) : Prop :=
  w_X1_surePlaces_4 Q h 0 0
/-- TwoAsks$Fitting.surePlaces()I -/
def w_X1_surePlaces (h : hp) (Q : Int32 → Prop) : Prop := w_X1_surePlaces_0 Q h
def w_X1_isSoForSome_b2 (Q : Int32 → Prop) (x1 : Int64) (h : hp) (X2 : Int32 → Prop) (x3 : Int32) : Prop :=
  ((gI h 71 1) ≤ x3 → (Q 0)) ∧ (¬ ((gI h 71 1) ≤ x3) → (vp_in x3 10000 ∧ (vp_in (gI h 72 (ix x3)) 10000 ∧ ((¬ (gL h 65 (ix (gI h 72 (ix x3)))) = x1 → (∀ x3_3, x3_3 = x3 + 1 → (X2 x3_3))) ∧ ((gL h 65 (ix (gI h 72 (ix x3)))) = x1 → (Q 1))))))
def w_X1_isSoForSome_2 (Q : Int32 → Prop) (x1 : Int64) (h : hp) (x3 : Int32) : Prop :=
  wLoop (fun X2 (q : Int32) => w_X1_isSoForSome_b2 Q x1 h X2 q) x3
def w_X1_isSoForSome_0 (Q : Int32 → Prop) (x1 : Int64) (h : hp) : Prop :=
  w_X1_isSoForSome_2 Q x1 h 0
/-- TwoAsks$Fitting.isSoForSome(J)Z -/
def w_X1_isSoForSome (h : hp) (x1 : Int64) (Q : Int32 → Prop) : Prop := w_X1_isSoForSome_0 Q x1 h
def w_X1_sureLiars_b5 (o1 : Nat) (Q : Int32 → hp → Prop) (x2 : Int32) (X5 : Int32 × Int32 × hp → Prop) (x3 : Int32) (x4 : Int32) (h : hp) : Prop :=
  (x2 ≤ x4 → (Q x3 h)) ∧ (¬ (x2 ≤ x4) → (((gI h 71 1) ≤ 0 → (Q x3 h)) ∧ (¬ ((gI h 71 1) ≤ 0) → (vp_in x4 20 ∧ (w_X10_comeBy h ((gI h (o1 + 1) (ix x4)).toInt64) (fun h3 => vp_in x4 20 ∧ (w_X1_isSoForSome h3 (gL h3 (o1 + 2) (ix x4)) (fun r4 => (¬ r4 = 0 → (∀ x4_7, x4_7 = x4 + 1 → (X5 (x3, x4_7, h3)))) ∧ (r4 = 0 → (∀ x3_8, x3_8 = x3 ||| (jshl 1 x4) → (∀ x4_9, x4_9 = x4 + 1 → (X5 (x3_8, x4_9, h3)))))))))))))
def w_X1_sureLiars_5 (o1 : Nat) (Q : Int32 → hp → Prop) (x2 : Int32) (x3 : Int32) (x4 : Int32) (h : hp) : Prop :=
  wLoop (fun X5 (q : Int32 × Int32 × hp) => w_X1_sureLiars_b5 o1 Q x2 X5 q.1 q.2.1 q.2.2) (x3, x4, h)
def w_X1_sureLiars_0 (o1 : Nat) (Q : Int32 → hp → Prop) (x2 : Int32) (h : hp) : Prop :=
  w_X1_sureLiars_5 o1 Q x2 0 0 h
/-- TwoAsks$Fitting.sureLiars(LTwoAsks$Told;I)I -/
def w_X1_sureLiars (o1 : Nat) (h : hp) (x2 : Int32) (Q : Int32 → hp → Prop) : Prop := w_X1_sureLiars_0 o1 Q x2 h
def w_X4_clear_41 (Q : hp → Prop) (h : hp) : Prop :=
  w_J7_fill_fda19 70 16384 h 0 (gI h 68 2) 0 (fun h5 => Q h5)
def w_X4_clear_b6 (Q : hp → Prop) (x1 : Int32) (X6 : hp → Prop) (h : hp) : Prop :=
  (16384 ≤ (gI h 68 2) → (w_X4_clear_41 Q h)) ∧ (¬ (16384 ≤ (gI h 68 2)) → (((x1 + (x1 / 2)) ≤ (gI h 68 2) → (w_X4_clear_41 Q h)) ∧ (¬ ((x1 + (x1 / 2)) ≤ (gI h 68 2)) → (∀ h4, h4 = sI h 68 2 ((gI h 68 2) * 2) → (X6 h4)))))
def w_X4_clear_6 (Q : hp → Prop) (x1 : Int32) (h : hp) : Prop :=
  wLoop (fun X6 (q : hp) => w_X4_clear_b6 Q x1 X6 q) h
def w_X4_clear_0 (Q : hp → Prop) (x1 : Int32) (h : hp) : Prop :=
  ∀ h1, h1 = sI h 68 2 16 → (w_X4_clear_6 Q x1 h1)
/-- TwoAsks$Leaders.clear(I)V -/
def w_X4_clear (h : hp) (x1 : Int32) (Q : hp → Prop) : Prop := w_X4_clear_0 Q x1 h
def w_X4_leaderOf_b21 (Q : Int32 → hp → Prop) (x1 : Int64) (x3 : Int32) (h : hp) (X21 : Int32 × Int32 → Prop) (x4 : Int32) (x5 : Int32) : Prop :=
  ((gI h 68 2) ≤ x5 → (Q x3 h)) ∧ (¬ ((gI h 68 2) ≤ x5) → (vp_in x4 16384 ∧ ((¬ (gI h 70 (ix x4)) = 0 → (vp_in x4 16384 ∧ ((¬ (gL h 69 (ix x4)) = x1 → (∀ x4_5, x4_5 = (x4 + 1) &&& ((gI h 68 2) - 1) → (∀ x5_6, x5_6 = x5 + 1 → (X21 (x4_5, x5_6))))) ∧ ((gL h 69 (ix x4)) = x1 → (vp_in x4 16384 ∧ (Q ((gI h 70 (ix x4)) - 1) h)))))) ∧ ((gI h 70 (ix x4)) = 0 → (vp_in x4 16384 ∧ ∀ h7, h7 = sI h 70 (ix x4) (x3 + 1) → (vp_in x4 16384 ∧ ∀ h8, h8 = sL h7 69 (ix x4) x1 → (Q x3 h8)))))))
def w_X4_leaderOf_21 (Q : Int32 → hp → Prop) (x1 : Int64) (x3 : Int32) (h : hp) (x4 : Int32) (x5 : Int32) : Prop :=
  wLoop (fun X21 (q : Int32 × Int32) => w_X4_leaderOf_b21 Q x1 x3 h X21 q.1 q.2) (x4, x5)
def w_X4_leaderOf_0 (Q : Int32 → hp → Prop) (x1 : Int64) (x3 : Int32) (h : hp) : Prop :=
  ∀ x4_1, x4_1 = ((lushr (x1 * (-7046029254386353131)) 48).toInt32) &&& ((gI h 68 2) - 1) → (w_X4_leaderOf_21 Q x1 x3 h x4_1 0)
/-- TwoAsks$Leaders.leaderOf(JI)I -/
def w_X4_leaderOf (h : hp) (x1 : Int64) (x3 : Int32) (Q : Int32 → hp → Prop) : Prop := w_X4_leaderOf_0 Q x1 x3 h
def w_X1_mostAlike_b41 (Q : Int32 → hp → Prop) (x2 : Int32) (X41 : Int32 × Int32 × hp → Prop) (x3 : Int32) (x4 : Int32) (h : hp) : Prop :=
  ((gI h 71 1) ≤ x4 → (Q x3 h)) ∧ (¬ ((gI h 71 1) ≤ x4) → ((x2 ≤ x3 → (Q x3 h)) ∧ (¬ (x2 ≤ x3) → (vp_in x4 10000 ∧ (vp_in (gI h 72 (ix x4)) 10000 ∧ (w_X4_leaderOf h (gL h 65 (ix (gI h 72 (ix x4)))) x4 (fun r7 h6 => vp_in r7 10000 ∧ (vp_in r7 10000 ∧ ∀ h8, h8 = sI h6 73 (ix r7) ((gI h6 73 (ix r7)) + 1) → (vp_in r7 10000 ∧ (∀ x3_9, x3_9 = (if x3 < (gI h8 73 (ix r7)) then gI h8 73 (ix r7) else x3) → (∀ x4_10, x4_10 = x4 + 1 → (X41 (x3_9, x4_10, h8)))))))))))))
def w_X1_mostAlike_41 (Q : Int32 → hp → Prop) (x2 : Int32) (x3 : Int32) (x4 : Int32) (h : hp) : Prop :=
  wLoop (fun X41 (q : Int32 × Int32 × hp) => w_X1_mostAlike_b41 Q x2 X41 q.1 q.2.1 q.2.2) (x3, x4, h)
def w_X1_mostAlike_0 (Q : Int32 → hp → Prop) (x1 : Int32) (x2 : Int32) (h : hp) : Prop :=
  w_X10_comeBy h (x1.toInt64) (fun h1 => w_X4_clear h1 (gI h1 71 1) (fun h2 => w_J7_fill_fda19 73 10000 h2 0 (gI h2 71 1) 0 (fun h3 => w_X1_mostAlike_41 Q x2 0 0 h3)))
/-- TwoAsks$Fitting.mostAlike(II)I -/
def w_X1_mostAlike (h : hp) (x1 : Int32) (x2 : Int32) (Q : Int32 → hp → Prop) : Prop := w_X1_mostAlike_0 Q x1 x2 h
def w_X1_findQuestion_b19 (Q : hp → Prop) (X19 : Int32 × hp → Prop) (x1 : Int32) (h : hp) : Prop :=
  (9 < x1 → (Q h)) ∧ (¬ (9 < x1) → (((gI h 71 3) ≤ 1 → (Q h)) ∧ (¬ ((gI h 71 3) ≤ 1) → (w_X1_mostAlike h x1 (gI h 71 3) (fun r6 h5 => ((gI h5 71 3) ≤ r6 → (∀ x1_8, x1_8 = x1 + 1 → (X19 (x1_8, h5)))) ∧ (¬ ((gI h5 71 3) ≤ r6) → (∀ h9, h9 = sI h5 71 2 x1 → (∀ h10, h10 = sI h9 71 3 r6 → (∀ x1_11, x1_11 = x1 + 1 → (X19 (x1_11, h10)))))))))))
def w_X1_findQuestion_19 (Q : hp → Prop) (x1 : Int32) (h : hp) : Prop :=
  wLoop (fun X19 (q : Int32 × hp) => w_X1_findQuestion_b19 Q X19 q.1 q.2) (x1, h)
def w_X1_findQuestion_0 (Q : hp → Prop) (h : hp) : Prop :=
  ∀ h1, h1 = sI h 71 2 (-9) → (∀ h2, h2 = sI h1 71 3 ((gI h1 71 1) + 1) → (w_X1_findQuestion_19 Q (-9) h2))
/-- TwoAsks$Fitting.findQuestion()V -/
def w_X1_findQuestion (h : hp) (Q : hp → Prop) : Prop := w_X1_findQuestion_0 Q h
def w_X1_fillAnswers_b22 (Q : hp → Prop) (X2 : Int32 × hp → Prop) (x1 : Int32) (X22 : Int32 × hp → Prop) (x2 : Int32) (h : hp) : Prop :=
  ((gI h 71 1) ≤ x2 → (∀ x1_4, x1_4 = x1 + 1 → (X2 (x1_4, h)))) ∧ (¬ ((gI h 71 1) ≤ x2) → (vp_in x1 19 ∧ (vp_in x2 10000 ∧ (vp_in (gI h 72 (ix x2)) 10000 ∧ (vp_in x2 24 ∧ ∀ h6, h6 = sL h (75 + ix x1) (ix x2) (gL h 65 (ix (gI h 72 (ix x2)))) → (∀ x2_7, x2_7 = x2 + 1 → (X22 (x2_7, h6))))))))
def w_X1_fillAnswers_22 (Q : hp → Prop) (X2 : Int32 × hp → Prop) (x1 : Int32) (x2 : Int32) (h : hp) : Prop :=
  wLoop (fun X22 (q : Int32 × hp) => w_X1_fillAnswers_b22 Q X2 x1 X22 q.1 q.2) (x2, h)
def w_X1_fillAnswers_b2 (Q : hp → Prop) (X2 : Int32 × hp → Prop) (x1 : Int32) (h : hp) : Prop :=
  (19 ≤ x1 → (Q h)) ∧ (¬ (19 ≤ x1) → (w_X10_comeBy h ((x1 - 9).toInt64) (fun h2 => w_X1_fillAnswers_22 Q X2 x1 0 h2)))
def w_X1_fillAnswers_2 (Q : hp → Prop) (x1 : Int32) (h : hp) : Prop :=
  wLoop (fun X2 (q : Int32 × hp) => w_X1_fillAnswers_b2 Q X2 q.1 q.2) (x1, h)
def w_X1_fillAnswers_0 (Q : hp → Prop) (h : hp) : Prop :=
  w_X1_fillAnswers_2 Q 0 h
/-- TwoAsks$Fitting.fillAnswers()V -/
def w_X1_fillAnswers (h : hp) (Q : hp → Prop) : Prop := w_X1_fillAnswers_0 Q h
def w_X1_isApartBy_b13 (Q : Int32 → Prop) (X2 : Int32 → Prop) (x1 : Int32) (x2 : Int32) (x3 : Int32) (h : hp) (X13 : Int32 → Prop) (x4 : Int32) : Prop :=
  (x3 ≤ x4 → (∀ x3_3, x3_3 = x3 + 1 → (X2 x3_3))) ∧ (¬ (x3 ≤ x4) → (((((jshr x1 x3) &&& (jshr x1 x4)) &&& 1) = 0 → (∀ x4_5, x4_5 = x4 + 1 → (X13 x4_5))) ∧ (¬ ((((jshr x1 x3) &&& (jshr x1 x4)) &&& 1) = 0) → (vp_in x2 19 ∧ (vp_in x3 24 ∧ (vp_in x2 19 ∧ (vp_in x4 24 ∧ ((¬ (gL h (75 + ix x2) (ix x3)) = (gL h (75 + ix x2) (ix x4)) → (∀ x4_9, x4_9 = x4 + 1 → (X13 x4_9))) ∧ ((gL h (75 + ix x2) (ix x3)) = (gL h (75 + ix x2) (ix x4)) → (Q 0))))))))))
def w_X1_isApartBy_13 (Q : Int32 → Prop) (X2 : Int32 → Prop) (x1 : Int32) (x2 : Int32) (x3 : Int32) (h : hp) (x4 : Int32) : Prop :=
  wLoop (fun X13 (q : Int32) => w_X1_isApartBy_b13 Q X2 x1 x2 x3 h X13 q) x4
def w_X1_isApartBy_b2 (Q : Int32 → Prop) (x1 : Int32) (x2 : Int32) (h : hp) (X2 : Int32 → Prop) (x3 : Int32) : Prop :=
  ((gI h 71 1) ≤ x3 → (Q 1)) ∧ (¬ ((gI h 71 1) ≤ x3) → (w_X1_isApartBy_13 Q X2 x1 x2 x3 h 0))
def w_X1_isApartBy_2 (Q : Int32 → Prop) (x1 : Int32) (x2 : Int32) (h : hp) (x3 : Int32) : Prop :=
  wLoop (fun X2 (q : Int32) => w_X1_isApartBy_b2 Q x1 x2 h X2 q) x3
def w_X1_isApartBy_0 (Q : Int32 → Prop) (x1 : Int32) (x2 : Int32) (h : hp) : Prop :=
  w_X1_isApartBy_2 Q x1 x2 h 0
/-- TwoAsks$Fitting.isApartBy(II)Z -/
def w_X1_isApartBy (h : hp) (x1 : Int32) (x2 : Int32) (Q : Int32 → Prop) : Prop := w_X1_isApartBy_0 Q x1 x2 h
def w_X1_isToldApart_b2 (Q : Int32 → Prop) (x1 : Int32) (h : hp) (X2 : Int32 → Prop) (x2 : Int32) : Prop :=
  (19 ≤ x2 → (Q 0)) ∧ (¬ (19 ≤ x2) → (w_X1_isApartBy h x1 x2 (fun r2 => (r2 = 0 → (∀ x2_5, x2_5 = x2 + 1 → (X2 x2_5))) ∧ (¬ (r2 = 0) → (Q 1)))))
def w_X1_isToldApart_2 (Q : Int32 → Prop) (x1 : Int32) (h : hp) (x2 : Int32) : Prop :=
  wLoop (fun X2 (q : Int32) => w_X1_isToldApart_b2 Q x1 h X2 q) x2
def w_X1_isToldApart_0 (Q : Int32 → Prop) (x1 : Int32) (h : hp) : Prop :=
  w_X1_isToldApart_2 Q x1 h 0
/-- TwoAsks$Fitting.isToldApart(I)Z -/
def w_X1_isToldApart (h : hp) (x1 : Int32) (Q : Int32 → Prop) : Prop := w_X1_isToldApart_0 Q x1 h
def w_X1_groupOf_b5 (Q : Int32 → Prop) (x1 : Int32) (x2 : Int32) (h : hp) (X5 : Int32 × Int32 → Prop) (x3 : Int32) (x4 : Int32) : Prop :=
  ((gI h 71 1) ≤ x4 → (Q x3)) ∧ (¬ ((gI h 71 1) ≤ x4) → (vp_in x2 19 ∧ (vp_in x4 24 ∧ (vp_in x2 19 ∧ (vp_in x1 24 ∧ ((¬ (gL h (75 + ix x2) (ix x4)) = (gL h (75 + ix x2) (ix x1)) → (∀ x4_5, x4_5 = x4 + 1 → (X5 (x3, x4_5)))) ∧ ((gL h (75 + ix x2) (ix x4)) = (gL h (75 + ix x2) (ix x1)) → ((x1 ≤ x4 → (∀ x3_7, x3_7 = x3 ||| (jshl 1 x4) → (∀ x4_8, x4_8 = x4 + 1 → (X5 (x3_7, x4_8))))) ∧ (¬ (x1 ≤ x4) → (Q 0))))))))))
def w_X1_groupOf_5 (Q : Int32 → Prop) (x1 : Int32) (x2 : Int32) (h : hp) (x3 : Int32) (x4 : Int32) : Prop :=
  wLoop (fun X5 (q : Int32 × Int32) => w_X1_groupOf_b5 Q x1 x2 h X5 q.1 q.2) (x3, x4)
def w_X1_groupOf_0 (Q : Int32 → Prop) (x1 : Int32) (x2 : Int32) (h : hp) : Prop :=
  w_X1_groupOf_5 Q x1 x2 h 0 0
/-- TwoAsks$Fitting.groupOf(II)I -/
def w_X1_groupOf (h : hp) (x1 : Int32) (x2 : Int32) (Q : Int32 → Prop) : Prop := w_X1_groupOf_0 Q x1 x2 h
def w_X1_areGroupsToldApart_b2 (Q : Int32 → Prop) (x1 : Int32) (h : hp) (X2 : Int32 → Prop) (x2 : Int32) : Prop :=
  ((gI h 71 1) ≤ x2 → (Q 1)) ∧ (¬ ((gI h 71 1) ≤ x2) → (w_X1_groupOf h x2 x1 (fun r2 => w_X1_isToldApart h r2 (fun r4 => (¬ r4 = 0 → (∀ x2_7, x2_7 = x2 + 1 → (X2 x2_7))) ∧ (r4 = 0 → (Q 0))))))
def w_X1_areGroupsToldApart_2 (Q : Int32 → Prop) (x1 : Int32) (h : hp) (x2 : Int32) : Prop :=
  wLoop (fun X2 (q : Int32) => w_X1_areGroupsToldApart_b2 Q x1 h X2 q) x2
def w_X1_areGroupsToldApart_0 (Q : Int32 → Prop) (x1 : Int32) (h : hp) : Prop :=
  w_X1_areGroupsToldApart_2 Q x1 h 0
/-- TwoAsks$Fitting.areGroupsToldApart(I)Z -/
def w_X1_areGroupsToldApart (h : hp) (x1 : Int32) (Q : Int32 → Prop) : Prop := w_X1_areGroupsToldApart_0 Q x1 h
def w_X1_enoughQuestions_b45 (Q : Int32 → hp → Prop) (h : hp) (X45 : Int32 → Prop) (x1 : Int32) : Prop :=
  (19 ≤ x1 → (Q 3 h)) ∧ (¬ (19 ≤ x1) → (w_X1_areGroupsToldApart h x1 (fun r8 => (r8 = 0 → (∀ x1_11, x1_11 = x1 + 1 → (X45 x1_11))) ∧ (¬ (r8 = 0) → (Q 2 h)))))
def w_X1_enoughQuestions_45 (Q : Int32 → hp → Prop) (h : hp) (x1 : Int32) : Prop :=
  wLoop (fun X45 (q : Int32) => w_X1_enoughQuestions_b45 Q h X45 q) x1
def w_X1_enoughQuestions_0 (Q : Int32 → hp → Prop) (h : hp) : Prop :=
  ((gI h 71 1) ≤ 24 → ((1 < (gI h 71 1) → (w_X1_fillAnswers h (fun h3 => w_X1_isToldApart h3 ((jshl 1 (gI h3 71 1)) - 1) (fun r4 => (r4 = 0 → (w_X1_enoughQuestions_45 Q h3 0)) ∧ (¬ (r4 = 0) → (Q 1 h3)))))) ∧ (¬ (1 < (gI h 71 1)) → (Q 0 h)))) ∧ (¬ ((gI h 71 1) ≤ 24) → (Q (-2) h))
/-- TwoAsks$Fitting.enoughQuestions()I -/
def w_X1_enoughQuestions (h : hp) (Q : Int32 → hp → Prop) : Prop := w_X1_enoughQuestions_0 Q h
def w_X2_clear_0 (o : Nat) (Q : hp → Prop) (h : hp) : Prop :=
  ∀ h1, h1 = sI h o 2 0 → (Q h1)
/-- TwoAsks$Law.clear()V -/
def w_X2_clear (o : Nat) (h : hp) (Q : hp → Prop) : Prop := w_X2_clear_0 o Q h
def w_X2_add_0 (o : Nat) (Q : Int32 → hp → Prop) (x1 : Int32) (x2 : Int32) (h : hp) : Prop :=
  ((gI h o 2) < 402 → (vp_in (gI h o 2) 402 ∧ ∀ h2, h2 = sI h (o + 1) (ix (gI h o 2)) x1 → (vp_in (gI h2 o 2) 402 ∧ ∀ h3, h3 = sI h2 (o + 2) (ix (gI h2 o 2)) x2 → (∀ h4, h4 = sI h3 o 2 ((gI h3 o 2) + 1) → (Q ((gI h4 o 2) - 1) h4))))) ∧ (¬ ((gI h o 2) < 402) → (Q 401 h))
/-- TwoAsks$Law.add(II)I -/
def w_X2_add (o : Nat) (h : hp) (x1 : Int32) (x2 : Int32) (Q : Int32 → hp → Prop) : Prop := w_X2_add_0 o Q x1 x2 h
def w_X2_copy_0 (o : Nat) (o1 : Nat) (Q : hp → Prop) (h : hp) : Prop :=
  ∀ h1, h1 = sI h o 2 (gI h o1 2) → (¬ (0 : Int32) < 0 ∧ ¬ (0 : Int32) < 0 ∧ ¬ (402 : Int32) < 0 ∧ ix 0 + ix 402 ≤ 402 ∧ ix 0 + ix 402 ≤ 402 ∧ ∀ h2, h2 = cI h1 (o1 + 1) (ix 0) (o + 1) (ix 0) (ix 402) → (¬ (0 : Int32) < 0 ∧ ¬ (0 : Int32) < 0 ∧ ¬ (402 : Int32) < 0 ∧ ix 0 + ix 402 ≤ 402 ∧ ix 0 + ix 402 ≤ 402 ∧ ∀ h3, h3 = cI h2 (o1 + 2) (ix 0) (o + 2) (ix 0) (ix 402) → (Q h3)))
/-- TwoAsks$Law.copy(LTwoAsks$Law;)V -/
def w_X2_copy (o : Nat) (o1 : Nat) (h : hp) (Q : hp → Prop) : Prop := w_X2_copy_0 o o1 Q h
def w_X2_branchHere_0 (o : Nat) (Q : hp → Prop) (x1 : Int32) (h : hp) : Prop :=
  (x1 < 0 → (Q h)) ∧ (¬ (x1 < 0) → ((402 ≤ x1 → (Q h)) ∧ (¬ (402 ≤ x1) → (vp_in x1 402 ∧ ∀ h3, h3 = sI h (o + 2) (ix x1) (gI h o 2) → (Q h3)))))
/-- TwoAsks$Law.branchHere(I)V -/
def w_X2_branchHere (o : Nat) (h : hp) (x1 : Int32) (Q : hp → Prop) : Prop := w_X2_branchHere_0 o Q x1 h
def w_X2_look_0 (o : Nat) (Q : hp → Prop) (x1 : Int32) (x2 : Int32) (x3 : Int32) (x4 : Int32) (x5 : Int32) (x6 : Int32) (h : hp) : Prop :=
  vp_in 0 6 ∧ ∀ h1, h1 = sI h (o + 3) (ix 0) x1 → (vp_in 1 6 ∧ ∀ h2, h2 = sI h1 (o + 3) (ix 1) x2 → (vp_in 2 6 ∧ ∀ h3, h3 = sI h2 (o + 3) (ix 2) x3 → (vp_in 3 6 ∧ ∀ h4, h4 = sI h3 (o + 3) (ix 3) x4 → (vp_in 4 6 ∧ ∀ h5, h5 = sI h4 (o + 3) (ix 4) x5 → (vp_in 5 6 ∧ ∀ h6, h6 = sI h5 (o + 3) (ix 5) x6 → (Q h6))))))
/-- TwoAsks$Law.look(IIIIII)V -/
def w_X2_look (o : Nat) (h : hp) (x1 : Int32) (x2 : Int32) (x3 : Int32) (x4 : Int32) (x5 : Int32) (x6 : Int32) (Q : hp → Prop) : Prop := w_X2_look_0 o Q x1 x2 x3 x4 x5 x6 h
def w_X2_joined_0 (Q : Int32 → Prop) (x0 : Int32) (x1 : Int32) (x2 : Int32) : Prop :=
  ∀ sw1, sw1 = x0 → ((sw1 = 42 → (Q (x1 * x2))) ∧ (sw1 = 43 → (Q (x1 + x2))) ∧ (sw1 = 44 → ((¬ x2 = 0 → (¬ x2 = 0 ∧ (Q (x1 / x2)))) ∧ (x2 = 0 → (Q 0)))) ∧ (sw1 = 45 → (Q (x1 - x2))) ∧ (sw1.toInt < 42 ∨ 45 < sw1.toInt → ((¬ x2 = 0 → (¬ x2 = 0 ∧ (Q (x1 / x2)))) ∧ (x2 = 0 → (Q 0)))))
/-- TwoAsks$Law.joined(III)I -/
def w_X2_joined (x0 : Int32) (x1 : Int32) (x2 : Int32) (Q : Int32 → Prop) : Prop := w_X2_joined_0 Q x0 x1 x2
def w_X2_worth_100 (o : Nat) (Q : Int32 → hp → Prop) (X6 : Int32 × Int32 × Int32 × hp → Prop) (x1 : Int32) (x2 : Int32) (x3 : Int32) (h : hp) (s0 : Int32) (s1 : Int32) : Prop :=
  vp_in s1 42 ∧ ∀ h26, h26 = sI h (o + 4) (ix s1) s0 → (∀ x1_27, x1_27 = x1 + 1 → (∀ x3_28, x3_28 = x3 + 1 → (X6 (x1_27, x2, x3_28, h26))))
def w_X2_worth_198 (o : Nat) (Q : Int32 → hp → Prop) (X6 : Int32 × Int32 × Int32 × hp → Prop) (x1 : Int32) (x2 : Int32) (x3 : Int32) (x4 : Int32) (h : hp) : Prop :=
  vp_in (x1 - 1) 42 ∧ (vp_in x1 42 ∧ (w_X2_joined x4 (gI h (o + 4) (ix (x1 - 1))) (gI h (o + 4) (ix x1)) (fun r29 => vp_in (x1 - 1) 42 ∧ ∀ h31, h31 = sI h (o + 4) (ix (x1 - 1)) r29 → (∀ x3_32, x3_32 = x3 + 1 → (X6 (x1, x2, x3_32, h31))))))
def w_X2_worth_b6 (o : Nat) (Q : Int32 → hp → Prop) (X6 : Int32 × Int32 × Int32 × hp → Prop) (x1 : Int32) (x2 : Int32) (x3 : Int32) (h : hp) : Prop :=
  (402 ≤ x3 → (Q 0 h)) ∧ (¬ (402 ≤ x3) → (((gI h o 2) ≤ x2 → (Q 0 h)) ∧ (¬ ((gI h o 2) ≤ x2) → ((42 ≤ x1 → (Q 0 h)) ∧ (¬ (42 ≤ x1) → (vp_in x2 402 ∧ (∀ x4_4, x4_4 = gI h (o + 1) (ix x2) → (vp_in x2 402 ∧ (∀ x5_5, x5_5 = gI h (o + 2) (ix x2) → (∀ x2_6, x2_6 = x2 + 1 → ((¬ x4_4 = 1 → ((¬ x4_4 = 2 → ((¬ x4_4 = 4 → ((2 ≤ x1 → ((¬ x4_4 = 3 → (∀ x1_12, x1_12 = x1 + (-1) → ((¬ x4_4 = 47 → (w_X2_worth_198 o Q X6 x1_12 x2_6 x3 x4_4 h)) ∧ (x4_4 = 47 → (vp_in x1_12 42 ∧ ((¬ (gI h (o + 4) (ix x1_12)) = 0 → (w_X2_worth_198 o Q X6 x1_12 x2_6 x3 x4_4 h)) ∧ ((gI h (o + 4) (ix x1_12)) = 0 → (Q 0 h)))))))) ∧ (x4_4 = 3 → (∀ x1_15, x1_15 = x1 + (-2) → (vp_in x1_15 42 ∧ (vp_in (x1_15 + 1) 42 ∧ (((gI h (o + 4) (ix (x1_15 + 1))) ≤ (gI h (o + 4) (ix x1_15)) → (∀ x2_17, x2_17 = (if x2_6 < x5_5 then x5_5 else x2_6) → (∀ x3_18, x3_18 = x3 + 1 → (X6 (x1_15, x2_17, x3_18, h))))) ∧ (¬ ((gI h (o + 4) (ix (x1_15 + 1))) ≤ (gI h (o + 4) (ix x1_15))) → (∀ x3_19, x3_19 = x3 + 1 → (X6 (x1_15, x2_6, x3_19, h))))))))))) ∧ (¬ (2 ≤ x1) → (Q 0 h)))) ∧ (x4_4 = 4 → ((x1 ≤ 0 → (Q 0 h)) ∧ (¬ (x1 ≤ 0) → (vp_in (x1 - 1) 42 ∧ (Q (gI h (o + 4) (ix (x1 - 1))) h))))))) ∧ (x4_4 = 2 → ((x5_5 < 0 → (w_X2_worth_100 o Q X6 x1 x2_6 x3 h 0 x1)) ∧ (¬ (x5_5 < 0) → ((6 ≤ x5_5 → (w_X2_worth_100 o Q X6 x1 x2_6 x3 h 0 x1)) ∧ (¬ (6 ≤ x5_5) → (vp_in x5_5 6 ∧ (w_X2_worth_100 o Q X6 x1 x2_6 x3 h (gI h (o + 3) (ix x5_5)) x1))))))))) ∧ (x4_4 = 1 → (vp_in x1 42 ∧ ∀ h23, h23 = sI h (o + 4) (ix x1) x5_5 → (∀ x1_24, x1_24 = x1 + 1 → (∀ x3_25, x3_25 = x3 + 1 → (X6 (x1_24, x2_6, x3_25, h23)))))))))))))))))
def w_X2_worth_6 (o : Nat) (Q : Int32 → hp → Prop) (x1 : Int32) (x2 : Int32) (x3 : Int32) (h : hp) : Prop :=
  wLoop (fun X6 (q : Int32 × Int32 × Int32 × hp) => w_X2_worth_b6 o Q X6 q.1 q.2.1 q.2.2.1 q.2.2.2) (x1, x2, x3, h)
def w_X2_worth_0 (o : Nat) (Q : Int32 → hp → Prop) (h : hp) : Prop :=
  w_X2_worth_6 o Q 0 0 0 h
/-- TwoAsks$Law.worth()I -/
def w_X2_worth (o : Nat) (h : hp) (Q : Int32 → hp → Prop) : Prop := w_X2_worth_0 o Q h
def w_X2_numberAt_0 (o : Nat) (Q : Int32 → hp → Prop) (x1 : Int32) (x2 : Int32) (x3 : Int32) (h : hp) : Prop :=
  w_X2_look o h x1 x2 x3 0 0 0 (fun h1 => w_X2_worth o h1 (fun r3 h2 => Q (if (-99) < (if r3 < 99 then r3 else 99) then (if r3 < 99 then r3 else 99) else (-99)) h2))
/-- TwoAsks$Law.numberAt(III)I -/
def w_X2_numberAt (o : Nat) (h : hp) (x1 : Int32) (x2 : Int32) (x3 : Int32) (Q : Int32 → hp → Prop) : Prop := w_X2_numberAt_0 o Q x1 x2 x3 h
def w_X2_question_0 (o : Nat) (Q : Int32 → hp → Prop) (x1 : Int32) (x2 : Int64) (x4 : Int32) (h : hp) : Prop :=
  w_X2_look o h 0 0 0 x1 ((lrem x2 1000).toInt32) x4 (fun h1 => w_X2_worth o h1 (fun r3 h2 => Q (if (-99) < (if r3 < 99 then r3 else 99) then (if r3 < 99 then r3 else 99) else (-99)) h2))
/-- TwoAsks$Law.question(IJI)I -/
def w_X2_question (o : Nat) (h : hp) (x1 : Int32) (x2 : Int64) (x4 : Int32) (Q : Int32 → hp → Prop) : Prop := w_X2_question_0 o Q x1 x2 x4 h
def w_X3_begin_0 (Q : hp → Prop) (h : hp) : Prop :=
  w_X2_clear 9 h (fun h1 => ∀ h2, h2 = sI h1 8 1 0 → (∀ h3, h3 = sI h2 8 2 1 → (∀ h4, h4 = sI h3 8 3 1 → (∀ h5, h5 = sI h4 8 4 59 → (∀ h6, h6 = sI h5 8 5 0 → (∀ h7, h7 = sI h6 8 6 0 → (∀ h8, h8 = sI h7 8 9 0 → (Q h8))))))))
/-- TwoAsks$LawReader.begin()V -/
def w_X3_begin (h : hp) (Q : hp → Prop) : Prop := w_X3_begin_0 Q h
def w_X3_branchBegins_0 (Q : Int32 → hp → Prop) (h : hp) : Prop :=
  (¬ (gI h 8 5) = 4 → (∀ h2, h2 = sI h 8 5 ((gI h 8 5) + 1) → (∀ h3, h3 = sI h2 8 4 60 → (Q 0 h3)))) ∧ ((gI h 8 5) = 4 → (Q 2 h))
/-- TwoAsks$LawReader.branchBegins()I -/
def w_X3_branchBegins (h : hp) (Q : Int32 → hp → Prop) : Prop := w_X3_branchBegins_0 Q h
def w_X3_letWait_0 (Q : hp → Prop) (x1 : Int32) (h : hp) : Prop :=
  (21 ≤ (gI h 8 9) → (Q h)) ∧ (¬ (21 ≤ (gI h 8 9)) → (vp_in (gI h 8 9) 21 ∧ ∀ h2, h2 = sI h 14 (ix (gI h 8 9)) x1 → (∀ h3, h3 = sI h2 8 9 ((gI h2 8 9) + 1) → (Q h3))))
/-- TwoAsks$LawReader.letWait(I)V -/
def w_X3_letWait (h : hp) (x1 : Int32) (Q : hp → Prop) : Prop := w_X3_letWait_0 Q x1 h
def w_X3_nestBegins_0 (Q : Int32 → hp → Prop) (h : hp) : Prop :=
  (¬ (gI h 8 6) = 6 → (∀ h2, h2 = sI h 8 6 ((gI h 8 6) + 1) → (w_X3_letWait h2 40 (fun h3 => Q 0 h3)))) ∧ ((gI h 8 6) = 6 → (Q 2 h))
/-- TwoAsks$LawReader.nestBegins()I -/
def w_X3_nestBegins (h : hp) (Q : Int32 → hp → Prop) : Prop := w_X3_nestBegins_0 Q h
def w_X3_unit_19 (Q : Int32 → hp → Prop) (x1 : Int32) (x2 : Int32) (h : hp) (s0 : Int32) : Prop :=
  ∀ h3, h3 = sI h 8 3 0 → ((s0 = 0 → ((¬ x1 = 40 → (∀ h6, h6 = sI h3 8 2 0 → ((¬ x1 = 3 → ((x1 < 267 → (Q 1 h6)) ∧ (¬ (x1 < 267) → ((272 < x1 → (Q 1 h6)) ∧ (¬ (272 < x1) → (w_X2_add 9 h6 2 (x1 - 267) (fun r11 h10 => Q 0 h10))))))) ∧ (x1 = 3 → (w_X2_add 9 h6 1 x2 (fun r13 h12 => Q 0 h12)))))) ∧ (x1 = 40 → (w_X3_nestBegins h3 (fun r15 h14 => Q r15 h14))))) ∧ (¬ (s0 = 0) → (w_X3_branchBegins h3 (fun r17 h16 => Q r17 h16))))
def w_X3_unit_0 (Q : Int32 → hp → Prop) (x1 : Int32) (x2 : Int32) (h : hp) : Prop :=
  (¬ x1 = 264 → (w_X3_unit_19 Q x1 x2 h 0)) ∧ (x1 = 264 → (((gI h 8 3) = 0 → (w_X3_unit_19 Q x1 x2 h 0)) ∧ (¬ ((gI h 8 3) = 0) → (w_X3_unit_19 Q x1 x2 h 1))))
/-- TwoAsks$LawReader.unit(II)I -/
def w_X3_unit (h : hp) (x1 : Int32) (x2 : Int32) (Q : Int32 → hp → Prop) : Prop := w_X3_unit_0 Q x1 x2 h
def w_X3_rankOf_0 (Q : Int32 → Prop) (x0 : Int32) : Prop :=
  (x0 = 42 → (Q 2)) ∧ (¬ (x0 = 42) → ((¬ x0 = 47 → ((x0 = 43 → (Q 1)) ∧ (¬ (x0 = 43) → ((¬ x0 = 45 → (Q 0)) ∧ (x0 = 45 → (Q 1)))))) ∧ (x0 = 47 → (Q 2))))
/-- TwoAsks$LawReader.rankOf(I)I -/
def w_X3_rankOf (x0 : Int32) (Q : Int32 → Prop) : Prop := w_X3_rankOf_0 Q x0
def w_X3_writeWaiting_b0 (Q : hp → Prop) (x1 : Int32) (X0 : hp → Prop) (h : hp) : Prop :=
  ((gI h 8 9) ≤ 0 → (Q h)) ∧ (¬ ((gI h 8 9) ≤ 0) → (vp_in ((gI h 8 9) - 1) 21 ∧ (w_X3_rankOf (gI h 14 (ix ((gI h 8 9) - 1))) (fun r2 => (r2 < x1 → (Q h)) ∧ (¬ (r2 < x1) → (vp_in ((gI h 8 9) - 1) 21 ∧ (w_X2_add 9 h (gI h 14 (ix ((gI h 8 9) - 1))) 0 (fun r6 h5 => ∀ h7, h7 = sI h5 8 9 ((gI h5 8 9) - 1) → (X0 h7)))))))))
def w_X3_writeWaiting_0 (Q : hp → Prop) (x1 : Int32) (h : hp) : Prop :=
  wLoop (fun X0 (q : hp) => w_X3_writeWaiting_b0 Q x1 X0 q) h
/-- TwoAsks$LawReader.writeWaiting(I)V -/
def w_X3_writeWaiting (h : hp) (x1 : Int32) (Q : hp → Prop) : Prop := w_X3_writeWaiting_0 Q x1 h
def w_X3_nestEnds_0 (Q : hp → Prop) (h : hp) : Prop :=
  ∀ h1, h1 = sI h 8 6 ((gI h 8 6) - 1) → (((gI h1 8 9) ≤ 0 → (Q h1)) ∧ (¬ ((gI h1 8 9) ≤ 0) → (∀ h3, h3 = sI h1 8 9 ((gI h1 8 9) - 1) → (Q h3))))
/-- TwoAsks$LawReader.nestEnds()V -/
def w_X3_nestEnds (h : hp) (Q : hp → Prop) : Prop := w_X3_nestEnds_0 Q h
def w_X3_partEnds_0 (Q : hp → Prop) (h : hp) : Prop :=
  ∀ h1, h1 = sI h 8 2 1 → (∀ sw2, sw2 = gI h1 8 4 → ((sw2 = 60 → (∀ h4, h4 = sI h1 8 4 265 → (Q h4))) ∧ (sw2 = 265 → (w_X2_add 9 h1 3 0 (fun r7 h6 => ∀ h8, h8 = sI h6 8 7 r7 → (∀ h9, h9 = sI h8 8 4 266 → (Q h9))))) ∧ (sw2 = 266 → (w_X2_add 9 h1 4 0 (fun r12 h11 => w_X2_branchHere 9 h11 (gI h11 8 7) (fun h13 => ∀ h14, h14 = sI h13 8 4 59 → (∀ h15, h15 = sI h14 8 3 1 → (Q h15)))))) ∧ (¬ sw2 = 60 → ¬ sw2 = 265 → ¬ sw2 = 266 → (w_X2_add 9 h1 4 0 (fun r17 h16 => ∀ h18, h18 = sI h16 8 1 1 → (Q h18))))))
/-- TwoAsks$LawReader.partEnds()V -/
def w_X3_partEnds (h : hp) (Q : hp → Prop) : Prop := w_X3_partEnds_0 Q h
def w_X3_behindUnit_43 (Q : Int32 → hp → Prop) (h : hp) (s0 : Int32) (s1 : Int32) : Prop :=
  (s1 = s0 → (w_X3_writeWaiting h 1 (fun h9 => ((gI h9 8 6) ≤ 0 → (w_X3_partEnds h9 (fun h11 => Q 0 h11))) ∧ (¬ ((gI h9 8 6) ≤ 0) → (w_X3_nestEnds h9 (fun h12 => Q 0 h12)))))) ∧ (¬ (s1 = s0) → (Q 1 h))
def w_X3_behindUnit_0 (Q : Int32 → hp → Prop) (x1 : Int32) (h : hp) : Prop :=
  w_X3_rankOf x1 (fun r1 => (r1 ≤ 0 → (((gI h 8 6) ≤ 0 → (w_X3_behindUnit_43 Q h (gI h 8 4) x1)) ∧ (¬ ((gI h 8 6) ≤ 0) → (w_X3_behindUnit_43 Q h 41 x1)))) ∧ (¬ (r1 ≤ 0) → (w_X3_writeWaiting h r1 (fun h5 => w_X3_letWait h5 x1 (fun h6 => ∀ h7, h7 = sI h6 8 2 1 → (Q 0 h7))))))
/-- TwoAsks$LawReader.behindUnit(I)I -/
def w_X3_behindUnit (h : hp) (x1 : Int32) (Q : Int32 → hp → Prop) : Prop := w_X3_behindUnit_0 Q x1 h
def w_X6_clear_0 (o : Nat) (Q : hp → Prop) (h : hp) : Prop :=
  ∀ h1, h1 = sI h o 0 0 → (∀ h2, h2 = sI h1 o 1 97 → (Q h2))
/-- TwoAsks$Shares.clear()V -/
def w_X6_clear (o : Nat) (h : hp) (Q : hp → Prop) : Prop := w_X6_clear_0 o Q h
def w_X7_clear_0 (o : Nat) (Q : hp → Prop) (h : hp) : Prop :=
  ∀ h1, h1 = sI h o 0 0 → (w_X2_clear (o + 4) h1 (fun h2 => w_X2_add (o + 4) h2 2 3 (fun r4 h3 => w_X2_add (o + 4) h3 1 1 (fun r6 h5 => w_X2_add (o + 4) h5 43 0 (fun r8 h7 => w_X2_add (o + 4) h7 4 0 (fun r10 h9 => w_X6_clear (o + 9) h9 (fun h11 => w_X0_clear (o + 15) h11 (fun h12 => ∀ h13, h13 = sI h12 o 7 3 → (∀ h14, h14 = sI h13 o 8 3 → (∀ h15, h15 = sI h14 o 9 0 → (Q h15)))))))))))
/-- TwoAsks$Text.clear()V -/
def w_X7_clear (o : Nat) (h : hp) (Q : hp → Prop) : Prop := w_X7_clear_0 o Q h
def w_X8_isBlank_0 (Q : Int32 → Prop) (x0 : Int32) : Prop :=
  (x0 = 9 → (Q 1)) ∧ (¬ (x0 = 9) → ((x0 = 10 → (Q 1)) ∧ (¬ (x0 = 10) → ((x0 = 13 → (Q 1)) ∧ (¬ (x0 = 13) → ((¬ x0 = 32 → (Q 0)) ∧ (x0 = 32 → (Q 1))))))))
/-- TwoAsks$Tokens.isBlank(I)Z -/
def w_X8_isBlank (x0 : Int32) (Q : Int32 → Prop) : Prop := w_X8_isBlank_0 Q x0
def w_X8_isLetter_0 (Q : Int32 → Prop) (x0 : Int32) : Prop :=
  (x0 < 97 → (Q 0)) ∧ (¬ (x0 < 97) → ((122 < x0 → (Q 0)) ∧ (¬ (122 < x0) → (Q 1))))
/-- TwoAsks$Tokens.isLetter(I)Z -/
def w_X8_isLetter (x0 : Int32) (Q : Int32 → Prop) : Prop := w_X8_isLetter_0 Q x0
def w_X8_withLetter_0 (Q : Int64 → Prop) (x0 : Int64) (x2 : Int32) : Prop :=
  Q ((x0 * 27) + (((x2 - 97) + 1).toInt64))
/-- TwoAsks$Tokens.withLetter(JI)J -/
def w_X8_withLetter (x0 : Int64) (x2 : Int32) (Q : Int64 → Prop) : Prop := w_X8_withLetter_0 Q x0 x2
def w_X8_kindOf_b2 (Q : Int32 → Prop) (x1 : Int64) (h : hp) (X2 : Int32 → Prop) (x3 : Int32) : Prop :=
  (17 ≤ x3 → (Q 2)) ∧ (¬ (17 ≤ x3) → (vp_in x3 17 ∧ ((¬ (gL h 7 (ix x3)) = x1 → (∀ x3_3, x3_3 = x3 + 1 → (X2 x3_3))) ∧ ((gL h 7 (ix x3)) = x1 → (Q (256 + x3))))))
def w_X8_kindOf_2 (Q : Int32 → Prop) (x1 : Int64) (h : hp) (x3 : Int32) : Prop :=
  wLoop (fun X2 (q : Int32) => w_X8_kindOf_b2 Q x1 h X2 q) x3
def w_X8_kindOf_0 (Q : Int32 → Prop) (x1 : Int64) (h : hp) : Prop :=
  w_X8_kindOf_2 Q x1 h 0
/-- TwoAsks$Tokens.kindOf(J)I -/
def w_X8_kindOf (h : hp) (x1 : Int64) (Q : Int32 → Prop) : Prop := w_X8_kindOf_0 Q x1 h
def w_X8_add_0 (Q : hp → Prop) (x1 : Int32) (x2 : Int32) (x3 : Int64) (h : hp) : Prop :=
  (401 ≤ (gI h 3 4) → (Q h)) ∧ (¬ (401 ≤ (gI h 3 4)) → (vp_in (gI h 3 4) 402 ∧ ∀ h2, h2 = sI h 4 (ix (gI h 3 4)) x1 → (vp_in (gI h2 3 4) 402 ∧ ∀ h3, h3 = sI h2 5 (ix (gI h2 3 4)) x2 → (vp_in (gI h3 3 4) 402 ∧ ∀ h4, h4 = sL h3 6 (ix (gI h3 3 4)) x3 → (∀ h5, h5 = sI h4 3 4 ((gI h4 3 4) + 1) → (Q h5))))))
/-- TwoAsks$Tokens.add(IIJ)V -/
def w_X8_add (h : hp) (x1 : Int32) (x2 : Int32) (x3 : Int64) (Q : hp → Prop) : Prop := w_X8_add_0 Q x1 x2 x3 h
def w_X8_cutName_59 (o1 : Nat) (no1 : Nat) (Q : Int32 → hp → Prop) (x3 : Int32) (x4 : Int32) (x5 : Int64) (h : hp) (s0 : Int32) : Prop :=
  w_X8_add h s0 x3 x5 (fun h11 => Q x4 h11)
def w_X8_cutName_39 (o1 : Nat) (no1 : Nat) (Q : Int32 → hp → Prop) (x3 : Int32) (x4 : Int32) (x5 : Int64) (h : hp) : Prop :=
  ((x4 - x3) ≤ 8 → (w_X8_kindOf h x5 (fun r9 => w_X8_cutName_59 o1 no1 Q x3 x4 x5 h r9))) ∧ (¬ ((x4 - x3) ≤ 8) → (w_X8_cutName_59 o1 no1 Q x3 x4 x5 h 1))
def w_X8_cutName_b6 (o1 : Nat) (no1 : Nat) (Q : Int32 → hp → Prop) (x2 : Int32) (x3 : Int32) (h : hp) (X6 : Int32 × Int64 → Prop) (x4 : Int32) (x5 : Int64) : Prop :=
  (x2 ≤ x4 → (w_X8_cutName_39 o1 no1 Q x3 x4 x5 h)) ∧ (¬ (x2 ≤ x4) → (vp_in x4 no1 ∧ (w_X8_isLetter (gI h o1 (ix x4)) (fun r2 => (r2 = 0 → (w_X8_cutName_39 o1 no1 Q x3 x4 x5 h)) ∧ (¬ (r2 = 0) → (vp_in x4 no1 ∧ (w_X8_withLetter x5 (gI h o1 (ix x4)) (fun r5 => ∀ x4_7, x4_7 = x4 + 1 → (X6 (x4_7, r5))))))))))
def w_X8_cutName_6 (o1 : Nat) (no1 : Nat) (Q : Int32 → hp → Prop) (x2 : Int32) (x3 : Int32) (h : hp) (x4 : Int32) (x5 : Int64) : Prop :=
  wLoop (fun X6 (q : Int32 × Int64) => w_X8_cutName_b6 o1 no1 Q x2 x3 h X6 q.1 q.2) (x4, x5)
def w_X8_cutName_0 (o1 : Nat) (no1 : Nat) (Q : Int32 → hp → Prop) (x2 : Int32) (x3 : Int32) (h : hp) : Prop :=
  w_X8_cutName_6 o1 no1 Q x2 x3 h x3 0
/-- TwoAsks$Tokens.cutName([BII)I -/
def w_X8_cutName (o1 : Nat) (no1 : Nat) (h : hp) (x2 : Int32) (x3 : Int32) (Q : Int32 → hp → Prop) : Prop := w_X8_cutName_0 o1 no1 Q x2 x3 h
def w_X8_isDigit_0 (Q : Int32 → Prop) (x0 : Int32) : Prop :=
  (x0 < 48 → (Q 0)) ∧ (¬ (x0 < 48) → ((57 < x0 → (Q 0)) ∧ (¬ (57 < x0) → (Q 1))))
/-- TwoAsks$Tokens.isDigit(I)Z -/
def w_X8_isDigit (x0 : Int32) (Q : Int32 → Prop) : Prop := w_X8_isDigit_0 Q x0
def w_X8_cutInt_57 (o1 : Nat) (no1 : Nat) (Q : Int32 → hp → Prop) (x3 : Int32) (x4 : Int32) (x5 : Int32) (h : hp) (s0 : Int32) : Prop :=
  w_X8_add h s0 x3 (x5.toInt64) (fun h8 => Q x4 h8)
def w_X8_cutInt_43 (o1 : Nat) (no1 : Nat) (Q : Int32 → hp → Prop) (x3 : Int32) (x4 : Int32) (x5 : Int32) (h : hp) : Prop :=
  ((x4 - x3) ≤ 4 → (w_X8_cutInt_57 o1 no1 Q x3 x4 x5 h 3)) ∧ (¬ ((x4 - x3) ≤ 4) → (w_X8_cutInt_57 o1 no1 Q x3 x4 x5 h 1))
def w_X8_cutInt_b6 (o1 : Nat) (no1 : Nat) (Q : Int32 → hp → Prop) (x2 : Int32) (x3 : Int32) (h : hp) (X6 : Int32 × Int32 → Prop) (x4 : Int32) (x5 : Int32) : Prop :=
  (x2 ≤ x4 → (w_X8_cutInt_43 o1 no1 Q x3 x4 x5 h)) ∧ (¬ (x2 ≤ x4) → (vp_in x4 no1 ∧ (w_X8_isDigit (gI h o1 (ix x4)) (fun r2 => (r2 = 0 → (w_X8_cutInt_43 o1 no1 Q x3 x4 x5 h)) ∧ (¬ (r2 = 0) → (vp_in x4 no1 ∧ (∀ x5_5, x5_5 = (x5 * 10) + ((gI h o1 (ix x4)) - 48) → (∀ x4_6, x4_6 = x4 + 1 → (X6 (x4_6, x5_5))))))))))
def w_X8_cutInt_6 (o1 : Nat) (no1 : Nat) (Q : Int32 → hp → Prop) (x2 : Int32) (x3 : Int32) (h : hp) (x4 : Int32) (x5 : Int32) : Prop :=
  wLoop (fun X6 (q : Int32 × Int32) => w_X8_cutInt_b6 o1 no1 Q x2 x3 h X6 q.1 q.2) (x4, x5)
def w_X8_cutInt_0 (o1 : Nat) (no1 : Nat) (Q : Int32 → hp → Prop) (x2 : Int32) (x3 : Int32) (h : hp) : Prop :=
  w_X8_cutInt_6 o1 no1 Q x2 x3 h x3 0
/-- TwoAsks$Tokens.cutInt([BII)I -/
def w_X8_cutInt (o1 : Nat) (no1 : Nat) (h : hp) (x2 : Int32) (x3 : Int32) (Q : Int32 → hp → Prop) : Prop := w_X8_cutInt_0 o1 no1 Q x2 x3 h
def w_X8_isSign_0 (Q : Int32 → Prop) (x0 : Int32) : Prop :=
  ∀ sw1, sw1 = x0 → ((sw1 = 40 → (Q 1)) ∧ (sw1 = 41 → (Q 1)) ∧ (sw1 = 42 → (Q 1)) ∧ (sw1 = 43 → (Q 1)) ∧ (sw1 = 44 → (Q 0)) ∧ (sw1 = 45 → (Q 1)) ∧ (sw1 = 46 → (Q 0)) ∧ (sw1 = 47 → (Q 1)) ∧ (sw1 = 48 → (Q 0)) ∧ (sw1 = 49 → (Q 0)) ∧ (sw1 = 50 → (Q 0)) ∧ (sw1 = 51 → (Q 0)) ∧ (sw1 = 52 → (Q 0)) ∧ (sw1 = 53 → (Q 0)) ∧ (sw1 = 54 → (Q 0)) ∧ (sw1 = 55 → (Q 0)) ∧ (sw1 = 56 → (Q 0)) ∧ (sw1 = 57 → (Q 0)) ∧ (sw1 = 58 → (Q 0)) ∧ (sw1 = 59 → (Q 1)) ∧ (sw1 = 60 → (Q 1)) ∧ (sw1 = 61 → (Q 1)) ∧ (sw1.toInt < 40 ∨ 61 < sw1.toInt → (Q 0)))
/-- TwoAsks$Tokens.isSign(I)Z -/
def w_X8_isSign (x0 : Int32) (Q : Int32 → Prop) : Prop := w_X8_isSign_0 Q x0
def w_X8_cutOne_52 (o1 : Nat) (no1 : Nat) (Q : Int32 → hp → Prop) (x3 : Int32) (h : hp) (s0 : Int32) : Prop :=
  w_X8_add h s0 x3 0 (fun h15 => Q (x3 + 1) h15)
def w_X8_cutOne_0 (o1 : Nat) (no1 : Nat) (Q : Int32 → hp → Prop) (x2 : Int32) (x3 : Int32) (h : hp) : Prop :=
  vp_in x3 no1 ∧ (∀ x4_1, x4_1 = gI h o1 (ix x3) → (w_X8_isLetter x4_1 (fun r2 => (r2 = 0 → (w_X8_isDigit x4_1 (fun r5 => (r5 = 0 → (w_X8_isSign x4_1 (fun r8 => (r8 = 0 → (w_X8_cutOne_52 o1 no1 Q x3 h 1)) ∧ (¬ (r8 = 0) → (w_X8_cutOne_52 o1 no1 Q x3 h x4_1))))) ∧ (¬ (r5 = 0) → (w_X8_cutInt o1 no1 h x2 x3 (fun r12 h11 => Q r12 h11)))))) ∧ (¬ (r2 = 0) → (w_X8_cutName o1 no1 h x2 x3 (fun r14 h13 => Q r14 h13))))))
/-- TwoAsks$Tokens.cutOne([BII)I -/
def w_X8_cutOne (o1 : Nat) (no1 : Nat) (h : hp) (x2 : Int32) (x3 : Int32) (Q : Int32 → hp → Prop) : Prop := w_X8_cutOne_0 o1 no1 Q x2 x3 h
def w_X8_cut_61 (o1 : Nat) (no1 : Nat) (Q : hp → Prop) (x2 : Int32) (h : hp) : Prop :=
  vp_in (gI h 3 4) 402 ∧ ∀ h14, h14 = sI h 4 (ix (gI h 3 4)) 0 → (vp_in (gI h14 3 4) 402 ∧ ∀ h15, h15 = sI h14 5 (ix (gI h14 3 4)) x2 → (Q h15))
def w_X8_cut_b10 (o1 : Nat) (no1 : Nat) (Q : hp → Prop) (x2 : Int32) (X10 : Int32 × Int32 × hp → Prop) (x3 : Int32) (x4 : Int32) (h : hp) : Prop :=
  (x2 ≤ x4 → (w_X8_cut_61 o1 no1 Q x2 h)) ∧ (¬ (x2 ≤ x4) → ((401 ≤ (gI h 3 4) → (w_X8_cut_61 o1 no1 Q x2 h)) ∧ (¬ (401 ≤ (gI h 3 4)) → (vp_in x4 no1 ∧ (∀ x5_4, x5_4 = gI h o1 (ix x4) → ((x4 < x3 → (∀ x4_6, x4_6 = x4 + 1 → (X10 (x3, x4_6, h)))) ∧ (¬ (x4 < x3) → (w_X8_isBlank x5_4 (fun r7 => (¬ r7 = 0 → (∀ x4_10, x4_10 = x4 + 1 → (X10 (x3, x4_10, h)))) ∧ (r7 = 0 → (w_X8_cutOne o1 no1 h x2 x4 (fun r12 h11 => ∀ x4_13, x4_13 = x4 + 1 → (X10 (r12, x4_13, h11))))))))))))))
def w_X8_cut_10 (o1 : Nat) (no1 : Nat) (Q : hp → Prop) (x2 : Int32) (x3 : Int32) (x4 : Int32) (h : hp) : Prop :=
  wLoop (fun X10 (q : Int32 × Int32 × hp) => w_X8_cut_b10 o1 no1 Q x2 X10 q.1 q.2.1 q.2.2) (x3, x4, h)
def w_X8_cut_0 (o1 : Nat) (no1 : Nat) (Q : hp → Prop) (x2 : Int32) (h : hp) : Prop :=
  ∀ h1, h1 = sI h 3 4 0 → (w_X8_cut_10 o1 no1 Q x2 0 0 h1)
/-- TwoAsks$Tokens.cut([BI)V -/
def w_X8_cut (o1 : Nat) (no1 : Nat) (h : hp) (x2 : Int32) (Q : hp → Prop) : Prop := w_X8_cut_0 o1 no1 Q x2 h
def w_X5_kind_0 (Q : Int32 → Prop) (h : hp) : Prop :=
  (400 < (gI h 2 2) → (Q 0)) ∧ (¬ (400 < (gI h 2 2)) → (vp_in (gI h 2 2) 402 ∧ (Q (gI h 4 (ix (gI h 2 2))))))
/-- TwoAsks$Reader.kind()I -/
def w_X5_kind (h : hp) (Q : Int32 → Prop) : Prop := w_X5_kind_0 Q h
def w_X5_stop_0 (Q : Int32 → hp → Prop) (x1 : Int32) (h : hp) : Prop :=
  ∀ h1, h1 = sI h 2 1 x1 → (vp_in (gI h1 2 2) 402 ∧ (∀ h2, h2 = sI h1 2 0 (gI h1 5 (ix (gI h1 2 2))) → (Q 0 h2)))
/-- TwoAsks$Reader.stop(I)Z -/
def w_X5_stop (h : hp) (x1 : Int32) (Q : Int32 → hp → Prop) : Prop := w_X5_stop_0 Q x1 h
def w_X7_isFullOf_0 (o : Nat) (Q : Int32 → Prop) (x1 : Int32) (h : hp) : Prop :=
  ∀ sw1, sw1 = x1 → ((sw1 = 256 → (((gI h o 0) < 6 → (Q 0)) ∧ (¬ ((gI h o 0) < 6) → (Q 1)))) ∧ (sw1 = 257 → (((gI h o 0) < 6 → (Q 0)) ∧ (¬ ((gI h o 0) < 6) → (Q 1)))) ∧ (sw1 = 258 → (Q 0)) ∧ (sw1 = 259 → (Q 0)) ∧ (sw1 = 260 → (((gI h (o + 9) 0) < 8 → (Q 0)) ∧ (¬ ((gI h (o + 9) 0) < 8) → (Q 1)))) ∧ (sw1 = 261 → (((gI h (o + 15) 0) < 9 → (Q 0)) ∧ (¬ ((gI h (o + 15) 0) < 9) → (Q 1)))) ∧ (sw1.toInt < 256 ∨ 261 < sw1.toInt → (Q 0)))
/-- TwoAsks$Text.isFullOf(I)Z -/
def w_X7_isFullOf (o : Nat) (h : hp) (x1 : Int32) (Q : Int32 → Prop) : Prop := w_X7_isFullOf_0 o Q x1 h
def w_X5_take_0 (Q : Int32 → hp → Prop) (x1 : Int32) (h : hp) : Prop :=
  w_X5_kind h (fun r1 => (r1 = x1 → (((gI h 2 2) < 400 → (∀ h5, h5 = sI h 2 2 ((gI h 2 2) + 1) → (Q 1 h5))) ∧ (¬ ((gI h 2 2) < 400) → (w_X5_stop h 2 (fun r7 h6 => isZ r7 ∧ (Q r7 h6)))))) ∧ (¬ (r1 = x1) → (w_X5_stop h 1 (fun r9 h8 => isZ r9 ∧ (Q r9 h8)))))
/-- TwoAsks$Reader.take(I)Z -/
def w_X5_take (h : hp) (x1 : Int32) (Q : Int32 → hp → Prop) : Prop := w_X5_take_0 Q x1 h
def w_X5_taken_0 (Q : Int64 → Prop) (x1 : Int32) (h : hp) : Prop :=
  ((gI h 2 2) < x1 → (Q 0)) ∧ (¬ ((gI h 2 2) < x1) → (vp_in ((gI h 2 2) - x1) 402 ∧ (Q (gL h 6 (ix ((gI h 2 2) - x1))))))
/-- TwoAsks$Reader.taken(I)J -/
def w_X5_taken (h : hp) (x1 : Int32) (Q : Int64 → Prop) : Prop := w_X5_taken_0 Q x1 h
def w_X7_tellName_b5 (o : Nat) (Q : Int32 → hp → Prop) (x1 : Int64) (h : hp) (X5 : Int32 × Int32 → Prop) (x3 : Int32) (x4 : Int32) : Prop :=
  ((gI h o 0) ≤ x4 → ((6 ≤ (gI h o 0) → (isZ x3 ∧ (Q x3 h))) ∧ (¬ (6 ≤ (gI h o 0)) → (vp_in (gI h o 0) 6 ∧ ∀ h3, h3 = sL h (o + 2) (ix (gI h o 0)) x1 → (isZ x3 ∧ (Q x3 h3)))))) ∧ (¬ ((gI h o 0) ≤ x4) → (vp_in x4 6 ∧ ((¬ (gL h (o + 2) (ix x4)) = x1 → (∀ x4_5, x4_5 = x4 + 1 → (X5 (x3, x4_5)))) ∧ ((gL h (o + 2) (ix x4)) = x1 → (∀ x4_6, x4_6 = x4 + 1 → (X5 (0, x4_6)))))))
def w_X7_tellName_5 (o : Nat) (Q : Int32 → hp → Prop) (x1 : Int64) (h : hp) (x3 : Int32) (x4 : Int32) : Prop :=
  wLoop (fun X5 (q : Int32 × Int32) => w_X7_tellName_b5 o Q x1 h X5 q.1 q.2) (x3, x4)
def w_X7_tellName_0 (o : Nat) (Q : Int32 → hp → Prop) (x1 : Int64) (h : hp) : Prop :=
  w_X7_tellName_5 o Q x1 h 1 0
/-- TwoAsks$Text.tellName(J)Z -/
def w_X7_tellName (o : Nat) (h : hp) (x1 : Int64) (Q : Int32 → hp → Prop) : Prop := w_X7_tellName_0 o Q x1 h
def w_X5_note_0 (Q : hp → Prop) (x1 : Int32) (x2 : Int32) (h : hp) : Prop :=
  (¬ (gI h 2 1) = 0 → (Q h)) ∧ ((gI h 2 1) = 0 → (((gI h 2 2) < x2 → (Q h)) ∧ (¬ ((gI h 2 2) < x2) → (∀ h3, h3 = sI h 2 1 x1 → (vp_in ((gI h3 2 2) - x2) 402 ∧ (∀ h4, h4 = sI h3 2 0 (gI h3 5 (ix ((gI h3 2 2) - x2))) → (Q h4)))))))
/-- TwoAsks$Reader.note(II)V -/
def w_X5_note (h : hp) (x1 : Int32) (x2 : Int32) (Q : hp → Prop) : Prop := w_X5_note_0 Q x1 x2 h
def w_X5_takeName_0 (Q : Int32 → hp → Prop) (h : hp) : Prop :=
  w_X5_take h 2 (fun r2 h1 => (¬ r2 = 0 → (shC (gR h1 1) = 7 ∧ (w_X5_taken h1 1 (fun r5 => w_X7_tellName (gR h1 1) h1 r5 (fun r8 h7 => (¬ r8 = 0 → (Q 1 h7)) ∧ (r8 = 0 → (w_X5_note h7 3 1 (fun h10 => Q 1 h10)))))))) ∧ (r2 = 0 → (Q 0 h1)))
/-- TwoAsks$Reader.takeName()Z -/
def w_X5_takeName (h : hp) (Q : Int32 → hp → Prop) : Prop := w_X5_takeName_0 Q h
def w_X11_within_0 (Q : Int32 → Prop) (x0 : Int64) (x2 : Int64) (x4 : Int64) : Prop :=
  (x0 < x2 → (Q 0)) ∧ (¬ (x0 < x2) → ((x4 < x0 → (Q 0)) ∧ (¬ (x4 < x0) → (Q 1))))
/-- TwoAsks.within(JJJ)Z -/
def w_X11_within (x0 : Int64) (x2 : Int64) (x4 : Int64) (Q : Int32 → Prop) : Prop := w_X11_within_0 Q x0 x2 x4
def w_X5_takenWithin_0 (Q : Int32 → hp → Prop) (x1 : Int32) (x2 : Int32) (x3 : Int32) (h : hp) : Prop :=
  w_X5_taken h x1 (fun r1 => w_X11_within r1 (x2.toInt64) (x3.toInt64) (fun r3 => (¬ r3 = 0 → (isZ r3 ∧ (Q r3 h))) ∧ (r3 = 0 → (w_X5_note h 5 x1 (fun h6 => isZ r3 ∧ (Q r3 h6))))))
/-- TwoAsks$Reader.takenWithin(III)Z -/
def w_X5_takenWithin (h : hp) (x1 : Int32) (x2 : Int32) (x3 : Int32) (Q : Int32 → hp → Prop) : Prop := w_X5_takenWithin_0 Q x1 x2 x3 h
def w_X5_noteSize_22 (Q : Int32 → hp → Prop) (h : hp) (s0 : Int32) : Prop :=
  ∀ h6, h6 = sI h 2 3 s0 → (Q 1 h6)
def w_X5_noteSize_0 (Q : Int32 → hp → Prop) (h : hp) : Prop :=
  w_X5_takenWithin h 1 1 6 (fun r2 h1 => (r2 = 0 → (w_X5_noteSize_22 Q h1 0)) ∧ (¬ (r2 = 0) → (w_X5_taken h1 1 (fun r4 => w_X5_noteSize_22 Q h1 (r4.toInt32)))))
/-- TwoAsks$Reader.noteSize()Z -/
def w_X5_noteSize (h : hp) (Q : Int32 → hp → Prop) : Prop := w_X5_noteSize_0 Q h
def w_X5_readLaw_78 (Q : Int32 → hp → Prop) (X20 : Int32 × hp → Prop) (x1 : Int32) (h : hp) (s0 : Int32) : Prop :=
  (s0 = 0 → (w_X5_kind h (fun r19 => w_X5_take h r19 (fun r22 h21 => (¬ r22 = 0 → (∀ x1_24, x1_24 = x1 + 1 → (X20 (x1_24, h21)))) ∧ (r22 = 0 → (Q 0 h21)))))) ∧ (¬ (s0 = 0) → (w_X5_stop h s0 (fun r26 h25 => isZ r26 ∧ (Q r26 h25))))
def w_X5_readLaw_b20 (Q : Int32 → hp → Prop) (X20 : Int32 × hp → Prop) (x1 : Int32) (h : hp) : Prop :=
  (400 < x1 → (Q 1 h)) ∧ (¬ (400 < x1) → ((¬ (gI h 8 1) = 0 → (Q 1 h)) ∧ ((gI h 8 1) = 0 → (((gI h 8 2) = 0 → (w_X5_kind h (fun r8 => w_X3_behindUnit h r8 (fun r11 h10 => w_X5_readLaw_78 Q X20 x1 h10 r11)))) ∧ (¬ ((gI h 8 2) = 0) → (w_X5_kind h (fun r12 => w_X5_taken h 0 (fun r14 => w_X3_unit h r12 (r14.toInt32) (fun r17 h16 => w_X5_readLaw_78 Q X20 x1 h16 r17)))))))))
def w_X5_readLaw_20 (Q : Int32 → hp → Prop) (x1 : Int32) (h : hp) : Prop :=
  wLoop (fun X20 (q : Int32 × hp) => w_X5_readLaw_b20 Q X20 q.1 q.2) (x1, h)
def w_X5_readLaw_0 (Q : Int32 → hp → Prop) (h : hp) : Prop :=
  w_X5_take h 61 (fun r2 h1 => (¬ r2 = 0 → (w_X3_begin h1 (fun h4 => w_X5_readLaw_20 Q 0 h4))) ∧ (r2 = 0 → (Q 0 h1)))
/-- TwoAsks$Reader.readLaw()Z -/
def w_X5_readLaw (h : hp) (Q : Int32 → hp → Prop) : Prop := w_X5_readLaw_0 Q h
def w_X7_tellNumber_0 (o : Nat) (Q : hp → Prop) (x1 : Int32) (x2 : Int32) (h : hp) : Prop :=
  (6 ≤ (gI h o 0) → (Q h)) ∧ (¬ (6 ≤ (gI h o 0)) → ((6 ≤ x1 → (Q h)) ∧ (¬ (6 ≤ x1) → (vp_in (((gI h o 0) * 6) + x1) 36 ∧ ∀ h3, h3 = sI h (o + 3) (ix (((gI h o 0) * 6) + x1)) x2 → (Q h3)))))
/-- TwoAsks$Text.tellNumber(II)V -/
def w_X7_tellNumber (o : Nat) (h : hp) (x1 : Int32) (x2 : Int32) (Q : hp → Prop) : Prop := w_X7_tellNumber_0 o Q x1 x2 h
def w_X7_endRow_0 (o : Nat) (Q : hp → Prop) (x1 : Int32) (h : hp) : Prop :=
  (6 ≤ (gI h o 0) → (Q h)) ∧ (¬ (6 ≤ (gI h o 0)) → (vp_in (gI h o 0) 6 ∧ ∀ h2, h2 = sI h (o + 1) (ix (gI h o 0)) x1 → (∀ h3, h3 = sI h2 o 0 ((gI h2 o 0) + 1) → (Q h3))))
/-- TwoAsks$Text.endRow(I)V -/
def w_X7_endRow (o : Nat) (h : hp) (x1 : Int32) (Q : hp → Prop) : Prop := w_X7_endRow_0 o Q x1 h
def w_X5_tellRow_b4 (Q : Int32 → hp → Prop) (X4 : Int32 × Int32 × hp → Prop) (x1 : Int32) (x2 : Int32) (h : hp) : Prop :=
  ((gI h 2 3) ≤ x2 → (shC (gR h 1) = 7 ∧ (w_X7_endRow (gR h 1) h (gI h 2 3) (fun h3 => Q 1 h3)))) ∧ (¬ ((gI h 2 3) ≤ x2) → (w_X2_numberAt 9 h x2 x1 (gI h 2 3) (fun r5 h4 => shC (gR h4 1) = 7 ∧ (w_X7_tellNumber (gR h4 1) h4 x2 r5 (fun h7 => ∀ x2_8, x2_8 = x2 + 1 → (X4 (r5, x2_8, h7)))))))
def w_X5_tellRow_4 (Q : Int32 → hp → Prop) (x1 : Int32) (x2 : Int32) (h : hp) : Prop :=
  wLoop (fun X4 (q : Int32 × Int32 × hp) => w_X5_tellRow_b4 Q X4 q.1 q.2.1 q.2.2) (x1, x2, h)
def w_X5_tellRow_0 (Q : Int32 → hp → Prop) (h : hp) : Prop :=
  w_X5_tellRow_4 Q 0 0 h
/-- TwoAsks$Reader.tellRow()Z -/
def w_X5_tellRow (h : hp) (Q : Int32 → hp → Prop) : Prop := w_X5_tellRow_0 Q h
def w_X5_readList_113 (Q : Int32 → hp → Prop) (X4 : Int32 × Int32 × hp → Prop) (x1 : Int32) (x2 : Int32) (h : hp) (s0 : Int32) (s1 : Int32) (q2 : Nat) : Prop :=
  w_X7_tellNumber q2 h s1 s0 (fun h28 => ∀ x1_29, x1_29 = x1 + 1 → (∀ x2_30, x2_30 = x2 + 1 → (X4 (x1_29, x2_30, h28))))
def w_X5_readList_69 (Q : Int32 → hp → Prop) (X4 : Int32 × Int32 × hp → Prop) (x1 : Int32) (x2 : Int32) (x3 : Int32) (h : hp) : Prop :=
  w_X5_take h 3 (fun r19 h18 => (¬ r19 = 0 → (w_X5_takenWithin h18 1 0 99 (fun r22 h21 => w_X5_taken h21 1 (fun r23 => ∀ x4_25, x4_25 = r23.toInt32 → (shC (gR h21 1) = 7 ∧ ((x3 = 0 → (w_X5_readList_113 Q X4 x1 x2 h21 x4_25 x1 (gR h21 1))) ∧ (¬ (x3 = 0) → (w_X5_readList_113 Q X4 x1 x2 h21 (-x4_25) x1 (gR h21 1))))))))) ∧ (r19 = 0 → (Q 0 h18)))
def w_X5_readList_49 (Q : Int32 → hp → Prop) (X4 : Int32 × Int32 × hp → Prop) (x1 : Int32) (x2 : Int32) (x3 : Int32) (h : hp) : Prop :=
  (¬ x1 = 6 → (w_X5_readList_69 Q X4 x1 x2 x3 h)) ∧ (x1 = 6 → (w_X5_kind h (fun r13 => (¬ r13 = 3 → (w_X5_readList_69 Q X4 x1 x2 x3 h)) ∧ (r13 = 3 → (w_X5_stop h 2 (fun r17 h16 => isZ r17 ∧ (Q r17 h16)))))))
def w_X5_readList_33 (Q : Int32 → hp → Prop) (X4 : Int32 × Int32 × hp → Prop) (x1 : Int32) (x2 : Int32) (h : hp) (s0 : Int32) : Prop :=
  (s0 = 0 → (w_X5_readList_49 Q X4 x1 x2 s0 h)) ∧ (¬ (s0 = 0) → (w_X5_take h 45 (fun r10 h9 => (¬ r10 = 0 → (w_X5_readList_49 Q X4 x1 x2 s0 h9)) ∧ (r10 = 0 → (Q 0 h9)))))
def w_X5_readList_125 (Q : Int32 → hp → Prop) (x1 : Int32) (h : hp) : Prop :=
  shC (gR h 1) = 7 ∧ (w_X7_endRow (gR h 1) h x1 (fun h32 => Q 1 h32))
def w_X5_readList_b4 (Q : Int32 → hp → Prop) (X4 : Int32 × Int32 × hp → Prop) (x1 : Int32) (x2 : Int32) (h : hp) : Prop :=
  (6 < x2 → (w_X5_readList_125 Q x1 h)) ∧ (¬ (6 < x2) → (w_X5_kind h (fun r2 => (r2 = 59 → (w_X5_readList_125 Q x1 h)) ∧ (¬ (r2 = 59) → (w_X5_kind h (fun r5 => (¬ r5 = 45 → (w_X5_readList_33 Q X4 x1 x2 h 0)) ∧ (r5 = 45 → (w_X5_readList_33 Q X4 x1 x2 h 1))))))))
def w_X5_readList_4 (Q : Int32 → hp → Prop) (x1 : Int32) (x2 : Int32) (h : hp) : Prop :=
  wLoop (fun X4 (q : Int32 × Int32 × hp) => w_X5_readList_b4 Q X4 q.1 q.2.1 q.2.2) (x1, x2, h)
def w_X5_readList_0 (Q : Int32 → hp → Prop) (h : hp) : Prop :=
  w_X5_readList_4 Q 0 0 h
/-- TwoAsks$Reader.readList()Z -/
def w_X5_readList (h : hp) (Q : Int32 → hp → Prop) : Prop := w_X5_readList_0 Q h
def w_X5_tellAsk_0 (Q : Int32 → hp → Prop) (h : hp) : Prop :=
  shC (gR h 1) = 7 ∧ (w_X2_copy ((gR h 1) + 4) 9 h (fun h2 => Q 1 h2))
/-- TwoAsks$Reader.tellAsk()Z -/
def w_X5_tellAsk (h : hp) (Q : Int32 → hp → Prop) : Prop := w_X5_tellAsk_0 Q h
def w_X6_isAt_b2 (o : Nat) (Q : Int32 → Prop) (x1 : Int32) (h : hp) (X2 : Int32 → Prop) (x2 : Int32) : Prop :=
  ((gI h o 0) ≤ x2 → (Q 0)) ∧ (¬ ((gI h o 0) ≤ x2) → (vp_in x2 8 ∧ ((¬ (gI h (o + 1) (ix x2)) = x1 → (∀ x2_3, x2_3 = x2 + 1 → (X2 x2_3))) ∧ ((gI h (o + 1) (ix x2)) = x1 → (Q 1)))))
def w_X6_isAt_2 (o : Nat) (Q : Int32 → Prop) (x1 : Int32) (h : hp) (x2 : Int32) : Prop :=
  wLoop (fun X2 (q : Int32) => w_X6_isAt_b2 o Q x1 h X2 q) x2
def w_X6_isAt_0 (o : Nat) (Q : Int32 → Prop) (x1 : Int32) (h : hp) : Prop :=
  w_X6_isAt_2 o Q x1 h 0
/-- TwoAsks$Shares.isAt(I)Z -/
def w_X6_isAt (o : Nat) (h : hp) (x1 : Int32) (Q : Int32 → Prop) : Prop := w_X6_isAt_0 o Q x1 h
def w_X6_add_0 (o : Nat) (Q : hp → Prop) (x1 : Int32) (x2 : Int32) (x3 : Int32) (h : hp) : Prop :=
  (8 ≤ (gI h o 0) → (Q h)) ∧ (¬ (8 ≤ (gI h o 0)) → (vp_in (gI h o 0) 8 ∧ ∀ h2, h2 = sI h (o + 1) (ix (gI h o 0)) x1 → (vp_in (gI h2 o 0) 8 ∧ ∀ h3, h3 = sI h2 (o + 3) (ix (gI h2 o 0)) x2 → (vp_in (gI h3 o 0) 8 ∧ ∀ h4, h4 = sI h3 (o + 2) (ix (gI h3 o 0)) x3 → (∀ h5, h5 = sI h4 o 0 ((gI h4 o 0) + 1) → (Q h5))))))
/-- TwoAsks$Shares.add(III)V -/
def w_X6_add (o : Nat) (h : hp) (x1 : Int32) (x2 : Int32) (x3 : Int32) (Q : hp → Prop) : Prop := w_X6_add_0 o Q x1 x2 x3 h
def w_X5_tellShare_87 (Q : Int32 → hp → Prop) (h : hp) (s0 : Int32) (s1 : Int32) (s2 : Int32) (q3 : Nat) : Prop :=
  w_X6_add q3 h s2 s1 s0 (fun h18 => Q 1 h18)
def w_X5_tellShare_38 (Q : Int32 → hp → Prop) (x1 : Int32) (h : hp) : Prop :=
  w_X5_takenWithin h 1 0 96 (fun r13 h12 => shC (gR h12 1) = 7 ∧ (w_X5_taken h12 1 (fun r15 => ((gI h12 2 2) < 2 → (w_X5_tellShare_87 Q h12 0 (r15.toInt32) x1 ((gR h12 1) + 9))) ∧ (¬ ((gI h12 2 2) < 2) → (vp_in ((gI h12 2 2) - 2) 402 ∧ (w_X5_tellShare_87 Q h12 (gI h12 5 (ix ((gI h12 2 2) - 2))) (r15.toInt32) x1 ((gR h12 1) + 9)))))))
def w_X5_tellShare_0 (Q : Int32 → hp → Prop) (h : hp) : Prop :=
  w_X5_taken h 2 (fun r1 => ∀ x1_3, x1_3 = r1.toInt32 → (w_X5_takenWithin h 2 1 96 (fun r5 h4 => (r5 = 0 → (w_X5_tellShare_38 Q x1_3 h4)) ∧ (¬ (r5 = 0) → (shC (gR h4 1) = 7 ∧ (w_X6_isAt ((gR h4 1) + 9) h4 x1_3 (fun r8 => (r8 = 0 → (w_X5_tellShare_38 Q x1_3 h4)) ∧ (¬ (r8 = 0) → (w_X5_note h4 5 2 (fun h11 => w_X5_tellShare_38 Q x1_3 h11))))))))))
/-- TwoAsks$Reader.tellShare()Z -/
def w_X5_tellShare (h : hp) (Q : Int32 → hp → Prop) : Prop := w_X5_tellShare_0 Q h
def w_X5_tellBound_0 (Q : Int32 → hp → Prop) (h : hp) : Prop :=
  w_X5_takenWithin h 2 1 4 (fun r2 h1 => (r2 = 0 → (Q 1 h1)) ∧ (¬ (r2 = 0) → (w_X5_takenWithin h1 1 1 9 (fun r5 h4 => (r5 = 0 → (Q 1 h4)) ∧ (¬ (r5 = 0) → (shC (gR h4 1) = 7 ∧ (w_X5_taken h4 2 (fun r8 => ∀ h10, h10 = sI h4 (gR h4 1) 7 (r8.toInt32) → (shC (gR h10 1) = 7 ∧ (w_X5_taken h10 1 (fun r12 => ∀ h14, h14 = sI h10 (gR h10 1) 8 (r12.toInt32) → (Q 1 h14))))))))))))
/-- TwoAsks$Reader.tellBound()Z -/
def w_X5_tellBound (h : hp) (Q : Int32 → hp → Prop) : Prop := w_X5_tellBound_0 Q h
def w_X5_isPrime_b2 (Q : Int32 → Prop) (x0 : Int32) (X2 : Int32 → Prop) (x1 : Int32) : Prop :=
  (x0 ≤ x1 → (w_X11_within (x0.toInt64) 2 97 (fun r2 => isZ r2 ∧ (Q r2)))) ∧ (¬ (x0 ≤ x1) → (¬ x1 = 0 ∧ ((¬ (jrem x0 x1) = 0 → (∀ x1_5, x1_5 = x1 + 1 → (X2 x1_5))) ∧ ((jrem x0 x1) = 0 → (Q 0)))))
def w_X5_isPrime_2 (Q : Int32 → Prop) (x0 : Int32) (x1 : Int32) : Prop :=
  wLoop (fun X2 (q : Int32) => w_X5_isPrime_b2 Q x0 X2 q) x1
def w_X5_isPrime_0 (Q : Int32 → Prop) (x0 : Int32) : Prop :=
  w_X5_isPrime_2 Q x0 2
/-- TwoAsks$Reader.isPrime(I)Z -/
def w_X5_isPrime (x0 : Int32) (Q : Int32 → Prop) : Prop := w_X5_isPrime_0 Q x0
def w_X5_tellNumber_0 (Q : Int32 → hp → Prop) (x1 : Int32) (h : hp) : Prop :=
  w_X5_taken h 1 (fun r1 => ∀ x2_3, x2_3 = r1.toInt32 → ((¬ x1 = 261 → ((¬ x1 = 263 → (w_X5_isPrime x2_3 (fun r6 => (r6 = 0 → (w_X5_note h 5 1 (fun h9 => Q 1 h9))) ∧ (¬ (r6 = 0) → (shC (gR h 1) = 7 ∧ (∀ h11, h11 = sI h ((gR h 1) + 9) 1 x2_3 → (Q 1 h11))))))) ∧ (x1 = 263 → (w_X5_takenWithin h 1 0 9 (fun r13 h12 => shC (gR h12 1) = 7 ∧ (∀ h15, h15 = sI h12 (gR h12 1) 9 x2_3 → (Q 1 h15))))))) ∧ (x1 = 261 → (w_X5_takenWithin h 1 0 999 (fun r17 h16 => shC (gR h16 1) = 7 ∧ (w_X0_add ((gR h16 1) + 15) h16 x2_3 (fun h19 => Q 1 h19)))))))
/-- TwoAsks$Reader.tellNumber(I)Z -/
def w_X5_tellNumber (h : hp) (x1 : Int32) (Q : Int32 → hp → Prop) : Prop := w_X5_tellNumber_0 Q x1 h
def w_X5_readTell_19 (Q : Int32 → hp → Prop) (h : hp) : Prop :=
  w_X5_stop h 1 (fun r105 h104 => isZ r105 ∧ (Q r105 h104))
def w_X5_readTell_0 (Q : Int32 → hp → Prop) (h : hp) : Prop :=
  w_X5_kind h (fun r1 => (r1 < 256 → (w_X5_readTell_19 Q h)) ∧ (¬ (r1 < 256) → ((r1 ≤ 263 → (shC (gR h 1) = 7 ∧ (w_X7_isFullOf (gR h 1) h r1 (fun r6 => (r6 = 0 → (w_X5_take h r1 (fun r10 h9 => (¬ r10 = 0 → (∀ sw12, sw12 = r1 → ((sw12 = 256 → (w_X5_takeName h9 (fun r15 h14 => (r15 = 0 → (Q 0 h14)) ∧ (¬ (r15 = 0) → (w_X5_take h14 3 (fun r18 h17 => (r18 = 0 → (Q 0 h17)) ∧ (¬ (r18 = 0) → (w_X5_noteSize h17 (fun r21 h20 => (r21 = 0 → (Q 0 h20)) ∧ (¬ (r21 = 0) → (w_X5_readLaw h20 (fun r24 h23 => (r24 = 0 → (Q 0 h23)) ∧ (¬ (r24 = 0) → (w_X5_tellRow h23 (fun r27 h26 => (r27 = 0 → (Q 0 h26)) ∧ (¬ (r27 = 0) → (Q 1 h26))))))))))))))))) ∧ (sw12 = 257 → (w_X5_takeName h9 (fun r31 h30 => (r31 = 0 → (Q 0 h30)) ∧ (¬ (r31 = 0) → (w_X5_readList h30 (fun r34 h33 => (r34 = 0 → (Q 0 h33)) ∧ (¬ (r34 = 0) → (w_X5_take h33 59 (fun r37 h36 => (r37 = 0 → (Q 0 h36)) ∧ (¬ (r37 = 0) → (Q 1 h36))))))))))) ∧ (sw12 = 258 → (w_X5_readLaw h9 (fun r41 h40 => (r41 = 0 → (Q 0 h40)) ∧ (¬ (r41 = 0) → (w_X5_tellAsk h40 (fun r44 h43 => (r44 = 0 → (Q 0 h43)) ∧ (¬ (r44 = 0) → (Q 1 h43)))))))) ∧ (sw12 = 259 → (w_X5_take h9 3 (fun r48 h47 => (r48 = 0 → (Q 0 h47)) ∧ (¬ (r48 = 0) → (w_X5_tellNumber h47 r1 (fun r51 h50 => (r51 = 0 → (Q 0 h50)) ∧ (¬ (r51 = 0) → (w_X5_take h50 59 (fun r54 h53 => (r54 = 0 → (Q 0 h53)) ∧ (¬ (r54 = 0) → (Q 1 h53))))))))))) ∧ (sw12 = 260 → (w_X5_take h9 3 (fun r58 h57 => (r58 = 0 → (Q 0 h57)) ∧ (¬ (r58 = 0) → (w_X5_take h57 3 (fun r61 h60 => (r61 = 0 → (Q 0 h60)) ∧ (¬ (r61 = 0) → (w_X5_tellShare h60 (fun r64 h63 => (r64 = 0 → (Q 0 h63)) ∧ (¬ (r64 = 0) → (w_X5_take h63 59 (fun r67 h66 => (r67 = 0 → (Q 0 h66)) ∧ (¬ (r67 = 0) → (Q 1 h66)))))))))))))) ∧ (sw12 = 261 → (w_X5_take h9 3 (fun r71 h70 => (r71 = 0 → (Q 0 h70)) ∧ (¬ (r71 = 0) → (w_X5_tellNumber h70 r1 (fun r74 h73 => (r74 = 0 → (Q 0 h73)) ∧ (¬ (r74 = 0) → (w_X5_take h73 59 (fun r77 h76 => (r77 = 0 → (Q 0 h76)) ∧ (¬ (r77 = 0) → (Q 1 h76))))))))))) ∧ (sw12 = 262 → (w_X5_take h9 3 (fun r81 h80 => (r81 = 0 → (Q 0 h80)) ∧ (¬ (r81 = 0) → (w_X5_take h80 3 (fun r84 h83 => (r84 = 0 → (Q 0 h83)) ∧ (¬ (r84 = 0) → (w_X5_tellBound h83 (fun r87 h86 => (r87 = 0 → (Q 0 h86)) ∧ (¬ (r87 = 0) → (w_X5_take h86 59 (fun r90 h89 => (r90 = 0 → (Q 0 h89)) ∧ (¬ (r90 = 0) → (Q 1 h89)))))))))))))) ∧ (sw12.toInt < 256 ∨ 262 < sw12.toInt → (w_X5_take h9 3 (fun r94 h93 => (r94 = 0 → (Q 0 h93)) ∧ (¬ (r94 = 0) → (w_X5_tellNumber h93 r1 (fun r97 h96 => (r97 = 0 → (Q 0 h96)) ∧ (¬ (r97 = 0) → (w_X5_take h96 59 (fun r100 h99 => (r100 = 0 → (Q 0 h99)) ∧ (¬ (r100 = 0) → (Q 1 h99)))))))))))))) ∧ (r10 = 0 → (Q 0 h9))))) ∧ (¬ (r6 = 0) → (w_X5_stop h 2 (fun r103 h102 => isZ r103 ∧ (Q r103 h102)))))))) ∧ (¬ (r1 ≤ 263) → (w_X5_readTell_19 Q h)))))
/-- TwoAsks$Reader.readTell()Z -/
def w_X5_readTell (h : hp) (Q : Int32 → hp → Prop) : Prop := w_X5_readTell_0 Q h
def w_X5_findGreat_b2 (Q : hp → Prop) (X2 : Int32 × hp → Prop) (x1 : Int32) (h : hp) : Prop :=
  shC (gR h 1) = 7 ∧ (((gI h ((gR h 1) + 9) 0) ≤ x1 → (Q h)) ∧ (¬ ((gI h ((gR h 1) + 9) 0) ≤ x1) → ((¬ (gI h 2 1) = 0 → (Q h)) ∧ ((gI h 2 1) = 0 → (shC (gR h 1) = 7 ∧ (vp_in x1 8 ∧ (shC (gR h 1) = 7 ∧ (((gI h (((gR h 1) + 9) + 1) (ix x1)) < (gI h ((gR h 1) + 9) 1) → (∀ x1_7, x1_7 = x1 + 1 → (X2 (x1_7, h)))) ∧ (¬ ((gI h (((gR h 1) + 9) + 1) (ix x1)) < (gI h ((gR h 1) + 9) 1)) → (∀ h8, h8 = sI h 2 1 6 → (shC (gR h8 1) = 7 ∧ (vp_in x1 8 ∧ (∀ h10, h10 = sI h8 2 0 (gI h8 (((gR h8 1) + 9) + 2) (ix x1)) → (∀ x1_11, x1_11 = x1 + 1 → (X2 (x1_11, h10))))))))))))))))
def w_X5_findGreat_2 (Q : hp → Prop) (x1 : Int32) (h : hp) : Prop :=
  wLoop (fun X2 (q : Int32 × hp) => w_X5_findGreat_b2 Q X2 q.1 q.2) (x1, h)
def w_X5_findGreat_0 (Q : hp → Prop) (h : hp) : Prop :=
  w_X5_findGreat_2 Q 0 h
/-- TwoAsks$Reader.findGreat()V -/
def w_X5_findGreat (h : hp) (Q : hp → Prop) : Prop := w_X5_findGreat_0 Q h
def w_X5_readDraft_77 (o1 : Nat) (no1 : Nat) (Q : Int32 → hp → Prop) (h : hp) : Prop :=
  Q (gI h 2 1) h
def w_X5_readDraft_66 (o1 : Nat) (no1 : Nat) (Q : Int32 → hp → Prop) (h : hp) : Prop :=
  (¬ (gI h 2 1) = 0 → (w_X5_readDraft_77 o1 no1 Q h)) ∧ ((gI h 2 1) = 0 → (w_X5_findGreat h (fun h16 => w_X5_readDraft_77 o1 no1 Q h16)))
def w_X5_readDraft_b36 (o1 : Nat) (no1 : Nat) (Q : Int32 → hp → Prop) (X36 : Int32 × Int32 × hp → Prop) (x3 : Int32) (x4 : Int32) (h : hp) : Prop :=
  (400 < x4 → (w_X5_readDraft_66 o1 no1 Q h)) ∧ (¬ (400 < x4) → ((x3 = 0 → (w_X5_readDraft_66 o1 no1 Q h)) ∧ (¬ (x3 = 0) → (w_X5_kind h (fun r9 => (r9 = 0 → (w_X5_readDraft_66 o1 no1 Q h)) ∧ (¬ (r9 = 0) → (w_X5_readTell h (fun r13 h12 => ∀ x4_14, x4_14 = x4 + 1 → (X36 (r13, x4_14, h12))))))))))
def w_X5_readDraft_36 (o1 : Nat) (no1 : Nat) (Q : Int32 → hp → Prop) (x3 : Int32) (x4 : Int32) (h : hp) : Prop :=
  wLoop (fun X36 (q : Int32 × Int32 × hp) => w_X5_readDraft_b36 o1 no1 Q X36 q.1 q.2.1 q.2.2) (x3, x4, h)
def w_X5_readDraft_0 (o1 : Nat) (no1 : Nat) (Q : Int32 → hp → Prop) (x2 : Int32) (h : hp) : Prop :=
  shC (gR h 1) = 7 ∧ (w_X7_clear (gR h 1) h (fun h2 => w_X8_cut o1 no1 h2 x2 (fun h3 => ∀ h4, h4 = sI h3 2 2 0 → (∀ h5, h5 = sI h4 2 1 0 → (∀ h6, h6 = sI h5 2 0 (-1) → (w_X5_readDraft_36 o1 no1 Q 1 0 h6))))))
/-- TwoAsks$Reader.readDraft([BI)I -/
def w_X5_readDraft (o1 : Nat) (no1 : Nat) (h : hp) (x2 : Int32) (Q : Int32 → hp → Prop) : Prop := w_X5_readDraft_0 o1 no1 Q x2 h
def w_X5_exchange_0 (o1 : Nat) (Q : Nat → hp → Prop) (h : hp) : Prop :=
  shC (gR h 1) = 7 ∧ (∀ h2, h2 = sR h 1 o1 → (Q (gR h 1) h2))
/-- TwoAsks$Reader.exchange(LTwoAsks$Text;)LTwoAsks$Text; -/
def w_X5_exchange (o1 : Nat) (h : hp) (Q : Nat → hp → Prop) : Prop := w_X5_exchange_0 o1 Q h
def w_X6_isSet_0 (o : Nat) (Q : Int32 → Prop) (x1 : Int32) (h : hp) : Prop :=
  (x1 ≤ 0 → (Q 0)) ∧ (¬ (x1 ≤ 0) → (((jshl 1 (gI h o 0)) ≤ x1 → (Q 0)) ∧ (¬ ((jshl 1 (gI h o 0)) ≤ x1) → (w_J6_bitCount_0f7a4 x1 (fun r3 => (6 < r3 → (Q 0)) ∧ (¬ (6 < r3) → (Q 1)))))))
/-- TwoAsks$Shares.isSet(I)Z -/
def w_X6_isSet (o : Nat) (h : hp) (x1 : Int32) (Q : Int32 → Prop) : Prop := w_X6_isSet_0 o Q x1 h
def w_X6_isIn_0 (Q : Int32 → Prop) (x0 : Int32) (x1 : Int32) : Prop :=
  (((jshr x0 x1) &&& 1) = 0 → (Q 0)) ∧ (¬ (((jshr x0 x1) &&& 1) = 0) → (Q 1))
/-- TwoAsks$Shares.isIn(II)Z -/
def w_X6_isIn (x0 : Int32) (x1 : Int32) (Q : Int32 → Prop) : Prop := w_X6_isIn_0 Q x0 x1
def w_X6_restOf_0 (o : Nat) (Q : Int32 → Prop) (x1 : Int64) (h : hp) : Prop :=
  (2 ≤ (gI h o 1) → (w_J9_floorMod_f86c9 x1 ((gI h o 1).toInt64) (fun r2 => Q (r2.toInt32)))) ∧ (¬ (2 ≤ (gI h o 1)) → (Q 0))
/-- TwoAsks$Shares.restOf(J)I -/
def w_X6_restOf (o : Nat) (h : hp) (x1 : Int64) (Q : Int32 → Prop) : Prop := w_X6_restOf_0 o Q x1 h
def w_X6_othersProduct_b53 (o : Nat) (Q : Int32 → hp → Prop) (X20 : Int32 × Int32 × hp → Prop) (x1 : Int32) (x2 : Int32) (x3 : Int32) (x4 : Int32) (X53 : Int32 × hp → Prop) (x5 : Int32) (h : hp) : Prop :=
  (x5 ≤ 0 → (vp_in x4 8 ∧ (vp_in 0 7 ∧ (w_X6_restOf o h (((-(gI h (o + 1) (ix x4))) * (gI h (o + 5) (ix 0))).toInt64) (fun r12 => vp_in 0 7 ∧ ∀ h14, h14 = sI h (o + 5) (ix 0) r12 → (vp_in x2 8 ∧ (vp_in x4 8 ∧ (w_X6_restOf o h14 ((x3 * ((gI h14 (o + 1) (ix x2)) - (gI h14 (o + 1) (ix x4)))).toInt64) (fun r15 => ∀ x4_17, x4_17 = x4 + 1 → (X20 (r15, x4_17, h14))))))))))) ∧ (¬ (x5 ≤ 0) → (vp_in (x5 - 1) 7 ∧ (vp_in x4 8 ∧ (vp_in x5 7 ∧ (w_X6_restOf o h (((gI h (o + 5) (ix (x5 - 1))) - ((gI h (o + 1) (ix x4)) * (gI h (o + 5) (ix x5)))).toInt64) (fun r18 => vp_in x5 7 ∧ ∀ h20, h20 = sI h (o + 5) (ix x5) r18 → (∀ x5_21, x5_21 = x5 + (-1) → (X53 (x5_21, h20)))))))))
def w_X6_othersProduct_53 (o : Nat) (Q : Int32 → hp → Prop) (X20 : Int32 × Int32 × hp → Prop) (x1 : Int32) (x2 : Int32) (x3 : Int32) (x4 : Int32) (x5 : Int32) (h : hp) : Prop :=
  wLoop (fun X53 (q : Int32 × hp) => w_X6_othersProduct_b53 o Q X20 x1 x2 x3 x4 X53 q.1 q.2) (x5, h)
def w_X6_othersProduct_b20 (o : Nat) (Q : Int32 → hp → Prop) (x1 : Int32) (x2 : Int32) (X20 : Int32 × Int32 × hp → Prop) (x3 : Int32) (x4 : Int32) (h : hp) : Prop :=
  ((gI h o 0) ≤ x4 → (Q x3 h)) ∧ (¬ ((gI h o 0) ≤ x4) → ((x4 = x2 → (∀ x4_5, x4_5 = x4 + 1 → (X20 (x3, x4_5, h)))) ∧ (¬ (x4 = x2) → (w_X6_isIn x1 x4 (fun r6 => (r6 = 0 → (∀ x4_9, x4_9 = x4 + 1 → (X20 (x3, x4_9, h)))) ∧ (¬ (r6 = 0) → (∀ x5_10, x5_10 = 7 - 1 → (w_X6_othersProduct_53 o Q X20 x1 x2 x3 x4 x5_10 h))))))))
def w_X6_othersProduct_20 (o : Nat) (Q : Int32 → hp → Prop) (x1 : Int32) (x2 : Int32) (x3 : Int32) (x4 : Int32) (h : hp) : Prop :=
  wLoop (fun X20 (q : Int32 × Int32 × hp) => w_X6_othersProduct_b20 o Q x1 x2 X20 q.1 q.2.1 q.2.2) (x3, x4, h)
def w_X6_othersProduct_0 (o : Nat) (Q : Int32 → hp → Prop) (x1 : Int32) (x2 : Int32) (h : hp) : Prop :=
  w_J7_fill_53178 (o + 5) 7 h 0 (fun h1 => vp_in 0 7 ∧ ∀ h2, h2 = sI h1 (o + 5) (ix 0) 1 → (w_X6_othersProduct_20 o Q x1 x2 1 0 h2))
/-- TwoAsks$Shares.othersProduct(II)I -/
def w_X6_othersProduct (o : Nat) (h : hp) (x1 : Int32) (x2 : Int32) (Q : Int32 → hp → Prop) : Prop := w_X6_othersProduct_0 o Q x1 x2 h
def w_X6_turnedOver_b2 (o : Nat) (Q : Int32 → Prop) (x1 : Int32) (h : hp) (X2 : Int32 → Prop) (x2 : Int32) : Prop :=
  ((gI h o 1) ≤ x2 → (Q 0)) ∧ (¬ ((gI h o 1) ≤ x2) → (w_X6_restOf o h ((x1 * x2).toInt64) (fun r2 => (¬ r2 = 1 → (∀ x2_5, x2_5 = x2 + 1 → (X2 x2_5))) ∧ (r2 = 1 → (Q x2)))))
def w_X6_turnedOver_2 (o : Nat) (Q : Int32 → Prop) (x1 : Int32) (h : hp) (x2 : Int32) : Prop :=
  wLoop (fun X2 (q : Int32) => w_X6_turnedOver_b2 o Q x1 h X2 q) x2
def w_X6_turnedOver_0 (o : Nat) (Q : Int32 → Prop) (x1 : Int32) (h : hp) : Prop :=
  w_X6_turnedOver_2 o Q x1 h 1
/-- TwoAsks$Shares.turnedOver(I)I -/
def w_X6_turnedOver (o : Nat) (h : hp) (x1 : Int32) (Q : Int32 → Prop) : Prop := w_X6_turnedOver_0 o Q x1 h
def w_X6_findRow_b52 (o : Nat) (Q : hp → Prop) (X10 : Int32 × hp → Prop) (x1 : Int32) (x2 : Int32) (x3 : Int32) (X52 : Int32 × hp → Prop) (x4 : Int32) (h : hp) : Prop :=
  (6 ≤ x4 → (∀ x2_14, x2_14 = x2 + 1 → (X10 (x2_14, h)))) ∧ (¬ (6 ≤ x4) → (vp_in x4 6 ∧ (vp_in x4 7 ∧ (w_X6_restOf o h (((gI h (o + 4) (ix x4)) + (x3 * (gI h (o + 5) (ix x4)))).toInt64) (fun r15 => vp_in x4 6 ∧ ∀ h17, h17 = sI h (o + 4) (ix x4) r15 → (∀ x4_18, x4_18 = x4 + 1 → (X52 (x4_18, h17))))))))
def w_X6_findRow_52 (o : Nat) (Q : hp → Prop) (X10 : Int32 × hp → Prop) (x1 : Int32) (x2 : Int32) (x3 : Int32) (x4 : Int32) (h : hp) : Prop :=
  wLoop (fun X52 (q : Int32 × hp) => w_X6_findRow_b52 o Q X10 x1 x2 x3 X52 q.1 q.2) (x4, h)
def w_X6_findRow_b10 (o : Nat) (Q : hp → Prop) (x1 : Int32) (X10 : Int32 × hp → Prop) (x2 : Int32) (h : hp) : Prop :=
  ((gI h o 0) ≤ x2 → (Q h)) ∧ (¬ ((gI h o 0) ≤ x2) → (w_X6_isIn x1 x2 (fun r3 => (r3 = 0 → (∀ x2_6, x2_6 = x2 + 1 → (X10 (x2_6, h)))) ∧ (¬ (r3 = 0) → (vp_in x2 8 ∧ (w_X6_othersProduct o h x1 x2 (fun r8 h7 => w_X6_turnedOver o h7 r8 (fun r9 => w_X6_restOf o h7 (((gI h (o + 3) (ix x2)) * r9).toInt64) (fun r11 => w_X6_findRow_52 o Q X10 x1 x2 r11 0 h7)))))))))
def w_X6_findRow_10 (o : Nat) (Q : hp → Prop) (x1 : Int32) (x2 : Int32) (h : hp) : Prop :=
  wLoop (fun X10 (q : Int32 × hp) => w_X6_findRow_b10 o Q x1 X10 q.1 q.2) (x2, h)
def w_X6_findRow_0 (o : Nat) (Q : hp → Prop) (x1 : Int32) (h : hp) : Prop :=
  w_J7_fill_53178 (o + 4) 6 h 0 (fun h1 => w_X6_findRow_10 o Q x1 0 h1)
/-- TwoAsks$Shares.findRow(I)V -/
def w_X6_findRow (o : Nat) (h : hp) (x1 : Int32) (Q : hp → Prop) : Prop := w_X6_findRow_0 o Q x1 h
def w_X6_comesTo_b10 (o : Nat) (Q : Int32 → Prop) (x1 : Int32) (h : hp) (X10 : Int32 × Int32 → Prop) (x2 : Int32) (x3 : Int32) : Prop :=
  (x3 < 0 → (Q x2)) ∧ (¬ (x3 < 0) → (vp_in x3 6 ∧ (w_X6_restOf o h (((x2 * x1) + (gI h (o + 4) (ix x3))).toInt64) (fun r3 => ∀ x3_5, x3_5 = x3 + (-1) → (X10 (r3, x3_5))))))
def w_X6_comesTo_10 (o : Nat) (Q : Int32 → Prop) (x1 : Int32) (h : hp) (x2 : Int32) (x3 : Int32) : Prop :=
  wLoop (fun X10 (q : Int32 × Int32) => w_X6_comesTo_b10 o Q x1 h X10 q.1 q.2) (x2, x3)
def w_X6_comesTo_0 (o : Nat) (Q : Int32 → Prop) (x1 : Int32) (h : hp) : Prop :=
  ∀ x3_1, x3_1 = 6 - 1 → (w_X6_comesTo_10 o Q x1 h 0 x3_1)
/-- TwoAsks$Shares.comesTo(I)I -/
def w_X6_comesTo (o : Nat) (h : hp) (x1 : Int32) (Q : Int32 → Prop) : Prop := w_X6_comesTo_0 o Q x1 h
def w_X6_sharesOff_b4 (o : Nat) (Q : Int32 → Prop) (h : hp) (X4 : Int32 × Int32 → Prop) (x1 : Int32) (x2 : Int32) : Prop :=
  ((gI h o 0) ≤ x2 → (Q x1)) ∧ (¬ ((gI h o 0) ≤ x2) → (vp_in x2 8 ∧ (w_X6_comesTo o h (gI h (o + 1) (ix x2)) (fun r2 => vp_in x2 8 ∧ (w_X6_restOf o h ((gI h (o + 3) (ix x2)).toInt64) (fun r4 => (r2 = r4 → (∀ x2_7, x2_7 = x2 + 1 → (X4 (x1, x2_7)))) ∧ (¬ (r2 = r4) → (∀ x1_8, x1_8 = x1 ||| (jshl 1 x2) → (∀ x2_9, x2_9 = x2 + 1 → (X4 (x1_8, x2_9)))))))))))
def w_X6_sharesOff_4 (o : Nat) (Q : Int32 → Prop) (h : hp) (x1 : Int32) (x2 : Int32) : Prop :=
  wLoop (fun X4 (q : Int32 × Int32) => w_X6_sharesOff_b4 o Q h X4 q.1 q.2) (x1, x2)
def w_X6_sharesOff_0 (o : Nat) (Q : Int32 → Prop) (h : hp) : Prop :=
  w_X6_sharesOff_4 o Q h 0 0
/-- TwoAsks$Shares.sharesOff()I -/
def w_X6_sharesOff (o : Nat) (h : hp) (Q : Int32 → Prop) : Prop := w_X6_sharesOff_0 o Q h
def w_X6_offRow_b7 (o : Nat) (Q : Int32 → hp → Prop) (x1 : Int32) (X7 : Int32 × Int32 × Int32 × hp → Prop) (x2 : Int32) (x3 : Int32) (x4 : Int32) (h : hp) : Prop :=
  ((jshl 1 (gI h o 0)) ≤ x4 → (Q x2 h)) ∧ (¬ ((jshl 1 (gI h o 0)) ≤ x4) → (w_J6_bitCount_0f7a4 x4 (fun r2 => (¬ r2 = x1 → (∀ x4_5, x4_5 = x4 + 1 → (X7 (x2, x3, x4_5, h)))) ∧ (r2 = x1 → (w_X6_isSet o h x4 (fun r6 => (r6 = 0 → (∀ x4_9, x4_9 = x4 + 1 → (X7 (x2, x3, x4_9, h)))) ∧ (¬ (r6 = 0) → (w_X6_findRow o h x4 (fun h10 => w_X6_sharesOff o h10 (fun r11 => (x3 = 0 → (∀ x4_14, x4_14 = x4 + 1 → (X7 (r11, 1, x4_14, h10)))) ∧ (¬ (x3 = 0) → (w_J6_bitCount_0f7a4 r11 (fun r15 => w_J6_bitCount_0f7a4 x2 (fun r17 => (r17 ≤ r15 → (∀ x4_20, x4_20 = x4 + 1 → (X7 (x2, x3, x4_20, h10)))) ∧ (¬ (r17 ≤ r15) → (∀ x4_21, x4_21 = x4 + 1 → (X7 (r11, 1, x4_21, h10))))))))))))))))))
def w_X6_offRow_7 (o : Nat) (Q : Int32 → hp → Prop) (x1 : Int32) (x2 : Int32) (x3 : Int32) (x4 : Int32) (h : hp) : Prop :=
  wLoop (fun X7 (q : Int32 × Int32 × Int32 × hp) => w_X6_offRow_b7 o Q x1 X7 q.1 q.2.1 q.2.2.1 q.2.2.2) (x2, x3, x4, h)
def w_X6_offRow_0 (o : Nat) (Q : Int32 → hp → Prop) (x1 : Int32) (h : hp) : Prop :=
  w_X6_offRow_7 o Q x1 0 0 1 h
/-- TwoAsks$Shares.offRow(I)I -/
def w_X6_offRow (o : Nat) (h : hp) (x1 : Int32) (Q : Int32 → hp → Prop) : Prop := w_X6_offRow_0 o Q x1 h
def w_X7_numberAt_31 (o : Nat) (Q : Int32 → Prop) (x1 : Int32) (x2 : Int32) (h : hp) (s0 : Int32) : Prop :=
  (s0 = 0 → (Q 0)) ∧ (¬ (s0 = 0) → (vp_in ((x1 * 6) + x2) 36 ∧ (Q (gI h (o + 3) (ix ((x1 * 6) + x2))))))
def w_X7_numberAt_0 (o : Nat) (Q : Int32 → Prop) (x1 : Int32) (x2 : Int32) (h : hp) : Prop :=
  (x1 < 0 → (w_X7_numberAt_31 o Q x1 x2 h 0)) ∧ (¬ (x1 < 0) → (((gI h o 0) ≤ x1 → (w_X7_numberAt_31 o Q x1 x2 h 0)) ∧ (¬ ((gI h o 0) ≤ x1) → ((x2 < 0 → (w_X7_numberAt_31 o Q x1 x2 h 0)) ∧ (¬ (x2 < 0) → (vp_in x1 6 ∧ (((gI h (o + 1) (ix x1)) ≤ x2 → (w_X7_numberAt_31 o Q x1 x2 h 0)) ∧ (¬ ((gI h (o + 1) (ix x1)) ≤ x2) → (w_X7_numberAt_31 o Q x1 x2 h 1)))))))))
/-- TwoAsks$Text.numberAt(II)I -/
def w_X7_numberAt (o : Nat) (h : hp) (x1 : Int32) (x2 : Int32) (Q : Int32 → Prop) : Prop := w_X7_numberAt_0 o Q x1 x2 h
def w_X7_comesTo_b6 (o : Nat) (Q : Int64 → Prop) (x1 : Int32) (x2 : Int64) (h : hp) (X6 : Int64 × Int32 → Prop) (x4 : Int64) (x6 : Int32) : Prop :=
  (x6 < 0 → (Q x4)) ∧ (¬ (x6 < 0) → (w_X7_numberAt o h x1 x6 (fun r2 => ∀ x4_4, x4_4 = (x4 * x2) + (r2.toInt64) → (∀ x6_5, x6_5 = x6 + (-1) → (X6 (x4_4, x6_5))))))
def w_X7_comesTo_6 (o : Nat) (Q : Int64 → Prop) (x1 : Int32) (x2 : Int64) (h : hp) (x4 : Int64) (x6 : Int32) : Prop :=
  wLoop (fun X6 (q : Int64 × Int32) => w_X7_comesTo_b6 o Q x1 x2 h X6 q.1 q.2) (x4, x6)
def w_X7_comesTo_0 (o : Nat) (Q : Int64 → Prop) (x1 : Int32) (x2 : Int64) (h : hp) : Prop :=
  w_X7_comesTo_6 o Q x1 x2 h 0 5
/-- TwoAsks$Text.comesTo(IJ)J -/
def w_X7_comesTo (o : Nat) (h : hp) (x1 : Int32) (x2 : Int64) (Q : Int64 → Prop) : Prop := w_X7_comesTo_0 o Q x1 x2 h
def w_X7_isSomeBelowZero_b2 (o : Nat) (Q : Int32 → Prop) (x1 : Int32) (h : hp) (X2 : Int32 → Prop) (x2 : Int32) : Prop :=
  (6 ≤ x2 → (Q 0)) ∧ (¬ (6 ≤ x2) → (w_X7_numberAt o h x1 x2 (fun r2 => (0 ≤ r2 → (∀ x2_5, x2_5 = x2 + 1 → (X2 x2_5))) ∧ (¬ (0 ≤ r2) → (Q 1)))))
def w_X7_isSomeBelowZero_2 (o : Nat) (Q : Int32 → Prop) (x1 : Int32) (h : hp) (x2 : Int32) : Prop :=
  wLoop (fun X2 (q : Int32) => w_X7_isSomeBelowZero_b2 o Q x1 h X2 q) x2
def w_X7_isSomeBelowZero_0 (o : Nat) (Q : Int32 → Prop) (x1 : Int32) (h : hp) : Prop :=
  w_X7_isSomeBelowZero_2 o Q x1 h 0
/-- TwoAsks$Text.isSomeBelowZero(I)Z -/
def w_X7_isSomeBelowZero (o : Nat) (h : hp) (x1 : Int32) (Q : Int32 → Prop) : Prop := w_X7_isSomeBelowZero_0 o Q x1 h
def w_X9_clear_0 (o : Nat) (Q : hp → Prop) (h : hp) : Prop :=
  ∀ h1, h1 = sI h o 0 0 → (Q h1)
/-- TwoAsks$Told.clear()V -/
def w_X9_clear (o : Nat) (h : hp) (Q : hp → Prop) : Prop := w_X9_clear_0 o Q h
def w_X9_isFull_0 (o : Nat) (Q : Int32 → Prop) (h : hp) : Prop :=
  ((gI h o 0) < 20 → (Q 0)) ∧ (¬ ((gI h o 0) < 20) → (Q 1))
/-- TwoAsks$Told.isFull()Z -/
def w_X9_isFull (o : Nat) (h : hp) (Q : Int32 → Prop) : Prop := w_X9_isFull_0 o Q h
def w_X9_add_0 (o : Nat) (Q : hp → Prop) (x1 : Int32) (x2 : Int64) (h : hp) : Prop :=
  (20 ≤ (gI h o 0) → (Q h)) ∧ (¬ (20 ≤ (gI h o 0)) → (vp_in (gI h o 0) 20 ∧ ∀ h2, h2 = sI h (o + 1) (ix (gI h o 0)) x1 → (vp_in (gI h2 o 0) 20 ∧ ∀ h3, h3 = sL h2 (o + 2) (ix (gI h2 o 0)) x2 → (∀ h4, h4 = sI h3 o 0 ((gI h3 o 0) + 1) → (Q h4)))))
/-- TwoAsks$Told.add(IJ)V -/
def w_X9_add (o : Nat) (h : hp) (x1 : Int32) (x2 : Int64) (Q : hp → Prop) : Prop := w_X9_add_0 o Q x1 x2 h
def w_X9_copy_0 (o : Nat) (o1 : Nat) (Q : hp → Prop) (h : hp) : Prop :=
  ∀ h1, h1 = sI h o 0 (gI h o1 0) → (¬ (0 : Int32) < 0 ∧ ¬ (0 : Int32) < 0 ∧ ¬ (20 : Int32) < 0 ∧ ix 0 + ix 20 ≤ 20 ∧ ix 0 + ix 20 ≤ 20 ∧ ∀ h2, h2 = cI h1 (o1 + 1) (ix 0) (o + 1) (ix 0) (ix 20) → (¬ (0 : Int32) < 0 ∧ ¬ (0 : Int32) < 0 ∧ ¬ (20 : Int32) < 0 ∧ ix 0 + ix 20 ≤ 20 ∧ ix 0 + ix 20 ≤ 20 ∧ ∀ h3, h3 = cL h2 (o1 + 2) (ix 0) (o + 2) (ix 0) (ix 20) → (Q h3)))
/-- TwoAsks$Told.copy(LTwoAsks$Told;)V -/
def w_X9_copy (o : Nat) (o1 : Nat) (h : hp) (Q : hp → Prop) : Prop := w_X9_copy_0 o o1 Q h
def w_X10_settle_b38 (Q : hp → Prop) (X22 : Int32 × Int32 × hp → Prop) (x4 : Int32) (x5 : Int32) (X38 : Int32 × Int32 × hp → Prop) (x3 : Int32) (x6 : Int32) (h : hp) : Prop :=
  ((x5 * ((gI h 64 2) + 1)) ≤ x6 → (∀ x4_7, x4_7 = x4 + 1 → (X22 (x3, x4_7, h)))) ∧ (¬ ((x5 * ((gI h 64 2) + 1)) ≤ x6) → ((10000 ≤ x6 → (∀ x4_9, x4_9 = x4 + 1 → (X22 (x3, x4_9, h)))) ∧ (¬ (10000 ≤ x6) → (¬ x5 = 0 ∧ (vp_in (jrem x6 x5) 10000 ∧ (vp_in x6 10000 ∧ ∀ h10, h10 = sI h 66 (ix x6) ((gI h 66 (ix (jrem x6 x5))) + 1) → (∀ x3_11, x3_11 = x3 + 1 → (∀ x6_12, x6_12 = x6 + 1 → (X38 (x3_11, x6_12, h10))))))))))
def w_X10_settle_38 (Q : hp → Prop) (X22 : Int32 × Int32 × hp → Prop) (x4 : Int32) (x5 : Int32) (x3 : Int32) (x6 : Int32) (h : hp) : Prop :=
  wLoop (fun X38 (q : Int32 × Int32 × hp) => w_X10_settle_b38 Q X22 x4 x5 X38 q.1 q.2.1 q.2.2) (x3, x6, h)
def w_X10_settle_b22 (Q : hp → Prop) (X22 : Int32 × Int32 × hp → Prop) (x3 : Int32) (x4 : Int32) (h : hp) : Prop :=
  ((gI h 64 0) ≤ x4 → (∀ h5, h5 = sI h 64 1 x3 → (Q h5))) ∧ (¬ ((gI h 64 0) ≤ x4) → (w_X10_settle_38 Q X22 x4 x3 x3 x3 h))
def w_X10_settle_22 (Q : hp → Prop) (x3 : Int32) (x4 : Int32) (h : hp) : Prop :=
  wLoop (fun X22 (q : Int32 × Int32 × hp) => w_X10_settle_b22 Q X22 q.1 q.2.1 q.2.2) (x3, x4, h)
def w_X10_settle_0 (Q : hp → Prop) (x1 : Int32) (x2 : Int32) (h : hp) : Prop :=
  ∀ h1, h1 = sI h 64 0 x1 → (∀ h2, h2 = sI h1 64 2 x2 → (vp_in 0 10000 ∧ ∀ h3, h3 = sI h2 66 (ix 0) 0 → (w_X10_settle_22 Q 1 0 h3)))
/-- TwoAsks$Worlds.settle(II)V -/
def w_X10_settle (h : hp) (x1 : Int32) (x2 : Int32) (Q : hp → Prop) : Prop := w_X10_settle_0 Q x1 x2 h
def w_X10_howManyComeTo_b12 (Q : Int32 → hp → Prop) (x2 : Int64) (h : hp) (X12 : Int32 × Int32 → Prop) (x4 : Int32) (x5 : Int32) : Prop :=
  ((gI h 64 1) ≤ x5 → (Q x4 h)) ∧ (¬ ((gI h 64 1) ≤ x5) → (vp_in x5 10000 ∧ ((¬ (gL h 65 (ix x5)) = x2 → (∀ x5_4, x5_4 = x5 + 1 → (X12 (x4, x5_4)))) ∧ ((gL h 65 (ix x5)) = x2 → (∀ x4_5, x4_5 = x4 + 1 → (∀ x5_6, x5_6 = x5 + 1 → (X12 (x4_5, x5_6))))))))
def w_X10_howManyComeTo_12 (Q : Int32 → hp → Prop) (x2 : Int64) (h : hp) (x4 : Int32) (x5 : Int32) : Prop :=
  wLoop (fun X12 (q : Int32 × Int32) => w_X10_howManyComeTo_b12 Q x2 h X12 q.1 q.2) (x4, x5)
def w_X10_howManyComeTo_0 (Q : Int32 → hp → Prop) (x1 : Int32) (x2 : Int64) (h : hp) : Prop :=
  w_X10_comeBy h (x1.toInt64) (fun h1 => w_X10_howManyComeTo_12 Q x2 h1 0 0)
/-- TwoAsks$Worlds.howManyComeTo(IJ)I -/
def w_X10_howManyComeTo (h : hp) (x1 : Int32) (x2 : Int64) (Q : Int32 → hp → Prop) : Prop := w_X10_howManyComeTo_0 Q x1 x2 h
def w_X10_clashing_b19 (Q : Int32 → hp → Prop) (x2 : Int32) (X19 : Int32 × hp → Prop) (x3 : Int32) (h : hp) : Prop :=
  ((gI h 64 1) ≤ x3 → (Q (-2) h)) ∧ (¬ ((gI h 64 1) ≤ x3) → (vp_in x3 10000 ∧ (w_X4_leaderOf h (gL h 65 (ix x3)) x3 (fun r5 h4 => (r5 = x3 → (∀ x3_7, x3_7 = x3 + 1 → (X19 (x3_7, h4)))) ∧ (¬ (r5 = x3) → ((x2 = 0 → (Q r5 h4)) ∧ (¬ (x2 = 0) → (Q x3 h4))))))))
def w_X10_clashing_19 (Q : Int32 → hp → Prop) (x2 : Int32) (x3 : Int32) (h : hp) : Prop :=
  wLoop (fun X19 (q : Int32 × hp) => w_X10_clashing_b19 Q x2 X19 q.1 q.2) (x3, h)
def w_X10_clashing_0 (Q : Int32 → hp → Prop) (x1 : Int32) (x2 : Int32) (h : hp) : Prop :=
  w_X10_comeBy h (x1.toInt64) (fun h1 => w_X4_clear h1 (gI h1 64 1) (fun h2 => w_X10_clashing_19 Q x2 0 h2))
/-- TwoAsks$Worlds.clashing(IZ)I -/
def w_X10_clashing (h : hp) (x1 : Int32) (x2 : Int32) (Q : Int32 → hp → Prop) : Prop := w_X10_clashing_0 Q x1 x2 h
def w_X10_partGroups_b22 (Q : Int32 → hp → Prop) (x2 : Int32) (X22 : Int32 × Int32 × hp → Prop) (x3 : Int32) (x4 : Int32) (h : hp) : Prop :=
  ((gI h 64 1) ≤ x4 → (isZ x3 ∧ (Q x3 h))) ∧ (¬ ((gI h 64 1) ≤ x4) → (vp_in x4 10000 ∧ ((x2 < (gI h 66 (ix x4)) → (∀ x4_5, x4_5 = x4 + 1 → (X22 (x3, x4_5, h)))) ∧ (¬ (x2 < (gI h 66 (ix x4))) → (vp_in x4 10000 ∧ (vp_in x4 10000 ∧ (w_X4_leaderOf h ((((gI h 67 (ix x4)).toInt64) * 10000) + (gL h 65 (ix x4))) x4 (fun r7 h6 => vp_in x4 10000 ∧ ∀ h8, h8 = sI h6 67 (ix x4) r7 → ((x3 = 0 → (∀ x4_10, x4_10 = x4 + 1 → (X22 (0, x4_10, h8)))) ∧ (¬ (x3 = 0) → (vp_in x4 10000 ∧ ((¬ (gI h8 67 (ix x4)) = x4 → (∀ x4_12, x4_12 = x4 + 1 → (X22 (0, x4_12, h8)))) ∧ ((gI h8 67 (ix x4)) = x4 → (∀ x4_13, x4_13 = x4 + 1 → (X22 (1, x4_13, h8))))))))))))))))
def w_X10_partGroups_22 (Q : Int32 → hp → Prop) (x2 : Int32) (x3 : Int32) (x4 : Int32) (h : hp) : Prop :=
  wLoop (fun X22 (q : Int32 × Int32 × hp) => w_X10_partGroups_b22 Q x2 X22 q.1 q.2.1 q.2.2) (x3, x4, h)
def w_X10_partGroups_0 (Q : Int32 → hp → Prop) (x1 : Int32) (x2 : Int32) (h : hp) : Prop :=
  w_X10_comeBy h (x1.toInt64) (fun h1 => w_X4_clear h1 (gI h1 64 1) (fun h2 => w_X10_partGroups_22 Q x2 1 0 h2))
/-- TwoAsks$Worlds.partGroups(II)Z -/
def w_X10_partGroups (h : hp) (x1 : Int32) (x2 : Int32) (Q : Int32 → hp → Prop) : Prop := w_X10_partGroups_0 Q x1 x2 h
def w_X10_fewestNumbers_b10 (Q : Int32 → hp → Prop) (x1 : Int32) (X10 : Int32 × hp → Prop) (x2 : Int32) (h : hp) : Prop :=
  (9 < x2 → (Q (-2) h)) ∧ (¬ (9 < x2) → (w_X10_partGroups h x2 x1 (fun r4 h3 => (r4 = 0 → (∀ x2_6, x2_6 = x2 + 1 → (X10 (x2_6, h3)))) ∧ (¬ (r4 = 0) → (Q x2 h3)))))
def w_X10_fewestNumbers_10 (Q : Int32 → hp → Prop) (x1 : Int32) (x2 : Int32) (h : hp) : Prop :=
  wLoop (fun X10 (q : Int32 × hp) => w_X10_fewestNumbers_b10 Q x1 X10 q.1 q.2) (x2, h)
def w_X10_fewestNumbers_0 (Q : Int32 → hp → Prop) (x1 : Int32) (h : hp) : Prop :=
  w_J7_fill_53178 67 10000 h 0 (fun h1 => w_X10_fewestNumbers_10 Q x1 1 h1)
/-- TwoAsks$Worlds.fewestNumbers(I)I -/
def w_X10_fewestNumbers (h : hp) (x1 : Int32) (Q : Int32 → hp → Prop) : Prop := w_X10_fewestNumbers_0 Q x1 h
def w_X11_begin_b9 (Q : hp → Prop) (X9 : Int32 × hp → Prop) (x1 : Int32) (h : hp) : Prop :=
  (3 ≤ x1 → (∀ h3, h3 = sI h 0 7 (-2) → (∀ h4, h4 = sI h3 0 8 0 → (shC (gR h4 0) = 7 ∧ (shC (gR h4 0) = 7 ∧ (w_X10_settle h4 (gI h4 (gR h4 0) 7) (gI h4 (gR h4 0) 8) (fun h7 => Q h7))))))) ∧ (¬ (3 ≤ x1) → (vp_in x1 3 ∧ (w_X9_clear (54 + 3 * ix x1) h (fun h9 => vp_in x1 3 ∧ (∀ h11, h11 = sI h9 (54 + 3 * ix x1) 3 0 → (∀ x1_12, x1_12 = x1 + 1 → (X9 (x1_12, h11))))))))
def w_X11_begin_9 (Q : hp → Prop) (x1 : Int32) (h : hp) : Prop :=
  wLoop (fun X9 (q : Int32 × hp) => w_X11_begin_b9 Q X9 q.1 q.2) (x1, h)
def w_X11_begin_0 (Q : hp → Prop) (h : hp) : Prop :=
  w_X9_clear 51 h (fun h1 => w_X11_begin_9 Q 0 h1)
/-- TwoAsks.begin()V -/
def w_X11_begin (h : hp) (Q : hp → Prop) : Prop := w_X11_begin_0 Q h
def w_X11_putFour_b3 (Q : hp → Prop) (x1 : Int32) (X3 : Int32 × hp → Prop) (x2 : Int32) (h : hp) : Prop :=
  (x2 < 0 → (Q h)) ∧ (¬ (x2 < 0) → ((2000 ≤ (gI h 0 1) → (Q h)) ∧ (¬ (2000 ≤ (gI h 0 1)) → (vp_in (gI h 0 1) 2000 ∧ ∀ h3, h3 = sI h 1 (ix (gI h 0 1)) (jb ((jushr x1 x2).toInt8.toInt32)) → (∀ h4, h4 = sI h3 0 1 ((gI h3 0 1) + 1) → (∀ x2_5, x2_5 = x2 + (-8) → (X3 (x2_5, h4))))))))
def w_X11_putFour_3 (Q : hp → Prop) (x1 : Int32) (x2 : Int32) (h : hp) : Prop :=
  wLoop (fun X3 (q : Int32 × hp) => w_X11_putFour_b3 Q x1 X3 q.1 q.2) (x2, h)
def w_X11_putFour_0 (Q : hp → Prop) (x1 : Int32) (h : hp) : Prop :=
  w_X11_putFour_3 Q x1 24 h
/-- TwoAsks.putFour(I)V -/
def w_X11_putFour (h : hp) (x1 : Int32) (Q : hp → Prop) : Prop := w_X11_putFour_0 Q x1 h
def w_X11_feed_0 (Q : Int32 → hp → Prop) (x1 : Int32) (x2 : Int32) (x3 : Int32) (x4 : Int32) (x5 : Int32) (h : hp) : Prop :=
  ((gI h 0 1) ≤ 1980 → (w_X11_putFour h x1 (fun h2 => w_X11_putFour h2 x2 (fun h3 => w_X11_putFour h3 x3 (fun h4 => w_X11_putFour h4 x4 (fun h5 => w_X11_putFour h5 x5 (fun h6 => Q (gI h6 0 1) h6))))))) ∧ (¬ ((gI h 0 1) ≤ 1980) → (Q (-1) h))
/-- TwoAsks.feed(IIIII)I -/
def w_X11_feed (h : hp) (x1 : Int32) (x2 : Int32) (x3 : Int32) (x4 : Int32) (x5 : Int32) (Q : Int32 → hp → Prop) : Prop := w_X11_feed_0 Q x1 x2 x3 x4 x5 h
def w_X11_back_0 (Q : Int32 → hp → Prop) (x1 : Int32) (h : hp) : Prop :=
  (x1 < 0 → (Q (-1) h)) ∧ (¬ (x1 < 0) → ((x1 ≤ (gI h 0 1) → (∀ h3, h3 = sI h 0 1 ((gI h 0 1) - x1) → (Q (gI h3 0 1) h3))) ∧ (¬ (x1 ≤ (gI h 0 1)) → (Q (-1) h))))
/-- TwoAsks.back(I)I -/
def w_X11_back (h : hp) (x1 : Int32) (Q : Int32 → hp → Prop) : Prop := w_X11_back_0 Q x1 h
def w_X11_read_37 (Q : Int32 → hp → Prop) (x1 : Int32) (h : hp) (s0 : Int32) : Prop :=
  ∀ h5, h5 = sI h 0 2 s0 → ((¬ x1 = 0 → (Q x1 h5)) ∧ (x1 = 0 → (shC (gR h5 0) = 7 ∧ (w_X5_exchange (gR h5 0) h5 (fun r9 h8 => shC r9 = 7 ∧ (∀ h10, h10 = sR h8 0 r9 → (w_X11_begin h10 (fun h11 => Q x1 h11))))))))
def w_X11_read_0 (Q : Int32 → hp → Prop) (h : hp) : Prop :=
  w_X5_readDraft 1 2000 h (gI h 0 1) (fun r2 h1 => ∀ h3, h3 = sI h1 0 1 0 → ((¬ r2 = 0 → (w_X11_read_37 Q r2 h3 (gI h3 2 0))) ∧ (r2 = 0 → (w_X11_read_37 Q r2 h3 (-1)))))
/-- TwoAsks.read()I -/
def w_X11_read (h : hp) (Q : Int32 → hp → Prop) : Prop := w_X11_read_0 Q h
def w_X11_place_0 (Q : Int32 → Prop) (h : hp) : Prop :=
  Q (gI h 0 2)
/-- TwoAsks.place()I -/
def w_X11_place (h : hp) (Q : Int32 → Prop) : Prop := w_X11_place_0 Q h
def w_X11_isRow_0 (Q : Int32 → Prop) (x1 : Int32) (h : hp) : Prop :=
  (x1 < 0 → (Q 0)) ∧ (¬ (x1 < 0) → (shC (gR h 0) = 7 ∧ (((gI h (gR h 0) 0) ≤ x1 → (Q 0)) ∧ (¬ ((gI h (gR h 0) 0) ≤ x1) → (Q 1)))))
/-- TwoAsks.isRow(I)Z -/
def w_X11_isRow (h : hp) (x1 : Int32) (Q : Int32 → Prop) : Prop := w_X11_isRow_0 Q x1 h
def w_X11_areTwoRows_0 (Q : Int32 → Prop) (x1 : Int32) (x2 : Int32) (h : hp) : Prop :=
  w_X11_isRow h x1 (fun r1 => (r1 = 0 → (Q 0)) ∧ (¬ (r1 = 0) → (w_X11_isRow h x2 (fun r4 => (r4 = 0 → (Q 0)) ∧ (¬ (r4 = 0) → ((x1 = x2 → (Q 0)) ∧ (¬ (x1 = x2) → (Q 1))))))))
/-- TwoAsks.areTwoRows(II)Z -/
def w_X11_areTwoRows (h : hp) (x1 : Int32) (x2 : Int32) (Q : Int32 → Prop) : Prop := w_X11_areTwoRows_0 Q x1 x2 h
def w_X11_row_0 (Q : Int32 → Prop) (x1 : Int32) (x2 : Int32) (h : hp) : Prop :=
  w_X11_isRow h x1 (fun r1 => (¬ r1 = 0 → (shC (gR h 0) = 7 ∧ (vp_in x1 6 ∧ (∀ x3_5, x3_5 = gI h ((gR h 0) + 1) (ix x1) → ((¬ x2 = (-1) → ((x2 < 0 → (Q (-1000))) ∧ (¬ (x2 < 0) → ((x3_5 ≤ x2 → (Q (-1000))) ∧ (¬ (x3_5 ≤ x2) → (shC (gR h 0) = 7 ∧ (w_X7_numberAt (gR h 0) h x1 x2 (fun r10 => Q r10)))))))) ∧ (x2 = (-1) → (Q x3_5))))))) ∧ (r1 = 0 → (Q (-1000))))
/-- TwoAsks.row(II)I -/
def w_X11_row (h : hp) (x1 : Int32) (x2 : Int32) (Q : Int32 → Prop) : Prop := w_X11_row_0 Q x1 x2 h
def w_X11_comes_0 (Q : Int64 → Prop) (x1 : Int32) (x2 : Int32) (h : hp) : Prop :=
  w_X11_isRow h x1 (fun r1 => (r1 = 0 → (Q (-2000000000000000000))) ∧ (¬ (r1 = 0) → (w_X11_within (x2.toInt64) (-999) 999 (fun r4 => (¬ r4 = 0 → (shC (gR h 0) = 7 ∧ (w_X7_comesTo (gR h 0) h x1 (x2.toInt64) (fun r8 => Q r8)))) ∧ (r4 = 0 → (Q (-2000000000000000000)))))))
/-- TwoAsks.comes(II)J -/
def w_X11_comes (h : hp) (x1 : Int32) (x2 : Int32) (Q : Int64 → Prop) : Prop := w_X11_comes_0 Q x1 x2 h
def w_X11_figuresOf_b21 (Q : Int32 → Prop) (X21 : Int32 × Int64 → Prop) (x2 : Int32) (x3 : Int64) : Prop :=
  (x3 ≤ 0 → (Q x2)) ∧ (¬ (x3 ≤ 0) → (∀ x2_4, x2_4 = x2 + 1 → (∀ x3_5, x3_5 = x3 / 10 → (X21 (x2_4, x3_5)))))
def w_X11_figuresOf_21 (Q : Int32 → Prop) (x2 : Int32) (x3 : Int64) : Prop :=
  wLoop (fun X21 (q : Int32 × Int64) => w_X11_figuresOf_b21 Q X21 q.1 q.2) (x2, x3)
def w_X11_figuresOf_11 (Q : Int32 → Prop) (x0 : Int64) (s0 : Int32) : Prop :=
  ∀ x3_2, x3_2 = (if 0 < x0 then x0 else -x0) / 10 → (w_X11_figuresOf_21 Q s0 x3_2)
def w_X11_figuresOf_0 (Q : Int32 → Prop) (x0 : Int64) : Prop :=
  (0 ≤ x0 → (w_X11_figuresOf_11 Q x0 1)) ∧ (¬ (0 ≤ x0) → (w_X11_figuresOf_11 Q x0 2))
/-- TwoAsks.figuresOf(J)I -/
def w_X11_figuresOf (x0 : Int64) (Q : Int32 → Prop) : Prop := w_X11_figuresOf_0 Q x0
def w_X11_two_0 (Q : Int64 → Prop) (x1 : Int32) (x2 : Int32) (h : hp) : Prop :=
  w_X11_isRow h x1 (fun r1 => (r1 = 0 → (Q (-1))) ∧ (¬ (r1 = 0) → (w_X11_within (x2.toInt64) 0 3 (fun r4 => (¬ r4 = 0 → (shC (gR h 0) = 7 ∧ (w_X7_isSomeBelowZero (gR h 0) h x1 (fun r8 => (r8 = 0 → (shC (gR h 0) = 7 ∧ (w_X7_comesTo (gR h 0) h x1 1 (fun r12 => ∀ sw14, sw14 = x2 → ((sw14 = 0 → (Q r12)) ∧ (sw14 = 1 → (Q (r12 + 1))) ∧ (sw14 = 2 → (shC (gR h 0) = 7 ∧ (w_X7_comesTo (gR h 0) h x1 (r12 + 1) (fun r19 => Q r19)))) ∧ (sw14.toInt < 0 ∨ 2 < sw14.toInt → (w_X11_figuresOf 1 (fun r22 => w_X11_figuresOf (r12 + 1) (fun r24 => Q ((r22 + r24).toInt64)))))))))) ∧ (¬ (r8 = 0) → (Q (-2))))))) ∧ (r4 = 0 → (Q (-1)))))))
/-- TwoAsks.two(II)J -/
def w_X11_two (h : hp) (x1 : Int32) (x2 : Int32) (Q : Int64 → Prop) : Prop := w_X11_two_0 Q x1 x2 h
def w_X11_figure_87 (Q : Int32 → Prop) (X52 : Int32 × Int32 × Int64 × Int32 → Prop) (x3 : Int32) (x4 : Int32) (x5 : Int32) (x6 : Int32) (x7 : Int64) (x9 : Int32) : Prop :=
  ¬ (x3.toInt64) = 0 ∧ (∀ x7_17, x7_17 = x7 / (x3.toInt64) → (∀ x9_18, x9_18 = x9 + 1 → (X52 (x5, x6, x7_17, x9_18))))
def w_X11_figure_72 (Q : Int32 → Prop) (X52 : Int32 × Int32 × Int64 × Int32 → Prop) (x3 : Int32) (x4 : Int32) (x5 : Int32) (x6 : Int32) (x7 : Int64) (x9 : Int32) : Prop :=
  (¬ x9 = x4 → (w_X11_figure_87 Q X52 x3 x4 x5 x6 x7 x9)) ∧ (x9 = x4 → (¬ (x3.toInt64) = 0 ∧ (∀ x6_16, x6_16 = (lrem x7 (x3.toInt64)).toInt32 → (w_X11_figure_87 Q X52 x3 x4 x5 x6_16 x7 x9))))
def w_X11_figure_b52 (Q : Int32 → Prop) (x3 : Int32) (x4 : Int32) (X52 : Int32 × Int32 × Int64 × Int32 → Prop) (x5 : Int32) (x6 : Int32) (x7 : Int64) (x9 : Int32) : Prop :=
  (6 ≤ x9 → ((x7 ≤ 0 → ((¬ x4 = 6 → (Q x6)) ∧ (x4 = 6 → (Q x5)))) ∧ (¬ (x7 ≤ 0) → (Q (-2))))) ∧ (¬ (6 ≤ x9) → ((x7 ≤ 0 → (w_X11_figure_72 Q X52 x3 x4 x5 x6 x7 x9)) ∧ (¬ (x7 ≤ 0) → (∀ x5_14, x5_14 = x9 + 1 → (w_X11_figure_72 Q X52 x3 x4 x5_14 x6 x7 x9)))))
def w_X11_figure_52 (Q : Int32 → Prop) (x3 : Int32) (x4 : Int32) (x5 : Int32) (x6 : Int32) (x7 : Int64) (x9 : Int32) : Prop :=
  wLoop (fun X52 (q : Int32 × Int32 × Int64 × Int32) => w_X11_figure_b52 Q x3 x4 X52 q.1 q.2.1 q.2.2.1 q.2.2.2) (x5, x6, x7, x9)
def w_X11_figure_0 (Q : Int32 → Prop) (x1 : Int64) (x3 : Int32) (x4 : Int32) : Prop :=
  w_X11_within x1 0 1000000000000000000 (fun r1 => (r1 = 0 → (Q (-1))) ∧ (¬ (r1 = 0) → (w_X11_within (x3.toInt64) 2 9999 (fun r4 => (r4 = 0 → (Q (-1))) ∧ (¬ (r4 = 0) → (w_X11_within (x4.toInt64) 0 6 (fun r7 => (¬ r7 = 0 → (w_X11_figure_52 Q x3 x4 1 0 x1 0)) ∧ (r7 = 0 → (Q (-1))))))))))
/-- TwoAsks.figure(JII)I -/
def w_X11_figure (x1 : Int64) (x3 : Int32) (x4 : Int32) (Q : Int32 → Prop) : Prop := w_X11_figure_0 Q x1 x3 x4
def w_X11_meets_b13 (Q : Int32 → Prop) (x1 : Int32) (x2 : Int32) (h : hp) (X13 : Int32 → Prop) (x3 : Int32) : Prop :=
  (999 < x3 → (Q (-2))) ∧ (¬ (999 < x3) → (shC (gR h 0) = 7 ∧ (w_X7_comesTo (gR h 0) h x1 (x3.toInt64) (fun r6 => shC (gR h 0) = 7 ∧ (w_X7_comesTo (gR h 0) h x2 (x3.toInt64) (fun r9 => (¬ r6 = r9 → (∀ x3_12, x3_12 = x3 + 1 → (X13 x3_12))) ∧ (r6 = r9 → (Q x3))))))))
def w_X11_meets_13 (Q : Int32 → Prop) (x1 : Int32) (x2 : Int32) (h : hp) (x3 : Int32) : Prop :=
  wLoop (fun X13 (q : Int32) => w_X11_meets_b13 Q x1 x2 h X13 q) x3
def w_X11_meets_0 (Q : Int32 → Prop) (x1 : Int32) (x2 : Int32) (h : hp) : Prop :=
  w_X11_areTwoRows h x1 x2 (fun r1 => (¬ r1 = 0 → (w_X11_meets_13 Q x1 x2 h 0)) ∧ (r1 = 0 → (Q (-1))))
/-- TwoAsks.meets(II)I -/
def w_X11_meets (h : hp) (x1 : Int32) (x2 : Int32) (Q : Int32 → Prop) : Prop := w_X11_meets_0 Q x1 x2 h
def w_X11_degree_b22 (Q : Int32 → Prop) (x1 : Int32) (h : hp) (X22 : Int32 → Prop) (x2 : Int32) : Prop :=
  (x2 < 0 → (Q (-2))) ∧ (¬ (x2 < 0) → (shC (gR h 0) = 7 ∧ (w_X7_numberAt (gR h 0) h x1 x2 (fun r8 => (r8 = 0 → (∀ x2_11, x2_11 = x2 + (-1) → (X22 x2_11))) ∧ (¬ (r8 = 0) → (Q x2))))))
def w_X11_degree_22 (Q : Int32 → Prop) (x1 : Int32) (h : hp) (x2 : Int32) : Prop :=
  wLoop (fun X22 (q : Int32) => w_X11_degree_b22 Q x1 h X22 q) x2
def w_X11_degree_0 (Q : Int32 → Prop) (x1 : Int32) (h : hp) : Prop :=
  w_X11_isRow h x1 (fun r1 => (¬ r1 = 0 → (shC (gR h 0) = 7 ∧ (vp_in x1 6 ∧ (∀ x2_5, x2_5 = (gI h ((gR h 0) + 1) (ix x1)) - 1 → (w_X11_degree_22 Q x1 h x2_5))))) ∧ (r1 = 0 → (Q (-1))))
/-- TwoAsks.degree(I)I -/
def w_X11_degree (h : hp) (x1 : Int32) (Q : Int32 → Prop) : Prop := w_X11_degree_0 Q x1 h
def w_X11_rest_0 (Q : Int32 → Prop) (x1 : Int32) (x2 : Int32) (h : hp) : Prop :=
  w_X11_isRow h x1 (fun r1 => (r1 = 0 → (Q (-1))) ∧ (¬ (r1 = 0) → (w_X11_within (x2.toInt64) 0 96 (fun r4 => (¬ r4 = 0 → (shC (gR h 0) = 7 ∧ (shC (gR h 0) = 7 ∧ (w_X7_comesTo (gR h 0) h x1 (x2.toInt64) (fun r9 => w_X6_restOf ((gR h 0) + 9) h r9 (fun r11 => Q r11)))))) ∧ (r4 = 0 → (Q (-1)))))))
/-- TwoAsks.rest(II)I -/
def w_X11_rest (h : hp) (x1 : Int32) (x2 : Int32) (Q : Int32 → Prop) : Prop := w_X11_rest_0 Q x1 x2 h
def w_X11_alike_b16 (Q : Int32 → Prop) (x1 : Int32) (x2 : Int32) (h : hp) (X16 : Int32 × Int32 → Prop) (x3 : Int32) (x4 : Int32) : Prop :=
  shC (gR h 0) = 7 ∧ (((gI h ((gR h 0) + 9) 1) ≤ x4 → (Q x3)) ∧ (¬ ((gI h ((gR h 0) + 9) 1) ≤ x4) → (shC (gR h 0) = 7 ∧ (shC (gR h 0) = 7 ∧ (w_X7_comesTo (gR h 0) h x1 (x4.toInt64) (fun r8 => shC (gR h 0) = 7 ∧ (w_X7_comesTo (gR h 0) h x2 (x4.toInt64) (fun r11 => w_X6_restOf ((gR h 0) + 9) h (r8 - r11) (fun r13 => (¬ r13 = 0 → (∀ x4_16, x4_16 = x4 + 1 → (X16 (x3, x4_16)))) ∧ (r13 = 0 → (∀ x3_17, x3_17 = x3 + 1 → (∀ x4_18, x4_18 = x4 + 1 → (X16 (x3_17, x4_18))))))))))))))
def w_X11_alike_16 (Q : Int32 → Prop) (x1 : Int32) (x2 : Int32) (h : hp) (x3 : Int32) (x4 : Int32) : Prop :=
  wLoop (fun X16 (q : Int32 × Int32) => w_X11_alike_b16 Q x1 x2 h X16 q.1 q.2) (x3, x4)
def w_X11_alike_0 (Q : Int32 → Prop) (x1 : Int32) (x2 : Int32) (h : hp) : Prop :=
  w_X11_areTwoRows h x1 x2 (fun r1 => (¬ r1 = 0 → (w_X11_alike_16 Q x1 x2 h 0 0)) ∧ (r1 = 0 → (Q (-1))))
/-- TwoAsks.alike(II)I -/
def w_X11_alike (h : hp) (x1 : Int32) (x2 : Int32) (Q : Int32 → Prop) : Prop := w_X11_alike_0 Q x1 x2 h
def w_X11_isSumPlace_0 (Q : Int32 → Prop) (x1 : Int32) (x2 : Int32) (x3 : Int32) (h : hp) : Prop :=
  w_X11_isRow h x1 (fun r1 => (r1 = 0 → (Q 0)) ∧ (¬ (r1 = 0) → (w_X11_isRow h x2 (fun r4 => (r4 = 0 → (Q 0)) ∧ (¬ (r4 = 0) → (w_X11_within (x3.toInt64) 0 10 (fun r7 => (r7 = 0 → (Q 0)) ∧ (¬ (r7 = 0) → (Q 1)))))))))
/-- TwoAsks.isSumPlace(III)Z -/
def w_X11_isSumPlace (h : hp) (x1 : Int32) (x2 : Int32) (x3 : Int32) (Q : Int32 → Prop) : Prop := w_X11_isSumPlace_0 Q x1 x2 x3 h
def w_X11_plus_0 (Q : Int32 → Prop) (x1 : Int32) (x2 : Int32) (x3 : Int32) (h : hp) : Prop :=
  w_X11_isSumPlace h x1 x2 x3 (fun r1 => (¬ r1 = 0 → (shC (gR h 0) = 7 ∧ (w_X7_numberAt (gR h 0) h x1 x3 (fun r5 => shC (gR h 0) = 7 ∧ (w_X7_numberAt (gR h 0) h x2 x3 (fun r8 => Q (r5 + r8))))))) ∧ (r1 = 0 → (Q (-100000))))
/-- TwoAsks.plus(III)I -/
def w_X11_plus (h : hp) (x1 : Int32) (x2 : Int32) (x3 : Int32) (Q : Int32 → Prop) : Prop := w_X11_plus_0 Q x1 x2 x3 h
def w_X11_times_b19 (Q : Int32 → Prop) (x1 : Int32) (x2 : Int32) (x3 : Int32) (h : hp) (X19 : Int32 × Int32 → Prop) (x4 : Int32) (x5 : Int32) : Prop :=
  (x3 < x5 → (Q x4)) ∧ (¬ (x3 < x5) → (shC (gR h 0) = 7 ∧ (w_X7_numberAt (gR h 0) h x1 x5 (fun r6 => shC (gR h 0) = 7 ∧ (w_X7_numberAt (gR h 0) h x2 (x3 - x5) (fun r9 => ∀ x4_11, x4_11 = x4 + (r6 * r9) → (∀ x5_12, x5_12 = x5 + 1 → (X19 (x4_11, x5_12)))))))))
def w_X11_times_19 (Q : Int32 → Prop) (x1 : Int32) (x2 : Int32) (x3 : Int32) (h : hp) (x4 : Int32) (x5 : Int32) : Prop :=
  wLoop (fun X19 (q : Int32 × Int32) => w_X11_times_b19 Q x1 x2 x3 h X19 q.1 q.2) (x4, x5)
def w_X11_times_0 (Q : Int32 → Prop) (x1 : Int32) (x2 : Int32) (x3 : Int32) (h : hp) : Prop :=
  w_X11_isSumPlace h x1 x2 x3 (fun r1 => (¬ r1 = 0 → (w_X11_times_19 Q x1 x2 x3 h 0 0)) ∧ (r1 = 0 → (Q (-100000))))
/-- TwoAsks.times(III)I -/
def w_X11_times (h : hp) (x1 : Int32) (x2 : Int32) (x3 : Int32) (Q : Int32 → Prop) : Prop := w_X11_times_0 Q x1 x2 x3 h
def w_X11_isWorld_0 (Q : Int32 → Prop) (x1 : Int32) (h : hp) : Prop :=
  (x1 < 0 → (Q 0)) ∧ (¬ (x1 < 0) → (((gI h 64 1) ≤ x1 → (Q 0)) ∧ (¬ ((gI h 64 1) ≤ x1) → (Q 1))))
/-- TwoAsks.isWorld(I)Z -/
def w_X11_isWorld (h : hp) (x1 : Int32) (Q : Int32 → Prop) : Prop := w_X11_isWorld_0 Q x1 h
def w_X11_world_0 (Q : Int32 → Prop) (x1 : Int32) (x2 : Int32) (h : hp) : Prop :=
  (¬ x2 = (-1) → (w_X11_isWorld h x1 (fun r2 => (r2 = 0 → (Q (-1))) ∧ (¬ (r2 = 0) → ((x2 < 0 → (Q (-1))) ∧ (¬ (x2 < 0) → ((x2 < (gI h 64 0) → (w_X10_numberAt h x1 x2 (fun r7 => Q r7))) ∧ (¬ (x2 < (gI h 64 0)) → (Q (-1)))))))))) ∧ (x2 = (-1) → (Q (gI h 64 1)))
/-- TwoAsks.world(II)I -/
def w_X11_world (h : hp) (x1 : Int32) (x2 : Int32) (Q : Int32 → Prop) : Prop := w_X11_world_0 Q x1 x2 h
def w_X11_clash_0 (Q : Int32 → hp → Prop) (x1 : Int32) (x2 : Int32) (h : hp) : Prop :=
  w_X11_within (x1.toInt64) 0 999 (fun r1 => (r1 = 0 → (Q (-1) h)) ∧ (¬ (r1 = 0) → (w_X10_clashing h x1 x2 (fun r5 h4 => Q r5 h4))))
/-- TwoAsks.clash(IZ)I -/
def w_X11_clash (h : hp) (x1 : Int32) (x2 : Int32) (Q : Int32 → hp → Prop) : Prop := w_X11_clash_0 Q x1 x2 h
def w_X11_once_b2 (Q : Int32 → hp → Prop) (X2 : Int32 × hp → Prop) (x1 : Int32) (h : hp) : Prop :=
  (999 < x1 → (Q (-2) h)) ∧ (¬ (999 < x1) → (w_X10_clashing h x1 1 (fun r3 h2 => (¬ r3 = (-2) → (∀ x1_5, x1_5 = x1 + 1 → (X2 (x1_5, h2)))) ∧ (r3 = (-2) → (Q x1 h2)))))
def w_X11_once_2 (Q : Int32 → hp → Prop) (x1 : Int32) (h : hp) : Prop :=
  wLoop (fun X2 (q : Int32 × hp) => w_X11_once_b2 Q X2 q.1 q.2) (x1, h)
def w_X11_once_0 (Q : Int32 → hp → Prop) (h : hp) : Prop :=
  w_X11_once_2 Q 0 h
/-- TwoAsks.once()I -/
def w_X11_once (h : hp) (Q : Int32 → hp → Prop) : Prop := w_X11_once_0 Q h
def w_X11_few_0 (Q : Int32 → hp → Prop) (x1 : Int32) (h : hp) : Prop :=
  w_X11_within (x1.toInt64) 0 4 (fun r1 => (r1 = 0 → (Q (-1) h)) ∧ (¬ (r1 = 0) → (w_X10_fewestNumbers h x1 (fun r5 h4 => Q r5 h4))))
/-- TwoAsks.few(I)I -/
def w_X11_few (h : hp) (x1 : Int32) (Q : Int32 → hp → Prop) : Prop := w_X11_few_0 Q x1 h
def w_X11_worldsAt_0 (Q : Int32 → hp → Prop) (x1 : Int32) (x2 : Int64) (h : hp) : Prop :=
  w_X11_within (x1.toInt64) (-99) 99 (fun r1 => (r1 = 0 → (Q (-1) h)) ∧ (¬ (r1 = 0) → (w_X10_howManyComeTo h x1 x2 (fun r5 h4 => Q r5 h4))))
/-- TwoAsks.worldsAt(IJ)I -/
def w_X11_worldsAt (h : hp) (x1 : Int32) (x2 : Int64) (Q : Int32 → hp → Prop) : Prop := w_X11_worldsAt_0 Q x1 x2 h
def w_X11_game_119 (Q : Int32 → hp → Prop) (x2 : Int32) (x3 : Int32) (x4 : Int32) (h : hp) : Prop :=
  (¬ x2 = 1 → (((gI h 71 1) ≤ 1 → (Q x3 h)) ∧ (¬ ((gI h 71 1) ≤ 1) → (Q (-2) h)))) ∧ (x2 = 1 → (Q x4 h))
def w_X11_game_b38 (Q : Int32 → hp → Prop) (x1 : Int32) (x2 : Int32) (X38 : Int32 × Int32 × Int32 × Int64 × hp → Prop) (x3 : Int32) (x4 : Int32) (x5 : Int32) (x6 : Int64) (h : hp) : Prop :=
  (50 ≤ x3 → (w_X11_game_119 Q x2 x3 x4 h)) ∧ (¬ (50 ≤ x3) → (((gI h 71 1) ≤ 1 → (w_X11_game_119 Q x2 x3 x4 h)) ∧ (¬ ((gI h 71 1) ≤ 1) → (shC (gR h 0) = 7 ∧ (w_X2_question ((gR h 0) + 4) h x3 x6 x5 (fun r12 h11 => w_X10_comeBy h11 (r12.toInt64) (fun h13 => vp_in x1 10000 ∧ (∀ x6_14, x6_14 = gL h13 65 (ix x1) → (w_X1_keep h13 x6_14 (fun h15 => w_X11_figuresOf (r12.toInt64) (fun r16 => ∀ x4_18, x4_18 = x4 + r16 → (∀ x3_19, x3_19 = x3 + 1 → (X38 (x3_19, x4_18, r12, x6_14, h15))))))))))))))
def w_X11_game_38 (Q : Int32 → hp → Prop) (x1 : Int32) (x2 : Int32) (x3 : Int32) (x4 : Int32) (x5 : Int32) (x6 : Int64) (h : hp) : Prop :=
  wLoop (fun X38 (q : Int32 × Int32 × Int32 × Int64 × hp) => w_X11_game_b38 Q x1 x2 X38 q.1 q.2.1 q.2.2.1 q.2.2.2.1 q.2.2.2.2) (x3, x4, x5, x6, h)
def w_X11_game_0 (Q : Int32 → hp → Prop) (x1 : Int32) (x2 : Int32) (h : hp) : Prop :=
  w_X11_isWorld h x1 (fun r1 => (r1 = 0 → (Q (-1) h)) ∧ (¬ (r1 = 0) → (w_X11_within (x2.toInt64) 0 1 (fun r4 => (¬ r4 = 0 → (w_X1_takeAll h (fun h7 => w_X11_game_38 Q x1 x2 0 0 0 0 h7))) ∧ (r4 = 0 → (Q (-1) h))))))
/-- TwoAsks.game(II)I -/
def w_X11_game (h : hp) (x1 : Int32) (x2 : Int32) (Q : Int32 → hp → Prop) : Prop := w_X11_game_0 Q x1 x2 h
def w_X11_tell_0 (Q : Int32 → hp → Prop) (x1 : Int32) (x2 : Int64) (h : hp) : Prop :=
  w_X9_isFull 51 h (fun r1 => (¬ r1 = 0 → (Q (-1) h)) ∧ (r1 = 0 → (w_X11_within (x1.toInt64) (-99) 99 (fun r4 => (r4 = 0 → (Q (-1) h)) ∧ (¬ (r4 = 0) → (w_X11_within x2 (-1000000000000000) 1000000000000000 (fun r7 => (¬ r7 = 0 → (w_X9_add 51 h x1 x2 (fun h10 => Q ((gI h10 51 0) - 1) h10))) ∧ (r7 = 0 → (Q (-1) h)))))))))
/-- TwoAsks.tell(IJ)I -/
def w_X11_tell (h : hp) (x1 : Int32) (x2 : Int64) (Q : Int32 → hp → Prop) : Prop := w_X11_tell_0 Q x1 x2 h
def w_X11_forget_0 (Q : Int32 → hp → Prop) (h : hp) : Prop :=
  ∀ x1_1, x1_1 = gI h 51 0 → (w_X9_clear 51 h (fun h2 => Q x1_1 h2))
/-- TwoAsks.forget()I -/
def w_X11_forget (h : hp) (Q : Int32 → hp → Prop) : Prop := w_X11_forget_0 Q h
def w_X11_choose_0 (Q : Int32 → hp → Prop) (x1 : Int32) (x2 : Int32) (x3 : Int32) (h : hp) : Prop :=
  w_X11_within (x1.toInt64) 0 ((gI h 51 0).toInt64) (fun r1 => (r1 = 0 → (Q 0 h)) ∧ (¬ (r1 = 0) → (w_X11_within (x2.toInt64) 0 20 (fun r4 => (r4 = 0 → (Q 0 h)) ∧ (¬ (r4 = 0) → (w_X11_within (x3.toInt64) 0 4 (fun r7 => (¬ r7 = 0 → (w_X1_select 51 h x1 x2 x3 (fun h10 => Q 1 h10))) ∧ (r7 = 0 → (Q 0 h)))))))))
/-- TwoAsks.choose(III)Z -/
def w_X11_choose (h : hp) (x1 : Int32) (x2 : Int32) (x3 : Int32) (Q : Int32 → hp → Prop) : Prop := w_X11_choose_0 Q x1 x2 x3 h
def w_X11_fits_0 (Q : Int32 → hp → Prop) (x1 : Int32) (x2 : Int32) (x3 : Int32) (x4 : Int32) (h : hp) : Prop :=
  (x4 < (-1) → (Q (-1) h)) ∧ (¬ (x4 < (-1)) → (w_X11_choose h x1 x2 x3 (fun r3 h2 => (¬ r3 = 0 → ((¬ x4 = (-1) → (((gI h2 71 1) ≤ x4 → (Q (-1) h2)) ∧ (¬ ((gI h2 71 1) ≤ x4) → (vp_in x4 10000 ∧ (Q (gI h2 72 (ix x4)) h2))))) ∧ (x4 = (-1) → (Q (gI h2 71 1) h2)))) ∧ (r3 = 0 → (Q (-1) h2)))))
/-- TwoAsks.fits(IIII)I -/
def w_X11_fits (h : hp) (x1 : Int32) (x2 : Int32) (x3 : Int32) (x4 : Int32) (Q : Int32 → hp → Prop) : Prop := w_X11_fits_0 Q x1 x2 x3 x4 h
def w_X11_sure_0 (Q : Int32 → hp → Prop) (x1 : Int32) (x2 : Int32) (x3 : Int32) (h : hp) : Prop :=
  w_X11_choose h x1 x2 x3 (fun r2 h1 => (r2 = 0 → (Q (-1) h1)) ∧ (¬ (r2 = 0) → (w_X1_surePlaces h1 (fun r4 => Q r4 h1))))
/-- TwoAsks.sure(III)I -/
def w_X11_sure (h : hp) (x1 : Int32) (x2 : Int32) (x3 : Int32) (Q : Int32 → hp → Prop) : Prop := w_X11_sure_0 Q x1 x2 x3 h
def w_X11_span_0 (Q : Int32 → hp → Prop) (x1 : Int32) (x2 : Int32) (x3 : Int32) (x4 : Int32) (h : hp) : Prop :=
  (x4 < 0 → (Q (-1) h)) ∧ (¬ (x4 < 0) → (((gI h 64 0) ≤ x4 → (Q (-1) h)) ∧ (¬ ((gI h 64 0) ≤ x4) → (w_X11_choose h x1 x2 x3 (fun r4 h3 => (¬ r4 = 0 → ((¬ (gI h3 71 1) = 0 → (w_X1_leastAt h3 x4 (fun r7 => w_X1_greatestAt h3 x4 (fun r9 => Q ((10 * r7) + r9) h3)))) ∧ ((gI h3 71 1) = 0 → (Q (-2) h3)))) ∧ (r4 = 0 → (Q (-1) h3)))))))
/-- TwoAsks.span(IIII)I -/
def w_X11_span (h : hp) (x1 : Int32) (x2 : Int32) (x3 : Int32) (x4 : Int32) (Q : Int32 → hp → Prop) : Prop := w_X11_span_0 Q x1 x2 x3 x4 h
def w_X11_liars_0 (Q : Int32 → hp → Prop) (x1 : Int32) (x2 : Int32) (x3 : Int32) (h : hp) : Prop :=
  w_X11_choose h x1 x2 x3 (fun r2 h1 => (r2 = 0 → (Q (-1) h1)) ∧ (¬ (r2 = 0) → (w_X1_sureLiars 51 h1 x1 (fun r5 h4 => Q r5 h4))))
/-- TwoAsks.liars(III)I -/
def w_X11_liars (h : hp) (x1 : Int32) (x2 : Int32) (x3 : Int32) (Q : Int32 → hp → Prop) : Prop := w_X11_liars_0 Q x1 x2 x3 h
def w_X11_next_0 (Q : Int32 → hp → Prop) (x1 : Int32) (x2 : Int32) (x3 : Int32) (x4 : Int32) (h : hp) : Prop :=
  w_X11_within (x4.toInt64) 0 1 (fun r1 => (r1 = 0 → (Q (-1000) h)) ∧ (¬ (r1 = 0) → (w_X11_choose h x1 x2 x3 (fun r5 h4 => (¬ r5 = 0 → ((¬ (gI h4 71 1) = 0 → (w_X1_findQuestion h4 (fun h8 => (¬ x4 = 0 → (Q (gI h8 71 3) h8)) ∧ (x4 = 0 → (Q (gI h8 71 2) h8))))) ∧ ((gI h4 71 1) = 0 → (Q (-2000) h4)))) ∧ (r5 = 0 → (Q (-1000) h4))))))
/-- TwoAsks.next(IIII)I -/
def w_X11_next (h : hp) (x1 : Int32) (x2 : Int32) (x3 : Int32) (x4 : Int32) (Q : Int32 → hp → Prop) : Prop := w_X11_next_0 Q x1 x2 x3 x4 h
def w_X11_enough_0 (Q : Int32 → hp → Prop) (x1 : Int32) (x2 : Int32) (x3 : Int32) (h : hp) : Prop :=
  w_X11_choose h x1 x2 x3 (fun r2 h1 => (r2 = 0 → (Q (-1) h1)) ∧ (¬ (r2 = 0) → (w_X1_enoughQuestions h1 (fun r5 h4 => Q r5 h4))))
/-- TwoAsks.enough(III)I -/
def w_X11_enough (h : hp) (x1 : Int32) (x2 : Int32) (x3 : Int32) (Q : Int32 → hp → Prop) : Prop := w_X11_enough_0 Q x1 x2 x3 h
def w_X11_cost_b23 (Q : Int32 → Prop) (x1 : Int32) (h : hp) (X23 : Int32 × Int32 → Prop) (x2 : Int32) (x3 : Int32) : Prop :=
  (x1 ≤ x3 → (Q x2)) ∧ (¬ (x1 ≤ x3) → (vp_in x3 20 ∧ (w_X11_figuresOf ((gI h 52 (ix x3)).toInt64) (fun r5 => ∀ x2_7, x2_7 = x2 + r5 → (∀ x3_8, x3_8 = x3 + 1 → (X23 (x2_7, x3_8)))))))
def w_X11_cost_23 (Q : Int32 → Prop) (x1 : Int32) (h : hp) (x2 : Int32) (x3 : Int32) : Prop :=
  wLoop (fun X23 (q : Int32 × Int32) => w_X11_cost_b23 Q x1 h X23 q.1 q.2) (x2, x3)
def w_X11_cost_0 (Q : Int32 → Prop) (x1 : Int32) (h : hp) : Prop :=
  w_X11_within (x1.toInt64) 0 ((gI h 51 0).toInt64) (fun r1 => (¬ r1 = 0 → (w_X11_cost_23 Q x1 h 0 0)) ∧ (r1 = 0 → (Q (-1))))
/-- TwoAsks.cost(I)I -/
def w_X11_cost (h : hp) (x1 : Int32) (Q : Int32 → Prop) : Prop := w_X11_cost_0 Q x1 h
def w_X11_hide_0 (Q : Int32 → hp → Prop) (x1 : Int32) (h : hp) : Prop :=
  w_X11_isRow h x1 (fun r1 => (¬ r1 = 0 → (∀ h4, h4 = sI h 0 7 x1 → (∀ h5, h5 = sI h4 0 8 0 → (w_X9_clear 51 h5 (fun h6 => Q 1 h6))))) ∧ (r1 = 0 → (Q 0 h)))
/-- TwoAsks.hide(I)Z -/
def w_X11_hide (h : hp) (x1 : Int32) (Q : Int32 → hp → Prop) : Prop := w_X11_hide_0 Q x1 h
def w_X11_ask_92 (Q : Int64 → hp → Prop) (x1 : Int32) (x2 : Int64) (h : hp) : Prop :=
  w_X9_add 51 h x1 x2 (fun h19 => Q x2 h19)
def w_X11_ask_0 (Q : Int64 → hp → Prop) (x1 : Int32) (h : hp) : Prop :=
  w_X11_isRow h (gI h 0 7) (fun r1 => (r1 = 0 → (Q (-2000000000000000000) h)) ∧ (¬ (r1 = 0) → (w_X9_isFull 51 h (fun r4 => (¬ r4 = 0 → (Q (-2000000000000000000) h)) ∧ (r4 = 0 → (w_X11_within (x1.toInt64) (-99) 99 (fun r7 => (¬ r7 = 0 → (∀ h10, h10 = sI h 0 8 ((gI h 0 8) + 1) → (shC (gR h10 0) = 7 ∧ (w_X7_comesTo (gR h10 0) h10 (gI h10 0 7) (x1.toInt64) (fun r12 => shC (gR h10 0) = 7 ∧ (((gI h10 (gR h10 0) 9) ≤ 0 → (w_X11_ask_92 Q x1 r12 h10)) ∧ (¬ ((gI h10 (gR h10 0) 9) ≤ 0) → (shC (gR h10 0) = 7 ∧ (¬ (gI h10 (gR h10 0) 9) = 0 ∧ ((¬ (jrem (gI h10 0 8) (gI h10 (gR h10 0) 9)) = 0 → (w_X11_ask_92 Q x1 r12 h10)) ∧ ((jrem (gI h10 0 8) (gI h10 (gR h10 0) 9)) = 0 → (∀ x2_18, x2_18 = r12 + 1 → (w_X11_ask_92 Q x1 x2_18 h10))))))))))))) ∧ (r7 = 0 → (Q (-2000000000000000000) h)))))))))
/-- TwoAsks.ask(I)J -/
def w_X11_ask (h : hp) (x1 : Int32) (Q : Int64 → hp → Prop) : Prop := w_X11_ask_0 Q x1 h
def w_X11_asks_0 (Q : Int32 → hp → Prop) (h : hp) : Prop :=
  (¬ (gI h 51 0) = 0 → (∀ x1_2, x1_2 = (gI h 51 0) - 1 → (shC (gR h 0) = 7 ∧ (vp_in x1_2 20 ∧ (vp_in x1_2 20 ∧ (w_X2_question ((gR h 0) + 4) h (gI h 51 0) (gL h 53 (ix x1_2)) (gI h 52 (ix x1_2)) (fun r5 h4 => Q r5 h4))))))) ∧ ((gI h 51 0) = 0 → (shC (gR h 0) = 7 ∧ (w_X2_question ((gR h 0) + 4) h 0 0 0 (fun r8 h7 => Q r8 h7))))
/-- TwoAsks.asks()I -/
def w_X11_asks (h : hp) (Q : Int32 → hp → Prop) : Prop := w_X11_asks_0 Q h
def w_X11_isSlot_0 (Q : Int32 → Prop) (x0 : Int32) : Prop :=
  (x0 < 0 → (Q 0)) ∧ (¬ (x0 < 0) → ((3 ≤ x0 → (Q 0)) ∧ (¬ (3 ≤ x0) → (Q 1))))
/-- TwoAsks.isSlot(I)Z -/
def w_X11_isSlot (x0 : Int32) (Q : Int32 → Prop) : Prop := w_X11_isSlot_0 Q x0
def w_X11_hold_0 (Q : Int32 → hp → Prop) (x1 : Int32) (h : hp) : Prop :=
  w_X11_isSlot x1 (fun r1 => (¬ r1 = 0 → (vp_in x1 3 ∧ (w_X9_copy (54 + 3 * ix x1) 51 h (fun h5 => vp_in x1 3 ∧ (∀ h7, h7 = sI h5 (54 + 3 * ix x1) 3 1 → (Q 1 h7)))))) ∧ (r1 = 0 → (Q 0 h)))
/-- TwoAsks.hold(I)Z -/
def w_X11_hold (h : hp) (x1 : Int32) (Q : Int32 → hp → Prop) : Prop := w_X11_hold_0 Q x1 h
def w_X11_restore_0 (Q : Int32 → hp → Prop) (x1 : Int32) (h : hp) : Prop :=
  w_X11_isSlot x1 (fun r1 => (r1 = 0 → (Q 0 h)) ∧ (¬ (r1 = 0) → (vp_in x1 3 ∧ ((¬ (gI h (54 + 3 * ix x1) 3) = 0 → (vp_in x1 3 ∧ (w_X9_copy 51 (54 + 3 * ix x1) h (fun h7 => Q 1 h7)))) ∧ ((gI h (54 + 3 * ix x1) 3) = 0 → (Q 0 h))))))
/-- TwoAsks.restore(I)Z -/
def w_X11_restore (h : hp) (x1 : Int32) (Q : Int32 → hp → Prop) : Prop := w_X11_restore_0 Q x1 h
def w_X11_isWeighing_0 (Q : Int32 → Prop) (x0 : Int32) (x1 : Int32) : Prop :=
  w_X11_within (x0.toInt64) 0 999999 (fun r1 => (r1 = 0 → (Q 0)) ∧ (¬ (r1 = 0) → (w_X11_within (x1.toInt64) 1 99 (fun r4 => (r4 = 0 → (Q 0)) ∧ (¬ (r4 = 0) → (Q 1))))))
/-- TwoAsks.isWeighing(II)Z -/
def w_X11_isWeighing (x0 : Int32) (x1 : Int32) (Q : Int32 → Prop) : Prop := w_X11_isWeighing_0 Q x0 x1
def w_X11_bad_0 (Q : Int32 → Prop) (x1 : Int32) (x2 : Int32) (h : hp) : Prop :=
  w_X11_isWeighing x1 x2 (fun r1 => (r1 = 0 → (Q (-1))) ∧ (¬ (r1 = 0) → (shC (gR h 0) = 7 ∧ (w_X0_setsOff ((gR h 0) + 15) h x1 x2 (fun r5 => Q r5)))))
/-- TwoAsks.bad(II)I -/
def w_X11_bad (h : hp) (x1 : Int32) (x2 : Int32) (Q : Int32 → Prop) : Prop := w_X11_bad_0 Q x1 x2 h
def w_X11_badSet_0 (Q : Int32 → Prop) (x1 : Int32) (x2 : Int32) (h : hp) : Prop :=
  w_X11_isWeighing x1 x2 (fun r1 => (r1 = 0 → (Q (-1))) ∧ (¬ (r1 = 0) → (shC (gR h 0) = 7 ∧ (w_X0_leastSetOff ((gR h 0) + 15) h x1 x2 (fun r5 => Q r5)))))
/-- TwoAsks.badSet(II)I -/
def w_X11_badSet (h : hp) (x1 : Int32) (x2 : Int32) (Q : Int32 → Prop) : Prop := w_X11_badSet_0 Q x1 x2 h
def w_X11_allTold_0 (Q : Int32 → hp → Prop) (h : hp) : Prop :=
  shC (gR h 0) = 7 ∧ (w_X0_leastGap ((gR h 0) + 15) h (fun r3 h2 => (r3 = 0 → (Q 0 h2)) ∧ (¬ (r3 = 0) → (Q 1 h2))))
/-- TwoAsks.allTold()Z -/
def w_X11_allTold (h : hp) (Q : Int32 → hp → Prop) : Prop := w_X11_allTold_0 Q h
def w_X11_margin_0 (Q : Int32 → hp → Prop) (h : hp) : Prop :=
  shC (gR h 0) = 7 ∧ (w_X0_leastGap ((gR h 0) + 15) h (fun r3 h2 => Q r3 h2))
/-- TwoAsks.margin()I -/
def w_X11_margin (h : hp) (Q : Int32 → hp → Prop) : Prop := w_X11_margin_0 Q h
def w_X11_shareRow_0 (Q : Int32 → hp → Prop) (x1 : Int32) (x2 : Int32) (h : hp) : Prop :=
  shC (gR h 0) = 7 ∧ (w_X6_isSet ((gR h 0) + 9) h x1 (fun r2 => (r2 = 0 → (Q (-1) h)) ∧ (¬ (r2 = 0) → ((x2 < 0 → (Q (-1) h)) ∧ (¬ (x2 < 0) → (w_J6_bitCount_0f7a4 x1 (fun r6 => (x2 < r6 → (shC (gR h 0) = 7 ∧ (w_X6_findRow ((gR h 0) + 9) h x1 (fun h10 => shC (gR h10 0) = 7 ∧ (vp_in x2 6 ∧ (Q (gI h10 (((gR h10 0) + 9) + 4) (ix x2)) h10)))))) ∧ (¬ (x2 < r6) → (Q (-1) h)))))))))
/-- TwoAsks.shareRow(II)I -/
def w_X11_shareRow (h : hp) (x1 : Int32) (x2 : Int32) (Q : Int32 → hp → Prop) : Prop := w_X11_shareRow_0 Q x1 x2 h
def w_X11_secret_0 (Q : Int32 → hp → Prop) (x1 : Int32) (h : hp) : Prop :=
  w_X11_shareRow h x1 0 (fun r2 h1 => Q r2 h1)
/-- TwoAsks.secret(I)I -/
def w_X11_secret (h : hp) (x1 : Int32) (Q : Int32 → hp → Prop) : Prop := w_X11_secret_0 Q x1 h
def w_X11_shared_0 (Q : Int32 → hp → Prop) (x1 : Int32) (x2 : Int32) (h : hp) : Prop :=
  shC (gR h 0) = 7 ∧ (w_X6_isSet ((gR h 0) + 9) h x1 (fun r2 => (r2 = 0 → (Q (-1) h)) ∧ (¬ (r2 = 0) → (w_X11_within (x2.toInt64) 0 96 (fun r5 => (¬ r5 = 0 → (shC (gR h 0) = 7 ∧ (w_X6_findRow ((gR h 0) + 9) h x1 (fun h9 => shC (gR h9 0) = 7 ∧ (w_X6_comesTo ((gR h9 0) + 9) h9 x2 (fun r11 => Q r11 h9)))))) ∧ (r5 = 0 → (Q (-1) h)))))))
/-- TwoAsks.shared(II)I -/
def w_X11_shared (h : hp) (x1 : Int32) (x2 : Int32) (Q : Int32 → hp → Prop) : Prop := w_X11_shared_0 Q x1 x2 h
def w_X11_wrong_0 (Q : Int32 → hp → Prop) (x1 : Int32) (h : hp) : Prop :=
  w_X11_within (x1.toInt64) 1 6 (fun r1 => (¬ r1 = 0 → (shC (gR h 0) = 7 ∧ ((x1 ≤ (gI h ((gR h 0) + 9) 0) → (shC (gR h 0) = 7 ∧ (w_X6_offRow ((gR h 0) + 9) h x1 (fun r8 h7 => Q r8 h7)))) ∧ (¬ (x1 ≤ (gI h ((gR h 0) + 9) 0)) → (Q (-2) h))))) ∧ (r1 = 0 → (Q (-1) h)))
/-- TwoAsks.wrong(I)I -/
def w_X11_wrong (h : hp) (x1 : Int32) (Q : Int32 → hp → Prop) : Prop := w_X11_wrong_0 Q x1 h
def w_X11_triangle_0 (Q : Int64 → Prop) (x0 : Int64) : Prop :=
  Q ((x0 * (x0 + 1)) / 2)
/-- TwoAsks.triangle(J)J -/
def w_X11_triangle (x0 : Int64) (Q : Int64 → Prop) : Prop := w_X11_triangle_0 Q x0
def w_X11_paired_0 (Q : Int64 → Prop) (x0 : Int64) (x2 : Int64) : Prop :=
  w_X11_triangle (x0 + x2) (fun r1 => Q (r1 + x2))
/-- TwoAsks.paired(JJ)J -/
def w_X11_paired (x0 : Int64) (x2 : Int64) (Q : Int64 → Prop) : Prop := w_X11_paired_0 Q x0 x2
def w_X11_pair_0 (Q : Int64 → Prop) (x1 : Int32) (x2 : Int32) : Prop :=
  w_X11_within (x1.toInt64) 0 999999999 (fun r1 => (r1 = 0 → (Q (-1))) ∧ (¬ (r1 = 0) → (w_X11_within (x2.toInt64) 0 999999999 (fun r4 => (¬ r4 = 0 → (w_X11_paired (x1.toInt64) (x2.toInt64) (fun r7 => Q r7))) ∧ (r4 = 0 → (Q (-1)))))))
/-- TwoAsks.pair(II)J -/
def w_X11_pair (x1 : Int32) (x2 : Int32) (Q : Int64 → Prop) : Prop := w_X11_pair_0 Q x1 x2
def w_X11_unpair_50 (Q : Int64 → Prop) (X23 : Int64 × Int64 → Prop) (x1 : Int64) (x3 : Int32) (x4 : Int64) (x6 : Int64) : Prop :=
  ∀ x6_13, x6_13 = x6 / 2 → (X23 (x4, x6_13))
def w_X11_unpair_b23 (Q : Int64 → Prop) (x1 : Int64) (x3 : Int32) (X23 : Int64 × Int64 → Prop) (x4 : Int64) (x6 : Int64) : Prop :=
  (x6 ≤ 0 → (w_X11_triangle x4 (fun r5 => ∀ x6_7, x6_7 = x1 - r5 → ((x3 = 0 → (Q (x4 - x6_7))) ∧ (¬ (x3 = 0) → (Q x6_7)))))) ∧ (¬ (x6 ≤ 0) → (w_X11_triangle (x4 + x6) (fun r9 => (x1 < r9 → (w_X11_unpair_50 Q X23 x1 x3 x4 x6)) ∧ (¬ (x1 < r9) → (∀ x4_12, x4_12 = x4 + x6 → (w_X11_unpair_50 Q X23 x1 x3 x4_12 x6))))))
def w_X11_unpair_23 (Q : Int64 → Prop) (x1 : Int64) (x3 : Int32) (x4 : Int64) (x6 : Int64) : Prop :=
  wLoop (fun X23 (q : Int64 × Int64) => w_X11_unpair_b23 Q x1 x3 X23 q.1 q.2) (x4, x6)
def w_X11_unpair_0 (Q : Int64 → Prop) (x1 : Int64) (x3 : Int32) : Prop :=
  w_X11_within x1 0 1000000000000000000 (fun r1 => (¬ r1 = 0 → (w_X11_unpair_23 Q x1 x3 0 1073741824)) ∧ (r1 = 0 → (Q (-1))))
/-- TwoAsks.unpair(JZ)J -/
def w_X11_unpair (x1 : Int64) (x3 : Int32) (Q : Int64 → Prop) : Prop := w_X11_unpair_0 Q x1 x3
def w_X11_number_b60 (Q : Int64 → Prop) (x1 : Int32) (x2 : Int32) (h : hp) (X60 : Int64 × Int32 → Prop) (x3 : Int64) (x5 : Int32) : Prop :=
  (x2 ≤ x5 → (Q x3)) ∧ (¬ (x2 ≤ x5) → (shC (gR h 0) = 7 ∧ (w_X7_numberAt (gR h 0) h x1 x5 (fun r18 => w_X11_paired x3 (r18.toInt64) (fun r20 => ∀ x5_22, x5_22 = x5 + 1 → (X60 (r20, x5_22)))))))
def w_X11_number_60 (Q : Int64 → Prop) (x1 : Int32) (x2 : Int32) (h : hp) (x3 : Int64) (x5 : Int32) : Prop :=
  wLoop (fun X60 (q : Int64 × Int32) => w_X11_number_b60 Q x1 x2 h X60 q.1 q.2) (x3, x5)
def w_X11_number_0 (Q : Int64 → Prop) (x1 : Int32) (h : hp) : Prop :=
  w_X11_isRow h x1 (fun r1 => (¬ r1 = 0 → (shC (gR h 0) = 7 ∧ (vp_in x1 6 ∧ (∀ x2_5, x2_5 = gI h ((gR h 0) + 1) (ix x1) → ((x2_5 = 0 → (Q (-2))) ∧ (¬ (x2_5 = 0) → ((4 < x2_5 → (Q (-2))) ∧ (¬ (4 < x2_5) → (shC (gR h 0) = 7 ∧ (w_X7_isSomeBelowZero (gR h 0) h x1 (fun r9 => (r9 = 0 → (shC (gR h 0) = 7 ∧ (w_X7_numberAt (gR h 0) h x1 0 (fun r13 => ∀ x3_15, x3_15 = r13.toInt64 → (w_X11_number_60 Q x1 x2_5 h x3_15 1))))) ∧ (¬ (r9 = 0) → (Q (-2)))))))))))))) ∧ (r1 = 0 → (Q (-1))))
/-- TwoAsks.number(I)J -/
def w_X11_number (h : hp) (x1 : Int32) (Q : Int64 → Prop) : Prop := w_X11_number_0 Q x1 h
def w_X11_slotsThatHold_b4 (Q : Int32 → Prop) (h : hp) (X4 : Int32 × Int32 → Prop) (x1 : Int32) (x2 : Int32) : Prop :=
  (3 ≤ x2 → (Q x1)) ∧ (¬ (3 ≤ x2) → (vp_in x2 3 ∧ (((gI h (54 + 3 * ix x2) 3) = 0 → (∀ x2_4, x2_4 = x2 + 1 → (X4 (x1, x2_4)))) ∧ (¬ ((gI h (54 + 3 * ix x2) 3) = 0) → (∀ x1_5, x1_5 = x1 + 1 → (∀ x2_6, x2_6 = x2 + 1 → (X4 (x1_5, x2_6))))))))
def w_X11_slotsThatHold_4 (Q : Int32 → Prop) (h : hp) (x1 : Int32) (x2 : Int32) : Prop :=
  wLoop (fun X4 (q : Int32 × Int32) => w_X11_slotsThatHold_b4 Q h X4 q.1 q.2) (x1, x2)
def w_X11_slotsThatHold_0 (Q : Int32 → Prop) (h : hp) : Prop :=
  w_X11_slotsThatHold_4 Q h 0 0
/-- TwoAsks.slotsThatHold()I -/
def w_X11_slotsThatHold (h : hp) (Q : Int32 → Prop) : Prop := w_X11_slotsThatHold_0 Q h
def w_X11_count_0 (Q : Int32 → Prop) (x1 : Int32) (h : hp) : Prop :=
  ∀ sw1, sw1 = x1 → ((sw1 = 0 → (shC (gR h 0) = 7 ∧ (Q (gI h (gR h 0) 0)))) ∧ (sw1 = 1 → (shC (gR h 0) = 7 ∧ (Q (gI h ((gR h 0) + 9) 0)))) ∧ (sw1 = 2 → (shC (gR h 0) = 7 ∧ (Q (gI h ((gR h 0) + 15) 0)))) ∧ (sw1 = 3 → (shC (gR h 0) = 7 ∧ (Q (gI h ((gR h 0) + 9) 1)))) ∧ (sw1 = 4 → (shC (gR h 0) = 7 ∧ (Q (gI h (gR h 0) 7)))) ∧ (sw1 = 5 → (shC (gR h 0) = 7 ∧ (Q (gI h (gR h 0) 8)))) ∧ (sw1 = 6 → (Q (gI h 0 1))) ∧ (sw1 = 7 → (Q (gI h 51 0))) ∧ (sw1 = 8 → (w_X11_slotsThatHold h (fun r17 => Q r17))) ∧ (sw1 = 9 → (shC (gR h 0) = 7 ∧ (Q (gI h (gR h 0) 9)))) ∧ (sw1 = 10 → (Q (gI h 0 7))) ∧ (sw1 = 11 → (Q (gI h 0 8))) ∧ (sw1.toInt < 0 ∨ 11 < sw1.toInt → (Q (-1))))
/-- TwoAsks.count(I)I -/
def w_X11_count (h : hp) (x1 : Int32) (Q : Int32 → Prop) : Prop := w_X11_count_0 Q x1 h
def w_X12_put_b3 (Q : hp → Prop) (x1 : Int32) (X3 : Int32 × hp → Prop) (x2 : Int32) (h : hp) : Prop :=
  (x2 < 0 → (Q h)) ∧ (¬ (x2 < 0) → (vp_in (gI h 0 2) 2000 ∧ ∀ h2, h2 = sI h 1 (ix (gI h 0 2)) (jb ((jshr x1 x2).toInt8.toInt32)) → (∀ h3, h3 = sI h2 0 2 ((gI h2 0 2) + 1) → (∀ x2_4, x2_4 = x2 + (-8) → (X3 (x2_4, h3))))))
def w_X12_put_3 (Q : hp → Prop) (x1 : Int32) (x2 : Int32) (h : hp) : Prop :=
  wLoop (fun X3 (q : Int32 × hp) => w_X12_put_b3 Q x1 X3 q.1 q.2) (x2, h)
def w_X12_put_0 (Q : hp → Prop) (x1 : Int32) (h : hp) : Prop :=
  w_X12_put_3 Q x1 24 h
/-- TwoAsksModel.put(I)V -/
def w_X12_put (h : hp) (x1 : Int32) (Q : hp → Prop) : Prop := w_X12_put_0 Q x1 h
def w_X12_feed_0 (Q : Int32 → hp → Prop) (x1 : Int32) (x2 : Int32) (x3 : Int32) (x4 : Int32) (x5 : Int32) (h : hp) : Prop :=
  (((gI h 0 2) + 20) ≤ 2000 → (w_X12_put h x1 (fun h2 => w_X12_put h2 x2 (fun h3 => w_X12_put h3 x3 (fun h4 => w_X12_put h4 x4 (fun h5 => w_X12_put h5 x5 (fun h6 => Q (gI h6 0 2) h6))))))) ∧ (¬ (((gI h 0 2) + 20) ≤ 2000) → (Q (-1) h))
/-- TwoAsksModel.feed(IIIII)I -/
def w_X12_feed (h : hp) (x1 : Int32) (x2 : Int32) (x3 : Int32) (x4 : Int32) (x5 : Int32) (Q : Int32 → hp → Prop) : Prop := w_X12_feed_0 Q x1 x2 x3 x4 x5 h
def w_X12_back_0 (Q : Int32 → hp → Prop) (x1 : Int32) (h : hp) : Prop :=
  (x1 < 0 → (Q (-1) h)) ∧ (¬ (x1 < 0) → ((x1 ≤ (gI h 0 2) → (∀ h3, h3 = sI h 0 2 ((gI h 0 2) - x1) → (Q (gI h3 0 2) h3))) ∧ (¬ (x1 ≤ (gI h 0 2)) → (Q (-1) h))))
/-- TwoAsksModel.back(I)I -/
def w_X12_back (h : hp) (x1 : Int32) (Q : Int32 → hp → Prop) : Prop := w_X12_back_0 Q x1 h
def w_X12_byteAt_0 (Q : Int32 → Prop) (x1 : Int32) (h : hp) : Prop :=
  ((gI h 0 4) ≤ x1 → (Q 0)) ∧ (¬ ((gI h 0 4) ≤ x1) → (vp_in x1 2000 ∧ (Q ((gI h 2 (ix x1)) &&& 255))))
/-- TwoAsksModel.byteAt(I)I -/
def w_X12_byteAt (h : hp) (x1 : Int32) (Q : Int32 → Prop) : Prop := w_X12_byteAt_0 Q x1 h
def w_X12_isDigit_0 (Q : Int32 → Prop) (x0 : Int32) : Prop :=
  (x0 < 48 → (Q 0)) ∧ (¬ (x0 < 48) → ((57 < x0 → (Q 0)) ∧ (¬ (57 < x0) → (Q 1))))
/-- TwoAsksModel.isDigit(I)Z -/
def w_X12_isDigit (x0 : Int32) (Q : Int32 → Prop) : Prop := w_X12_isDigit_0 Q x0
def w_X12_isLetter_0 (Q : Int32 → Prop) (x0 : Int32) : Prop :=
  (x0 < 97 → (Q 0)) ∧ (¬ (x0 < 97) → ((122 < x0 → (Q 0)) ∧ (¬ (122 < x0) → (Q 1))))
/-- TwoAsksModel.isLetter(I)Z -/
def w_X12_isLetter (x0 : Int32) (Q : Int32 → Prop) : Prop := w_X12_isLetter_0 Q x0
def w_X12_appends_0 (Q : Int64 → Prop) (x0 : Int64) (x2 : Int32) : Prop :=
  (¬ x2 = 0 → (Q ((27 * x0) + (((x2 - 97) + 1).toInt64)))) ∧ (x2 = 0 → (Q x0))
/-- TwoAsksModel.appends(JI)J -/
def w_X12_appends (x0 : Int64) (x2 : Int32) (Q : Int64 → Prop) : Prop := w_X12_appends_0 Q x0 x2
def w_X12_word_0 (Q : Int64 → Prop) (x0 : Int32) (x1 : Int32) (x2 : Int32) (x3 : Int32) (x4 : Int32) (x5 : Int32) (x6 : Int32) : Prop :=
  w_X12_appends 0 x0 (fun r1 => w_X12_appends r1 x1 (fun r3 => w_X12_appends r3 x2 (fun r5 => w_X12_appends r5 x3 (fun r7 => w_X12_appends r7 x4 (fun r9 => w_X12_appends r9 x5 (fun r11 => w_X12_appends r11 x6 (fun r13 => Q r13)))))))
/-- TwoAsksModel.word(IIIIIII)J -/
def w_X12_word (x0 : Int32) (x1 : Int32) (x2 : Int32) (x3 : Int32) (x4 : Int32) (x5 : Int32) (x6 : Int32) (Q : Int64 → Prop) : Prop := w_X12_word_0 Q x0 x1 x2 x3 x4 x5 x6
def w_X12_token_0 (Q : hp → Prop) (x1 : Int32) (x2 : Int32) (x3 : Int32) (x4 : Int64) (h : hp) : Prop :=
  vp_in (gI h 0 10) 403 ∧ ∀ h1, h1 = sI h 3 (ix (gI h 0 10)) x1 → (vp_in (gI h1 0 10) 403 ∧ ∀ h2, h2 = sI h1 4 (ix (gI h1 0 10)) x2 → (vp_in (gI h2 0 10) 403 ∧ ∀ h3, h3 = sI h2 5 (ix (gI h2 0 10)) x3 → (vp_in (gI h3 0 10) 403 ∧ ∀ h4, h4 = sL h3 6 (ix (gI h3 0 10)) x4 → (∀ h5, h5 = sI h4 0 10 ((gI h4 0 10) + 1) → (Q h5)))))
/-- TwoAsksModel.token(IIIJ)V -/
def w_X12_token (h : hp) (x1 : Int32) (x2 : Int32) (x3 : Int32) (x4 : Int64) (Q : hp → Prop) : Prop := w_X12_token_0 Q x1 x2 x3 x4 h
def w_X12_sign_95 (Q : Int32 → hp → Prop) (x1 : Int32) (x4 : Int32) (h : hp) : Prop :=
  w_X12_token h x4 x1 0 0 (fun h10 => Q 1 h10)
def w_X12_sign_85 (Q : Int32 → hp → Prop) (x1 : Int32) (x2 : Int32) (x4 : Int32) (h : hp) : Prop :=
  (¬ x2 = 60 → (w_X12_sign_95 Q x1 x4 h)) ∧ (x2 = 60 → (w_X12_sign_95 Q x1 13 h))
def w_X12_sign_75 (Q : Int32 → hp → Prop) (x1 : Int32) (x2 : Int32) (x4 : Int32) (h : hp) : Prop :=
  (¬ x2 = 47 → (w_X12_sign_85 Q x1 x2 x4 h)) ∧ (x2 = 47 → (w_X12_sign_85 Q x1 x2 15 h))
def w_X12_sign_65 (Q : Int32 → hp → Prop) (x1 : Int32) (x2 : Int32) (x4 : Int32) (h : hp) : Prop :=
  (¬ x2 = 42 → (w_X12_sign_75 Q x1 x2 x4 h)) ∧ (x2 = 42 → (w_X12_sign_75 Q x1 x2 10 h))
def w_X12_sign_55 (Q : Int32 → hp → Prop) (x1 : Int32) (x2 : Int32) (x4 : Int32) (h : hp) : Prop :=
  (¬ x2 = 45 → (w_X12_sign_65 Q x1 x2 x4 h)) ∧ (x2 = 45 → (w_X12_sign_65 Q x1 x2 9 h))
def w_X12_sign_43 (Q : Int32 → hp → Prop) (x1 : Int32) (x2 : Int32) (h : hp) (s0 : Int32) : Prop :=
  (¬ x2 = 43 → (w_X12_sign_55 Q x1 x2 s0 h)) ∧ (x2 = 43 → (w_X12_sign_55 Q x1 x2 8 h))
def w_X12_sign_0 (Q : Int32 → hp → Prop) (x1 : Int32) (x2 : Int32) (x3 : Int32) (h : hp) : Prop :=
  (¬ x2 = 59 → ((¬ x2 = 61 → ((¬ x2 = 40 → ((¬ x2 = 41 → (w_X12_sign_43 Q x1 x2 h 3)) ∧ (x2 = 41 → (w_X12_sign_43 Q x1 x2 h 7)))) ∧ (x2 = 40 → (w_X12_sign_43 Q x1 x2 h 6)))) ∧ (x2 = 61 → (w_X12_sign_43 Q x1 x2 h 5)))) ∧ (x2 = 59 → (w_X12_sign_43 Q x1 x2 h 4))
/-- TwoAsksModel.sign(III)I -/
def w_X12_sign (h : hp) (x1 : Int32) (x2 : Int32) (x3 : Int32) (Q : Int32 → hp → Prop) : Prop := w_X12_sign_0 Q x1 x2 x3 h
def w_X12_cut_179 (Q : hp → Prop) (X7 : Int32 × hp → Prop) (x1 : Int32) (x3 : Int32) (x4 : Int64) (x6 : Int32) (h : hp) : Prop :=
  w_X12_token h x6 x1 0 x4 (fun h45 => ∀ x1_46, x1_46 = x1 + x3 → (X7 (x1_46, h45)))
def w_X12_cut_b146 (Q : hp → Prop) (X7 : Int32 × hp → Prop) (x1 : Int32) (x3 : Int32) (x4 : Int64) (h : hp) (X146 : Int32 × Int32 → Prop) (x6 : Int32) (x7 : Int32) : Prop :=
  (17 ≤ x7 → (w_X12_cut_179 Q X7 x1 x3 x4 x6 h)) ∧ (¬ (17 ≤ x7) → (vp_in x7 17 ∧ ((¬ (gL h 7 (ix x7)) = x4 → (∀ x7_42, x7_42 = x7 + 1 → (X146 (x6, x7_42)))) ∧ ((gL h 7 (ix x7)) = x4 → (∀ x6_43, x6_43 = 20 + x7 → (∀ x7_44, x7_44 = x7 + 1 → (X146 (x6_43, x7_44))))))))
def w_X12_cut_146 (Q : hp → Prop) (X7 : Int32 × hp → Prop) (x1 : Int32) (x3 : Int32) (x4 : Int64) (h : hp) (x6 : Int32) (x7 : Int32) : Prop :=
  wLoop (fun X146 (q : Int32 × Int32) => w_X12_cut_b146 Q X7 x1 x3 x4 h X146 q.1 q.2) (x6, x7)
def w_X12_cut_135 (Q : hp → Prop) (X7 : Int32 × hp → Prop) (x1 : Int32) (x3 : Int32) (x4 : Int64) (h : hp) (s0 : Int32) : Prop :=
  (7 < x3 → (w_X12_cut_179 Q X7 x1 x3 x4 s0 h)) ∧ (¬ (7 < x3) → (w_X12_cut_146 Q X7 x1 x3 x4 h s0 0))
def w_X12_cut_b85 (Q : hp → Prop) (X7 : Int32 × hp → Prop) (x1 : Int32) (h : hp) (X85 : Int32 × Int64 → Prop) (x3 : Int32) (x4 : Int64) : Prop :=
  w_X12_byteAt h (x1 + x3) (fun r26 => w_X12_isLetter r26 (fun r28 => (r28 = 0 → ((x3 ≤ 8 → (w_X12_cut_135 Q X7 x1 x3 x4 h 1)) ∧ (¬ (x3 ≤ 8) → (w_X12_cut_135 Q X7 x1 x3 x4 h 3)))) ∧ (¬ (r28 = 0) → ((8 ≤ x3 → (∀ x3_33, x3_33 = x3 + 1 → (X85 (x3_33, x4)))) ∧ (¬ (8 ≤ x3) → (w_X12_byteAt h (x1 + x3) (fun r34 => w_X12_appends x4 r34 (fun r36 => ∀ x3_38, x3_38 = x3 + 1 → (X85 (x3_38, r36))))))))))
def w_X12_cut_85 (Q : hp → Prop) (X7 : Int32 × hp → Prop) (x1 : Int32) (h : hp) (x3 : Int32) (x4 : Int64) : Prop :=
  wLoop (fun X85 (q : Int32 × Int64) => w_X12_cut_b85 Q X7 x1 h X85 q.1 q.2) (x3, x4)
def w_X12_cut_261 (Q : hp → Prop) (X7 : Int32 × hp → Prop) (x1 : Int32) (x3 : Int32) (x4 : Int32) (h : hp) (s0 : Int32) : Prop :=
  w_X12_token h s0 x1 x4 0 (fun h59 => ∀ x1_60, x1_60 = x1 + x3 → (X7 (x1_60, h59)))
def w_X12_cut_b208 (Q : hp → Prop) (X7 : Int32 × hp → Prop) (x1 : Int32) (h : hp) (X208 : Int32 × Int32 → Prop) (x3 : Int32) (x4 : Int32) : Prop :=
  w_X12_byteAt h (x1 + x3) (fun r47 => w_X12_isDigit r47 (fun r49 => (r49 = 0 → ((x3 ≤ 4 → (w_X12_cut_261 Q X7 x1 x3 x4 h 2)) ∧ (¬ (x3 ≤ 4) → (w_X12_cut_261 Q X7 x1 x3 x4 h 3)))) ∧ (¬ (r49 = 0) → ((4 ≤ x3 → (∀ x3_54, x3_54 = x3 + 1 → (X208 (x3_54, x4)))) ∧ (¬ (4 ≤ x3) → (w_X12_byteAt h (x1 + x3) (fun r55 => ∀ x4_57, x4_57 = ((10 * x4) + r55) - 48 → (∀ x3_58, x3_58 = x3 + 1 → (X208 (x3_58, x4_57))))))))))
def w_X12_cut_208 (Q : hp → Prop) (X7 : Int32 × hp → Prop) (x1 : Int32) (h : hp) (x3 : Int32) (x4 : Int32) : Prop :=
  wLoop (fun X208 (q : Int32 × Int32) => w_X12_cut_b208 Q X7 x1 h X208 q.1 q.2) (x3, x4)
def w_X12_cut_b7 (Q : hp → Prop) (X7 : Int32 × hp → Prop) (x1 : Int32) (h : hp) : Prop :=
  (400 < (gI h 0 10) → (Q h)) ∧ (¬ (400 < (gI h 0 10)) → (w_X12_byteAt h x1 (fun r3 => (x1 < (gI h 0 4) → ((r3 = 9 → (∀ x1_7, x1_7 = x1 + 1 → (X7 (x1_7, h)))) ∧ (¬ (r3 = 9) → ((r3 = 10 → (∀ x1_9, x1_9 = x1 + 1 → (X7 (x1_9, h)))) ∧ (¬ (r3 = 10) → ((r3 = 13 → (∀ x1_11, x1_11 = x1 + 1 → (X7 (x1_11, h)))) ∧ (¬ (r3 = 13) → ((¬ r3 = 32 → (w_X12_isLetter r3 (fun r13 => (r13 = 0 → (w_X12_isDigit r3 (fun r16 => (r16 = 0 → (w_X12_byteAt h (x1 + 1) (fun r19 => w_X12_sign h x1 r3 r19 (fun r22 h21 => ∀ x1_23, x1_23 = x1 + r22 → (X7 (x1_23, h21)))))) ∧ (¬ (r16 = 0) → (w_X12_cut_208 Q X7 x1 h 0 0))))) ∧ (¬ (r13 = 0) → (w_X12_cut_85 Q X7 x1 h 0 0))))) ∧ (r3 = 32 → (∀ x1_24, x1_24 = x1 + 1 → (X7 (x1_24, h)))))))))))) ∧ (¬ (x1 < (gI h 0 4)) → (w_X12_token h 0 (gI h 0 4) 0 0 (fun h25 => Q h25))))))
def w_X12_cut_7 (Q : hp → Prop) (x1 : Int32) (h : hp) : Prop :=
  wLoop (fun X7 (q : Int32 × hp) => w_X12_cut_b7 Q X7 q.1 q.2) (x1, h)
def w_X12_cut_0 (Q : hp → Prop) (h : hp) : Prop :=
  ∀ h1, h1 = sI h 0 10 0 → (w_X12_cut_7 Q 0 h1)
/-- TwoAsksModel.cut()V -/
def w_X12_cut (h : hp) (Q : hp → Prop) : Prop := w_X12_cut_0 Q h
def w_X12_is_0 (Q : Int32 → Prop) (x1 : Int32) (h : hp) : Prop :=
  (¬ (gI h 0 13) = 0 → (Q 0)) ∧ ((gI h 0 13) = 0 → (vp_in (gI h 0 11) 403 ∧ ((¬ (gI h 3 (ix (gI h 0 11))) = x1 → (Q 0)) ∧ ((gI h 3 (ix (gI h 0 11))) = x1 → (Q 1)))))
/-- TwoAsksModel.is(I)Z -/
def w_X12_is (h : hp) (x1 : Int32) (Q : Int32 → Prop) : Prop := w_X12_is_0 Q x1 h
def w_X12_fail_0 (Q : hp → Prop) (x1 : Int32) (h : hp) : Prop :=
  ((gI h 0 13) ≤ 0 → (∀ h2, h2 = sI h 0 13 x1 → (vp_in (gI h2 0 11) 403 ∧ (∀ h3, h3 = sI h2 0 14 (gI h2 4 (ix (gI h2 0 11))) → (Q h3))))) ∧ (¬ ((gI h 0 13) ≤ 0) → (Q h))
/-- TwoAsksModel.fail(I)V -/
def w_X12_fail (h : hp) (x1 : Int32) (Q : hp → Prop) : Prop := w_X12_fail_0 Q x1 h
def w_X12_amiss_46 (Q : hp → Prop) (x1 : Int32) (x3 : Int32) (h : hp) : Prop :=
  ∀ h7, h7 = sI h 0 15 x1 → (∀ h8, h8 = sI h7 0 16 x3 → (Q h8))
def w_X12_amiss_0 (Q : hp → Prop) (x1 : Int32) (x2 : Int32) (h : hp) : Prop :=
  vp_in x2 403 ∧ (∀ x3_1, x3_1 = gI h 4 (ix x2) → ((0 < (gI h 0 13) → (Q h)) ∧ (¬ (0 < (gI h 0 13)) → (((gI h 0 15) = 0 → (w_X12_amiss_46 Q x1 x3_1 h)) ∧ (¬ ((gI h 0 15) = 0) → (((gI h 0 16) < x3_1 → (Q h)) ∧ (¬ ((gI h 0 16) < x3_1) → ((¬ x3_1 = (gI h 0 16) → (w_X12_amiss_46 Q x1 x3_1 h)) ∧ (x3_1 = (gI h 0 16) → ((x1 < (gI h 0 15) → (w_X12_amiss_46 Q x1 x3_1 h)) ∧ (¬ (x1 < (gI h 0 15)) → (Q h))))))))))))
/-- TwoAsksModel.amiss(II)V -/
def w_X12_amiss (h : hp) (x1 : Int32) (x2 : Int32) (Q : hp → Prop) : Prop := w_X12_amiss_0 Q x1 x2 h
def w_X12_goesOn_0 (Q : hp → Prop) (h : hp) : Prop :=
  (¬ (gI h 0 11) = 400 → (∀ h2, h2 = sI h 0 11 ((gI h 0 11) + 1) → (Q h2))) ∧ ((gI h 0 11) = 400 → (w_X12_fail h 2 (fun h3 => Q h3)))
/-- TwoAsksModel.goesOn()V -/
def w_X12_goesOn (h : hp) (Q : hp → Prop) : Prop := w_X12_goesOn_0 Q h
def w_X12_must_0 (Q : hp → Prop) (x1 : Int32) (h : hp) : Prop :=
  w_X12_is h x1 (fun r1 => (r1 = 0 → (w_X12_fail h 1 (fun h4 => Q h4))) ∧ (¬ (r1 = 0) → (w_X12_goesOn h (fun h5 => Q h5))))
/-- TwoAsksModel.must(I)V -/
def w_X12_must (h : hp) (x1 : Int32) (Q : hp → Prop) : Prop := w_X12_must_0 Q x1 h
def w_X12_plain_b52 (Q : hp → Prop) (x1 : Int32) (X52 : Int32 × hp → Prop) (x2 : Int32) (h : hp) : Prop :=
  (2 ≤ x2 → (Q h)) ∧ (¬ (2 ≤ x2) → (vp_in ((2 * x1) + x2) 4 ∧ ∀ h9, h9 = sI h 22 (ix ((2 * x1) + x2)) 0 → (vp_in ((2 * x1) + x2) 4 ∧ ∀ h10, h10 = sI h9 23 (ix ((2 * x1) + x2)) 0 → (∀ x2_11, x2_11 = x2 + 1 → (X52 (x2_11, h10))))))
def w_X12_plain_52 (Q : hp → Prop) (x1 : Int32) (x2 : Int32) (h : hp) : Prop :=
  wLoop (fun X52 (q : Int32 × hp) => w_X12_plain_b52 Q x1 X52 q.1 q.2) (x2, h)
def w_X12_plain_0 (Q : hp → Prop) (x1 : Int32) (h : hp) : Prop :=
  vp_in x1 2 ∧ ∀ h1, h1 = sI h 9 (ix x1) 0 → (vp_in x1 2 ∧ ∀ h2, h2 = sI h1 12 (ix x1) 97 → (vp_in x1 2 ∧ ∀ h3, h3 = sI h2 13 (ix x1) 0 → (vp_in x1 2 ∧ ∀ h4, h4 = sI h3 17 (ix x1) 0 → (vp_in x1 2 ∧ ∀ h5, h5 = sI h4 19 (ix x1) 3 → (vp_in x1 2 ∧ ∀ h6, h6 = sI h5 20 (ix x1) 3 → (vp_in x1 2 ∧ ∀ h7, h7 = sI h6 21 (ix x1) 0 → (w_X12_plain_52 Q x1 0 h7)))))))
/-- TwoAsksModel.plain(I)V -/
def w_X12_plain (h : hp) (x1 : Int32) (Q : hp → Prop) : Prop := w_X12_plain_0 Q x1 h
def w_X12_roomFor_10 (Q : hp → Prop) (h : hp) : Prop :=
  (¬ (gI h 0 13) = 0 → (Q h)) ∧ ((gI h 0 13) = 0 → (w_X12_goesOn h (fun h4 => Q h4)))
def w_X12_roomFor_0 (Q : hp → Prop) (x1 : Int32) (x2 : Int32) (h : hp) : Prop :=
  (¬ x1 = x2 → (w_X12_roomFor_10 Q h)) ∧ (x1 = x2 → (w_X12_fail h 2 (fun h2 => w_X12_roomFor_10 Q h2)))
/-- TwoAsksModel.roomFor(II)V -/
def w_X12_roomFor (h : hp) (x1 : Int32) (x2 : Int32) (Q : hp → Prop) : Prop := w_X12_roomFor_0 Q x1 x2 h
def w_X12_named_b12 (Q : Int32 → hp → Prop) (x1 : Int32) (X12 : Int32 × hp → Prop) (x2 : Int32) (h : hp) : Prop :=
  ((gI h 0 20) ≤ x2 → (Q x1 h)) ∧ (¬ ((gI h 0 20) ≤ x2) → ((¬ (gI h 0 13) = 0 → (Q x1 h)) ∧ ((gI h 0 13) = 0 → (vp_in x2 6 ∧ (vp_in x1 403 ∧ ((¬ (gL h 8 (ix x2)) = (gL h 6 (ix x1)) → (∀ x2_6, x2_6 = x2 + 1 → (X12 (x2_6, h)))) ∧ ((gL h 8 (ix x2)) = (gL h 6 (ix x1)) → (w_X12_amiss h 3 x1 (fun h7 => ∀ x2_8, x2_8 = x2 + 1 → (X12 (x2_8, h7)))))))))))
def w_X12_named_12 (Q : Int32 → hp → Prop) (x1 : Int32) (x2 : Int32) (h : hp) : Prop :=
  wLoop (fun X12 (q : Int32 × hp) => w_X12_named_b12 Q x1 X12 q.1 q.2) (x2, h)
def w_X12_named_0 (Q : Int32 → hp → Prop) (h : hp) : Prop :=
  ∀ x1_1, x1_1 = gI h 0 11 → (w_X12_must h 1 (fun h2 => w_X12_named_12 Q x1_1 0 h2))
/-- TwoAsksModel.named()I -/
def w_X12_named (h : hp) (Q : Int32 → hp → Prop) : Prop := w_X12_named_0 Q h
def w_X12_bounded_51 (Q : Int32 → hp → Prop) (x3 : Int32) (h : hp) : Prop :=
  w_X12_goesOn h (fun h8 => Q x3 h8)
def w_X12_bounded_42 (Q : Int32 → hp → Prop) (x3 : Int32) (h : hp) : Prop :=
  w_X12_amiss h 5 (gI h 0 11) (fun h9 => w_X12_bounded_51 Q x3 h9)
def w_X12_bounded_15 (Q : Int32 → hp → Prop) (x1 : Int32) (h : hp) : Prop :=
  w_X12_fail h 1 (fun h10 => Q x1 h10)
def w_X12_bounded_0 (Q : Int32 → hp → Prop) (x1 : Int32) (x2 : Int32) (h : hp) : Prop :=
  (0 < (gI h 0 13) → (w_X12_bounded_15 Q x1 h)) ∧ (¬ (0 < (gI h 0 13)) → (w_X12_is h 2 (fun r2 => (¬ r2 = 0 → (vp_in (gI h 0 11) 403 ∧ (∀ x3_5, x3_5 = gI h 5 (ix (gI h 0 11)) → ((x3_5 < x1 → (w_X12_bounded_42 Q x3_5 h)) ∧ (¬ (x3_5 < x1) → ((x3_5 ≤ x2 → (w_X12_bounded_51 Q x3_5 h)) ∧ (¬ (x3_5 ≤ x2) → (w_X12_bounded_42 Q x3_5 h)))))))) ∧ (r2 = 0 → (w_X12_bounded_15 Q x1 h)))))
/-- TwoAsksModel.bounded(II)I -/
def w_X12_bounded (h : hp) (x1 : Int32) (x2 : Int32) (Q : Int32 → hp → Prop) : Prop := w_X12_bounded_0 Q x1 x2 h
def w_X12_emit_0 (Q : hp → Prop) (x1 : Int32) (x2 : Int32) (h : hp) : Prop :=
  vp_in (gI h 0 43) 840 ∧ ∀ h1, h1 = sI h 29 (ix (gI h 0 43)) x1 → (vp_in (gI h1 0 43) 840 ∧ ∀ h2, h2 = sI h1 30 (ix (gI h1 0 43)) x2 → (∀ h3, h3 = sI h2 0 43 ((gI h2 0 43) + 1) → (Q h3)))
/-- TwoAsksModel.emit(II)V -/
def w_X12_emit (h : hp) (x1 : Int32) (x2 : Int32) (Q : hp → Prop) : Prop := w_X12_emit_0 Q x1 x2 h
def w_X12_unit_88 (Q : hp → Prop) (h : hp) : Prop :=
  w_X12_fail h 1 (fun h11 => Q h11)
def w_X12_unit_0 (Q : hp → Prop) (h : hp) : Prop :=
  w_X12_is h 2 (fun r1 => (r1 = 0 → ((¬ (gI h 0 13) = 0 → (w_X12_unit_88 Q h)) ∧ ((gI h 0 13) = 0 → (vp_in (gI h 0 11) 403 ∧ (((gI h 3 (ix (gI h 0 11))) < 31 → (w_X12_unit_88 Q h)) ∧ (¬ ((gI h 3 (ix (gI h 0 11))) < 31) → (vp_in (gI h 0 11) 403 ∧ ((36 < (gI h 3 (ix (gI h 0 11))) → (w_X12_unit_88 Q h)) ∧ (¬ (36 < (gI h 3 (ix (gI h 0 11)))) → (vp_in (gI h 0 11) 403 ∧ (w_X12_emit h 1 ((gI h 3 (ix (gI h 0 11))) - 31) (fun h7 => w_X12_goesOn h7 (fun h8 => Q h8))))))))))))) ∧ (¬ (r1 = 0) → (vp_in (gI h 0 11) 403 ∧ (w_X12_emit h 0 (gI h 5 (ix (gI h 0 11))) (fun h9 => w_X12_goesOn h9 (fun h10 => Q h10))))))
/-- TwoAsksModel.unit()V -/
def w_X12_unit (h : hp) (Q : hp → Prop) : Prop := w_X12_unit_0 Q h
def w_X12_comesOut_84 (Q : hp → Prop) (X0 : hp → Prop) (x1 : Int32) (h : hp) (s0 : Int32) : Prop :=
  w_X12_emit h s0 0 (fun h11 => X0 h11)
def w_X12_comesOut_42 (Q : hp → Prop) (X0 : hp → Prop) (x1 : Int32) (x2 : Int32) (h : hp) : Prop :=
  ∀ h7, h7 = sI h 0 47 ((gI h 0 47) - 1) → ((¬ x2 = 8 → ((¬ x2 = 9 → ((¬ x2 = 10 → (w_X12_comesOut_84 Q X0 x1 h7 5)) ∧ (x2 = 10 → (w_X12_comesOut_84 Q X0 x1 h7 4)))) ∧ (x2 = 9 → (w_X12_comesOut_84 Q X0 x1 h7 3)))) ∧ (x2 = 8 → (w_X12_comesOut_84 Q X0 x1 h7 2)))
def w_X12_comesOut_b0 (Q : hp → Prop) (x1 : Int32) (X0 : hp → Prop) (h : hp) : Prop :=
  ((gI h 0 47) ≤ 0 → (Q h)) ∧ (¬ ((gI h 0 47) ≤ 0) → (vp_in ((gI h 0 47) - 1) 64 ∧ (∀ x2_2, x2_2 = gI h 31 (ix ((gI h 0 47) - 1)) → ((x2_2 = 6 → (Q h)) ∧ (¬ (x2_2 = 6) → ((x1 = 0 → (w_X12_comesOut_42 Q X0 x1 x2_2 h)) ∧ (¬ (x1 = 0) → ((x2_2 = 8 → (Q h)) ∧ (¬ (x2_2 = 8) → ((¬ x2_2 = 9 → (w_X12_comesOut_42 Q X0 x1 x2_2 h)) ∧ (x2_2 = 9 → (Q h))))))))))))
def w_X12_comesOut_0 (Q : hp → Prop) (x1 : Int32) (h : hp) : Prop :=
  wLoop (fun X0 (q : hp) => w_X12_comesOut_b0 Q x1 X0 q) h
/-- TwoAsksModel.comesOut(Z)V -/
def w_X12_comesOut (h : hp) (x1 : Int32) (Q : hp → Prop) : Prop := w_X12_comesOut_0 Q x1 h
def w_X12_expression_46 (Q : hp → Prop) (X12 : Int32 × hp → Prop) (X23 : hp → Prop) (x1 : Int32) (h : hp) : Prop :=
  ∀ h12, h12 = sI h 0 12 ((gI h 0 12) + 1) → (w_X12_goesOn h12 (fun h13 => vp_in (gI h13 0 47) 64 ∧ ∀ h14, h14 = sI h13 31 (ix (gI h13 0 47)) 6 → (∀ h15, h15 = sI h14 0 47 ((gI h14 0 47) + 1) → (X23 h15))))
def w_X12_expression_204 (Q : hp → Prop) (h : hp) : Prop :=
  w_X12_comesOut h 0 (fun h45 => Q h45)
def w_X12_expression_234 (Q : hp → Prop) (X12 : Int32 × hp → Prop) (x1 : Int32) (x2 : Int32) (h : hp) (s0 : Int32) : Prop :=
  w_X12_comesOut h s0 (fun h46 => vp_in (gI h46 0 11) 403 ∧ (vp_in (gI h46 0 47) 64 ∧ ∀ h47, h47 = sI h46 31 (ix (gI h46 0 47)) (gI h46 3 (ix (gI h46 0 11))) → (∀ h48, h48 = sI h47 0 47 ((gI h47 0 47) + 1) → (w_X12_goesOn h48 (fun h49 => X12 (x2, h49))))))
def w_X12_expression_186 (Q : hp → Prop) (X12 : Int32 × hp → Prop) (x1 : Int32) (h : hp) (s0 : Int32) : Prop :=
  (¬ s0 = 0 → (w_X12_is h 10 (fun r37 => (¬ r37 = 0 → (w_X12_expression_234 Q X12 x1 s0 h 1)) ∧ (r37 = 0 → (w_X12_is h 15 (fun r40 => (r40 = 0 → (w_X12_expression_234 Q X12 x1 s0 h 0)) ∧ (¬ (r40 = 0) → (w_X12_expression_234 Q X12 x1 s0 h 1)))))))) ∧ (s0 = 0 → (((gI h 0 12) ≤ x1 → (w_X12_expression_204 Q h)) ∧ (¬ ((gI h 0 12) ≤ x1) → (w_X12_fail h 1 (fun h44 => w_X12_expression_204 Q h44)))))
def w_X12_expression_145 (Q : hp → Prop) (X12 : Int32 × hp → Prop) (x1 : Int32) (h : hp) : Prop :=
  w_X12_is h 8 (fun r24 => (¬ r24 = 0 → (w_X12_expression_186 Q X12 x1 h 1)) ∧ (r24 = 0 → (w_X12_is h 9 (fun r27 => (¬ r27 = 0 → (w_X12_expression_186 Q X12 x1 h 1)) ∧ (r27 = 0 → (w_X12_is h 10 (fun r30 => (¬ r30 = 0 → (w_X12_expression_186 Q X12 x1 h 1)) ∧ (r30 = 0 → (w_X12_is h 15 (fun r33 => (r33 = 0 → (w_X12_expression_186 Q X12 x1 h 0)) ∧ (¬ (r33 = 0) → (w_X12_expression_186 Q X12 x1 h 1))))))))))))
def w_X12_expression_b96 (Q : hp → Prop) (X12 : Int32 × hp → Prop) (x1 : Int32) (X96 : hp → Prop) (h : hp) : Prop :=
  w_X12_is h 7 (fun r16 => (r16 = 0 → (w_X12_expression_145 Q X12 x1 h)) ∧ (¬ (r16 = 0) → (((gI h 0 12) ≤ x1 → (w_X12_expression_145 Q X12 x1 h)) ∧ (¬ ((gI h 0 12) ≤ x1) → (w_X12_comesOut h 0 (fun h20 => ∀ h21, h21 = sI h20 0 47 ((gI h20 0 47) - 1) → (∀ h22, h22 = sI h21 0 12 ((gI h21 0 12) - 1) → (w_X12_goesOn h22 (fun h23 => X96 h23)))))))))
def w_X12_expression_96 (Q : hp → Prop) (X12 : Int32 × hp → Prop) (x1 : Int32) (h : hp) : Prop :=
  wLoop (fun X96 (q : hp) => w_X12_expression_b96 Q X12 x1 X96 q) h
def w_X12_expression_b23 (Q : hp → Prop) (X12 : Int32 × hp → Prop) (x1 : Int32) (X23 : hp → Prop) (h : hp) : Prop :=
  w_X12_is h 6 (fun r5 => (r5 = 0 → (w_X12_unit h (fun h8 => ((gI h8 0 13) ≤ 0 → (w_X12_expression_96 Q X12 x1 h8)) ∧ (¬ ((gI h8 0 13) ≤ 0) → (Q h8))))) ∧ (¬ (r5 = 0) → ((¬ (gI h 0 12) = 6 → (w_X12_expression_46 Q X12 X23 x1 h)) ∧ ((gI h 0 12) = 6 → (w_X12_fail h 2 (fun h11 => w_X12_expression_46 Q X12 X23 x1 h11))))))
def w_X12_expression_23 (Q : hp → Prop) (X12 : Int32 × hp → Prop) (x1 : Int32) (h : hp) : Prop :=
  wLoop (fun X23 (q : hp) => w_X12_expression_b23 Q X12 x1 X23 q) h
def w_X12_expression_b12 (Q : hp → Prop) (x1 : Int32) (X12 : Int32 × hp → Prop) (x2 : Int32) (h : hp) : Prop :=
  (x2 = 0 → (Q h)) ∧ (¬ (x2 = 0) → ((¬ (gI h 0 13) = 0 → (Q h)) ∧ ((gI h 0 13) = 0 → (w_X12_expression_23 Q X12 x1 h))))
def w_X12_expression_12 (Q : hp → Prop) (x1 : Int32) (x2 : Int32) (h : hp) : Prop :=
  wLoop (fun X12 (q : Int32 × hp) => w_X12_expression_b12 Q x1 X12 q.1 q.2) (x2, h)
def w_X12_expression_0 (Q : hp → Prop) (h : hp) : Prop :=
  ∀ h1, h1 = sI h 0 47 0 → (∀ x1_2, x1_2 = gI h1 0 12 → (w_X12_expression_12 Q x1_2 1 h1))
/-- TwoAsksModel.expression()V -/
def w_X12_expression (h : hp) (Q : hp → Prop) : Prop := w_X12_expression_0 Q h
def w_X12_term_24 (Q : hp → Prop) (h : hp) : Prop :=
  vp_in (gI h 0 37) 260 ∧ ∀ h4, h4 = sI h 28 (ix (gI h 0 37)) (gI h 0 43) → (∀ h5, h5 = sI h4 0 37 ((gI h4 0 37) + 1) → (Q h5))
def w_X12_term_0 (Q : hp → Prop) (h : hp) : Prop :=
  vp_in (gI h 0 37) 260 ∧ ∀ h1, h1 = sI h 27 (ix (gI h 0 37)) (gI h 0 43) → ((¬ (gI h1 0 13) = 0 → (w_X12_term_24 Q h1)) ∧ ((gI h1 0 13) = 0 → (w_X12_expression h1 (fun h3 => w_X12_term_24 Q h3))))
/-- TwoAsksModel.term()V -/
def w_X12_term (h : hp) (Q : hp → Prop) : Prop := w_X12_term_0 Q h
def w_X12_tellLaw_110 (Q : hp → Prop) (X12 : Int32 × hp → Prop) (x1 : Int32) (x2 : Int32) (x3 : Int32) (h : hp) : Prop :=
  w_X12_must h 29 (fun h19 => w_X12_term h19 (fun h20 => w_X12_must h20 30 (fun h21 => X12 (x3, h21))))
def w_X12_tellLaw_38 (Q : hp → Prop) (X12 : Int32 × hp → Prop) (x1 : Int32) (x2 : Int32) (x3 : Int32) (h : hp) : Prop :=
  ((gI h 0 13) ≤ 0 → (∀ x3_10, x3_10 = x3 + 1 → (w_X12_goesOn h (fun h11 => vp_in (gI h11 0 37) 260 ∧ ∀ h12, h12 = sI h11 24 (ix (gI h11 0 37)) (jz 1) → (vp_in (gI h12 0 37) 260 ∧ ∀ h13, h13 = sI h12 25 (ix (gI h12 0 37)) (gI h12 0 43) → (w_X12_expression h13 (fun h14 => w_X12_must h14 13 (fun h15 => vp_in (gI h15 0 37) 260 ∧ ∀ h16, h16 = sI h15 26 (ix (gI h15 0 37)) (gI h15 0 43) → ((¬ (gI h16 0 13) = 0 → (w_X12_tellLaw_110 Q X12 x1 x2 x3_10 h16)) ∧ ((gI h16 0 13) = 0 → (w_X12_expression h16 (fun h18 => w_X12_tellLaw_110 Q X12 x1 x2 x3_10 h18)))))))))))) ∧ (¬ ((gI h 0 13) ≤ 0) → (Q h))
def w_X12_tellLaw_129 (Q : hp → Prop) (x1 : Int32) (x2 : Int32) (h : hp) : Prop :=
  vp_in (gI h 0 37) 260 ∧ ∀ h22, h22 = sI h 24 (ix (gI h 0 37)) (jz 0) → (w_X12_term h22 (fun h23 => w_X12_must h23 4 (fun h24 => ((gI h24 0 13) ≤ 0 → (vp_in ((2 * (gI h24 0 19)) + x1) 4 ∧ ∀ h26, h26 = sI h24 22 (ix ((2 * (gI h24 0 19)) + x1)) x2 → (vp_in ((2 * (gI h26 0 19)) + x1) 4 ∧ ∀ h27, h27 = sI h26 23 (ix ((2 * (gI h26 0 19)) + x1)) (gI h26 0 37) → (Q h27)))) ∧ (¬ ((gI h24 0 13) ≤ 0) → (Q h24)))))
def w_X12_tellLaw_b12 (Q : hp → Prop) (x1 : Int32) (x2 : Int32) (X12 : Int32 × hp → Prop) (x3 : Int32) (h : hp) : Prop :=
  (¬ (gI h 0 13) = 0 → (w_X12_tellLaw_129 Q x1 x2 h)) ∧ ((gI h 0 13) = 0 → (w_X12_is h 28 (fun r4 => (r4 = 0 → (w_X12_tellLaw_129 Q x1 x2 h)) ∧ (¬ (r4 = 0) → ((¬ x3 = 4 → (w_X12_tellLaw_38 Q X12 x1 x2 x3 h)) ∧ (x3 = 4 → (w_X12_fail h 2 (fun h8 => w_X12_tellLaw_38 Q X12 x1 x2 x3 h8))))))))
def w_X12_tellLaw_12 (Q : hp → Prop) (x1 : Int32) (x2 : Int32) (x3 : Int32) (h : hp) : Prop :=
  wLoop (fun X12 (q : Int32 × hp) => w_X12_tellLaw_b12 Q x1 x2 X12 q.1 q.2) (x3, h)
def w_X12_tellLaw_0 (Q : hp → Prop) (x1 : Int32) (h : hp) : Prop :=
  w_X12_must h 5 (fun h1 => ∀ x2_2, x2_2 = gI h1 0 37 → (w_X12_tellLaw_12 Q x1 x2_2 0 h1))
/-- TwoAsksModel.tellLaw(I)V -/
def w_X12_tellLaw (h : hp) (x1 : Int32) (Q : hp → Prop) : Prop := w_X12_tellLaw_0 Q x1 h
def w_X12_termOf_58 (Q : Int32 → hp → Prop) (X5 : Int32 × Int32 × hp → Prop) (x2 : Int32) (x3 : Int32) (x4 : Int32) (h : hp) (s0 : Int32) (s1 : Int32) : Prop :=
  vp_in s1 400 ∧ ∀ h11, h11 = sI h 33 (ix s1) s0 → (∀ x3_12, x3_12 = x3 + 1 → (∀ x4_13, x4_13 = x4 + 1 → (X5 (x3_12, x4_13, h11))))
def w_X12_termOf_158 (Q : Int32 → hp → Prop) (X5 : Int32 × Int32 × hp → Prop) (x2 : Int32) (x3 : Int32) (x4 : Int32) (h : hp) (s0 : Int32) (s1 : Int32) : Prop :=
  vp_in s1 400 ∧ ∀ h17, h17 = sI h 33 (ix s1) s0 → (∀ x4_18, x4_18 = x4 + 1 → (X5 (x3, x4_18, h17)))
def w_X12_termOf_104 (Q : Int32 → hp → Prop) (X5 : Int32 × Int32 × hp → Prop) (x2 : Int32) (x3 : Int32) (x4 : Int32) (x5 : Int32) (x6 : Int32) (x7 : Int32) (h : hp) : Prop :=
  (¬ x5 = 2 → ((¬ x5 = 3 → ((¬ x5 = 4 → (¬ x7 = 0 ∧ (w_X12_termOf_158 Q X5 x2 x3 x4 h (x6 / x7) (x3 - 1)))) ∧ (x5 = 4 → (w_X12_termOf_158 Q X5 x2 x3 x4 h (x6 * x7) (x3 - 1))))) ∧ (x5 = 3 → (w_X12_termOf_158 Q X5 x2 x3 x4 h (x6 - x7) (x3 - 1))))) ∧ (x5 = 2 → (w_X12_termOf_158 Q X5 x2 x3 x4 h (x6 + x7) (x3 - 1)))
def w_X12_termOf_b5 (Q : Int32 → hp → Prop) (x2 : Int32) (X5 : Int32 × Int32 × hp → Prop) (x3 : Int32) (x4 : Int32) (h : hp) : Prop :=
  (x2 ≤ x4 → (vp_in 0 400 ∧ (Q (gI h 33 (ix 0)) h))) ∧ (¬ (x2 ≤ x4) → (vp_in x4 840 ∧ (∀ x5_2, x5_2 = gI h 29 (ix x4) → ((2 ≤ x5_2 → (∀ x3_4, x3_4 = x3 + (-1) → (vp_in (x3_4 - 1) 400 ∧ (∀ x6_5, x6_5 = gI h 33 (ix (x3_4 - 1)) → (vp_in x3_4 400 ∧ (∀ x7_6, x7_6 = gI h 33 (ix x3_4) → ((¬ x5_2 = 5 → (w_X12_termOf_104 Q X5 x2 x3_4 x4 x5_2 x6_5 x7_6 h)) ∧ (x5_2 = 5 → ((¬ x7_6 = 0 → (w_X12_termOf_104 Q X5 x2 x3_4 x4 x5_2 x6_5 x7_6 h)) ∧ (x7_6 = 0 → (∀ h9, h9 = sI h 0 50 1 → (Q 0 h9)))))))))))) ∧ (¬ (2 ≤ x5_2) → ((¬ x5_2 = 0 → (vp_in x4 840 ∧ (vp_in (gI h 30 (ix x4)) 6 ∧ (w_X12_termOf_58 Q X5 x2 x3 x4 h (gI h 32 (ix (gI h 30 (ix x4)))) x3)))) ∧ (x5_2 = 0 → (vp_in x4 840 ∧ (w_X12_termOf_58 Q X5 x2 x3 x4 h (gI h 30 (ix x4)) x3)))))))))
def w_X12_termOf_5 (Q : Int32 → hp → Prop) (x2 : Int32) (x3 : Int32) (x4 : Int32) (h : hp) : Prop :=
  wLoop (fun X5 (q : Int32 × Int32 × hp) => w_X12_termOf_b5 Q x2 X5 q.1 q.2.1 q.2.2) (x3, x4, h)
def w_X12_termOf_0 (Q : Int32 → hp → Prop) (x1 : Int32) (x2 : Int32) (h : hp) : Prop :=
  w_X12_termOf_5 Q x2 0 x1 h
/-- TwoAsksModel.termOf(II)I -/
def w_X12_termOf (h : hp) (x1 : Int32) (x2 : Int32) (Q : Int32 → hp → Prop) : Prop := w_X12_termOf_0 Q x1 x2 h
def w_X12_tellsBy_84 (Q : Int32 → hp → Prop) (x2 : Int32) (h : hp) : Prop :=
  vp_in x2 260 ∧ (vp_in x2 260 ∧ (w_X12_termOf h (gI h 27 (ix x2)) (gI h 28 (ix x2)) (fun r13 h12 => ((gI h12 0 50) = 0 → (((-99) ≤ r13 → ((r13 ≤ 99 → (Q r13 h12)) ∧ (¬ (r13 ≤ 99) → (Q 99 h12)))) ∧ (¬ ((-99) ≤ r13) → (Q (-99) h12)))) ∧ (¬ ((gI h12 0 50) = 0) → (Q 0 h12)))))
def w_X12_tellsBy_b12 (Q : Int32 → hp → Prop) (x1 : Int32) (X12 : Int32 × hp → Prop) (x2 : Int32) (h : hp) : Prop :=
  vp_in x1 4 ∧ (((gI h 23 (ix x1)) ≤ x2 → (Q 0 h)) ∧ (¬ ((gI h 23 (ix x1)) ≤ x2) → (vp_in x2 260 ∧ (((gI h 24 (ix x2)) = 0 → (w_X12_tellsBy_84 Q x2 h)) ∧ (¬ ((gI h 24 (ix x2)) = 0) → (vp_in x2 260 ∧ (vp_in x2 260 ∧ (w_X12_termOf h (gI h 25 (ix x2)) (gI h 26 (ix x2)) (fun r6 h5 => vp_in x2 260 ∧ (vp_in x2 260 ∧ (w_X12_termOf h5 (gI h5 26 (ix x2)) (gI h5 27 (ix x2)) (fun r8 h7 => ((gI h7 0 50) = 0 → ((r6 < r8 → (w_X12_tellsBy_84 Q x2 h7)) ∧ (¬ (r6 < r8) → (∀ x2_11, x2_11 = x2 + 1 → (X12 (x2_11, h7)))))) ∧ (¬ ((gI h7 0 50) = 0) → (Q 0 h7))))))))))))))
def w_X12_tellsBy_12 (Q : Int32 → hp → Prop) (x1 : Int32) (x2 : Int32) (h : hp) : Prop :=
  wLoop (fun X12 (q : Int32 × hp) => w_X12_tellsBy_b12 Q x1 X12 q.1 q.2) (x2, h)
def w_X12_tellsBy_0 (Q : Int32 → hp → Prop) (x1 : Int32) (h : hp) : Prop :=
  ∀ h1, h1 = sI h 0 50 0 → (vp_in x1 4 ∧ (∀ x2_2, x2_2 = gI h1 22 (ix x1) → (w_X12_tellsBy_12 Q x1 x2_2 h1)))
/-- TwoAsksModel.tellsBy(I)I -/
def w_X12_tellsBy (h : hp) (x1 : Int32) (Q : Int32 → hp → Prop) : Prop := w_X12_tellsBy_0 Q x1 h
def w_X12_notes_0 (Q : hp → Prop) (x1 : Int32) (h : hp) : Prop :=
  vp_in x1 403 ∧ (vp_in (gI h 0 20) 6 ∧ ∀ h1, h1 = sL h 8 (ix (gI h 0 20)) (gL h 6 (ix x1)) → (∀ h2, h2 = sI h1 0 20 ((gI h1 0 20) + 1) → (vp_in (gI h2 0 19) 2 ∧ (vp_in (gI h2 0 19) 2 ∧ ∀ h3, h3 = sI h2 9 (ix (gI h2 0 19)) ((gI h2 9 (ix (gI h2 0 19))) + 1) → (Q h3)))))
/-- TwoAsksModel.notes(I)V -/
def w_X12_notes (h : hp) (x1 : Int32) (Q : hp → Prop) : Prop := w_X12_notes_0 Q x1 h
def w_X12_tellRow_141 (Q : hp → Prop) (X91 : Int32 × hp → Prop) (x1 : Int32) (x2 : Int32) (x3 : Int32) (x4 : Int32) (h : hp) (s0 : Int32) (s1 : Int32) : Prop :=
  vp_in s1 6 ∧ ∀ h18, h18 = sI h 32 (ix s1) s0 → (vp_in 2 6 ∧ ∀ h19, h19 = sI h18 32 (ix 2) x3 → (w_X12_tellsBy h19 ((2 * (gI h19 0 19)) + 1) (fun r21 h20 => vp_in (((36 * (gI h19 0 19)) + (6 * x1)) + x4) 72 ∧ ∀ h22, h22 = sI h20 11 (ix (((36 * (gI h19 0 19)) + (6 * x1)) + x4)) r21 → (∀ x4_23, x4_23 = x4 + 1 → (X91 (x4_23, h22))))))
def w_X12_tellRow_b91 (Q : hp → Prop) (x1 : Int32) (x2 : Int32) (x3 : Int32) (X91 : Int32 × hp → Prop) (x4 : Int32) (h : hp) : Prop :=
  (x3 ≤ x4 → (w_X12_notes h x2 (fun h15 => Q h15))) ∧ (¬ (x3 ≤ x4) → (vp_in 0 6 ∧ ∀ h16, h16 = sI h 32 (ix 0) x4 → ((¬ x4 = 0 → (vp_in ((((36 * (gI h16 0 19)) + (6 * x1)) + x4) - 1) 72 ∧ (w_X12_tellRow_141 Q X91 x1 x2 x3 x4 h16 (gI h16 11 (ix ((((36 * (gI h16 0 19)) + (6 * x1)) + x4) - 1))) 1))) ∧ (x4 = 0 → (w_X12_tellRow_141 Q X91 x1 x2 x3 x4 h16 0 1)))))
def w_X12_tellRow_91 (Q : hp → Prop) (x1 : Int32) (x2 : Int32) (x3 : Int32) (x4 : Int32) (h : hp) : Prop :=
  wLoop (fun X91 (q : Int32 × hp) => w_X12_tellRow_b91 Q x1 x2 x3 X91 q.1 q.2) (x4, h)
def w_X12_tellRow_b67 (Q : hp → Prop) (x1 : Int32) (x2 : Int32) (x3 : Int32) (X67 : Int32 × hp → Prop) (x4 : Int32) (h : hp) : Prop :=
  (6 ≤ x4 → (w_X12_tellRow_91 Q x1 x2 x3 0 h)) ∧ (¬ (6 ≤ x4) → (vp_in x4 6 ∧ ∀ h12, h12 = sI h 32 (ix x4) 0 → (∀ x4_13, x4_13 = x4 + 1 → (X67 (x4_13, h12)))))
def w_X12_tellRow_67 (Q : hp → Prop) (x1 : Int32) (x2 : Int32) (x3 : Int32) (x4 : Int32) (h : hp) : Prop :=
  wLoop (fun X67 (q : Int32 × hp) => w_X12_tellRow_b67 Q x1 x2 x3 X67 q.1 q.2) (x4, h)
def w_X12_tellRow_49 (Q : hp → Prop) (x1 : Int32) (x2 : Int32) (x3 : Int32) (h : hp) : Prop :=
  vp_in ((6 * (gI h 0 19)) + x1) 12 ∧ ∀ h10, h10 = sI h 10 (ix ((6 * (gI h 0 19)) + x1)) x3 → (w_X12_tellRow_67 Q x1 x2 x3 0 h10)
def w_X12_tellRow_0 (Q : hp → Prop) (h : hp) : Prop :=
  vp_in (gI h 0 19) 2 ∧ (∀ x1_1, x1_1 = gI h 9 (ix (gI h 0 19)) → (w_X12_named h (fun r3 h2 => w_X12_bounded h2 1 6 (fun r5 h4 => w_X12_tellLaw h4 1 (fun h6 => ((gI h6 0 13) ≤ 0 → ((r5 < 1 → (w_X12_tellRow_49 Q x1_1 r3 0 h6)) ∧ (¬ (r5 < 1) → ((r5 ≤ 6 → (w_X12_tellRow_49 Q x1_1 r3 r5 h6)) ∧ (¬ (r5 ≤ 6) → (w_X12_tellRow_49 Q x1_1 r3 0 h6)))))) ∧ (¬ ((gI h6 0 13) ≤ 0) → (Q h6)))))))
/-- TwoAsksModel.tellRow()V -/
def w_X12_tellRow (h : hp) (Q : hp → Prop) : Prop := w_X12_tellRow_0 Q h
def w_X12_tellList_133 (Q : hp → Prop) (X17 : Int32 × hp → Prop) (x1 : Int32) (x2 : Int32) (x3 : Int32) (h : hp) (s0 : Int32) (s1 : Int32) : Prop :=
  vp_in s1 72 ∧ ∀ h25, h25 = sI h 11 (ix s1) s0 → (∀ x3_26, x3_26 = x3 + 1 → (X17 (x3_26, h25)))
def w_X12_tellList_77 (Q : hp → Prop) (X17 : Int32 × hp → Prop) (x1 : Int32) (x2 : Int32) (x3 : Int32) (x4 : Int32) (h : hp) : Prop :=
  ((gI h 0 13) ≤ 0 → (w_X12_bounded h 0 99 (fun r22 h21 => ((gI h21 0 13) ≤ 0 → ((x4 = 0 → (w_X12_tellList_133 Q X17 x1 x2 x3 h21 r22 (((36 * (gI h21 0 19)) + (6 * x1)) + x3))) ∧ (¬ (x4 = 0) → (w_X12_tellList_133 Q X17 x1 x2 x3 h21 (-r22) (((36 * (gI h21 0 19)) + (6 * x1)) + x3))))) ∧ (¬ ((gI h21 0 13) ≤ 0) → (Q h21))))) ∧ (¬ ((gI h 0 13) ≤ 0) → (Q h))
def w_X12_tellList_58 (Q : hp → Prop) (X17 : Int32 × hp → Prop) (x1 : Int32) (x2 : Int32) (x3 : Int32) (x4 : Int32) (h : hp) : Prop :=
  w_X12_is h 2 (fun r15 => (r15 = 0 → (w_X12_tellList_77 Q X17 x1 x2 x3 x4 h)) ∧ (¬ (r15 = 0) → ((¬ x3 = 6 → (w_X12_tellList_77 Q X17 x1 x2 x3 x4 h)) ∧ (x3 = 6 → (w_X12_fail h 2 (fun h19 => w_X12_tellList_77 Q X17 x1 x2 x3 x4 h19))))))
def w_X12_tellList_41 (Q : hp → Prop) (X17 : Int32 × hp → Prop) (x1 : Int32) (x2 : Int32) (x3 : Int32) (h : hp) : Prop :=
  w_X12_is h 9 (fun r11 => (r11 = 0 → (w_X12_tellList_58 Q X17 x1 x2 x3 r11 h)) ∧ (¬ (r11 = 0) → (w_X12_goesOn h (fun h14 => w_X12_tellList_58 Q X17 x1 x2 x3 r11 h14))))
def w_X12_tellList_140 (Q : hp → Prop) (x1 : Int32) (x2 : Int32) (x3 : Int32) (h : hp) : Prop :=
  w_X12_must h 4 (fun h27 => ((gI h27 0 13) ≤ 0 → (vp_in ((6 * (gI h27 0 19)) + x1) 12 ∧ ∀ h29, h29 = sI h27 10 (ix ((6 * (gI h27 0 19)) + x1)) x3 → (w_X12_notes h29 x2 (fun h30 => Q h30)))) ∧ (¬ ((gI h27 0 13) ≤ 0) → (Q h27)))
def w_X12_tellList_b17 (Q : hp → Prop) (x1 : Int32) (x2 : Int32) (X17 : Int32 × hp → Prop) (x3 : Int32) (h : hp) : Prop :=
  (¬ (gI h 0 13) = 0 → (w_X12_tellList_140 Q x1 x2 x3 h)) ∧ ((gI h 0 13) = 0 → (w_X12_is h 2 (fun r5 => (¬ r5 = 0 → (w_X12_tellList_41 Q X17 x1 x2 x3 h)) ∧ (r5 = 0 → (w_X12_is h 9 (fun r8 => (r8 = 0 → (w_X12_tellList_140 Q x1 x2 x3 h)) ∧ (¬ (r8 = 0) → (w_X12_tellList_41 Q X17 x1 x2 x3 h))))))))
def w_X12_tellList_17 (Q : hp → Prop) (x1 : Int32) (x2 : Int32) (x3 : Int32) (h : hp) : Prop :=
  wLoop (fun X17 (q : Int32 × hp) => w_X12_tellList_b17 Q x1 x2 X17 q.1 q.2) (x3, h)
def w_X12_tellList_0 (Q : hp → Prop) (h : hp) : Prop :=
  vp_in (gI h 0 19) 2 ∧ (∀ x1_1, x1_1 = gI h 9 (ix (gI h 0 19)) → (w_X12_named h (fun r3 h2 => w_X12_tellList_17 Q x1_1 r3 0 h2)))
/-- TwoAsksModel.tellList()V -/
def w_X12_tellList (h : hp) (Q : hp → Prop) : Prop := w_X12_tellList_0 Q h
def w_X12_tellPrime_b38 (Q : hp → Prop) (x1 : Int32) (x2 : Int32) (X38 : Int32 × hp → Prop) (x3 : Int32) (h : hp) : Prop :=
  (x2 ≤ x3 → (Q h)) ∧ (¬ (x2 ≤ x3) → ((98 ≤ x2 → (∀ x3_9, x3_9 = x3 + 1 → (X38 (x3_9, h)))) ∧ (¬ (98 ≤ x2) → (¬ x3 = 0 ∧ ((¬ (jrem x2 x3) = 0 → (∀ x3_11, x3_11 = x3 + 1 → (X38 (x3_11, h)))) ∧ ((jrem x2 x3) = 0 → (w_X12_amiss h 5 x1 (fun h12 => ∀ x3_13, x3_13 = x3 + 1 → (X38 (x3_13, h12))))))))))
def w_X12_tellPrime_38 (Q : hp → Prop) (x1 : Int32) (x2 : Int32) (x3 : Int32) (h : hp) : Prop :=
  wLoop (fun X38 (q : Int32 × hp) => w_X12_tellPrime_b38 Q x1 x2 X38 q.1 q.2) (x3, h)
def w_X12_tellPrime_0 (Q : hp → Prop) (h : hp) : Prop :=
  ∀ x1_1, x1_1 = gI h 0 11 → (w_X12_bounded h 2 97 (fun r3 h2 => w_X12_must h2 4 (fun h4 => ((gI h4 0 13) ≤ 0 → (vp_in (gI h4 0 19) 2 ∧ ∀ h6, h6 = sI h4 12 (ix (gI h4 0 19)) r3 → (w_X12_tellPrime_38 Q x1_1 r3 2 h6))) ∧ (¬ ((gI h4 0 13) ≤ 0) → (Q h4)))))
/-- TwoAsksModel.tellPrime()V -/
def w_X12_tellPrime (h : hp) (Q : hp → Prop) : Prop := w_X12_tellPrime_0 Q h
def w_X12_tellShare_86 (Q : hp → Prop) (x1 : Int32) (x2 : Int32) (x3 : Int32) (h : hp) : Prop :=
  vp_in x1 16 ∧ ∀ h11, h11 = sI h 14 (ix x1) x3 → (vp_in x1 16 ∧ ∀ h12, h12 = sI h11 16 (ix x1) x2 → (w_X12_bounded h12 0 96 (fun r14 h13 => vp_in x1 16 ∧ ∀ h15, h15 = sI h13 15 (ix x1) r14 → (w_X12_must h15 4 (fun h16 => (¬ (gI h16 0 13) = 0 → (Q h16)) ∧ ((gI h16 0 13) = 0 → (vp_in (gI h16 0 19) 2 ∧ (vp_in (gI h16 0 19) 2 ∧ ∀ h18, h18 = sI h16 13 (ix (gI h16 0 19)) ((gI h16 13 (ix (gI h16 0 19))) + 1) → (Q h18)))))))))
def w_X12_tellShare_b34 (Q : hp → Prop) (x1 : Int32) (x2 : Int32) (x3 : Int32) (X34 : Int32 × hp → Prop) (x4 : Int32) (h : hp) : Prop :=
  vp_in (gI h 0 19) 2 ∧ (((gI h 13 (ix (gI h 0 19))) ≤ x4 → (w_X12_tellShare_86 Q x1 x2 x3 h)) ∧ (¬ ((gI h 13 (ix (gI h 0 19))) ≤ x4) → ((¬ (gI h 0 13) = 0 → (w_X12_tellShare_86 Q x1 x2 x3 h)) ∧ ((gI h 0 13) = 0 → (vp_in ((8 * (gI h 0 19)) + x4) 16 ∧ ((¬ (gI h 14 (ix ((8 * (gI h 0 19)) + x4))) = x3 → (∀ x4_8, x4_8 = x4 + 1 → (X34 (x4_8, h)))) ∧ ((gI h 14 (ix ((8 * (gI h 0 19)) + x4))) = x3 → (w_X12_amiss h 5 x2 (fun h9 => ∀ x4_10, x4_10 = x4 + 1 → (X34 (x4_10, h9)))))))))))
def w_X12_tellShare_34 (Q : hp → Prop) (x1 : Int32) (x2 : Int32) (x3 : Int32) (x4 : Int32) (h : hp) : Prop :=
  wLoop (fun X34 (q : Int32 × hp) => w_X12_tellShare_b34 Q x1 x2 x3 X34 q.1 q.2) (x4, h)
def w_X12_tellShare_0 (Q : hp → Prop) (h : hp) : Prop :=
  vp_in (gI h 0 19) 2 ∧ (∀ x1_1, x1_1 = (8 * (gI h 0 19)) + (gI h 13 (ix (gI h 0 19))) → (∀ x2_2, x2_2 = gI h 0 11 → (w_X12_bounded h 1 96 (fun r4 h3 => w_X12_tellShare_34 Q x1_1 x2_2 r4 0 h3))))
/-- TwoAsksModel.tellShare()V -/
def w_X12_tellShare (h : hp) (Q : hp → Prop) : Prop := w_X12_tellShare_0 Q h
def w_X12_tell_0 (Q : hp → Prop) (h : hp) : Prop :=
  vp_in (gI h 0 11) 403 ∧ (∀ sw1, sw1 = gI h 3 (ix (gI h 0 11)) → ((sw1 = 20 → (vp_in (gI h 0 19) 2 ∧ (w_X12_roomFor h (gI h 9 (ix (gI h 0 19))) 6 (fun h3 => (¬ (gI h3 0 13) = 0 → (Q h3)) ∧ ((gI h3 0 13) = 0 → (w_X12_tellRow h3 (fun h5 => Q h5))))))) ∧ (sw1 = 21 → (vp_in (gI h 0 19) 2 ∧ (w_X12_roomFor h (gI h 9 (ix (gI h 0 19))) 6 (fun h7 => (¬ (gI h7 0 13) = 0 → (Q h7)) ∧ ((gI h7 0 13) = 0 → (w_X12_tellList h7 (fun h9 => Q h9))))))) ∧ (sw1 = 22 → (w_X12_goesOn h (fun h11 => w_X12_tellLaw h11 0 (fun h12 => Q h12)))) ∧ (sw1 = 23 → (w_X12_goesOn h (fun h14 => w_X12_tellPrime h14 (fun h15 => Q h15)))) ∧ (sw1 = 24 → (vp_in (gI h 0 19) 2 ∧ (w_X12_roomFor h (gI h 13 (ix (gI h 0 19))) 8 (fun h17 => (¬ (gI h17 0 13) = 0 → (Q h17)) ∧ ((gI h17 0 13) = 0 → (w_X12_tellShare h17 (fun h19 => Q h19))))))) ∧ (sw1 = 25 → (vp_in (gI h 0 19) 2 ∧ (w_X12_roomFor h (gI h 17 (ix (gI h 0 19))) 9 (fun h21 => ((gI h21 0 13) ≤ 0 → (vp_in (gI h21 0 19) 2 ∧ (w_X12_bounded h21 0 999 (fun r24 h23 => vp_in ((9 * (gI h21 0 19)) + (gI h21 17 (ix (gI h21 0 19)))) 18 ∧ ∀ h25, h25 = sI h23 18 (ix ((9 * (gI h21 0 19)) + (gI h21 17 (ix (gI h21 0 19))))) r24 → (w_X12_must h25 4 (fun h26 => vp_in (gI h26 0 19) 2 ∧ (vp_in (gI h26 0 19) 2 ∧ ∀ h27, h27 = sI h26 17 (ix (gI h26 0 19)) ((gI h26 17 (ix (gI h26 0 19))) + 1) → (Q h27)))))))) ∧ (¬ ((gI h21 0 13) ≤ 0) → (Q h21)))))) ∧ (sw1 = 26 → (w_X12_goesOn h (fun h29 => w_X12_bounded h29 1 4 (fun r31 h30 => vp_in (gI h29 0 19) 2 ∧ ∀ h32, h32 = sI h30 19 (ix (gI h29 0 19)) r31 → (w_X12_bounded h32 1 9 (fun r34 h33 => vp_in (gI h32 0 19) 2 ∧ ∀ h35, h35 = sI h33 20 (ix (gI h32 0 19)) r34 → (w_X12_must h35 4 (fun h36 => Q h36)))))))) ∧ (sw1 = 27 → (w_X12_goesOn h (fun h38 => w_X12_bounded h38 0 9 (fun r40 h39 => vp_in (gI h38 0 19) 2 ∧ ∀ h41, h41 = sI h39 21 (ix (gI h38 0 19)) r40 → (w_X12_must h41 4 (fun h42 => Q h42)))))) ∧ (sw1.toInt < 20 ∨ 27 < sw1.toInt → (w_X12_fail h 1 (fun h44 => Q h44)))))
/-- TwoAsksModel.tell()V -/
def w_X12_tell (h : hp) (Q : hp → Prop) : Prop := w_X12_tell_0 Q h
def w_X12_read_b297 (Q : Int32 → hp → Prop) (X297 : Int32 × hp → Prop) (x1 : Int32) (h : hp) : Prop :=
  (3 ≤ x1 → (Q 0 h)) ∧ (¬ (3 ≤ x1) → (vp_in x1 3 ∧ ∀ h38, h38 = sI h 45 (ix x1) (jz 0) → (∀ x1_39, x1_39 = x1 + 1 → (X297 (x1_39, h38)))))
def w_X12_read_297 (Q : Int32 → hp → Prop) (x1 : Int32) (h : hp) : Prop :=
  wLoop (fun X297 (q : Int32 × hp) => w_X12_read_b297 Q X297 q.1 q.2) (x1, h)
def w_X12_read_245 (Q : Int32 → hp → Prop) (h : hp) (s0 : Int32) : Prop :=
  ∀ h30, h30 = sI h 0 17 s0 → (((gI h30 0 13) ≤ 0 → (((gI h30 0 15) ≤ 0 → (∀ h33, h33 = sI h30 0 18 (gI h30 0 19) → (∀ h34, h34 = sI h33 0 57 0 → (∀ h35, h35 = sI h34 0 61 (-1) → (∀ h36, h36 = sI h35 0 62 0 → (w_X12_read_297 Q 0 h36)))))) ∧ (¬ ((gI h30 0 15) ≤ 0) → (Q (gI h30 0 15) h30)))) ∧ (¬ ((gI h30 0 13) ≤ 0) → (Q (gI h30 0 13) h30)))
def w_X12_read_215 (Q : Int32 → hp → Prop) (h : hp) : Prop :=
  ((gI h 0 13) ≤ 0 → (((gI h 0 15) ≤ 0 → (w_X12_read_245 Q h (-1))) ∧ (¬ ((gI h 0 15) ≤ 0) → (w_X12_read_245 Q h (gI h 0 16))))) ∧ (¬ ((gI h 0 13) ≤ 0) → (w_X12_read_245 Q h (gI h 0 14)))
def w_X12_read_b136 (Q : Int32 → hp → Prop) (X136 : Int32 × hp → Prop) (x1 : Int32) (h : hp) : Prop :=
  vp_in (gI h 0 19) 2 ∧ (((gI h 13 (ix (gI h 0 19))) ≤ x1 → (w_X12_read_215 Q h)) ∧ (¬ ((gI h 13 (ix (gI h 0 19))) ≤ x1) → ((¬ (gI h 0 13) = 0 → (w_X12_read_215 Q h)) ∧ ((gI h 0 13) = 0 → ((¬ (gI h 0 15) = 0 → (w_X12_read_215 Q h)) ∧ ((gI h 0 15) = 0 → (vp_in ((8 * (gI h 0 19)) + x1) 16 ∧ (vp_in (gI h 0 19) 2 ∧ (((gI h 14 (ix ((8 * (gI h 0 19)) + x1))) < (gI h 12 (ix (gI h 0 19))) → (∀ x1_25, x1_25 = x1 + 1 → (X136 (x1_25, h)))) ∧ (¬ ((gI h 14 (ix ((8 * (gI h 0 19)) + x1))) < (gI h 12 (ix (gI h 0 19)))) → (vp_in ((8 * (gI h 0 19)) + x1) 16 ∧ (w_X12_amiss h 6 (gI h 16 (ix ((8 * (gI h 0 19)) + x1))) (fun h26 => ∀ x1_27, x1_27 = x1 + 1 → (X136 (x1_27, h26)))))))))))))))
def w_X12_read_136 (Q : Int32 → hp → Prop) (x1 : Int32) (h : hp) : Prop :=
  wLoop (fun X136 (q : Int32 × hp) => w_X12_read_b136 Q X136 q.1 q.2) (x1, h)
def w_X12_read_b112 (Q : Int32 → hp → Prop) (X112 : hp → Prop) (h : hp) : Prop :=
  (¬ (gI h 0 13) = 0 → (w_X12_read_136 Q 0 h)) ∧ ((gI h 0 13) = 0 → (w_X12_is h 0 (fun r17 => (¬ r17 = 0 → (w_X12_read_136 Q 0 h)) ∧ (r17 = 0 → (w_X12_tell h (fun h20 => X112 h20))))))
def w_X12_read_112 (Q : Int32 → hp → Prop) (h : hp) : Prop :=
  wLoop (fun X112 (q : hp) => w_X12_read_b112 Q X112 q) h
def w_X12_read_b10 (Q : Int32 → hp → Prop) (X10 : Int32 × hp → Prop) (x1 : Int32) (h : hp) : Prop :=
  ((gI h 0 4) ≤ x1 → (∀ h3, h3 = sI h 0 2 0 → (w_X12_cut h3 (fun h4 => ∀ h5, h5 = sI h4 0 11 0 → (∀ h6, h6 = sI h5 0 12 0 → (∀ h7, h7 = sI h6 0 13 0 → (∀ h8, h8 = sI h7 0 15 0 → (∀ h9, h9 = sI h8 0 19 (1 - (gI h8 0 18)) → (∀ h10, h10 = sI h9 0 20 0 → (w_X12_plain h10 (gI h10 0 19) (fun h11 => ∀ h12, h12 = sI h11 0 37 (130 * (gI h11 0 19)) → (∀ h13, h13 = sI h12 0 43 (420 * (gI h12 0 19)) → (w_X12_read_112 Q h13))))))))))))) ∧ (¬ ((gI h 0 4) ≤ x1) → (vp_in x1 2000 ∧ (vp_in x1 2000 ∧ ∀ h14, h14 = sI h 2 (ix x1) (jb (gI h 1 (ix x1))) → (∀ x1_15, x1_15 = x1 + 1 → (X10 (x1_15, h14))))))
def w_X12_read_10 (Q : Int32 → hp → Prop) (x1 : Int32) (h : hp) : Prop :=
  wLoop (fun X10 (q : Int32 × hp) => w_X12_read_b10 Q X10 q.1 q.2) (x1, h)
def w_X12_read_0 (Q : Int32 → hp → Prop) (h : hp) : Prop :=
  ∀ h1, h1 = sI h 0 4 (gI h 0 2) → (w_X12_read_10 Q 0 h1)
/-- TwoAsksModel.read()I -/
def w_X12_read (h : hp) (Q : Int32 → hp → Prop) : Prop := w_X12_read_0 Q h
def w_X12_place_0 (Q : Int32 → Prop) (h : hp) : Prop :=
  Q (gI h 0 17)
/-- TwoAsksModel.place()I -/
def w_X12_place (h : hp) (Q : Int32 → Prop) : Prop := w_X12_place_0 Q h
def w_X12_in_0 (Q : Int32 → Prop) (x0 : Int64) (x2 : Int64) (x4 : Int64) : Prop :=
  (x0 < x2 → (Q 0)) ∧ (¬ (x0 < x2) → ((x4 < x0 → (Q 0)) ∧ (¬ (x4 < x0) → (Q 1))))
/-- TwoAsksModel.in(JJJ)Z -/
def w_X12_in (x0 : Int64) (x2 : Int64) (x4 : Int64) (Q : Int32 → Prop) : Prop := w_X12_in_0 Q x0 x2 x4
def w_X12_isRow_0 (Q : Int32 → Prop) (x1 : Int32) (h : hp) : Prop :=
  vp_in (gI h 0 18) 2 ∧ (w_X12_in (x1.toInt64) 0 (((gI h 9 (ix (gI h 0 18))) - 1).toInt64) (fun r1 => isZ r1 ∧ (Q r1)))
/-- TwoAsksModel.isRow(I)Z -/
def w_X12_isRow (h : hp) (x1 : Int32) (Q : Int32 → Prop) : Prop := w_X12_isRow_0 Q x1 h
def w_X12_longAt_0 (Q : Int32 → Prop) (x1 : Int32) (h : hp) : Prop :=
  vp_in ((6 * (gI h 0 18)) + x1) 12 ∧ (Q (gI h 10 (ix ((6 * (gI h 0 18)) + x1))))
/-- TwoAsksModel.longAt(I)I -/
def w_X12_longAt (h : hp) (x1 : Int32) (Q : Int32 → Prop) : Prop := w_X12_longAt_0 Q x1 h
def w_X12_at_0 (Q : Int32 → Prop) (x1 : Int32) (x2 : Int32) (h : hp) : Prop :=
  vp_in (((36 * (gI h 0 18)) + (6 * x1)) + x2) 72 ∧ (Q (gI h 11 (ix (((36 * (gI h 0 18)) + (6 * x1)) + x2))))
/-- TwoAsksModel.at(II)I -/
def w_X12_at (h : hp) (x1 : Int32) (x2 : Int32) (Q : Int32 → Prop) : Prop := w_X12_at_0 Q x1 x2 h
def w_X12_row_0 (Q : Int32 → Prop) (x1 : Int32) (x2 : Int32) (h : hp) : Prop :=
  w_X12_isRow h x1 (fun r1 => (¬ r1 = 0 → ((¬ x2 = (-1) → (w_X12_longAt h x1 (fun r5 => w_X12_in (x2.toInt64) 0 ((r5 - 1).toInt64) (fun r7 => (r7 = 0 → (Q (-1000))) ∧ (¬ (r7 = 0) → (w_X12_at h x1 x2 (fun r10 => Q r10))))))) ∧ (x2 = (-1) → (w_X12_longAt h x1 (fun r12 => Q r12))))) ∧ (r1 = 0 → (Q (-1000))))
/-- TwoAsksModel.row(II)I -/
def w_X12_row (h : hp) (x1 : Int32) (x2 : Int32) (Q : Int32 → Prop) : Prop := w_X12_row_0 Q x1 x2 h
def w_X12_comesBy_b12 (Q : Int64 → Prop) (x1 : Int32) (x2 : Int64) (h : hp) (X12 : Int64 × Int32 → Prop) (x4 : Int64) (x6 : Int32) : Prop :=
  (x6 < 0 → (Q x4)) ∧ (¬ (x6 < 0) → (w_X12_at h x1 x6 (fun r5 => ∀ x4_7, x4_7 = (x4 * x2) + (r5.toInt64) → (∀ x6_8, x6_8 = x6 + (-1) → (X12 (x4_7, x6_8))))))
def w_X12_comesBy_12 (Q : Int64 → Prop) (x1 : Int32) (x2 : Int64) (h : hp) (x4 : Int64) (x6 : Int32) : Prop :=
  wLoop (fun X12 (q : Int64 × Int32) => w_X12_comesBy_b12 Q x1 x2 h X12 q.1 q.2) (x4, x6)
def w_X12_comesBy_0 (Q : Int64 → Prop) (x1 : Int32) (x2 : Int64) (h : hp) : Prop :=
  w_X12_longAt h x1 (fun r1 => ∀ x6_3, x6_3 = r1 - 1 → (w_X12_comesBy_12 Q x1 x2 h 0 x6_3))
/-- TwoAsksModel.comesBy(IJ)J -/
def w_X12_comesBy (h : hp) (x1 : Int32) (x2 : Int64) (Q : Int64 → Prop) : Prop := w_X12_comesBy_0 Q x1 x2 h
def w_X12_comes_0 (Q : Int64 → Prop) (x1 : Int32) (x2 : Int32) (h : hp) : Prop :=
  w_X12_isRow h x1 (fun r1 => (r1 = 0 → (Q (-2000000000000000000))) ∧ (¬ (r1 = 0) → (w_X12_in (x2.toInt64) (-999) 999 (fun r4 => (r4 = 0 → (Q (-2000000000000000000))) ∧ (¬ (r4 = 0) → (w_X12_comesBy h x1 (x2.toInt64) (fun r7 => Q r7)))))))
/-- TwoAsksModel.comes(II)J -/
def w_X12_comes (h : hp) (x1 : Int32) (x2 : Int32) (Q : Int64 → Prop) : Prop := w_X12_comes_0 Q x1 x2 h
def w_X12_isBelow_b2 (Q : Int32 → Prop) (x1 : Int32) (h : hp) (X2 : Int32 → Prop) (x2 : Int32) : Prop :=
  w_X12_longAt h x1 (fun r1 => (r1 ≤ x2 → (Q 0)) ∧ (¬ (r1 ≤ x2) → (w_X12_at h x1 x2 (fun r4 => (0 ≤ r4 → (∀ x2_7, x2_7 = x2 + 1 → (X2 x2_7))) ∧ (¬ (0 ≤ r4) → (Q 1))))))
def w_X12_isBelow_2 (Q : Int32 → Prop) (x1 : Int32) (h : hp) (x2 : Int32) : Prop :=
  wLoop (fun X2 (q : Int32) => w_X12_isBelow_b2 Q x1 h X2 q) x2
def w_X12_isBelow_0 (Q : Int32 → Prop) (x1 : Int32) (h : hp) : Prop :=
  w_X12_isBelow_2 Q x1 h 0
/-- TwoAsksModel.isBelow(I)Z -/
def w_X12_isBelow (h : hp) (x1 : Int32) (Q : Int32 → Prop) : Prop := w_X12_isBelow_0 Q x1 h
def w_X12_figures_b18 (Q : Int32 → Prop) (X18 : Int32 × Int64 → Prop) (x2 : Int32) (x3 : Int64) : Prop :=
  (x3 = 0 → (Q x2)) ∧ (¬ (x3 = 0) → (∀ x2_4, x2_4 = x2 + 1 → (∀ x3_5, x3_5 = x3 / 10 → (X18 (x2_4, x3_5)))))
def w_X12_figures_18 (Q : Int32 → Prop) (x2 : Int32) (x3 : Int64) : Prop :=
  wLoop (fun X18 (q : Int32 × Int64) => w_X12_figures_b18 Q X18 q.1 q.2) (x2, x3)
def w_X12_figures_11 (Q : Int32 → Prop) (x0 : Int64) (s0 : Int32) : Prop :=
  ∀ x3_2, x3_2 = x0 / 10 → (w_X12_figures_18 Q s0 x3_2)
def w_X12_figures_0 (Q : Int32 → Prop) (x0 : Int64) : Prop :=
  (0 ≤ x0 → (w_X12_figures_11 Q x0 1)) ∧ (¬ (0 ≤ x0) → (w_X12_figures_11 Q x0 2))
/-- TwoAsksModel.figures(J)I -/
def w_X12_figures (x0 : Int64) (Q : Int32 → Prop) : Prop := w_X12_figures_0 Q x0
def w_X12_two_0 (Q : Int64 → Prop) (x1 : Int32) (x2 : Int32) (h : hp) : Prop :=
  w_X12_isRow h x1 (fun r1 => (r1 = 0 → (Q (-1))) ∧ (¬ (r1 = 0) → (w_X12_in (x2.toInt64) 0 3 (fun r4 => (¬ r4 = 0 → (w_X12_isBelow h x1 (fun r7 => (r7 = 0 → (w_X12_comesBy h x1 1 (fun r10 => ∀ sw12, sw12 = x2 → ((sw12 = 0 → (Q r10)) ∧ (sw12 = 1 → (Q (r10 + 1))) ∧ (sw12 = 2 → (w_X12_comesBy h x1 (r10 + 1) (fun r16 => Q r16))) ∧ (sw12.toInt < 0 ∨ 2 < sw12.toInt → (w_X12_figures (r10 + 1) (fun r19 => Q (1 + (r19.toInt64))))))))) ∧ (¬ (r7 = 0) → (Q (-2)))))) ∧ (r4 = 0 → (Q (-1)))))))
/-- TwoAsksModel.two(II)J -/
def w_X12_two (h : hp) (x1 : Int32) (x2 : Int32) (Q : Int64 → Prop) : Prop := w_X12_two_0 Q x1 x2 h
def w_X12_figure_76 (Q : Int32 → Prop) (X49 : Int32 × Int32 × Int64 → Prop) (x3 : Int32) (x4 : Int32) (x5 : Int32) (x6 : Int32) (x7 : Int64) : Prop :=
  ¬ (x3.toInt64) = 0 ∧ (∀ x7_15, x7_15 = x7 / (x3.toInt64) → (∀ x5_16, x5_16 = x5 + 1 → ((¬ x5_16 = 6 → (X49 (x5_16, x6, x7_15))) ∧ (x5_16 = 6 → ((x7_15 ≤ 0 → (X49 (x5_16, x6, x7_15))) ∧ (¬ (x7_15 ≤ 0) → (Q (-2))))))))
def w_X12_figure_61 (Q : Int32 → Prop) (X49 : Int32 × Int32 × Int64 → Prop) (x3 : Int32) (x4 : Int32) (x5 : Int32) (x6 : Int32) (x7 : Int64) : Prop :=
  (¬ x5 = x4 → (w_X12_figure_76 Q X49 x3 x4 x5 x6 x7)) ∧ (x5 = x4 → (¬ (x3.toInt64) = 0 ∧ (∀ x6_14, x6_14 = (lrem x7 (x3.toInt64)).toInt32 → (w_X12_figure_76 Q X49 x3 x4 x5 x6_14 x7))))
def w_X12_figure_b49 (Q : Int32 → Prop) (x3 : Int32) (x4 : Int32) (X49 : Int32 × Int32 × Int64 → Prop) (x5 : Int32) (x6 : Int32) (x7 : Int64) : Prop :=
  (x5 = 0 → (w_X12_figure_61 Q X49 x3 x4 x5 x6 x7)) ∧ (¬ (x5 = 0) → ((x7 ≤ 0 → ((¬ x4 = 6 → (Q x6)) ∧ (x4 = 6 → (Q x5)))) ∧ (¬ (x7 ≤ 0) → (w_X12_figure_61 Q X49 x3 x4 x5 x6 x7))))
def w_X12_figure_49 (Q : Int32 → Prop) (x3 : Int32) (x4 : Int32) (x5 : Int32) (x6 : Int32) (x7 : Int64) : Prop :=
  wLoop (fun X49 (q : Int32 × Int32 × Int64) => w_X12_figure_b49 Q x3 x4 X49 q.1 q.2.1 q.2.2) (x5, x6, x7)
def w_X12_figure_0 (Q : Int32 → Prop) (x1 : Int64) (x3 : Int32) (x4 : Int32) : Prop :=
  w_X12_in x1 0 1000000000000000000 (fun r1 => (r1 = 0 → (Q (-1))) ∧ (¬ (r1 = 0) → (w_X12_in (x3.toInt64) 2 9999 (fun r4 => (r4 = 0 → (Q (-1))) ∧ (¬ (r4 = 0) → (w_X12_in (x4.toInt64) 0 6 (fun r7 => (¬ r7 = 0 → (w_X12_figure_49 Q x3 x4 0 0 x1)) ∧ (r7 = 0 → (Q (-1))))))))))
/-- TwoAsksModel.figure(JII)I -/
def w_X12_figure (x1 : Int64) (x3 : Int32) (x4 : Int32) (Q : Int32 → Prop) : Prop := w_X12_figure_0 Q x1 x3 x4
def w_X12_placeAt_0 (Q : Int32 → Prop) (x1 : Int32) (x2 : Int32) (h : hp) : Prop :=
  w_X12_longAt h x1 (fun r1 => (r1 ≤ x2 → (Q 0)) ∧ (¬ (r1 ≤ x2) → (w_X12_at h x1 x2 (fun r4 => Q r4))))
/-- TwoAsksModel.placeAt(II)I -/
def w_X12_placeAt (h : hp) (x1 : Int32) (x2 : Int32) (Q : Int32 → Prop) : Prop := w_X12_placeAt_0 Q x1 x2 h
def w_X12_areRows_0 (Q : Int32 → Prop) (x1 : Int32) (x2 : Int32) (x3 : Int32) (h : hp) : Prop :=
  w_X12_isRow h x1 (fun r1 => (r1 = 0 → (Q 0)) ∧ (¬ (r1 = 0) → (w_X12_isRow h x2 (fun r4 => (r4 = 0 → (Q 0)) ∧ (¬ (r4 = 0) → (w_X12_in (x3.toInt64) 0 10 (fun r7 => (r7 = 0 → (Q 0)) ∧ (¬ (r7 = 0) → (Q 1)))))))))
/-- TwoAsksModel.areRows(III)Z -/
def w_X12_areRows (h : hp) (x1 : Int32) (x2 : Int32) (x3 : Int32) (Q : Int32 → Prop) : Prop := w_X12_areRows_0 Q x1 x2 x3 h
def w_X12_plus_0 (Q : Int32 → Prop) (x1 : Int32) (x2 : Int32) (x3 : Int32) (h : hp) : Prop :=
  w_X12_areRows h x1 x2 x3 (fun r1 => (r1 = 0 → (Q (-100000))) ∧ (¬ (r1 = 0) → (w_X12_placeAt h x1 x3 (fun r4 => w_X12_placeAt h x2 x3 (fun r6 => Q (r4 + r6))))))
/-- TwoAsksModel.plus(III)I -/
def w_X12_plus (h : hp) (x1 : Int32) (x2 : Int32) (x3 : Int32) (Q : Int32 → Prop) : Prop := w_X12_plus_0 Q x1 x2 x3 h
def w_X12_times_b20 (Q : Int32 → Prop) (x1 : Int32) (x2 : Int32) (x3 : Int32) (h : hp) (X20 : Int32 × Int32 → Prop) (x4 : Int32) (x5 : Int32) : Prop :=
  (x3 < x5 → (Q x4)) ∧ (¬ (x3 < x5) → (w_X12_placeAt h x1 x5 (fun r5 => w_X12_placeAt h x2 (x3 - x5) (fun r7 => ∀ x4_9, x4_9 = x4 + (r5 * r7) → (∀ x5_10, x5_10 = x5 + 1 → (X20 (x4_9, x5_10)))))))
def w_X12_times_20 (Q : Int32 → Prop) (x1 : Int32) (x2 : Int32) (x3 : Int32) (h : hp) (x4 : Int32) (x5 : Int32) : Prop :=
  wLoop (fun X20 (q : Int32 × Int32) => w_X12_times_b20 Q x1 x2 x3 h X20 q.1 q.2) (x4, x5)
def w_X12_times_0 (Q : Int32 → Prop) (x1 : Int32) (x2 : Int32) (x3 : Int32) (h : hp) : Prop :=
  w_X12_areRows h x1 x2 x3 (fun r1 => (¬ r1 = 0 → (w_X12_times_20 Q x1 x2 x3 h 0 0)) ∧ (r1 = 0 → (Q (-100000))))
/-- TwoAsksModel.times(III)I -/
def w_X12_times (h : hp) (x1 : Int32) (x2 : Int32) (x3 : Int32) (Q : Int32 → Prop) : Prop := w_X12_times_0 Q x1 x2 x3 h
def w_X12_degree_b18 (Q : Int32 → Prop) (x1 : Int32) (h : hp) (X18 : Int32 → Prop) (x2 : Int32) : Prop :=
  (x2 < 0 → (Q (-2))) ∧ (¬ (x2 < 0) → (w_X12_at h x1 x2 (fun r8 => (r8 = 0 → (∀ x2_11, x2_11 = x2 + (-1) → (X18 x2_11))) ∧ (¬ (r8 = 0) → (Q x2)))))
def w_X12_degree_18 (Q : Int32 → Prop) (x1 : Int32) (h : hp) (x2 : Int32) : Prop :=
  wLoop (fun X18 (q : Int32) => w_X12_degree_b18 Q x1 h X18 q) x2
def w_X12_degree_0 (Q : Int32 → Prop) (x1 : Int32) (h : hp) : Prop :=
  w_X12_isRow h x1 (fun r1 => (¬ r1 = 0 → (w_X12_longAt h x1 (fun r4 => ∀ x2_6, x2_6 = r4 - 1 → (w_X12_degree_18 Q x1 h x2_6)))) ∧ (r1 = 0 → (Q (-1))))
/-- TwoAsksModel.degree(I)I -/
def w_X12_degree (h : hp) (x1 : Int32) (Q : Int32 → Prop) : Prop := w_X12_degree_0 Q x1 h
def w_X12_restOf_0 (Q : Int32 → Prop) (x1 : Int32) (h : hp) : Prop :=
  vp_in (gI h 0 18) 2 ∧ (¬ (gI h 12 (ix (gI h 0 18))) = 0 ∧ (∀ x2_1, x2_1 = jrem x1 (gI h 12 (ix (gI h 0 18))) → ((0 ≤ x2_1 → (Q x2_1)) ∧ (¬ (0 ≤ x2_1) → (vp_in (gI h 0 18) 2 ∧ (Q (x2_1 + (gI h 12 (ix (gI h 0 18))))))))))
/-- TwoAsksModel.restOf(I)I -/
def w_X12_restOf (h : hp) (x1 : Int32) (Q : Int32 → Prop) : Prop := w_X12_restOf_0 Q x1 h
def w_X12_restBy_b11 (Q : Int32 → Prop) (x1 : Int32) (x2 : Int32) (h : hp) (X11 : Int32 × Int32 → Prop) (x3 : Int32) (x4 : Int32) : Prop :=
  (x4 < 0 → (Q x3)) ∧ (¬ (x4 < 0) → (w_X12_at h x1 x4 (fun r5 => w_X12_restOf h ((x3 * x2) + r5) (fun r7 => ∀ x4_9, x4_9 = x4 + (-1) → (X11 (r7, x4_9))))))
def w_X12_restBy_11 (Q : Int32 → Prop) (x1 : Int32) (x2 : Int32) (h : hp) (x3 : Int32) (x4 : Int32) : Prop :=
  wLoop (fun X11 (q : Int32 × Int32) => w_X12_restBy_b11 Q x1 x2 h X11 q.1 q.2) (x3, x4)
def w_X12_restBy_0 (Q : Int32 → Prop) (x1 : Int32) (x2 : Int32) (h : hp) : Prop :=
  w_X12_longAt h x1 (fun r1 => ∀ x4_3, x4_3 = r1 - 1 → (w_X12_restBy_11 Q x1 x2 h 0 x4_3))
/-- TwoAsksModel.restBy(II)I -/
def w_X12_restBy (h : hp) (x1 : Int32) (x2 : Int32) (Q : Int32 → Prop) : Prop := w_X12_restBy_0 Q x1 x2 h
def w_X12_rest_0 (Q : Int32 → Prop) (x1 : Int32) (x2 : Int32) (h : hp) : Prop :=
  w_X12_isRow h x1 (fun r1 => (r1 = 0 → (Q (-1))) ∧ (¬ (r1 = 0) → (w_X12_in (x2.toInt64) 0 96 (fun r4 => (r4 = 0 → (Q (-1))) ∧ (¬ (r4 = 0) → (w_X12_restBy h x1 x2 (fun r7 => Q r7)))))))
/-- TwoAsksModel.rest(II)I -/
def w_X12_rest (h : hp) (x1 : Int32) (x2 : Int32) (Q : Int32 → Prop) : Prop := w_X12_rest_0 Q x1 x2 h
def w_X12_alike_b28 (Q : Int32 → Prop) (x1 : Int32) (x2 : Int32) (h : hp) (X28 : Int32 × Int32 → Prop) (x3 : Int32) (x4 : Int32) : Prop :=
  vp_in (gI h 0 18) 2 ∧ (((gI h 12 (ix (gI h 0 18))) ≤ x4 → (Q x3)) ∧ (¬ ((gI h 12 (ix (gI h 0 18))) ≤ x4) → (w_X12_restBy h x1 x4 (fun r9 => w_X12_restBy h x2 x4 (fun r11 => (¬ r9 = r11 → (∀ x4_14, x4_14 = x4 + 1 → (X28 (x3, x4_14)))) ∧ (r9 = r11 → (∀ x3_15, x3_15 = x3 + 1 → (∀ x4_16, x4_16 = x4 + 1 → (X28 (x3_15, x4_16))))))))))
def w_X12_alike_28 (Q : Int32 → Prop) (x1 : Int32) (x2 : Int32) (h : hp) (x3 : Int32) (x4 : Int32) : Prop :=
  wLoop (fun X28 (q : Int32 × Int32) => w_X12_alike_b28 Q x1 x2 h X28 q.1 q.2) (x3, x4)
def w_X12_alike_0 (Q : Int32 → Prop) (x1 : Int32) (x2 : Int32) (h : hp) : Prop :=
  w_X12_isRow h x1 (fun r1 => (r1 = 0 → (Q (-1))) ∧ (¬ (r1 = 0) → (w_X12_isRow h x2 (fun r4 => (r4 = 0 → (Q (-1))) ∧ (¬ (r4 = 0) → ((¬ x1 = x2 → (w_X12_alike_28 Q x1 x2 h 0 0)) ∧ (x1 = x2 → (Q (-1)))))))))
/-- TwoAsksModel.alike(II)I -/
def w_X12_alike (h : hp) (x1 : Int32) (x2 : Int32) (Q : Int32 → Prop) : Prop := w_X12_alike_0 Q x1 x2 h
def w_X12_meets_b25 (Q : Int32 → Prop) (x1 : Int32) (x2 : Int32) (h : hp) (X25 : Int32 → Prop) (x3 : Int32) : Prop :=
  (1000 ≤ x3 → (Q (-2))) ∧ (¬ (1000 ≤ x3) → (w_X12_comesBy h x1 (x3.toInt64) (fun r9 => w_X12_comesBy h x2 (x3.toInt64) (fun r11 => (¬ r9 = r11 → (∀ x3_14, x3_14 = x3 + 1 → (X25 x3_14))) ∧ (r9 = r11 → (Q x3))))))
def w_X12_meets_25 (Q : Int32 → Prop) (x1 : Int32) (x2 : Int32) (h : hp) (x3 : Int32) : Prop :=
  wLoop (fun X25 (q : Int32) => w_X12_meets_b25 Q x1 x2 h X25 q) x3
def w_X12_meets_0 (Q : Int32 → Prop) (x1 : Int32) (x2 : Int32) (h : hp) : Prop :=
  w_X12_isRow h x1 (fun r1 => (r1 = 0 → (Q (-1))) ∧ (¬ (r1 = 0) → (w_X12_isRow h x2 (fun r4 => (r4 = 0 → (Q (-1))) ∧ (¬ (r4 = 0) → ((¬ x1 = x2 → (w_X12_meets_25 Q x1 x2 h 0)) ∧ (x1 = x2 → (Q (-1)))))))))
/-- TwoAsksModel.meets(II)I -/
def w_X12_meets (h : hp) (x1 : Int32) (x2 : Int32) (Q : Int32 → Prop) : Prop := w_X12_meets_0 Q x1 x2 h
def w_X12_worldAll_b4 (Q : Int32 → Prop) (h : hp) (X4 : Int32 × Int32 → Prop) (x1 : Int32) (x2 : Int32) : Prop :=
  vp_in (gI h 0 18) 2 ∧ (((gI h 19 (ix (gI h 0 18))) ≤ x2 → (Q x1)) ∧ (¬ ((gI h 19 (ix (gI h 0 18))) ≤ x2) → (vp_in (gI h 0 18) 2 ∧ (∀ x1_2, x1_2 = x1 * ((gI h 20 (ix (gI h 0 18))) + 1) → (∀ x2_3, x2_3 = x2 + 1 → (X4 (x1_2, x2_3)))))))
def w_X12_worldAll_4 (Q : Int32 → Prop) (h : hp) (x1 : Int32) (x2 : Int32) : Prop :=
  wLoop (fun X4 (q : Int32 × Int32) => w_X12_worldAll_b4 Q h X4 q.1 q.2) (x1, x2)
def w_X12_worldAll_0 (Q : Int32 → Prop) (h : hp) : Prop :=
  w_X12_worldAll_4 Q h 1 0
/-- TwoAsksModel.worldAll()I -/
def w_X12_worldAll (h : hp) (Q : Int32 → Prop) : Prop := w_X12_worldAll_0 Q h
def w_X12_figureOf_b5 (Q : Int32 → Prop) (x2 : Int32) (h : hp) (X5 : Int32 × Int32 → Prop) (x3 : Int32) (x4 : Int32) : Prop :=
  (x2 ≤ x4 → (vp_in (gI h 0 18) 2 ∧ (¬ ((gI h 20 (ix (gI h 0 18))) + 1) = 0 ∧ (Q (jrem x3 ((gI h 20 (ix (gI h 0 18))) + 1)))))) ∧ (¬ (x2 ≤ x4) → (vp_in (gI h 0 18) 2 ∧ (¬ ((gI h 20 (ix (gI h 0 18))) + 1) = 0 ∧ (∀ x3_2, x3_2 = x3 / ((gI h 20 (ix (gI h 0 18))) + 1) → (∀ x4_3, x4_3 = x4 + 1 → (X5 (x3_2, x4_3)))))))
def w_X12_figureOf_5 (Q : Int32 → Prop) (x2 : Int32) (h : hp) (x3 : Int32) (x4 : Int32) : Prop :=
  wLoop (fun X5 (q : Int32 × Int32) => w_X12_figureOf_b5 Q x2 h X5 q.1 q.2) (x3, x4)
def w_X12_figureOf_0 (Q : Int32 → Prop) (x1 : Int32) (x2 : Int32) (h : hp) : Prop :=
  w_X12_figureOf_5 Q x2 h x1 0
/-- TwoAsksModel.figureOf(II)I -/
def w_X12_figureOf (h : hp) (x1 : Int32) (x2 : Int32) (Q : Int32 → Prop) : Prop := w_X12_figureOf_0 Q x1 x2 h
def w_X12_worldComes_b16 (Q : Int64 → Prop) (x1 : Int32) (x2 : Int64) (h : hp) (X16 : Int64 × Int32 → Prop) (x4 : Int64) (x6 : Int32) : Prop :=
  (x6 < 0 → (Q x4)) ∧ (¬ (x6 < 0) → (w_X12_figureOf h x1 x6 (fun r3 => ∀ x4_5, x4_5 = (x4 * x2) + (r3.toInt64) → (∀ x6_6, x6_6 = x6 + (-1) → (X16 (x4_5, x6_6))))))
def w_X12_worldComes_16 (Q : Int64 → Prop) (x1 : Int32) (x2 : Int64) (h : hp) (x4 : Int64) (x6 : Int32) : Prop :=
  wLoop (fun X16 (q : Int64 × Int32) => w_X12_worldComes_b16 Q x1 x2 h X16 q.1 q.2) (x4, x6)
def w_X12_worldComes_0 (Q : Int64 → Prop) (x1 : Int32) (x2 : Int64) (h : hp) : Prop :=
  vp_in (gI h 0 18) 2 ∧ (∀ x6_1, x6_1 = (gI h 19 (ix (gI h 0 18))) - 1 → (w_X12_worldComes_16 Q x1 x2 h 0 x6_1))
/-- TwoAsksModel.worldComes(IJ)J -/
def w_X12_worldComes (h : hp) (x1 : Int32) (x2 : Int64) (Q : Int64 → Prop) : Prop := w_X12_worldComes_0 Q x1 x2 h
def w_X12_clears_b2 (Q : hp → Prop) (X2 : Int32 × hp → Prop) (x1 : Int32) (h : hp) : Prop :=
  (32768 ≤ x1 → (Q h)) ∧ (¬ (32768 ≤ x1) → (vp_in x1 32768 ∧ ∀ h2, h2 = sI h 35 (ix x1) (-1) → (vp_in x1 32768 ∧ ∀ h3, h3 = sI h2 36 (ix x1) 0 → (∀ x1_4, x1_4 = x1 + 1 → (X2 (x1_4, h3))))))
def w_X12_clears_2 (Q : hp → Prop) (x1 : Int32) (h : hp) : Prop :=
  wLoop (fun X2 (q : Int32 × hp) => w_X12_clears_b2 Q X2 q.1 q.2) (x1, h)
def w_X12_clears_0 (Q : hp → Prop) (h : hp) : Prop :=
  w_X12_clears_2 Q 0 h
/-- TwoAsksModel.clears()V -/
def w_X12_clears (h : hp) (Q : hp → Prop) : Prop := w_X12_clears_0 Q h
def w_X12_keyAt_52 (Q : Int32 → hp → Prop) (x1 : Int64) (x3 : Int32) (x4 : Int32) (h : hp) : Prop :=
  vp_in x4 32768 ∧ ((¬ (gI h 35 (ix x4)) = (-1) → (Q x4 h)) ∧ ((gI h 35 (ix x4)) = (-1) → (vp_in x4 32768 ∧ ∀ h6, h6 = sI h 35 (ix x4) x3 → (vp_in x4 32768 ∧ ∀ h7, h7 = sL h6 34 (ix x4) x1 → (Q x4 h7)))))
def w_X12_keyAt_b17 (Q : Int32 → hp → Prop) (x1 : Int64) (x3 : Int32) (h : hp) (X17 : Int32 → Prop) (x4 : Int32) : Prop :=
  vp_in x4 32768 ∧ (((gI h 35 (ix x4)) = (-1) → (w_X12_keyAt_52 Q x1 x3 x4 h)) ∧ (¬ ((gI h 35 (ix x4)) = (-1)) → (vp_in x4 32768 ∧ (((gL h 34 (ix x4)) = x1 → (w_X12_keyAt_52 Q x1 x3 x4 h)) ∧ (¬ ((gL h 34 (ix x4)) = x1) → (∀ x4_4, x4_4 = jrem (x4 + 1) 32768 → (X17 x4_4)))))))
def w_X12_keyAt_17 (Q : Int32 → hp → Prop) (x1 : Int64) (x3 : Int32) (h : hp) (x4 : Int32) : Prop :=
  wLoop (fun X17 (q : Int32) => w_X12_keyAt_b17 Q x1 x3 h X17 q) x4
def w_X12_keyAt_0 (Q : Int32 → hp → Prop) (x1 : Int64) (x3 : Int32) (h : hp) : Prop :=
  ∀ x4_1, x4_1 = (((lushr (x1 * 2654435761) 13) ^^^ x1) &&& 32767).toInt32 → (w_X12_keyAt_17 Q x1 x3 h x4_1)
/-- TwoAsksModel.keyAt(JI)I -/
def w_X12_keyAt (h : hp) (x1 : Int64) (x3 : Int32) (Q : Int32 → hp → Prop) : Prop := w_X12_keyAt_0 Q x1 x3 h
def w_X12_clashes_b6 (Q : Int32 → hp → Prop) (x1 : Int32) (X6 : Int32 × hp → Prop) (x2 : Int32) (h : hp) : Prop :=
  w_X12_worldAll h (fun r2 => (r2 ≤ x2 → (Q 0 h)) ∧ (¬ (r2 ≤ x2) → (w_X12_worldComes h x2 (x1.toInt64) (fun r5 => w_X12_keyAt h r5 x2 (fun r8 h7 => vp_in r8 32768 ∧ (∀ x3_9, x3_9 = gI h7 35 (ix r8) → ((¬ x3_9 = x2 → (∀ h11, h11 = sI h7 0 54 x3_9 → (∀ h12, h12 = sI h11 0 55 x2 → (Q 1 h12)))) ∧ (x3_9 = x2 → (∀ x2_13, x2_13 = x2 + 1 → (X6 (x2_13, h7)))))))))))
def w_X12_clashes_6 (Q : Int32 → hp → Prop) (x1 : Int32) (x2 : Int32) (h : hp) : Prop :=
  wLoop (fun X6 (q : Int32 × hp) => w_X12_clashes_b6 Q x1 X6 q.1 q.2) (x2, h)
def w_X12_clashes_0 (Q : Int32 → hp → Prop) (x1 : Int32) (h : hp) : Prop :=
  w_X12_clears h (fun h1 => w_X12_clashes_6 Q x1 0 h1)
/-- TwoAsksModel.clashes(I)Z -/
def w_X12_clashes (h : hp) (x1 : Int32) (Q : Int32 → hp → Prop) : Prop := w_X12_clashes_0 Q x1 h
def w_X12_clash_0 (Q : Int32 → hp → Prop) (x1 : Int32) (x2 : Int32) (h : hp) : Prop :=
  w_X12_in (x1.toInt64) 0 999 (fun r1 => (¬ r1 = 0 → (w_X12_clashes h x1 (fun r5 h4 => (¬ r5 = 0 → ((x2 = 0 → (Q (gI h4 0 54) h4)) ∧ (¬ (x2 = 0) → (Q (gI h4 0 55) h4)))) ∧ (r5 = 0 → (Q (-2) h4))))) ∧ (r1 = 0 → (Q (-1) h)))
/-- TwoAsksModel.clash(IZ)I -/
def w_X12_clash (h : hp) (x1 : Int32) (x2 : Int32) (Q : Int32 → hp → Prop) : Prop := w_X12_clash_0 Q x1 x2 h
def w_X12_world_0 (Q : Int32 → Prop) (x1 : Int32) (x2 : Int32) (h : hp) : Prop :=
  (¬ x2 = (-1) → (w_X12_worldAll h (fun r2 => w_X12_in (x1.toInt64) 0 ((r2 - 1).toInt64) (fun r4 => (r4 = 0 → (Q (-1))) ∧ (¬ (r4 = 0) → (vp_in (gI h 0 18) 2 ∧ (w_X12_in (x2.toInt64) 0 (((gI h 19 (ix (gI h 0 18))) - 1).toInt64) (fun r7 => (r7 = 0 → (Q (-1))) ∧ (¬ (r7 = 0) → (w_X12_figureOf h x1 x2 (fun r10 => Q r10))))))))))) ∧ (x2 = (-1) → (w_X12_worldAll h (fun r12 => Q r12)))
/-- TwoAsksModel.world(II)I -/
def w_X12_world (h : hp) (x1 : Int32) (x2 : Int32) (Q : Int32 → Prop) : Prop := w_X12_world_0 Q x1 x2 h
def w_X12_once_b2 (Q : Int32 → hp → Prop) (X2 : Int32 × hp → Prop) (x1 : Int32) (h : hp) : Prop :=
  w_X12_clashes h x1 (fun r2 h1 => (r2 = 0 → (Q x1 h1)) ∧ (¬ (r2 = 0) → (∀ x1_4, x1_4 = x1 + 1 → (X2 (x1_4, h1)))))
def w_X12_once_2 (Q : Int32 → hp → Prop) (x1 : Int32) (h : hp) : Prop :=
  wLoop (fun X2 (q : Int32 × hp) => w_X12_once_b2 Q X2 q.1 q.2) (x1, h)
def w_X12_once_0 (Q : Int32 → hp → Prop) (h : hp) : Prop :=
  w_X12_once_2 Q 0 h
/-- TwoAsksModel.once()I -/
def w_X12_once (h : hp) (Q : Int32 → hp → Prop) : Prop := w_X12_once_0 Q h
def w_X12_fullPlaces_b4 (Q : Int32 → Prop) (x1 : Int32) (h : hp) (X4 : Int32 × Int32 → Prop) (x2 : Int32) (x3 : Int32) : Prop :=
  vp_in (gI h 0 18) 2 ∧ (((gI h 19 (ix (gI h 0 18))) ≤ x3 → (Q x2)) ∧ (¬ ((gI h 19 (ix (gI h 0 18))) ≤ x3) → (w_X12_figureOf h x1 x3 (fun r2 => (r2 = 0 → (∀ x3_5, x3_5 = x3 + 1 → (X4 (x2, x3_5)))) ∧ (¬ (r2 = 0) → (∀ x2_6, x2_6 = x2 + 1 → (∀ x3_7, x3_7 = x3 + 1 → (X4 (x2_6, x3_7)))))))))
def w_X12_fullPlaces_4 (Q : Int32 → Prop) (x1 : Int32) (h : hp) (x2 : Int32) (x3 : Int32) : Prop :=
  wLoop (fun X4 (q : Int32 × Int32) => w_X12_fullPlaces_b4 Q x1 h X4 q.1 q.2) (x2, x3)
def w_X12_fullPlaces_0 (Q : Int32 → Prop) (x1 : Int32) (h : hp) : Prop :=
  w_X12_fullPlaces_4 Q x1 h 0 0
/-- TwoAsksModel.fullPlaces(I)I -/
def w_X12_fullPlaces (h : hp) (x1 : Int32) (Q : Int32 → Prop) : Prop := w_X12_fullPlaces_0 Q x1 h
def w_X12_few_43 (Q : Int32 → hp → Prop) (X16 : Int32 × hp → Prop) (x1 : Int32) (x2 : Int32) (h : hp) (s0 : Int32) (s1 : Int32) : Prop :=
  vp_in s1 10000 ∧ ∀ h10, h10 = sI h 37 (ix s1) s0 → (∀ x2_11, x2_11 = x2 + 1 → (X16 (x2_11, h10)))
def w_X12_few_139 (Q : Int32 → hp → Prop) (X52 : Int32 × hp → Prop) (X67 : Int32 × Int32 × hp → Prop) (x2 : Int32) (x4 : Int32) (x5 : Int32) (h : hp) (s0 : Int32) : Prop :=
  vp_in x4 10000 ∧ ∀ h28, h28 = sI h 37 (ix x4) x5 → (∀ x4_29, x4_29 = x4 + 1 → (X67 (s0, x4_29, h28)))
def w_X12_few_b67 (Q : Int32 → hp → Prop) (X52 : Int32 × hp → Prop) (x2 : Int32) (X67 : Int32 × Int32 × hp → Prop) (x3 : Int32) (x4 : Int32) (h : hp) : Prop :=
  w_X12_worldAll h (fun r14 => (r14 ≤ x4 → ((¬ x3 = 0 → (∀ x2_18, x2_18 = x2 + 1 → (X52 (x2_18, h)))) ∧ (x3 = 0 → (Q x2 h)))) ∧ (¬ (r14 ≤ x4) → (vp_in x4 10000 ∧ ((0 ≤ (gI h 37 (ix x4)) → (vp_in x4 10000 ∧ (w_X12_worldComes h x4 (x2.toInt64) (fun r20 => w_X12_keyAt h ((10000 * ((gI h 37 (ix x4)).toInt64)) + r20) x4 (fun r23 h22 => vp_in r23 32768 ∧ (∀ x5_24, x5_24 = gI h22 35 (ix r23) → ((¬ x3 = 0 → (w_X12_few_139 Q X52 X67 x2 x4 x5_24 h22 1)) ∧ (x3 = 0 → ((x5_24 = x4 → (w_X12_few_139 Q X52 X67 x2 x4 x5_24 h22 0)) ∧ (¬ (x5_24 = x4) → (w_X12_few_139 Q X52 X67 x2 x4 x5_24 h22 1))))))))))) ∧ (¬ (0 ≤ (gI h 37 (ix x4))) → (∀ x4_27, x4_27 = x4 + 1 → (X67 (x3, x4_27, h))))))))
def w_X12_few_67 (Q : Int32 → hp → Prop) (X52 : Int32 × hp → Prop) (x2 : Int32) (x3 : Int32) (x4 : Int32) (h : hp) : Prop :=
  wLoop (fun X67 (q : Int32 × Int32 × hp) => w_X12_few_b67 Q X52 x2 X67 q.1 q.2.1 q.2.2) (x3, x4, h)
def w_X12_few_b52 (Q : Int32 → hp → Prop) (X52 : Int32 × hp → Prop) (x2 : Int32) (h : hp) : Prop :=
  (10 ≤ x2 → (Q (-2) h)) ∧ (¬ (10 ≤ x2) → (w_X12_clears h (fun h13 => w_X12_few_67 Q X52 x2 0 0 h13)))
def w_X12_few_52 (Q : Int32 → hp → Prop) (x2 : Int32) (h : hp) : Prop :=
  wLoop (fun X52 (q : Int32 × hp) => w_X12_few_b52 Q X52 q.1 q.2) (x2, h)
def w_X12_few_b16 (Q : Int32 → hp → Prop) (x1 : Int32) (X16 : Int32 × hp → Prop) (x2 : Int32) (h : hp) : Prop :=
  w_X12_worldAll h (fun r4 => (r4 ≤ x2 → (w_X12_few_52 Q 1 h)) ∧ (¬ (r4 ≤ x2) → (w_X12_fullPlaces h x2 (fun r7 => (x1 < r7 → (w_X12_few_43 Q X16 x1 x2 h (-1) x2)) ∧ (¬ (x1 < r7) → (w_X12_few_43 Q X16 x1 x2 h 0 x2))))))
def w_X12_few_16 (Q : Int32 → hp → Prop) (x1 : Int32) (x2 : Int32) (h : hp) : Prop :=
  wLoop (fun X16 (q : Int32 × hp) => w_X12_few_b16 Q x1 X16 q.1 q.2) (x2, h)
def w_X12_few_0 (Q : Int32 → hp → Prop) (x1 : Int32) (h : hp) : Prop :=
  w_X12_in (x1.toInt64) 0 4 (fun r1 => (¬ r1 = 0 → (w_X12_few_16 Q x1 0 h)) ∧ (r1 = 0 → (Q (-1) h)))
/-- TwoAsksModel.few(I)I -/
def w_X12_few (h : hp) (x1 : Int32) (Q : Int32 → hp → Prop) : Prop := w_X12_few_0 Q x1 h
def w_X12_tell__0 (Q : Int32 → hp → Prop) (x1 : Int32) (x2 : Int64) (h : hp) : Prop :=
  ((gI h 0 57) = 20 → (Q (-1) h)) ∧ (¬ ((gI h 0 57) = 20) → (w_X12_in (x1.toInt64) (-99) 99 (fun r2 => (r2 = 0 → (Q (-1) h)) ∧ (¬ (r2 = 0) → (w_X12_in x2 (-1000000000000000) 1000000000000000 (fun r5 => (¬ r5 = 0 → (vp_in (gI h 0 57) 20 ∧ ∀ h8, h8 = sI h 38 (ix (gI h 0 57)) x1 → (vp_in (gI h8 0 57) 20 ∧ ∀ h9, h9 = sL h8 39 (ix (gI h8 0 57)) x2 → (∀ h10, h10 = sI h9 0 57 ((gI h9 0 57) + 1) → (Q ((gI h10 0 57) - 1) h10))))) ∧ (r5 = 0 → (Q (-1) h))))))))
/-- TwoAsksModel.tell(IJ)I -/
def w_X12_tell_ (h : hp) (x1 : Int32) (x2 : Int64) (Q : Int32 → hp → Prop) : Prop := w_X12_tell__0 Q x1 x2 h
def w_X12_forget_0 (Q : Int32 → hp → Prop) (h : hp) : Prop :=
  ∀ x1_1, x1_1 = gI h 0 57 → (∀ h2, h2 = sI h 0 57 0 → (Q x1_1 h2))
/-- TwoAsksModel.forget()I -/
def w_X12_forget (h : hp) (Q : Int32 → hp → Prop) : Prop := w_X12_forget_0 Q h
def w_X12_isRight_0 (Q : Int32 → Prop) (x1 : Int32) (x2 : Int32) (h : hp) : Prop :=
  vp_in x2 20 ∧ (w_X12_worldComes h x1 ((gI h 38 (ix x2)).toInt64) (fun r1 => vp_in x2 20 ∧ ((¬ r1 = (gL h 39 (ix x2)) → (Q 0)) ∧ (r1 = (gL h 39 (ix x2)) → (Q 1)))))
/-- TwoAsksModel.isRight(II)Z -/
def w_X12_isRight (h : hp) (x1 : Int32) (x2 : Int32) (Q : Int32 → Prop) : Prop := w_X12_isRight_0 Q x1 x2 h
def w_X12_isFit_b18 (Q : Int32 → Prop) (x1 : Int32) (x2 : Int32) (x3 : Int32) (h : hp) (X18 : Int32 × Int32 → Prop) (x5 : Int32) (x6 : Int32) : Prop :=
  (x2 ≤ x6 → ((x3 < x5 → (Q 0)) ∧ (¬ (x3 < x5) → (Q 1)))) ∧ (¬ (x2 ≤ x6) → (w_X12_isRight h x1 x6 (fun r6 => (¬ r6 = 0 → (∀ x6_9, x6_9 = x6 + 1 → (X18 (x5, x6_9)))) ∧ (r6 = 0 → (∀ x5_10, x5_10 = x5 + 1 → (∀ x6_11, x6_11 = x6 + 1 → (X18 (x5_10, x6_11))))))))
def w_X12_isFit_18 (Q : Int32 → Prop) (x1 : Int32) (x2 : Int32) (x3 : Int32) (h : hp) (x5 : Int32) (x6 : Int32) : Prop :=
  wLoop (fun X18 (q : Int32 × Int32) => w_X12_isFit_b18 Q x1 x2 x3 h X18 q.1 q.2) (x5, x6)
def w_X12_isFit_0 (Q : Int32 → Prop) (x1 : Int32) (x2 : Int32) (x3 : Int32) (x4 : Int32) (h : hp) : Prop :=
  w_X12_fullPlaces h x1 (fun r1 => (r1 ≤ x4 → (w_X12_isFit_18 Q x1 x2 x3 h 0 0)) ∧ (¬ (r1 ≤ x4) → (Q 0)))
/-- TwoAsksModel.isFit(IIII)Z -/
def w_X12_isFit (h : hp) (x1 : Int32) (x2 : Int32) (x3 : Int32) (x4 : Int32) (Q : Int32 → Prop) : Prop := w_X12_isFit_0 Q x1 x2 x3 x4 h
def w_X12_isAsked_0 (Q : Int32 → Prop) (x1 : Int32) (x2 : Int32) (x3 : Int32) (h : hp) : Prop :=
  w_X12_in (x1.toInt64) 0 ((gI h 0 57).toInt64) (fun r1 => (r1 = 0 → (Q 0)) ∧ (¬ (r1 = 0) → (w_X12_in (x2.toInt64) 0 20 (fun r4 => (r4 = 0 → (Q 0)) ∧ (¬ (r4 = 0) → (w_X12_in (x3.toInt64) 0 4 (fun r7 => (r7 = 0 → (Q 0)) ∧ (¬ (r7 = 0) → (Q 1)))))))))
/-- TwoAsksModel.isAsked(III)Z -/
def w_X12_isAsked (h : hp) (x1 : Int32) (x2 : Int32) (x3 : Int32) (Q : Int32 → Prop) : Prop := w_X12_isAsked_0 Q x1 x2 x3 h
def w_X12_fillsFits_b6 (Q : Int32 → hp → Prop) (x1 : Int32) (x2 : Int32) (x3 : Int32) (X6 : Int32 × Int32 × hp → Prop) (x4 : Int32) (x5 : Int32) (h : hp) : Prop :=
  w_X12_worldAll h (fun r1 => (r1 ≤ x5 → (Q x4 h)) ∧ (¬ (r1 ≤ x5) → (w_X12_isFit h x5 x1 x2 x3 (fun r4 => vp_in x5 10000 ∧ ∀ h6, h6 = sI h 40 (ix x5) (jz r4) → (vp_in x5 10000 ∧ (((gI h6 40 (ix x5)) = 0 → (∀ x5_8, x5_8 = x5 + 1 → (X6 (x4, x5_8, h6)))) ∧ (¬ ((gI h6 40 (ix x5)) = 0) → (∀ x4_9, x4_9 = x4 + 1 → (∀ x5_10, x5_10 = x5 + 1 → (X6 (x4_9, x5_10, h6)))))))))))
def w_X12_fillsFits_6 (Q : Int32 → hp → Prop) (x1 : Int32) (x2 : Int32) (x3 : Int32) (x4 : Int32) (x5 : Int32) (h : hp) : Prop :=
  wLoop (fun X6 (q : Int32 × Int32 × hp) => w_X12_fillsFits_b6 Q x1 x2 x3 X6 q.1 q.2.1 q.2.2) (x4, x5, h)
def w_X12_fillsFits_0 (Q : Int32 → hp → Prop) (x1 : Int32) (x2 : Int32) (x3 : Int32) (h : hp) : Prop :=
  w_X12_fillsFits_6 Q x1 x2 x3 0 0 h
/-- TwoAsksModel.fillsFits(III)I -/
def w_X12_fillsFits (h : hp) (x1 : Int32) (x2 : Int32) (x3 : Int32) (Q : Int32 → hp → Prop) : Prop := w_X12_fillsFits_0 Q x1 x2 x3 h
def w_X12_fits_b42 (Q : Int32 → hp → Prop) (x4 : Int32) (h : hp) (X42 : Int32 × Int32 → Prop) (x6 : Int32) (x7 : Int32) : Prop :=
  w_X12_worldAll h (fun r8 => (r8 ≤ x7 → (Q (-1) h)) ∧ (¬ (r8 ≤ x7) → (vp_in x7 10000 ∧ ((¬ (gI h 40 (ix x7)) = 0 → ((¬ x6 = x4 → (∀ x6_13, x6_13 = x6 + 1 → (∀ x7_14, x7_14 = x7 + 1 → (X42 (x6_13, x7_14))))) ∧ (x6 = x4 → (Q x7 h)))) ∧ ((gI h 40 (ix x7)) = 0 → (∀ x7_15, x7_15 = x7 + 1 → (X42 (x6, x7_15))))))))
def w_X12_fits_42 (Q : Int32 → hp → Prop) (x4 : Int32) (h : hp) (x6 : Int32) (x7 : Int32) : Prop :=
  wLoop (fun X42 (q : Int32 × Int32) => w_X12_fits_b42 Q x4 h X42 q.1 q.2) (x6, x7)
def w_X12_fits_0 (Q : Int32 → hp → Prop) (x1 : Int32) (x2 : Int32) (x3 : Int32) (x4 : Int32) (h : hp) : Prop :=
  w_X12_isAsked h x1 x2 x3 (fun r1 => (r1 = 0 → (Q (-1) h)) ∧ (¬ (r1 = 0) → (((-1) ≤ x4 → (w_X12_fillsFits h x1 x2 x3 (fun r6 h5 => (¬ x4 = (-1) → (w_X12_fits_42 Q x4 h5 0 0)) ∧ (x4 = (-1) → (Q r6 h5))))) ∧ (¬ ((-1) ≤ x4) → (Q (-1) h)))))
/-- TwoAsksModel.fits(IIII)I -/
def w_X12_fits (h : hp) (x1 : Int32) (x2 : Int32) (x3 : Int32) (x4 : Int32) (Q : Int32 → hp → Prop) : Prop := w_X12_fits_0 Q x1 x2 x3 x4 h
def w_X12_spanOf_48 (Q : Int32 → Prop) (X8 : Int32 × Int32 × Int32 → Prop) (x1 : Int32) (x2 : Int32) (x3 : Int32) (x4 : Int32) (x5 : Int32) (h : hp) : Prop :=
  (x5 ≤ x3 → (∀ x4_10, x4_10 = x4 + 1 → (X8 (x2, x3, x4_10)))) ∧ (¬ (x5 ≤ x3) → (∀ x4_11, x4_11 = x4 + 1 → (X8 (x2, x5, x4_11))))
def w_X12_spanOf_b8 (Q : Int32 → Prop) (x1 : Int32) (h : hp) (X8 : Int32 × Int32 × Int32 → Prop) (x2 : Int32) (x3 : Int32) (x4 : Int32) : Prop :=
  w_X12_worldAll h (fun r1 => (r1 ≤ x4 → (Q ((10 * x2) + x3))) ∧ (¬ (r1 ≤ x4) → (vp_in x4 10000 ∧ ((¬ (gI h 40 (ix x4)) = 0 → (w_X12_figureOf h x4 x1 (fun r5 => (x2 ≤ r5 → (w_X12_spanOf_48 Q X8 x1 x2 x3 x4 r5 h)) ∧ (¬ (x2 ≤ r5) → (w_X12_spanOf_48 Q X8 x1 r5 x3 x4 r5 h))))) ∧ ((gI h 40 (ix x4)) = 0 → (∀ x4_8, x4_8 = x4 + 1 → (X8 (x2, x3, x4_8))))))))
def w_X12_spanOf_8 (Q : Int32 → Prop) (x1 : Int32) (h : hp) (x2 : Int32) (x3 : Int32) (x4 : Int32) : Prop :=
  wLoop (fun X8 (q : Int32 × Int32 × Int32) => w_X12_spanOf_b8 Q x1 h X8 q.1 q.2.1 q.2.2) (x2, x3, x4)
def w_X12_spanOf_0 (Q : Int32 → Prop) (x1 : Int32) (h : hp) : Prop :=
  w_X12_spanOf_8 Q x1 h 10 0 0
/-- TwoAsksModel.spanOf(I)I -/
def w_X12_spanOf (h : hp) (x1 : Int32) (Q : Int32 → Prop) : Prop := w_X12_spanOf_0 Q x1 h
def w_X12_sure_b28 (Q : Int32 → hp → Prop) (h : hp) (X28 : Int32 × Int32 → Prop) (x4 : Int32) (x5 : Int32) : Prop :=
  vp_in (gI h 0 18) 2 ∧ (((gI h 19 (ix (gI h 0 18))) ≤ x5 → (Q x4 h)) ∧ (¬ ((gI h 19 (ix (gI h 0 18))) ≤ x5) → (w_X12_spanOf h x5 (fun r8 => (¬ (jrem r8 11) = 0 → (∀ x5_11, x5_11 = x5 + 1 → (X28 (x4, x5_11)))) ∧ ((jrem r8 11) = 0 → (∀ x4_12, x4_12 = x4 ||| (jshl 1 x5) → (∀ x5_13, x5_13 = x5 + 1 → (X28 (x4_12, x5_13)))))))))
def w_X12_sure_28 (Q : Int32 → hp → Prop) (h : hp) (x4 : Int32) (x5 : Int32) : Prop :=
  wLoop (fun X28 (q : Int32 × Int32) => w_X12_sure_b28 Q h X28 q.1 q.2) (x4, x5)
def w_X12_sure_0 (Q : Int32 → hp → Prop) (x1 : Int32) (x2 : Int32) (x3 : Int32) (h : hp) : Prop :=
  w_X12_isAsked h x1 x2 x3 (fun r1 => (¬ r1 = 0 → (w_X12_fillsFits h x1 x2 x3 (fun r5 h4 => (r5 ≤ 0 → (Q 0 h4)) ∧ (¬ (r5 ≤ 0) → (w_X12_sure_28 Q h4 0 0))))) ∧ (r1 = 0 → (Q (-1) h)))
/-- TwoAsksModel.sure(III)I -/
def w_X12_sure (h : hp) (x1 : Int32) (x2 : Int32) (x3 : Int32) (Q : Int32 → hp → Prop) : Prop := w_X12_sure_0 Q x1 x2 x3 h
def w_X12_span_0 (Q : Int32 → hp → Prop) (x1 : Int32) (x2 : Int32) (x3 : Int32) (x4 : Int32) (h : hp) : Prop :=
  w_X12_isAsked h x1 x2 x3 (fun r1 => (r1 = 0 → (Q (-1) h)) ∧ (¬ (r1 = 0) → (vp_in (gI h 0 18) 2 ∧ (w_X12_in (x4.toInt64) 0 (((gI h 19 (ix (gI h 0 18))) - 1).toInt64) (fun r4 => (¬ r4 = 0 → (w_X12_fillsFits h x1 x2 x3 (fun r8 h7 => (¬ r8 = 0 → (w_X12_spanOf h7 x4 (fun r10 => Q r10 h7))) ∧ (r8 = 0 → (Q (-2) h7))))) ∧ (r4 = 0 → (Q (-1) h)))))))
/-- TwoAsksModel.span(IIII)I -/
def w_X12_span (h : hp) (x1 : Int32) (x2 : Int32) (x3 : Int32) (x4 : Int32) (Q : Int32 → hp → Prop) : Prop := w_X12_span_0 Q x1 x2 x3 x4 h
def w_X12_liars_b58 (Q : Int32 → hp → Prop) (X36 : Int32 × Int32 → Prop) (x1 : Int32) (x5 : Int32) (h : hp) (X58 : Int32 × Int32 → Prop) (x4 : Int32) (x6 : Int32) : Prop :=
  (x1 ≤ x6 → (∀ x5_14, x5_14 = x5 + 1 → (X36 (x4, x5_14)))) ∧ (¬ (x1 ≤ x6) → (w_X12_isRight h x5 x6 (fun r15 => (r15 = 0 → (∀ x6_18, x6_18 = x6 + 1 → (X58 (x4, x6_18)))) ∧ (¬ (r15 = 0) → (∀ x4_19, x4_19 = x4 &&& ((jshl 1 x6) ^^^ (-1)) → (∀ x6_20, x6_20 = x6 + 1 → (X58 (x4_19, x6_20))))))))
def w_X12_liars_58 (Q : Int32 → hp → Prop) (X36 : Int32 × Int32 → Prop) (x1 : Int32) (x5 : Int32) (h : hp) (x4 : Int32) (x6 : Int32) : Prop :=
  wLoop (fun X58 (q : Int32 × Int32) => w_X12_liars_b58 Q X36 x1 x5 h X58 q.1 q.2) (x4, x6)
def w_X12_liars_b36 (Q : Int32 → hp → Prop) (x1 : Int32) (h : hp) (X36 : Int32 × Int32 → Prop) (x4 : Int32) (x5 : Int32) : Prop :=
  w_X12_worldAll h (fun r8 => (r8 ≤ x5 → (Q x4 h)) ∧ (¬ (r8 ≤ x5) → (vp_in x5 10000 ∧ (((gI h 40 (ix x5)) = 0 → (∀ x5_12, x5_12 = x5 + 1 → (X36 (x4, x5_12)))) ∧ (¬ ((gI h 40 (ix x5)) = 0) → (w_X12_liars_58 Q X36 x1 x5 h x4 0))))))
def w_X12_liars_36 (Q : Int32 → hp → Prop) (x1 : Int32) (h : hp) (x4 : Int32) (x5 : Int32) : Prop :=
  wLoop (fun X36 (q : Int32 × Int32) => w_X12_liars_b36 Q x1 h X36 q.1 q.2) (x4, x5)
def w_X12_liars_0 (Q : Int32 → hp → Prop) (x1 : Int32) (x2 : Int32) (x3 : Int32) (h : hp) : Prop :=
  w_X12_isAsked h x1 x2 x3 (fun r1 => (¬ r1 = 0 → (w_X12_fillsFits h x1 x2 x3 (fun r5 h4 => (¬ r5 = 0 → (∀ x4_7, x4_7 = (jshl 1 x1) - 1 → (w_X12_liars_36 Q x1 h4 x4_7 0))) ∧ (r5 = 0 → (w_X12_liars_36 Q x1 h4 0 0))))) ∧ (r1 = 0 → (Q (-1) h)))
/-- TwoAsksModel.liars(III)I -/
def w_X12_liars (h : hp) (x1 : Int32) (x2 : Int32) (x3 : Int32) (Q : Int32 → hp → Prop) : Prop := w_X12_liars_0 Q x1 x2 x3 h
def w_X12_next_b66 (Q : Int32 → hp → Prop) (X49 : Int32 × Int32 × Int32 × hp → Prop) (x4 : Int32) (x5 : Int32) (x6 : Int32) (x7 : Int32) (X66 : Int32 × Int32 × hp → Prop) (x8 : Int32) (x9 : Int32) (h : hp) : Prop :=
  w_X12_worldAll h (fun r13 => (r13 ≤ x9 → ((x6 < 0 → (∀ x7_17, x7_17 = x7 + 1 → (X49 (x7, x8, x7_17, h)))) ∧ (¬ (x6 < 0) → ((x8 < x6 → (∀ x7_19, x7_19 = x7 + 1 → (X49 (x7, x8, x7_19, h)))) ∧ (¬ (x8 < x6) → (∀ x7_20, x7_20 = x7 + 1 → (X49 (x5, x6, x7_20, h)))))))) ∧ (¬ (r13 ≤ x9) → (vp_in x9 10000 ∧ ((¬ (gI h 40 (ix x9)) = 0 → (w_X12_worldComes h x9 (x7.toInt64) (fun r22 => w_X12_keyAt h r22 x9 (fun r25 h24 => vp_in r25 32768 ∧ (vp_in r25 32768 ∧ ∀ h26, h26 = sI h24 36 (ix r25) ((gI h24 36 (ix r25)) + 1) → (vp_in r25 32768 ∧ (((gI h26 36 (ix r25)) ≤ x8 → (∀ x9_28, x9_28 = x9 + 1 → (X66 (x8, x9_28, h26)))) ∧ (¬ ((gI h26 36 (ix r25)) ≤ x8) → (vp_in r25 32768 ∧ (∀ x8_29, x8_29 = gI h26 36 (ix r25) → (∀ x9_30, x9_30 = x9 + 1 → (X66 (x8_29, x9_30, h26))))))))))))) ∧ ((gI h 40 (ix x9)) = 0 → (∀ x9_31, x9_31 = x9 + 1 → (X66 (x8, x9_31, h))))))))
def w_X12_next_66 (Q : Int32 → hp → Prop) (X49 : Int32 × Int32 × Int32 × hp → Prop) (x4 : Int32) (x5 : Int32) (x6 : Int32) (x7 : Int32) (x8 : Int32) (x9 : Int32) (h : hp) : Prop :=
  wLoop (fun X66 (q : Int32 × Int32 × hp) => w_X12_next_b66 Q X49 x4 x5 x6 x7 X66 q.1 q.2.1 q.2.2) (x8, x9, h)
def w_X12_next_b49 (Q : Int32 → hp → Prop) (x4 : Int32) (X49 : Int32 × Int32 × Int32 × hp → Prop) (x5 : Int32) (x6 : Int32) (x7 : Int32) (h : hp) : Prop :=
  (10 ≤ x7 → ((¬ x4 = 0 → (Q x6 h)) ∧ (x4 = 0 → (Q x5 h)))) ∧ (¬ (10 ≤ x7) → (w_X12_clears h (fun h12 => w_X12_next_66 Q X49 x4 x5 x6 x7 0 0 h12)))
def w_X12_next_49 (Q : Int32 → hp → Prop) (x4 : Int32) (x5 : Int32) (x6 : Int32) (x7 : Int32) (h : hp) : Prop :=
  wLoop (fun X49 (q : Int32 × Int32 × Int32 × hp) => w_X12_next_b49 Q x4 X49 q.1 q.2.1 q.2.2.1 q.2.2.2) (x5, x6, x7, h)
def w_X12_next_0 (Q : Int32 → hp → Prop) (x1 : Int32) (x2 : Int32) (x3 : Int32) (x4 : Int32) (h : hp) : Prop :=
  w_X12_isAsked h x1 x2 x3 (fun r1 => (r1 = 0 → (Q (-1000) h)) ∧ (¬ (r1 = 0) → (w_X12_in (x4.toInt64) 0 1 (fun r4 => (¬ r4 = 0 → (w_X12_fillsFits h x1 x2 x3 (fun r8 h7 => (¬ r8 = 0 → (w_X12_next_49 Q x4 0 (-1) (-9) h7)) ∧ (r8 = 0 → (Q (-2000) h7))))) ∧ (r4 = 0 → (Q (-1000) h))))))
/-- TwoAsksModel.next(IIII)I -/
def w_X12_next (h : hp) (x1 : Int32) (x2 : Int32) (x3 : Int32) (x4 : Int32) (Q : Int32 → hp → Prop) : Prop := w_X12_next_0 Q x1 x2 x3 x4 h
def w_X12_worldsAt_b22 (Q : Int32 → Prop) (x1 : Int32) (x2 : Int64) (h : hp) (X22 : Int32 × Int32 → Prop) (x4 : Int32) (x5 : Int32) : Prop :=
  w_X12_worldAll h (fun r4 => (r4 ≤ x5 → (Q x4)) ∧ (¬ (r4 ≤ x5) → (w_X12_worldComes h x5 (x1.toInt64) (fun r7 => (¬ r7 = x2 → (∀ x5_10, x5_10 = x5 + 1 → (X22 (x4, x5_10)))) ∧ (r7 = x2 → (∀ x4_11, x4_11 = x4 + 1 → (∀ x5_12, x5_12 = x5 + 1 → (X22 (x4_11, x5_12)))))))))
def w_X12_worldsAt_22 (Q : Int32 → Prop) (x1 : Int32) (x2 : Int64) (h : hp) (x4 : Int32) (x5 : Int32) : Prop :=
  wLoop (fun X22 (q : Int32 × Int32) => w_X12_worldsAt_b22 Q x1 x2 h X22 q.1 q.2) (x4, x5)
def w_X12_worldsAt_0 (Q : Int32 → Prop) (x1 : Int32) (x2 : Int64) (h : hp) : Prop :=
  w_X12_in (x1.toInt64) (-99) 99 (fun r1 => (¬ r1 = 0 → (w_X12_worldsAt_22 Q x1 x2 h 0 0)) ∧ (r1 = 0 → (Q (-1))))
/-- TwoAsksModel.worldsAt(IJ)I -/
def w_X12_worldsAt (h : hp) (x1 : Int32) (x2 : Int64) (Q : Int32 → Prop) : Prop := w_X12_worldsAt_0 Q x1 x2 h
def w_X12_cost_b20 (Q : Int32 → Prop) (x1 : Int32) (h : hp) (X20 : Int32 × Int32 → Prop) (x2 : Int32) (x3 : Int32) : Prop :=
  (x1 ≤ x3 → (Q x2)) ∧ (¬ (x1 ≤ x3) → (vp_in x3 20 ∧ (w_X12_figures ((gI h 38 (ix x3)).toInt64) (fun r5 => ∀ x2_7, x2_7 = x2 + r5 → (∀ x3_8, x3_8 = x3 + 1 → (X20 (x2_7, x3_8)))))))
def w_X12_cost_20 (Q : Int32 → Prop) (x1 : Int32) (h : hp) (x2 : Int32) (x3 : Int32) : Prop :=
  wLoop (fun X20 (q : Int32 × Int32) => w_X12_cost_b20 Q x1 h X20 q.1 q.2) (x2, x3)
def w_X12_cost_0 (Q : Int32 → Prop) (x1 : Int32) (h : hp) : Prop :=
  w_X12_in (x1.toInt64) 0 ((gI h 0 57).toInt64) (fun r1 => (¬ r1 = 0 → (w_X12_cost_20 Q x1 h 0 0)) ∧ (r1 = 0 → (Q (-1))))
/-- TwoAsksModel.cost(I)I -/
def w_X12_cost (h : hp) (x1 : Int32) (Q : Int32 → Prop) : Prop := w_X12_cost_0 Q x1 h
def w_X12_hide_0 (Q : Int32 → hp → Prop) (x1 : Int32) (h : hp) : Prop :=
  w_X12_isRow h x1 (fun r1 => (¬ r1 = 0 → (∀ h4, h4 = sI h 0 61 x1 → (∀ h5, h5 = sI h4 0 62 0 → (∀ h6, h6 = sI h5 0 57 0 → (Q 1 h6))))) ∧ (r1 = 0 → (Q 0 h)))
/-- TwoAsksModel.hide(I)Z -/
def w_X12_hide (h : hp) (x1 : Int32) (Q : Int32 → hp → Prop) : Prop := w_X12_hide_0 Q x1 h
def w_X12_ask_88 (Q : Int64 → hp → Prop) (x1 : Int32) (x2 : Int64) (h : hp) : Prop :=
  vp_in (gI h 0 57) 20 ∧ ∀ h12, h12 = sI h 38 (ix (gI h 0 57)) x1 → (vp_in (gI h12 0 57) 20 ∧ ∀ h13, h13 = sL h12 39 (ix (gI h12 0 57)) x2 → (∀ h14, h14 = sI h13 0 57 ((gI h13 0 57) + 1) → (Q x2 h14)))
def w_X12_ask_0 (Q : Int64 → hp → Prop) (x1 : Int32) (h : hp) : Prop :=
  ((gI h 0 61) < 0 → (Q (-2000000000000000000) h)) ∧ (¬ ((gI h 0 61) < 0) → (((gI h 0 57) = 20 → (Q (-2000000000000000000) h)) ∧ (¬ ((gI h 0 57) = 20) → (w_X12_in (x1.toInt64) (-99) 99 (fun r3 => (¬ r3 = 0 → (∀ h6, h6 = sI h 0 62 ((gI h 0 62) + 1) → (w_X12_comesBy h6 (gI h6 0 61) (x1.toInt64) (fun r7 => vp_in (gI h6 0 18) 2 ∧ (((gI h6 21 (ix (gI h6 0 18))) ≤ 0 → (w_X12_ask_88 Q x1 r7 h6)) ∧ (¬ ((gI h6 21 (ix (gI h6 0 18))) ≤ 0) → (vp_in (gI h6 0 18) 2 ∧ (¬ (gI h6 21 (ix (gI h6 0 18))) = 0 ∧ ((¬ (jrem (gI h6 0 62) (gI h6 21 (ix (gI h6 0 18)))) = 0 → (w_X12_ask_88 Q x1 r7 h6)) ∧ ((jrem (gI h6 0 62) (gI h6 21 (ix (gI h6 0 18)))) = 0 → (∀ x2_11, x2_11 = r7 + 1 → (w_X12_ask_88 Q x1 x2_11 h6)))))))))))) ∧ (r3 = 0 → (Q (-2000000000000000000) h)))))))
/-- TwoAsksModel.ask(I)J -/
def w_X12_ask (h : hp) (x1 : Int32) (Q : Int64 → hp → Prop) : Prop := w_X12_ask_0 Q x1 h
def w_X12_asksAfter_b32 (Q : Int32 → hp → Prop) (x1 : Int32) (x2 : Int64) (x4 : Int32) (X32 : Int32 × hp → Prop) (x5 : Int32) (h : hp) : Prop :=
  (3 ≤ x5 → (vp_in 3 6 ∧ ∀ h3, h3 = sI h 32 (ix 3) x1 → (vp_in 4 6 ∧ ∀ h4, h4 = sI h3 32 (ix 4) ((lrem x2 1000).toInt32) → (vp_in 5 6 ∧ ∀ h5, h5 = sI h4 32 (ix 5) x4 → (w_X12_tellsBy h5 (2 * (gI h5 0 18)) (fun r7 h6 => Q r7 h6)))))) ∧ (¬ (3 ≤ x5) → (vp_in x5 6 ∧ ∀ h8, h8 = sI h 32 (ix x5) 0 → (∀ x5_9, x5_9 = x5 + 1 → (X32 (x5_9, h8)))))
def w_X12_asksAfter_32 (Q : Int32 → hp → Prop) (x1 : Int32) (x2 : Int64) (x4 : Int32) (x5 : Int32) (h : hp) : Prop :=
  wLoop (fun X32 (q : Int32 × hp) => w_X12_asksAfter_b32 Q x1 x2 x4 X32 q.1 q.2) (x5, h)
def w_X12_asksAfter_0 (Q : Int32 → hp → Prop) (x1 : Int32) (x2 : Int64) (x4 : Int32) (h : hp) : Prop :=
  vp_in (2 * (gI h 0 18)) 4 ∧ (vp_in (2 * (gI h 0 18)) 4 ∧ ((¬ (gI h 22 (ix (2 * (gI h 0 18)))) = (gI h 23 (ix (2 * (gI h 0 18)))) → (w_X12_asksAfter_32 Q x1 x2 x4 0 h)) ∧ ((gI h 22 (ix (2 * (gI h 0 18)))) = (gI h 23 (ix (2 * (gI h 0 18)))) → (Q (x1 + 1) h))))
/-- TwoAsksModel.asksAfter(IJI)I -/
def w_X12_asksAfter (h : hp) (x1 : Int32) (x2 : Int64) (x4 : Int32) (Q : Int32 → hp → Prop) : Prop := w_X12_asksAfter_0 Q x1 x2 x4 h
def w_X12_asks_0 (Q : Int32 → hp → Prop) (h : hp) : Prop :=
  (¬ (gI h 0 57) = 0 → (vp_in ((gI h 0 57) - 1) 20 ∧ (vp_in ((gI h 0 57) - 1) 20 ∧ (w_X12_asksAfter h (gI h 0 57) (gL h 39 (ix ((gI h 0 57) - 1))) (gI h 38 (ix ((gI h 0 57) - 1))) (fun r3 h2 => Q r3 h2))))) ∧ ((gI h 0 57) = 0 → (w_X12_asksAfter h 0 0 0 (fun r5 h4 => Q r5 h4)))
/-- TwoAsksModel.asks()I -/
def w_X12_asks (h : hp) (Q : Int32 → hp → Prop) : Prop := w_X12_asks_0 Q h
def w_X12_isOneEnough_b27 (Q : Int32 → Prop) (X3 : Int32 → Prop) (X14 : Int32 × Int32 → Prop) (x1 : Int32) (x2 : Int32) (x4 : Int32) (h : hp) (X27 : Int32 × Int32 → Prop) (x3 : Int32) (x5 : Int32) : Prop :=
  (x4 ≤ x5 → (∀ x4_5, x4_5 = x4 + 1 → (X14 (x3, x4_5)))) ∧ (¬ (x4 ≤ x5) → ((x3 = 0 → (∀ x4_7, x4_7 = x4 + 1 → (X14 (x3, x4_7)))) ∧ (¬ (x3 = 0) → (vp_in x4 24 ∧ (((gI h 42 (ix x4)) = 0 → (∀ x5_9, x5_9 = x5 + 1 → (X27 (x3, x5_9)))) ∧ (¬ ((gI h 42 (ix x4)) = 0) → (vp_in x5 24 ∧ (((gI h 42 (ix x5)) = 0 → (∀ x5_11, x5_11 = x5 + 1 → (X27 (x3, x5_11)))) ∧ (¬ ((gI h 42 (ix x5)) = 0) → (vp_in x4 24 ∧ (w_X12_worldComes h (gI h 41 (ix x4)) (x2.toInt64) (fun r12 => vp_in x5 24 ∧ (w_X12_worldComes h (gI h 41 (ix x5)) (x2.toInt64) (fun r14 => (¬ r12 = r14 → (∀ x5_17, x5_17 = x5 + 1 → (X27 (x3, x5_17)))) ∧ (r12 = r14 → (∀ x5_18, x5_18 = x5 + 1 → (X27 (0, x5_18))))))))))))))))))
def w_X12_isOneEnough_27 (Q : Int32 → Prop) (X3 : Int32 → Prop) (X14 : Int32 × Int32 → Prop) (x1 : Int32) (x2 : Int32) (x4 : Int32) (h : hp) (x3 : Int32) (x5 : Int32) : Prop :=
  wLoop (fun X27 (q : Int32 × Int32) => w_X12_isOneEnough_b27 Q X3 X14 x1 x2 x4 h X27 q.1 q.2) (x3, x5)
def w_X12_isOneEnough_102 (Q : Int32 → Prop) (X3 : Int32 → Prop) (x1 : Int32) (x2 : Int32) (x3 : Int32) (h : hp) : Prop :=
  (x3 = 0 → (∀ x2_20, x2_20 = x2 + 1 → (X3 x2_20))) ∧ (¬ (x3 = 0) → (Q 1))
def w_X12_isOneEnough_b14 (Q : Int32 → Prop) (X3 : Int32 → Prop) (x1 : Int32) (x2 : Int32) (h : hp) (X14 : Int32 × Int32 → Prop) (x3 : Int32) (x4 : Int32) : Prop :=
  (x1 ≤ x4 → (w_X12_isOneEnough_102 Q X3 x1 x2 x3 h)) ∧ (¬ (x1 ≤ x4) → ((x3 = 0 → (w_X12_isOneEnough_102 Q X3 x1 x2 x3 h)) ∧ (¬ (x3 = 0) → (w_X12_isOneEnough_27 Q X3 X14 x1 x2 x4 h x3 0))))
def w_X12_isOneEnough_14 (Q : Int32 → Prop) (X3 : Int32 → Prop) (x1 : Int32) (x2 : Int32) (h : hp) (x3 : Int32) (x4 : Int32) : Prop :=
  wLoop (fun X14 (q : Int32 × Int32) => w_X12_isOneEnough_b14 Q X3 x1 x2 h X14 q.1 q.2) (x3, x4)
def w_X12_isOneEnough_b3 (Q : Int32 → Prop) (x1 : Int32) (h : hp) (X3 : Int32 → Prop) (x2 : Int32) : Prop :=
  (10 ≤ x2 → (Q 0)) ∧ (¬ (10 ≤ x2) → (w_X12_isOneEnough_14 Q X3 x1 x2 h 1 0))
def w_X12_isOneEnough_3 (Q : Int32 → Prop) (x1 : Int32) (h : hp) (x2 : Int32) : Prop :=
  wLoop (fun X3 (q : Int32) => w_X12_isOneEnough_b3 Q x1 h X3 q) x2
def w_X12_isOneEnough_0 (Q : Int32 → Prop) (x1 : Int32) (h : hp) : Prop :=
  w_X12_isOneEnough_3 Q x1 h (-9)
/-- TwoAsksModel.isOneEnough(I)Z -/
def w_X12_isOneEnough (h : hp) (x1 : Int32) (Q : Int32 → Prop) : Prop := w_X12_isOneEnough_0 Q x1 h
def w_X12_areTwoEnough_78 (Q : Int32 → hp → Prop) (X3 : Int32 × hp → Prop) (X14 : Int32 × Int32 × hp → Prop) (X42 : Int32 × hp → Prop) (x1 : Int32) (x2 : Int32) (x4 : Int32) (x5 : Int64) (x7 : Int32) (h : hp) (s0 : Int32) (s1 : Int32) : Prop :=
  vp_in s1 24 ∧ ∀ h13, h13 = sI h 42 (ix s1) (jz s0) → (∀ x7_14, x7_14 = x7 + 1 → (X42 (x7_14, h13)))
def w_X12_areTwoEnough_b42 (Q : Int32 → hp → Prop) (X3 : Int32 × hp → Prop) (X14 : Int32 × Int32 × hp → Prop) (x1 : Int32) (x2 : Int32) (x4 : Int32) (x5 : Int64) (X42 : Int32 × hp → Prop) (x7 : Int32) (h : hp) : Prop :=
  (x1 ≤ x7 → (w_X12_isOneEnough h x1 (fun r7 => ∀ x4_9, x4_9 = x4 + 1 → (X14 (r7, x4_9, h))))) ∧ (¬ (x1 ≤ x7) → (vp_in x7 24 ∧ (w_X12_worldComes h (gI h 41 (ix x7)) (x2.toInt64) (fun r10 => (¬ r10 = x5 → (w_X12_areTwoEnough_78 Q X3 X14 X42 x1 x2 x4 x5 x7 h 0 x7)) ∧ (r10 = x5 → (w_X12_areTwoEnough_78 Q X3 X14 X42 x1 x2 x4 x5 x7 h 1 x7))))))
def w_X12_areTwoEnough_42 (Q : Int32 → hp → Prop) (X3 : Int32 × hp → Prop) (X14 : Int32 × Int32 × hp → Prop) (x1 : Int32) (x2 : Int32) (x4 : Int32) (x5 : Int64) (x7 : Int32) (h : hp) : Prop :=
  wLoop (fun X42 (q : Int32 × hp) => w_X12_areTwoEnough_b42 Q X3 X14 x1 x2 x4 x5 X42 q.1 q.2) (x7, h)
def w_X12_areTwoEnough_97 (Q : Int32 → hp → Prop) (X3 : Int32 × hp → Prop) (x1 : Int32) (x2 : Int32) (x3 : Int32) (h : hp) : Prop :=
  (x3 = 0 → (∀ x2_16, x2_16 = x2 + 1 → (X3 (x2_16, h)))) ∧ (¬ (x3 = 0) → (Q 1 h))
def w_X12_areTwoEnough_b14 (Q : Int32 → hp → Prop) (X3 : Int32 × hp → Prop) (x1 : Int32) (x2 : Int32) (X14 : Int32 × Int32 × hp → Prop) (x3 : Int32) (x4 : Int32) (h : hp) : Prop :=
  (x1 ≤ x4 → (w_X12_areTwoEnough_97 Q X3 x1 x2 x3 h)) ∧ (¬ (x1 ≤ x4) → ((x3 = 0 → (w_X12_areTwoEnough_97 Q X3 x1 x2 x3 h)) ∧ (¬ (x3 = 0) → (vp_in x4 24 ∧ (w_X12_worldComes h (gI h 41 (ix x4)) (x2.toInt64) (fun r4 => w_X12_areTwoEnough_42 Q X3 X14 x1 x2 x4 r4 0 h))))))
def w_X12_areTwoEnough_14 (Q : Int32 → hp → Prop) (X3 : Int32 × hp → Prop) (x1 : Int32) (x2 : Int32) (x3 : Int32) (x4 : Int32) (h : hp) : Prop :=
  wLoop (fun X14 (q : Int32 × Int32 × hp) => w_X12_areTwoEnough_b14 Q X3 x1 x2 X14 q.1 q.2.1 q.2.2) (x3, x4, h)
def w_X12_areTwoEnough_b3 (Q : Int32 → hp → Prop) (x1 : Int32) (X3 : Int32 × hp → Prop) (x2 : Int32) (h : hp) : Prop :=
  (10 ≤ x2 → (Q 0 h)) ∧ (¬ (10 ≤ x2) → (w_X12_areTwoEnough_14 Q X3 x1 x2 1 0 h))
def w_X12_areTwoEnough_3 (Q : Int32 → hp → Prop) (x1 : Int32) (x2 : Int32) (h : hp) : Prop :=
  wLoop (fun X3 (q : Int32 × hp) => w_X12_areTwoEnough_b3 Q x1 X3 q.1 q.2) (x2, h)
def w_X12_areTwoEnough_0 (Q : Int32 → hp → Prop) (x1 : Int32) (h : hp) : Prop :=
  w_X12_areTwoEnough_3 Q x1 (-9) h
/-- TwoAsksModel.areTwoEnough(I)Z -/
def w_X12_areTwoEnough (h : hp) (x1 : Int32) (Q : Int32 → hp → Prop) : Prop := w_X12_areTwoEnough_0 Q x1 h
def w_X12_enough_b45 (Q : Int32 → hp → Prop) (x4 : Int32) (X45 : Int32 × Int32 × hp → Prop) (x5 : Int32) (x6 : Int32) (h : hp) : Prop :=
  w_X12_worldAll h (fun r8 => (r8 ≤ x6 → (w_X12_isOneEnough h x4 (fun r11 => (r11 = 0 → (w_X12_areTwoEnough h x4 (fun r15 h14 => (r15 = 0 → (Q 3 h14)) ∧ (¬ (r15 = 0) → (Q 2 h14))))) ∧ (¬ (r11 = 0) → (Q 1 h))))) ∧ (¬ (r8 ≤ x6) → (vp_in x6 10000 ∧ ((¬ (gI h 40 (ix x6)) = 0 → (vp_in x5 24 ∧ ∀ h18, h18 = sI h 41 (ix x5) x6 → (vp_in x5 24 ∧ ∀ h19, h19 = sI h18 42 (ix x5) (jz 1) → (∀ x5_20, x5_20 = x5 + 1 → (∀ x6_21, x6_21 = x6 + 1 → (X45 (x5_20, x6_21, h19))))))) ∧ ((gI h 40 (ix x6)) = 0 → (∀ x6_22, x6_22 = x6 + 1 → (X45 (x5, x6_22, h))))))))
def w_X12_enough_45 (Q : Int32 → hp → Prop) (x4 : Int32) (x5 : Int32) (x6 : Int32) (h : hp) : Prop :=
  wLoop (fun X45 (q : Int32 × Int32 × hp) => w_X12_enough_b45 Q x4 X45 q.1 q.2.1 q.2.2) (x5, x6, h)
def w_X12_enough_0 (Q : Int32 → hp → Prop) (x1 : Int32) (x2 : Int32) (x3 : Int32) (h : hp) : Prop :=
  w_X12_isAsked h x1 x2 x3 (fun r1 => (¬ r1 = 0 → (w_X12_fillsFits h x1 x2 x3 (fun r5 h4 => (r5 ≤ 24 → ((2 ≤ r5 → (w_X12_enough_45 Q r5 0 0 h4)) ∧ (¬ (2 ≤ r5) → (Q 0 h4)))) ∧ (¬ (r5 ≤ 24) → (Q (-2) h4))))) ∧ (r1 = 0 → (Q (-1) h)))
/-- TwoAsksModel.enough(III)I -/
def w_X12_enough (h : hp) (x1 : Int32) (x2 : Int32) (x3 : Int32) (Q : Int32 → hp → Prop) : Prop := w_X12_enough_0 Q x1 x2 x3 h
def w_X12_plays_b109 (Q : hp → Prop) (X43 : Int32 × Int64 × Int32 × hp → Prop) (x1 : Int32) (x3 : Int32) (x4 : Int64) (x6 : Int32) (X109 : Int32 × Int32 × hp → Prop) (x2 : Int32) (x7 : Int32) (h : hp) : Prop :=
  (x3 ≤ x7 → (X43 (x2, x4, x6, h))) ∧ (¬ (x3 ≤ x7) → (vp_in x7 10000 ∧ (((gI h 40 (ix x7)) = 0 → (∀ x7_20, x7_20 = x7 + 1 → (X109 (x2, x7_20, h)))) ∧ (¬ ((gI h 40 (ix x7)) = 0) → (w_X12_worldComes h x7 (x6.toInt64) (fun r21 => (¬ r21 = x4 → (vp_in x7 10000 ∧ ∀ h24, h24 = sI h 40 (ix x7) (jz 0) → (∀ x2_25, x2_25 = x2 + (-1) → (∀ x7_26, x7_26 = x7 + 1 → (X109 (x2_25, x7_26, h24)))))) ∧ (r21 = x4 → (∀ x7_27, x7_27 = x7 + 1 → (X109 (x2, x7_27, h))))))))))
def w_X12_plays_109 (Q : hp → Prop) (X43 : Int32 × Int64 × Int32 × hp → Prop) (x1 : Int32) (x3 : Int32) (x4 : Int64) (x6 : Int32) (x2 : Int32) (x7 : Int32) (h : hp) : Prop :=
  wLoop (fun X109 (q : Int32 × Int32 × hp) => w_X12_plays_b109 Q X43 x1 x3 x4 x6 X109 q.1 q.2.1 q.2.2) (x2, x7, h)
def w_X12_plays_163 (Q : hp → Prop) (x2 : Int32) (h : hp) : Prop :=
  (x2 ≤ 1 → (Q h)) ∧ (¬ (x2 ≤ 1) → (∀ h29, h29 = sI h 0 65 (-2) → (Q h29)))
def w_X12_plays_b43 (Q : hp → Prop) (x1 : Int32) (x3 : Int32) (X43 : Int32 × Int64 × Int32 × hp → Prop) (x2 : Int32) (x4 : Int64) (x6 : Int32) (h : hp) : Prop :=
  (x2 ≤ 1 → (w_X12_plays_163 Q x2 h)) ∧ (¬ (x2 ≤ 1) → ((50 ≤ (gI h 0 65) → (w_X12_plays_163 Q x2 h)) ∧ (¬ (50 ≤ (gI h 0 65)) → (w_X12_asksAfter h (gI h 0 65) x4 x6 (fun r11 h10 => w_X12_worldComes h10 x1 (r11.toInt64) (fun r12 => ∀ h14, h14 = sI h10 0 65 ((gI h10 0 65) + 1) → (w_X12_figures (r11.toInt64) (fun r15 => ∀ h17, h17 = sI h14 0 66 ((gI h14 0 66) + r15) → (w_X12_plays_109 Q X43 x1 x3 r12 r11 x2 0 h17)))))))))
def w_X12_plays_43 (Q : hp → Prop) (x1 : Int32) (x3 : Int32) (x2 : Int32) (x4 : Int64) (x6 : Int32) (h : hp) : Prop :=
  wLoop (fun X43 (q : Int32 × Int64 × Int32 × hp) => w_X12_plays_b43 Q x1 x3 X43 q.1 q.2.1 q.2.2.1 q.2.2.2) (x2, x4, x6, h)
def w_X12_plays_b7 (Q : hp → Prop) (x1 : Int32) (x2 : Int32) (X7 : Int32 × hp → Prop) (x3 : Int32) (h : hp) : Prop :=
  (x2 ≤ x3 → (∀ h4, h4 = sI h 0 65 0 → (∀ h5, h5 = sI h4 0 66 0 → (w_X12_plays_43 Q x1 x2 x2 0 0 h5)))) ∧ (¬ (x2 ≤ x3) → (vp_in x3 10000 ∧ ∀ h6, h6 = sI h 40 (ix x3) (jz 1) → (∀ x3_7, x3_7 = x3 + 1 → (X7 (x3_7, h6)))))
def w_X12_plays_7 (Q : hp → Prop) (x1 : Int32) (x2 : Int32) (x3 : Int32) (h : hp) : Prop :=
  wLoop (fun X7 (q : Int32 × hp) => w_X12_plays_b7 Q x1 x2 X7 q.1 q.2) (x3, h)
def w_X12_plays_0 (Q : hp → Prop) (x1 : Int32) (h : hp) : Prop :=
  w_X12_worldAll h (fun r1 => w_X12_plays_7 Q x1 r1 0 h)
/-- TwoAsksModel.plays(I)V -/
def w_X12_plays (h : hp) (x1 : Int32) (Q : hp → Prop) : Prop := w_X12_plays_0 Q x1 h
def w_X12_game_0 (Q : Int32 → hp → Prop) (x1 : Int32) (x2 : Int32) (h : hp) : Prop :=
  w_X12_worldAll h (fun r1 => w_X12_in (x1.toInt64) 0 ((r1 - 1).toInt64) (fun r3 => (r3 = 0 → (Q (-1) h)) ∧ (¬ (r3 = 0) → (w_X12_in (x2.toInt64) 0 1 (fun r6 => (¬ r6 = 0 → (w_X12_plays h x1 (fun h9 => (¬ x2 = 0 → (Q (gI h9 0 66) h9)) ∧ (x2 = 0 → (Q (gI h9 0 65) h9))))) ∧ (r6 = 0 → (Q (-1) h)))))))
/-- TwoAsksModel.game(II)I -/
def w_X12_game (h : hp) (x1 : Int32) (x2 : Int32) (Q : Int32 → hp → Prop) : Prop := w_X12_game_0 Q x1 x2 h
def w_X12_sumOf_b4 (Q : Int32 → Prop) (x1 : Int32) (h : hp) (X4 : Int32 × Int32 → Prop) (x2 : Int32) (x3 : Int32) : Prop :=
  vp_in (gI h 0 18) 2 ∧ (((gI h 17 (ix (gI h 0 18))) ≤ x3 → (Q x2)) ∧ (¬ ((gI h 17 (ix (gI h 0 18))) ≤ x3) → ((¬ ((jshr x1 x3) &&& 1) = 1 → (∀ x3_3, x3_3 = x3 + 1 → (X4 (x2, x3_3)))) ∧ (((jshr x1 x3) &&& 1) = 1 → (vp_in ((9 * (gI h 0 18)) + x3) 18 ∧ (∀ x2_4, x2_4 = x2 + (gI h 18 (ix ((9 * (gI h 0 18)) + x3))) → (∀ x3_5, x3_5 = x3 + 1 → (X4 (x2_4, x3_5)))))))))
def w_X12_sumOf_4 (Q : Int32 → Prop) (x1 : Int32) (h : hp) (x2 : Int32) (x3 : Int32) : Prop :=
  wLoop (fun X4 (q : Int32 × Int32) => w_X12_sumOf_b4 Q x1 h X4 q.1 q.2) (x2, x3)
def w_X12_sumOf_0 (Q : Int32 → Prop) (x1 : Int32) (h : hp) : Prop :=
  w_X12_sumOf_4 Q x1 h 0 0
/-- TwoAsksModel.sumOf(I)I -/
def w_X12_sumOf (h : hp) (x1 : Int32) (Q : Int32 → Prop) : Prop := w_X12_sumOf_0 Q x1 h
def w_X12_bad_b31 (Q : Int32 → Prop) (x1 : Int32) (x2 : Int32) (h : hp) (X31 : Int32 × Int32 → Prop) (x3 : Int32) (x4 : Int32) : Prop :=
  vp_in (gI h 0 18) 2 ∧ (((jshl 1 (gI h 17 (ix (gI h 0 18)))) ≤ x4 → (Q x3)) ∧ (¬ ((jshl 1 (gI h 17 (ix (gI h 0 18)))) ≤ x4) → (w_X12_sumOf h x4 (fun r8 => (¬ (r8 * x2) = x1 → (∀ x4_11, x4_11 = x4 + 1 → (X31 (x3, x4_11)))) ∧ ((r8 * x2) = x1 → (∀ x3_12, x3_12 = x3 + 1 → (∀ x4_13, x4_13 = x4 + 1 → (X31 (x3_12, x4_13)))))))))
def w_X12_bad_31 (Q : Int32 → Prop) (x1 : Int32) (x2 : Int32) (h : hp) (x3 : Int32) (x4 : Int32) : Prop :=
  wLoop (fun X31 (q : Int32 × Int32) => w_X12_bad_b31 Q x1 x2 h X31 q.1 q.2) (x3, x4)
def w_X12_bad_0 (Q : Int32 → Prop) (x1 : Int32) (x2 : Int32) (h : hp) : Prop :=
  w_X12_in (x1.toInt64) 0 999999 (fun r1 => (r1 = 0 → (Q (-1))) ∧ (¬ (r1 = 0) → (w_X12_in (x2.toInt64) 1 99 (fun r4 => (¬ r4 = 0 → (w_X12_bad_31 Q x1 x2 h 0 0)) ∧ (r4 = 0 → (Q (-1)))))))
/-- TwoAsksModel.bad(II)I -/
def w_X12_bad (h : hp) (x1 : Int32) (x2 : Int32) (Q : Int32 → Prop) : Prop := w_X12_bad_0 Q x1 x2 h
def w_X12_badSet_b28 (Q : Int32 → Prop) (x1 : Int32) (x2 : Int32) (h : hp) (X28 : Int32 → Prop) (x3 : Int32) : Prop :=
  vp_in (gI h 0 18) 2 ∧ (((jshl 1 (gI h 17 (ix (gI h 0 18)))) ≤ x3 → (Q (-2))) ∧ (¬ ((jshl 1 (gI h 17 (ix (gI h 0 18)))) ≤ x3) → (w_X12_sumOf h x3 (fun r8 => (¬ (r8 * x2) = x1 → (∀ x3_11, x3_11 = x3 + 1 → (X28 x3_11))) ∧ ((r8 * x2) = x1 → (Q x3))))))
def w_X12_badSet_28 (Q : Int32 → Prop) (x1 : Int32) (x2 : Int32) (h : hp) (x3 : Int32) : Prop :=
  wLoop (fun X28 (q : Int32) => w_X12_badSet_b28 Q x1 x2 h X28 q) x3
def w_X12_badSet_0 (Q : Int32 → Prop) (x1 : Int32) (x2 : Int32) (h : hp) : Prop :=
  w_X12_in (x1.toInt64) 0 999999 (fun r1 => (r1 = 0 → (Q (-1))) ∧ (¬ (r1 = 0) → (w_X12_in (x2.toInt64) 1 99 (fun r4 => (¬ r4 = 0 → (w_X12_badSet_28 Q x1 x2 h 0)) ∧ (r4 = 0 → (Q (-1)))))))
/-- TwoAsksModel.badSet(II)I -/
def w_X12_badSet (h : hp) (x1 : Int32) (x2 : Int32) (Q : Int32 → Prop) : Prop := w_X12_badSet_0 Q x1 x2 h
def w_X12_allTold_b21 (Q : Int32 → Prop) (X2 : Int32 → Prop) (x1 : Int32) (h : hp) (X21 : Int32 → Prop) (x2 : Int32) : Prop :=
  vp_in (gI h 0 18) 2 ∧ (((jshl 1 (gI h 17 (ix (gI h 0 18)))) ≤ x2 → (∀ x1_4, x1_4 = x1 + 1 → (X2 x1_4))) ∧ (¬ ((jshl 1 (gI h 17 (ix (gI h 0 18)))) ≤ x2) → (w_X12_sumOf h x1 (fun r5 => w_X12_sumOf h x2 (fun r7 => (¬ r5 = r7 → (∀ x2_10, x2_10 = x2 + 1 → (X21 x2_10))) ∧ (r5 = r7 → (Q 0)))))))
def w_X12_allTold_21 (Q : Int32 → Prop) (X2 : Int32 → Prop) (x1 : Int32) (h : hp) (x2 : Int32) : Prop :=
  wLoop (fun X21 (q : Int32) => w_X12_allTold_b21 Q X2 x1 h X21 q) x2
def w_X12_allTold_b2 (Q : Int32 → Prop) (h : hp) (X2 : Int32 → Prop) (x1 : Int32) : Prop :=
  vp_in (gI h 0 18) 2 ∧ (((jshl 1 (gI h 17 (ix (gI h 0 18)))) ≤ x1 → (Q 1)) ∧ (¬ ((jshl 1 (gI h 17 (ix (gI h 0 18)))) ≤ x1) → (∀ x2_2, x2_2 = x1 + 1 → (w_X12_allTold_21 Q X2 x1 h x2_2))))
def w_X12_allTold_2 (Q : Int32 → Prop) (h : hp) (x1 : Int32) : Prop :=
  wLoop (fun X2 (q : Int32) => w_X12_allTold_b2 Q h X2 q) x1
def w_X12_allTold_0 (Q : Int32 → Prop) (h : hp) : Prop :=
  w_X12_allTold_2 Q h 0
/-- TwoAsksModel.allTold()Z -/
def w_X12_allTold (h : hp) (Q : Int32 → Prop) : Prop := w_X12_allTold_0 Q h
def w_X12_margin_64 (Q : Int32 → Prop) (X19 : Int32 × Int32 → Prop) (X36 : Int32 × Int32 → Prop) (x1 : Int32) (x2 : Int32) (x3 : Int32) (x4 : Int32) (h : hp) : Prop :=
  (x1 < 0 → (∀ x3_13, x3_13 = x3 + 1 → (X36 (x4, x3_13)))) ∧ (¬ (x1 < 0) → ((x1 ≤ x4 → (∀ x3_15, x3_15 = x3 + 1 → (X36 (x1, x3_15)))) ∧ (¬ (x1 ≤ x4) → (∀ x3_16, x3_16 = x3 + 1 → (X36 (x4, x3_16))))))
def w_X12_margin_b36 (Q : Int32 → Prop) (X19 : Int32 × Int32 → Prop) (x2 : Int32) (h : hp) (X36 : Int32 × Int32 → Prop) (x1 : Int32) (x3 : Int32) : Prop :=
  (x2 ≤ x3 → (∀ x2_4, x2_4 = x2 + 1 → (X19 (x1, x2_4)))) ∧ (¬ (x2 ≤ x3) → (w_X12_sumOf h x2 (fun r5 => w_X12_sumOf h x3 (fun r7 => ∀ x4_9, x4_9 = r5 - r7 → ((0 ≤ x4_9 → (w_X12_margin_64 Q X19 X36 x1 x2 x3 x4_9 h)) ∧ (¬ (0 ≤ x4_9) → (∀ x4_11, x4_11 = -x4_9 → (w_X12_margin_64 Q X19 X36 x1 x2 x3 x4_11 h))))))))
def w_X12_margin_36 (Q : Int32 → Prop) (X19 : Int32 × Int32 → Prop) (x2 : Int32) (h : hp) (x1 : Int32) (x3 : Int32) : Prop :=
  wLoop (fun X36 (q : Int32 × Int32) => w_X12_margin_b36 Q X19 x2 h X36 q.1 q.2) (x1, x3)
def w_X12_margin_b19 (Q : Int32 → Prop) (h : hp) (X19 : Int32 × Int32 → Prop) (x1 : Int32) (x2 : Int32) : Prop :=
  vp_in (gI h 0 18) 2 ∧ (((jshl 1 (gI h 17 (ix (gI h 0 18)))) ≤ x2 → (Q x1)) ∧ (¬ ((jshl 1 (gI h 17 (ix (gI h 0 18)))) ≤ x2) → (w_X12_margin_36 Q X19 x2 h x1 0)))
def w_X12_margin_19 (Q : Int32 → Prop) (h : hp) (x1 : Int32) (x2 : Int32) : Prop :=
  wLoop (fun X19 (q : Int32 × Int32) => w_X12_margin_b19 Q h X19 q.1 q.2) (x1, x2)
def w_X12_margin_0 (Q : Int32 → Prop) (h : hp) : Prop :=
  vp_in (gI h 0 18) 2 ∧ ((¬ (gI h 17 (ix (gI h 0 18))) = 0 → (w_X12_margin_19 Q h (-1) 0)) ∧ ((gI h 17 (ix (gI h 0 18))) = 0 → (Q (-2))))
/-- TwoAsksModel.margin()I -/
def w_X12_margin (h : hp) (Q : Int32 → Prop) : Prop := w_X12_margin_0 Q h
def w_X12_bits_b4 (Q : Int32 → Prop) (x0 : Int32) (X4 : Int32 × Int32 → Prop) (x1 : Int32) (x2 : Int32) : Prop :=
  (8 ≤ x2 → (Q x1)) ∧ (¬ (8 ≤ x2) → (∀ x1_2, x1_2 = x1 + ((jshr x0 x2) &&& 1) → (∀ x2_3, x2_3 = x2 + 1 → (X4 (x1_2, x2_3)))))
def w_X12_bits_4 (Q : Int32 → Prop) (x0 : Int32) (x1 : Int32) (x2 : Int32) : Prop :=
  wLoop (fun X4 (q : Int32 × Int32) => w_X12_bits_b4 Q x0 X4 q.1 q.2) (x1, x2)
def w_X12_bits_0 (Q : Int32 → Prop) (x0 : Int32) : Prop :=
  w_X12_bits_4 Q x0 0 0
/-- TwoAsksModel.bits(I)I -/
def w_X12_bits (x0 : Int32) (Q : Int32 → Prop) : Prop := w_X12_bits_0 Q x0
def w_X12_turned_b2 (Q : Int32 → Prop) (x1 : Int32) (h : hp) (X2 : Int32 → Prop) (x2 : Int32) : Prop :=
  w_X12_restOf h (x1 * x2) (fun r1 => (r1 = 1 → (Q x2)) ∧ (¬ (r1 = 1) → (∀ x2_4, x2_4 = x2 + 1 → (X2 x2_4))))
def w_X12_turned_2 (Q : Int32 → Prop) (x1 : Int32) (h : hp) (x2 : Int32) : Prop :=
  wLoop (fun X2 (q : Int32) => w_X12_turned_b2 Q x1 h X2 q) x2
def w_X12_turned_0 (Q : Int32 → Prop) (x1 : Int32) (h : hp) : Prop :=
  w_X12_turned_2 Q x1 h 1
/-- TwoAsksModel.turned(I)I -/
def w_X12_turned (h : hp) (x1 : Int32) (Q : Int32 → Prop) : Prop := w_X12_turned_0 Q x1 h
def w_X12_rowComes_b55 (Q : Int32 → Prop) (X5 : Int32 × Int32 → Prop) (x1 : Int32) (x2 : Int32) (x3 : Int32) (x4 : Int32) (h : hp) (X55 : Int32 × Int32 → Prop) (x5 : Int32) (x6 : Int32) : Prop :=
  vp_in (gI h 0 18) 2 ∧ (((gI h 13 (ix (gI h 0 18))) ≤ x6 → (w_X12_restOf h (x3 + x5) (fun r7 => ∀ x4_9, x4_9 = x4 + 1 → (X5 (r7, x4_9))))) ∧ (¬ ((gI h 13 (ix (gI h 0 18))) ≤ x6) → ((x6 = x4 → (∀ x6_11, x6_11 = x6 + 1 → (X55 (x5, x6_11)))) ∧ (¬ (x6 = x4) → ((¬ ((jshr x1 x6) &&& 1) = 0 → (vp_in ((8 * (gI h 0 18)) + x6) 16 ∧ (w_X12_restOf h (x2 - (gI h 14 (ix ((8 * (gI h 0 18)) + x6)))) (fun r13 => w_X12_restOf h (x5 * r13) (fun r15 => vp_in ((8 * (gI h 0 18)) + x4) 16 ∧ (vp_in ((8 * (gI h 0 18)) + x6) 16 ∧ (w_X12_restOf h ((gI h 14 (ix ((8 * (gI h 0 18)) + x4))) - (gI h 14 (ix ((8 * (gI h 0 18)) + x6)))) (fun r17 => w_X12_turned h r17 (fun r19 => w_X12_restOf h (r15 * r19) (fun r21 => ∀ x6_23, x6_23 = x6 + 1 → (X55 (r21, x6_23)))))))))))) ∧ (((jshr x1 x6) &&& 1) = 0 → (∀ x6_24, x6_24 = x6 + 1 → (X55 (x5, x6_24)))))))))
def w_X12_rowComes_55 (Q : Int32 → Prop) (X5 : Int32 × Int32 → Prop) (x1 : Int32) (x2 : Int32) (x3 : Int32) (x4 : Int32) (h : hp) (x5 : Int32) (x6 : Int32) : Prop :=
  wLoop (fun X55 (q : Int32 × Int32) => w_X12_rowComes_b55 Q X5 x1 x2 x3 x4 h X55 q.1 q.2) (x5, x6)
def w_X12_rowComes_b5 (Q : Int32 → Prop) (x1 : Int32) (x2 : Int32) (h : hp) (X5 : Int32 × Int32 → Prop) (x3 : Int32) (x4 : Int32) : Prop :=
  vp_in (gI h 0 18) 2 ∧ (((gI h 13 (ix (gI h 0 18))) ≤ x4 → (Q x3)) ∧ (¬ ((gI h 13 (ix (gI h 0 18))) ≤ x4) → ((¬ ((jshr x1 x4) &&& 1) = 0 → (vp_in ((8 * (gI h 0 18)) + x4) 16 ∧ (w_X12_restOf h (gI h 15 (ix ((8 * (gI h 0 18)) + x4))) (fun r3 => w_X12_rowComes_55 Q X5 x1 x2 x3 x4 h r3 0)))) ∧ (((jshr x1 x4) &&& 1) = 0 → (∀ x4_5, x4_5 = x4 + 1 → (X5 (x3, x4_5)))))))
def w_X12_rowComes_5 (Q : Int32 → Prop) (x1 : Int32) (x2 : Int32) (h : hp) (x3 : Int32) (x4 : Int32) : Prop :=
  wLoop (fun X5 (q : Int32 × Int32) => w_X12_rowComes_b5 Q x1 x2 h X5 q.1 q.2) (x3, x4)
def w_X12_rowComes_0 (Q : Int32 → Prop) (x1 : Int32) (x2 : Int32) (h : hp) : Prop :=
  w_X12_rowComes_5 Q x1 x2 h 0 0
/-- TwoAsksModel.rowComes(II)I -/
def w_X12_rowComes (h : hp) (x1 : Int32) (x2 : Int32) (Q : Int32 → Prop) : Prop := w_X12_rowComes_0 Q x1 x2 h
def w_X12_isSet_0 (Q : Int32 → Prop) (x1 : Int32) (h : hp) : Prop :=
  vp_in (gI h 0 18) 2 ∧ (w_X12_in (x1.toInt64) 1 (((jshl 1 (gI h 13 (ix (gI h 0 18)))) - 1).toInt64) (fun r1 => (r1 = 0 → (Q 0)) ∧ (¬ (r1 = 0) → (w_X12_bits x1 (fun r4 => (7 ≤ r4 → (Q 0)) ∧ (¬ (7 ≤ r4) → (Q 1)))))))
/-- TwoAsksModel.isSet(I)Z -/
def w_X12_isSet (h : hp) (x1 : Int32) (Q : Int32 → Prop) : Prop := w_X12_isSet_0 Q x1 h
def w_X12_secret_0 (Q : Int32 → Prop) (x1 : Int32) (h : hp) : Prop :=
  w_X12_isSet h x1 (fun r1 => (r1 = 0 → (Q (-1))) ∧ (¬ (r1 = 0) → (w_X12_rowComes h x1 0 (fun r4 => Q r4))))
/-- TwoAsksModel.secret(I)I -/
def w_X12_secret (h : hp) (x1 : Int32) (Q : Int32 → Prop) : Prop := w_X12_secret_0 Q x1 h
def w_X12_shared_0 (Q : Int32 → Prop) (x1 : Int32) (x2 : Int32) (h : hp) : Prop :=
  w_X12_isSet h x1 (fun r1 => (r1 = 0 → (Q (-1))) ∧ (¬ (r1 = 0) → (w_X12_in (x2.toInt64) 0 96 (fun r4 => (r4 = 0 → (Q (-1))) ∧ (¬ (r4 = 0) → (w_X12_rowComes h x1 x2 (fun r7 => Q r7)))))))
/-- TwoAsksModel.shared(II)I -/
def w_X12_shared (h : hp) (x1 : Int32) (x2 : Int32) (Q : Int32 → Prop) : Prop := w_X12_shared_0 Q x1 x2 h
def w_X12_fillsRow_209 (Q : hp → Prop) (X23 : Int32 × hp → Prop) (X79 : Int32 × Int32 × Int32 × hp → Prop) (X179 : Int32 × hp → Prop) (x1 : Int32) (x2 : Int32) (x3 : Int32) (x4 : Int32) (x5 : Int32) (x6 : Int32) (x7 : Int32) (h : hp) (s0 : Int32) (s2 : Int32) : Prop :=
  vp_in x7 7 ∧ (w_X12_restOf h (s0 - (x6 * (gI h 44 (ix x7)))) (fun r27 => vp_in s2 7 ∧ ∀ h29, h29 = sI h 44 (ix s2) r27 → (∀ x7_30, x7_30 = x7 + (-1) → (X179 (x7_30, h29)))))
def w_X12_fillsRow_b179 (Q : hp → Prop) (X23 : Int32 × hp → Prop) (X79 : Int32 × Int32 × Int32 × hp → Prop) (x1 : Int32) (x2 : Int32) (x3 : Int32) (x4 : Int32) (x5 : Int32) (x6 : Int32) (X179 : Int32 × hp → Prop) (x7 : Int32) (h : hp) : Prop :=
  (x7 < 0 → (∀ x3_24, x3_24 = x3 + 1 → (∀ x5_25, x5_25 = x5 + 1 → (X79 (x3_24, x4, x5_25, h))))) ∧ (¬ (x7 < 0) → ((x7 ≤ 0 → (w_X12_fillsRow_209 Q X23 X79 X179 x1 x2 x3 x4 x5 x6 x7 h 0 x7)) ∧ (¬ (x7 ≤ 0) → (vp_in (x7 - 1) 7 ∧ (w_X12_fillsRow_209 Q X23 X79 X179 x1 x2 x3 x4 x5 x6 x7 h (gI h 44 (ix (x7 - 1))) x7)))))
def w_X12_fillsRow_179 (Q : hp → Prop) (X23 : Int32 × hp → Prop) (X79 : Int32 × Int32 × Int32 × hp → Prop) (x1 : Int32) (x2 : Int32) (x3 : Int32) (x4 : Int32) (x5 : Int32) (x6 : Int32) (x7 : Int32) (h : hp) : Prop :=
  wLoop (fun X179 (q : Int32 × hp) => w_X12_fillsRow_b179 Q X23 X79 x1 x2 x3 x4 x5 x6 X179 q.1 q.2) (x7, h)
def w_X12_fillsRow_b242 (Q : hp → Prop) (X23 : Int32 × hp → Prop) (x1 : Int32) (x2 : Int32) (x3 : Int32) (x4 : Int32) (X242 : Int32 × hp → Prop) (x5 : Int32) (h : hp) : Prop :=
  (x3 < x5 → (∀ x2_32, x2_32 = x2 + 1 → (X23 (x2_32, h)))) ∧ (¬ (x3 < x5) → (vp_in x5 6 ∧ (vp_in x5 7 ∧ (w_X12_restOf h ((gI h 43 (ix x5)) + (x4 * (gI h 44 (ix x5)))) (fun r33 => vp_in x5 6 ∧ ∀ h35, h35 = sI h 43 (ix x5) r33 → (∀ x5_36, x5_36 = x5 + 1 → (X242 (x5_36, h35))))))))
def w_X12_fillsRow_242 (Q : hp → Prop) (X23 : Int32 × hp → Prop) (x1 : Int32) (x2 : Int32) (x3 : Int32) (x4 : Int32) (x5 : Int32) (h : hp) : Prop :=
  wLoop (fun X242 (q : Int32 × hp) => w_X12_fillsRow_b242 Q X23 x1 x2 x3 x4 X242 q.1 q.2) (x5, h)
def w_X12_fillsRow_b79 (Q : hp → Prop) (X23 : Int32 × hp → Prop) (x1 : Int32) (x2 : Int32) (X79 : Int32 × Int32 × Int32 × hp → Prop) (x3 : Int32) (x4 : Int32) (x5 : Int32) (h : hp) : Prop :=
  vp_in (gI h 0 18) 2 ∧ (((gI h 13 (ix (gI h 0 18))) ≤ x5 → (w_X12_fillsRow_242 Q X23 x1 x2 x3 x4 0 h)) ∧ (¬ ((gI h 13 (ix (gI h 0 18))) ≤ x5) → ((x5 = x2 → (∀ x5_12, x5_12 = x5 + 1 → (X79 (x3, x4, x5_12, h)))) ∧ (¬ (x5 = x2) → ((¬ ((jshr x1 x5) &&& 1) = 0 → (vp_in ((8 * (gI h 0 18)) + x5) 16 ∧ (∀ x6_14, x6_14 = gI h 14 (ix ((8 * (gI h 0 18)) + x5)) → (vp_in ((8 * (gI h 0 18)) + x2) 16 ∧ (w_X12_restOf h ((gI h 14 (ix ((8 * (gI h 0 18)) + x2))) - x6_14) (fun r15 => w_X12_turned h r15 (fun r17 => w_X12_restOf h (x4 * r17) (fun r19 => vp_in x3 7 ∧ (vp_in (x3 + 1) 7 ∧ ∀ h21, h21 = sI h 44 (ix (x3 + 1)) (gI h 44 (ix x3)) → (w_X12_fillsRow_179 Q X23 X79 x1 x2 x3 r19 x5 x6_14 x3 h21)))))))))) ∧ (((jshr x1 x5) &&& 1) = 0 → (∀ x5_22, x5_22 = x5 + 1 → (X79 (x3, x4, x5_22, h)))))))))
def w_X12_fillsRow_79 (Q : hp → Prop) (X23 : Int32 × hp → Prop) (x1 : Int32) (x2 : Int32) (x3 : Int32) (x4 : Int32) (x5 : Int32) (h : hp) : Prop :=
  wLoop (fun X79 (q : Int32 × Int32 × Int32 × hp) => w_X12_fillsRow_b79 Q X23 x1 x2 X79 q.1 q.2.1 q.2.2.1 q.2.2.2) (x3, x4, x5, h)
def w_X12_fillsRow_b23 (Q : hp → Prop) (x1 : Int32) (X23 : Int32 × hp → Prop) (x2 : Int32) (h : hp) : Prop :=
  vp_in (gI h 0 18) 2 ∧ (((gI h 13 (ix (gI h 0 18))) ≤ x2 → (Q h)) ∧ (¬ ((gI h 13 (ix (gI h 0 18))) ≤ x2) → ((¬ ((jshr x1 x2) &&& 1) = 0 → (vp_in ((8 * (gI h 0 18)) + x2) 16 ∧ (w_X12_restOf h (gI h 15 (ix ((8 * (gI h 0 18)) + x2))) (fun r6 => vp_in 0 7 ∧ ∀ h8, h8 = sI h 44 (ix 0) 1 → (w_X12_fillsRow_79 Q X23 x1 x2 0 r6 0 h8))))) ∧ (((jshr x1 x2) &&& 1) = 0 → (∀ x2_9, x2_9 = x2 + 1 → (X23 (x2_9, h)))))))
def w_X12_fillsRow_23 (Q : hp → Prop) (x1 : Int32) (x2 : Int32) (h : hp) : Prop :=
  wLoop (fun X23 (q : Int32 × hp) => w_X12_fillsRow_b23 Q x1 X23 q.1 q.2) (x2, h)
def w_X12_fillsRow_b2 (Q : hp → Prop) (x1 : Int32) (X2 : Int32 × hp → Prop) (x2 : Int32) (h : hp) : Prop :=
  (6 ≤ x2 → (w_X12_fillsRow_23 Q x1 0 h)) ∧ (¬ (6 ≤ x2) → (vp_in x2 6 ∧ ∀ h2, h2 = sI h 43 (ix x2) 0 → (∀ x2_3, x2_3 = x2 + 1 → (X2 (x2_3, h2)))))
def w_X12_fillsRow_2 (Q : hp → Prop) (x1 : Int32) (x2 : Int32) (h : hp) : Prop :=
  wLoop (fun X2 (q : Int32 × hp) => w_X12_fillsRow_b2 Q x1 X2 q.1 q.2) (x2, h)
def w_X12_fillsRow_0 (Q : hp → Prop) (x1 : Int32) (h : hp) : Prop :=
  w_X12_fillsRow_2 Q x1 0 h
/-- TwoAsksModel.fillsRow(I)V -/
def w_X12_fillsRow (h : hp) (x1 : Int32) (Q : hp → Prop) : Prop := w_X12_fillsRow_0 Q x1 h
def w_X12_shareRow_0 (Q : Int32 → hp → Prop) (x1 : Int32) (x2 : Int32) (h : hp) : Prop :=
  w_X12_isSet h x1 (fun r1 => (r1 = 0 → (Q (-1) h)) ∧ (¬ (r1 = 0) → (w_X12_bits x1 (fun r4 => w_X12_in (x2.toInt64) 0 ((r4 - 1).toInt64) (fun r6 => (¬ r6 = 0 → (w_X12_fillsRow h x1 (fun h9 => vp_in x2 6 ∧ (Q (gI h9 43 (ix x2)) h9)))) ∧ (r6 = 0 → (Q (-1) h)))))))
/-- TwoAsksModel.shareRow(II)I -/
def w_X12_shareRow (h : hp) (x1 : Int32) (x2 : Int32) (Q : Int32 → hp → Prop) : Prop := w_X12_shareRow_0 Q x1 x2 h
def w_X12_wrong_b67 (Q : Int32 → Prop) (X35 : Int32 × Int32 → Prop) (x1 : Int32) (x2 : Int32) (x3 : Int32) (h : hp) (X67 : Int32 × Int32 → Prop) (x4 : Int32) (x5 : Int32) : Prop :=
  vp_in (gI h 0 18) 2 ∧ (((gI h 13 (ix (gI h 0 18))) ≤ x5 → ((x2 < 0 → (∀ x3_12, x3_12 = x3 + 1 → (X35 (x4, x3_12)))) ∧ (¬ (x2 < 0) → (w_X12_bits x4 (fun r13 => w_X12_bits x2 (fun r15 => (r15 ≤ r13 → (∀ x3_18, x3_18 = x3 + 1 → (X35 (x2, x3_18)))) ∧ (¬ (r15 ≤ r13) → (∀ x3_19, x3_19 = x3 + 1 → (X35 (x4, x3_19)))))))))) ∧ (¬ ((gI h 13 (ix (gI h 0 18))) ≤ x5) → (vp_in ((8 * (gI h 0 18)) + x5) 16 ∧ (w_X12_rowComes h x3 (gI h 14 (ix ((8 * (gI h 0 18)) + x5))) (fun r20 => vp_in ((8 * (gI h 0 18)) + x5) 16 ∧ (w_X12_restOf h (gI h 15 (ix ((8 * (gI h 0 18)) + x5))) (fun r22 => (r20 = r22 → (∀ x5_25, x5_25 = x5 + 1 → (X67 (x4, x5_25)))) ∧ (¬ (r20 = r22) → (∀ x4_26, x4_26 = x4 ||| (jshl 1 x5) → (∀ x5_27, x5_27 = x5 + 1 → (X67 (x4_26, x5_27))))))))))))
def w_X12_wrong_67 (Q : Int32 → Prop) (X35 : Int32 × Int32 → Prop) (x1 : Int32) (x2 : Int32) (x3 : Int32) (h : hp) (x4 : Int32) (x5 : Int32) : Prop :=
  wLoop (fun X67 (q : Int32 × Int32) => w_X12_wrong_b67 Q X35 x1 x2 x3 h X67 q.1 q.2) (x4, x5)
def w_X12_wrong_b35 (Q : Int32 → Prop) (x1 : Int32) (h : hp) (X35 : Int32 × Int32 → Prop) (x2 : Int32) (x3 : Int32) : Prop :=
  vp_in (gI h 0 18) 2 ∧ (((jshl 1 (gI h 13 (ix (gI h 0 18)))) ≤ x3 → (Q x2)) ∧ (¬ ((jshl 1 (gI h 13 (ix (gI h 0 18)))) ≤ x3) → (w_X12_bits x3 (fun r6 => (r6 = x1 → (w_X12_wrong_67 Q X35 x1 x2 x3 h 0 0)) ∧ (¬ (r6 = x1) → (∀ x3_9, x3_9 = x3 + 1 → (X35 (x2, x3_9))))))))
def w_X12_wrong_35 (Q : Int32 → Prop) (x1 : Int32) (h : hp) (x2 : Int32) (x3 : Int32) : Prop :=
  wLoop (fun X35 (q : Int32 × Int32) => w_X12_wrong_b35 Q x1 h X35 q.1 q.2) (x2, x3)
def w_X12_wrong_0 (Q : Int32 → Prop) (x1 : Int32) (h : hp) : Prop :=
  w_X12_in (x1.toInt64) 1 6 (fun r1 => (¬ r1 = 0 → (vp_in (gI h 0 18) 2 ∧ ((x1 ≤ (gI h 13 (ix (gI h 0 18))) → (w_X12_wrong_35 Q x1 h (-2) 1)) ∧ (¬ (x1 ≤ (gI h 13 (ix (gI h 0 18)))) → (Q (-2)))))) ∧ (r1 = 0 → (Q (-1))))
/-- TwoAsksModel.wrong(I)I -/
def w_X12_wrong (h : hp) (x1 : Int32) (Q : Int32 → Prop) : Prop := w_X12_wrong_0 Q x1 h
def w_X12_paired_0 (Q : Int64 → Prop) (x0 : Int64) (x2 : Int64) : Prop :=
  ∀ x4_1, x4_1 = x0 + x2 → ((¬ (lrem x4_1 2) = 0 → (Q ((((x4_1 + 1) / 2) * x4_1) + x2))) ∧ ((lrem x4_1 2) = 0 → (Q (((x4_1 / 2) * (x4_1 + 1)) + x2))))
/-- TwoAsksModel.paired(JJ)J -/
def w_X12_paired (x0 : Int64) (x2 : Int64) (Q : Int64 → Prop) : Prop := w_X12_paired_0 Q x0 x2
def w_X12_pair_0 (Q : Int64 → Prop) (x1 : Int32) (x2 : Int32) : Prop :=
  w_X12_in (x1.toInt64) 0 999999999 (fun r1 => (r1 = 0 → (Q (-1))) ∧ (¬ (r1 = 0) → (w_X12_in (x2.toInt64) 0 999999999 (fun r4 => (r4 = 0 → (Q (-1))) ∧ (¬ (r4 = 0) → (w_X12_paired (x1.toInt64) (x2.toInt64) (fun r7 => Q r7)))))))
/-- TwoAsksModel.pair(II)J -/
def w_X12_pair (x1 : Int32) (x2 : Int32) (Q : Int64 → Prop) : Prop := w_X12_pair_0 Q x1 x2
def w_X12_unpair_b23 (Q : Int64 → Prop) (x1 : Int64) (x3 : Int32) (X23 : Int64 × Int64 → Prop) (x4 : Int64) (x6 : Int64) : Prop :=
  (x6 ≤ x4 → (w_X12_paired x4 0 (fun r5 => ∀ x8_7, x8_7 = x1 - r5 → ((x3 = 0 → (Q (x4 - x8_7))) ∧ (¬ (x3 = 0) → (Q x8_7)))))) ∧ (¬ (x6 ≤ x4) → (∀ x8_9, x8_9 = ((x4 + x6) + 1) / 2 → (w_X12_paired x8_9 0 (fun r10 => (x1 < r10 → (∀ x6_13, x6_13 = x8_9 - 1 → (X23 (x4, x6_13)))) ∧ (¬ (x1 < r10) → (X23 (x8_9, x6)))))))
def w_X12_unpair_23 (Q : Int64 → Prop) (x1 : Int64) (x3 : Int32) (x4 : Int64) (x6 : Int64) : Prop :=
  wLoop (fun X23 (q : Int64 × Int64) => w_X12_unpair_b23 Q x1 x3 X23 q.1 q.2) (x4, x6)
def w_X12_unpair_0 (Q : Int64 → Prop) (x1 : Int64) (x3 : Int32) : Prop :=
  w_X12_in x1 0 1000000000000000000 (fun r1 => (¬ r1 = 0 → (w_X12_unpair_23 Q x1 x3 0 1500000000)) ∧ (r1 = 0 → (Q (-1))))
/-- TwoAsksModel.unpair(JZ)J -/
def w_X12_unpair (x1 : Int64) (x3 : Int32) (Q : Int64 → Prop) : Prop := w_X12_unpair_0 Q x1 x3
def w_X12_number_b52 (Q : Int64 → Prop) (x1 : Int32) (h : hp) (X52 : Int64 × Int32 → Prop) (x2 : Int64) (x4 : Int32) : Prop :=
  w_X12_longAt h x1 (fun r16 => (r16 ≤ x4 → (Q x2)) ∧ (¬ (r16 ≤ x4) → (w_X12_at h x1 x4 (fun r19 => w_X12_paired x2 (r19.toInt64) (fun r21 => ∀ x4_23, x4_23 = x4 + 1 → (X52 (r21, x4_23)))))))
def w_X12_number_52 (Q : Int64 → Prop) (x1 : Int32) (h : hp) (x2 : Int64) (x4 : Int32) : Prop :=
  wLoop (fun X52 (q : Int64 × Int32) => w_X12_number_b52 Q x1 h X52 q.1 q.2) (x2, x4)
def w_X12_number_0 (Q : Int64 → Prop) (x1 : Int32) (h : hp) : Prop :=
  w_X12_isRow h x1 (fun r1 => (¬ r1 = 0 → (w_X12_longAt h x1 (fun r4 => (4 < r4 → (Q (-2))) ∧ (¬ (4 < r4) → (w_X12_longAt h x1 (fun r7 => (r7 = 0 → (Q (-2))) ∧ (¬ (r7 = 0) → (w_X12_isBelow h x1 (fun r10 => (r10 = 0 → (w_X12_at h x1 0 (fun r13 => ∀ x2_15, x2_15 = r13.toInt64 → (w_X12_number_52 Q x1 h x2_15 1)))) ∧ (¬ (r10 = 0) → (Q (-2)))))))))))) ∧ (r1 = 0 → (Q (-1))))
/-- TwoAsksModel.number(I)J -/
def w_X12_number (h : hp) (x1 : Int32) (Q : Int64 → Prop) : Prop := w_X12_number_0 Q x1 h
def w_X12_hold_b33 (Q : Int32 → hp → Prop) (x1 : Int32) (X33 : Int32 × hp → Prop) (x2 : Int32) (h : hp) : Prop :=
  (20 ≤ x2 → (Q 1 h)) ∧ (¬ (20 ≤ x2) → (vp_in x2 20 ∧ (vp_in ((20 * x1) + x2) 60 ∧ ∀ h7, h7 = sI h 47 (ix ((20 * x1) + x2)) (gI h 38 (ix x2)) → (vp_in x2 20 ∧ (vp_in ((20 * x1) + x2) 60 ∧ ∀ h8, h8 = sL h7 48 (ix ((20 * x1) + x2)) (gL h7 39 (ix x2)) → (∀ x2_9, x2_9 = x2 + 1 → (X33 (x2_9, h8))))))))
def w_X12_hold_33 (Q : Int32 → hp → Prop) (x1 : Int32) (x2 : Int32) (h : hp) : Prop :=
  wLoop (fun X33 (q : Int32 × hp) => w_X12_hold_b33 Q x1 X33 q.1 q.2) (x2, h)
def w_X12_hold_0 (Q : Int32 → hp → Prop) (x1 : Int32) (h : hp) : Prop :=
  w_X12_in (x1.toInt64) 0 2 (fun r1 => (¬ r1 = 0 → (vp_in x1 3 ∧ ∀ h4, h4 = sI h 45 (ix x1) (jz 1) → (vp_in x1 3 ∧ ∀ h5, h5 = sI h4 46 (ix x1) (gI h4 0 57) → (w_X12_hold_33 Q x1 0 h5)))) ∧ (r1 = 0 → (Q 0 h)))
/-- TwoAsksModel.hold(I)Z -/
def w_X12_hold (h : hp) (x1 : Int32) (Q : Int32 → hp → Prop) : Prop := w_X12_hold_0 Q x1 h
def w_X12_restore_b35 (Q : Int32 → hp → Prop) (x1 : Int32) (X35 : Int32 × hp → Prop) (x2 : Int32) (h : hp) : Prop :=
  (20 ≤ x2 → (Q 1 h)) ∧ (¬ (20 ≤ x2) → (vp_in ((20 * x1) + x2) 60 ∧ (vp_in x2 20 ∧ ∀ h7, h7 = sI h 38 (ix x2) (gI h 47 (ix ((20 * x1) + x2))) → (vp_in ((20 * x1) + x2) 60 ∧ (vp_in x2 20 ∧ ∀ h8, h8 = sL h7 39 (ix x2) (gL h7 48 (ix ((20 * x1) + x2))) → (∀ x2_9, x2_9 = x2 + 1 → (X35 (x2_9, h8))))))))
def w_X12_restore_35 (Q : Int32 → hp → Prop) (x1 : Int32) (x2 : Int32) (h : hp) : Prop :=
  wLoop (fun X35 (q : Int32 × hp) => w_X12_restore_b35 Q x1 X35 q.1 q.2) (x2, h)
def w_X12_restore_0 (Q : Int32 → hp → Prop) (x1 : Int32) (h : hp) : Prop :=
  w_X12_in (x1.toInt64) 0 2 (fun r1 => (r1 = 0 → (Q 0 h)) ∧ (¬ (r1 = 0) → (vp_in x1 3 ∧ ((¬ (gI h 45 (ix x1)) = 0 → (vp_in x1 3 ∧ (∀ h5, h5 = sI h 0 57 (gI h 46 (ix x1)) → (w_X12_restore_35 Q x1 0 h5)))) ∧ ((gI h 45 (ix x1)) = 0 → (Q 0 h))))))
/-- TwoAsksModel.restore(I)Z -/
def w_X12_restore (h : hp) (x1 : Int32) (Q : Int32 → hp → Prop) : Prop := w_X12_restore_0 Q x1 h
def w_X12_count_162 (Q : Int32 → Prop) (h : hp) (s0 : Int32) (s1 : Int32) : Prop :=
  vp_in 2 3 ∧ (((gI h 45 (ix 2)) = 0 → (Q ((s1 + s0) + 0))) ∧ (¬ ((gI h 45 (ix 2)) = 0) → (Q ((s1 + s0) + 1))))
def w_X12_count_148 (Q : Int32 → Prop) (h : hp) (s0 : Int32) : Prop :=
  vp_in 1 3 ∧ (((gI h 45 (ix 1)) = 0 → (w_X12_count_162 Q h 0 s0)) ∧ (¬ ((gI h 45 (ix 1)) = 0) → (w_X12_count_162 Q h 1 s0)))
def w_X12_count_0 (Q : Int32 → Prop) (x1 : Int32) (h : hp) : Prop :=
  ∀ sw1, sw1 = x1 → ((sw1 = 0 → (vp_in (gI h 0 18) 2 ∧ (Q (gI h 9 (ix (gI h 0 18)))))) ∧ (sw1 = 1 → (vp_in (gI h 0 18) 2 ∧ (Q (gI h 13 (ix (gI h 0 18)))))) ∧ (sw1 = 2 → (vp_in (gI h 0 18) 2 ∧ (Q (gI h 17 (ix (gI h 0 18)))))) ∧ (sw1 = 3 → (vp_in (gI h 0 18) 2 ∧ (Q (gI h 12 (ix (gI h 0 18)))))) ∧ (sw1 = 4 → (vp_in (gI h 0 18) 2 ∧ (Q (gI h 19 (ix (gI h 0 18)))))) ∧ (sw1 = 5 → (vp_in (gI h 0 18) 2 ∧ (Q (gI h 20 (ix (gI h 0 18)))))) ∧ (sw1 = 6 → (Q (gI h 0 2))) ∧ (sw1 = 7 → (Q (gI h 0 57))) ∧ (sw1 = 8 → (vp_in 0 3 ∧ (((gI h 45 (ix 0)) = 0 → (w_X12_count_148 Q h 0)) ∧ (¬ ((gI h 45 (ix 0)) = 0) → (w_X12_count_148 Q h 1))))) ∧ (sw1 = 9 → (vp_in (gI h 0 18) 2 ∧ (Q (gI h 21 (ix (gI h 0 18)))))) ∧ (sw1 = 10 → ((0 ≤ (gI h 0 61) → (Q (gI h 0 61))) ∧ (¬ (0 ≤ (gI h 0 61)) → (Q (-2))))) ∧ (sw1 = 11 → (Q (gI h 0 62))) ∧ (sw1.toInt < 0 ∨ 11 < sw1.toInt → (Q (-1))))
/-- TwoAsksModel.count(I)I -/
def w_X12_count (h : hp) (x1 : Int32) (Q : Int32 → Prop) : Prop := w_X12_count_0 Q x1 h

def wsL_law_r29 : List Cond := [Cond.methodLink RX11 251 yX2_carriedAt, Cond.instanceMethod yX2_carriedAt, Cond.selects RX2 yX2_carriedAt yX2_carriedAt, Cond.code yX2_carriedAt cX2_carriedAt 2 (some .int), Cond.methodLink RL 94 yX12_lighten, Cond.instanceMethod yX12_lighten, Cond.selects RX12 yX12_lighten yX12_lighten, Cond.code yX12_lighten cX12_lighten 2 (some .int), Cond.methodLink RL 95 yX11_more, Cond.instanceMethod yX11_more, Cond.selects RX11 yX11_more yX11_more, Cond.code yX11_more cX11_more 2 (some .int), Cond.methodLink RX11 259 yX2_top, Cond.methodLink RL 98 yX12_more, Cond.instanceMethod yX12_more, Cond.selects RX12 yX12_more yX12_more, Cond.code yX12_more cX12_more 2 (some .int), Cond.methodLink RL 99 yX11_order, Cond.instanceMethod yX11_order, Cond.selects RX11 yX11_order yX11_order, Cond.code yX11_order cX11_order 3 (some .int), Cond.fieldLink RX11 266 "BoatTrim$Cargo" "name" "[I", Cond.fieldLink RX11 269 "BoatTrim$Orders" "places" "[I", Cond.methodLink RX11 262 yX4_arrange]
def wsL_law_r30 : List Cond := [Cond.instanceMethod yX4_arrange, Cond.selects RX4 yX4_arrange yX4_arrange, Cond.code yX4_arrange cX4_arrange 4 none, Cond.fieldLink RX4 18 "BoatTrim$Boat" "cargo" "LBoatTrim$Cargo;", Cond.fieldLink RX4 24 "BoatTrim$Cargo" "size" "I", Cond.methodLink RX4 30 yX4_balance, Cond.instanceMethod yX4_balance, Cond.selects RX4 yX4_balance yX4_balance, Cond.code yX4_balance cX4_balance 6 none, Cond.fieldLink RX4 49 "BoatTrim$Cargo" "side" "[I", Cond.methodLink RX4 45 yX4_comesAhead, Cond.instanceMethod yX4_comesAhead, Cond.selects RX4 yX4_comesAhead yX4_comesAhead, Cond.code yX4_comesAhead cX4_comesAhead 9 (some .boolean), Cond.methodLink RX4 52 Lib.Math.abs.name, Cond.methodLink RX4 41 yX0_weighsAt, Cond.methodLink RX4 34 yX4_sort, Cond.instanceMethod yX4_sort, Cond.selects RX4 yX4_sort yX4_sort, Cond.code yX4_sort cX4_sort 5 none, Cond.fieldLink RX4 38 "BoatTrim$Cargo" "up" "[I", Cond.methodLink RL 102 yX12_order, Cond.instanceMethod yX12_order, Cond.selects RX12 yX12_order yX12_order]
def wsL_law_r31 : List Cond := [Cond.code yX12_order cX12_order 3 (some .int), Cond.methodLink RX12 222 yX12_layRank, Cond.instanceMethod yX12_layRank, Cond.selects RX12 yX12_layRank yX12_layRank, Cond.code yX12_layRank cX12_layRank 4 none, Cond.methodLink RX12 210 yX12_isAhead, Cond.instanceMethod yX12_isAhead, Cond.selects RX12 yX12_isAhead yX12_isAhead, Cond.code yX12_isAhead cX12_isAhead 6 (some .boolean), Cond.methodLink RX12 213 yX12_layBalanced, Cond.instanceMethod yX12_layBalanced, Cond.selects RX12 yX12_layBalanced yX12_layBalanced, Cond.code yX12_layBalanced cX12_layBalanced 5 none, Cond.methodLink RX12 216 yX12_isRanked, Cond.instanceMethod yX12_isRanked, Cond.selects RX12 yX12_isRanked yX12_isRanked, Cond.code yX12_isRanked cX12_isRanked 4 (some .boolean), Cond.methodLink RX12 219 yX12_isLighter, Cond.instanceMethod yX12_isLighter, Cond.selects RX12 yX12_isLighter yX12_isLighter, Cond.code yX12_isLighter cX12_isLighter 5 (some .boolean), Cond.methodLink RL 103 yX11_next, Cond.instanceMethod yX11_next, Cond.selects RX11 yX11_next yX11_next]
def wsL_law_r32 : List Cond := [Cond.code yX11_next cX11_next 3 (some .int), Cond.methodLink RX11 272 yX1_placeBehind, Cond.methodLink RL 106 yX12_next, Cond.instanceMethod yX12_next, Cond.selects RX12 yX12_next yX12_next, Cond.code yX12_next cX12_next 3 (some .int), Cond.methodLink RL 107 yX11_turn, Cond.instanceMethod yX11_turn, Cond.selects RX11 yX11_turn yX11_turn, Cond.code yX11_turn cX11_turn 2 (some .int), Cond.methodLink RX11 275 yX0_bestToTurn, Cond.instanceMethod yX0_bestToTurn, Cond.selects RX0 yX0_bestToTurn yX0_bestToTurn, Cond.code yX0_bestToTurn cX0_bestToTurn 6 (some .int), Cond.methodLink RX0 138 Lib.Math.abs.name, Cond.methodLink RX0 135 yX0_allAside, Cond.methodLink RL 110 yX12_turn, Cond.instanceMethod yX12_turn, Cond.selects RX12 yX12_turn yX12_turn, Cond.code yX12_turn cX12_turn 6 (some .int), Cond.methodLink RL 111 yX11_change, Cond.instanceMethod yX11_change, Cond.selects RX11 yX11_change yX11_change, Cond.code yX11_change cX11_change 2 (some .int)]
def wsL_law_r33 : List Cond := [Cond.fieldLink RX11 279 "BoatTrim$Swap" "one" "I", Cond.fieldLink RX11 282 "BoatTrim$Swap" "other" "I", Cond.methodLink RX11 278 yX7_find, Cond.instanceMethod yX7_find, Cond.selects RX7 yX7_find yX7_find, Cond.code yX7_find cX7_find 8 (some .boolean), Cond.constant RX7 24 (-2147483648), Cond.methodLink RX7 25 Lib.Math.abs.name, Cond.fieldLink RX7 30 "BoatTrim$Boat" "cargo" "LBoatTrim$Cargo;", Cond.fieldLink RX7 34 "BoatTrim$Cargo" "size" "I", Cond.methodLink RX7 18 yX0_offOf, Cond.methodLink RX7 39 yX7_alongGained, Cond.instanceMethod yX7_alongGained, Cond.selects RX7 yX7_alongGained yX7_alongGained, Cond.code yX7_alongGained cX7_alongGained 5 (some .int), Cond.fieldLink RX7 43 "BoatTrim$Cargo" "section" "[I", Cond.methodLink RX7 47 yX0_weighsAt, Cond.methodLink RL 114 yX12_change, Cond.instanceMethod yX12_change, Cond.selects RX12 yX12_change yX12_change, Cond.code yX12_change cX12_change 10 (some .int), Cond.methodLink RL 115 yX11_fits, Cond.instanceMethod yX11_fits, Cond.selects RX11 yX11_fits yX11_fits]
def wsL_law_r34 : List Cond := [Cond.code yX11_fits cX11_fits 6 (some .int), Cond.fieldLink RX11 291 "BoatTrim$Rows" "size" "[I", Cond.fieldLink RX11 293 "BoatTrim$Rows" "places" "[[I", Cond.fieldLink RX11 304 "BoatTrim$Landing" "fitting" "I", Cond.fieldLink RX11 307 "BoatTrim$Landing" "leastFitting" "I", Cond.methodLink RX11 285 yX11_isRow, Cond.static yX11_isRow, Cond.code yX11_isRow cX11_isRow 1 (some .boolean), Cond.methodLink RX11 288 yX6_isMissing, Cond.instanceMethod yX6_isMissing, Cond.selects RX6 yX6_isMissing yX6_isMissing, Cond.code yX6_isMissing cX6_isMissing 2 (some .boolean), Cond.methodLink RX11 296 yX3_want, Cond.instanceMethod yX3_want, Cond.selects RX3 yX3_want yX3_want, Cond.code yX3_want cX3_want 7 none, Cond.constant RX3 78 (2147483647), Cond.methodLink RX3 66 yX2_top, Cond.methodLink RX3 73 yX2_carriedAt, Cond.methodLink RX11 300 yX3_tryWeights, Cond.instanceMethod yX3_tryWeights, Cond.selects RX3 yX3_tryWeights yX3_tryWeights, Cond.code yX3_tryWeights cX3_tryWeights 6 none, Cond.fieldLink RX3 50 "BoatTrim$Boat" "cargo" "LBoatTrim$Cargo;"]
def wsL_law_r35 : List Cond := [Cond.fieldLink RX3 79 "BoatTrim$Cargo" "weight" "[I", Cond.methodLink RX3 82 yX3_isSo, Cond.instanceMethod yX3_isSo, Cond.selects RX3 yX3_isSo yX3_isSo, Cond.code yX3_isSo cX3_isSo 5 (some .boolean), Cond.fieldLink RX3 54 "BoatTrim$Cargo" "size" "I", Cond.fieldLink RX3 59 "BoatTrim$Orders" "places" "[I", Cond.methodLink RX3 34 yX0_allWeight, Cond.methodLink RX3 28 yX4_arrange, Cond.methodLink RX3 62 yX0_weighsAt, Cond.methodLink RL 118 yX12_fits, Cond.instanceMethod yX12_fits, Cond.selects RX12 yX12_fits yX12_fits, Cond.code yX12_fits cX12_fits 10 (some .int), Cond.methodLink RX12 228 yX12_isRow, Cond.static yX12_isRow, Cond.code yX12_isRow cX12_isRow 1 (some .boolean), Cond.methodLink RX12 231 yX12_isSo, Cond.instanceMethod yX12_isSo, Cond.selects RX12 yX12_isSo yX12_isSo, Cond.code yX12_isSo cX12_isSo 4 (some .boolean), Cond.methodLink RX12 225 yX12_layLines, Cond.instanceMethod yX12_layLines, Cond.selects RX12 yX12_layLines yX12_layLines]
def wsL_law_r36 : List Cond := [Cond.code yX12_layLines cX12_layLines 4 none, Cond.methodLink RL 119 yX11_say, Cond.instanceMethod yX11_say, Cond.selects RX11 yX11_say yX11_say, Cond.code yX11_say cX11_say 2 (some .int), Cond.fieldLink RX11 314 "BoatTrim$Report" "length" "I", Cond.fieldLink RX11 317 "BoatTrim$Report" "signs" "[C", Cond.methodLink RX11 310 yX5_write, Cond.instanceMethod yX5_write, Cond.selects RX5 yX5_write yX5_write, Cond.code yX5_write cX5_write 3 none, Cond.fieldLink RX5 19 "BoatTrim$Cargo" "size" "I", Cond.fieldLink RX5 24 "BoatTrim$Cargo" "name" "[I", Cond.fieldLink RX5 35 "BoatTrim$Cargo" "kind" "[I", Cond.fieldLink RX5 42 "BoatTrim$Cargo" "weight" "[I", Cond.fieldLink RX5 48 "BoatTrim$Cargo" "section" "[I", Cond.fieldLink RX5 51 "BoatTrim$Cargo" "side" "[I", Cond.methodLink RX5 28 yX5_addLetters, Cond.instanceMethod yX5_addLetters, Cond.selects RX5 yX5_addLetters yX5_addLetters, Cond.code yX5_addLetters cX5_addLetters 3 none, Cond.methodLink RX5 38 yX5_addSign, Cond.instanceMethod yX5_addSign, Cond.selects RX5 yX5_addSign yX5_addSign]
def wsL_law_r37 : List Cond := [Cond.code yX5_addSign cX5_addSign 2 none, Cond.methodLink RX5 45 yX5_addFigures, Cond.instanceMethod yX5_addFigures, Cond.selects RX5 yX5_addFigures yX5_addFigures, Cond.code yX5_addFigures cX5_addFigures 3 none, Cond.methodLink RX5 54 yX5_addSide, Cond.instanceMethod yX5_addSide, Cond.selects RX5 yX5_addSide yX5_addSide, Cond.code yX5_addSide cX5_addSide 2 none, Cond.methodLink RX5 57 Lib.Math.abs.name, Cond.methodLink RL 122 yX12_say, Cond.instanceMethod yX12_say, Cond.selects RX12 yX12_say yX12_say, Cond.code yX12_say cX12_say 2 (some .int), Cond.fieldLink RX12 234 "BoatTrimModel" "signed" "I", Cond.methodLink RX12 254 yX12_layReport, Cond.instanceMethod yX12_layReport, Cond.selects RX12 yX12_layReport yX12_layReport, Cond.code yX12_layReport cX12_layReport 2 none, Cond.methodLink RX12 243 yX12_saysName, Cond.instanceMethod yX12_saysName, Cond.selects RX12 yX12_saysName yX12_saysName, Cond.code yX12_saysName cX12_saysName 2 none, Cond.methodLink RX12 240 yX12_says]
def wsL_law_r38 : List Cond := [Cond.instanceMethod yX12_says, Cond.selects RX12 yX12_says yX12_says, Cond.code yX12_says cX12_says 2 none, Cond.methodLink RX12 248 yJ0_charAt_5068e, Cond.instanceMethod yJ0_charAt_5068e, Cond.selects RJ0 yJ0_charAt_5068e yJ0_charAt_5068e, Cond.initialized RJ0, Cond.code yJ0_charAt_5068e cJ0_charAt_5068e 2 (some .char), Cond.fieldLink RJ0 9 "java/lang/String" "value" "[B", Cond.methodLink RJ0 492 yJ0_isLatin1_aae02, Cond.instanceMethod yJ0_isLatin1_aae02, Cond.selects RJ0 yJ0_isLatin1_aae02 yJ0_isLatin1_aae02, Cond.code yJ0_isLatin1_aae02 cJ0_isLatin1_aae02 1 (some .boolean), Cond.fieldLink RJ0 38 "java/lang/String" "COMPACT_STRINGS" "Z", Cond.fieldLink RJ0 15 "java/lang/String" "coder" "B", Cond.methodLink RJ0 495 yJ1_charAt_3b067, Cond.static yJ1_charAt_3b067, Cond.initialized RJ1, Cond.code yJ1_charAt_3b067 cJ1_charAt_3b067 2 (some .char), Cond.methodLink RJ1 9 yJ0_checkIndex_df160, Cond.static yJ0_checkIndex_df160, Cond.code yJ0_checkIndex_df160 cJ0_checkIndex_df160 2 none, Cond.fieldLink RJ0 1053 "jdk/internal/util/Preconditions" "SIOOBE_FORMATTER" "Ljava/util/function/BiFunction;", Cond.methodLink RJ0 1059 yJ3_checkIndex_8e157]
def wsL_law_r39 : List Cond := [Cond.static yJ3_checkIndex_8e157, Cond.initialized RJ3, Cond.code yJ3_checkIndex_8e157 cJ3_checkIndex_8e157 3 (some .int), Cond.methodLink RJ0 498 yJ2_charAt_3b067, Cond.static yJ2_charAt_3b067, Cond.initialized RJ2, Cond.code yJ2_charAt_3b067 cJ2_charAt_3b067 2 (some .char), Cond.methodLink RJ2 67 yJ2_checkIndex_2214a, Cond.static yJ2_checkIndex_2214a, Cond.code yJ2_checkIndex_2214a cJ2_checkIndex_2214a 2 none, Cond.methodLink RJ2 48 yJ2_length_9d52b, Cond.static yJ2_length_9d52b, Cond.code yJ2_length_9d52b cJ2_length_9d52b 1 (some .int), Cond.methodLink RJ2 414 yJ0_checkIndex_df160, Cond.methodLink RJ2 71 yJ2_getChar_3b067, Cond.static yJ2_getChar_3b067, Cond.code yJ2_getChar_3b067 cJ2_getChar_3b067 2 (some .char), Cond.fieldLink RJ2 44 "java/lang/StringUTF16" "$assertionsDisabled" "Z", Cond.fieldLink RJ2 59 "java/lang/StringUTF16" "HI_BYTE_SHIFT" "I", Cond.fieldLink RJ2 63 "java/lang/StringUTF16" "LO_BYTE_SHIFT" "I", Cond.methodLink RX12 237 yX12_saysNumber, Cond.instanceMethod yX12_saysNumber, Cond.selects RX12 yX12_saysNumber yX12_saysNumber, Cond.code yX12_saysNumber cX12_saysNumber 2 none]
def wsL_law_r40 : List Cond := [Cond.methodLink RL 123 yX11_feed, Cond.instanceMethod yX11_feed, Cond.selects RX11 yX11_feed yX11_feed, Cond.code yX11_feed cX11_feed 2 (some .int), Cond.fieldLink RX11 321 "BoatTrim$Tape" "length" "I", Cond.fieldLink RX11 322 "BoatTrim$Tape" "bytes" "[B", Cond.methodLink RL 126 yX12_feed, Cond.instanceMethod yX12_feed, Cond.selects RX12 yX12_feed yX12_feed, Cond.code yX12_feed cX12_feed 2 (some .int), Cond.fieldLink RX12 257 "BoatTrimModel" "taped" "I", Cond.methodLink RL 127 yX11_wipe, Cond.instanceMethod yX11_wipe, Cond.selects RX11 yX11_wipe yX11_wipe, Cond.code yX11_wipe cX11_wipe 2 (some .int), Cond.methodLink RL 130 yX12_wipe, Cond.instanceMethod yX12_wipe, Cond.selects RX12 yX12_wipe yX12_wipe, Cond.code yX12_wipe cX12_wipe 2 (some .int), Cond.methodLink RL 131 yX11_read, Cond.instanceMethod yX11_read, Cond.selects RX11 yX11_read yX11_read, Cond.code yX11_read cX11_read 3 (some .int), Cond.methodLink RX11 326 yX9_findFault]
def wsL_law_r41 : List Cond := [Cond.instanceMethod yX9_findFault, Cond.selects RX9 yX9_findFault yX9_findFault, Cond.code yX9_findFault cX9_findFault 2 (some .int), Cond.methodLink RX9 29 yX9_readsAct, Cond.instanceMethod yX9_readsAct, Cond.selects RX9 yX9_readsAct yX9_readsAct, Cond.code yX9_readsAct cX9_readsAct 3 (some .boolean), Cond.methodLink RX9 40 yX9_readsWord, Cond.instanceMethod yX9_readsWord, Cond.selects RX9 yX9_readsWord yX9_readsWord, Cond.code yX9_readsWord cX9_readsWord 3 (some .boolean), Cond.methodLink RX9 60 yX9_isLetterHere, Cond.instanceMethod yX9_isLetterHere, Cond.selects RX9 yX9_isLetterHere yX9_isLetterHere, Cond.code yX9_isLetterHere cX9_isLetterHere 1 (some .boolean), Cond.methodLink RX9 63 yX9_wordOf, Cond.static yX9_wordOf, Cond.code yX9_wordOf cX9_wordOf 1 (some (.object "java/lang/String")), Cond.methodLink RX9 66 yX9_isWord, Cond.instanceMethod yX9_isWord, Cond.selects RX9 yX9_isWord yX9_isWord, Cond.code yX9_isWord cX9_isWord 5 (some .boolean), Cond.methodLink RX9 47 yJ0_length_8abf5, Cond.instanceMethod yJ0_length_8abf5]
def wsL_law_r42 : List Cond := [Cond.selects RJ0 yJ0_length_8abf5 yJ0_length_8abf5, Cond.code yJ0_length_8abf5 cJ0_length_8abf5 1 (some .int), Cond.methodLink RJ0 335 yJ0_coder_7d493, Cond.instanceMethod yJ0_coder_7d493, Cond.selects RJ0 yJ0_coder_7d493 yJ0_coder_7d493, Cond.code yJ0_coder_7d493 cJ0_coder_7d493 1 (some .byte), Cond.methodLink RX9 52 yJ0_charAt_5068e, Cond.methodLink RX9 43 yX9_shapeOf, Cond.static yX9_shapeOf, Cond.code yX9_shapeOf cX9_shapeOf 1 (some (.object "java/lang/String")), Cond.methodLink RX9 36 yX9_isHere, Cond.instanceMethod yX9_isHere, Cond.selects RX9 yX9_isHere yX9_isHere, Cond.code yX9_isHere cX9_isHere 2 (some .boolean), Cond.methodLink RX9 56 yX9_readsPart, Cond.instanceMethod yX9_readsPart, Cond.selects RX9 yX9_readsPart yX9_readsPart, Cond.code yX9_readsPart cX9_readsPart 4 (some .boolean), Cond.methodLink RX9 70 yX9_readsName, Cond.instanceMethod yX9_readsName, Cond.selects RX9 yX9_readsName yX9_readsName, Cond.code yX9_readsName cX9_readsName 4 (some .boolean), Cond.methodLink RX9 74 yX9_readsNumber, Cond.instanceMethod yX9_readsNumber]
def wsL_law_r43 : List Cond := [Cond.selects RX9 yX9_readsNumber yX9_readsNumber, Cond.code yX9_readsNumber cX9_readsNumber 5 (some .boolean), Cond.methodLink RX9 78 yX9_isFigureHere, Cond.instanceMethod yX9_isFigureHere, Cond.selects RX9 yX9_isFigureHere yX9_isFigureHere, Cond.code yX9_isFigureHere cX9_isFigureHere 1 (some .boolean), Cond.methodLink RX9 33 yX9_isPartedHere, Cond.instanceMethod yX9_isPartedHere, Cond.selects RX9 yX9_isPartedHere yX9_isPartedHere, Cond.code yX9_isPartedHere cX9_isPartedHere 1 (some .boolean), Cond.methodLink RX11 329 yX11_doAllActs, Cond.instanceMethod yX11_doAllActs, Cond.selects RX11 yX11_doAllActs yX11_doAllActs, Cond.code yX11_doAllActs cX11_doAllActs 2 (some .int), Cond.fieldLink RX11 332 "BoatTrim$Tape" "at" "I", Cond.methodLink RX11 335 yX9_readsAct, Cond.methodLink RX11 339 yX11_doAct, Cond.instanceMethod yX11_doAct, Cond.selects RX11 yX11_doAct yX11_doAct, Cond.code yX11_doAct cX11_doAct 2 (some .int), Cond.fieldLink RX11 345 "BoatTrim$Tape" "parts" "[I", Cond.fieldLink RX11 348 "BoatTrim$Tape" "act" "I", Cond.methodLink RX11 351 yX11_put, Cond.methodLink RX11 355 yX11_move]
def wsL_law_r44 : List Cond := [Cond.methodLink RX11 359 yX11_take, Cond.methodLink RX11 362 yX11_fill, Cond.methodLink RX11 365 yX11_set, Cond.methodLink RX11 342 yX9_isPartedHere, Cond.methodLink RL 134 yX12_read, Cond.instanceMethod yX12_read, Cond.selects RX12 yX12_read yX12_read, Cond.code yX12_read cX12_read 3 (some .int), Cond.fieldLink RX12 260 "BoatTrimModel" "at" "I", Cond.fieldLink RX12 286 "BoatTrimModel" "acts" "I", Cond.methodLink RX12 328 yX12_takesAll, Cond.instanceMethod yX12_takesAll, Cond.selects RX12 yX12_takesAll yX12_takesAll, Cond.code yX12_takesAll cX12_takesAll 1 (some .boolean), Cond.methodLink RX12 312 yX12_takesAct, Cond.instanceMethod yX12_takesAct, Cond.selects RX12 yX12_takesAct yX12_takesAct, Cond.code yX12_takesAct cX12_takesAct 1 (some .boolean), Cond.methodLink RX12 306 yX12_takesWord, Cond.instanceMethod yX12_takesWord, Cond.selects RX12 yX12_takesWord yX12_takesWord, Cond.code yX12_takesWord cX12_takesWord 3 (some .boolean), Cond.methodLink RX12 275 yX12_isLetter, Cond.instanceMethod yX12_isLetter]
def wsL_law_r45 : List Cond := [Cond.selects RX12 yX12_isLetter yX12_isLetter, Cond.code yX12_isLetter cX12_isLetter 1 (some .boolean), Cond.methodLink RX12 278 yX12_wordOf, Cond.static yX12_wordOf, Cond.code yX12_wordOf cX12_wordOf 1 (some (.object "java/lang/String")), Cond.methodLink RX12 282 yX12_isWord, Cond.instanceMethod yX12_isWord, Cond.selects RX12 yX12_isWord yX12_isWord, Cond.code yX12_isWord cX12_isWord 6 (some .boolean), Cond.methodLink RX12 272 yJ0_length_8abf5, Cond.methodLink RX12 309 yX12_takesRest, Cond.instanceMethod yX12_takesRest, Cond.selects RX12 yX12_takesRest yX12_takesRest, Cond.code yX12_takesRest cX12_takesRest 1 (some .boolean), Cond.methodLink RX12 299 yX12_takesName, Cond.instanceMethod yX12_takesName, Cond.selects RX12 yX12_takesName yX12_takesName, Cond.code yX12_takesName cX12_takesName 4 (some .boolean), Cond.methodLink RX12 293 yX12_takesBlank, Cond.instanceMethod yX12_takesBlank, Cond.selects RX12 yX12_takesBlank yX12_takesBlank, Cond.code yX12_takesBlank cX12_takesBlank 1 (some .boolean), Cond.methodLink RX12 289 yX12_isAt, Cond.instanceMethod yX12_isAt]
def wsL_law_r46 : List Cond := [Cond.selects RX12 yX12_isAt yX12_isAt, Cond.code yX12_isAt cX12_isAt 2 (some .boolean), Cond.methodLink RX12 302 yX12_takesNumber, Cond.instanceMethod yX12_takesNumber, Cond.selects RX12 yX12_takesNumber yX12_takesNumber, Cond.code yX12_takesNumber cX12_takesNumber 6 (some .boolean), Cond.methodLink RX12 296 yX12_isFigure, Cond.instanceMethod yX12_isFigure, Cond.selects RX12 yX12_isFigure yX12_isFigure, Cond.code yX12_isFigure cX12_isFigure 1 (some .boolean), Cond.methodLink RX12 331 yX12_done, Cond.instanceMethod yX12_done, Cond.selects RX12 yX12_done yX12_done, Cond.code yX12_done cX12_done 5 (some .int), Cond.methodLink RX12 315 yX12_put, Cond.methodLink RX12 318 yX12_move, Cond.methodLink RX12 321 yX12_take, Cond.methodLink RX12 323 yX12_fill, Cond.methodLink RX12 325 yX12_set, Cond.methodLink RL 135 yX11_row, Cond.instanceMethod yX11_row, Cond.selects RX11 yX11_row yX11_row, Cond.code yX11_row cX11_row 3 (some .int), Cond.methodLink RX11 368 yX6_make]
def wsL_law_r47 : List Cond := [Cond.instanceMethod yX6_make, Cond.selects RX6 yX6_make yX6_make, Cond.code yX6_make cX6_make 3 none, Cond.methodLink RX6 24 yJ7_fill_53178, Cond.methodLink RL 138 yX12_row, Cond.instanceMethod yX12_row, Cond.selects RX12 yX12_row yX12_row, Cond.code yX12_row cX12_row 4 (some .int), Cond.methodLink RL 139 yX11_store, Cond.instanceMethod yX11_store, Cond.selects RX11 yX11_store yX11_store, Cond.code yX11_store cX11_store 4 (some .int), Cond.methodLink RX11 372 yX6_hasPlace, Cond.instanceMethod yX6_hasPlace, Cond.selects RX6 yX6_hasPlace yX6_hasPlace, Cond.code yX6_hasPlace cX6_hasPlace 3 (some .boolean), Cond.methodLink RL 142 yX12_store, Cond.instanceMethod yX12_store, Cond.selects RX12 yX12_store yX12_store, Cond.code yX12_store cX12_store 4 (some .int), Cond.methodLink RL 143 yX11_get, Cond.instanceMethod yX11_get, Cond.selects RX11 yX11_get yX11_get, Cond.code yX11_get cX11_get 3 (some .int)]
def wsL_law_r48 : List Cond := [Cond.methodLink RL 146 yX12_get, Cond.instanceMethod yX12_get, Cond.selects RX12 yX12_get yX12_get, Cond.code yX12_get cX12_get 3 (some .int), Cond.methodLink RL 147 yX11_film, Cond.instanceMethod yX11_film, Cond.selects RX11 yX11_film yX11_film, Cond.code yX11_film cX11_film 3 (some .int), Cond.methodLink RX11 375 yX3_writeLines, Cond.instanceMethod yX3_writeLines, Cond.selects RX3 yX3_writeLines yX3_writeLines, Cond.code yX3_writeLines cX3_writeLines 6 none, Cond.fieldLink RX3 40 "BoatTrim$Boat" "hull" "LBoatTrim$Hull;", Cond.methodLink RX3 44 yX2_startOf, Cond.methodLink RL 150 yX12_film, Cond.instanceMethod yX12_film, Cond.selects RX12 yX12_film yX12_film, Cond.code yX12_film cX12_film 4 (some .int), Cond.methodLink RL 151 yX11_image, Cond.instanceMethod yX11_image, Cond.selects RX11 yX11_image yX11_image, Cond.code yX11_image cX11_image 1 (some .int), Cond.methodLink RX11 379 yX0_copyFrom, Cond.instanceMethod yX0_copyFrom]
def wsL_law_r49 : List Cond := [Cond.selects RX0 yX0_copyFrom yX0_copyFrom, Cond.code yX0_copyFrom cX0_copyFrom 2 none, Cond.methodLink RX0 43 yX2_copyFrom, Cond.instanceMethod yX2_copyFrom, Cond.selects RX2 yX2_copyFrom yX2_copyFrom, Cond.code yX2_copyFrom cX2_copyFrom 2 none, Cond.methodLink RX2 41 arraycopyName, Cond.methodLink RX0 47 yX1_copyFrom, Cond.instanceMethod yX1_copyFrom, Cond.selects RX1 yX1_copyFrom yX1_copyFrom, Cond.code yX1_copyFrom cX1_copyFrom 2 none, Cond.methodLink RX0 50 yX8_copyFrom, Cond.instanceMethod yX8_copyFrom, Cond.selects RX8 yX8_copyFrom yX8_copyFrom, Cond.code yX8_copyFrom cX8_copyFrom 2 none, Cond.methodLink RX8 30 arraycopyName, Cond.methodLink RL 154 yX12_image, Cond.instanceMethod yX12_image, Cond.selects RX12 yX12_image yX12_image, Cond.code yX12_image cX12_image 2 (some .int), Cond.fieldLink RX12 334 "BoatTrimModel" "isKept" "Z", Cond.methodLink RX12 342 arraycopyName, Cond.methodLink RX12 338 yX12_rowOf, Cond.instanceMethod yX12_rowOf]
def wsL_law_r50 : List Cond := [Cond.selects RX12 yX12_rowOf yX12_rowOf, Cond.code yX12_rowOf cX12_rowOf 2 (some (.array .int)), Cond.methodLink RL 155 yX11_undo, Cond.instanceMethod yX11_undo, Cond.selects RX11 yX11_undo yX11_undo, Cond.code yX11_undo cX11_undo 1 (some .int), Cond.methodLink RL 158 yX12_undo, Cond.instanceMethod yX12_undo, Cond.selects RX12 yX12_undo yX12_undo, Cond.code yX12_undo cX12_undo 2 (some .int), Cond.methodLink RL 159 yX11_count, Cond.instanceMethod yX11_count, Cond.selects RX11 yX11_count yX11_count, Cond.code yX11_count cX11_count 2 (some .int), Cond.methodLink RX11 383 yX8_howManyThere, Cond.instanceMethod yX8_howManyThere, Cond.selects RX8 yX8_howManyThere yX8_howManyThere, Cond.code yX8_howManyThere cX8_howManyThere 3 (some .int), Cond.methodLink RX8 36 yX8_isThere, Cond.methodLink RL 162 yX12_count, Cond.instanceMethod yX12_count, Cond.selects RX12 yX12_count yX12_count, Cond.code yX12_count cX12_count 2 (some .int), Cond.methodLink RX12 348 yX12_tanksThere]
def wsL_law_r51 : List Cond := [Cond.instanceMethod yX12_tanksThere, Cond.selects RX12 yX12_tanksThere yX12_tanksThere, Cond.code yX12_tanksThere cX12_tanksThere 3 (some .int)]
def wsL_law : List Cond := (wsL_law_r1 ++ (wsL_law_r2 ++ (wsL_law_r3 ++ (wsL_law_r4 ++ (wsL_law_r5 ++ (wsL_law_r6 ++ (wsL_law_r7 ++ (wsL_law_r8 ++ (wsL_law_r9 ++ (wsL_law_r10 ++ (wsL_law_r11 ++ (wsL_law_r12 ++ (wsL_law_r13 ++ (wsL_law_r14 ++ (wsL_law_r15 ++ (wsL_law_r16 ++ (wsL_law_r17 ++ (wsL_law_r18 ++ (wsL_law_r19 ++ (wsL_law_r20 ++ (wsL_law_r21 ++ (wsL_law_r22 ++ (wsL_law_r23 ++ (wsL_law_r24 ++ (wsL_law_r25 ++ (wsL_law_r26 ++ (wsL_law_r27 ++ (wsL_law_r28 ++ (wsL_law_r29 ++ (wsL_law_r30 ++ (wsL_law_r31 ++ (wsL_law_r32 ++ (wsL_law_r33 ++ (wsL_law_r34 ++ (wsL_law_r35 ++ (wsL_law_r36 ++ (wsL_law_r37 ++ (wsL_law_r38 ++ (wsL_law_r39 ++ (wsL_law_r40 ++ (wsL_law_r41 ++ (wsL_law_r42 ++ (wsL_law_r43 ++ (wsL_law_r44 ++ (wsL_law_r45 ++ (wsL_law_r46 ++ (wsL_law_r47 ++ (wsL_law_r48 ++ (wsL_law_r49 ++ (wsL_law_r50 ++ wsL_law_r51)))))))))))))))))))))))))))))))))))))))))))))))))) ++ wsX110 ++ wsX120 ++ wsX00 ++ wsX60 ++ wsX90 ++ wsX40 ++ wsX100 ++ wsX70 ++ wsX30 ++ wsX50 ++ wsX20 ++ wsX10 ++ wsX80 ++ ([] : List Cond)
/-- words of one list among a list of lists, by their places -/
theorem sub_ch {big : List Cond} (C : List (List Cond)) (hC : ∀ c ∈ C, ∀ w ∈ c, w ∈ big) (ws : List Cond) (ps : List (Nat × Nat)) (hp : ws = ps.filterMap (fun p => (C[p.1]?).bind (fun c => c[p.2]?))) : ∀ w ∈ ws, w ∈ big := by
  intro w hw
  rw [hp] at hw
  obtain ⟨p, -, hi⟩ := List.mem_filterMap.mp hw
  cases hc : C[p.1]? with
  | none => rw [hc] at hi; exact nomatch hi
  | some c =>
    rw [hc] at hi
    have hi2 : c[p.2]? = some w := hi
    have hm : w ∈ c := by first | exact List.mem_of_getElem? hi2 | exact List.getElem?_mem hi2
    have hm2 : c ∈ C := by first | exact List.mem_of_getElem? hc | exact List.getElem?_mem hc
    exact hC c hm2 w hm
theorem goodIn_ch {big : List Cond} (C : List (List Cond)) (hC : ∀ c ∈ C, ∀ w ∈ c, w ∈ big) (ws : List Cond) (ps : List (Nat × Nat)) (hp : ws = ps.filterMap (fun p => (C[p.1]?).bind (fun c => c[p.2]?))) (h : ws.all goodWord = true) : GoodIn big ws := fun w hw => ⟨sub_ch C hC ws ps hp w hw, good_of_word (List.all_eq_true.mp h w hw)⟩
def wsL_chs : List (List Cond) := [wsL_law_r1, wsL_law_r2, wsL_law_r3, wsL_law_r4, wsL_law_r5, wsL_law_r6, wsL_law_r7, wsL_law_r8, wsL_law_r9, wsL_law_r10, wsL_law_r11, wsL_law_r12, wsL_law_r13, wsL_law_r14, wsL_law_r15, wsL_law_r16, wsL_law_r17, wsL_law_r18, wsL_law_r19, wsL_law_r20, wsL_law_r21, wsL_law_r22, wsL_law_r23, wsL_law_r24, wsL_law_r25, wsL_law_r26, wsL_law_r27, wsL_law_r28, wsL_law_r29, wsL_law_r30, wsL_law_r31, wsL_law_r32, wsL_law_r33, wsL_law_r34, wsL_law_r35, wsL_law_r36, wsL_law_r37, wsL_law_r38, wsL_law_r39, wsL_law_r40, wsL_law_r41, wsL_law_r42, wsL_law_r43, wsL_law_r44, wsL_law_r45, wsL_law_r46, wsL_law_r47, wsL_law_r48, wsL_law_r49, wsL_law_r50, wsL_law_r51, wsX110, wsX120, wsX00, wsX60, wsX90, wsX40, wsX100, wsX70, wsX30, wsX50, wsX20, wsX10, wsX80]
set_option maxRecDepth 100000 in
theorem wsL_chs_in : ∀ c ∈ wsL_chs, ∀ w ∈ c, w ∈ wsL_law := List.forall_mem_cons.mpr ⟨fun _ h => List.mem_append_left _ (List.mem_append_left _ (List.mem_append_left _ (List.mem_append_left _ (List.mem_append_left _ (List.mem_append_left _ (List.mem_append_left _ (List.mem_append_left _ (List.mem_append_left _ (List.mem_append_left _ (List.mem_append_left _ (List.mem_append_left _ (List.mem_append_left _ (List.mem_append_left _ (List.mem_append_left _ h)))))))))))))), List.forall_mem_cons.mpr ⟨fun _ h => List.mem_append_left _ (List.mem_append_left _ (List.mem_append_left _ (List.mem_append_left _ (List.mem_append_left _ (List.mem_append_left _ (List.mem_append_left _ (List.mem_append_left _ (List.mem_append_left _ (List.mem_append_left _ (List.mem_append_left _ (List.mem_append_left _ (List.mem_append_left _ (List.mem_append_left _ (List.mem_append_right _ (List.mem_append_left _ h))))))))))))))), List.forall_mem_cons.mpr ⟨fun _ h => List.mem_append_left _ (List.mem_append_left _ (List.mem_append_left _ (List.mem_append_left _ (List.mem_append_left _ (List.mem_append_left _ (List.mem_append_left _ (List.mem_append_left _ (List.mem_append_left _ (List.mem_append_left _ (List.mem_append_left _ (List.mem_append_left _ (List.mem_append_left _ (List.mem_append_left _ (List.mem_append_right _ (List.mem_append_right _ (List.mem_append_left _ h)))))))))))))))), List.forall_mem_cons.mpr ⟨fun _ h => List.mem_append_left _ (List.mem_append_left _ (List.mem_append_left _ (List.mem_append_left _ (List.mem_append_left _ (List.mem_append_left _ (List.mem_append_left _ (List.mem_append_left _ (List.mem_append_left _ (List.mem_append_left _ (List.mem_append_left _ (List.mem_append_left _ (List.mem_append_left _ (List.mem_append_left _ (List.mem_append_right _ (List.mem_append_right _ (List.mem_append_right _ (List.mem_append_left _ h))))))))))))))))), List.forall_mem_cons.mpr ⟨fun _ h => List.mem_append_left _ (List.mem_append_left _ (List.mem_append_left _ (List.mem_append_left _ (List.mem_append_left _ (List.mem_append_left _ (List.mem_append_left _ (List.mem_append_left _ (List.mem_append_left _ (List.mem_append_left _ (List.mem_append_left _ (List.mem_append_left _ (List.mem_append_left _ (List.mem_append_left _ (List.mem_append_right _ (List.mem_append_right _ (List.mem_append_right _ (List.mem_append_right _ (List.mem_append_left _ h)))))))))))))))))), List.forall_mem_cons.mpr ⟨fun _ h => List.mem_append_left _ (List.mem_append_left _ (List.mem_append_left _ (List.mem_append_left _ (List.mem_append_left _ (List.mem_append_left _ (List.mem_append_left _ (List.mem_append_left _ (List.mem_append_left _ (List.mem_append_left _ (List.mem_append_left _ (List.mem_append_left _ (List.mem_append_left _ (List.mem_append_left _ (List.mem_append_right _ (List.mem_append_right _ (List.mem_append_right _ (List.mem_append_right _ (List.mem_append_right _ (List.mem_append_left _ h))))))))))))))))))), List.forall_mem_cons.mpr ⟨fun _ h => List.mem_append_left _ (List.mem_append_left _ (List.mem_append_left _ (List.mem_append_left _ (List.mem_append_left _ (List.mem_append_left _ (List.mem_append_left _ (List.mem_append_left _ (List.mem_append_left _ (List.mem_append_left _ (List.mem_append_left _ (List.mem_append_left _ (List.mem_append_left _ (List.mem_append_left _ (List.mem_append_right _ (List.mem_append_right _ (List.mem_append_right _ (List.mem_append_right _ (List.mem_append_right _ (List.mem_append_right _ (List.mem_append_left _ h)))))))))))))))))))), List.forall_mem_cons.mpr ⟨fun _ h => List.mem_append_left _ (List.mem_append_left _ (List.mem_append_left _ (List.mem_append_left _ (List.mem_append_left _ (List.mem_append_left _ (List.mem_append_left _ (List.mem_append_left _ (List.mem_append_left _ (List.mem_append_left _ (List.mem_append_left _ (List.mem_append_left _ (List.mem_append_left _ (List.mem_append_left _ (List.mem_append_right _ (List.mem_append_right _ (List.mem_append_right _ (List.mem_append_right _ (List.mem_append_right _ (List.mem_append_right _ (List.mem_append_right _ (List.mem_append_left _ h))))))))))))))))))))), List.forall_mem_cons.mpr ⟨fun _ h => List.mem_append_left _ (List.mem_append_left _ (List.mem_append_left _ (List.mem_append_left _ (List.mem_append_left _ (List.mem_append_left _ (List.mem_append_left _ (List.mem_append_left _ (List.mem_append_left _ (List.mem_append_left _ (List.mem_append_left _ (List.mem_append_left _ (List.mem_append_left _ (List.mem_append_left _ (List.mem_append_right _ (List.mem_append_right _ (List.mem_append_right _ (List.mem_append_right _ (List.mem_append_right _ (List.mem_append_right _ (List.mem_append_right _ (List.mem_append_right _ (List.mem_append_left _ h)))))))))))))))))))))), List.forall_mem_cons.mpr ⟨fun _ h => List.mem_append_left _ (List.mem_append_left _ (List.mem_append_left _ (List.mem_append_left _ (List.mem_append_left _ (List.mem_append_left _ (List.mem_append_left _ (List.mem_append_left _ (List.mem_append_left _ (List.mem_append_left _ (List.mem_append_left _ (List.mem_append_left _ (List.mem_append_left _ (List.mem_append_left _ (List.mem_append_right _ (List.mem_append_right _ (List.mem_append_right _ (List.mem_append_right _ (List.mem_append_right _ (List.mem_append_right _ (List.mem_append_right _ (List.mem_append_right _ (List.mem_append_right _ (List.mem_append_left _ h))))))))))))))))))))))), List.forall_mem_cons.mpr ⟨fun _ h => List.mem_append_left _ (List.mem_append_left _ (List.mem_append_left _ (List.mem_append_left _ (List.mem_append_left _ (List.mem_append_left _ (List.mem_append_left _ (List.mem_append_left _ (List.mem_append_left _ (List.mem_append_left _ (List.mem_append_left _ (List.mem_append_left _ (List.mem_append_left _ (List.mem_append_left _ (List.mem_append_right _ (List.mem_append_right _ (List.mem_append_right _ (List.mem_append_right _ (List.mem_append_right _ (List.mem_append_right _ (List.mem_append_right _ (List.mem_append_right _ (List.mem_append_right _ (List.mem_append_right _ (List.mem_append_left _ h)))))))))))))))))))))))), List.forall_mem_cons.mpr ⟨fun _ h => List.mem_append_left _ (List.mem_append_left _ (List.mem_append_left _ (List.mem_append_left _ (List.mem_append_left _ (List.mem_append_left _ (List.mem_append_left _ (List.mem_append_left _ (List.mem_append_left _ (List.mem_append_left _ (List.mem_append_left _ (List.mem_append_left _ (List.mem_append_left _ (List.mem_append_left _ (List.mem_append_right _ (List.mem_append_right _ (List.mem_append_right _ (List.mem_append_right _ (List.mem_append_right _ (List.mem_append_right _ (List.mem_append_right _ (List.mem_append_right _ (List.mem_append_right _ (List.mem_append_right _ (List.mem_append_right _ (List.mem_append_left _ h))))))))))))))))))))))))), List.forall_mem_cons.mpr ⟨fun _ h => List.mem_append_left _ (List.mem_append_left _ (List.mem_append_left _ (List.mem_append_left _ (List.mem_append_left _ (List.mem_append_left _ (List.mem_append_left _ (List.mem_append_left _ (List.mem_append_left _ (List.mem_append_left _ (List.mem_append_left _ (List.mem_append_left _ (List.mem_append_left _ (List.mem_append_left _ (List.mem_append_right _ (List.mem_append_right _ (List.mem_append_right _ (List.mem_append_right _ (List.mem_append_right _ (List.mem_append_right _ (List.mem_append_right _ (List.mem_append_right _ (List.mem_append_right _ (List.mem_append_right _ (List.mem_append_right _ (List.mem_append_right _ (List.mem_append_left _ h)))))))))))))))))))))))))), List.forall_mem_cons.mpr ⟨fun _ h => List.mem_append_left _ (List.mem_append_left _ (List.mem_append_left _ (List.mem_append_left _ (List.mem_append_left _ (List.mem_append_left _ (List.mem_append_left _ (List.mem_append_left _ (List.mem_append_left _ (List.mem_append_left _ (List.mem_append_left _ (List.mem_append_left _ (List.mem_append_left _ (List.mem_append_left _ (List.mem_append_right _ (List.mem_append_right _ (List.mem_append_right _ (List.mem_append_right _ (List.mem_append_right _ (List.mem_append_right _ (List.mem_append_right _ (List.mem_append_right _ (List.mem_append_right _ (List.mem_append_right _ (List.mem_append_right _ (List.mem_append_right _ (List.mem_append_right _ (List.mem_append_left _ h))))))))))))))))))))))))))), List.forall_mem_cons.mpr ⟨fun _ h => List.mem_append_left _ (List.mem_append_left _ (List.mem_append_left _ (List.mem_append_left _ (List.mem_append_left _ (List.mem_append_left _ (List.mem_append_left _ (List.mem_append_left _ (List.mem_append_left _ (List.mem_append_left _ (List.mem_append_left _ (List.mem_append_left _ (List.mem_append_left _ (List.mem_append_left _ (List.mem_append_right _ (List.mem_append_right _ (List.mem_append_right _ (List.mem_append_right _ (List.mem_append_right _ (List.mem_append_right _ (List.mem_append_right _ (List.mem_append_right _ (List.mem_append_right _ (List.mem_append_right _ (List.mem_append_right _ (List.mem_append_right _ (List.mem_append_right _ (List.mem_append_right _ (List.mem_append_left _ h)))))))))))))))))))))))))))), List.forall_mem_cons.mpr ⟨fun _ h => List.mem_append_left _ (List.mem_append_left _ (List.mem_append_left _ (List.mem_append_left _ (List.mem_append_left _ (List.mem_append_left _ (List.mem_append_left _ (List.mem_append_left _ (List.mem_append_left _ (List.mem_append_left _ (List.mem_append_left _ (List.mem_append_left _ (List.mem_append_left _ (List.mem_append_left _ (List.mem_append_right _ (List.mem_append_right _ (List.mem_append_right _ (List.mem_append_right _ (List.mem_append_right _ (List.mem_append_right _ (List.mem_append_right _ (List.mem_append_right _ (List.mem_append_right _ (List.mem_append_right _ (List.mem_append_right _ (List.mem_append_right _ (List.mem_append_right _ (List.mem_append_right _ (List.mem_append_right _ (List.mem_append_left _ h))))))))))))))))))))))))))))), List.forall_mem_cons.mpr ⟨fun _ h => List.mem_append_left _ (List.mem_append_left _ (List.mem_append_left _ (List.mem_append_left _ (List.mem_append_left _ (List.mem_append_left _ (List.mem_append_left _ (List.mem_append_left _ (List.mem_append_left _ (List.mem_append_left _ (List.mem_append_left _ (List.mem_append_left _ (List.mem_append_left _ (List.mem_append_left _ (List.mem_append_right _ (List.mem_append_right _ (List.mem_append_right _ (List.mem_append_right _ (List.mem_append_right _ (List.mem_append_right _ (List.mem_append_right _ (List.mem_append_right _ (List.mem_append_right _ (List.mem_append_right _ (List.mem_append_right _ (List.mem_append_right _ (List.mem_append_right _ (List.mem_append_right _ (List.mem_append_right _ (List.mem_append_right _ (List.mem_append_left _ h)))))))))))))))))))))))))))))), List.forall_mem_cons.mpr ⟨fun _ h => List.mem_append_left _ (List.mem_append_left _ (List.mem_append_left _ (List.mem_append_left _ (List.mem_append_left _ (List.mem_append_left _ (List.mem_append_left _ (List.mem_append_left _ (List.mem_append_left _ (List.mem_append_left _ (List.mem_append_left _ (List.mem_append_left _ (List.mem_append_left _ (List.mem_append_left _ (List.mem_append_right _ (List.mem_append_right _ (List.mem_append_right _ (List.mem_append_right _ (List.mem_append_right _ (List.mem_append_right _ (List.mem_append_right _ (List.mem_append_right _ (List.mem_append_right _ (List.mem_append_right _ (List.mem_append_right _ (List.mem_append_right _ (List.mem_append_right _ (List.mem_append_right _ (List.mem_append_right _ (List.mem_append_right _ (List.mem_append_right _ (List.mem_append_left _ h))))))))))))))))))))))))))))))), List.forall_mem_cons.mpr ⟨fun _ h => List.mem_append_left _ (List.mem_append_left _ (List.mem_append_left _ (List.mem_append_left _ (List.mem_append_left _ (List.mem_append_left _ (List.mem_append_left _ (List.mem_append_left _ (List.mem_append_left _ (List.mem_append_left _ (List.mem_append_left _ (List.mem_append_left _ (List.mem_append_left _ (List.mem_append_left _ (List.mem_append_right _ (List.mem_append_right _ (List.mem_append_right _ (List.mem_append_right _ (List.mem_append_right _ (List.mem_append_right _ (List.mem_append_right _ (List.mem_append_right _ (List.mem_append_right _ (List.mem_append_right _ (List.mem_append_right _ (List.mem_append_right _ (List.mem_append_right _ (List.mem_append_right _ (List.mem_append_right _ (List.mem_append_right _ (List.mem_append_right _ (List.mem_append_right _ (List.mem_append_left _ h)))))))))))))))))))))))))))))))), List.forall_mem_cons.mpr ⟨fun _ h => List.mem_append_left _ (List.mem_append_left _ (List.mem_append_left _ (List.mem_append_left _ (List.mem_append_left _ (List.mem_append_left _ (List.mem_append_left _ (List.mem_append_left _ (List.mem_append_left _ (List.mem_append_left _ (List.mem_append_left _ (List.mem_append_left _ (List.mem_append_left _ (List.mem_append_left _ (List.mem_append_right _ (List.mem_append_right _ (List.mem_append_right _ (List.mem_append_right _ (List.mem_append_right _ (List.mem_append_right _ (List.mem_append_right _ (List.mem_append_right _ (List.mem_append_right _ (List.mem_append_right _ (List.mem_append_right _ (List.mem_append_right _ (List.mem_append_right _ (List.mem_append_right _ (List.mem_append_right _ (List.mem_append_right _ (List.mem_append_right _ (List.mem_append_right _ (List.mem_append_right _ (List.mem_append_left _ h))))))))))))))))))))))))))))))))), List.forall_mem_cons.mpr ⟨fun _ h => List.mem_append_left _ (List.mem_append_left _ (List.mem_append_left _ (List.mem_append_left _ (List.mem_append_left _ (List.mem_append_left _ (List.mem_append_left _ (List.mem_append_left _ (List.mem_append_left _ (List.mem_append_left _ (List.mem_append_left _ (List.mem_append_left _ (List.mem_append_left _ (List.mem_append_left _ (List.mem_append_right _ (List.mem_append_right _ (List.mem_append_right _ (List.mem_append_right _ (List.mem_append_right _ (List.mem_append_right _ (List.mem_append_right _ (List.mem_append_right _ (List.mem_append_right _ (List.mem_append_right _ (List.mem_append_right _ (List.mem_append_right _ (List.mem_append_right _ (List.mem_append_right _ (List.mem_append_right _ (List.mem_append_right _ (List.mem_append_right _ (List.mem_append_right _ (List.mem_append_right _ (List.mem_append_right _ (List.mem_append_left _ h)))))))))))))))))))))))))))))))))), List.forall_mem_cons.mpr ⟨fun _ h => List.mem_append_left _ (List.mem_append_left _ (List.mem_append_left _ (List.mem_append_left _ (List.mem_append_left _ (List.mem_append_left _ (List.mem_append_left _ (List.mem_append_left _ (List.mem_append_left _ (List.mem_append_left _ (List.mem_append_left _ (List.mem_append_left _ (List.mem_append_left _ (List.mem_append_left _ (List.mem_append_right _ (List.mem_append_right _ (List.mem_append_right _ (List.mem_append_right _ (List.mem_append_right _ (List.mem_append_right _ (List.mem_append_right _ (List.mem_append_right _ (List.mem_append_right _ (List.mem_append_right _ (List.mem_append_right _ (List.mem_append_right _ (List.mem_append_right _ (List.mem_append_right _ (List.mem_append_right _ (List.mem_append_right _ (List.mem_append_right _ (List.mem_append_right _ (List.mem_append_right _ (List.mem_append_right _ (List.mem_append_right _ (List.mem_append_left _ h))))))))))))))))))))))))))))))))))), List.forall_mem_cons.mpr ⟨fun _ h => List.mem_append_left _ (List.mem_append_left _ (List.mem_append_left _ (List.mem_append_left _ (List.mem_append_left _ (List.mem_append_left _ (List.mem_append_left _ (List.mem_append_left _ (List.mem_append_left _ (List.mem_append_left _ (List.mem_append_left _ (List.mem_append_left _ (List.mem_append_left _ (List.mem_append_left _ (List.mem_append_right _ (List.mem_append_right _ (List.mem_append_right _ (List.mem_append_right _ (List.mem_append_right _ (List.mem_append_right _ (List.mem_append_right _ (List.mem_append_right _ (List.mem_append_right _ (List.mem_append_right _ (List.mem_append_right _ (List.mem_append_right _ (List.mem_append_right _ (List.mem_append_right _ (List.mem_append_right _ (List.mem_append_right _ (List.mem_append_right _ (List.mem_append_right _ (List.mem_append_right _ (List.mem_append_right _ (List.mem_append_right _ (List.mem_append_right _ (List.mem_append_left _ h)))))))))))))))))))))))))))))))))))), List.forall_mem_cons.mpr ⟨fun _ h => List.mem_append_left _ (List.mem_append_left _ (List.mem_append_left _ (List.mem_append_left _ (List.mem_append_left _ (List.mem_append_left _ (List.mem_append_left _ (List.mem_append_left _ (List.mem_append_left _ (List.mem_append_left _ (List.mem_append_left _ (List.mem_append_left _ (List.mem_append_left _ (List.mem_append_left _ (List.mem_append_right _ (List.mem_append_right _ (List.mem_append_right _ (List.mem_append_right _ (List.mem_append_right _ (List.mem_append_right _ (List.mem_append_right _ (List.mem_append_right _ (List.mem_append_right _ (List.mem_append_right _ (List.mem_append_right _ (List.mem_append_right _ (List.mem_append_right _ (List.mem_append_right _ (List.mem_append_right _ (List.mem_append_right _ (List.mem_append_right _ (List.mem_append_right _ (List.mem_append_right _ (List.mem_append_right _ (List.mem_append_right _ (List.mem_append_right _ (List.mem_append_right _ (List.mem_append_left _ h))))))))))))))))))))))))))))))))))))), List.forall_mem_cons.mpr ⟨fun _ h => List.mem_append_left _ (List.mem_append_left _ (List.mem_append_left _ (List.mem_append_left _ (List.mem_append_left _ (List.mem_append_left _ (List.mem_append_left _ (List.mem_append_left _ (List.mem_append_left _ (List.mem_append_left _ (List.mem_append_left _ (List.mem_append_left _ (List.mem_append_left _ (List.mem_append_left _ (List.mem_append_right _ (List.mem_append_right _ (List.mem_append_right _ (List.mem_append_right _ (List.mem_append_right _ (List.mem_append_right _ (List.mem_append_right _ (List.mem_append_right _ (List.mem_append_right _ (List.mem_append_right _ (List.mem_append_right _ (List.mem_append_right _ (List.mem_append_right _ (List.mem_append_right _ (List.mem_append_right _ (List.mem_append_right _ (List.mem_append_right _ (List.mem_append_right _ (List.mem_append_right _ (List.mem_append_right _ (List.mem_append_right _ (List.mem_append_right _ (List.mem_append_right _ (List.mem_append_right _ (List.mem_append_left _ h)))))))))))))))))))))))))))))))))))))), List.forall_mem_cons.mpr ⟨fun _ h => List.mem_append_left _ (List.mem_append_left _ (List.mem_append_left _ (List.mem_append_left _ (List.mem_append_left _ (List.mem_append_left _ (List.mem_append_left _ (List.mem_append_left _ (List.mem_append_left _ (List.mem_append_left _ (List.mem_append_left _ (List.mem_append_left _ (List.mem_append_left _ (List.mem_append_left _ (List.mem_append_right _ (List.mem_append_right _ (List.mem_append_right _ (List.mem_append_right _ (List.mem_append_right _ (List.mem_append_right _ (List.mem_append_right _ (List.mem_append_right _ (List.mem_append_right _ (List.mem_append_right _ (List.mem_append_right _ (List.mem_append_right _ (List.mem_append_right _ (List.mem_append_right _ (List.mem_append_right _ (List.mem_append_right _ (List.mem_append_right _ (List.mem_append_right _ (List.mem_append_right _ (List.mem_append_right _ (List.mem_append_right _ (List.mem_append_right _ (List.mem_append_right _ (List.mem_append_right _ (List.mem_append_right _ (List.mem_append_left _ h))))))))))))))))))))))))))))))))))))))), List.forall_mem_cons.mpr ⟨fun _ h => List.mem_append_left _ (List.mem_append_left _ (List.mem_append_left _ (List.mem_append_left _ (List.mem_append_left _ (List.mem_append_left _ (List.mem_append_left _ (List.mem_append_left _ (List.mem_append_left _ (List.mem_append_left _ (List.mem_append_left _ (List.mem_append_left _ (List.mem_append_left _ (List.mem_append_left _ (List.mem_append_right _ (List.mem_append_right _ (List.mem_append_right _ (List.mem_append_right _ (List.mem_append_right _ (List.mem_append_right _ (List.mem_append_right _ (List.mem_append_right _ (List.mem_append_right _ (List.mem_append_right _ (List.mem_append_right _ (List.mem_append_right _ (List.mem_append_right _ (List.mem_append_right _ (List.mem_append_right _ (List.mem_append_right _ (List.mem_append_right _ (List.mem_append_right _ (List.mem_append_right _ (List.mem_append_right _ (List.mem_append_right _ (List.mem_append_right _ (List.mem_append_right _ (List.mem_append_right _ (List.mem_append_right _ (List.mem_append_right _ (List.mem_append_left _ h)))))))))))))))))))))))))))))))))))))))), List.forall_mem_cons.mpr ⟨fun _ h => List.mem_append_left _ (List.mem_append_left _ (List.mem_append_left _ (List.mem_append_left _ (List.mem_append_left _ (List.mem_append_left _ (List.mem_append_left _ (List.mem_append_left _ (List.mem_append_left _ (List.mem_append_left _ (List.mem_append_left _ (List.mem_append_left _ (List.mem_append_left _ (List.mem_append_left _ (List.mem_append_right _ (List.mem_append_right _ (List.mem_append_right _ (List.mem_append_right _ (List.mem_append_right _ (List.mem_append_right _ (List.mem_append_right _ (List.mem_append_right _ (List.mem_append_right _ (List.mem_append_right _ (List.mem_append_right _ (List.mem_append_right _ (List.mem_append_right _ (List.mem_append_right _ (List.mem_append_right _ (List.mem_append_right _ (List.mem_append_right _ (List.mem_append_right _ (List.mem_append_right _ (List.mem_append_right _ (List.mem_append_right _ (List.mem_append_right _ (List.mem_append_right _ (List.mem_append_right _ (List.mem_append_right _ (List.mem_append_right _ (List.mem_append_right _ (List.mem_append_left _ h))))))))))))))))))))))))))))))))))))))))), List.forall_mem_cons.mpr ⟨fun _ h => List.mem_append_left _ (List.mem_append_left _ (List.mem_append_left _ (List.mem_append_left _ (List.mem_append_left _ (List.mem_append_left _ (List.mem_append_left _ (List.mem_append_left _ (List.mem_append_left _ (List.mem_append_left _ (List.mem_append_left _ (List.mem_append_left _ (List.mem_append_left _ (List.mem_append_left _ (List.mem_append_right _ (List.mem_append_right _ (List.mem_append_right _ (List.mem_append_right _ (List.mem_append_right _ (List.mem_append_right _ (List.mem_append_right _ (List.mem_append_right _ (List.mem_append_right _ (List.mem_append_right _ (List.mem_append_right _ (List.mem_append_right _ (List.mem_append_right _ (List.mem_append_right _ (List.mem_append_right _ (List.mem_append_right _ (List.mem_append_right _ (List.mem_append_right _ (List.mem_append_right _ (List.mem_append_right _ (List.mem_append_right _ (List.mem_append_right _ (List.mem_append_right _ (List.mem_append_right _ (List.mem_append_right _ (List.mem_append_right _ (List.mem_append_right _ (List.mem_append_right _ (List.mem_append_left _ h)))))))))))))))))))))))))))))))))))))))))), List.forall_mem_cons.mpr ⟨fun _ h => List.mem_append_left _ (List.mem_append_left _ (List.mem_append_left _ (List.mem_append_left _ (List.mem_append_left _ (List.mem_append_left _ (List.mem_append_left _ (List.mem_append_left _ (List.mem_append_left _ (List.mem_append_left _ (List.mem_append_left _ (List.mem_append_left _ (List.mem_append_left _ (List.mem_append_left _ (List.mem_append_right _ (List.mem_append_right _ (List.mem_append_right _ (List.mem_append_right _ (List.mem_append_right _ (List.mem_append_right _ (List.mem_append_right _ (List.mem_append_right _ (List.mem_append_right _ (List.mem_append_right _ (List.mem_append_right _ (List.mem_append_right _ (List.mem_append_right _ (List.mem_append_right _ (List.mem_append_right _ (List.mem_append_right _ (List.mem_append_right _ (List.mem_append_right _ (List.mem_append_right _ (List.mem_append_right _ (List.mem_append_right _ (List.mem_append_right _ (List.mem_append_right _ (List.mem_append_right _ (List.mem_append_right _ (List.mem_append_right _ (List.mem_append_right _ (List.mem_append_right _ (List.mem_append_right _ (List.mem_append_left _ h))))))))))))))))))))))))))))))))))))))))))), List.forall_mem_cons.mpr ⟨fun _ h => List.mem_append_left _ (List.mem_append_left _ (List.mem_append_left _ (List.mem_append_left _ (List.mem_append_left _ (List.mem_append_left _ (List.mem_append_left _ (List.mem_append_left _ (List.mem_append_left _ (List.mem_append_left _ (List.mem_append_left _ (List.mem_append_left _ (List.mem_append_left _ (List.mem_append_left _ (List.mem_append_right _ (List.mem_append_right _ (List.mem_append_right _ (List.mem_append_right _ (List.mem_append_right _ (List.mem_append_right _ (List.mem_append_right _ (List.mem_append_right _ (List.mem_append_right _ (List.mem_append_right _ (List.mem_append_right _ (List.mem_append_right _ (List.mem_append_right _ (List.mem_append_right _ (List.mem_append_right _ (List.mem_append_right _ (List.mem_append_right _ (List.mem_append_right _ (List.mem_append_right _ (List.mem_append_right _ (List.mem_append_right _ (List.mem_append_right _ (List.mem_append_right _ (List.mem_append_right _ (List.mem_append_right _ (List.mem_append_right _ (List.mem_append_right _ (List.mem_append_right _ (List.mem_append_right _ (List.mem_append_right _ (List.mem_append_left _ h)))))))))))))))))))))))))))))))))))))))))))), List.forall_mem_cons.mpr ⟨fun _ h => List.mem_append_left _ (List.mem_append_left _ (List.mem_append_left _ (List.mem_append_left _ (List.mem_append_left _ (List.mem_append_left _ (List.mem_append_left _ (List.mem_append_left _ (List.mem_append_left _ (List.mem_append_left _ (List.mem_append_left _ (List.mem_append_left _ (List.mem_append_left _ (List.mem_append_left _ (List.mem_append_right _ (List.mem_append_right _ (List.mem_append_right _ (List.mem_append_right _ (List.mem_append_right _ (List.mem_append_right _ (List.mem_append_right _ (List.mem_append_right _ (List.mem_append_right _ (List.mem_append_right _ (List.mem_append_right _ (List.mem_append_right _ (List.mem_append_right _ (List.mem_append_right _ (List.mem_append_right _ (List.mem_append_right _ (List.mem_append_right _ (List.mem_append_right _ (List.mem_append_right _ (List.mem_append_right _ (List.mem_append_right _ (List.mem_append_right _ (List.mem_append_right _ (List.mem_append_right _ (List.mem_append_right _ (List.mem_append_right _ (List.mem_append_right _ (List.mem_append_right _ (List.mem_append_right _ (List.mem_append_right _ (List.mem_append_right _ (List.mem_append_left _ h))))))))))))))))))))))))))))))))))))))))))))), List.forall_mem_cons.mpr ⟨fun _ h => List.mem_append_left _ (List.mem_append_left _ (List.mem_append_left _ (List.mem_append_left _ (List.mem_append_left _ (List.mem_append_left _ (List.mem_append_left _ (List.mem_append_left _ (List.mem_append_left _ (List.mem_append_left _ (List.mem_append_left _ (List.mem_append_left _ (List.mem_append_left _ (List.mem_append_left _ (List.mem_append_right _ (List.mem_append_right _ (List.mem_append_right _ (List.mem_append_right _ (List.mem_append_right _ (List.mem_append_right _ (List.mem_append_right _ (List.mem_append_right _ (List.mem_append_right _ (List.mem_append_right _ (List.mem_append_right _ (List.mem_append_right _ (List.mem_append_right _ (List.mem_append_right _ (List.mem_append_right _ (List.mem_append_right _ (List.mem_append_right _ (List.mem_append_right _ (List.mem_append_right _ (List.mem_append_right _ (List.mem_append_right _ (List.mem_append_right _ (List.mem_append_right _ (List.mem_append_right _ (List.mem_append_right _ (List.mem_append_right _ (List.mem_append_right _ (List.mem_append_right _ (List.mem_append_right _ (List.mem_append_right _ (List.mem_append_right _ (List.mem_append_right _ (List.mem_append_left _ h)))))))))))))))))))))))))))))))))))))))))))))), List.forall_mem_cons.mpr ⟨fun _ h => List.mem_append_left _ (List.mem_append_left _ (List.mem_append_left _ (List.mem_append_left _ (List.mem_append_left _ (List.mem_append_left _ (List.mem_append_left _ (List.mem_append_left _ (List.mem_append_left _ (List.mem_append_left _ (List.mem_append_left _ (List.mem_append_left _ (List.mem_append_left _ (List.mem_append_left _ (List.mem_append_right _ (List.mem_append_right _ (List.mem_append_right _ (List.mem_append_right _ (List.mem_append_right _ (List.mem_append_right _ (List.mem_append_right _ (List.mem_append_right _ (List.mem_append_right _ (List.mem_append_right _ (List.mem_append_right _ (List.mem_append_right _ (List.mem_append_right _ (List.mem_append_right _ (List.mem_append_right _ (List.mem_append_right _ (List.mem_append_right _ (List.mem_append_right _ (List.mem_append_right _ (List.mem_append_right _ (List.mem_append_right _ (List.mem_append_right _ (List.mem_append_right _ (List.mem_append_right _ (List.mem_append_right _ (List.mem_append_right _ (List.mem_append_right _ (List.mem_append_right _ (List.mem_append_right _ (List.mem_append_right _ (List.mem_append_right _ (List.mem_append_right _ (List.mem_append_right _ (List.mem_append_left _ h))))))))))))))))))))))))))))))))))))))))))))))), List.forall_mem_cons.mpr ⟨fun _ h => List.mem_append_left _ (List.mem_append_left _ (List.mem_append_left _ (List.mem_append_left _ (List.mem_append_left _ (List.mem_append_left _ (List.mem_append_left _ (List.mem_append_left _ (List.mem_append_left _ (List.mem_append_left _ (List.mem_append_left _ (List.mem_append_left _ (List.mem_append_left _ (List.mem_append_left _ (List.mem_append_right _ (List.mem_append_right _ (List.mem_append_right _ (List.mem_append_right _ (List.mem_append_right _ (List.mem_append_right _ (List.mem_append_right _ (List.mem_append_right _ (List.mem_append_right _ (List.mem_append_right _ (List.mem_append_right _ (List.mem_append_right _ (List.mem_append_right _ (List.mem_append_right _ (List.mem_append_right _ (List.mem_append_right _ (List.mem_append_right _ (List.mem_append_right _ (List.mem_append_right _ (List.mem_append_right _ (List.mem_append_right _ (List.mem_append_right _ (List.mem_append_right _ (List.mem_append_right _ (List.mem_append_right _ (List.mem_append_right _ (List.mem_append_right _ (List.mem_append_right _ (List.mem_append_right _ (List.mem_append_right _ (List.mem_append_right _ (List.mem_append_right _ (List.mem_append_right _ (List.mem_append_right _ (List.mem_append_left _ h)))))))))))))))))))))))))))))))))))))))))))))))), List.forall_mem_cons.mpr ⟨fun _ h => List.mem_append_left _ (List.mem_append_left _ (List.mem_append_left _ (List.mem_append_left _ (List.mem_append_left _ (List.mem_append_left _ (List.mem_append_left _ (List.mem_append_left _ (List.mem_append_left _ (List.mem_append_left _ (List.mem_append_left _ (List.mem_append_left _ (List.mem_append_left _ (List.mem_append_left _ (List.mem_append_right _ (List.mem_append_right _ (List.mem_append_right _ (List.mem_append_right _ (List.mem_append_right _ (List.mem_append_right _ (List.mem_append_right _ (List.mem_append_right _ (List.mem_append_right _ (List.mem_append_right _ (List.mem_append_right _ (List.mem_append_right _ (List.mem_append_right _ (List.mem_append_right _ (List.mem_append_right _ (List.mem_append_right _ (List.mem_append_right _ (List.mem_append_right _ (List.mem_append_right _ (List.mem_append_right _ (List.mem_append_right _ (List.mem_append_right _ (List.mem_append_right _ (List.mem_append_right _ (List.mem_append_right _ (List.mem_append_right _ (List.mem_append_right _ (List.mem_append_right _ (List.mem_append_right _ (List.mem_append_right _ (List.mem_append_right _ (List.mem_append_right _ (List.mem_append_right _ (List.mem_append_right _ (List.mem_append_right _ (List.mem_append_left _ h))))))))))))))))))))))))))))))))))))))))))))))))), List.forall_mem_cons.mpr ⟨fun _ h => List.mem_append_left _ (List.mem_append_left _ (List.mem_append_left _ (List.mem_append_left _ (List.mem_append_left _ (List.mem_append_left _ (List.mem_append_left _ (List.mem_append_left _ (List.mem_append_left _ (List.mem_append_left _ (List.mem_append_left _ (List.mem_append_left _ (List.mem_append_left _ (List.mem_append_left _ (List.mem_append_right _ (List.mem_append_right _ (List.mem_append_right _ (List.mem_append_right _ (List.mem_append_right _ (List.mem_append_right _ (List.mem_append_right _ (List.mem_append_right _ (List.mem_append_right _ (List.mem_append_right _ (List.mem_append_right _ (List.mem_append_right _ (List.mem_append_right _ (List.mem_append_right _ (List.mem_append_right _ (List.mem_append_right _ (List.mem_append_right _ (List.mem_append_right _ (List.mem_append_right _ (List.mem_append_right _ (List.mem_append_right _ (List.mem_append_right _ (List.mem_append_right _ (List.mem_append_right _ (List.mem_append_right _ (List.mem_append_right _ (List.mem_append_right _ (List.mem_append_right _ (List.mem_append_right _ (List.mem_append_right _ (List.mem_append_right _ (List.mem_append_right _ (List.mem_append_right _ (List.mem_append_right _ (List.mem_append_right _ (List.mem_append_right _ (List.mem_append_left _ h)))))))))))))))))))))))))))))))))))))))))))))))))), List.forall_mem_cons.mpr ⟨fun _ h => List.mem_append_left _ (List.mem_append_left _ (List.mem_append_left _ (List.mem_append_left _ (List.mem_append_left _ (List.mem_append_left _ (List.mem_append_left _ (List.mem_append_left _ (List.mem_append_left _ (List.mem_append_left _ (List.mem_append_left _ (List.mem_append_left _ (List.mem_append_left _ (List.mem_append_left _ (List.mem_append_right _ (List.mem_append_right _ (List.mem_append_right _ (List.mem_append_right _ (List.mem_append_right _ (List.mem_append_right _ (List.mem_append_right _ (List.mem_append_right _ (List.mem_append_right _ (List.mem_append_right _ (List.mem_append_right _ (List.mem_append_right _ (List.mem_append_right _ (List.mem_append_right _ (List.mem_append_right _ (List.mem_append_right _ (List.mem_append_right _ (List.mem_append_right _ (List.mem_append_right _ (List.mem_append_right _ (List.mem_append_right _ (List.mem_append_right _ (List.mem_append_right _ (List.mem_append_right _ (List.mem_append_right _ (List.mem_append_right _ (List.mem_append_right _ (List.mem_append_right _ (List.mem_append_right _ (List.mem_append_right _ (List.mem_append_right _ (List.mem_append_right _ (List.mem_append_right _ (List.mem_append_right _ (List.mem_append_right _ (List.mem_append_right _ (List.mem_append_right _ (List.mem_append_left _ h))))))))))))))))))))))))))))))))))))))))))))))))))), List.forall_mem_cons.mpr ⟨fun _ h => List.mem_append_left _ (List.mem_append_left _ (List.mem_append_left _ (List.mem_append_left _ (List.mem_append_left _ (List.mem_append_left _ (List.mem_append_left _ (List.mem_append_left _ (List.mem_append_left _ (List.mem_append_left _ (List.mem_append_left _ (List.mem_append_left _ (List.mem_append_left _ (List.mem_append_left _ (List.mem_append_right _ (List.mem_append_right _ (List.mem_append_right _ (List.mem_append_right _ (List.mem_append_right _ (List.mem_append_right _ (List.mem_append_right _ (List.mem_append_right _ (List.mem_append_right _ (List.mem_append_right _ (List.mem_append_right _ (List.mem_append_right _ (List.mem_append_right _ (List.mem_append_right _ (List.mem_append_right _ (List.mem_append_right _ (List.mem_append_right _ (List.mem_append_right _ (List.mem_append_right _ (List.mem_append_right _ (List.mem_append_right _ (List.mem_append_right _ (List.mem_append_right _ (List.mem_append_right _ (List.mem_append_right _ (List.mem_append_right _ (List.mem_append_right _ (List.mem_append_right _ (List.mem_append_right _ (List.mem_append_right _ (List.mem_append_right _ (List.mem_append_right _ (List.mem_append_right _ (List.mem_append_right _ (List.mem_append_right _ (List.mem_append_right _ (List.mem_append_right _ (List.mem_append_right _ (List.mem_append_left _ h)))))))))))))))))))))))))))))))))))))))))))))))))))), List.forall_mem_cons.mpr ⟨fun _ h => List.mem_append_left _ (List.mem_append_left _ (List.mem_append_left _ (List.mem_append_left _ (List.mem_append_left _ (List.mem_append_left _ (List.mem_append_left _ (List.mem_append_left _ (List.mem_append_left _ (List.mem_append_left _ (List.mem_append_left _ (List.mem_append_left _ (List.mem_append_left _ (List.mem_append_left _ (List.mem_append_right _ (List.mem_append_right _ (List.mem_append_right _ (List.mem_append_right _ (List.mem_append_right _ (List.mem_append_right _ (List.mem_append_right _ (List.mem_append_right _ (List.mem_append_right _ (List.mem_append_right _ (List.mem_append_right _ (List.mem_append_right _ (List.mem_append_right _ (List.mem_append_right _ (List.mem_append_right _ (List.mem_append_right _ (List.mem_append_right _ (List.mem_append_right _ (List.mem_append_right _ (List.mem_append_right _ (List.mem_append_right _ (List.mem_append_right _ (List.mem_append_right _ (List.mem_append_right _ (List.mem_append_right _ (List.mem_append_right _ (List.mem_append_right _ (List.mem_append_right _ (List.mem_append_right _ (List.mem_append_right _ (List.mem_append_right _ (List.mem_append_right _ (List.mem_append_right _ (List.mem_append_right _ (List.mem_append_right _ (List.mem_append_right _ (List.mem_append_right _ (List.mem_append_right _ (List.mem_append_right _ (List.mem_append_left _ h))))))))))))))))))))))))))))))))))))))))))))))))))))), List.forall_mem_cons.mpr ⟨fun _ h => List.mem_append_left _ (List.mem_append_left _ (List.mem_append_left _ (List.mem_append_left _ (List.mem_append_left _ (List.mem_append_left _ (List.mem_append_left _ (List.mem_append_left _ (List.mem_append_left _ (List.mem_append_left _ (List.mem_append_left _ (List.mem_append_left _ (List.mem_append_left _ (List.mem_append_left _ (List.mem_append_right _ (List.mem_append_right _ (List.mem_append_right _ (List.mem_append_right _ (List.mem_append_right _ (List.mem_append_right _ (List.mem_append_right _ (List.mem_append_right _ (List.mem_append_right _ (List.mem_append_right _ (List.mem_append_right _ (List.mem_append_right _ (List.mem_append_right _ (List.mem_append_right _ (List.mem_append_right _ (List.mem_append_right _ (List.mem_append_right _ (List.mem_append_right _ (List.mem_append_right _ (List.mem_append_right _ (List.mem_append_right _ (List.mem_append_right _ (List.mem_append_right _ (List.mem_append_right _ (List.mem_append_right _ (List.mem_append_right _ (List.mem_append_right _ (List.mem_append_right _ (List.mem_append_right _ (List.mem_append_right _ (List.mem_append_right _ (List.mem_append_right _ (List.mem_append_right _ (List.mem_append_right _ (List.mem_append_right _ (List.mem_append_right _ (List.mem_append_right _ (List.mem_append_right _ (List.mem_append_right _ (List.mem_append_right _ (List.mem_append_left _ h)))))))))))))))))))))))))))))))))))))))))))))))))))))), List.forall_mem_cons.mpr ⟨fun _ h => List.mem_append_left _ (List.mem_append_left _ (List.mem_append_left _ (List.mem_append_left _ (List.mem_append_left _ (List.mem_append_left _ (List.mem_append_left _ (List.mem_append_left _ (List.mem_append_left _ (List.mem_append_left _ (List.mem_append_left _ (List.mem_append_left _ (List.mem_append_left _ (List.mem_append_left _ (List.mem_append_right _ (List.mem_append_right _ (List.mem_append_right _ (List.mem_append_right _ (List.mem_append_right _ (List.mem_append_right _ (List.mem_append_right _ (List.mem_append_right _ (List.mem_append_right _ (List.mem_append_right _ (List.mem_append_right _ (List.mem_append_right _ (List.mem_append_right _ (List.mem_append_right _ (List.mem_append_right _ (List.mem_append_right _ (List.mem_append_right _ (List.mem_append_right _ (List.mem_append_right _ (List.mem_append_right _ (List.mem_append_right _ (List.mem_append_right _ (List.mem_append_right _ (List.mem_append_right _ (List.mem_append_right _ (List.mem_append_right _ (List.mem_append_right _ (List.mem_append_right _ (List.mem_append_right _ (List.mem_append_right _ (List.mem_append_right _ (List.mem_append_right _ (List.mem_append_right _ (List.mem_append_right _ (List.mem_append_right _ (List.mem_append_right _ (List.mem_append_right _ (List.mem_append_right _ (List.mem_append_right _ (List.mem_append_right _ (List.mem_append_right _ (List.mem_append_left _ h))))))))))))))))))))))))))))))))))))))))))))))))))))))), List.forall_mem_cons.mpr ⟨fun _ h => List.mem_append_left _ (List.mem_append_left _ (List.mem_append_left _ (List.mem_append_left _ (List.mem_append_left _ (List.mem_append_left _ (List.mem_append_left _ (List.mem_append_left _ (List.mem_append_left _ (List.mem_append_left _ (List.mem_append_left _ (List.mem_append_left _ (List.mem_append_left _ (List.mem_append_left _ (List.mem_append_right _ (List.mem_append_right _ (List.mem_append_right _ (List.mem_append_right _ (List.mem_append_right _ (List.mem_append_right _ (List.mem_append_right _ (List.mem_append_right _ (List.mem_append_right _ (List.mem_append_right _ (List.mem_append_right _ (List.mem_append_right _ (List.mem_append_right _ (List.mem_append_right _ (List.mem_append_right _ (List.mem_append_right _ (List.mem_append_right _ (List.mem_append_right _ (List.mem_append_right _ (List.mem_append_right _ (List.mem_append_right _ (List.mem_append_right _ (List.mem_append_right _ (List.mem_append_right _ (List.mem_append_right _ (List.mem_append_right _ (List.mem_append_right _ (List.mem_append_right _ (List.mem_append_right _ (List.mem_append_right _ (List.mem_append_right _ (List.mem_append_right _ (List.mem_append_right _ (List.mem_append_right _ (List.mem_append_right _ (List.mem_append_right _ (List.mem_append_right _ (List.mem_append_right _ (List.mem_append_right _ (List.mem_append_right _ (List.mem_append_right _ (List.mem_append_right _ (List.mem_append_left _ h)))))))))))))))))))))))))))))))))))))))))))))))))))))))), List.forall_mem_cons.mpr ⟨fun _ h => List.mem_append_left _ (List.mem_append_left _ (List.mem_append_left _ (List.mem_append_left _ (List.mem_append_left _ (List.mem_append_left _ (List.mem_append_left _ (List.mem_append_left _ (List.mem_append_left _ (List.mem_append_left _ (List.mem_append_left _ (List.mem_append_left _ (List.mem_append_left _ (List.mem_append_left _ (List.mem_append_right _ (List.mem_append_right _ (List.mem_append_right _ (List.mem_append_right _ (List.mem_append_right _ (List.mem_append_right _ (List.mem_append_right _ (List.mem_append_right _ (List.mem_append_right _ (List.mem_append_right _ (List.mem_append_right _ (List.mem_append_right _ (List.mem_append_right _ (List.mem_append_right _ (List.mem_append_right _ (List.mem_append_right _ (List.mem_append_right _ (List.mem_append_right _ (List.mem_append_right _ (List.mem_append_right _ (List.mem_append_right _ (List.mem_append_right _ (List.mem_append_right _ (List.mem_append_right _ (List.mem_append_right _ (List.mem_append_right _ (List.mem_append_right _ (List.mem_append_right _ (List.mem_append_right _ (List.mem_append_right _ (List.mem_append_right _ (List.mem_append_right _ (List.mem_append_right _ (List.mem_append_right _ (List.mem_append_right _ (List.mem_append_right _ (List.mem_append_right _ (List.mem_append_right _ (List.mem_append_right _ (List.mem_append_right _ (List.mem_append_right _ (List.mem_append_right _ (List.mem_append_right _ (List.mem_append_left _ h))))))))))))))))))))))))))))))))))))))))))))))))))))))))), List.forall_mem_cons.mpr ⟨fun _ h => List.mem_append_left _ (List.mem_append_left _ (List.mem_append_left _ (List.mem_append_left _ (List.mem_append_left _ (List.mem_append_left _ (List.mem_append_left _ (List.mem_append_left _ (List.mem_append_left _ (List.mem_append_left _ (List.mem_append_left _ (List.mem_append_left _ (List.mem_append_left _ (List.mem_append_left _ (List.mem_append_right _ (List.mem_append_right _ (List.mem_append_right _ (List.mem_append_right _ (List.mem_append_right _ (List.mem_append_right _ (List.mem_append_right _ (List.mem_append_right _ (List.mem_append_right _ (List.mem_append_right _ (List.mem_append_right _ (List.mem_append_right _ (List.mem_append_right _ (List.mem_append_right _ (List.mem_append_right _ (List.mem_append_right _ (List.mem_append_right _ (List.mem_append_right _ (List.mem_append_right _ (List.mem_append_right _ (List.mem_append_right _ (List.mem_append_right _ (List.mem_append_right _ (List.mem_append_right _ (List.mem_append_right _ (List.mem_append_right _ (List.mem_append_right _ (List.mem_append_right _ (List.mem_append_right _ (List.mem_append_right _ (List.mem_append_right _ (List.mem_append_right _ (List.mem_append_right _ (List.mem_append_right _ (List.mem_append_right _ (List.mem_append_right _ (List.mem_append_right _ (List.mem_append_right _ (List.mem_append_right _ (List.mem_append_right _ (List.mem_append_right _ (List.mem_append_right _ (List.mem_append_right _ (List.mem_append_right _ (List.mem_append_left _ h)))))))))))))))))))))))))))))))))))))))))))))))))))))))))), List.forall_mem_cons.mpr ⟨fun _ h => List.mem_append_left _ (List.mem_append_left _ (List.mem_append_left _ (List.mem_append_left _ (List.mem_append_left _ (List.mem_append_left _ (List.mem_append_left _ (List.mem_append_left _ (List.mem_append_left _ (List.mem_append_left _ (List.mem_append_left _ (List.mem_append_left _ (List.mem_append_left _ (List.mem_append_left _ (List.mem_append_right _ (List.mem_append_right _ (List.mem_append_right _ (List.mem_append_right _ (List.mem_append_right _ (List.mem_append_right _ (List.mem_append_right _ (List.mem_append_right _ (List.mem_append_right _ (List.mem_append_right _ (List.mem_append_right _ (List.mem_append_right _ (List.mem_append_right _ (List.mem_append_right _ (List.mem_append_right _ (List.mem_append_right _ (List.mem_append_right _ (List.mem_append_right _ (List.mem_append_right _ (List.mem_append_right _ (List.mem_append_right _ (List.mem_append_right _ (List.mem_append_right _ (List.mem_append_right _ (List.mem_append_right _ (List.mem_append_right _ (List.mem_append_right _ (List.mem_append_right _ (List.mem_append_right _ (List.mem_append_right _ (List.mem_append_right _ (List.mem_append_right _ (List.mem_append_right _ (List.mem_append_right _ (List.mem_append_right _ (List.mem_append_right _ (List.mem_append_right _ (List.mem_append_right _ (List.mem_append_right _ (List.mem_append_right _ (List.mem_append_right _ (List.mem_append_right _ (List.mem_append_right _ (List.mem_append_right _ (List.mem_append_right _ (List.mem_append_left _ h))))))))))))))))))))))))))))))))))))))))))))))))))))))))))), List.forall_mem_cons.mpr ⟨fun _ h => List.mem_append_left _ (List.mem_append_left _ (List.mem_append_left _ (List.mem_append_left _ (List.mem_append_left _ (List.mem_append_left _ (List.mem_append_left _ (List.mem_append_left _ (List.mem_append_left _ (List.mem_append_left _ (List.mem_append_left _ (List.mem_append_left _ (List.mem_append_left _ (List.mem_append_left _ (List.mem_append_right _ (List.mem_append_right _ (List.mem_append_right _ (List.mem_append_right _ (List.mem_append_right _ (List.mem_append_right _ (List.mem_append_right _ (List.mem_append_right _ (List.mem_append_right _ (List.mem_append_right _ (List.mem_append_right _ (List.mem_append_right _ (List.mem_append_right _ (List.mem_append_right _ (List.mem_append_right _ (List.mem_append_right _ (List.mem_append_right _ (List.mem_append_right _ (List.mem_append_right _ (List.mem_append_right _ (List.mem_append_right _ (List.mem_append_right _ (List.mem_append_right _ (List.mem_append_right _ (List.mem_append_right _ (List.mem_append_right _ (List.mem_append_right _ (List.mem_append_right _ (List.mem_append_right _ (List.mem_append_right _ (List.mem_append_right _ (List.mem_append_right _ (List.mem_append_right _ (List.mem_append_right _ (List.mem_append_right _ (List.mem_append_right _ (List.mem_append_right _ (List.mem_append_right _ (List.mem_append_right _ (List.mem_append_right _ (List.mem_append_right _ (List.mem_append_right _ (List.mem_append_right _ (List.mem_append_right _ (List.mem_append_right _ (List.mem_append_right _ (List.mem_append_left _ h)))))))))))))))))))))))))))))))))))))))))))))))))))))))))))), List.forall_mem_cons.mpr ⟨fun _ h => List.mem_append_left _ (List.mem_append_left _ (List.mem_append_left _ (List.mem_append_left _ (List.mem_append_left _ (List.mem_append_left _ (List.mem_append_left _ (List.mem_append_left _ (List.mem_append_left _ (List.mem_append_left _ (List.mem_append_left _ (List.mem_append_left _ (List.mem_append_left _ (List.mem_append_left _ (List.mem_append_right _ (List.mem_append_right _ (List.mem_append_right _ (List.mem_append_right _ (List.mem_append_right _ (List.mem_append_right _ (List.mem_append_right _ (List.mem_append_right _ (List.mem_append_right _ (List.mem_append_right _ (List.mem_append_right _ (List.mem_append_right _ (List.mem_append_right _ (List.mem_append_right _ (List.mem_append_right _ (List.mem_append_right _ (List.mem_append_right _ (List.mem_append_right _ (List.mem_append_right _ (List.mem_append_right _ (List.mem_append_right _ (List.mem_append_right _ (List.mem_append_right _ (List.mem_append_right _ (List.mem_append_right _ (List.mem_append_right _ (List.mem_append_right _ (List.mem_append_right _ (List.mem_append_right _ (List.mem_append_right _ (List.mem_append_right _ (List.mem_append_right _ (List.mem_append_right _ (List.mem_append_right _ (List.mem_append_right _ (List.mem_append_right _ (List.mem_append_right _ (List.mem_append_right _ (List.mem_append_right _ (List.mem_append_right _ (List.mem_append_right _ (List.mem_append_right _ (List.mem_append_right _ (List.mem_append_right _ (List.mem_append_right _ (List.mem_append_right _ (List.mem_append_right _ (List.mem_append_left _ h))))))))))))))))))))))))))))))))))))))))))))))))))))))))))))), List.forall_mem_cons.mpr ⟨fun _ h => List.mem_append_left _ (List.mem_append_left _ (List.mem_append_left _ (List.mem_append_left _ (List.mem_append_left _ (List.mem_append_left _ (List.mem_append_left _ (List.mem_append_left _ (List.mem_append_left _ (List.mem_append_left _ (List.mem_append_left _ (List.mem_append_left _ (List.mem_append_left _ (List.mem_append_left _ (List.mem_append_right _ (List.mem_append_right _ (List.mem_append_right _ (List.mem_append_right _ (List.mem_append_right _ (List.mem_append_right _ (List.mem_append_right _ (List.mem_append_right _ (List.mem_append_right _ (List.mem_append_right _ (List.mem_append_right _ (List.mem_append_right _ (List.mem_append_right _ (List.mem_append_right _ (List.mem_append_right _ (List.mem_append_right _ (List.mem_append_right _ (List.mem_append_right _ (List.mem_append_right _ (List.mem_append_right _ (List.mem_append_right _ (List.mem_append_right _ (List.mem_append_right _ (List.mem_append_right _ (List.mem_append_right _ (List.mem_append_right _ (List.mem_append_right _ (List.mem_append_right _ (List.mem_append_right _ (List.mem_append_right _ (List.mem_append_right _ (List.mem_append_right _ (List.mem_append_right _ (List.mem_append_right _ (List.mem_append_right _ (List.mem_append_right _ (List.mem_append_right _ (List.mem_append_right _ (List.mem_append_right _ (List.mem_append_right _ (List.mem_append_right _ (List.mem_append_right _ (List.mem_append_right _ (List.mem_append_right _ (List.mem_append_right _ (List.mem_append_right _ (List.mem_append_right _ (List.mem_append_right _ (List.mem_append_left _ h)))))))))))))))))))))))))))))))))))))))))))))))))))))))))))))), List.forall_mem_cons.mpr ⟨fun _ h => List.mem_append_left _ (List.mem_append_left _ (List.mem_append_left _ (List.mem_append_left _ (List.mem_append_left _ (List.mem_append_left _ (List.mem_append_left _ (List.mem_append_left _ (List.mem_append_left _ (List.mem_append_left _ (List.mem_append_left _ (List.mem_append_left _ (List.mem_append_left _ (List.mem_append_left _ (List.mem_append_right _ (List.mem_append_right _ (List.mem_append_right _ (List.mem_append_right _ (List.mem_append_right _ (List.mem_append_right _ (List.mem_append_right _ (List.mem_append_right _ (List.mem_append_right _ (List.mem_append_right _ (List.mem_append_right _ (List.mem_append_right _ (List.mem_append_right _ (List.mem_append_right _ (List.mem_append_right _ (List.mem_append_right _ (List.mem_append_right _ (List.mem_append_right _ (List.mem_append_right _ (List.mem_append_right _ (List.mem_append_right _ (List.mem_append_right _ (List.mem_append_right _ (List.mem_append_right _ (List.mem_append_right _ (List.mem_append_right _ (List.mem_append_right _ (List.mem_append_right _ (List.mem_append_right _ (List.mem_append_right _ (List.mem_append_right _ (List.mem_append_right _ (List.mem_append_right _ (List.mem_append_right _ (List.mem_append_right _ (List.mem_append_right _ (List.mem_append_right _ (List.mem_append_right _ (List.mem_append_right _ (List.mem_append_right _ (List.mem_append_right _ (List.mem_append_right _ (List.mem_append_right _ (List.mem_append_right _ (List.mem_append_right _ (List.mem_append_right _ (List.mem_append_right _ (List.mem_append_right _ (List.mem_append_right _ (List.mem_append_left _ h))))))))))))))))))))))))))))))))))))))))))))))))))))))))))))))), List.forall_mem_cons.mpr ⟨fun _ h => List.mem_append_left _ (List.mem_append_left _ (List.mem_append_left _ (List.mem_append_left _ (List.mem_append_left _ (List.mem_append_left _ (List.mem_append_left _ (List.mem_append_left _ (List.mem_append_left _ (List.mem_append_left _ (List.mem_append_left _ (List.mem_append_left _ (List.mem_append_left _ (List.mem_append_left _ (List.mem_append_right _ (List.mem_append_right _ (List.mem_append_right _ (List.mem_append_right _ (List.mem_append_right _ (List.mem_append_right _ (List.mem_append_right _ (List.mem_append_right _ (List.mem_append_right _ (List.mem_append_right _ (List.mem_append_right _ (List.mem_append_right _ (List.mem_append_right _ (List.mem_append_right _ (List.mem_append_right _ (List.mem_append_right _ (List.mem_append_right _ (List.mem_append_right _ (List.mem_append_right _ (List.mem_append_right _ (List.mem_append_right _ (List.mem_append_right _ (List.mem_append_right _ (List.mem_append_right _ (List.mem_append_right _ (List.mem_append_right _ (List.mem_append_right _ (List.mem_append_right _ (List.mem_append_right _ (List.mem_append_right _ (List.mem_append_right _ (List.mem_append_right _ (List.mem_append_right _ (List.mem_append_right _ (List.mem_append_right _ (List.mem_append_right _ (List.mem_append_right _ (List.mem_append_right _ (List.mem_append_right _ (List.mem_append_right _ (List.mem_append_right _ (List.mem_append_right _ (List.mem_append_right _ (List.mem_append_right _ (List.mem_append_right _ (List.mem_append_right _ (List.mem_append_right _ (List.mem_append_right _ (List.mem_append_right _ (List.mem_append_right _ (h)))))))))))))))))))))))))))))))))))))))))))))))))))))))))))))))), List.forall_mem_cons.mpr ⟨fun _ h => List.mem_append_left _ (List.mem_append_left _ (List.mem_append_left _ (List.mem_append_left _ (List.mem_append_left _ (List.mem_append_left _ (List.mem_append_left _ (List.mem_append_left _ (List.mem_append_left _ (List.mem_append_left _ (List.mem_append_left _ (List.mem_append_left _ (List.mem_append_left _ (List.mem_append_right _ h))))))))))))), List.forall_mem_cons.mpr ⟨fun _ h => List.mem_append_left _ (List.mem_append_left _ (List.mem_append_left _ (List.mem_append_left _ (List.mem_append_left _ (List.mem_append_left _ (List.mem_append_left _ (List.mem_append_left _ (List.mem_append_left _ (List.mem_append_left _ (List.mem_append_left _ (List.mem_append_left _ (List.mem_append_right _ h)))))))))))), List.forall_mem_cons.mpr ⟨fun _ h => List.mem_append_left _ (List.mem_append_left _ (List.mem_append_left _ (List.mem_append_left _ (List.mem_append_left _ (List.mem_append_left _ (List.mem_append_left _ (List.mem_append_left _ (List.mem_append_left _ (List.mem_append_left _ (List.mem_append_left _ (List.mem_append_right _ h))))))))))), List.forall_mem_cons.mpr ⟨fun _ h => List.mem_append_left _ (List.mem_append_left _ (List.mem_append_left _ (List.mem_append_left _ (List.mem_append_left _ (List.mem_append_left _ (List.mem_append_left _ (List.mem_append_left _ (List.mem_append_left _ (List.mem_append_left _ (List.mem_append_right _ h)))))))))), List.forall_mem_cons.mpr ⟨fun _ h => List.mem_append_left _ (List.mem_append_left _ (List.mem_append_left _ (List.mem_append_left _ (List.mem_append_left _ (List.mem_append_left _ (List.mem_append_left _ (List.mem_append_left _ (List.mem_append_left _ (List.mem_append_right _ h))))))))), List.forall_mem_cons.mpr ⟨fun _ h => List.mem_append_left _ (List.mem_append_left _ (List.mem_append_left _ (List.mem_append_left _ (List.mem_append_left _ (List.mem_append_left _ (List.mem_append_left _ (List.mem_append_left _ (List.mem_append_right _ h)))))))), List.forall_mem_cons.mpr ⟨fun _ h => List.mem_append_left _ (List.mem_append_left _ (List.mem_append_left _ (List.mem_append_left _ (List.mem_append_left _ (List.mem_append_left _ (List.mem_append_left _ (List.mem_append_right _ h))))))), List.forall_mem_cons.mpr ⟨fun _ h => List.mem_append_left _ (List.mem_append_left _ (List.mem_append_left _ (List.mem_append_left _ (List.mem_append_left _ (List.mem_append_left _ (List.mem_append_right _ h)))))), List.forall_mem_cons.mpr ⟨fun _ h => List.mem_append_left _ (List.mem_append_left _ (List.mem_append_left _ (List.mem_append_left _ (List.mem_append_left _ (List.mem_append_right _ h))))), List.forall_mem_cons.mpr ⟨fun _ h => List.mem_append_left _ (List.mem_append_left _ (List.mem_append_left _ (List.mem_append_left _ (List.mem_append_right _ h)))), List.forall_mem_cons.mpr ⟨fun _ h => List.mem_append_left _ (List.mem_append_left _ (List.mem_append_left _ (List.mem_append_right _ h))), List.forall_mem_cons.mpr ⟨fun _ h => List.mem_append_left _ (List.mem_append_left _ (List.mem_append_right _ h)), List.forall_mem_cons.mpr ⟨fun _ h => List.mem_append_left _ (List.mem_append_right _ h), List.forall_mem_nil _⟩⟩⟩⟩⟩⟩⟩⟩⟩⟩⟩⟩⟩⟩⟩⟩⟩⟩⟩⟩⟩⟩⟩⟩⟩⟩⟩⟩⟩⟩⟩⟩⟩⟩⟩⟩⟩⟩⟩⟩⟩⟩⟩⟩⟩⟩⟩⟩⟩⟩⟩⟩⟩⟩⟩⟩⟩⟩⟩⟩⟩⟩⟩⟩
def lw_chs : List (List Cond) := [k2_sels lw_privs, tables_1_1, tables_1_2, tables_1_3, tables_1_4, tables_1_5, tables_1_6]
set_option maxRecDepth 100000 in
theorem lw_chs_in : ∀ c ∈ lw_chs, ∀ w ∈ c, w ∈ lw_tbl := List.forall_mem_cons.mpr ⟨fun _ h => List.mem_append_left _ h, List.forall_mem_cons.mpr ⟨fun _ h => List.mem_append_right _ (List.mem_append_left _ h), List.forall_mem_cons.mpr ⟨fun _ h => List.mem_append_right _ (List.mem_append_right _ (List.mem_append_left _ h)), List.forall_mem_cons.mpr ⟨fun _ h => List.mem_append_right _ (List.mem_append_right _ (List.mem_append_right _ (List.mem_append_left _ h))), List.forall_mem_cons.mpr ⟨fun _ h => List.mem_append_right _ (List.mem_append_right _ (List.mem_append_right _ (List.mem_append_right _ (List.mem_append_left _ h)))), List.forall_mem_cons.mpr ⟨fun _ h => List.mem_append_right _ (List.mem_append_right _ (List.mem_append_right _ (List.mem_append_right _ (List.mem_append_right _ (List.mem_append_left _ h))))), List.forall_mem_cons.mpr ⟨fun _ h => List.mem_append_right _ (List.mem_append_right _ (List.mem_append_right _ (List.mem_append_right _ (List.mem_append_right _ (List.mem_append_right _ (h)))))), List.forall_mem_nil _⟩⟩⟩⟩⟩⟩⟩
set_option maxRecDepth 100000 in
theorem wsL_r1_in : ∀ w ∈ wsL_law_r1, w ∈ lw_tbl := sub_ch lw_chs lw_chs_in _ [(1, 21), (1, 22), (1, 1), (4, 223), (4, 224), (1, 15), (1, 23), (1, 24), (1, 25), (1, 26), (1, 27), (1, 28), (1, 29), (1, 30), (1, 2), (2, 87), (2, 88), (2, 89), (1, 168), (1, 169), (1, 6), (2, 90), (1, 185), (1, 186)] rfl
set_option maxRecDepth 100000 in
theorem wsL_r2_in : ∀ w ∈ wsL_law_r2, w ∈ lw_tbl := sub_ch lw_chs lw_chs_in _ [(1, 7), (2, 91), (1, 213), (1, 214), (1, 8), (2, 92), (1, 228), (1, 229), (1, 9), (2, 93), (2, 7), (2, 8), (1, 10), (2, 94), (2, 22), (2, 23), (1, 11), (2, 95), (2, 46), (2, 47), (1, 12), (2, 96), (1, 32), (1, 33)] rfl
set_option maxRecDepth 100000 in
theorem wsL_r3_in : ∀ w ∈ wsL_law_r3, w ∈ lw_tbl := sub_ch lw_chs lw_chs_in _ [(1, 34), (1, 35), (1, 36), (1, 3), (1, 150), (1, 71), (1, 72), (1, 4), (1, 154), (1, 125), (1, 126), (1, 5), (1, 159), (1, 38), (1, 39), (1, 40), (1, 41), (1, 44), (1, 46), (1, 49), (1, 70), (1, 52), (1, 55), (1, 74)] rfl
set_option maxRecDepth 100000 in
theorem wsL_r4_in : ∀ w ∈ wsL_law_r4, w ∈ lw_tbl := sub_ch lw_chs lw_chs_in _ [(1, 75), (1, 76), (1, 77), (1, 84), (1, 87), (1, 91), (1, 96), (1, 101), (1, 106), (1, 128), (1, 129), (1, 130), (1, 131), (1, 134), (1, 136), (1, 138), (1, 171), (1, 172), (1, 173), (1, 176), (1, 174), (1, 178), (1, 188), (1, 189)] rfl
set_option maxRecDepth 100000 in
theorem wsL_r5_in : ∀ w ∈ wsL_law_r5, w ∈ lw_tbl := sub_ch lw_chs lw_chs_in _ [(1, 190), (1, 191), (1, 212), (1, 193), (1, 195), (1, 197), (1, 199), (1, 216), (1, 217), (1, 218), (1, 219), (1, 222), (1, 231), (1, 232), (1, 233), (1, 234), (1, 236), (1, 238), (2, 10), (2, 11), (2, 12), (2, 13), (2, 15), (2, 25)] rfl
set_option maxRecDepth 100000 in
theorem wsL_r6_in : ∀ w ∈ wsL_law_r6, w ∈ lw_tbl := sub_ch lw_chs lw_chs_in _ [(2, 26), (2, 27), (2, 28), (2, 29), (2, 30), (2, 31), (2, 33), (2, 49), (2, 50), (2, 51), (2, 52), (2, 61), (2, 54), (2, 62), (2, 63), (2, 64), (2, 65), (1, 80), (2, 66), (2, 67), (2, 68), (2, 69), (2, 71), (2, 72)] rfl
set_option maxRecDepth 100000 in
theorem wsL_r7_in : ∀ w ∈ wsL_law_r7, w ∈ lw_tbl := sub_ch lw_chs lw_chs_in _ [(2, 73), (2, 74), (1, 13), (2, 75), (2, 76), (2, 77), (2, 78), (2, 79), (2, 80), (1, 14), (2, 81), (2, 82), (2, 83), (2, 84), (2, 85), (2, 86), (4, 225), (4, 226), (4, 227), (4, 228), (4, 234), (4, 235), (4, 236), (4, 238)] rfl
set_option maxRecDepth 100000 in
theorem wsL_r8_in : ∀ w ∈ wsL_law_r8, w ∈ lw_tbl := sub_ch lw_chs lw_chs_in _ [(4, 239), (5, 1), (5, 2), (5, 3), (5, 4), (5, 5), (5, 6), (5, 7), (5, 8), (5, 9), (5, 10), (5, 11), (5, 12), (5, 13), (5, 15), (5, 19), (5, 20), (5, 21), (4, 229), (5, 22), (5, 24), (5, 25), (4, 230), (4, 232)] rfl
set_option maxRecDepth 100000 in
theorem wsL_r9_in : ∀ w ∈ wsL_law_r9, w ∈ lw_tbl := sub_ch lw_chs lw_chs_in _ [(0, 25), (4, 233), (4, 237), (5, 0), (2, 118), (2, 119), (2, 120), (2, 121), (1, 152), (1, 42), (2, 122), (2, 123), (2, 124), (5, 91), (5, 92), (5, 93), (5, 94), (5, 95), (5, 96), (5, 97), (2, 125), (2, 126), (2, 127), (2, 128)] rfl
set_option maxRecDepth 100000 in
theorem wsL_r10_in : ∀ w ∈ wsL_law_r10, w ∈ lw_tbl := sub_ch lw_chs lw_chs_in _ [(1, 53), (1, 56), (2, 129), (2, 130), (2, 131), (2, 132), (5, 98), (5, 99), (5, 100), (5, 101), (5, 102), (5, 104), (0, 26), (5, 105), (2, 134), (2, 135), (2, 136), (2, 137), (2, 138), (2, 140), (0, 0), (2, 141), (1, 45), (2, 142)] rfl
set_option maxRecDepth 100000 in
theorem wsL_r11_in : ∀ w ∈ wsL_law_r11, w ∈ lw_tbl := sub_ch lw_chs lw_chs_in _ [(2, 144), (0, 1), (2, 145), (1, 48), (2, 146), (2, 148), (0, 2), (2, 149), (1, 51), (5, 106), (5, 107), (5, 108), (5, 109), (2, 150), (2, 151), (2, 152), (2, 153), (1, 158), (1, 83), (1, 90), (1, 95), (1, 100), (1, 104), (1, 108)] rfl
set_option maxRecDepth 100000 in
theorem wsL_r12_in : ∀ w ∈ wsL_law_r12, w ∈ lw_tbl := sub_ch lw_chs lw_chs_in _ [(2, 154), (2, 155), (2, 156), (2, 157), (2, 158), (2, 159), (2, 160), (2, 161), (2, 162), (2, 163), (2, 164), (2, 165), (2, 166), (2, 167), (2, 168), (2, 169), (2, 170), (2, 171), (2, 176), (2, 172), (2, 173), (2, 174), (2, 175), (2, 177)] rfl
set_option maxRecDepth 100000 in
theorem wsL_r13_in : ∀ w ∈ wsL_law_r13, w ∈ lw_tbl := sub_ch lw_chs lw_chs_in _ [(2, 179), (0, 3), (2, 180), (2, 181), (2, 183), (2, 182), (1, 16), (5, 110), (5, 111), (5, 112), (5, 113), (5, 114), (5, 115), (5, 116), (5, 117), (5, 118), (5, 120), (0, 27), (5, 121), (5, 122), (5, 124), (0, 28), (5, 125), (2, 184)] rfl
set_option maxRecDepth 100000 in
theorem wsL_r14_in : ∀ w ∈ wsL_law_r14, w ∈ lw_tbl := sub_ch lw_chs lw_chs_in _ [(2, 185), (2, 186), (2, 187), (2, 188), (2, 189), (2, 190), (2, 191), (1, 89), (1, 94), (2, 192), (2, 194), (0, 4), (2, 195), (1, 50), (2, 196), (2, 197), (2, 198), (2, 199), (5, 126), (5, 127), (5, 128), (5, 129), (5, 130), (5, 132)] rfl
set_option maxRecDepth 100000 in
theorem wsL_r15_in : ∀ w ∈ wsL_law_r15, w ∈ lw_tbl := sub_ch lw_chs lw_chs_in _ [(0, 29), (5, 133), (2, 200), (2, 201), (2, 202), (2, 203), (5, 134), (5, 135), (5, 136), (5, 137), (2, 204), (2, 205), (2, 206), (2, 207), (2, 208), (2, 209), (2, 210), (2, 211), (2, 212), (3, 6), (2, 213), (2, 214), (2, 215), (2, 216)] rfl
set_option maxRecDepth 100000 in
theorem wsL_r16_in : ∀ w ∈ wsL_law_r16, w ∈ lw_tbl := sub_ch lw_chs lw_chs_in _ [(1, 43), (1, 54), (2, 217), (2, 218), (2, 219), (2, 220), (1, 47), (1, 139), (2, 221), (2, 222), (2, 223), (2, 224), (2, 225), (2, 230), (2, 231), (2, 232), (2, 226), (2, 227), (2, 228), (2, 229), (2, 233), (2, 234), (2, 235), (2, 236)] rfl
set_option maxRecDepth 100000 in
theorem wsL_r17_in : ∀ w ∈ wsL_law_r17, w ∈ lw_tbl := sub_ch lw_chs lw_chs_in _ [(2, 237), (2, 238), (2, 239), (3, 0), (3, 1), (3, 2), (3, 3), (3, 4), (3, 5), (3, 7), (3, 9), (3, 10), (3, 11), (3, 12), (3, 13), (3, 14), (3, 15), (3, 16), (3, 17), (3, 18), (3, 20), (3, 21), (3, 22), (3, 23)] rfl
set_option maxRecDepth 100000 in
theorem wsL_r18_in : ∀ w ∈ wsL_law_r18, w ∈ lw_tbl := sub_ch lw_chs lw_chs_in _ [(1, 109), (3, 24), (3, 26), (0, 5), (3, 27), (3, 28), (3, 29), (3, 30), (3, 31), (1, 105), (3, 33), (3, 34), (3, 36), (5, 138), (5, 139), (5, 140), (5, 141), (5, 142), (5, 143), (5, 145), (0, 30), (5, 146), (5, 147), (5, 148)] rfl
set_option maxRecDepth 100000 in
theorem wsL_r19_in : ∀ w ∈ wsL_law_r19, w ∈ lw_tbl := sub_ch lw_chs lw_chs_in _ [(5, 149), (5, 150), (5, 151), (5, 153), (0, 31), (5, 154), (5, 155), (5, 157), (0, 32), (5, 158), (5, 159), (5, 161), (0, 33), (5, 162), (5, 163), (5, 165), (0, 34), (5, 166), (5, 167), (5, 168), (5, 169), (5, 171), (0, 35), (5, 172)] rfl
set_option maxRecDepth 100000 in
theorem wsL_r20_in : ∀ w ∈ wsL_law_r20, w ∈ lw_tbl := sub_ch lw_chs lw_chs_in _ [(5, 173), (5, 174), (5, 175), (5, 176), (5, 178), (0, 36), (5, 179), (5, 180), (5, 182), (0, 37), (5, 183), (5, 184), (5, 186), (0, 38), (5, 187), (5, 188), (5, 190), (0, 39), (5, 191), (5, 192), (5, 194), (0, 40), (5, 195), (3, 37)] rfl
set_option maxRecDepth 100000 in
theorem wsL_r21_in : ∀ w ∈ wsL_law_r21, w ∈ lw_tbl := sub_ch lw_chs lw_chs_in _ [(3, 38), (3, 39), (3, 40), (3, 41), (3, 42), (3, 43), (3, 44), (5, 196), (5, 197), (5, 198), (5, 199), (5, 200), (5, 201), (5, 202), (3, 46), (3, 47), (3, 48), (3, 49), (1, 160), (1, 133), (1, 135), (1, 137), (1, 140), (3, 50)] rfl
set_option maxRecDepth 100000 in
theorem wsL_r22_in : ∀ w ∈ wsL_law_r22, w ∈ lw_tbl := sub_ch lw_chs lw_chs_in _ [(3, 51), (3, 52), (5, 203), (5, 204), (5, 205), (5, 206), (5, 207), (5, 208), (5, 209), (3, 53), (3, 54), (3, 55), (3, 56), (3, 57), (3, 58), (3, 59), (3, 60), (5, 210), (5, 211), (5, 212), (5, 213), (3, 61), (3, 62), (3, 63)] rfl
set_option maxRecDepth 100000 in
theorem wsL_r23_in : ∀ w ∈ wsL_law_r23, w ∈ lw_tbl := sub_ch lw_chs lw_chs_in _ [(3, 64), (3, 65), (3, 66), (3, 67), (3, 68), (3, 69), (1, 99), (1, 132), (3, 70), (3, 71), (3, 72), (3, 73), (3, 74), (3, 75), (3, 76), (3, 77), (3, 78), (3, 79), (3, 80), (3, 81), (3, 82), (3, 83), (5, 214), (5, 215)] rfl
set_option maxRecDepth 100000 in
theorem wsL_r24_in : ∀ w ∈ wsL_law_r24, w ∈ lw_tbl := sub_ch lw_chs lw_chs_in _ [(5, 216), (5, 217), (5, 218), (5, 220), (0, 41), (5, 221), (5, 222), (5, 224), (0, 42), (5, 225), (5, 226), (5, 228), (0, 43), (5, 229), (3, 84), (3, 85), (3, 86), (3, 87), (3, 88), (3, 89), (5, 230), (5, 231), (5, 232), (5, 233)] rfl
set_option maxRecDepth 100000 in
theorem wsL_r25_in : ∀ w ∈ wsL_law_r25, w ∈ lw_tbl := sub_ch lw_chs lw_chs_in _ [(3, 90), (3, 91), (3, 92), (3, 93), (3, 94), (5, 234), (3, 95), (3, 96), (3, 97), (3, 98), (1, 235), (1, 237), (1, 239), (3, 99), (3, 100), (3, 101), (3, 102), (3, 113), (3, 114), (1, 153), (3, 103), (3, 104), (3, 105), (3, 106)] rfl
set_option maxRecDepth 100000 in
theorem wsL_r26_in : ∀ w ∈ wsL_law_r26, w ∈ lw_tbl := sub_ch lw_chs lw_chs_in _ [(3, 107), (3, 108), (3, 109), (3, 110), (3, 111), (3, 112), (3, 115), (5, 235), (5, 236), (5, 237), (5, 238), (5, 239), (6, 1), (0, 44), (6, 2), (6, 3), (6, 4), (6, 6), (0, 45), (6, 7), (6, 8), (6, 10), (0, 46), (6, 11)] rfl
set_option maxRecDepth 100000 in
theorem wsL_r27_in : ∀ w ∈ wsL_law_r27, w ∈ lw_tbl := sub_ch lw_chs lw_chs_in _ [(6, 12), (6, 13), (6, 14), (3, 116), (3, 117), (3, 118), (3, 119), (3, 120), (6, 15), (6, 16), (6, 17), (6, 18), (3, 121), (3, 122), (3, 123), (3, 124), (6, 19), (6, 20), (6, 21), (6, 22), (6, 23), (6, 25), (0, 47), (6, 26)] rfl
set_option maxRecDepth 100000 in
theorem wsL_r28_in : ∀ w ∈ wsL_law_r28, w ∈ lw_tbl := sub_ch lw_chs lw_chs_in _ [(3, 125), (3, 126), (3, 127), (3, 128), (3, 129), (3, 130), (3, 131), (3, 132), (6, 27), (6, 28), (6, 29), (6, 30), (3, 133), (3, 134), (3, 135), (3, 136), (6, 31), (6, 32), (6, 33), (6, 34), (3, 137), (3, 138), (3, 139), (3, 140)] rfl
set_option maxRecDepth 100000 in
theorem wsL_r29_in : ∀ w ∈ wsL_law_r29, w ∈ lw_tbl := sub_ch lw_chs lw_chs_in _ [(3, 141), (3, 142), (3, 143), (3, 144), (6, 35), (6, 36), (6, 37), (6, 38), (3, 145), (3, 146), (3, 147), (3, 148), (3, 149), (6, 39), (6, 40), (6, 41), (6, 42), (3, 150), (3, 151), (3, 152), (3, 153), (1, 86), (1, 221), (3, 154)] rfl
set_option maxRecDepth 100000 in
theorem wsL_r30_in : ∀ w ∈ wsL_law_r30, w ∈ lw_tbl := sub_ch lw_chs lw_chs_in _ [(3, 155), (3, 156), (3, 157), (1, 155), (1, 78), (3, 158), (3, 160), (0, 6), (3, 161), (1, 103), (3, 162), (3, 164), (0, 7), (3, 165), (3, 167), (3, 166), (3, 168), (3, 170), (0, 8), (3, 171), (1, 107), (6, 43), (6, 44), (6, 45)] rfl
set_option maxRecDepth 100000 in
theorem wsL_r31_in : ∀ w ∈ wsL_law_r31, w ∈ lw_tbl := sub_ch lw_chs lw_chs_in _ [(6, 46), (6, 47), (6, 49), (0, 48), (6, 50), (6, 51), (6, 53), (0, 49), (6, 54), (6, 55), (6, 57), (0, 50), (6, 58), (6, 59), (6, 61), (0, 51), (6, 62), (6, 63), (6, 65), (0, 52), (6, 66), (3, 172), (3, 173), (3, 174)] rfl
set_option maxRecDepth 100000 in
theorem wsL_r32_in : ∀ w ∈ wsL_law_r32, w ∈ lw_tbl := sub_ch lw_chs lw_chs_in _ [(3, 175), (3, 176), (6, 67), (6, 68), (6, 69), (6, 70), (3, 177), (3, 178), (3, 179), (3, 180), (3, 181), (3, 182), (3, 183), (3, 184), (3, 186), (3, 185), (6, 71), (6, 72), (6, 73), (6, 74), (3, 187), (3, 188), (3, 189), (3, 190)] rfl
set_option maxRecDepth 100000 in
theorem wsL_r33_in : ∀ w ∈ wsL_law_r33, w ∈ lw_tbl := sub_ch lw_chs lw_chs_in _ [(2, 14), (2, 16), (3, 191), (3, 192), (3, 193), (3, 194), (3, 196), (3, 197), (1, 156), (1, 81), (3, 195), (3, 198), (3, 200), (0, 9), (3, 201), (1, 98), (3, 202), (6, 75), (6, 76), (6, 77), (6, 78), (3, 203), (3, 204), (3, 205)] rfl
set_option maxRecDepth 100000 in
theorem wsL_r34_in : ∀ w ∈ wsL_law_r34, w ∈ lw_tbl := sub_ch lw_chs lw_chs_in _ [(3, 206), (1, 177), (1, 179), (2, 32), (2, 34), (3, 207), (3, 208), (3, 209), (3, 210), (3, 211), (3, 212), (3, 213), (3, 214), (3, 215), (3, 216), (3, 217), (3, 221), (3, 218), (3, 220), (3, 222), (3, 223), (3, 224), (3, 225), (1, 157)] rfl
set_option maxRecDepth 100000 in
theorem wsL_r35_in : ∀ w ∈ wsL_law_r35, w ∈ lw_tbl := sub_ch lw_chs lw_chs_in _ [(1, 93), (3, 226), (3, 228), (0, 10), (3, 229), (1, 82), (1, 220), (3, 230), (3, 231), (3, 232), (6, 79), (6, 80), (6, 81), (6, 82), (6, 83), (6, 84), (6, 85), (6, 86), (6, 88), (0, 53), (6, 89), (6, 90), (6, 92), (0, 54)] rfl
set_option maxRecDepth 100000 in
theorem wsL_r36_in : ∀ w ∈ wsL_law_r36, w ∈ lw_tbl := sub_ch lw_chs lw_chs_in _ [(6, 93), (3, 233), (3, 234), (3, 235), (3, 236), (2, 53), (2, 55), (3, 237), (3, 238), (3, 239), (4, 0), (1, 79), (1, 85), (1, 88), (1, 92), (1, 97), (1, 102), (4, 1), (4, 3), (0, 11), (4, 4), (4, 5), (4, 7), (0, 12)] rfl
set_option maxRecDepth 100000 in
theorem wsL_r37_in : ∀ w ∈ wsL_law_r37, w ∈ lw_tbl := sub_ch lw_chs lw_chs_in _ [(4, 8), (4, 11), (4, 13), (0, 13), (4, 14), (4, 15), (4, 17), (0, 14), (4, 18), (4, 19), (6, 94), (6, 95), (6, 96), (6, 97), (5, 14), (6, 98), (6, 100), (0, 55), (6, 101), (6, 102), (6, 104), (0, 56), (6, 105), (6, 106)] rfl
set_option maxRecDepth 100000 in
theorem wsL_r38_in : ∀ w ∈ wsL_law_r38, w ∈ lw_tbl := sub_ch lw_chs lw_chs_in _ [(6, 108), (0, 57), (6, 109), (6, 111), (4, 72), (4, 73), (1, 17), (4, 74), (6, 228), (4, 75), (4, 76), (4, 77), (4, 78), (4, 69), (6, 227), (4, 79), (4, 80), (1, 18), (4, 81), (4, 82), (4, 83), (4, 84), (4, 85), (4, 87)] rfl
set_option maxRecDepth 100000 in
theorem wsL_r39_in : ∀ w ∈ wsL_law_r39, w ∈ lw_tbl := sub_ch lw_chs lw_chs_in _ [(4, 88), (1, 19), (4, 89), (4, 90), (4, 91), (1, 20), (4, 92), (4, 93), (4, 94), (4, 95), (4, 96), (4, 97), (4, 98), (4, 99), (4, 100), (4, 101), (4, 102), (4, 103), (4, 105), (4, 107), (6, 112), (6, 114), (0, 58), (6, 115)] rfl
set_option maxRecDepth 100000 in
theorem wsL_r40_in : ∀ w ∈ wsL_law_r40, w ∈ lw_tbl := sub_ch lw_chs lw_chs_in _ [(4, 20), (4, 21), (4, 22), (4, 23), (1, 192), (1, 194), (6, 116), (6, 117), (6, 118), (6, 119), (5, 16), (4, 24), (4, 25), (4, 26), (4, 27), (6, 120), (6, 121), (6, 122), (6, 123), (4, 28), (4, 29), (4, 30), (4, 31), (4, 32)] rfl
set_option maxRecDepth 100000 in
theorem wsL_r41_in : ∀ w ∈ wsL_law_r41, w ∈ lw_tbl := sub_ch lw_chs lw_chs_in _ [(4, 33), (4, 34), (4, 35), (4, 36), (4, 37), (4, 38), (4, 39), (4, 40), (4, 42), (0, 15), (4, 43), (4, 44), (4, 46), (0, 16), (4, 47), (4, 49), (4, 50), (4, 51), (4, 57), (4, 59), (0, 17), (4, 60), (4, 61), (4, 62)] rfl
set_option maxRecDepth 100000 in
theorem wsL_r42_in : ∀ w ∈ wsL_law_r42, w ∈ lw_tbl := sub_ch lw_chs lw_chs_in _ [(4, 63), (4, 64), (4, 65), (4, 66), (4, 67), (4, 68), (4, 71), (4, 109), (4, 110), (4, 111), (4, 117), (4, 119), (0, 18), (4, 120), (4, 121), (4, 123), (0, 19), (4, 124), (4, 125), (4, 127), (0, 20), (4, 128), (4, 129), (4, 131)] rfl
set_option maxRecDepth 100000 in
theorem wsL_r43_in : ∀ w ∈ wsL_law_r43, w ∈ lw_tbl := sub_ch lw_chs lw_chs_in _ [(0, 21), (4, 132), (4, 133), (4, 135), (0, 22), (4, 136), (4, 137), (4, 138), (4, 139), (4, 140), (4, 141), (4, 143), (0, 23), (4, 144), (1, 196), (4, 145), (4, 146), (4, 148), (0, 24), (4, 149), (1, 200), (1, 198), (4, 150), (4, 151)] rfl
set_option maxRecDepth 100000 in
theorem wsL_r44_in : ∀ w ∈ wsL_law_r44, w ∈ lw_tbl := sub_ch lw_chs lw_chs_in _ [(4, 152), (4, 153), (4, 154), (4, 155), (6, 124), (6, 125), (6, 126), (6, 127), (5, 17), (5, 18), (6, 128), (6, 130), (0, 59), (6, 131), (6, 132), (6, 134), (0, 60), (6, 135), (6, 136), (6, 138), (0, 61), (6, 139), (6, 140), (6, 142)] rfl
set_option maxRecDepth 100000 in
theorem wsL_r45_in : ∀ w ∈ wsL_law_r45, w ∈ lw_tbl := sub_ch lw_chs lw_chs_in _ [(0, 62), (6, 143), (6, 144), (6, 145), (6, 146), (6, 152), (6, 154), (0, 63), (6, 155), (6, 156), (6, 157), (6, 159), (0, 64), (6, 160), (6, 161), (6, 163), (0, 65), (6, 164), (6, 165), (6, 167), (0, 66), (6, 168), (6, 169), (6, 171)] rfl
set_option maxRecDepth 100000 in
theorem wsL_r46_in : ∀ w ∈ wsL_law_r46, w ∈ lw_tbl := sub_ch lw_chs lw_chs_in _ [(0, 67), (6, 172), (6, 173), (6, 175), (0, 68), (6, 176), (6, 177), (6, 179), (0, 69), (6, 180), (6, 181), (6, 183), (0, 70), (6, 184), (6, 185), (6, 186), (6, 187), (6, 188), (6, 189), (4, 156), (4, 157), (4, 158), (4, 159), (4, 160)] rfl
set_option maxRecDepth 100000 in
theorem wsL_r47_in : ∀ w ∈ wsL_law_r47, w ∈ lw_tbl := sub_ch lw_chs lw_chs_in _ [(4, 161), (4, 162), (4, 163), (4, 165), (6, 190), (6, 191), (6, 192), (6, 193), (4, 166), (4, 167), (4, 168), (4, 169), (4, 170), (4, 171), (4, 172), (4, 173), (6, 194), (6, 195), (6, 196), (6, 197), (4, 175), (4, 176), (4, 177), (4, 178)] rfl
set_option maxRecDepth 100000 in
theorem wsL_r48_in : ∀ w ∈ wsL_law_r48, w ∈ lw_tbl := sub_ch lw_chs lw_chs_in _ [(6, 198), (6, 199), (6, 200), (6, 201), (4, 179), (4, 180), (4, 181), (4, 182), (4, 183), (4, 184), (4, 185), (4, 186), (1, 151), (4, 187), (6, 202), (6, 203), (6, 204), (6, 205), (4, 188), (4, 189), (4, 190), (4, 191), (4, 192), (4, 193)] rfl
set_option maxRecDepth 100000 in
theorem wsL_r49_in : ∀ w ∈ wsL_law_r49, w ∈ lw_tbl := sub_ch lw_chs lw_chs_in _ [(4, 194), (4, 195), (4, 196), (4, 197), (4, 198), (4, 199), (4, 200), (4, 201), (4, 202), (4, 203), (4, 204), (4, 205), (4, 206), (4, 207), (4, 208), (4, 209), (6, 206), (6, 207), (6, 208), (6, 209), (5, 23), (6, 214), (6, 210), (6, 212)] rfl
set_option maxRecDepth 100000 in
theorem wsL_r50_in : ∀ w ∈ wsL_law_r50, w ∈ lw_tbl := sub_ch lw_chs lw_chs_in _ [(0, 71), (6, 213), (4, 210), (4, 211), (4, 212), (4, 213), (6, 215), (6, 216), (6, 217), (6, 218), (4, 214), (4, 215), (4, 216), (4, 217), (4, 218), (4, 219), (4, 220), (4, 221), (4, 222), (6, 219), (6, 220), (6, 221), (6, 222), (6, 223)] rfl
set_option maxRecDepth 100000 in
theorem wsL_r51_in : ∀ w ∈ wsL_law_r51, w ∈ lw_tbl := sub_ch lw_chs lw_chs_in _ [(6, 225), (0, 72), (6, 226)] rfl
set_option maxRecDepth 100000 in
theorem wsX110_inT : ∀ w ∈ wsX110, w ∈ lw_tbl := fun w h => of_decide_eq_true (List.all_eq_true.mp (by decide +kernel : (wsX110 : List Cond).all (fun w => decide (w ∈ lw_tbl)) = true) w h)
set_option maxRecDepth 100000 in
theorem wsX120_inT : ∀ w ∈ wsX120, w ∈ lw_tbl := fun w h => of_decide_eq_true (List.all_eq_true.mp (by decide +kernel : (wsX120 : List Cond).all (fun w => decide (w ∈ lw_tbl)) = true) w h)
set_option maxRecDepth 100000 in
theorem wsX00_inT : ∀ w ∈ wsX00, w ∈ lw_tbl := fun w h => of_decide_eq_true (List.all_eq_true.mp (by decide +kernel : (wsX00 : List Cond).all (fun w => decide (w ∈ lw_tbl)) = true) w h)
set_option maxRecDepth 100000 in
theorem wsX60_inT : ∀ w ∈ wsX60, w ∈ lw_tbl := fun w h => of_decide_eq_true (List.all_eq_true.mp (by decide +kernel : (wsX60 : List Cond).all (fun w => decide (w ∈ lw_tbl)) = true) w h)
set_option maxRecDepth 100000 in
theorem wsX90_inT : ∀ w ∈ wsX90, w ∈ lw_tbl := fun w h => of_decide_eq_true (List.all_eq_true.mp (by decide +kernel : (wsX90 : List Cond).all (fun w => decide (w ∈ lw_tbl)) = true) w h)
set_option maxRecDepth 100000 in
theorem wsX40_inT : ∀ w ∈ wsX40, w ∈ lw_tbl := fun w h => of_decide_eq_true (List.all_eq_true.mp (by decide +kernel : (wsX40 : List Cond).all (fun w => decide (w ∈ lw_tbl)) = true) w h)
set_option maxRecDepth 100000 in
theorem wsX100_inT : ∀ w ∈ wsX100, w ∈ lw_tbl := fun w h => of_decide_eq_true (List.all_eq_true.mp (by decide +kernel : (wsX100 : List Cond).all (fun w => decide (w ∈ lw_tbl)) = true) w h)
set_option maxRecDepth 100000 in
theorem wsX70_inT : ∀ w ∈ wsX70, w ∈ lw_tbl := fun w h => of_decide_eq_true (List.all_eq_true.mp (by decide +kernel : (wsX70 : List Cond).all (fun w => decide (w ∈ lw_tbl)) = true) w h)
set_option maxRecDepth 100000 in
theorem wsX30_inT : ∀ w ∈ wsX30, w ∈ lw_tbl := fun w h => of_decide_eq_true (List.all_eq_true.mp (by decide +kernel : (wsX30 : List Cond).all (fun w => decide (w ∈ lw_tbl)) = true) w h)
set_option maxRecDepth 100000 in
theorem wsX50_inT : ∀ w ∈ wsX50, w ∈ lw_tbl := fun w h => of_decide_eq_true (List.all_eq_true.mp (by decide +kernel : (wsX50 : List Cond).all (fun w => decide (w ∈ lw_tbl)) = true) w h)
set_option maxRecDepth 100000 in
theorem wsX20_inT : ∀ w ∈ wsX20, w ∈ lw_tbl := fun w h => of_decide_eq_true (List.all_eq_true.mp (by decide +kernel : (wsX20 : List Cond).all (fun w => decide (w ∈ lw_tbl)) = true) w h)
set_option maxRecDepth 100000 in
theorem wsX10_inT : ∀ w ∈ wsX10, w ∈ lw_tbl := fun w h => of_decide_eq_true (List.all_eq_true.mp (by decide +kernel : (wsX10 : List Cond).all (fun w => decide (w ∈ lw_tbl)) = true) w h)
set_option maxRecDepth 100000 in
theorem wsX80_inT : ∀ w ∈ wsX80, w ∈ lw_tbl := fun w h => of_decide_eq_true (List.all_eq_true.mp (by decide +kernel : (wsX80 : List Cond).all (fun w => decide (w ∈ lw_tbl)) = true) w h)
theorem wsL_head_in : ∀ w ∈ (wsL_law_r1 ++ (wsL_law_r2 ++ (wsL_law_r3 ++ (wsL_law_r4 ++ (wsL_law_r5 ++ (wsL_law_r6 ++ (wsL_law_r7 ++ (wsL_law_r8 ++ (wsL_law_r9 ++ (wsL_law_r10 ++ (wsL_law_r11 ++ (wsL_law_r12 ++ (wsL_law_r13 ++ (wsL_law_r14 ++ (wsL_law_r15 ++ (wsL_law_r16 ++ (wsL_law_r17 ++ (wsL_law_r18 ++ (wsL_law_r19 ++ (wsL_law_r20 ++ (wsL_law_r21 ++ (wsL_law_r22 ++ (wsL_law_r23 ++ (wsL_law_r24 ++ (wsL_law_r25 ++ (wsL_law_r26 ++ (wsL_law_r27 ++ (wsL_law_r28 ++ (wsL_law_r29 ++ (wsL_law_r30 ++ (wsL_law_r31 ++ (wsL_law_r32 ++ (wsL_law_r33 ++ (wsL_law_r34 ++ (wsL_law_r35 ++ (wsL_law_r36 ++ (wsL_law_r37 ++ (wsL_law_r38 ++ (wsL_law_r39 ++ (wsL_law_r40 ++ (wsL_law_r41 ++ (wsL_law_r42 ++ (wsL_law_r43 ++ (wsL_law_r44 ++ (wsL_law_r45 ++ (wsL_law_r46 ++ (wsL_law_r47 ++ (wsL_law_r48 ++ (wsL_law_r49 ++ (wsL_law_r50 ++ wsL_law_r51)))))))))))))))))))))))))))))))))))))))))))))))))), w ∈ lw_tbl := fun w h => (List.mem_append.mp h).elim (wsL_r1_in w) (fun h => (List.mem_append.mp h).elim (wsL_r2_in w) (fun h => (List.mem_append.mp h).elim (wsL_r3_in w) (fun h => (List.mem_append.mp h).elim (wsL_r4_in w) (fun h => (List.mem_append.mp h).elim (wsL_r5_in w) (fun h => (List.mem_append.mp h).elim (wsL_r6_in w) (fun h => (List.mem_append.mp h).elim (wsL_r7_in w) (fun h => (List.mem_append.mp h).elim (wsL_r8_in w) (fun h => (List.mem_append.mp h).elim (wsL_r9_in w) (fun h => (List.mem_append.mp h).elim (wsL_r10_in w) (fun h => (List.mem_append.mp h).elim (wsL_r11_in w) (fun h => (List.mem_append.mp h).elim (wsL_r12_in w) (fun h => (List.mem_append.mp h).elim (wsL_r13_in w) (fun h => (List.mem_append.mp h).elim (wsL_r14_in w) (fun h => (List.mem_append.mp h).elim (wsL_r15_in w) (fun h => (List.mem_append.mp h).elim (wsL_r16_in w) (fun h => (List.mem_append.mp h).elim (wsL_r17_in w) (fun h => (List.mem_append.mp h).elim (wsL_r18_in w) (fun h => (List.mem_append.mp h).elim (wsL_r19_in w) (fun h => (List.mem_append.mp h).elim (wsL_r20_in w) (fun h => (List.mem_append.mp h).elim (wsL_r21_in w) (fun h => (List.mem_append.mp h).elim (wsL_r22_in w) (fun h => (List.mem_append.mp h).elim (wsL_r23_in w) (fun h => (List.mem_append.mp h).elim (wsL_r24_in w) (fun h => (List.mem_append.mp h).elim (wsL_r25_in w) (fun h => (List.mem_append.mp h).elim (wsL_r26_in w) (fun h => (List.mem_append.mp h).elim (wsL_r27_in w) (fun h => (List.mem_append.mp h).elim (wsL_r28_in w) (fun h => (List.mem_append.mp h).elim (wsL_r29_in w) (fun h => (List.mem_append.mp h).elim (wsL_r30_in w) (fun h => (List.mem_append.mp h).elim (wsL_r31_in w) (fun h => (List.mem_append.mp h).elim (wsL_r32_in w) (fun h => (List.mem_append.mp h).elim (wsL_r33_in w) (fun h => (List.mem_append.mp h).elim (wsL_r34_in w) (fun h => (List.mem_append.mp h).elim (wsL_r35_in w) (fun h => (List.mem_append.mp h).elim (wsL_r36_in w) (fun h => (List.mem_append.mp h).elim (wsL_r37_in w) (fun h => (List.mem_append.mp h).elim (wsL_r38_in w) (fun h => (List.mem_append.mp h).elim (wsL_r39_in w) (fun h => (List.mem_append.mp h).elim (wsL_r40_in w) (fun h => (List.mem_append.mp h).elim (wsL_r41_in w) (fun h => (List.mem_append.mp h).elim (wsL_r42_in w) (fun h => (List.mem_append.mp h).elim (wsL_r43_in w) (fun h => (List.mem_append.mp h).elim (wsL_r44_in w) (fun h => (List.mem_append.mp h).elim (wsL_r45_in w) (fun h => (List.mem_append.mp h).elim (wsL_r46_in w) (fun h => (List.mem_append.mp h).elim (wsL_r47_in w) (fun h => (List.mem_append.mp h).elim (wsL_r48_in w) (fun h => (List.mem_append.mp h).elim (wsL_r49_in w) (fun h => (List.mem_append.mp h).elim (wsL_r50_in w) (fun h => wsL_r51_in w h))))))))))))))))))))))))))))))))))))))))))))))))))
set_option maxRecDepth 100000 in
theorem wsL_law_in : ∀ w ∈ wsL_law, w ∈ lw_tbl := fun w h => (List.mem_append.mp h).elim (fun h => (List.mem_append.mp h).elim (fun h => (List.mem_append.mp h).elim (fun h => (List.mem_append.mp h).elim (fun h => (List.mem_append.mp h).elim (fun h => (List.mem_append.mp h).elim (fun h => (List.mem_append.mp h).elim (fun h => (List.mem_append.mp h).elim (fun h => (List.mem_append.mp h).elim (fun h => (List.mem_append.mp h).elim (fun h => (List.mem_append.mp h).elim (fun h => (List.mem_append.mp h).elim (fun h => (List.mem_append.mp h).elim (fun h => (List.mem_append.mp h).elim (fun h => wsL_head_in w h) (wsX110_inT w)) (wsX120_inT w)) (wsX00_inT w)) (wsX60_inT w)) (wsX90_inT w)) (wsX40_inT w)) (wsX100_inT w)) (wsX70_inT w)) (wsX30_inT w)) (wsX50_inT w)) (wsX20_inT w)) (wsX10_inT w)) (wsX80_inT w)) (fun h => absurd h List.not_mem_nil)
theorem inlX0 : ∀ w ∈ wsX00, w ∈ wsL_law := fun _ h => List.mem_append_left _ (List.mem_append_left _ (List.mem_append_left _ (List.mem_append_left _ (List.mem_append_left _ (List.mem_append_left _ (List.mem_append_left _ (List.mem_append_left _ (List.mem_append_left _ (List.mem_append_left _ (List.mem_append_left _ (List.mem_append_right _ h)))))))))))
theorem inX0 : ∀ w ∈ wsX00, w ∈ lw_tbl := fun w h => wsL_law_in w (inlX0 w h)
theorem inlX1 : ∀ w ∈ wsX10, w ∈ wsL_law := fun _ h => List.mem_append_left _ (List.mem_append_left _ (List.mem_append_right _ h))
theorem inX1 : ∀ w ∈ wsX10, w ∈ lw_tbl := fun w h => wsL_law_in w (inlX1 w h)
theorem inlX2 : ∀ w ∈ wsX20, w ∈ wsL_law := fun _ h => List.mem_append_left _ (List.mem_append_left _ (List.mem_append_left _ (List.mem_append_right _ h)))
theorem inX2 : ∀ w ∈ wsX20, w ∈ lw_tbl := fun w h => wsL_law_in w (inlX2 w h)
theorem inlX3 : ∀ w ∈ wsX30, w ∈ wsL_law := fun _ h => List.mem_append_left _ (List.mem_append_left _ (List.mem_append_left _ (List.mem_append_left _ (List.mem_append_left _ (List.mem_append_right _ h)))))
theorem inX3 : ∀ w ∈ wsX30, w ∈ lw_tbl := fun w h => wsL_law_in w (inlX3 w h)
theorem inlX4 : ∀ w ∈ wsX40, w ∈ wsL_law := fun _ h => List.mem_append_left _ (List.mem_append_left _ (List.mem_append_left _ (List.mem_append_left _ (List.mem_append_left _ (List.mem_append_left _ (List.mem_append_left _ (List.mem_append_left _ (List.mem_append_right _ h))))))))
theorem inX4 : ∀ w ∈ wsX40, w ∈ lw_tbl := fun w h => wsL_law_in w (inlX4 w h)
theorem inlX5 : ∀ w ∈ wsX50, w ∈ wsL_law := fun _ h => List.mem_append_left _ (List.mem_append_left _ (List.mem_append_left _ (List.mem_append_left _ (List.mem_append_right _ h))))
theorem inX5 : ∀ w ∈ wsX50, w ∈ lw_tbl := fun w h => wsL_law_in w (inlX5 w h)
theorem inlX6 : ∀ w ∈ wsX60, w ∈ wsL_law := fun _ h => List.mem_append_left _ (List.mem_append_left _ (List.mem_append_left _ (List.mem_append_left _ (List.mem_append_left _ (List.mem_append_left _ (List.mem_append_left _ (List.mem_append_left _ (List.mem_append_left _ (List.mem_append_left _ (List.mem_append_right _ h))))))))))
theorem inX6 : ∀ w ∈ wsX60, w ∈ lw_tbl := fun w h => wsL_law_in w (inlX6 w h)
theorem inlX7 : ∀ w ∈ wsX70, w ∈ wsL_law := fun _ h => List.mem_append_left _ (List.mem_append_left _ (List.mem_append_left _ (List.mem_append_left _ (List.mem_append_left _ (List.mem_append_left _ (List.mem_append_right _ h))))))
theorem inX7 : ∀ w ∈ wsX70, w ∈ lw_tbl := fun w h => wsL_law_in w (inlX7 w h)
theorem inlX8 : ∀ w ∈ wsX80, w ∈ wsL_law := fun _ h => List.mem_append_left _ (List.mem_append_right _ h)
theorem inX8 : ∀ w ∈ wsX80, w ∈ lw_tbl := fun w h => wsL_law_in w (inlX8 w h)
theorem inlX9 : ∀ w ∈ wsX90, w ∈ wsL_law := fun _ h => List.mem_append_left _ (List.mem_append_left _ (List.mem_append_left _ (List.mem_append_left _ (List.mem_append_left _ (List.mem_append_left _ (List.mem_append_left _ (List.mem_append_left _ (List.mem_append_left _ (List.mem_append_right _ h)))))))))
theorem inX9 : ∀ w ∈ wsX90, w ∈ lw_tbl := fun w h => wsL_law_in w (inlX9 w h)
theorem inlX10 : ∀ w ∈ wsX100, w ∈ wsL_law := fun _ h => List.mem_append_left _ (List.mem_append_left _ (List.mem_append_left _ (List.mem_append_left _ (List.mem_append_left _ (List.mem_append_left _ (List.mem_append_left _ (List.mem_append_right _ h)))))))
theorem inX10 : ∀ w ∈ wsX100, w ∈ lw_tbl := fun w h => wsL_law_in w (inlX10 w h)
theorem inlX11 : ∀ w ∈ wsX110, w ∈ wsL_law := fun _ h => List.mem_append_left _ (List.mem_append_left _ (List.mem_append_left _ (List.mem_append_left _ (List.mem_append_left _ (List.mem_append_left _ (List.mem_append_left _ (List.mem_append_left _ (List.mem_append_left _ (List.mem_append_left _ (List.mem_append_left _ (List.mem_append_left _ (List.mem_append_left _ (List.mem_append_right _ h)))))))))))))
theorem inX11 : ∀ w ∈ wsX110, w ∈ lw_tbl := fun w h => wsL_law_in w (inlX11 w h)
theorem inlX12 : ∀ w ∈ wsX120, w ∈ wsL_law := fun _ h => List.mem_append_left _ (List.mem_append_left _ (List.mem_append_left _ (List.mem_append_left _ (List.mem_append_left _ (List.mem_append_left _ (List.mem_append_left _ (List.mem_append_left _ (List.mem_append_left _ (List.mem_append_left _ (List.mem_append_left _ (List.mem_append_left _ (List.mem_append_right _ h))))))))))))
theorem inX12 : ∀ w ∈ wsX120, w ∈ lw_tbl := fun w h => wsL_law_in w (inlX12 w h)
theorem inJx145de : ∀ w ∈ wsJx145de0, w ∈ lw_tbl := by decide +kernel
theorem inJx9f9b0 : ∀ w ∈ wsJx9f9b00, w ∈ lw_tbl := by decide +kernel
theorem inJxb160c : ∀ w ∈ wsJxb160c0, w ∈ lw_tbl := by decide +kernel
theorem inJ9 : ∀ w ∈ wsJ90, w ∈ lw_tbl := by decide +kernel
theorem inJ0 : ∀ w ∈ wsJ00, w ∈ lw_tbl := by decide +kernel
theorem inJ1 : ∀ w ∈ wsJ10, w ∈ lw_tbl := by decide +kernel
theorem inJ2 : ∀ w ∈ wsJ20, w ∈ lw_tbl := by decide +kernel
theorem inJ10 : ∀ w ∈ wsJ100, w ∈ lw_tbl := by decide +kernel
theorem inJxfd54e : ∀ w ∈ wsJxfd54e0, w ∈ lw_tbl := by decide +kernel
theorem inJx3cf43 : ∀ w ∈ wsJx3cf430, w ∈ lw_tbl := by decide +kernel
theorem inJ7 : ∀ w ∈ wsJ70, w ∈ lw_tbl := by decide +kernel
theorem inJ3 : ∀ w ∈ wsJ30, w ∈ lw_tbl := by decide +kernel
set_option maxRecDepth 20000 in
theorem ggX0_init_X2_init : GoodIn wsX0_init wsX2_init := goodIn_r _ [17, 18, 2, 3, 19, 20, 21, 22, 23, 24, 25, 43, 44, 45, 46, 47, 48] rfl (by decide +kernel)
set_option maxRecDepth 20000 in
theorem gX0_init_X2_init_n11 : GoodIn wsX0_init (wsX2_init) := ggX0_init_X2_init
set_option maxRecDepth 20000 in
theorem ggX0_init_X1_init : GoodIn wsX0_init wsX1_init := goodIn_r _ [27, 28, 2, 3, 29, 23, 30, 31, 32, 33, 34, 35, 52, 53, 54, 55, 56, 57, 58] rfl (by decide +kernel)
set_option maxRecDepth 20000 in
theorem gX0_init_X1_init_n20 : GoodIn wsX0_init (wsX1_init) := ggX0_init_X1_init
set_option maxRecDepth 20000 in
theorem ggX0_init_X8_init : GoodIn wsX0_init wsX8_init := goodIn_r _ [37, 38, 2, 3, 23, 39, 40, 41, 42, 59, 60, 61, 62] rfl (by decide +kernel)
set_option maxRecDepth 20000 in
theorem gX0_init_X8_init_n27 : GoodIn wsX0_init (wsX8_init) := ggX0_init_X8_init
theorem dX0_init_0 : decode cX0_init 0 = .ok (.aload_n 0, 1) := by decide +kernel
theorem dX0_init_1 : decode cX0_init 1 = .ok (.invokespecial 3, 3) := by decide +kernel
theorem dX0_init_4 : decode cX0_init 4 = .ok (.aload_n 0, 1) := by decide +kernel
theorem dX0_init_5 : decode cX0_init 5 = .ok (.new 9, 3) := by decide +kernel
theorem dX0_init_8 : decode cX0_init 8 = .ok (.dup, 1) := by decide +kernel
theorem dX0_init_9 : decode cX0_init 9 = .ok (.invokespecial 11, 3) := by decide +kernel
theorem dX0_init_12 : decode cX0_init 12 = .ok (.putfield 12, 3) := by decide +kernel
theorem dX0_init_15 : decode cX0_init 15 = .ok (.aload_n 0, 1) := by decide +kernel
theorem dX0_init_16 : decode cX0_init 16 = .ok (.new 18, 3) := by decide +kernel
theorem dX0_init_19 : decode cX0_init 19 = .ok (.dup, 1) := by decide +kernel
theorem dX0_init_20 : decode cX0_init 20 = .ok (.invokespecial 20, 3) := by decide +kernel
theorem dX0_init_23 : decode cX0_init 23 = .ok (.putfield 21, 3) := by decide +kernel
theorem dX0_init_26 : decode cX0_init 26 = .ok (.aload_n 0, 1) := by decide +kernel
theorem dX0_init_27 : decode cX0_init 27 = .ok (.new 25, 3) := by decide +kernel
theorem dX0_init_30 : decode cX0_init 30 = .ok (.dup, 1) := by decide +kernel
theorem dX0_init_31 : decode cX0_init 31 = .ok (.invokespecial 27, 3) := by decide +kernel
theorem dX0_init_34 : decode cX0_init 34 = .ok (.putfield 28, 3) := by decide +kernel
theorem dX0_init_37 : decode cX0_init 37 = .ok (.return_, 1) := by decide +kernel
set_option maxRecDepth 20000 in
theorem ggX0_makeAsAtFirst_X2_makeAsAtFirst : GoodIn wsX0_makeAsAtFirst wsX2_makeAsAtFirst := goodIn_r _ [9, 10, 11, 12, 13, 14, 15, 16, 17, 18, 19, 20, 21, 22, 23, 24, 25, 26, 27, 28, 29, 50, 51, 52, 53, 54, 55] rfl (by decide +kernel)
set_option maxRecDepth 20000 in
theorem gX0_makeAsAtFirst_X2_makeAsAtFirst : GoodIn wsX0_makeAsAtFirst (wsV RX0 32 RX2 yX2_makeAsAtFirst wsX2_makeAsAtFirst) := goodIn_app (goodIn_of _ (by decide +kernel)) ggX0_makeAsAtFirst_X2_makeAsAtFirst
set_option maxRecDepth 20000 in
theorem ggX0_makeAsAtFirst_X8_empty : GoodIn wsX0_makeAsAtFirst wsX8_empty := goodIn_r _ [34, 35, 36, 37, 38, 39, 27, 28, 29, 56, 57, 58, 59] rfl (by decide +kernel)
set_option maxRecDepth 20000 in
theorem gX0_makeAsAtFirst_X8_empty : GoodIn wsX0_makeAsAtFirst (wsV RX0 40 RX8 yX8_empty wsX8_empty) := goodIn_app (goodIn_of _ (by decide +kernel)) ggX0_makeAsAtFirst_X8_empty
theorem dX0_makeAsAtFirst_0 : decode cX0_makeAsAtFirst 0 = .ok (.aload_n 0, 1) := by decide +kernel
theorem dX0_makeAsAtFirst_1 : decode cX0_makeAsAtFirst 1 = .ok (.getfield 12, 3) := by decide +kernel
theorem dX0_makeAsAtFirst_4 : decode cX0_makeAsAtFirst 4 = .ok (.iload_n 1, 1) := by decide +kernel
theorem dX0_makeAsAtFirst_5 : decode cX0_makeAsAtFirst 5 = .ok (.invokevirtual 32, 3) := by decide +kernel
theorem dX0_makeAsAtFirst_8 : decode cX0_makeAsAtFirst 8 = .ok (.aload_n 0, 1) := by decide +kernel
theorem dX0_makeAsAtFirst_9 : decode cX0_makeAsAtFirst 9 = .ok (.getfield 21, 3) := by decide +kernel
theorem dX0_makeAsAtFirst_12 : decode cX0_makeAsAtFirst 12 = .ok (.iconst 0, 1) := by decide +kernel
theorem dX0_makeAsAtFirst_13 : decode cX0_makeAsAtFirst 13 = .ok (.putfield 36, 3) := by decide +kernel
theorem dX0_makeAsAtFirst_16 : decode cX0_makeAsAtFirst 16 = .ok (.aload_n 0, 1) := by decide +kernel
theorem dX0_makeAsAtFirst_17 : decode cX0_makeAsAtFirst 17 = .ok (.getfield 28, 3) := by decide +kernel
theorem dX0_makeAsAtFirst_20 : decode cX0_makeAsAtFirst 20 = .ok (.invokevirtual 40, 3) := by decide +kernel
theorem dX0_makeAsAtFirst_23 : decode cX0_makeAsAtFirst 23 = .ok (.return_, 1) := by decide +kernel
set_option maxRecDepth 20000 in
theorem ggX0_copyFrom_X2_copyFrom : GoodIn wsX0_copyFrom wsX2_copyFrom := goodIn_r _ [8, 9, 10, 11, 12, 13, 14, 15, 16, 17, 18, 49, 50, 51, 52, 53, 54] rfl (by decide +kernel)
set_option maxRecDepth 20000 in
theorem gX0_copyFrom_X2_copyFrom : GoodIn wsX0_copyFrom (wsV RX0 43 RX2 yX2_copyFrom wsX2_copyFrom) := goodIn_app (goodIn_of _ (by decide +kernel)) ggX0_copyFrom_X2_copyFrom
set_option maxRecDepth 20000 in
theorem ggX0_copyFrom_X1_copyFrom : GoodIn wsX0_copyFrom wsX1_copyFrom := goodIn_r _ [23, 24, 25, 26, 27, 22, 28, 29, 30, 15, 16, 17, 31, 32, 33, 34, 35, 55, 56, 57, 58, 59, 60, 61] rfl (by decide +kernel)
set_option maxRecDepth 20000 in
theorem gX0_copyFrom_X1_copyFrom : GoodIn wsX0_copyFrom (wsV RX0 47 RX1 yX1_copyFrom wsX1_copyFrom) := goodIn_app (goodIn_of _ (by decide +kernel)) ggX0_copyFrom_X1_copyFrom
set_option maxRecDepth 20000 in
theorem ggX0_copyFrom_X8_copyFrom : GoodIn wsX0_copyFrom wsX8_copyFrom := goodIn_r _ [40, 41, 42, 15, 16, 17, 43, 44, 45, 62, 63, 64, 65] rfl (by decide +kernel)
set_option maxRecDepth 20000 in
theorem gX0_copyFrom_X8_copyFrom : GoodIn wsX0_copyFrom (wsV RX0 50 RX8 yX8_copyFrom wsX8_copyFrom) := goodIn_app (goodIn_of _ (by decide +kernel)) ggX0_copyFrom_X8_copyFrom
theorem dX0_copyFrom_0 : decode cX0_copyFrom 0 = .ok (.aload_n 0, 1) := by decide +kernel
theorem dX0_copyFrom_1 : decode cX0_copyFrom 1 = .ok (.getfield 12, 3) := by decide +kernel
theorem dX0_copyFrom_4 : decode cX0_copyFrom 4 = .ok (.aload_n 1, 1) := by decide +kernel
theorem dX0_copyFrom_5 : decode cX0_copyFrom 5 = .ok (.getfield 12, 3) := by decide +kernel
theorem dX0_copyFrom_8 : decode cX0_copyFrom 8 = .ok (.invokevirtual 43, 3) := by decide +kernel
theorem dX0_copyFrom_11 : decode cX0_copyFrom 11 = .ok (.aload_n 0, 1) := by decide +kernel
theorem dX0_copyFrom_12 : decode cX0_copyFrom 12 = .ok (.getfield 21, 3) := by decide +kernel
theorem dX0_copyFrom_15 : decode cX0_copyFrom 15 = .ok (.aload_n 1, 1) := by decide +kernel
theorem dX0_copyFrom_16 : decode cX0_copyFrom 16 = .ok (.getfield 21, 3) := by decide +kernel
theorem dX0_copyFrom_19 : decode cX0_copyFrom 19 = .ok (.invokevirtual 47, 3) := by decide +kernel
theorem dX0_copyFrom_22 : decode cX0_copyFrom 22 = .ok (.aload_n 0, 1) := by decide +kernel
theorem dX0_copyFrom_23 : decode cX0_copyFrom 23 = .ok (.getfield 28, 3) := by decide +kernel
theorem dX0_copyFrom_26 : decode cX0_copyFrom 26 = .ok (.aload_n 1, 1) := by decide +kernel
theorem dX0_copyFrom_27 : decode cX0_copyFrom 27 = .ok (.getfield 28, 3) := by decide +kernel
theorem dX0_copyFrom_30 : decode cX0_copyFrom 30 = .ok (.invokevirtual 50, 3) := by decide +kernel
theorem dX0_copyFrom_33 : decode cX0_copyFrom 33 = .ok (.return_, 1) := by decide +kernel
set_option maxRecDepth 20000 in
theorem ggX0_weighsAt_X0_woolWeighs : GoodIn wsX0_weighsAt wsX0_woolWeighs := goodIn_r _ [8, 9, 10, 11, 12, 13, 21, 22, 23, 24, 25, 26] rfl (by decide +kernel)
set_option maxRecDepth 20000 in
theorem gX0_weighsAt_X0_woolWeighs : GoodIn wsX0_weighsAt (wsV RX0 60 RX0 yX0_woolWeighs wsX0_woolWeighs) := goodIn_app (goodIn_of _ (by decide +kernel)) ggX0_weighsAt_X0_woolWeighs
theorem dX0_weighsAt_0 : decode cX0_weighsAt 0 = .ok (.aload_n 0, 1) := by decide +kernel
theorem dX0_weighsAt_1 : decode cX0_weighsAt 1 = .ok (.getfield 21, 3) := by decide +kernel
theorem dX0_weighsAt_4 : decode cX0_weighsAt 4 = .ok (.getfield 53, 3) := by decide +kernel
theorem dX0_weighsAt_7 : decode cX0_weighsAt 7 = .ok (.iload_n 1, 1) := by decide +kernel
theorem dX0_weighsAt_8 : decode cX0_weighsAt 8 = .ok (.iaload, 1) := by decide +kernel
theorem dX0_weighsAt_9 : decode cX0_weighsAt 9 = .ok (.lookupswitch 57 #[(2, 27), (4, 41)], 27) := by decide +kernel
theorem dX0_weighsAt_36 : decode cX0_weighsAt 36 = .ok (.aload_n 0, 1) := by decide +kernel
theorem dX0_weighsAt_37 : decode cX0_weighsAt 37 = .ok (.aload_n 0, 1) := by decide +kernel
theorem dX0_weighsAt_38 : decode cX0_weighsAt 38 = .ok (.getfield 21, 3) := by decide +kernel
theorem dX0_weighsAt_41 : decode cX0_weighsAt 41 = .ok (.getfield 57, 3) := by decide +kernel
theorem dX0_weighsAt_44 : decode cX0_weighsAt 44 = .ok (.iload_n 1, 1) := by decide +kernel
theorem dX0_weighsAt_45 : decode cX0_weighsAt 45 = .ok (.iaload, 1) := by decide +kernel
theorem dX0_weighsAt_46 : decode cX0_weighsAt 46 = .ok (.invokevirtual 60, 3) := by decide +kernel
theorem dX0_weighsAt_49 : decode cX0_weighsAt 49 = .ok (.ireturn, 1) := by decide +kernel
theorem dX0_weighsAt_50 : decode cX0_weighsAt 50 = .ok (.aload_n 0, 1) := by decide +kernel
theorem dX0_weighsAt_51 : decode cX0_weighsAt 51 = .ok (.aload_n 0, 1) := by decide +kernel
theorem dX0_weighsAt_52 : decode cX0_weighsAt 52 = .ok (.getfield 21, 3) := by decide +kernel
theorem dX0_weighsAt_55 : decode cX0_weighsAt 55 = .ok (.getfield 57, 3) := by decide +kernel
theorem dX0_weighsAt_58 : decode cX0_weighsAt 58 = .ok (.iload_n 1, 1) := by decide +kernel
theorem dX0_weighsAt_59 : decode cX0_weighsAt 59 = .ok (.iaload, 1) := by decide +kernel
theorem dX0_weighsAt_60 : decode cX0_weighsAt 60 = .ok (.invokevirtual 60, 3) := by decide +kernel
theorem dX0_weighsAt_63 : decode cX0_weighsAt 63 = .ok (.iconst 3, 1) := by decide +kernel
theorem dX0_weighsAt_64 : decode cX0_weighsAt 64 = .ok (.iadd, 1) := by decide +kernel
theorem dX0_weighsAt_65 : decode cX0_weighsAt 65 = .ok (.ireturn, 1) := by decide +kernel
theorem dX0_weighsAt_66 : decode cX0_weighsAt 66 = .ok (.aload_n 0, 1) := by decide +kernel
theorem dX0_weighsAt_67 : decode cX0_weighsAt 67 = .ok (.getfield 21, 3) := by decide +kernel
theorem dX0_weighsAt_70 : decode cX0_weighsAt 70 = .ok (.getfield 57, 3) := by decide +kernel
theorem dX0_weighsAt_73 : decode cX0_weighsAt 73 = .ok (.iload_n 1, 1) := by decide +kernel
theorem dX0_weighsAt_74 : decode cX0_weighsAt 74 = .ok (.iaload, 1) := by decide +kernel
theorem dX0_weighsAt_75 : decode cX0_weighsAt 75 = .ok (.ireturn, 1) := by decide +kernel
theorem dX0_woolWeighs_0 : decode cX0_woolWeighs 0 = .ok (.aload_n 0, 1) := by decide +kernel
theorem dX0_woolWeighs_1 : decode cX0_woolWeighs 1 = .ok (.getfield 12, 3) := by decide +kernel
theorem dX0_woolWeighs_4 : decode cX0_woolWeighs 4 = .ok (.getfield 64, 3) := by decide +kernel
theorem dX0_woolWeighs_7 : decode cX0_woolWeighs 7 = .ok (.iconst 1, 1) := by decide +kernel
theorem dX0_woolWeighs_8 : decode cX0_woolWeighs 8 = .ok (.if_icmp .ne 11, 3) := by decide +kernel
theorem dX0_woolWeighs_11 : decode cX0_woolWeighs 11 = .ok (.iload_n 1, 1) := by decide +kernel
theorem dX0_woolWeighs_12 : decode cX0_woolWeighs 12 = .ok (.iload_n 1, 1) := by decide +kernel
theorem dX0_woolWeighs_13 : decode cX0_woolWeighs 13 = .ok (.iconst 4, 1) := by decide +kernel
theorem dX0_woolWeighs_14 : decode cX0_woolWeighs 14 = .ok (.idiv, 1) := by decide +kernel
theorem dX0_woolWeighs_15 : decode cX0_woolWeighs 15 = .ok (.iadd, 1) := by decide +kernel
theorem dX0_woolWeighs_16 : decode cX0_woolWeighs 16 = .ok (.goto 4, 3) := by decide +kernel
theorem dX0_woolWeighs_19 : decode cX0_woolWeighs 19 = .ok (.iload_n 1, 1) := by decide +kernel
theorem dX0_woolWeighs_20 : decode cX0_woolWeighs 20 = .ok (.ireturn, 1) := by decide +kernel
set_option maxRecDepth 20000 in
theorem ggX0_allWeight_X0_weighsAt : GoodIn wsX0_allWeight wsX0_weighsAt := goodIn_r _ [11, 3, 12, 13, 14, 15, 16, 10, 17, 1, 18, 19, 20, 21, 28, 29, 30, 31, 32, 33, 34, 22, 23, 24, 25, 26, 27] rfl (by decide +kernel)
set_option maxRecDepth 20000 in
theorem gX0_allWeight_X0_weighsAt : GoodIn wsX0_allWeight (wsV RX0 70 RX0 yX0_weighsAt wsX0_weighsAt) := goodIn_app (goodIn_of _ (by decide +kernel)) ggX0_allWeight_X0_weighsAt
theorem dX0_allWeight_0 : decode cX0_allWeight 0 = .ok (.aload_n 0, 1) := by decide +kernel
theorem dX0_allWeight_1 : decode cX0_allWeight 1 = .ok (.getfield 12, 3) := by decide +kernel
theorem dX0_allWeight_4 : decode cX0_allWeight 4 = .ok (.getfield 67, 3) := by decide +kernel
theorem dX0_allWeight_7 : decode cX0_allWeight 7 = .ok (.istore_n 1, 1) := by decide +kernel
theorem dX0_allWeight_8 : decode cX0_allWeight 8 = .ok (.iconst 0, 1) := by decide +kernel
theorem dX0_allWeight_9 : decode cX0_allWeight 9 = .ok (.istore_n 2, 1) := by decide +kernel
theorem dX0_allWeight_10 : decode cX0_allWeight 10 = .ok (.iload_n 2, 1) := by decide +kernel
theorem dX0_allWeight_11 : decode cX0_allWeight 11 = .ok (.aload_n 0, 1) := by decide +kernel
theorem dX0_allWeight_12 : decode cX0_allWeight 12 = .ok (.getfield 21, 3) := by decide +kernel
theorem dX0_allWeight_15 : decode cX0_allWeight 15 = .ok (.getfield 36, 3) := by decide +kernel
theorem dX0_allWeight_18 : decode cX0_allWeight 18 = .ok (.if_icmp .ge 17, 3) := by decide +kernel
theorem dX0_allWeight_21 : decode cX0_allWeight 21 = .ok (.iload_n 1, 1) := by decide +kernel
theorem dX0_allWeight_22 : decode cX0_allWeight 22 = .ok (.aload_n 0, 1) := by decide +kernel
theorem dX0_allWeight_23 : decode cX0_allWeight 23 = .ok (.iload_n 2, 1) := by decide +kernel
theorem dX0_allWeight_24 : decode cX0_allWeight 24 = .ok (.invokevirtual 70, 3) := by decide +kernel
theorem dX0_allWeight_27 : decode cX0_allWeight 27 = .ok (.iadd, 1) := by decide +kernel
theorem dX0_allWeight_28 : decode cX0_allWeight 28 = .ok (.istore_n 1, 1) := by decide +kernel
theorem dX0_allWeight_29 : decode cX0_allWeight 29 = .ok (.iinc 2 1, 3) := by decide +kernel
theorem dX0_allWeight_32 : decode cX0_allWeight 32 = .ok (.goto (-22), 3) := by decide +kernel
theorem dX0_allWeight_35 : decode cX0_allWeight 35 = .ok (.iconst 0, 1) := by decide +kernel
theorem dX0_allWeight_36 : decode cX0_allWeight 36 = .ok (.istore_n 2, 1) := by decide +kernel
theorem dX0_allWeight_37 : decode cX0_allWeight 37 = .ok (.iload_n 2, 1) := by decide +kernel
theorem dX0_allWeight_38 : decode cX0_allWeight 38 = .ok (.iconst 4, 1) := by decide +kernel
theorem dX0_allWeight_39 : decode cX0_allWeight 39 = .ok (.if_icmp .ge 21, 3) := by decide +kernel
theorem dX0_allWeight_42 : decode cX0_allWeight 42 = .ok (.iload_n 1, 1) := by decide +kernel
theorem dX0_allWeight_43 : decode cX0_allWeight 43 = .ok (.aload_n 0, 1) := by decide +kernel
theorem dX0_allWeight_44 : decode cX0_allWeight 44 = .ok (.getfield 28, 3) := by decide +kernel
theorem dX0_allWeight_47 : decode cX0_allWeight 47 = .ok (.getfield 73, 3) := by decide +kernel
theorem dX0_allWeight_50 : decode cX0_allWeight 50 = .ok (.iload_n 2, 1) := by decide +kernel
theorem dX0_allWeight_51 : decode cX0_allWeight 51 = .ok (.iaload, 1) := by decide +kernel
theorem dX0_allWeight_52 : decode cX0_allWeight 52 = .ok (.iadd, 1) := by decide +kernel
theorem dX0_allWeight_53 : decode cX0_allWeight 53 = .ok (.istore_n 1, 1) := by decide +kernel
theorem dX0_allWeight_54 : decode cX0_allWeight 54 = .ok (.iinc 2 1, 3) := by decide +kernel
theorem dX0_allWeight_57 : decode cX0_allWeight 57 = .ok (.goto (-20), 3) := by decide +kernel
theorem dX0_allWeight_60 : decode cX0_allWeight 60 = .ok (.iload_n 1, 1) := by decide +kernel
theorem dX0_allWeight_61 : decode cX0_allWeight 61 = .ok (.ireturn, 1) := by decide +kernel
set_option maxRecDepth 20000 in
theorem ggX0_allAlong_X0_weighsAt : GoodIn wsX0_allAlong wsX0_weighsAt := goodIn_r _ [14, 4, 15, 16, 17, 18, 19, 13, 20, 1, 21, 22, 23, 24, 31, 32, 33, 34, 35, 36, 37, 25, 26, 27, 28, 29, 30] rfl (by decide +kernel)
set_option maxRecDepth 20000 in
theorem gX0_allAlong_X0_weighsAt : GoodIn wsX0_allAlong (wsV RX0 70 RX0 yX0_weighsAt wsX0_weighsAt) := goodIn_app (goodIn_of _ (by decide +kernel)) ggX0_allAlong_X0_weighsAt
theorem dX0_allAlong_0 : decode cX0_allAlong 0 = .ok (.aload_n 0, 1) := by decide +kernel
theorem dX0_allAlong_1 : decode cX0_allAlong 1 = .ok (.getfield 12, 3) := by decide +kernel
theorem dX0_allAlong_4 : decode cX0_allAlong 4 = .ok (.getfield 67, 3) := by decide +kernel
theorem dX0_allAlong_7 : decode cX0_allAlong 7 = .ok (.aload_n 0, 1) := by decide +kernel
theorem dX0_allAlong_8 : decode cX0_allAlong 8 = .ok (.getfield 12, 3) := by decide +kernel
theorem dX0_allAlong_11 : decode cX0_allAlong 11 = .ok (.getfield 76, 3) := by decide +kernel
theorem dX0_allAlong_14 : decode cX0_allAlong 14 = .ok (.iconst 1, 1) := by decide +kernel
theorem dX0_allAlong_15 : decode cX0_allAlong 15 = .ok (.isub, 1) := by decide +kernel
theorem dX0_allAlong_16 : decode cX0_allAlong 16 = .ok (.imul, 1) := by decide +kernel
theorem dX0_allAlong_17 : decode cX0_allAlong 17 = .ok (.istore_n 1, 1) := by decide +kernel
theorem dX0_allAlong_18 : decode cX0_allAlong 18 = .ok (.iconst 0, 1) := by decide +kernel
theorem dX0_allAlong_19 : decode cX0_allAlong 19 = .ok (.istore_n 2, 1) := by decide +kernel
theorem dX0_allAlong_20 : decode cX0_allAlong 20 = .ok (.iload_n 2, 1) := by decide +kernel
theorem dX0_allAlong_21 : decode cX0_allAlong 21 = .ok (.aload_n 0, 1) := by decide +kernel
theorem dX0_allAlong_22 : decode cX0_allAlong 22 = .ok (.getfield 21, 3) := by decide +kernel
theorem dX0_allAlong_25 : decode cX0_allAlong 25 = .ok (.getfield 36, 3) := by decide +kernel
theorem dX0_allAlong_28 : decode cX0_allAlong 28 = .ok (.if_icmp .ge 29, 3) := by decide +kernel
theorem dX0_allAlong_31 : decode cX0_allAlong 31 = .ok (.iload_n 1, 1) := by decide +kernel
theorem dX0_allAlong_32 : decode cX0_allAlong 32 = .ok (.aload_n 0, 1) := by decide +kernel
theorem dX0_allAlong_33 : decode cX0_allAlong 33 = .ok (.iload_n 2, 1) := by decide +kernel
theorem dX0_allAlong_34 : decode cX0_allAlong 34 = .ok (.invokevirtual 70, 3) := by decide +kernel
theorem dX0_allAlong_37 : decode cX0_allAlong 37 = .ok (.iconst 2, 1) := by decide +kernel
theorem dX0_allAlong_38 : decode cX0_allAlong 38 = .ok (.imul, 1) := by decide +kernel
theorem dX0_allAlong_39 : decode cX0_allAlong 39 = .ok (.aload_n 0, 1) := by decide +kernel
theorem dX0_allAlong_40 : decode cX0_allAlong 40 = .ok (.getfield 21, 3) := by decide +kernel
theorem dX0_allAlong_43 : decode cX0_allAlong 43 = .ok (.getfield 79, 3) := by decide +kernel
theorem dX0_allAlong_46 : decode cX0_allAlong 46 = .ok (.iload_n 2, 1) := by decide +kernel
theorem dX0_allAlong_47 : decode cX0_allAlong 47 = .ok (.iaload, 1) := by decide +kernel
theorem dX0_allAlong_48 : decode cX0_allAlong 48 = .ok (.imul, 1) := by decide +kernel
theorem dX0_allAlong_49 : decode cX0_allAlong 49 = .ok (.iadd, 1) := by decide +kernel
theorem dX0_allAlong_50 : decode cX0_allAlong 50 = .ok (.istore_n 1, 1) := by decide +kernel
theorem dX0_allAlong_51 : decode cX0_allAlong 51 = .ok (.iinc 2 1, 3) := by decide +kernel
theorem dX0_allAlong_54 : decode cX0_allAlong 54 = .ok (.goto (-34), 3) := by decide +kernel
theorem dX0_allAlong_57 : decode cX0_allAlong 57 = .ok (.iconst 0, 1) := by decide +kernel
theorem dX0_allAlong_58 : decode cX0_allAlong 58 = .ok (.istore_n 2, 1) := by decide +kernel
theorem dX0_allAlong_59 : decode cX0_allAlong 59 = .ok (.iload_n 2, 1) := by decide +kernel
theorem dX0_allAlong_60 : decode cX0_allAlong 60 = .ok (.iconst 4, 1) := by decide +kernel
theorem dX0_allAlong_61 : decode cX0_allAlong 61 = .ok (.if_icmp .ge 33, 3) := by decide +kernel
theorem dX0_allAlong_64 : decode cX0_allAlong 64 = .ok (.iload_n 1, 1) := by decide +kernel
theorem dX0_allAlong_65 : decode cX0_allAlong 65 = .ok (.aload_n 0, 1) := by decide +kernel
theorem dX0_allAlong_66 : decode cX0_allAlong 66 = .ok (.getfield 28, 3) := by decide +kernel
theorem dX0_allAlong_69 : decode cX0_allAlong 69 = .ok (.getfield 73, 3) := by decide +kernel
theorem dX0_allAlong_72 : decode cX0_allAlong 72 = .ok (.iload_n 2, 1) := by decide +kernel
theorem dX0_allAlong_73 : decode cX0_allAlong 73 = .ok (.iaload, 1) := by decide +kernel
theorem dX0_allAlong_74 : decode cX0_allAlong 74 = .ok (.iconst 2, 1) := by decide +kernel
theorem dX0_allAlong_75 : decode cX0_allAlong 75 = .ok (.imul, 1) := by decide +kernel
theorem dX0_allAlong_76 : decode cX0_allAlong 76 = .ok (.aload_n 0, 1) := by decide +kernel
theorem dX0_allAlong_77 : decode cX0_allAlong 77 = .ok (.getfield 28, 3) := by decide +kernel
theorem dX0_allAlong_80 : decode cX0_allAlong 80 = .ok (.getfield 82, 3) := by decide +kernel
theorem dX0_allAlong_83 : decode cX0_allAlong 83 = .ok (.iload_n 2, 1) := by decide +kernel
theorem dX0_allAlong_84 : decode cX0_allAlong 84 = .ok (.iaload, 1) := by decide +kernel
theorem dX0_allAlong_85 : decode cX0_allAlong 85 = .ok (.imul, 1) := by decide +kernel
theorem dX0_allAlong_86 : decode cX0_allAlong 86 = .ok (.iadd, 1) := by decide +kernel
theorem dX0_allAlong_87 : decode cX0_allAlong 87 = .ok (.istore_n 1, 1) := by decide +kernel
theorem dX0_allAlong_88 : decode cX0_allAlong 88 = .ok (.iinc 2 1, 3) := by decide +kernel
theorem dX0_allAlong_91 : decode cX0_allAlong 91 = .ok (.goto (-32), 3) := by decide +kernel
theorem dX0_allAlong_94 : decode cX0_allAlong 94 = .ok (.iload_n 1, 1) := by decide +kernel
theorem dX0_allAlong_95 : decode cX0_allAlong 95 = .ok (.ireturn, 1) := by decide +kernel
set_option maxRecDepth 20000 in
theorem ggX0_allAside_X0_asideRolledBy : GoodIn wsX0_allAside wsX0_asideRolledBy := goodIn_r _ [5, 6, 7, 8, 9, 10, 11, 12, 13, 14, 15, 16, 17, 18, 19, 20, 21, 22, 23, 24, 25, 4, 26, 27, 28, 29, 30, 31, 32, 33, 34, 35, 36, 37, 38, 39, 40, 41, 42, 43, 44, 45, 46, 47, 48, 49] rfl (by decide +kernel)
set_option maxRecDepth 20000 in
theorem gX0_allAside_X0_asideRolledBy : GoodIn wsX0_allAside (wsV RX0 83 RX0 yX0_asideRolledBy wsX0_asideRolledBy) := goodIn_app (goodIn_of _ (by decide +kernel)) ggX0_allAside_X0_asideRolledBy
theorem dX0_allAside_0 : decode cX0_allAside 0 = .ok (.aload_n 0, 1) := by decide +kernel
theorem dX0_allAside_1 : decode cX0_allAside 1 = .ok (.iconst 0, 1) := by decide +kernel
theorem dX0_allAside_2 : decode cX0_allAside 2 = .ok (.invokevirtual 83, 3) := by decide +kernel
theorem dX0_allAside_5 : decode cX0_allAside 5 = .ok (.ireturn, 1) := by decide +kernel
set_option maxRecDepth 20000 in
theorem ggX0_allAloft_X0_weighsAt : GoodIn wsX0_allAloft wsX0_weighsAt := goodIn_r _ [10, 1, 11, 12, 13, 14, 15, 9, 16, 17, 18, 19, 20, 21, 22, 23, 24, 25, 26, 27, 28, 33, 34, 35, 36, 37, 38] rfl (by decide +kernel)
set_option maxRecDepth 20000 in
theorem gX0_allAloft_X0_weighsAt : GoodIn wsX0_allAloft (wsV RX0 70 RX0 yX0_weighsAt wsX0_weighsAt) := goodIn_app (goodIn_of _ (by decide +kernel)) ggX0_allAloft_X0_weighsAt
theorem dX0_allAloft_0 : decode cX0_allAloft 0 = .ok (.iconst 0, 1) := by decide +kernel
theorem dX0_allAloft_1 : decode cX0_allAloft 1 = .ok (.istore_n 1, 1) := by decide +kernel
theorem dX0_allAloft_2 : decode cX0_allAloft 2 = .ok (.iconst 0, 1) := by decide +kernel
theorem dX0_allAloft_3 : decode cX0_allAloft 3 = .ok (.istore_n 2, 1) := by decide +kernel
theorem dX0_allAloft_4 : decode cX0_allAloft 4 = .ok (.iload_n 2, 1) := by decide +kernel
theorem dX0_allAloft_5 : decode cX0_allAloft 5 = .ok (.aload_n 0, 1) := by decide +kernel
theorem dX0_allAloft_6 : decode cX0_allAloft 6 = .ok (.getfield 21, 3) := by decide +kernel
theorem dX0_allAloft_9 : decode cX0_allAloft 9 = .ok (.getfield 36, 3) := by decide +kernel
theorem dX0_allAloft_12 : decode cX0_allAloft 12 = .ok (.if_icmp .ge 27, 3) := by decide +kernel
theorem dX0_allAloft_15 : decode cX0_allAloft 15 = .ok (.iload_n 1, 1) := by decide +kernel
theorem dX0_allAloft_16 : decode cX0_allAloft 16 = .ok (.aload_n 0, 1) := by decide +kernel
theorem dX0_allAloft_17 : decode cX0_allAloft 17 = .ok (.iload_n 2, 1) := by decide +kernel
theorem dX0_allAloft_18 : decode cX0_allAloft 18 = .ok (.invokevirtual 70, 3) := by decide +kernel
theorem dX0_allAloft_21 : decode cX0_allAloft 21 = .ok (.aload_n 0, 1) := by decide +kernel
theorem dX0_allAloft_22 : decode cX0_allAloft 22 = .ok (.getfield 21, 3) := by decide +kernel
theorem dX0_allAloft_25 : decode cX0_allAloft 25 = .ok (.getfield 86, 3) := by decide +kernel
theorem dX0_allAloft_28 : decode cX0_allAloft 28 = .ok (.iload_n 2, 1) := by decide +kernel
theorem dX0_allAloft_29 : decode cX0_allAloft 29 = .ok (.iaload, 1) := by decide +kernel
theorem dX0_allAloft_30 : decode cX0_allAloft 30 = .ok (.imul, 1) := by decide +kernel
theorem dX0_allAloft_31 : decode cX0_allAloft 31 = .ok (.iadd, 1) := by decide +kernel
theorem dX0_allAloft_32 : decode cX0_allAloft 32 = .ok (.istore_n 1, 1) := by decide +kernel
theorem dX0_allAloft_33 : decode cX0_allAloft 33 = .ok (.iinc 2 1, 3) := by decide +kernel
theorem dX0_allAloft_36 : decode cX0_allAloft 36 = .ok (.goto (-32), 3) := by decide +kernel
theorem dX0_allAloft_39 : decode cX0_allAloft 39 = .ok (.iconst 0, 1) := by decide +kernel
theorem dX0_allAloft_40 : decode cX0_allAloft 40 = .ok (.istore_n 2, 1) := by decide +kernel
theorem dX0_allAloft_41 : decode cX0_allAloft 41 = .ok (.iload_n 2, 1) := by decide +kernel
theorem dX0_allAloft_42 : decode cX0_allAloft 42 = .ok (.iconst 4, 1) := by decide +kernel
theorem dX0_allAloft_43 : decode cX0_allAloft 43 = .ok (.if_icmp .ge 23, 3) := by decide +kernel
theorem dX0_allAloft_46 : decode cX0_allAloft 46 = .ok (.iload_n 1, 1) := by decide +kernel
theorem dX0_allAloft_47 : decode cX0_allAloft 47 = .ok (.aload_n 0, 1) := by decide +kernel
theorem dX0_allAloft_48 : decode cX0_allAloft 48 = .ok (.getfield 28, 3) := by decide +kernel
theorem dX0_allAloft_51 : decode cX0_allAloft 51 = .ok (.getfield 73, 3) := by decide +kernel
theorem dX0_allAloft_54 : decode cX0_allAloft 54 = .ok (.iload_n 2, 1) := by decide +kernel
theorem dX0_allAloft_55 : decode cX0_allAloft 55 = .ok (.iaload, 1) := by decide +kernel
theorem dX0_allAloft_56 : decode cX0_allAloft 56 = .ok (.iconst 2, 1) := by decide +kernel
theorem dX0_allAloft_57 : decode cX0_allAloft 57 = .ok (.imul, 1) := by decide +kernel
theorem dX0_allAloft_58 : decode cX0_allAloft 58 = .ok (.iadd, 1) := by decide +kernel
theorem dX0_allAloft_59 : decode cX0_allAloft 59 = .ok (.istore_n 1, 1) := by decide +kernel
theorem dX0_allAloft_60 : decode cX0_allAloft 60 = .ok (.iinc 2 1, 3) := by decide +kernel
theorem dX0_allAloft_63 : decode cX0_allAloft 63 = .ok (.goto (-22), 3) := by decide +kernel
theorem dX0_allAloft_66 : decode cX0_allAloft 66 = .ok (.iload_n 1, 1) := by decide +kernel
theorem dX0_allAloft_67 : decode cX0_allAloft 67 = .ok (.ireturn, 1) := by decide +kernel
set_option maxRecDepth 20000 in
theorem ggX0_asideRolledBy_X11_rollsOf : GoodIn wsX0_asideRolledBy wsX11_rollsOf := goodIn_r _ [7, 8] rfl (by decide +kernel)
set_option maxRecDepth 20000 in
theorem gX0_asideRolledBy_X11_rollsOf_n92 : GoodIn wsX0_asideRolledBy (wsX11_rollsOf) := ggX0_asideRolledBy_X11_rollsOf
set_option maxRecDepth 20000 in
theorem ggX0_asideRolledBy_X11_held : GoodIn wsX0_asideRolledBy wsX11_held := goodIn_r _ [10, 11, 12, 13, 14, 15, 16, 17] rfl (by decide +kernel)
set_option maxRecDepth 20000 in
theorem gX0_asideRolledBy_X11_held_n96 : GoodIn wsX0_asideRolledBy (wsX11_held) := ggX0_asideRolledBy_X11_held
set_option maxRecDepth 20000 in
theorem ggX0_asideRolledBy_X0_weighsAt : GoodIn wsX0_asideRolledBy wsX0_weighsAt := goodIn_r _ [22, 1, 4, 23, 24, 25, 26, 21, 27, 28, 29, 30, 31, 32, 33, 34, 35, 36, 37, 38, 39, 40, 41, 42, 43, 44, 45] rfl (by decide +kernel)
set_option maxRecDepth 20000 in
theorem gX0_asideRolledBy_X0_weighsAt : GoodIn wsX0_asideRolledBy (wsV RX0 70 RX0 yX0_weighsAt wsX0_weighsAt) := goodIn_app (goodIn_of _ (by decide +kernel)) ggX0_asideRolledBy_X0_weighsAt
theorem dX0_asideRolledBy_0 : decode cX0_asideRolledBy 0 = .ok (.iconst 0, 1) := by decide +kernel
theorem dX0_asideRolledBy_1 : decode cX0_asideRolledBy 1 = .ok (.istore_n 2, 1) := by decide +kernel
theorem dX0_asideRolledBy_2 : decode cX0_asideRolledBy 2 = .ok (.iconst 0, 1) := by decide +kernel
theorem dX0_asideRolledBy_3 : decode cX0_asideRolledBy 3 = .ok (.istore_n 3, 1) := by decide +kernel
theorem dX0_asideRolledBy_4 : decode cX0_asideRolledBy 4 = .ok (.iload_n 3, 1) := by decide +kernel
theorem dX0_asideRolledBy_5 : decode cX0_asideRolledBy 5 = .ok (.aload_n 0, 1) := by decide +kernel
theorem dX0_asideRolledBy_6 : decode cX0_asideRolledBy 6 = .ok (.getfield 21, 3) := by decide +kernel
theorem dX0_asideRolledBy_9 : decode cX0_asideRolledBy 9 = .ok (.getfield 36, 3) := by decide +kernel
theorem dX0_asideRolledBy_12 : decode cX0_asideRolledBy 12 = .ok (.if_icmp .ge 52, 3) := by decide +kernel
theorem dX0_asideRolledBy_15 : decode cX0_asideRolledBy 15 = .ok (.aload_n 0, 1) := by decide +kernel
theorem dX0_asideRolledBy_16 : decode cX0_asideRolledBy 16 = .ok (.getfield 21, 3) := by decide +kernel
theorem dX0_asideRolledBy_19 : decode cX0_asideRolledBy 19 = .ok (.getfield 89, 3) := by decide +kernel
theorem dX0_asideRolledBy_22 : decode cX0_asideRolledBy 22 = .ok (.iload_n 3, 1) := by decide +kernel
theorem dX0_asideRolledBy_23 : decode cX0_asideRolledBy 23 = .ok (.iaload, 1) := by decide +kernel
theorem dX0_asideRolledBy_24 : decode cX0_asideRolledBy 24 = .ok (.aload_n 0, 1) := by decide +kernel
theorem dX0_asideRolledBy_25 : decode cX0_asideRolledBy 25 = .ok (.getfield 21, 3) := by decide +kernel
theorem dX0_asideRolledBy_28 : decode cX0_asideRolledBy 28 = .ok (.getfield 53, 3) := by decide +kernel
theorem dX0_asideRolledBy_31 : decode cX0_asideRolledBy 31 = .ok (.iload_n 3, 1) := by decide +kernel
theorem dX0_asideRolledBy_32 : decode cX0_asideRolledBy 32 = .ok (.iaload, 1) := by decide +kernel
theorem dX0_asideRolledBy_33 : decode cX0_asideRolledBy 33 = .ok (.iload_n 1, 1) := by decide +kernel
theorem dX0_asideRolledBy_34 : decode cX0_asideRolledBy 34 = .ok (.invokestatic 92, 3) := by decide +kernel
theorem dX0_asideRolledBy_37 : decode cX0_asideRolledBy 37 = .ok (.iadd, 1) := by decide +kernel
theorem dX0_asideRolledBy_38 : decode cX0_asideRolledBy 38 = .ok (.bipush (-20), 2) := by decide +kernel
theorem dX0_asideRolledBy_40 : decode cX0_asideRolledBy 40 = .ok (.bipush 20, 2) := by decide +kernel
theorem dX0_asideRolledBy_42 : decode cX0_asideRolledBy 42 = .ok (.invokestatic 96, 3) := by decide +kernel
theorem dX0_asideRolledBy_45 : decode cX0_asideRolledBy 45 = .ok (.istore 4, 2) := by decide +kernel
theorem dX0_asideRolledBy_47 : decode cX0_asideRolledBy 47 = .ok (.iload_n 2, 1) := by decide +kernel
theorem dX0_asideRolledBy_48 : decode cX0_asideRolledBy 48 = .ok (.aload_n 0, 1) := by decide +kernel
theorem dX0_asideRolledBy_49 : decode cX0_asideRolledBy 49 = .ok (.iload_n 3, 1) := by decide +kernel
theorem dX0_asideRolledBy_50 : decode cX0_asideRolledBy 50 = .ok (.invokevirtual 70, 3) := by decide +kernel
theorem dX0_asideRolledBy_53 : decode cX0_asideRolledBy 53 = .ok (.iload 4, 2) := by decide +kernel
theorem dX0_asideRolledBy_55 : decode cX0_asideRolledBy 55 = .ok (.imul, 1) := by decide +kernel
theorem dX0_asideRolledBy_56 : decode cX0_asideRolledBy 56 = .ok (.iadd, 1) := by decide +kernel
theorem dX0_asideRolledBy_57 : decode cX0_asideRolledBy 57 = .ok (.istore_n 2, 1) := by decide +kernel
theorem dX0_asideRolledBy_58 : decode cX0_asideRolledBy 58 = .ok (.iinc 3 1, 3) := by decide +kernel
theorem dX0_asideRolledBy_61 : decode cX0_asideRolledBy 61 = .ok (.goto (-57), 3) := by decide +kernel
theorem dX0_asideRolledBy_64 : decode cX0_asideRolledBy 64 = .ok (.iload_n 2, 1) := by decide +kernel
theorem dX0_asideRolledBy_65 : decode cX0_asideRolledBy 65 = .ok (.ireturn, 1) := by decide +kernel
set_option maxRecDepth 20000 in
theorem ggX0_allRighting_X0_allWeight : GoodIn wsX0_allRighting wsX0_allWeight := goodIn_r _ [10, 1, 11, 12, 13, 5, 14, 15, 16, 17, 9, 18, 19, 20, 21, 22, 23, 24, 25, 79, 80, 81, 82, 83, 84, 85, 86, 87, 88, 89, 90, 91, 92, 93, 94, 95, 96, 97, 98] rfl (by decide +kernel)
set_option maxRecDepth 20000 in
theorem gX0_allRighting_X0_allWeight : GoodIn wsX0_allRighting (wsV RX0 100 RX0 yX0_allWeight wsX0_allWeight) := goodIn_app (goodIn_of _ (by decide +kernel)) ggX0_allRighting_X0_allWeight
set_option maxRecDepth 20000 in
theorem ggX0_allRighting_X2_startOf : GoodIn wsX0_allRighting wsX2_startOf := goodIn_r _ [30, 31, 32, 33, 34, 35, 36, 37, 38, 29, 39, 40, 41, 42, 43, 44, 45, 46, 47, 48, 49, 50, 51, 52, 53, 54, 55, 56, 57, 82, 83, 84, 85, 86, 87] rfl (by decide +kernel)
set_option maxRecDepth 20000 in
theorem gX0_allRighting_X2_startOf : GoodIn wsX0_allRighting (wsV RX0 104 RX2 yX2_startOf wsX2_startOf) := goodIn_app (goodIn_of _ (by decide +kernel)) ggX0_allRighting_X2_startOf
set_option maxRecDepth 20000 in
theorem ggX0_allRighting_X2_waterAt : GoodIn wsX0_allRighting wsX2_waterAt := goodIn_r _ [52, 53, 54, 34, 55, 56, 57, 36, 37, 38, 29, 39, 40, 82, 83, 84, 85, 86, 87] rfl (by decide +kernel)
set_option maxRecDepth 20000 in
theorem gX0_allRighting_X2_waterAt : GoodIn wsX0_allRighting (wsV RX0 108 RX2 yX2_waterAt wsX2_waterAt) := goodIn_app (goodIn_of _ (by decide +kernel)) ggX0_allRighting_X2_waterAt
set_option maxRecDepth 20000 in
theorem ggX0_allRighting_X11_cubeByTwelve : GoodIn wsX0_allRighting wsX11_cubeByTwelve := goodIn_r _ [61] rfl (by decide +kernel)
set_option maxRecDepth 20000 in
theorem gX0_allRighting_X11_cubeByTwelve_n114 : GoodIn wsX0_allRighting (wsX11_cubeByTwelve) := ggX0_allRighting_X11_cubeByTwelve
set_option maxRecDepth 20000 in
theorem ggX0_allRighting_X8_lostRighting : GoodIn wsX0_allRighting wsX8_lostRighting := goodIn_r _ [66, 67, 68, 69, 70, 65, 71, 72, 73, 59, 60, 61, 95, 96, 97, 98] rfl (by decide +kernel)
set_option maxRecDepth 20000 in
theorem gX0_allRighting_X8_lostRighting : GoodIn wsX0_allRighting (wsV RX0 117 RX8 yX8_lostRighting wsX8_lostRighting) := goodIn_app (goodIn_of _ (by decide +kernel)) ggX0_allRighting_X8_lostRighting
set_option maxRecDepth 20000 in
theorem ggX0_allRighting_X0_allAloft : GoodIn wsX0_allRighting wsX0_allAloft := goodIn_r _ [77, 12, 13, 78, 5, 14, 15, 16, 17, 9, 18, 19, 20, 21, 22, 23, 24, 1, 25, 79, 80, 81, 88, 89, 90, 91, 92, 93, 94, 95, 96, 97, 98, 82, 83, 84, 85, 86, 87] rfl (by decide +kernel)
set_option maxRecDepth 20000 in
theorem gX0_allRighting_X0_allAloft : GoodIn wsX0_allRighting (wsV RX0 120 RX0 yX0_allAloft wsX0_allAloft) := goodIn_app (goodIn_of _ (by decide +kernel)) ggX0_allRighting_X0_allAloft
theorem dX0_allRighting_0 : decode cX0_allRighting 0 = .ok (.aload_n 0, 1) := by decide +kernel
theorem dX0_allRighting_1 : decode cX0_allRighting 1 = .ok (.getfield 12, 3) := by decide +kernel
theorem dX0_allRighting_4 : decode cX0_allRighting 4 = .ok (.iconst 0, 1) := by decide +kernel
theorem dX0_allRighting_5 : decode cX0_allRighting 5 = .ok (.aload_n 0, 1) := by decide +kernel
theorem dX0_allRighting_6 : decode cX0_allRighting 6 = .ok (.invokevirtual 100, 3) := by decide +kernel
theorem dX0_allRighting_9 : decode cX0_allRighting 9 = .ok (.invokevirtual 104, 3) := by decide +kernel
theorem dX0_allRighting_12 : decode cX0_allRighting 12 = .ok (.istore_n 1, 1) := by decide +kernel
theorem dX0_allRighting_13 : decode cX0_allRighting 13 = .ok (.iload_n 1, 1) := by decide +kernel
theorem dX0_allRighting_14 : decode cX0_allRighting 14 = .ok (.bipush (-2), 2) := by decide +kernel
theorem dX0_allRighting_16 : decode cX0_allRighting 16 = .ok (.if_icmp .ne 6, 3) := by decide +kernel
theorem dX0_allRighting_19 : decode cX0_allRighting 19 = .ok (.ldc 107, 2) := by decide +kernel
theorem dX0_allRighting_21 : decode cX0_allRighting 21 = .ok (.ireturn, 1) := by decide +kernel
theorem dX0_allRighting_22 : decode cX0_allRighting 22 = .ok (.iconst 0, 1) := by decide +kernel
theorem dX0_allRighting_23 : decode cX0_allRighting 23 = .ok (.istore_n 2, 1) := by decide +kernel
theorem dX0_allRighting_24 : decode cX0_allRighting 24 = .ok (.iconst 0, 1) := by decide +kernel
theorem dX0_allRighting_25 : decode cX0_allRighting 25 = .ok (.istore_n 3, 1) := by decide +kernel
theorem dX0_allRighting_26 : decode cX0_allRighting 26 = .ok (.iload_n 3, 1) := by decide +kernel
theorem dX0_allRighting_27 : decode cX0_allRighting 27 = .ok (.aload_n 0, 1) := by decide +kernel
theorem dX0_allRighting_28 : decode cX0_allRighting 28 = .ok (.getfield 12, 3) := by decide +kernel
theorem dX0_allRighting_31 : decode cX0_allRighting 31 = .ok (.getfield 76, 3) := by decide +kernel
theorem dX0_allRighting_34 : decode cX0_allRighting 34 = .ok (.if_icmp .ge 36, 3) := by decide +kernel
theorem dX0_allRighting_37 : decode cX0_allRighting 37 = .ok (.aload_n 0, 1) := by decide +kernel
theorem dX0_allRighting_38 : decode cX0_allRighting 38 = .ok (.getfield 12, 3) := by decide +kernel
theorem dX0_allRighting_41 : decode cX0_allRighting 41 = .ok (.iload_n 3, 1) := by decide +kernel
theorem dX0_allRighting_42 : decode cX0_allRighting 42 = .ok (.iload_n 1, 1) := by decide +kernel
theorem dX0_allRighting_43 : decode cX0_allRighting 43 = .ok (.invokevirtual 108, 3) := by decide +kernel
theorem dX0_allRighting_46 : decode cX0_allRighting 46 = .ok (.ifCond .le 18, 3) := by decide +kernel
theorem dX0_allRighting_49 : decode cX0_allRighting 49 = .ok (.iload_n 2, 1) := by decide +kernel
theorem dX0_allRighting_50 : decode cX0_allRighting 50 = .ok (.aload_n 0, 1) := by decide +kernel
theorem dX0_allRighting_51 : decode cX0_allRighting 51 = .ok (.getfield 12, 3) := by decide +kernel
theorem dX0_allRighting_54 : decode cX0_allRighting 54 = .ok (.getfield 111, 3) := by decide +kernel
theorem dX0_allRighting_57 : decode cX0_allRighting 57 = .ok (.iload_n 3, 1) := by decide +kernel
theorem dX0_allRighting_58 : decode cX0_allRighting 58 = .ok (.iaload, 1) := by decide +kernel
theorem dX0_allRighting_59 : decode cX0_allRighting 59 = .ok (.invokestatic 114, 3) := by decide +kernel
theorem dX0_allRighting_62 : decode cX0_allRighting 62 = .ok (.iadd, 1) := by decide +kernel
theorem dX0_allRighting_63 : decode cX0_allRighting 63 = .ok (.istore_n 2, 1) := by decide +kernel
theorem dX0_allRighting_64 : decode cX0_allRighting 64 = .ok (.iinc 3 1, 3) := by decide +kernel
theorem dX0_allRighting_67 : decode cX0_allRighting 67 = .ok (.goto (-41), 3) := by decide +kernel
theorem dX0_allRighting_70 : decode cX0_allRighting 70 = .ok (.iload_n 2, 1) := by decide +kernel
theorem dX0_allRighting_71 : decode cX0_allRighting 71 = .ok (.aload_n 0, 1) := by decide +kernel
theorem dX0_allRighting_72 : decode cX0_allRighting 72 = .ok (.getfield 28, 3) := by decide +kernel
theorem dX0_allRighting_75 : decode cX0_allRighting 75 = .ok (.invokevirtual 117, 3) := by decide +kernel
theorem dX0_allRighting_78 : decode cX0_allRighting 78 = .ok (.isub, 1) := by decide +kernel
theorem dX0_allRighting_79 : decode cX0_allRighting 79 = .ok (.aload_n 0, 1) := by decide +kernel
theorem dX0_allRighting_80 : decode cX0_allRighting 80 = .ok (.invokevirtual 120, 3) := by decide +kernel
theorem dX0_allRighting_83 : decode cX0_allRighting 83 = .ok (.bipush 16, 2) := by decide +kernel
theorem dX0_allRighting_85 : decode cX0_allRighting 85 = .ok (.idiv, 1) := by decide +kernel
theorem dX0_allRighting_86 : decode cX0_allRighting 86 = .ok (.isub, 1) := by decide +kernel
theorem dX0_allRighting_87 : decode cX0_allRighting 87 = .ok (.ireturn, 1) := by decide +kernel
set_option maxRecDepth 20000 in
theorem ggX0_heelRolledBy_X0_asideRolledBy : GoodIn wsX0_heelRolledBy wsX0_asideRolledBy := goodIn_r _ [6, 7, 8, 9, 10, 11, 12, 13, 14, 15, 16, 17, 18, 19, 20, 21, 22, 23, 24, 25, 26, 5, 27, 28, 29, 30, 31, 32, 33, 34, 35, 36, 37, 38, 39, 40, 41, 42, 43, 44, 45, 46, 47, 48, 49, 50] rfl (by decide +kernel)
set_option maxRecDepth 20000 in
theorem gX0_heelRolledBy_X0_asideRolledBy : GoodIn wsX0_heelRolledBy (wsV RX0 83 RX0 yX0_asideRolledBy wsX0_asideRolledBy) := goodIn_app (goodIn_of _ (by decide +kernel)) ggX0_heelRolledBy_X0_asideRolledBy
theorem dX0_heelRolledBy_0 : decode cX0_heelRolledBy 0 = .ok (.iload_n 2, 1) := by decide +kernel
theorem dX0_heelRolledBy_1 : decode cX0_heelRolledBy 1 = .ok (.ifCond .le 16, 3) := by decide +kernel
theorem dX0_heelRolledBy_4 : decode cX0_heelRolledBy 4 = .ok (.bipush 64, 2) := by decide +kernel
theorem dX0_heelRolledBy_6 : decode cX0_heelRolledBy 6 = .ok (.aload_n 0, 1) := by decide +kernel
theorem dX0_heelRolledBy_7 : decode cX0_heelRolledBy 7 = .ok (.iload_n 1, 1) := by decide +kernel
theorem dX0_heelRolledBy_8 : decode cX0_heelRolledBy 8 = .ok (.invokevirtual 83, 3) := by decide +kernel
theorem dX0_heelRolledBy_11 : decode cX0_heelRolledBy 11 = .ok (.imul, 1) := by decide +kernel
theorem dX0_heelRolledBy_12 : decode cX0_heelRolledBy 12 = .ok (.iload_n 2, 1) := by decide +kernel
theorem dX0_heelRolledBy_13 : decode cX0_heelRolledBy 13 = .ok (.idiv, 1) := by decide +kernel
theorem dX0_heelRolledBy_14 : decode cX0_heelRolledBy 14 = .ok (.goto 5, 3) := by decide +kernel
theorem dX0_heelRolledBy_17 : decode cX0_heelRolledBy 17 = .ok (.ldc 107, 2) := by decide +kernel
theorem dX0_heelRolledBy_19 : decode cX0_heelRolledBy 19 = .ok (.ireturn, 1) := by decide +kernel
set_option maxRecDepth 20000 in
theorem ggX0_heelBehind_X0_allRighting : GoodIn wsX0_heelBehind wsX0_allRighting := goodIn_r _ [6, 7, 1, 8, 9, 10, 11, 12, 13, 5, 14, 15, 16, 17, 18, 19, 20, 21, 22, 23, 24, 25, 26, 27, 28, 29, 30, 31, 32, 33, 34, 35, 36, 37, 38, 39, 40, 41, 42, 43, 44, 45, 46, 47, 48, 49, 50, 51, 52, 53, 54, 55, 56, 57, 58, 59, 60, 61, 62, 63, 64, 65, 66, 67, 68, 69, 70, 71, 72, 73, 74, 75, 76, 77, 78, 79, 80, 81, 82, 101, 102, 103, 104, 105, 106, 107, 108, 109, 110, 111, 112, 113, 114, 115, 116, 117, 118, 119, 120] rfl (by decide +kernel)
set_option maxRecDepth 20000 in
theorem gX0_heelBehind_X0_allRighting : GoodIn wsX0_heelBehind (wsV RX0 123 RX0 yX0_allRighting wsX0_allRighting) := goodIn_app (goodIn_of _ (by decide +kernel)) ggX0_heelBehind_X0_allRighting
set_option maxRecDepth 20000 in
theorem ggX0_heelBehind_X0_heelRolledBy : GoodIn wsX0_heelBehind wsX0_heelRolledBy := goodIn_r _ [86, 1, 87, 88, 89, 5, 90, 16, 17, 91, 23, 92, 64, 93, 94, 95, 96, 97, 58, 38, 59, 98, 99, 100, 19, 20, 21, 22, 24, 25, 26, 27, 28, 7, 29, 101, 102, 103, 110, 111, 112, 113, 114, 115, 116, 104, 105, 106, 107, 108, 109] rfl (by decide +kernel)
set_option maxRecDepth 20000 in
theorem gX0_heelBehind_X0_heelRolledBy : GoodIn wsX0_heelBehind (wsV RX0 126 RX0 yX0_heelRolledBy wsX0_heelRolledBy) := goodIn_app (goodIn_of _ (by decide +kernel)) ggX0_heelBehind_X0_heelRolledBy
theorem dX0_heelBehind_0 : decode cX0_heelBehind 0 = .ok (.aload_n 0, 1) := by decide +kernel
theorem dX0_heelBehind_1 : decode cX0_heelBehind 1 = .ok (.invokevirtual 123, 3) := by decide +kernel
theorem dX0_heelBehind_4 : decode cX0_heelBehind 4 = .ok (.istore_n 2, 1) := by decide +kernel
theorem dX0_heelBehind_5 : decode cX0_heelBehind 5 = .ok (.iload_n 2, 1) := by decide +kernel
theorem dX0_heelBehind_6 : decode cX0_heelBehind 6 = .ok (.ifCond .gt 6, 3) := by decide +kernel
theorem dX0_heelBehind_9 : decode cX0_heelBehind 9 = .ok (.ldc 107, 2) := by decide +kernel
theorem dX0_heelBehind_11 : decode cX0_heelBehind 11 = .ok (.ireturn, 1) := by decide +kernel
theorem dX0_heelBehind_12 : decode cX0_heelBehind 12 = .ok (.aload_n 0, 1) := by decide +kernel
theorem dX0_heelBehind_13 : decode cX0_heelBehind 13 = .ok (.iconst 0, 1) := by decide +kernel
theorem dX0_heelBehind_14 : decode cX0_heelBehind 14 = .ok (.iload_n 2, 1) := by decide +kernel
theorem dX0_heelBehind_15 : decode cX0_heelBehind 15 = .ok (.invokevirtual 126, 3) := by decide +kernel
theorem dX0_heelBehind_18 : decode cX0_heelBehind 18 = .ok (.istore_n 3, 1) := by decide +kernel
theorem dX0_heelBehind_19 : decode cX0_heelBehind 19 = .ok (.iconst 0, 1) := by decide +kernel
theorem dX0_heelBehind_20 : decode cX0_heelBehind 20 = .ok (.istore 4, 2) := by decide +kernel
theorem dX0_heelBehind_22 : decode cX0_heelBehind 22 = .ok (.iload 4, 2) := by decide +kernel
theorem dX0_heelBehind_24 : decode cX0_heelBehind 24 = .ok (.iload_n 1, 1) := by decide +kernel
theorem dX0_heelBehind_25 : decode cX0_heelBehind 25 = .ok (.if_icmp .ge 16, 3) := by decide +kernel
theorem dX0_heelBehind_28 : decode cX0_heelBehind 28 = .ok (.aload_n 0, 1) := by decide +kernel
theorem dX0_heelBehind_29 : decode cX0_heelBehind 29 = .ok (.iload_n 3, 1) := by decide +kernel
theorem dX0_heelBehind_30 : decode cX0_heelBehind 30 = .ok (.iload_n 2, 1) := by decide +kernel
theorem dX0_heelBehind_31 : decode cX0_heelBehind 31 = .ok (.invokevirtual 126, 3) := by decide +kernel
theorem dX0_heelBehind_34 : decode cX0_heelBehind 34 = .ok (.istore_n 3, 1) := by decide +kernel
theorem dX0_heelBehind_35 : decode cX0_heelBehind 35 = .ok (.iinc 4 1, 3) := by decide +kernel
theorem dX0_heelBehind_38 : decode cX0_heelBehind 38 = .ok (.goto (-16), 3) := by decide +kernel
theorem dX0_heelBehind_41 : decode cX0_heelBehind 41 = .ok (.iload_n 3, 1) := by decide +kernel
theorem dX0_heelBehind_42 : decode cX0_heelBehind 42 = .ok (.ireturn, 1) := by decide +kernel
set_option maxRecDepth 20000 in
theorem ggX0_roundsTillSteady_X0_allRighting : GoodIn wsX0_roundsTillSteady wsX0_allRighting := goodIn_r _ [5, 6, 7, 8, 9, 10, 11, 12, 13, 4, 14, 15, 16, 17, 18, 19, 20, 21, 22, 23, 24, 25, 26, 27, 28, 29, 30, 31, 32, 33, 34, 35, 36, 37, 38, 39, 40, 41, 42, 43, 44, 45, 46, 47, 48, 49, 50, 51, 52, 53, 54, 55, 56, 57, 58, 59, 60, 61, 62, 63, 64, 65, 66, 67, 68, 69, 70, 71, 72, 73, 74, 75, 76, 77, 78, 79, 80, 81, 82, 101, 102, 103, 104, 105, 106, 107, 108, 109, 110, 111, 112, 113, 114, 115, 116, 117, 118, 119, 120] rfl (by decide +kernel)
set_option maxRecDepth 20000 in
theorem gX0_roundsTillSteady_X0_allRighting : GoodIn wsX0_roundsTillSteady (wsV RX0 123 RX0 yX0_allRighting wsX0_allRighting) := goodIn_app (goodIn_of _ (by decide +kernel)) ggX0_roundsTillSteady_X0_allRighting
set_option maxRecDepth 20000 in
theorem ggX0_roundsTillSteady_X0_heelRolledBy : GoodIn wsX0_roundsTillSteady wsX0_heelRolledBy := goodIn_r _ [86, 7, 87, 88, 89, 4, 90, 16, 17, 91, 23, 92, 64, 93, 94, 95, 96, 97, 58, 38, 59, 98, 99, 100, 19, 20, 21, 22, 24, 25, 26, 27, 28, 6, 29, 101, 102, 103, 110, 111, 112, 113, 114, 115, 116, 104, 105, 106, 107, 108, 109] rfl (by decide +kernel)
set_option maxRecDepth 20000 in
theorem gX0_roundsTillSteady_X0_heelRolledBy : GoodIn wsX0_roundsTillSteady (wsV RX0 126 RX0 yX0_heelRolledBy wsX0_heelRolledBy) := goodIn_app (goodIn_of _ (by decide +kernel)) ggX0_roundsTillSteady_X0_heelRolledBy
theorem dX0_roundsTillSteady_0 : decode cX0_roundsTillSteady 0 = .ok (.aload_n 0, 1) := by decide +kernel
theorem dX0_roundsTillSteady_1 : decode cX0_roundsTillSteady 1 = .ok (.invokevirtual 123, 3) := by decide +kernel
theorem dX0_roundsTillSteady_4 : decode cX0_roundsTillSteady 4 = .ok (.istore_n 1, 1) := by decide +kernel
theorem dX0_roundsTillSteady_5 : decode cX0_roundsTillSteady 5 = .ok (.iload_n 1, 1) := by decide +kernel
theorem dX0_roundsTillSteady_6 : decode cX0_roundsTillSteady 6 = .ok (.ifCond .gt 6, 3) := by decide +kernel
theorem dX0_roundsTillSteady_9 : decode cX0_roundsTillSteady 9 = .ok (.bipush (-2), 2) := by decide +kernel
theorem dX0_roundsTillSteady_11 : decode cX0_roundsTillSteady 11 = .ok (.ireturn, 1) := by decide +kernel
theorem dX0_roundsTillSteady_12 : decode cX0_roundsTillSteady 12 = .ok (.aload_n 0, 1) := by decide +kernel
theorem dX0_roundsTillSteady_13 : decode cX0_roundsTillSteady 13 = .ok (.iconst 0, 1) := by decide +kernel
theorem dX0_roundsTillSteady_14 : decode cX0_roundsTillSteady 14 = .ok (.iload_n 1, 1) := by decide +kernel
theorem dX0_roundsTillSteady_15 : decode cX0_roundsTillSteady 15 = .ok (.invokevirtual 126, 3) := by decide +kernel
theorem dX0_roundsTillSteady_18 : decode cX0_roundsTillSteady 18 = .ok (.istore_n 2, 1) := by decide +kernel
theorem dX0_roundsTillSteady_19 : decode cX0_roundsTillSteady 19 = .ok (.iconst 0, 1) := by decide +kernel
theorem dX0_roundsTillSteady_20 : decode cX0_roundsTillSteady 20 = .ok (.istore_n 3, 1) := by decide +kernel
theorem dX0_roundsTillSteady_21 : decode cX0_roundsTillSteady 21 = .ok (.iload_n 3, 1) := by decide +kernel
theorem dX0_roundsTillSteady_22 : decode cX0_roundsTillSteady 22 = .ok (.bipush 20, 2) := by decide +kernel
theorem dX0_roundsTillSteady_24 : decode cX0_roundsTillSteady 24 = .ok (.if_icmp .gt 28, 3) := by decide +kernel
theorem dX0_roundsTillSteady_27 : decode cX0_roundsTillSteady 27 = .ok (.aload_n 0, 1) := by decide +kernel
theorem dX0_roundsTillSteady_28 : decode cX0_roundsTillSteady 28 = .ok (.iload_n 2, 1) := by decide +kernel
theorem dX0_roundsTillSteady_29 : decode cX0_roundsTillSteady 29 = .ok (.iload_n 1, 1) := by decide +kernel
theorem dX0_roundsTillSteady_30 : decode cX0_roundsTillSteady 30 = .ok (.invokevirtual 126, 3) := by decide +kernel
theorem dX0_roundsTillSteady_33 : decode cX0_roundsTillSteady 33 = .ok (.istore 4, 2) := by decide +kernel
theorem dX0_roundsTillSteady_35 : decode cX0_roundsTillSteady 35 = .ok (.iload 4, 2) := by decide +kernel
theorem dX0_roundsTillSteady_37 : decode cX0_roundsTillSteady 37 = .ok (.iload_n 2, 1) := by decide +kernel
theorem dX0_roundsTillSteady_38 : decode cX0_roundsTillSteady 38 = .ok (.if_icmp .ne 5, 3) := by decide +kernel
theorem dX0_roundsTillSteady_41 : decode cX0_roundsTillSteady 41 = .ok (.iload_n 3, 1) := by decide +kernel
theorem dX0_roundsTillSteady_42 : decode cX0_roundsTillSteady 42 = .ok (.ireturn, 1) := by decide +kernel
theorem dX0_roundsTillSteady_43 : decode cX0_roundsTillSteady 43 = .ok (.iload 4, 2) := by decide +kernel
theorem dX0_roundsTillSteady_45 : decode cX0_roundsTillSteady 45 = .ok (.istore_n 2, 1) := by decide +kernel
theorem dX0_roundsTillSteady_46 : decode cX0_roundsTillSteady 46 = .ok (.iinc 3 1, 3) := by decide +kernel
theorem dX0_roundsTillSteady_49 : decode cX0_roundsTillSteady 49 = .ok (.goto (-28), 3) := by decide +kernel
theorem dX0_roundsTillSteady_52 : decode cX0_roundsTillSteady 52 = .ok (.bipush (-2), 2) := by decide +kernel
theorem dX0_roundsTillSteady_54 : decode cX0_roundsTillSteady 54 = .ok (.ireturn, 1) := by decide +kernel
set_option maxRecDepth 20000 in
theorem ggX0_offOf_X0_allWeight : GoodIn wsX0_offOf wsX0_allWeight := goodIn_r _ [7, 1, 8, 9, 10, 11, 12, 13, 14, 15, 6, 16, 17, 18, 19, 20, 21, 22, 23, 67, 68, 69, 70, 71, 72, 73, 74, 75, 76, 77, 78, 79, 80, 81, 82, 83, 84, 85, 86] rfl (by decide +kernel)
set_option maxRecDepth 20000 in
theorem gX0_offOf_X0_allWeight : GoodIn wsX0_offOf (wsV RX0 100 RX0 yX0_allWeight wsX0_allWeight) := goodIn_app (goodIn_of _ (by decide +kernel)) ggX0_offOf_X0_allWeight
set_option maxRecDepth 20000 in
theorem ggX0_offOf_X2_startOf : GoodIn wsX0_offOf wsX2_startOf := goodIn_r _ [28, 29, 30, 31, 32, 33, 34, 35, 36, 27, 37, 38, 39, 40, 41, 42, 43, 44, 45, 46, 47, 48, 49, 50, 51, 52, 53, 54, 55, 70, 71, 72, 73, 74, 75] rfl (by decide +kernel)
set_option maxRecDepth 20000 in
theorem gX0_offOf_X2_startOf : GoodIn wsX0_offOf (wsV RX0 104 RX2 yX2_startOf wsX2_startOf) := goodIn_app (goodIn_of _ (by decide +kernel)) ggX0_offOf_X2_startOf
set_option maxRecDepth 20000 in
theorem ggX0_offOf_X2_pullOfSlope : GoodIn wsX0_offOf wsX2_pullOfSlope := goodIn_r _ [59, 29, 43, 44, 45, 27, 46, 47, 48, 49, 50, 51, 52, 32, 53, 54, 55, 34, 35, 36, 37, 38, 70, 71, 72, 73, 74, 75] rfl (by decide +kernel)
set_option maxRecDepth 20000 in
theorem gX0_offOf_X2_pullOfSlope : GoodIn wsX0_offOf (wsV RX0 129 RX2 yX2_pullOfSlope wsX2_pullOfSlope) := goodIn_app (goodIn_of _ (by decide +kernel)) ggX0_offOf_X2_pullOfSlope
set_option maxRecDepth 20000 in
theorem ggX0_offOf_X0_allAlong : GoodIn wsX0_offOf wsX0_allAlong := goodIn_r _ [63, 1, 8, 64, 9, 10, 65, 11, 12, 66, 13, 14, 15, 6, 16, 17, 18, 19, 20, 21, 22, 23, 67, 68, 69, 70, 71, 72, 73, 74, 75, 76, 77, 78, 79, 80, 81, 82, 83, 84, 85, 86] rfl (by decide +kernel)
set_option maxRecDepth 20000 in
theorem gX0_offOf_X0_allAlong : GoodIn wsX0_offOf (wsV RX0 132 RX0 yX0_allAlong wsX0_allAlong) := goodIn_app (goodIn_of _ (by decide +kernel)) ggX0_offOf_X0_allAlong
theorem dX0_offOf_0 : decode cX0_offOf 0 = .ok (.aload_n 0, 1) := by decide +kernel
theorem dX0_offOf_1 : decode cX0_offOf 1 = .ok (.getfield 12, 3) := by decide +kernel
theorem dX0_offOf_4 : decode cX0_offOf 4 = .ok (.iload_n 1, 1) := by decide +kernel
theorem dX0_offOf_5 : decode cX0_offOf 5 = .ok (.aload_n 0, 1) := by decide +kernel
theorem dX0_offOf_6 : decode cX0_offOf 6 = .ok (.invokevirtual 100, 3) := by decide +kernel
theorem dX0_offOf_9 : decode cX0_offOf 9 = .ok (.invokevirtual 104, 3) := by decide +kernel
theorem dX0_offOf_12 : decode cX0_offOf 12 = .ok (.istore_n 2, 1) := by decide +kernel
theorem dX0_offOf_13 : decode cX0_offOf 13 = .ok (.iload_n 2, 1) := by decide +kernel
theorem dX0_offOf_14 : decode cX0_offOf 14 = .ok (.bipush (-2), 2) := by decide +kernel
theorem dX0_offOf_16 : decode cX0_offOf 16 = .ok (.if_icmp .ne 8, 3) := by decide +kernel
theorem dX0_offOf_19 : decode cX0_offOf 19 = .ok (.ldc 107, 2) := by decide +kernel
theorem dX0_offOf_21 : decode cX0_offOf 21 = .ok (.goto 20, 3) := by decide +kernel
theorem dX0_offOf_24 : decode cX0_offOf 24 = .ok (.aload_n 0, 1) := by decide +kernel
theorem dX0_offOf_25 : decode cX0_offOf 25 = .ok (.getfield 12, 3) := by decide +kernel
theorem dX0_offOf_28 : decode cX0_offOf 28 = .ok (.iload_n 2, 1) := by decide +kernel
theorem dX0_offOf_29 : decode cX0_offOf 29 = .ok (.iload_n 1, 1) := by decide +kernel
theorem dX0_offOf_30 : decode cX0_offOf 30 = .ok (.invokevirtual 129, 3) := by decide +kernel
theorem dX0_offOf_33 : decode cX0_offOf 33 = .ok (.bipush 64, 2) := by decide +kernel
theorem dX0_offOf_35 : decode cX0_offOf 35 = .ok (.aload_n 0, 1) := by decide +kernel
theorem dX0_offOf_36 : decode cX0_offOf 36 = .ok (.invokevirtual 132, 3) := by decide +kernel
theorem dX0_offOf_39 : decode cX0_offOf 39 = .ok (.imul, 1) := by decide +kernel
theorem dX0_offOf_40 : decode cX0_offOf 40 = .ok (.isub, 1) := by decide +kernel
theorem dX0_offOf_41 : decode cX0_offOf 41 = .ok (.ireturn, 1) := by decide +kernel
set_option maxRecDepth 20000 in
theorem ggX0_bestToTurn_X0_allAside : GoodIn wsX0_bestToTurn wsX0_allAside := goodIn_r _ [12, 13, 14, 15, 11, 16, 5, 6, 7, 17, 18, 19, 20, 21, 22, 23, 24, 25, 3, 26, 27, 28, 29, 30, 31, 32, 33, 34, 35, 36, 37, 38, 39, 40, 41, 42, 43, 44, 45, 46, 47, 48, 49, 50, 51, 52, 53, 54, 55, 56] rfl (by decide +kernel)
set_option maxRecDepth 20000 in
theorem gX0_bestToTurn_X0_allAside : GoodIn wsX0_bestToTurn (wsV RX0 135 RX0 yX0_allAside wsX0_allAside) := goodIn_app (goodIn_of _ (by decide +kernel)) ggX0_bestToTurn_X0_allAside
set_option maxRecDepth 20000 in
theorem ggX0_bestToTurn_X0_weighsAt : GoodIn wsX0_bestToTurn wsX0_weighsAt := goodIn_r _ [33, 5, 17, 34, 35, 36, 37, 11, 38, 39, 40, 41, 42, 43, 44, 45, 46, 47, 48, 49, 50, 51, 52, 53, 54, 55, 56] rfl (by decide +kernel)
set_option maxRecDepth 20000 in
theorem gX0_bestToTurn_X0_weighsAt : GoodIn wsX0_bestToTurn (wsV RX0 70 RX0 yX0_weighsAt wsX0_weighsAt) := goodIn_app (goodIn_of _ (by decide +kernel)) ggX0_bestToTurn_X0_weighsAt
theorem dX0_bestToTurn_0 : decode cX0_bestToTurn 0 = .ok (.aload_n 0, 1) := by decide +kernel
theorem dX0_bestToTurn_1 : decode cX0_bestToTurn 1 = .ok (.invokevirtual 135, 3) := by decide +kernel
theorem dX0_bestToTurn_4 : decode cX0_bestToTurn 4 = .ok (.istore_n 1, 1) := by decide +kernel
theorem dX0_bestToTurn_5 : decode cX0_bestToTurn 5 = .ok (.iload_n 1, 1) := by decide +kernel
theorem dX0_bestToTurn_6 : decode cX0_bestToTurn 6 = .ok (.invokestatic 138, 3) := by decide +kernel
theorem dX0_bestToTurn_9 : decode cX0_bestToTurn 9 = .ok (.istore_n 2, 1) := by decide +kernel
theorem dX0_bestToTurn_10 : decode cX0_bestToTurn 10 = .ok (.iconst (-1), 1) := by decide +kernel
theorem dX0_bestToTurn_11 : decode cX0_bestToTurn 11 = .ok (.istore_n 3, 1) := by decide +kernel
theorem dX0_bestToTurn_12 : decode cX0_bestToTurn 12 = .ok (.iconst 0, 1) := by decide +kernel
theorem dX0_bestToTurn_13 : decode cX0_bestToTurn 13 = .ok (.istore 4, 2) := by decide +kernel
theorem dX0_bestToTurn_15 : decode cX0_bestToTurn 15 = .ok (.iload 4, 2) := by decide +kernel
theorem dX0_bestToTurn_17 : decode cX0_bestToTurn 17 = .ok (.aload_n 0, 1) := by decide +kernel
theorem dX0_bestToTurn_18 : decode cX0_bestToTurn 18 = .ok (.getfield 21, 3) := by decide +kernel
theorem dX0_bestToTurn_21 : decode cX0_bestToTurn 21 = .ok (.getfield 36, 3) := by decide +kernel
theorem dX0_bestToTurn_24 : decode cX0_bestToTurn 24 = .ok (.if_icmp .ge 47, 3) := by decide +kernel
theorem dX0_bestToTurn_27 : decode cX0_bestToTurn 27 = .ok (.iload_n 1, 1) := by decide +kernel
theorem dX0_bestToTurn_28 : decode cX0_bestToTurn 28 = .ok (.iconst 2, 1) := by decide +kernel
theorem dX0_bestToTurn_29 : decode cX0_bestToTurn 29 = .ok (.aload_n 0, 1) := by decide +kernel
theorem dX0_bestToTurn_30 : decode cX0_bestToTurn 30 = .ok (.iload 4, 2) := by decide +kernel
theorem dX0_bestToTurn_32 : decode cX0_bestToTurn 32 = .ok (.invokevirtual 70, 3) := by decide +kernel
theorem dX0_bestToTurn_35 : decode cX0_bestToTurn 35 = .ok (.imul, 1) := by decide +kernel
theorem dX0_bestToTurn_36 : decode cX0_bestToTurn 36 = .ok (.aload_n 0, 1) := by decide +kernel
theorem dX0_bestToTurn_37 : decode cX0_bestToTurn 37 = .ok (.getfield 21, 3) := by decide +kernel
theorem dX0_bestToTurn_40 : decode cX0_bestToTurn 40 = .ok (.getfield 89, 3) := by decide +kernel
theorem dX0_bestToTurn_43 : decode cX0_bestToTurn 43 = .ok (.iload 4, 2) := by decide +kernel
theorem dX0_bestToTurn_45 : decode cX0_bestToTurn 45 = .ok (.iaload, 1) := by decide +kernel
theorem dX0_bestToTurn_46 : decode cX0_bestToTurn 46 = .ok (.imul, 1) := by decide +kernel
theorem dX0_bestToTurn_47 : decode cX0_bestToTurn 47 = .ok (.isub, 1) := by decide +kernel
theorem dX0_bestToTurn_48 : decode cX0_bestToTurn 48 = .ok (.invokestatic 138, 3) := by decide +kernel
theorem dX0_bestToTurn_51 : decode cX0_bestToTurn 51 = .ok (.istore 5, 2) := by decide +kernel
theorem dX0_bestToTurn_53 : decode cX0_bestToTurn 53 = .ok (.iload 5, 2) := by decide +kernel
theorem dX0_bestToTurn_55 : decode cX0_bestToTurn 55 = .ok (.iload_n 2, 1) := by decide +kernel
theorem dX0_bestToTurn_56 : decode cX0_bestToTurn 56 = .ok (.if_icmp .ge 9, 3) := by decide +kernel
theorem dX0_bestToTurn_59 : decode cX0_bestToTurn 59 = .ok (.iload 5, 2) := by decide +kernel
theorem dX0_bestToTurn_61 : decode cX0_bestToTurn 61 = .ok (.istore_n 2, 1) := by decide +kernel
theorem dX0_bestToTurn_62 : decode cX0_bestToTurn 62 = .ok (.iload 4, 2) := by decide +kernel
theorem dX0_bestToTurn_64 : decode cX0_bestToTurn 64 = .ok (.istore_n 3, 1) := by decide +kernel
theorem dX0_bestToTurn_65 : decode cX0_bestToTurn 65 = .ok (.iinc 4 1, 3) := by decide +kernel
theorem dX0_bestToTurn_68 : decode cX0_bestToTurn 68 = .ok (.goto (-53), 3) := by decide +kernel
theorem dX0_bestToTurn_71 : decode cX0_bestToTurn 71 = .ok (.iload_n 3, 1) := by decide +kernel
theorem dX0_bestToTurn_72 : decode cX0_bestToTurn 72 = .ok (.ireturn, 1) := by decide +kernel
theorem dX1_init_0 : decode cX1_init 0 = .ok (.aload_n 0, 1) := by decide +kernel
theorem dX1_init_1 : decode cX1_init 1 = .ok (.invokespecial 3, 3) := by decide +kernel
theorem dX1_init_4 : decode cX1_init 4 = .ok (.aload_n 0, 1) := by decide +kernel
theorem dX1_init_5 : decode cX1_init 5 = .ok (.iconst 0, 1) := by decide +kernel
theorem dX1_init_6 : decode cX1_init 6 = .ok (.putfield 9, 3) := by decide +kernel
theorem dX1_init_9 : decode cX1_init 9 = .ok (.aload_n 0, 1) := by decide +kernel
theorem dX1_init_10 : decode cX1_init 10 = .ok (.bipush 16, 2) := by decide +kernel
theorem dX1_init_12 : decode cX1_init 12 = .ok (.newarray .int, 2) := by decide +kernel
theorem dX1_init_14 : decode cX1_init 14 = .ok (.putfield 15, 3) := by decide +kernel
theorem dX1_init_17 : decode cX1_init 17 = .ok (.aload_n 0, 1) := by decide +kernel
theorem dX1_init_18 : decode cX1_init 18 = .ok (.bipush 16, 2) := by decide +kernel
theorem dX1_init_20 : decode cX1_init 20 = .ok (.newarray .int, 2) := by decide +kernel
theorem dX1_init_22 : decode cX1_init 22 = .ok (.putfield 19, 3) := by decide +kernel
theorem dX1_init_25 : decode cX1_init 25 = .ok (.aload_n 0, 1) := by decide +kernel
theorem dX1_init_26 : decode cX1_init 26 = .ok (.bipush 16, 2) := by decide +kernel
theorem dX1_init_28 : decode cX1_init 28 = .ok (.newarray .int, 2) := by decide +kernel
theorem dX1_init_30 : decode cX1_init 30 = .ok (.putfield 22, 3) := by decide +kernel
theorem dX1_init_33 : decode cX1_init 33 = .ok (.aload_n 0, 1) := by decide +kernel
theorem dX1_init_34 : decode cX1_init 34 = .ok (.bipush 16, 2) := by decide +kernel
theorem dX1_init_36 : decode cX1_init 36 = .ok (.newarray .int, 2) := by decide +kernel
theorem dX1_init_38 : decode cX1_init 38 = .ok (.putfield 25, 3) := by decide +kernel
theorem dX1_init_41 : decode cX1_init 41 = .ok (.aload_n 0, 1) := by decide +kernel
theorem dX1_init_42 : decode cX1_init 42 = .ok (.bipush 16, 2) := by decide +kernel
theorem dX1_init_44 : decode cX1_init 44 = .ok (.newarray .int, 2) := by decide +kernel
theorem dX1_init_46 : decode cX1_init 46 = .ok (.putfield 28, 3) := by decide +kernel
theorem dX1_init_49 : decode cX1_init 49 = .ok (.aload_n 0, 1) := by decide +kernel
theorem dX1_init_50 : decode cX1_init 50 = .ok (.bipush 16, 2) := by decide +kernel
theorem dX1_init_52 : decode cX1_init 52 = .ok (.newarray .int, 2) := by decide +kernel
theorem dX1_init_54 : decode cX1_init 54 = .ok (.putfield 31, 3) := by decide +kernel
theorem dX1_init_57 : decode cX1_init 57 = .ok (.return_, 1) := by decide +kernel
set_option maxRecDepth 20000 in
theorem ggX1_copyFrom_X1_copyPlaces : GoodIn wsX1_copyFrom wsX1_copyPlaces := goodIn_r _ [6, 7, 8, 9, 10, 11, 12, 13, 14, 15, 16, 17, 18, 19, 20, 21, 22, 23] rfl (by decide +kernel)
set_option maxRecDepth 20000 in
theorem gX1_copyFrom_X1_copyPlaces : GoodIn wsX1_copyFrom (wsV RX1 34 RX1 yX1_copyPlaces wsX1_copyPlaces) := goodIn_app (goodIn_of _ (by decide +kernel)) ggX1_copyFrom_X1_copyPlaces
theorem dX1_copyFrom_0 : decode cX1_copyFrom 0 = .ok (.aload_n 0, 1) := by decide +kernel
theorem dX1_copyFrom_1 : decode cX1_copyFrom 1 = .ok (.aload_n 1, 1) := by decide +kernel
theorem dX1_copyFrom_2 : decode cX1_copyFrom 2 = .ok (.getfield 9, 3) := by decide +kernel
theorem dX1_copyFrom_5 : decode cX1_copyFrom 5 = .ok (.putfield 9, 3) := by decide +kernel
theorem dX1_copyFrom_8 : decode cX1_copyFrom 8 = .ok (.aload_n 0, 1) := by decide +kernel
theorem dX1_copyFrom_9 : decode cX1_copyFrom 9 = .ok (.aload_n 1, 1) := by decide +kernel
theorem dX1_copyFrom_10 : decode cX1_copyFrom 10 = .ok (.iconst 0, 1) := by decide +kernel
theorem dX1_copyFrom_11 : decode cX1_copyFrom 11 = .ok (.iconst 0, 1) := by decide +kernel
theorem dX1_copyFrom_12 : decode cX1_copyFrom 12 = .ok (.bipush 16, 2) := by decide +kernel
theorem dX1_copyFrom_14 : decode cX1_copyFrom 14 = .ok (.invokevirtual 34, 3) := by decide +kernel
theorem dX1_copyFrom_17 : decode cX1_copyFrom 17 = .ok (.return_, 1) := by decide +kernel
theorem dX1_placeBehind_0 : decode cX1_placeBehind 0 = .ok (.iconst 0, 1) := by decide +kernel
theorem dX1_placeBehind_1 : decode cX1_placeBehind 1 = .ok (.istore_n 2, 1) := by decide +kernel
theorem dX1_placeBehind_2 : decode cX1_placeBehind 2 = .ok (.iload_n 2, 1) := by decide +kernel
theorem dX1_placeBehind_3 : decode cX1_placeBehind 3 = .ok (.aload_n 0, 1) := by decide +kernel
theorem dX1_placeBehind_4 : decode cX1_placeBehind 4 = .ok (.getfield 9, 3) := by decide +kernel
theorem dX1_placeBehind_7 : decode cX1_placeBehind 7 = .ok (.if_icmp .ge 19, 3) := by decide +kernel
theorem dX1_placeBehind_10 : decode cX1_placeBehind 10 = .ok (.aload_n 0, 1) := by decide +kernel
theorem dX1_placeBehind_11 : decode cX1_placeBehind 11 = .ok (.getfield 15, 3) := by decide +kernel
theorem dX1_placeBehind_14 : decode cX1_placeBehind 14 = .ok (.iload_n 2, 1) := by decide +kernel
theorem dX1_placeBehind_15 : decode cX1_placeBehind 15 = .ok (.iaload, 1) := by decide +kernel
theorem dX1_placeBehind_16 : decode cX1_placeBehind 16 = .ok (.iload_n 1, 1) := by decide +kernel
theorem dX1_placeBehind_17 : decode cX1_placeBehind 17 = .ok (.if_icmp .gt 9, 3) := by decide +kernel
theorem dX1_placeBehind_20 : decode cX1_placeBehind 20 = .ok (.iinc 2 1, 3) := by decide +kernel
theorem dX1_placeBehind_23 : decode cX1_placeBehind 23 = .ok (.goto (-21), 3) := by decide +kernel
theorem dX1_placeBehind_26 : decode cX1_placeBehind 26 = .ok (.iload_n 2, 1) := by decide +kernel
theorem dX1_placeBehind_27 : decode cX1_placeBehind 27 = .ok (.ireturn, 1) := by decide +kernel
theorem dX1_placeOf_0 : decode cX1_placeOf 0 = .ok (.iconst 0, 1) := by decide +kernel
theorem dX1_placeOf_1 : decode cX1_placeOf 1 = .ok (.istore_n 2, 1) := by decide +kernel
theorem dX1_placeOf_2 : decode cX1_placeOf 2 = .ok (.iload_n 2, 1) := by decide +kernel
theorem dX1_placeOf_3 : decode cX1_placeOf 3 = .ok (.aload_n 0, 1) := by decide +kernel
theorem dX1_placeOf_4 : decode cX1_placeOf 4 = .ok (.getfield 9, 3) := by decide +kernel
theorem dX1_placeOf_7 : decode cX1_placeOf 7 = .ok (.if_icmp .ge 21, 3) := by decide +kernel
theorem dX1_placeOf_10 : decode cX1_placeOf 10 = .ok (.aload_n 0, 1) := by decide +kernel
theorem dX1_placeOf_11 : decode cX1_placeOf 11 = .ok (.getfield 15, 3) := by decide +kernel
theorem dX1_placeOf_14 : decode cX1_placeOf 14 = .ok (.iload_n 2, 1) := by decide +kernel
theorem dX1_placeOf_15 : decode cX1_placeOf 15 = .ok (.iaload, 1) := by decide +kernel
theorem dX1_placeOf_16 : decode cX1_placeOf 16 = .ok (.iload_n 1, 1) := by decide +kernel
theorem dX1_placeOf_17 : decode cX1_placeOf 17 = .ok (.if_icmp .ne 5, 3) := by decide +kernel
theorem dX1_placeOf_20 : decode cX1_placeOf 20 = .ok (.iload_n 2, 1) := by decide +kernel
theorem dX1_placeOf_21 : decode cX1_placeOf 21 = .ok (.ireturn, 1) := by decide +kernel
theorem dX1_placeOf_22 : decode cX1_placeOf 22 = .ok (.iinc 2 1, 3) := by decide +kernel
theorem dX1_placeOf_25 : decode cX1_placeOf 25 = .ok (.goto (-23), 3) := by decide +kernel
theorem dX1_placeOf_28 : decode cX1_placeOf 28 = .ok (.iconst (-1), 1) := by decide +kernel
theorem dX1_placeOf_29 : decode cX1_placeOf 29 = .ok (.ireturn, 1) := by decide +kernel
set_option maxRecDepth 20000 in
theorem ggX1_openPlace_X1_placeBehind : GoodIn wsX1_openPlace wsX1_placeBehind := goodIn_r _ [11, 5, 6, 25, 26, 27, 28, 29, 30, 31] rfl (by decide +kernel)
set_option maxRecDepth 20000 in
theorem gX1_openPlace_X1_placeBehind : GoodIn wsX1_openPlace (wsV RX1 38 RX1 yX1_placeBehind wsX1_placeBehind) := goodIn_app (goodIn_of _ (by decide +kernel)) ggX1_openPlace_X1_placeBehind
set_option maxRecDepth 20000 in
theorem ggX1_openPlace_X1_copyPlaces : GoodIn wsX1_openPlace wsX1_copyPlaces := goodIn_r _ [15, 6, 16, 17, 18, 19, 20, 21, 22, 23, 24, 25, 26, 27, 28, 29, 30, 31] rfl (by decide +kernel)
set_option maxRecDepth 20000 in
theorem gX1_openPlace_X1_copyPlaces : GoodIn wsX1_openPlace (wsV RX1 34 RX1 yX1_copyPlaces wsX1_copyPlaces) := goodIn_app (goodIn_of _ (by decide +kernel)) ggX1_openPlace_X1_copyPlaces
theorem dX1_openPlace_0 : decode cX1_openPlace 0 = .ok (.aload_n 0, 1) := by decide +kernel
theorem dX1_openPlace_1 : decode cX1_openPlace 1 = .ok (.iload_n 1, 1) := by decide +kernel
theorem dX1_openPlace_2 : decode cX1_openPlace 2 = .ok (.invokevirtual 38, 3) := by decide +kernel
theorem dX1_openPlace_5 : decode cX1_openPlace 5 = .ok (.bipush 15, 2) := by decide +kernel
theorem dX1_openPlace_7 : decode cX1_openPlace 7 = .ok (.invokestatic 42, 3) := by decide +kernel
theorem dX1_openPlace_10 : decode cX1_openPlace 10 = .ok (.istore_n 2, 1) := by decide +kernel
theorem dX1_openPlace_11 : decode cX1_openPlace 11 = .ok (.aload_n 0, 1) := by decide +kernel
theorem dX1_openPlace_12 : decode cX1_openPlace 12 = .ok (.aload_n 0, 1) := by decide +kernel
theorem dX1_openPlace_13 : decode cX1_openPlace 13 = .ok (.iload_n 2, 1) := by decide +kernel
theorem dX1_openPlace_14 : decode cX1_openPlace 14 = .ok (.iload_n 2, 1) := by decide +kernel
theorem dX1_openPlace_15 : decode cX1_openPlace 15 = .ok (.iconst 1, 1) := by decide +kernel
theorem dX1_openPlace_16 : decode cX1_openPlace 16 = .ok (.iadd, 1) := by decide +kernel
theorem dX1_openPlace_17 : decode cX1_openPlace 17 = .ok (.aload_n 0, 1) := by decide +kernel
theorem dX1_openPlace_18 : decode cX1_openPlace 18 = .ok (.getfield 9, 3) := by decide +kernel
theorem dX1_openPlace_21 : decode cX1_openPlace 21 = .ok (.bipush 15, 2) := by decide +kernel
theorem dX1_openPlace_23 : decode cX1_openPlace 23 = .ok (.invokestatic 42, 3) := by decide +kernel
theorem dX1_openPlace_26 : decode cX1_openPlace 26 = .ok (.iload_n 2, 1) := by decide +kernel
theorem dX1_openPlace_27 : decode cX1_openPlace 27 = .ok (.isub, 1) := by decide +kernel
theorem dX1_openPlace_28 : decode cX1_openPlace 28 = .ok (.invokevirtual 34, 3) := by decide +kernel
theorem dX1_openPlace_31 : decode cX1_openPlace 31 = .ok (.aload_n 0, 1) := by decide +kernel
theorem dX1_openPlace_32 : decode cX1_openPlace 32 = .ok (.aload_n 0, 1) := by decide +kernel
theorem dX1_openPlace_33 : decode cX1_openPlace 33 = .ok (.getfield 9, 3) := by decide +kernel
theorem dX1_openPlace_36 : decode cX1_openPlace 36 = .ok (.iconst 1, 1) := by decide +kernel
theorem dX1_openPlace_37 : decode cX1_openPlace 37 = .ok (.iadd, 1) := by decide +kernel
theorem dX1_openPlace_38 : decode cX1_openPlace 38 = .ok (.bipush 16, 2) := by decide +kernel
theorem dX1_openPlace_40 : decode cX1_openPlace 40 = .ok (.invokestatic 42, 3) := by decide +kernel
theorem dX1_openPlace_43 : decode cX1_openPlace 43 = .ok (.putfield 9, 3) := by decide +kernel
theorem dX1_openPlace_46 : decode cX1_openPlace 46 = .ok (.aload_n 0, 1) := by decide +kernel
theorem dX1_openPlace_47 : decode cX1_openPlace 47 = .ok (.getfield 15, 3) := by decide +kernel
theorem dX1_openPlace_50 : decode cX1_openPlace 50 = .ok (.iload_n 2, 1) := by decide +kernel
theorem dX1_openPlace_51 : decode cX1_openPlace 51 = .ok (.iload_n 1, 1) := by decide +kernel
theorem dX1_openPlace_52 : decode cX1_openPlace 52 = .ok (.iastore, 1) := by decide +kernel
theorem dX1_openPlace_53 : decode cX1_openPlace 53 = .ok (.iload_n 2, 1) := by decide +kernel
theorem dX1_openPlace_54 : decode cX1_openPlace 54 = .ok (.ireturn, 1) := by decide +kernel
set_option maxRecDepth 20000 in
theorem ggX1_closePlace_X1_copyPlaces : GoodIn wsX1_closePlace wsX1_copyPlaces := goodIn_r _ [6, 7, 8, 9, 10, 11, 12, 13, 14, 15, 16, 17, 18, 19, 20, 21, 22, 23] rfl (by decide +kernel)
set_option maxRecDepth 20000 in
theorem gX1_closePlace_X1_copyPlaces : GoodIn wsX1_closePlace (wsV RX1 34 RX1 yX1_copyPlaces wsX1_copyPlaces) := goodIn_app (goodIn_of _ (by decide +kernel)) ggX1_closePlace_X1_copyPlaces
theorem dX1_closePlace_0 : decode cX1_closePlace 0 = .ok (.aload_n 0, 1) := by decide +kernel
theorem dX1_closePlace_1 : decode cX1_closePlace 1 = .ok (.aload_n 0, 1) := by decide +kernel
theorem dX1_closePlace_2 : decode cX1_closePlace 2 = .ok (.iload_n 1, 1) := by decide +kernel
theorem dX1_closePlace_3 : decode cX1_closePlace 3 = .ok (.iconst 1, 1) := by decide +kernel
theorem dX1_closePlace_4 : decode cX1_closePlace 4 = .ok (.iadd, 1) := by decide +kernel
theorem dX1_closePlace_5 : decode cX1_closePlace 5 = .ok (.iload_n 1, 1) := by decide +kernel
theorem dX1_closePlace_6 : decode cX1_closePlace 6 = .ok (.aload_n 0, 1) := by decide +kernel
theorem dX1_closePlace_7 : decode cX1_closePlace 7 = .ok (.getfield 9, 3) := by decide +kernel
theorem dX1_closePlace_10 : decode cX1_closePlace 10 = .ok (.iload_n 1, 1) := by decide +kernel
theorem dX1_closePlace_11 : decode cX1_closePlace 11 = .ok (.isub, 1) := by decide +kernel
theorem dX1_closePlace_12 : decode cX1_closePlace 12 = .ok (.iconst 1, 1) := by decide +kernel
theorem dX1_closePlace_13 : decode cX1_closePlace 13 = .ok (.isub, 1) := by decide +kernel
theorem dX1_closePlace_14 : decode cX1_closePlace 14 = .ok (.invokevirtual 34, 3) := by decide +kernel
theorem dX1_closePlace_17 : decode cX1_closePlace 17 = .ok (.aload_n 0, 1) := by decide +kernel
theorem dX1_closePlace_18 : decode cX1_closePlace 18 = .ok (.dup, 1) := by decide +kernel
theorem dX1_closePlace_19 : decode cX1_closePlace 19 = .ok (.getfield 9, 3) := by decide +kernel
theorem dX1_closePlace_22 : decode cX1_closePlace 22 = .ok (.iconst 1, 1) := by decide +kernel
theorem dX1_closePlace_23 : decode cX1_closePlace 23 = .ok (.isub, 1) := by decide +kernel
theorem dX1_closePlace_24 : decode cX1_closePlace 24 = .ok (.putfield 9, 3) := by decide +kernel
theorem dX1_closePlace_27 : decode cX1_closePlace 27 = .ok (.return_, 1) := by decide +kernel
theorem dX1_copyPlaces_0 : decode cX1_copyPlaces 0 = .ok (.aload_n 1, 1) := by decide +kernel
theorem dX1_copyPlaces_1 : decode cX1_copyPlaces 1 = .ok (.getfield 15, 3) := by decide +kernel
theorem dX1_copyPlaces_4 : decode cX1_copyPlaces 4 = .ok (.iload_n 2, 1) := by decide +kernel
theorem dX1_copyPlaces_5 : decode cX1_copyPlaces 5 = .ok (.aload_n 0, 1) := by decide +kernel
theorem dX1_copyPlaces_6 : decode cX1_copyPlaces 6 = .ok (.getfield 15, 3) := by decide +kernel
theorem dX1_copyPlaces_9 : decode cX1_copyPlaces 9 = .ok (.iload_n 3, 1) := by decide +kernel
theorem dX1_copyPlaces_10 : decode cX1_copyPlaces 10 = .ok (.iload 4, 2) := by decide +kernel
theorem dX1_copyPlaces_12 : decode cX1_copyPlaces 12 = .ok (.invokestatic 48, 3) := by decide +kernel
theorem dX1_copyPlaces_15 : decode cX1_copyPlaces 15 = .ok (.aload_n 1, 1) := by decide +kernel
theorem dX1_copyPlaces_16 : decode cX1_copyPlaces 16 = .ok (.getfield 19, 3) := by decide +kernel
theorem dX1_copyPlaces_19 : decode cX1_copyPlaces 19 = .ok (.iload_n 2, 1) := by decide +kernel
theorem dX1_copyPlaces_20 : decode cX1_copyPlaces 20 = .ok (.aload_n 0, 1) := by decide +kernel
theorem dX1_copyPlaces_21 : decode cX1_copyPlaces 21 = .ok (.getfield 19, 3) := by decide +kernel
theorem dX1_copyPlaces_24 : decode cX1_copyPlaces 24 = .ok (.iload_n 3, 1) := by decide +kernel
theorem dX1_copyPlaces_25 : decode cX1_copyPlaces 25 = .ok (.iload 4, 2) := by decide +kernel
theorem dX1_copyPlaces_27 : decode cX1_copyPlaces 27 = .ok (.invokestatic 48, 3) := by decide +kernel
theorem dX1_copyPlaces_30 : decode cX1_copyPlaces 30 = .ok (.aload_n 1, 1) := by decide +kernel
theorem dX1_copyPlaces_31 : decode cX1_copyPlaces 31 = .ok (.getfield 22, 3) := by decide +kernel
theorem dX1_copyPlaces_34 : decode cX1_copyPlaces 34 = .ok (.iload_n 2, 1) := by decide +kernel
theorem dX1_copyPlaces_35 : decode cX1_copyPlaces 35 = .ok (.aload_n 0, 1) := by decide +kernel
theorem dX1_copyPlaces_36 : decode cX1_copyPlaces 36 = .ok (.getfield 22, 3) := by decide +kernel
theorem dX1_copyPlaces_39 : decode cX1_copyPlaces 39 = .ok (.iload_n 3, 1) := by decide +kernel
theorem dX1_copyPlaces_40 : decode cX1_copyPlaces 40 = .ok (.iload 4, 2) := by decide +kernel
theorem dX1_copyPlaces_42 : decode cX1_copyPlaces 42 = .ok (.invokestatic 48, 3) := by decide +kernel
theorem dX1_copyPlaces_45 : decode cX1_copyPlaces 45 = .ok (.aload_n 1, 1) := by decide +kernel
theorem dX1_copyPlaces_46 : decode cX1_copyPlaces 46 = .ok (.getfield 25, 3) := by decide +kernel
theorem dX1_copyPlaces_49 : decode cX1_copyPlaces 49 = .ok (.iload_n 2, 1) := by decide +kernel
theorem dX1_copyPlaces_50 : decode cX1_copyPlaces 50 = .ok (.aload_n 0, 1) := by decide +kernel
theorem dX1_copyPlaces_51 : decode cX1_copyPlaces 51 = .ok (.getfield 25, 3) := by decide +kernel
theorem dX1_copyPlaces_54 : decode cX1_copyPlaces 54 = .ok (.iload_n 3, 1) := by decide +kernel
theorem dX1_copyPlaces_55 : decode cX1_copyPlaces 55 = .ok (.iload 4, 2) := by decide +kernel
theorem dX1_copyPlaces_57 : decode cX1_copyPlaces 57 = .ok (.invokestatic 48, 3) := by decide +kernel
theorem dX1_copyPlaces_60 : decode cX1_copyPlaces 60 = .ok (.aload_n 1, 1) := by decide +kernel
theorem dX1_copyPlaces_61 : decode cX1_copyPlaces 61 = .ok (.getfield 28, 3) := by decide +kernel
theorem dX1_copyPlaces_64 : decode cX1_copyPlaces 64 = .ok (.iload_n 2, 1) := by decide +kernel
theorem dX1_copyPlaces_65 : decode cX1_copyPlaces 65 = .ok (.aload_n 0, 1) := by decide +kernel
theorem dX1_copyPlaces_66 : decode cX1_copyPlaces 66 = .ok (.getfield 28, 3) := by decide +kernel
theorem dX1_copyPlaces_69 : decode cX1_copyPlaces 69 = .ok (.iload_n 3, 1) := by decide +kernel
theorem dX1_copyPlaces_70 : decode cX1_copyPlaces 70 = .ok (.iload 4, 2) := by decide +kernel
theorem dX1_copyPlaces_72 : decode cX1_copyPlaces 72 = .ok (.invokestatic 48, 3) := by decide +kernel
theorem dX1_copyPlaces_75 : decode cX1_copyPlaces 75 = .ok (.aload_n 1, 1) := by decide +kernel
theorem dX1_copyPlaces_76 : decode cX1_copyPlaces 76 = .ok (.getfield 31, 3) := by decide +kernel
theorem dX1_copyPlaces_79 : decode cX1_copyPlaces 79 = .ok (.iload_n 2, 1) := by decide +kernel
theorem dX1_copyPlaces_80 : decode cX1_copyPlaces 80 = .ok (.aload_n 0, 1) := by decide +kernel
theorem dX1_copyPlaces_81 : decode cX1_copyPlaces 81 = .ok (.getfield 31, 3) := by decide +kernel
theorem dX1_copyPlaces_84 : decode cX1_copyPlaces 84 = .ok (.iload_n 3, 1) := by decide +kernel
theorem dX1_copyPlaces_85 : decode cX1_copyPlaces 85 = .ok (.iload 4, 2) := by decide +kernel
theorem dX1_copyPlaces_87 : decode cX1_copyPlaces 87 = .ok (.invokestatic 48, 3) := by decide +kernel
theorem dX1_copyPlaces_90 : decode cX1_copyPlaces 90 = .ok (.return_, 1) := by decide +kernel
theorem dX2_init_0 : decode cX2_init 0 = .ok (.aload_n 0, 1) := by decide +kernel
theorem dX2_init_1 : decode cX2_init 1 = .ok (.invokespecial 3, 3) := by decide +kernel
theorem dX2_init_4 : decode cX2_init 4 = .ok (.aload_n 0, 1) := by decide +kernel
theorem dX2_init_5 : decode cX2_init 5 = .ok (.iconst 0, 1) := by decide +kernel
theorem dX2_init_6 : decode cX2_init 6 = .ok (.putfield 9, 3) := by decide +kernel
theorem dX2_init_9 : decode cX2_init 9 = .ok (.aload_n 0, 1) := by decide +kernel
theorem dX2_init_10 : decode cX2_init 10 = .ok (.iconst 0, 1) := by decide +kernel
theorem dX2_init_11 : decode cX2_init 11 = .ok (.putfield 15, 3) := by decide +kernel
theorem dX2_init_14 : decode cX2_init 14 = .ok (.aload_n 0, 1) := by decide +kernel
theorem dX2_init_15 : decode cX2_init 15 = .ok (.iconst 0, 1) := by decide +kernel
theorem dX2_init_16 : decode cX2_init 16 = .ok (.putfield 18, 3) := by decide +kernel
theorem dX2_init_19 : decode cX2_init 19 = .ok (.aload_n 0, 1) := by decide +kernel
theorem dX2_init_20 : decode cX2_init 20 = .ok (.iconst 0, 1) := by decide +kernel
theorem dX2_init_21 : decode cX2_init 21 = .ok (.putfield 21, 3) := by decide +kernel
theorem dX2_init_24 : decode cX2_init 24 = .ok (.aload_n 0, 1) := by decide +kernel
theorem dX2_init_25 : decode cX2_init 25 = .ok (.bipush 10, 2) := by decide +kernel
theorem dX2_init_27 : decode cX2_init 27 = .ok (.newarray .int, 2) := by decide +kernel
theorem dX2_init_29 : decode cX2_init 29 = .ok (.putfield 24, 3) := by decide +kernel
theorem dX2_init_32 : decode cX2_init 32 = .ok (.aload_n 0, 1) := by decide +kernel
theorem dX2_init_33 : decode cX2_init 33 = .ok (.bipush 10, 2) := by decide +kernel
theorem dX2_init_35 : decode cX2_init 35 = .ok (.newarray .int, 2) := by decide +kernel
theorem dX2_init_37 : decode cX2_init 37 = .ok (.putfield 28, 3) := by decide +kernel
theorem dX2_init_40 : decode cX2_init 40 = .ok (.return_, 1) := by decide +kernel
set_option maxRecDepth 20000 in
theorem ggX2_makeAsAtFirst_X11_held : GoodIn wsX2_makeAsAtFirst wsX11_held := goodIn_r _ [9, 10, 11, 12, 13, 14, 15, 16] rfl (by decide +kernel)
set_option maxRecDepth 20000 in
theorem gX2_makeAsAtFirst_X11_held_n31 : GoodIn wsX2_makeAsAtFirst (wsX11_held) := ggX2_makeAsAtFirst_X11_held
set_option maxRecDepth 20000 in
theorem ggX2_makeAsAtFirst_J7_fill_53178 : GoodIn wsX2_makeAsAtFirst wsJ7_fill_53178 := goodIn_r _ [20] rfl (by decide +kernel)
set_option maxRecDepth 20000 in
theorem gX2_makeAsAtFirst_J7_fill_53178 : GoodIn wsX2_makeAsAtFirst (va_wsS RX2 35 yJ7_fill_53178 wsJ7_fill_53178) := goodIn_app (goodIn_of _ (by decide +kernel)) ggX2_makeAsAtFirst_J7_fill_53178
theorem dX2_makeAsAtFirst_0 : decode cX2_makeAsAtFirst 0 = .ok (.aload_n 0, 1) := by decide +kernel
theorem dX2_makeAsAtFirst_1 : decode cX2_makeAsAtFirst 1 = .ok (.iload_n 1, 1) := by decide +kernel
theorem dX2_makeAsAtFirst_2 : decode cX2_makeAsAtFirst 2 = .ok (.iconst 2, 1) := by decide +kernel
theorem dX2_makeAsAtFirst_3 : decode cX2_makeAsAtFirst 3 = .ok (.bipush 10, 2) := by decide +kernel
theorem dX2_makeAsAtFirst_5 : decode cX2_makeAsAtFirst 5 = .ok (.invokestatic 31, 3) := by decide +kernel
theorem dX2_makeAsAtFirst_8 : decode cX2_makeAsAtFirst 8 = .ok (.putfield 9, 3) := by decide +kernel
theorem dX2_makeAsAtFirst_11 : decode cX2_makeAsAtFirst 11 = .ok (.aload_n 0, 1) := by decide +kernel
theorem dX2_makeAsAtFirst_12 : decode cX2_makeAsAtFirst 12 = .ok (.bipush 20, 2) := by decide +kernel
theorem dX2_makeAsAtFirst_14 : decode cX2_makeAsAtFirst 14 = .ok (.putfield 15, 3) := by decide +kernel
theorem dX2_makeAsAtFirst_17 : decode cX2_makeAsAtFirst 17 = .ok (.aload_n 0, 1) := by decide +kernel
theorem dX2_makeAsAtFirst_18 : decode cX2_makeAsAtFirst 18 = .ok (.bipush 100, 2) := by decide +kernel
theorem dX2_makeAsAtFirst_20 : decode cX2_makeAsAtFirst 20 = .ok (.putfield 18, 3) := by decide +kernel
theorem dX2_makeAsAtFirst_23 : decode cX2_makeAsAtFirst 23 = .ok (.aload_n 0, 1) := by decide +kernel
theorem dX2_makeAsAtFirst_24 : decode cX2_makeAsAtFirst 24 = .ok (.iconst 0, 1) := by decide +kernel
theorem dX2_makeAsAtFirst_25 : decode cX2_makeAsAtFirst 25 = .ok (.putfield 21, 3) := by decide +kernel
theorem dX2_makeAsAtFirst_28 : decode cX2_makeAsAtFirst 28 = .ok (.aload_n 0, 1) := by decide +kernel
theorem dX2_makeAsAtFirst_29 : decode cX2_makeAsAtFirst 29 = .ok (.getfield 24, 3) := by decide +kernel
theorem dX2_makeAsAtFirst_32 : decode cX2_makeAsAtFirst 32 = .ok (.bipush 10, 2) := by decide +kernel
theorem dX2_makeAsAtFirst_34 : decode cX2_makeAsAtFirst 34 = .ok (.invokestatic 35, 3) := by decide +kernel
theorem dX2_makeAsAtFirst_37 : decode cX2_makeAsAtFirst 37 = .ok (.aload_n 0, 1) := by decide +kernel
theorem dX2_makeAsAtFirst_38 : decode cX2_makeAsAtFirst 38 = .ok (.getfield 28, 3) := by decide +kernel
theorem dX2_makeAsAtFirst_41 : decode cX2_makeAsAtFirst 41 = .ok (.iconst 0, 1) := by decide +kernel
theorem dX2_makeAsAtFirst_42 : decode cX2_makeAsAtFirst 42 = .ok (.invokestatic 35, 3) := by decide +kernel
theorem dX2_makeAsAtFirst_45 : decode cX2_makeAsAtFirst 45 = .ok (.return_, 1) := by decide +kernel
theorem dX2_copyFrom_0 : decode cX2_copyFrom 0 = .ok (.aload_n 0, 1) := by decide +kernel
theorem dX2_copyFrom_1 : decode cX2_copyFrom 1 = .ok (.aload_n 1, 1) := by decide +kernel
theorem dX2_copyFrom_2 : decode cX2_copyFrom 2 = .ok (.getfield 9, 3) := by decide +kernel
theorem dX2_copyFrom_5 : decode cX2_copyFrom 5 = .ok (.putfield 9, 3) := by decide +kernel
theorem dX2_copyFrom_8 : decode cX2_copyFrom 8 = .ok (.aload_n 0, 1) := by decide +kernel
theorem dX2_copyFrom_9 : decode cX2_copyFrom 9 = .ok (.aload_n 1, 1) := by decide +kernel
theorem dX2_copyFrom_10 : decode cX2_copyFrom 10 = .ok (.getfield 15, 3) := by decide +kernel
theorem dX2_copyFrom_13 : decode cX2_copyFrom 13 = .ok (.putfield 15, 3) := by decide +kernel
theorem dX2_copyFrom_16 : decode cX2_copyFrom 16 = .ok (.aload_n 0, 1) := by decide +kernel
theorem dX2_copyFrom_17 : decode cX2_copyFrom 17 = .ok (.aload_n 1, 1) := by decide +kernel
theorem dX2_copyFrom_18 : decode cX2_copyFrom 18 = .ok (.getfield 18, 3) := by decide +kernel
theorem dX2_copyFrom_21 : decode cX2_copyFrom 21 = .ok (.putfield 18, 3) := by decide +kernel
theorem dX2_copyFrom_24 : decode cX2_copyFrom 24 = .ok (.aload_n 0, 1) := by decide +kernel
theorem dX2_copyFrom_25 : decode cX2_copyFrom 25 = .ok (.aload_n 1, 1) := by decide +kernel
theorem dX2_copyFrom_26 : decode cX2_copyFrom 26 = .ok (.getfield 21, 3) := by decide +kernel
theorem dX2_copyFrom_29 : decode cX2_copyFrom 29 = .ok (.putfield 21, 3) := by decide +kernel
theorem dX2_copyFrom_32 : decode cX2_copyFrom 32 = .ok (.aload_n 1, 1) := by decide +kernel
theorem dX2_copyFrom_33 : decode cX2_copyFrom 33 = .ok (.getfield 24, 3) := by decide +kernel
theorem dX2_copyFrom_36 : decode cX2_copyFrom 36 = .ok (.iconst 0, 1) := by decide +kernel
theorem dX2_copyFrom_37 : decode cX2_copyFrom 37 = .ok (.aload_n 0, 1) := by decide +kernel
theorem dX2_copyFrom_38 : decode cX2_copyFrom 38 = .ok (.getfield 24, 3) := by decide +kernel
theorem dX2_copyFrom_41 : decode cX2_copyFrom 41 = .ok (.iconst 0, 1) := by decide +kernel
theorem dX2_copyFrom_42 : decode cX2_copyFrom 42 = .ok (.aload_n 0, 1) := by decide +kernel
theorem dX2_copyFrom_43 : decode cX2_copyFrom 43 = .ok (.getfield 24, 3) := by decide +kernel
theorem dX2_copyFrom_46 : decode cX2_copyFrom 46 = .ok (.arraylength, 1) := by decide +kernel
theorem dX2_copyFrom_47 : decode cX2_copyFrom 47 = .ok (.invokestatic 41, 3) := by decide +kernel
theorem dX2_copyFrom_50 : decode cX2_copyFrom 50 = .ok (.aload_n 1, 1) := by decide +kernel
theorem dX2_copyFrom_51 : decode cX2_copyFrom 51 = .ok (.getfield 28, 3) := by decide +kernel
theorem dX2_copyFrom_54 : decode cX2_copyFrom 54 = .ok (.iconst 0, 1) := by decide +kernel
theorem dX2_copyFrom_55 : decode cX2_copyFrom 55 = .ok (.aload_n 0, 1) := by decide +kernel
theorem dX2_copyFrom_56 : decode cX2_copyFrom 56 = .ok (.getfield 28, 3) := by decide +kernel
theorem dX2_copyFrom_59 : decode cX2_copyFrom 59 = .ok (.iconst 0, 1) := by decide +kernel
theorem dX2_copyFrom_60 : decode cX2_copyFrom 60 = .ok (.aload_n 0, 1) := by decide +kernel
theorem dX2_copyFrom_61 : decode cX2_copyFrom 61 = .ok (.getfield 28, 3) := by decide +kernel
theorem dX2_copyFrom_64 : decode cX2_copyFrom 64 = .ok (.arraylength, 1) := by decide +kernel
theorem dX2_copyFrom_65 : decode cX2_copyFrom 65 = .ok (.invokestatic 41, 3) := by decide +kernel
theorem dX2_copyFrom_68 : decode cX2_copyFrom 68 = .ok (.return_, 1) := by decide +kernel
set_option maxRecDepth 20000 in
theorem ggX2_hasSection_X11_isWithin : GoodIn wsX2_hasSection wsX11_isWithin := goodIn_r _ [4] rfl (by decide +kernel)
set_option maxRecDepth 20000 in
theorem gX2_hasSection_X11_isWithin_n47 : GoodIn wsX2_hasSection (wsX11_isWithin) := ggX2_hasSection_X11_isWithin
theorem dX2_hasSection_0 : decode cX2_hasSection 0 = .ok (.iload_n 1, 1) := by decide +kernel
theorem dX2_hasSection_1 : decode cX2_hasSection 1 = .ok (.iconst 0, 1) := by decide +kernel
theorem dX2_hasSection_2 : decode cX2_hasSection 2 = .ok (.aload_n 0, 1) := by decide +kernel
theorem dX2_hasSection_3 : decode cX2_hasSection 3 = .ok (.getfield 9, 3) := by decide +kernel
theorem dX2_hasSection_6 : decode cX2_hasSection 6 = .ok (.iconst 1, 1) := by decide +kernel
theorem dX2_hasSection_7 : decode cX2_hasSection 7 = .ok (.isub, 1) := by decide +kernel
theorem dX2_hasSection_8 : decode cX2_hasSection 8 = .ok (.invokestatic 47, 3) := by decide +kernel
theorem dX2_hasSection_11 : decode cX2_hasSection 11 = .ok (.ireturn, 1) := by decide +kernel
theorem dX2_top_0 : decode cX2_top 0 = .ok (.bipush 64, 2) := by decide +kernel
theorem dX2_top_2 : decode cX2_top 2 = .ok (.aload_n 0, 1) := by decide +kernel
theorem dX2_top_3 : decode cX2_top 3 = .ok (.getfield 15, 3) := by decide +kernel
theorem dX2_top_6 : decode cX2_top 6 = .ok (.imul, 1) := by decide +kernel
theorem dX2_top_7 : decode cX2_top 7 = .ok (.ireturn, 1) := by decide +kernel
theorem dX2_leastRise_0 : decode cX2_leastRise 0 = .ok (.aload_n 0, 1) := by decide +kernel
theorem dX2_leastRise_1 : decode cX2_leastRise 1 = .ok (.getfield 28, 3) := by decide +kernel
theorem dX2_leastRise_4 : decode cX2_leastRise 4 = .ok (.iconst 0, 1) := by decide +kernel
theorem dX2_leastRise_5 : decode cX2_leastRise 5 = .ok (.iaload, 1) := by decide +kernel
theorem dX2_leastRise_6 : decode cX2_leastRise 6 = .ok (.istore_n 1, 1) := by decide +kernel
theorem dX2_leastRise_7 : decode cX2_leastRise 7 = .ok (.iconst 1, 1) := by decide +kernel
theorem dX2_leastRise_8 : decode cX2_leastRise 8 = .ok (.istore_n 2, 1) := by decide +kernel
theorem dX2_leastRise_9 : decode cX2_leastRise 9 = .ok (.iload_n 2, 1) := by decide +kernel
theorem dX2_leastRise_10 : decode cX2_leastRise 10 = .ok (.aload_n 0, 1) := by decide +kernel
theorem dX2_leastRise_11 : decode cX2_leastRise 11 = .ok (.getfield 9, 3) := by decide +kernel
theorem dX2_leastRise_14 : decode cX2_leastRise 14 = .ok (.if_icmp .ge 20, 3) := by decide +kernel
theorem dX2_leastRise_17 : decode cX2_leastRise 17 = .ok (.iload_n 1, 1) := by decide +kernel
theorem dX2_leastRise_18 : decode cX2_leastRise 18 = .ok (.aload_n 0, 1) := by decide +kernel
theorem dX2_leastRise_19 : decode cX2_leastRise 19 = .ok (.getfield 28, 3) := by decide +kernel
theorem dX2_leastRise_22 : decode cX2_leastRise 22 = .ok (.iload_n 2, 1) := by decide +kernel
theorem dX2_leastRise_23 : decode cX2_leastRise 23 = .ok (.iaload, 1) := by decide +kernel
theorem dX2_leastRise_24 : decode cX2_leastRise 24 = .ok (.invokestatic 51, 3) := by decide +kernel
theorem dX2_leastRise_27 : decode cX2_leastRise 27 = .ok (.istore_n 1, 1) := by decide +kernel
theorem dX2_leastRise_28 : decode cX2_leastRise 28 = .ok (.iinc 2 1, 3) := by decide +kernel
theorem dX2_leastRise_31 : decode cX2_leastRise 31 = .ok (.goto (-22), 3) := by decide +kernel
theorem dX2_leastRise_34 : decode cX2_leastRise 34 = .ok (.iload_n 1, 1) := by decide +kernel
theorem dX2_leastRise_35 : decode cX2_leastRise 35 = .ok (.ireturn, 1) := by decide +kernel
set_option maxRecDepth 20000 in
theorem ggX2_waterAt_X2_top : GoodIn wsX2_waterAt wsX2_top := goodIn_r _ [11, 12, 13, 14, 15, 16, 17, 18] rfl (by decide +kernel)
set_option maxRecDepth 20000 in
theorem gX2_waterAt_X2_top : GoodIn wsX2_waterAt (wsV RX2 57 RX2 yX2_top wsX2_top) := goodIn_app (goodIn_of _ (by decide +kernel)) ggX2_waterAt_X2_top
theorem dX2_waterAt_0 : decode cX2_waterAt 0 = .ok (.iload_n 2, 1) := by decide +kernel
theorem dX2_waterAt_1 : decode cX2_waterAt 1 = .ok (.aload_n 0, 1) := by decide +kernel
theorem dX2_waterAt_2 : decode cX2_waterAt 2 = .ok (.invokevirtual 57, 3) := by decide +kernel
theorem dX2_waterAt_5 : decode cX2_waterAt 5 = .ok (.invokestatic 51, 3) := by decide +kernel
theorem dX2_waterAt_8 : decode cX2_waterAt 8 = .ok (.bipush 64, 2) := by decide +kernel
theorem dX2_waterAt_10 : decode cX2_waterAt 10 = .ok (.aload_n 0, 1) := by decide +kernel
theorem dX2_waterAt_11 : decode cX2_waterAt 11 = .ok (.getfield 28, 3) := by decide +kernel
theorem dX2_waterAt_14 : decode cX2_waterAt 14 = .ok (.iload_n 1, 1) := by decide +kernel
theorem dX2_waterAt_15 : decode cX2_waterAt 15 = .ok (.iaload, 1) := by decide +kernel
theorem dX2_waterAt_16 : decode cX2_waterAt 16 = .ok (.imul, 1) := by decide +kernel
theorem dX2_waterAt_17 : decode cX2_waterAt 17 = .ok (.isub, 1) := by decide +kernel
theorem dX2_waterAt_18 : decode cX2_waterAt 18 = .ok (.istore_n 3, 1) := by decide +kernel
theorem dX2_waterAt_19 : decode cX2_waterAt 19 = .ok (.iload_n 3, 1) := by decide +kernel
theorem dX2_waterAt_20 : decode cX2_waterAt 20 = .ok (.ifCond .le 14, 3) := by decide +kernel
theorem dX2_waterAt_23 : decode cX2_waterAt 23 = .ok (.aload_n 0, 1) := by decide +kernel
theorem dX2_waterAt_24 : decode cX2_waterAt 24 = .ok (.getfield 24, 3) := by decide +kernel
theorem dX2_waterAt_27 : decode cX2_waterAt 27 = .ok (.iload_n 1, 1) := by decide +kernel
theorem dX2_waterAt_28 : decode cX2_waterAt 28 = .ok (.iaload, 1) := by decide +kernel
theorem dX2_waterAt_29 : decode cX2_waterAt 29 = .ok (.iload_n 3, 1) := by decide +kernel
theorem dX2_waterAt_30 : decode cX2_waterAt 30 = .ok (.imul, 1) := by decide +kernel
theorem dX2_waterAt_31 : decode cX2_waterAt 31 = .ok (.goto 4, 3) := by decide +kernel
theorem dX2_waterAt_34 : decode cX2_waterAt 34 = .ok (.iconst 0, 1) := by decide +kernel
theorem dX2_waterAt_35 : decode cX2_waterAt 35 = .ok (.ireturn, 1) := by decide +kernel
theorem dX2_draughtOf_0 : decode cX2_draughtOf 0 = .ok (.iload_n 2, 1) := by decide +kernel
theorem dX2_draughtOf_1 : decode cX2_draughtOf 1 = .ok (.iload_n 3, 1) := by decide +kernel
theorem dX2_draughtOf_2 : decode cX2_draughtOf 2 = .ok (.iconst 2, 1) := by decide +kernel
theorem dX2_draughtOf_3 : decode cX2_draughtOf 3 = .ok (.iload_n 1, 1) := by decide +kernel
theorem dX2_draughtOf_4 : decode cX2_draughtOf 4 = .ok (.imul, 1) := by decide +kernel
theorem dX2_draughtOf_5 : decode cX2_draughtOf 5 = .ok (.aload_n 0, 1) := by decide +kernel
theorem dX2_draughtOf_6 : decode cX2_draughtOf 6 = .ok (.getfield 9, 3) := by decide +kernel
theorem dX2_draughtOf_9 : decode cX2_draughtOf 9 = .ok (.isub, 1) := by decide +kernel
theorem dX2_draughtOf_10 : decode cX2_draughtOf 10 = .ok (.iconst 1, 1) := by decide +kernel
theorem dX2_draughtOf_11 : decode cX2_draughtOf 11 = .ok (.iadd, 1) := by decide +kernel
theorem dX2_draughtOf_12 : decode cX2_draughtOf 12 = .ok (.imul, 1) := by decide +kernel
theorem dX2_draughtOf_13 : decode cX2_draughtOf 13 = .ok (.iadd, 1) := by decide +kernel
theorem dX2_draughtOf_14 : decode cX2_draughtOf 14 = .ok (.ireturn, 1) := by decide +kernel
set_option maxRecDepth 20000 in
theorem ggX2_waterOfSlope_X2_draughtOf : GoodIn wsX2_waterOfSlope wsX2_draughtOf := goodIn_r _ [6, 1, 22, 23, 24, 25, 26, 27] rfl (by decide +kernel)
set_option maxRecDepth 20000 in
theorem gX2_waterOfSlope_X2_draughtOf : GoodIn wsX2_waterOfSlope (wsV RX2 61 RX2 yX2_draughtOf wsX2_draughtOf) := goodIn_app (goodIn_of _ (by decide +kernel)) ggX2_waterOfSlope_X2_draughtOf
set_option maxRecDepth 20000 in
theorem ggX2_waterOfSlope_X2_waterAt : GoodIn wsX2_waterOfSlope wsX2_waterAt := goodIn_r _ [10, 11, 12, 13, 14, 15, 16, 17, 18, 19, 5, 20, 21, 22, 23, 24, 25, 26, 27] rfl (by decide +kernel)
set_option maxRecDepth 20000 in
theorem gX2_waterOfSlope_X2_waterAt : GoodIn wsX2_waterOfSlope (wsV RX2 64 RX2 yX2_waterAt wsX2_waterAt) := goodIn_app (goodIn_of _ (by decide +kernel)) ggX2_waterOfSlope_X2_waterAt
theorem dX2_waterOfSlope_0 : decode cX2_waterOfSlope 0 = .ok (.iconst 0, 1) := by decide +kernel
theorem dX2_waterOfSlope_1 : decode cX2_waterOfSlope 1 = .ok (.istore_n 3, 1) := by decide +kernel
theorem dX2_waterOfSlope_2 : decode cX2_waterOfSlope 2 = .ok (.iconst 0, 1) := by decide +kernel
theorem dX2_waterOfSlope_3 : decode cX2_waterOfSlope 3 = .ok (.istore 4, 2) := by decide +kernel
theorem dX2_waterOfSlope_5 : decode cX2_waterOfSlope 5 = .ok (.iload 4, 2) := by decide +kernel
theorem dX2_waterOfSlope_7 : decode cX2_waterOfSlope 7 = .ok (.aload_n 0, 1) := by decide +kernel
theorem dX2_waterOfSlope_8 : decode cX2_waterOfSlope 8 = .ok (.getfield 9, 3) := by decide +kernel
theorem dX2_waterOfSlope_11 : decode cX2_waterOfSlope 11 = .ok (.if_icmp .ge 26, 3) := by decide +kernel
theorem dX2_waterOfSlope_14 : decode cX2_waterOfSlope 14 = .ok (.iload_n 3, 1) := by decide +kernel
theorem dX2_waterOfSlope_15 : decode cX2_waterOfSlope 15 = .ok (.aload_n 0, 1) := by decide +kernel
theorem dX2_waterOfSlope_16 : decode cX2_waterOfSlope 16 = .ok (.iload 4, 2) := by decide +kernel
theorem dX2_waterOfSlope_18 : decode cX2_waterOfSlope 18 = .ok (.aload_n 0, 1) := by decide +kernel
theorem dX2_waterOfSlope_19 : decode cX2_waterOfSlope 19 = .ok (.iload 4, 2) := by decide +kernel
theorem dX2_waterOfSlope_21 : decode cX2_waterOfSlope 21 = .ok (.iload_n 1, 1) := by decide +kernel
theorem dX2_waterOfSlope_22 : decode cX2_waterOfSlope 22 = .ok (.iload_n 2, 1) := by decide +kernel
theorem dX2_waterOfSlope_23 : decode cX2_waterOfSlope 23 = .ok (.invokevirtual 61, 3) := by decide +kernel
theorem dX2_waterOfSlope_26 : decode cX2_waterOfSlope 26 = .ok (.invokevirtual 64, 3) := by decide +kernel
theorem dX2_waterOfSlope_29 : decode cX2_waterOfSlope 29 = .ok (.iadd, 1) := by decide +kernel
theorem dX2_waterOfSlope_30 : decode cX2_waterOfSlope 30 = .ok (.istore_n 3, 1) := by decide +kernel
theorem dX2_waterOfSlope_31 : decode cX2_waterOfSlope 31 = .ok (.iinc 4 1, 3) := by decide +kernel
theorem dX2_waterOfSlope_34 : decode cX2_waterOfSlope 34 = .ok (.goto (-29), 3) := by decide +kernel
theorem dX2_waterOfSlope_37 : decode cX2_waterOfSlope 37 = .ok (.iload_n 3, 1) := by decide +kernel
theorem dX2_waterOfSlope_38 : decode cX2_waterOfSlope 38 = .ok (.ireturn, 1) := by decide +kernel
set_option maxRecDepth 20000 in
theorem ggX2_pullOfSlope_X2_draughtOf : GoodIn wsX2_pullOfSlope wsX2_draughtOf := goodIn_r _ [6, 1, 22, 23, 24, 25, 26, 27] rfl (by decide +kernel)
set_option maxRecDepth 20000 in
theorem gX2_pullOfSlope_X2_draughtOf : GoodIn wsX2_pullOfSlope (wsV RX2 61 RX2 yX2_draughtOf wsX2_draughtOf) := goodIn_app (goodIn_of _ (by decide +kernel)) ggX2_pullOfSlope_X2_draughtOf
set_option maxRecDepth 20000 in
theorem ggX2_pullOfSlope_X2_waterAt : GoodIn wsX2_pullOfSlope wsX2_waterAt := goodIn_r _ [10, 11, 12, 13, 14, 15, 16, 17, 18, 19, 5, 20, 21, 22, 23, 24, 25, 26, 27] rfl (by decide +kernel)
set_option maxRecDepth 20000 in
theorem gX2_pullOfSlope_X2_waterAt : GoodIn wsX2_pullOfSlope (wsV RX2 64 RX2 yX2_waterAt wsX2_waterAt) := goodIn_app (goodIn_of _ (by decide +kernel)) ggX2_pullOfSlope_X2_waterAt
theorem dX2_pullOfSlope_0 : decode cX2_pullOfSlope 0 = .ok (.iconst 0, 1) := by decide +kernel
theorem dX2_pullOfSlope_1 : decode cX2_pullOfSlope 1 = .ok (.istore_n 3, 1) := by decide +kernel
theorem dX2_pullOfSlope_2 : decode cX2_pullOfSlope 2 = .ok (.iconst 0, 1) := by decide +kernel
theorem dX2_pullOfSlope_3 : decode cX2_pullOfSlope 3 = .ok (.istore 4, 2) := by decide +kernel
theorem dX2_pullOfSlope_5 : decode cX2_pullOfSlope 5 = .ok (.iload 4, 2) := by decide +kernel
theorem dX2_pullOfSlope_7 : decode cX2_pullOfSlope 7 = .ok (.aload_n 0, 1) := by decide +kernel
theorem dX2_pullOfSlope_8 : decode cX2_pullOfSlope 8 = .ok (.getfield 9, 3) := by decide +kernel
theorem dX2_pullOfSlope_11 : decode cX2_pullOfSlope 11 = .ok (.if_icmp .ge 31, 3) := by decide +kernel
theorem dX2_pullOfSlope_14 : decode cX2_pullOfSlope 14 = .ok (.iload_n 3, 1) := by decide +kernel
theorem dX2_pullOfSlope_15 : decode cX2_pullOfSlope 15 = .ok (.aload_n 0, 1) := by decide +kernel
theorem dX2_pullOfSlope_16 : decode cX2_pullOfSlope 16 = .ok (.iload 4, 2) := by decide +kernel
theorem dX2_pullOfSlope_18 : decode cX2_pullOfSlope 18 = .ok (.aload_n 0, 1) := by decide +kernel
theorem dX2_pullOfSlope_19 : decode cX2_pullOfSlope 19 = .ok (.iload 4, 2) := by decide +kernel
theorem dX2_pullOfSlope_21 : decode cX2_pullOfSlope 21 = .ok (.iload_n 1, 1) := by decide +kernel
theorem dX2_pullOfSlope_22 : decode cX2_pullOfSlope 22 = .ok (.iload_n 2, 1) := by decide +kernel
theorem dX2_pullOfSlope_23 : decode cX2_pullOfSlope 23 = .ok (.invokevirtual 61, 3) := by decide +kernel
theorem dX2_pullOfSlope_26 : decode cX2_pullOfSlope 26 = .ok (.invokevirtual 64, 3) := by decide +kernel
theorem dX2_pullOfSlope_29 : decode cX2_pullOfSlope 29 = .ok (.iconst 2, 1) := by decide +kernel
theorem dX2_pullOfSlope_30 : decode cX2_pullOfSlope 30 = .ok (.imul, 1) := by decide +kernel
theorem dX2_pullOfSlope_31 : decode cX2_pullOfSlope 31 = .ok (.iload 4, 2) := by decide +kernel
theorem dX2_pullOfSlope_33 : decode cX2_pullOfSlope 33 = .ok (.imul, 1) := by decide +kernel
theorem dX2_pullOfSlope_34 : decode cX2_pullOfSlope 34 = .ok (.iadd, 1) := by decide +kernel
theorem dX2_pullOfSlope_35 : decode cX2_pullOfSlope 35 = .ok (.istore_n 3, 1) := by decide +kernel
theorem dX2_pullOfSlope_36 : decode cX2_pullOfSlope 36 = .ok (.iinc 4 1, 3) := by decide +kernel
theorem dX2_pullOfSlope_39 : decode cX2_pullOfSlope 39 = .ok (.goto (-34), 3) := by decide +kernel
theorem dX2_pullOfSlope_42 : decode cX2_pullOfSlope 42 = .ok (.iload_n 3, 1) := by decide +kernel
theorem dX2_pullOfSlope_43 : decode cX2_pullOfSlope 43 = .ok (.ireturn, 1) := by decide +kernel
set_option maxRecDepth 20000 in
theorem ggX2_startOf_X2_top : GoodIn wsX2_startOf wsX2_top := goodIn_r _ [10, 11, 29, 30, 31, 32, 33, 34] rfl (by decide +kernel)
set_option maxRecDepth 20000 in
theorem gX2_startOf_X2_top : GoodIn wsX2_startOf (wsV RX2 57 RX2 yX2_top wsX2_top) := goodIn_app (goodIn_of _ (by decide +kernel)) ggX2_startOf_X2_top
set_option maxRecDepth 20000 in
theorem ggX2_startOf_X2_waterOfSlope : GoodIn wsX2_startOf wsX2_waterOfSlope := goodIn_r _ [15, 1, 16, 17, 18, 9, 19, 20, 21, 22, 23, 24, 25, 4, 26, 27, 28, 6, 7, 8, 10, 11, 29, 30, 31, 32, 33, 34] rfl (by decide +kernel)
set_option maxRecDepth 20000 in
theorem gX2_startOf_X2_waterOfSlope : GoodIn wsX2_startOf (wsV RX2 71 RX2 yX2_waterOfSlope wsX2_waterOfSlope) := goodIn_app (goodIn_of _ (by decide +kernel)) ggX2_startOf_X2_waterOfSlope
theorem dX2_startOf_0 : decode cX2_startOf 0 = .ok (.iconst 0, 1) := by decide +kernel
theorem dX2_startOf_1 : decode cX2_startOf 1 = .ok (.istore_n 3, 1) := by decide +kernel
theorem dX2_startOf_2 : decode cX2_startOf 2 = .ok (.aload_n 0, 1) := by decide +kernel
theorem dX2_startOf_3 : decode cX2_startOf 3 = .ok (.invokevirtual 57, 3) := by decide +kernel
theorem dX2_startOf_6 : decode cX2_startOf 6 = .ok (.aload_n 0, 1) := by decide +kernel
theorem dX2_startOf_7 : decode cX2_startOf 7 = .ok (.getfield 9, 3) := by decide +kernel
theorem dX2_startOf_10 : decode cX2_startOf 10 = .ok (.iconst 1, 1) := by decide +kernel
theorem dX2_startOf_11 : decode cX2_startOf 11 = .ok (.isub, 1) := by decide +kernel
theorem dX2_startOf_12 : decode cX2_startOf 12 = .ok (.iload_n 1, 1) := by decide +kernel
theorem dX2_startOf_13 : decode cX2_startOf 13 = .ok (.invokestatic 67, 3) := by decide +kernel
theorem dX2_startOf_16 : decode cX2_startOf 16 = .ok (.imul, 1) := by decide +kernel
theorem dX2_startOf_17 : decode cX2_startOf 17 = .ok (.iadd, 1) := by decide +kernel
theorem dX2_startOf_18 : decode cX2_startOf 18 = .ok (.istore 4, 2) := by decide +kernel
theorem dX2_startOf_20 : decode cX2_startOf 20 = .ok (.aload_n 0, 1) := by decide +kernel
theorem dX2_startOf_21 : decode cX2_startOf 21 = .ok (.iload 4, 2) := by decide +kernel
theorem dX2_startOf_23 : decode cX2_startOf 23 = .ok (.iload_n 1, 1) := by decide +kernel
theorem dX2_startOf_24 : decode cX2_startOf 24 = .ok (.invokevirtual 71, 3) := by decide +kernel
theorem dX2_startOf_27 : decode cX2_startOf 27 = .ok (.bipush 64, 2) := by decide +kernel
theorem dX2_startOf_29 : decode cX2_startOf 29 = .ok (.iload_n 2, 1) := by decide +kernel
theorem dX2_startOf_30 : decode cX2_startOf 30 = .ok (.imul, 1) := by decide +kernel
theorem dX2_startOf_31 : decode cX2_startOf 31 = .ok (.if_icmp .ge 6, 3) := by decide +kernel
theorem dX2_startOf_34 : decode cX2_startOf 34 = .ok (.bipush (-2), 2) := by decide +kernel
theorem dX2_startOf_36 : decode cX2_startOf 36 = .ok (.ireturn, 1) := by decide +kernel
theorem dX2_startOf_37 : decode cX2_startOf 37 = .ok (.iconst 0, 1) := by decide +kernel
theorem dX2_startOf_38 : decode cX2_startOf 38 = .ok (.istore 5, 2) := by decide +kernel
theorem dX2_startOf_40 : decode cX2_startOf 40 = .ok (.iload 5, 2) := by decide +kernel
theorem dX2_startOf_42 : decode cX2_startOf 42 = .ok (.bipush 32, 2) := by decide +kernel
theorem dX2_startOf_44 : decode cX2_startOf 44 = .ok (.if_icmp .ge 49, 3) := by decide +kernel
theorem dX2_startOf_47 : decode cX2_startOf 47 = .ok (.iload_n 3, 1) := by decide +kernel
theorem dX2_startOf_48 : decode cX2_startOf 48 = .ok (.iload 4, 2) := by decide +kernel
theorem dX2_startOf_50 : decode cX2_startOf 50 = .ok (.if_icmp .ge 43, 3) := by decide +kernel
theorem dX2_startOf_53 : decode cX2_startOf 53 = .ok (.iload_n 3, 1) := by decide +kernel
theorem dX2_startOf_54 : decode cX2_startOf 54 = .ok (.iload 4, 2) := by decide +kernel
theorem dX2_startOf_56 : decode cX2_startOf 56 = .ok (.iadd, 1) := by decide +kernel
theorem dX2_startOf_57 : decode cX2_startOf 57 = .ok (.iconst 2, 1) := by decide +kernel
theorem dX2_startOf_58 : decode cX2_startOf 58 = .ok (.idiv, 1) := by decide +kernel
theorem dX2_startOf_59 : decode cX2_startOf 59 = .ok (.istore 6, 2) := by decide +kernel
theorem dX2_startOf_61 : decode cX2_startOf 61 = .ok (.aload_n 0, 1) := by decide +kernel
theorem dX2_startOf_62 : decode cX2_startOf 62 = .ok (.iload 6, 2) := by decide +kernel
theorem dX2_startOf_64 : decode cX2_startOf 64 = .ok (.iload_n 1, 1) := by decide +kernel
theorem dX2_startOf_65 : decode cX2_startOf 65 = .ok (.invokevirtual 71, 3) := by decide +kernel
theorem dX2_startOf_68 : decode cX2_startOf 68 = .ok (.bipush 64, 2) := by decide +kernel
theorem dX2_startOf_70 : decode cX2_startOf 70 = .ok (.iload_n 2, 1) := by decide +kernel
theorem dX2_startOf_71 : decode cX2_startOf 71 = .ok (.imul, 1) := by decide +kernel
theorem dX2_startOf_72 : decode cX2_startOf 72 = .ok (.if_icmp .lt 10, 3) := by decide +kernel
theorem dX2_startOf_75 : decode cX2_startOf 75 = .ok (.iload 6, 2) := by decide +kernel
theorem dX2_startOf_77 : decode cX2_startOf 77 = .ok (.istore 4, 2) := by decide +kernel
theorem dX2_startOf_79 : decode cX2_startOf 79 = .ok (.goto 8, 3) := by decide +kernel
theorem dX2_startOf_82 : decode cX2_startOf 82 = .ok (.iload 6, 2) := by decide +kernel
theorem dX2_startOf_84 : decode cX2_startOf 84 = .ok (.iconst 1, 1) := by decide +kernel
theorem dX2_startOf_85 : decode cX2_startOf 85 = .ok (.iadd, 1) := by decide +kernel
theorem dX2_startOf_86 : decode cX2_startOf 86 = .ok (.istore_n 3, 1) := by decide +kernel
theorem dX2_startOf_87 : decode cX2_startOf 87 = .ok (.iinc 5 1, 3) := by decide +kernel
theorem dX2_startOf_90 : decode cX2_startOf 90 = .ok (.goto (-50), 3) := by decide +kernel
theorem dX2_startOf_93 : decode cX2_startOf 93 = .ok (.iload 4, 2) := by decide +kernel
theorem dX2_startOf_95 : decode cX2_startOf 95 = .ok (.ireturn, 1) := by decide +kernel
set_option maxRecDepth 20000 in
theorem ggX2_carriedAt_X2_waterOfSlope : GoodIn wsX2_carriedAt wsX2_waterOfSlope := goodIn_r _ [5, 6, 7, 8, 9, 4, 10, 11, 12, 13, 14, 15, 16, 17, 18, 19, 20, 21, 22, 23, 24, 25, 26, 27, 28, 29, 30, 31] rfl (by decide +kernel)
set_option maxRecDepth 20000 in
theorem gX2_carriedAt_X2_waterOfSlope : GoodIn wsX2_carriedAt (wsV RX2 71 RX2 yX2_waterOfSlope wsX2_waterOfSlope) := goodIn_app (goodIn_of _ (by decide +kernel)) ggX2_carriedAt_X2_waterOfSlope
theorem dX2_carriedAt_0 : decode cX2_carriedAt 0 = .ok (.aload_n 0, 1) := by decide +kernel
theorem dX2_carriedAt_1 : decode cX2_carriedAt 1 = .ok (.iload_n 1, 1) := by decide +kernel
theorem dX2_carriedAt_2 : decode cX2_carriedAt 2 = .ok (.iconst 0, 1) := by decide +kernel
theorem dX2_carriedAt_3 : decode cX2_carriedAt 3 = .ok (.invokevirtual 71, 3) := by decide +kernel
theorem dX2_carriedAt_6 : decode cX2_carriedAt 6 = .ok (.bipush 64, 2) := by decide +kernel
theorem dX2_carriedAt_8 : decode cX2_carriedAt 8 = .ok (.idiv, 1) := by decide +kernel
theorem dX2_carriedAt_9 : decode cX2_carriedAt 9 = .ok (.ireturn, 1) := by decide +kernel
theorem dX3_init_0 : decode cX3_init 0 = .ok (.aload_n 0, 1) := by decide +kernel
theorem dX3_init_1 : decode cX3_init 1 = .ok (.invokespecial 3, 3) := by decide +kernel
theorem dX3_init_4 : decode cX3_init 4 = .ok (.aload_n 0, 1) := by decide +kernel
theorem dX3_init_5 : decode cX3_init 5 = .ok (.bipush 17, 2) := by decide +kernel
theorem dX3_init_7 : decode cX3_init 7 = .ok (.newarray .int, 2) := by decide +kernel
theorem dX3_init_9 : decode cX3_init 9 = .ok (.putfield 9, 3) := by decide +kernel
theorem dX3_init_12 : decode cX3_init 12 = .ok (.aload_n 0, 1) := by decide +kernel
theorem dX3_init_13 : decode cX3_init 13 = .ok (.bipush 17, 2) := by decide +kernel
theorem dX3_init_15 : decode cX3_init 15 = .ok (.newarray .int, 2) := by decide +kernel
theorem dX3_init_17 : decode cX3_init 17 = .ok (.putfield 15, 3) := by decide +kernel
theorem dX3_init_20 : decode cX3_init 20 = .ok (.aload_n 0, 1) := by decide +kernel
theorem dX3_init_21 : decode cX3_init 21 = .ok (.iconst 0, 1) := by decide +kernel
theorem dX3_init_22 : decode cX3_init 22 = .ok (.putfield 18, 3) := by decide +kernel
theorem dX3_init_25 : decode cX3_init 25 = .ok (.aload_n 0, 1) := by decide +kernel
theorem dX3_init_26 : decode cX3_init 26 = .ok (.iconst 0, 1) := by decide +kernel
theorem dX3_init_27 : decode cX3_init 27 = .ok (.putfield 22, 3) := by decide +kernel
theorem dX3_init_30 : decode cX3_init 30 = .ok (.aload_n 0, 1) := by decide +kernel
theorem dX3_init_31 : decode cX3_init 31 = .ok (.bipush (-2), 2) := by decide +kernel
theorem dX3_init_33 : decode cX3_init 33 = .ok (.putfield 25, 3) := by decide +kernel
theorem dX3_init_36 : decode cX3_init 36 = .ok (.return_, 1) := by decide +kernel
set_option maxRecDepth 20000 in
theorem ggX3_writeLines_X4_arrange : GoodIn wsX3_writeLines wsX4_arrange := goodIn_r _ [9, 10, 11, 12, 13, 14, 15, 8, 16, 17, 18, 19, 20, 21, 22, 23, 24, 25, 26, 27, 28, 29, 30, 31, 32, 33, 34, 35, 36, 37, 38, 39, 40, 41, 42, 43, 44, 45, 85, 86, 87, 88, 89, 90, 91, 92, 93, 94, 95, 96, 97, 98, 99, 100, 101, 102] rfl (by decide +kernel)
set_option maxRecDepth 20000 in
theorem gX3_writeLines_X4_arrange : GoodIn wsX3_writeLines (wsV RX3 28 RX4 yX4_arrange wsX4_arrange) := goodIn_app (goodIn_of _ (by decide +kernel)) ggX3_writeLines_X4_arrange
set_option maxRecDepth 20000 in
theorem ggX3_writeLines_X0_allWeight : GoodIn wsX3_writeLines wsX0_allWeight := goodIn_r _ [49, 38, 50, 31, 51, 52, 53, 54, 27, 28, 29, 30, 32, 33, 34, 35, 36, 37, 39, 85, 86, 87, 97, 98, 99, 100, 101, 102, 88, 89, 90, 91, 92, 93, 94, 103, 104, 105, 106] rfl (by decide +kernel)
set_option maxRecDepth 20000 in
theorem gX3_writeLines_X0_allWeight : GoodIn wsX3_writeLines (wsV RX3 34 RX0 yX0_allWeight wsX0_allWeight) := goodIn_app (goodIn_of _ (by decide +kernel)) ggX3_writeLines_X0_allWeight
set_option maxRecDepth 20000 in
theorem ggX3_writeLines_X2_startOf : GoodIn wsX3_writeLines wsX2_startOf := goodIn_r _ [59, 60, 61, 23, 24, 25, 62, 63, 64, 58, 65, 66, 67, 68, 69, 70, 71, 72, 73, 74, 75, 76, 77, 78, 79, 80, 81, 82, 83, 97, 98, 99, 100, 101, 102] rfl (by decide +kernel)
set_option maxRecDepth 20000 in
theorem gX3_writeLines_X2_startOf : GoodIn wsX3_writeLines (wsV RX3 44 RX2 yX2_startOf wsX2_startOf) := goodIn_app (goodIn_of _ (by decide +kernel)) ggX3_writeLines_X2_startOf
set_option maxRecDepth 20000 in
theorem ggX3_writeLines_X0_weighsAt : GoodIn wsX3_writeLines wsX0_weighsAt := goodIn_r _ [30, 31, 32, 33, 34, 35, 36, 29, 37, 38, 39, 85, 86, 87, 88, 89, 90, 91, 92, 93, 94, 97, 98, 99, 100, 101, 102] rfl (by decide +kernel)
set_option maxRecDepth 20000 in
theorem gX3_writeLines_X0_weighsAt : GoodIn wsX3_writeLines (wsV RX3 62 RX0 yX0_weighsAt wsX0_weighsAt) := goodIn_app (goodIn_of _ (by decide +kernel)) ggX3_writeLines_X0_weighsAt
theorem dX3_writeLines_0 : decode cX3_writeLines 0 = .ok (.aload_n 2, 1) := by decide +kernel
theorem dX3_writeLines_1 : decode cX3_writeLines 1 = .ok (.aload_n 1, 1) := by decide +kernel
theorem dX3_writeLines_2 : decode cX3_writeLines 2 = .ok (.iconst 0, 1) := by decide +kernel
theorem dX3_writeLines_3 : decode cX3_writeLines 3 = .ok (.invokevirtual 28, 3) := by decide +kernel
theorem dX3_writeLines_6 : decode cX3_writeLines 6 = .ok (.aload_n 1, 1) := by decide +kernel
theorem dX3_writeLines_7 : decode cX3_writeLines 7 = .ok (.invokevirtual 34, 3) := by decide +kernel
theorem dX3_writeLines_10 : decode cX3_writeLines 10 = .ok (.istore 4, 2) := by decide +kernel
theorem dX3_writeLines_12 : decode cX3_writeLines 12 = .ok (.aload_n 3, 1) := by decide +kernel
theorem dX3_writeLines_13 : decode cX3_writeLines 13 = .ok (.iconst 0, 1) := by decide +kernel
theorem dX3_writeLines_14 : decode cX3_writeLines 14 = .ok (.aload_n 1, 1) := by decide +kernel
theorem dX3_writeLines_15 : decode cX3_writeLines 15 = .ok (.getfield 40, 3) := by decide +kernel
theorem dX3_writeLines_18 : decode cX3_writeLines 18 = .ok (.iconst 0, 1) := by decide +kernel
theorem dX3_writeLines_19 : decode cX3_writeLines 19 = .ok (.iload 4, 2) := by decide +kernel
theorem dX3_writeLines_21 : decode cX3_writeLines 21 = .ok (.invokevirtual 44, 3) := by decide +kernel
theorem dX3_writeLines_24 : decode cX3_writeLines 24 = .ok (.iastore, 1) := by decide +kernel
theorem dX3_writeLines_25 : decode cX3_writeLines 25 = .ok (.iconst 0, 1) := by decide +kernel
theorem dX3_writeLines_26 : decode cX3_writeLines 26 = .ok (.istore 5, 2) := by decide +kernel
theorem dX3_writeLines_28 : decode cX3_writeLines 28 = .ok (.iload 5, 2) := by decide +kernel
theorem dX3_writeLines_30 : decode cX3_writeLines 30 = .ok (.aload_n 1, 1) := by decide +kernel
theorem dX3_writeLines_31 : decode cX3_writeLines 31 = .ok (.getfield 50, 3) := by decide +kernel
theorem dX3_writeLines_34 : decode cX3_writeLines 34 = .ok (.getfield 54, 3) := by decide +kernel
theorem dX3_writeLines_37 : decode cX3_writeLines 37 = .ok (.if_icmp .ge 41, 3) := by decide +kernel
theorem dX3_writeLines_40 : decode cX3_writeLines 40 = .ok (.iload 4, 2) := by decide +kernel
theorem dX3_writeLines_42 : decode cX3_writeLines 42 = .ok (.aload_n 1, 1) := by decide +kernel
theorem dX3_writeLines_43 : decode cX3_writeLines 43 = .ok (.aload_n 2, 1) := by decide +kernel
theorem dX3_writeLines_44 : decode cX3_writeLines 44 = .ok (.getfield 59, 3) := by decide +kernel
theorem dX3_writeLines_47 : decode cX3_writeLines 47 = .ok (.iload 5, 2) := by decide +kernel
theorem dX3_writeLines_49 : decode cX3_writeLines 49 = .ok (.iaload, 1) := by decide +kernel
theorem dX3_writeLines_50 : decode cX3_writeLines 50 = .ok (.invokevirtual 62, 3) := by decide +kernel
theorem dX3_writeLines_53 : decode cX3_writeLines 53 = .ok (.isub, 1) := by decide +kernel
theorem dX3_writeLines_54 : decode cX3_writeLines 54 = .ok (.istore 4, 2) := by decide +kernel
theorem dX3_writeLines_56 : decode cX3_writeLines 56 = .ok (.aload_n 3, 1) := by decide +kernel
theorem dX3_writeLines_57 : decode cX3_writeLines 57 = .ok (.iload 5, 2) := by decide +kernel
theorem dX3_writeLines_59 : decode cX3_writeLines 59 = .ok (.iconst 1, 1) := by decide +kernel
theorem dX3_writeLines_60 : decode cX3_writeLines 60 = .ok (.iadd, 1) := by decide +kernel
theorem dX3_writeLines_61 : decode cX3_writeLines 61 = .ok (.aload_n 1, 1) := by decide +kernel
theorem dX3_writeLines_62 : decode cX3_writeLines 62 = .ok (.getfield 40, 3) := by decide +kernel
theorem dX3_writeLines_65 : decode cX3_writeLines 65 = .ok (.iconst 0, 1) := by decide +kernel
theorem dX3_writeLines_66 : decode cX3_writeLines 66 = .ok (.iload 4, 2) := by decide +kernel
theorem dX3_writeLines_68 : decode cX3_writeLines 68 = .ok (.invokevirtual 44, 3) := by decide +kernel
theorem dX3_writeLines_71 : decode cX3_writeLines 71 = .ok (.iastore, 1) := by decide +kernel
theorem dX3_writeLines_72 : decode cX3_writeLines 72 = .ok (.iinc 5 1, 3) := by decide +kernel
theorem dX3_writeLines_75 : decode cX3_writeLines 75 = .ok (.goto (-47), 3) := by decide +kernel
theorem dX3_writeLines_78 : decode cX3_writeLines 78 = .ok (.return_, 1) := by decide +kernel
set_option maxRecDepth 20000 in
theorem ggX3_want_X2_top : GoodIn wsX3_want wsX2_top := goodIn_r _ [9, 10, 43, 44, 45, 46, 47, 48] rfl (by decide +kernel)
set_option maxRecDepth 20000 in
theorem gX3_want_X2_top : GoodIn wsX3_want (wsV RX3 66 RX2 yX2_top wsX2_top) := goodIn_app (goodIn_of _ (by decide +kernel)) ggX3_want_X2_top

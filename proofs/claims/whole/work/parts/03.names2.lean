def wsL_law_r12 : List Cond := [Cond.selects RX7 yX7_isFull yX7_isFull, Cond.code yX7_isFull cX7_isFull 1 (some .boolean), Cond.methodLink RX9 116 yX2_addPerson, Cond.instanceMethod yX2_addPerson, Cond.selects RX2 yX2_addPerson yX2_addPerson, Cond.code yX2_addPerson cX2_addPerson 3 none, Cond.methodLink RX2 68 yX7_add, Cond.methodLink RX9 120 yX2_people, Cond.instanceMethod yX2_people, Cond.selects RX2 yX2_people yX2_people, Cond.code yX2_people cX2_people 1 (some .int), Cond.methodLink RX2 57 yX7_size, Cond.instanceMethod yX7_size, Cond.selects RX7 yX7_size yX7_size, Cond.code yX7_size cX7_size 1 (some .int), Cond.methodLink RL 31 yX10_one, Cond.instanceMethod yX10_one, Cond.selects RX10 yX10_one yX10_one, Cond.code yX10_one cX10_one 4 (some .int), Cond.methodLink RL 34 yX9_type, Cond.instanceMethod yX9_type, Cond.selects RX9 yX9_type yX9_type, Cond.code yX9_type cX9_type 5 (some .int), Cond.fieldLink RX9 124 "OnlyPrimes$Kept" "text" "LOnlyPrimes$Slots;"]
def wsL_law_r13 : List Cond := [Cond.constantLong RX9 130 (255), Cond.methodLink RX9 127 yX7_size, Cond.methodLink RX9 132 yX7_add, Cond.methodLink RL 38 yX10_type, Cond.instanceMethod yX10_type, Cond.selects RX10 yX10_type yX10_type, Cond.code yX10_type cX10_type 5 (some .int), Cond.constantLong RX10 114 (255), Cond.methodLink RL 39 yX9_clear, Cond.instanceMethod yX9_clear, Cond.selects RX9 yX9_clear yX9_clear, Cond.code yX9_clear cX9_clear 2 (some .int), Cond.methodLink RX9 136 yX7_empty, Cond.instanceMethod yX7_empty, Cond.selects RX7 yX7_empty yX7_empty, Cond.code yX7_empty cX7_empty 1 none, Cond.methodLink RL 43 yX10_clear, Cond.instanceMethod yX10_clear, Cond.selects RX10 yX10_clear yX10_clear, Cond.code yX10_clear cX10_clear 2 (some .int), Cond.methodLink RL 44 yX9_read, Cond.instanceMethod yX9_read, Cond.selects RX9 yX9_read yX9_read, Cond.code yX9_read cX9_read 2 (some .int)]
def wsL_law_r14 : List Cond := [Cond.fieldLink RX9 143 "OnlyPrimes$Reader" "land" "LOnlyPrimes$Land;", Cond.methodLink RX9 139 yX3_parse, Cond.instanceMethod yX3_parse, Cond.selects RX3 yX3_parse yX3_parse, Cond.code yX3_parse cX3_parse 4 (some .int), Cond.fieldLink RX3 27 "OnlyPrimes$Reader" "next" "I", Cond.fieldLink RX3 41 "OnlyPrimes$Reader" "token" "I", Cond.fieldLink RX3 54 "OnlyPrimes$Reader" "place" "I", Cond.methodLink RX3 31 yX2_empty, Cond.instanceMethod yX2_empty, Cond.selects RX2 yX2_empty yX2_empty, Cond.code yX2_empty cX2_empty 1 none, Cond.methodLink RX2 80 yX7_empty, Cond.methodLink RX3 34 yX7_size, Cond.methodLink RX3 38 yX3_take, Cond.instanceMethod yX3_take, Cond.selects RX3 yX3_take yX3_take, Cond.code yX3_take cX3_take 1 none, Cond.fieldLink RX3 61 "OnlyPrimes$Reader" "number" "I", Cond.methodLink RX3 105 yX3_runEnd, Cond.instanceMethod yX3_runEnd, Cond.selects RX3 yX3_runEnd yX3_runEnd, Cond.code yX3_runEnd cX3_runEnd 5 (some .int), Cond.methodLink RX3 125 yX7_get]
def wsL_law_r15 : List Cond := [Cond.instanceMethod yX7_get, Cond.selects RX7 yX7_get yX7_get, Cond.code yX7_get cX7_get 2 (some .int), Cond.methodLink RX3 109 yX3_isFrom, Cond.instanceMethod yX3_isFrom, Cond.selects RX3 yX3_isFrom yX3_isFrom, Cond.code yX3_isFrom cX3_isFrom 3 (some .boolean), Cond.methodLink RX3 114 yX3_isWord, Cond.instanceMethod yX3_isWord, Cond.selects RX3 yX3_isWord yX3_isWord, Cond.code yX3_isWord cX3_isWord 3 (some .boolean), Cond.methodLink RX3 129 yJ0_length_8abf5, Cond.instanceMethod yJ0_length_8abf5, Cond.selects RJ0 yJ0_length_8abf5 yJ0_length_8abf5, Cond.initialized RJ0, Cond.code yJ0_length_8abf5 cJ0_length_8abf5 1 (some .int), Cond.fieldLink RJ0 9 "java/lang/String" "value" "[B", Cond.methodLink RJ0 335 yJ0_coder_7d493, Cond.instanceMethod yJ0_coder_7d493, Cond.selects RJ0 yJ0_coder_7d493 yJ0_coder_7d493, Cond.code yJ0_coder_7d493 cJ0_coder_7d493 1 (some .byte), Cond.fieldLink RJ0 38 "java/lang/String" "COMPACT_STRINGS" "Z", Cond.fieldLink RJ0 15 "java/lang/String" "coder" "B", Cond.methodLink RX3 134 yJ0_charAt_5068e]
def wsL_law_r16 : List Cond := [Cond.instanceMethod yJ0_charAt_5068e, Cond.selects RJ0 yJ0_charAt_5068e yJ0_charAt_5068e, Cond.code yJ0_charAt_5068e cJ0_charAt_5068e 2 (some .char), Cond.methodLink RJ0 492 yJ0_isLatin1_aae02, Cond.instanceMethod yJ0_isLatin1_aae02, Cond.selects RJ0 yJ0_isLatin1_aae02 yJ0_isLatin1_aae02, Cond.code yJ0_isLatin1_aae02 cJ0_isLatin1_aae02 1 (some .boolean), Cond.methodLink RJ0 495 yJ1_charAt_3b067, Cond.static yJ1_charAt_3b067, Cond.initialized RJ1, Cond.code yJ1_charAt_3b067 cJ1_charAt_3b067 2 (some .char), Cond.methodLink RJ1 9 yJ0_checkIndex_df160, Cond.static yJ0_checkIndex_df160, Cond.code yJ0_checkIndex_df160 cJ0_checkIndex_df160 2 none, Cond.fieldLink RJ0 1053 "jdk/internal/util/Preconditions" "SIOOBE_FORMATTER" "Ljava/util/function/BiFunction;", Cond.methodLink RJ0 1059 yJ3_checkIndex_8e157, Cond.static yJ3_checkIndex_8e157, Cond.initialized RJ3, Cond.code yJ3_checkIndex_8e157 cJ3_checkIndex_8e157 3 (some .int), Cond.methodLink RJ0 498 yJ2_charAt_3b067, Cond.static yJ2_charAt_3b067, Cond.initialized RJ2, Cond.code yJ2_charAt_3b067 cJ2_charAt_3b067 2 (some .char), Cond.methodLink RJ2 67 yJ2_checkIndex_2214a]
def wsL_law_r17 : List Cond := [Cond.static yJ2_checkIndex_2214a, Cond.code yJ2_checkIndex_2214a cJ2_checkIndex_2214a 2 none, Cond.methodLink RJ2 48 yJ2_length_9d52b, Cond.static yJ2_length_9d52b, Cond.code yJ2_length_9d52b cJ2_length_9d52b 1 (some .int), Cond.methodLink RJ2 414 yJ0_checkIndex_df160, Cond.methodLink RJ2 71 yJ2_getChar_3b067, Cond.static yJ2_getChar_3b067, Cond.code yJ2_getChar_3b067 cJ2_getChar_3b067 2 (some .char), Cond.fieldLink RJ2 44 "java/lang/StringUTF16" "$assertionsDisabled" "Z", Cond.fieldLink RJ2 59 "java/lang/StringUTF16" "HI_BYTE_SHIFT" "I", Cond.fieldLink RJ2 63 "java/lang/StringUTF16" "LO_BYTE_SHIFT" "I", Cond.methodLink RX3 122 yX3_value, Cond.instanceMethod yX3_value, Cond.selects RX3 yX3_value yX3_value, Cond.code yX3_value cX3_value 3 (some .int), Cond.methodLink RX3 44 yX3_takeWay, Cond.instanceMethod yX3_takeWay, Cond.selects RX3 yX3_takeWay yX3_takeWay, Cond.code yX3_takeWay cX3_takeWay 2 (some .boolean), Cond.methodLink RX3 57 yX3_takeNumber, Cond.instanceMethod yX3_takeNumber, Cond.selects RX3 yX3_takeNumber yX3_takeNumber, Cond.code yX3_takeNumber cX3_takeNumber 3 (some .boolean)]
def wsL_law_r18 : List Cond := [Cond.methodLink RX3 64 yX2_hasWay, Cond.methodLink RX3 67 yX2_setWay, Cond.methodLink RX3 71 yX3_takeStop, Cond.instanceMethod yX3_takeStop, Cond.selects RX3 yX3_takeStop yX3_takeStop, Cond.code yX3_takeStop cX3_takeStop 1 (some .boolean), Cond.methodLink RX3 48 yX3_takeOne, Cond.instanceMethod yX3_takeOne, Cond.selects RX3 yX3_takeOne yX3_takeOne, Cond.code yX3_takeOne cX3_takeOne 2 (some .boolean), Cond.fieldLink RX3 74 "OnlyPrimes$Land" "starts" "LOnlyPrimes$Slots;", Cond.methodLink RX3 77 yX7_isFull, Cond.methodLink RX3 80 yX2_addPerson, Cond.methodLink RX3 51 yX3_takeGo, Cond.instanceMethod yX3_takeGo, Cond.selects RX3 yX3_takeGo yX3_takeGo, Cond.code yX3_takeGo cX3_takeGo 5 (some .boolean), Cond.fieldLink RX3 84 "OnlyPrimes$Land" "hours" "LOnlyPrimes$Slots;", Cond.methodLink RX3 87 yX2_lastHour, Cond.instanceMethod yX2_lastHour, Cond.selects RX2 yX2_lastHour yX2_lastHour, Cond.code yX2_lastHour cX2_lastHour 1 (some .int), Cond.methodLink RX2 74 yX2_gos, Cond.instanceMethod yX2_gos]
def wsL_law_r19 : List Cond := [Cond.selects RX2 yX2_gos yX2_gos, Cond.code yX2_gos cX2_gos 1 (some .int), Cond.methodLink RX2 71 yX7_get, Cond.methodLink RX3 90 yX3_takeBand, Cond.instanceMethod yX3_takeBand, Cond.selects RX3 yX3_takeBand yX3_takeBand, Cond.code yX3_takeBand cX3_takeBand 3 (some .int), Cond.methodLink RX3 97 yX2_isPerson, Cond.instanceMethod yX2_isPerson, Cond.selects RX2 yX2_isPerson yX2_isPerson, Cond.code yX2_isPerson cX2_isPerson 2 (some .boolean), Cond.methodLink RX2 61 yX2_people, Cond.methodLink RX3 93 yX2_addGo, Cond.instanceMethod yX2_addGo, Cond.selects RX2 yX2_addGo yX2_addGo, Cond.code yX2_addGo cX2_addGo 5 none, Cond.methodLink RX9 144 yX2_copy, Cond.instanceMethod yX2_copy, Cond.selects RX2 yX2_copy yX2_copy, Cond.code yX2_copy cX2_copy 2 none, Cond.methodLink RX2 83 yX7_copy, Cond.instanceMethod yX7_copy, Cond.selects RX7 yX7_copy yX7_copy, Cond.code yX7_copy cX7_copy 3 none]
def wsL_law_r20 : List Cond := [Cond.methodLink RX7 23 yX7_empty, Cond.methodLink RX7 26 yX7_get, Cond.methodLink RX7 30 yX7_add, Cond.methodLink RX9 148 yX2_gos, Cond.methodLink RL 47 yX10_read, Cond.instanceMethod yX10_read, Cond.selects RX10 yX10_read yX10_read, Cond.code yX10_read cX10_read 2 (some .int), Cond.fieldLink RX10 116 "OnlyPrimesModel" "at" "I", Cond.fieldLink RX10 132 "OnlyPrimesModel" "fault" "I", Cond.fieldLink RX10 149 "OnlyPrimesModel" "men" "I", Cond.fieldLink RX10 146 "OnlyPrimesModel" "gos" "I", Cond.fieldLink RX10 129 "OnlyPrimesModel" "sort" "I", Cond.methodLink RX10 135 yX10_next, Cond.instanceMethod yX10_next, Cond.selects RX10 yX10_next yX10_next, Cond.code yX10_next cX10_next 3 none, Cond.fieldLink RX10 123 "OnlyPrimesModel" "start" "I", Cond.fieldLink RX10 126 "OnlyPrimesModel" "value" "I", Cond.methodLink RX10 119 yX10_here, Cond.instanceMethod yX10_here, Cond.selects RX10 yX10_here yX10_here, Cond.code yX10_here cX10_here 1 (some .int), Cond.methodLink RX10 158 yX10_readItem]
def wsL_law_r21 : List Cond := [Cond.instanceMethod yX10_readItem, Cond.selects RX10 yX10_readItem yX10_readItem, Cond.code yX10_readItem cX10_readItem 2 none, Cond.methodLink RX10 138 yX10_due, Cond.instanceMethod yX10_due, Cond.selects RX10 yX10_due yX10_due, Cond.code yX10_due cX10_due 3 (some .int), Cond.methodLink RX10 152 yX10_readWay, Cond.instanceMethod yX10_readWay, Cond.selects RX10 yX10_readWay yX10_readWay, Cond.code yX10_readWay cX10_readWay 4 none, Cond.methodLink RX10 142 yX10_number, Cond.instanceMethod yX10_number, Cond.selects RX10 yX10_number yX10_number, Cond.code yX10_number cX10_number 3 (some .int), Cond.methodLink RX10 155 yX10_readGo, Cond.instanceMethod yX10_readGo, Cond.selects RX10 yX10_readGo yX10_readGo, Cond.code yX10_readGo cX10_readGo 4 none, Cond.methodLink RL 48 yX9_judged, Cond.instanceMethod yX9_judged, Cond.selects RX9 yX9_judged yX9_judged, Cond.code yX9_judged cX9_judged 3 (some .int), Cond.methodLink RX9 151 yX0_firstWrong]
def wsL_law_r22 : List Cond := [Cond.instanceMethod yX0_firstWrong, Cond.selects RX0 yX0_firstWrong yX0_firstWrong, Cond.code yX0_firstWrong cX0_firstWrong 6 (some .int), Cond.fieldLink RX0 23 "OnlyPrimes$Kept" "land" "LOnlyPrimes$Land;", Cond.fieldLink RX0 29 "OnlyPrimes$Land" "starts" "LOnlyPrimes$Slots;", Cond.methodLink RX0 34 yX7_copy, Cond.methodLink RX0 38 yX7_empty, Cond.methodLink RX0 41 yX2_people, Cond.methodLink RX0 45 yX7_add, Cond.methodLink RX0 48 yX2_gos, Cond.methodLink RX0 51 yX0_wrong, Cond.instanceMethod yX0_wrong, Cond.selects RX0 yX0_wrong yX0_wrong, Cond.code yX0_wrong cX0_wrong 6 (some .int), Cond.fieldLink RX0 67 "OnlyPrimes$Land" "froms" "LOnlyPrimes$Slots;", Cond.fieldLink RX0 74 "OnlyPrimes$Land" "tos" "LOnlyPrimes$Slots;", Cond.fieldLink RX0 80 "OnlyPrimes$Land" "bands" "LOnlyPrimes$Slots;", Cond.methodLink RX0 59 yX2_goes, Cond.instanceMethod yX2_goes, Cond.selects RX2 yX2_goes yX2_goes, Cond.code yX2_goes cX2_goes 3 (some .boolean), Cond.methodLink RX0 63 yX0_isReady, Cond.instanceMethod yX0_isReady, Cond.selects RX0 yX0_isReady yX0_isReady]
def wsL_law_r23 : List Cond := [Cond.code yX0_isReady cX0_isReady 5 (some .boolean), Cond.fieldLink RX0 91 "OnlyPrimes$Land" "hours" "LOnlyPrimes$Slots;", Cond.methodLink RX0 70 yX7_get, Cond.methodLink RX0 77 yX2_hasWay, Cond.methodLink RX0 83 yJ6_bitCount_0f7a4, Cond.static yJ6_bitCount_0f7a4, Cond.initialized RJ6, Cond.code yJ6_bitCount_0f7a4 cJ6_bitCount_0f7a4 1 (some .int), Cond.constant RJ6 265 (1431655765), Cond.constant RJ6 266 (858993459), Cond.constant RJ6 267 (252645135), Cond.methodLink RX0 88 yX1_fits, Cond.methodLink RX0 55 yX0_move, Cond.instanceMethod yX0_move, Cond.selects RX0 yX0_move yX0_move, Cond.code yX0_move cX0_move 4 none, Cond.methodLink RX0 94 yX7_set, Cond.instanceMethod yX7_set, Cond.selects RX7 yX7_set yX7_set, Cond.code yX7_set cX7_set 3 none, Cond.methodLink RX9 155 yX0_allHome, Cond.instanceMethod yX0_allHome, Cond.selects RX0 yX0_allHome yX0_allHome, Cond.code yX0_allHome cX0_allHome 3 (some .boolean)]
def wsL_law_r24 : List Cond := [Cond.fieldLink RX0 98 "OnlyPrimes$Land" "homes" "LOnlyPrimes$Slots;", Cond.methodLink RL 51 yX10_judged, Cond.instanceMethod yX10_judged, Cond.selects RX10 yX10_judged yX10_judged, Cond.code yX10_judged cX10_judged 5 (some .int), Cond.methodLink RX10 164 yX10_refuseAs, Cond.instanceMethod yX10_refuseAs, Cond.selects RX10 yX10_refuseAs yX10_refuseAs, Cond.code yX10_refuseAs cX10_refuseAs 3 (some .int), Cond.methodLink RX10 167 yX10_whyNot, Cond.instanceMethod yX10_whyNot, Cond.selects RX10 yX10_whyNot yX10_whyNot, Cond.code yX10_whyNot cX10_whyNot 4 (some .int), Cond.methodLink RX10 161 yX10_bitsIn, Cond.static yX10_bitsIn, Cond.code yX10_bitsIn cX10_bitsIn 3 (some .int), Cond.methodLink RL 52 yX9_ends, Cond.instanceMethod yX9_ends, Cond.selects RX9 yX9_ends yX9_ends, Cond.code yX9_ends cX9_ends 2 (some .int), Cond.methodLink RX9 159 yX2_isPerson, Cond.methodLink RX9 162 yX2_lastCorner, Cond.instanceMethod yX2_lastCorner, Cond.selects RX2 yX2_lastCorner yX2_lastCorner]
def wsL_law_r25 : List Cond := [Cond.code yX2_lastCorner cX2_lastCorner 3 (some .int), Cond.methodLink RX2 77 yX2_goes, Cond.methodLink RL 55 yX10_ends, Cond.instanceMethod yX10_ends, Cond.selects RX10 yX10_ends yX10_ends, Cond.code yX10_ends cX10_ends 4 (some .int), Cond.methodLink RX10 170 yX10_isPerson, Cond.instanceMethod yX10_isPerson, Cond.selects RX10 yX10_isPerson yX10_isPerson, Cond.code yX10_isPerson cX10_isPerson 2 (some .boolean), Cond.methodLink RL 56 yX9_parted, Cond.instanceMethod yX9_parted, Cond.selects RX9 yX9_parted yX9_parted, Cond.code yX9_parted cX9_parted 4 (some .int), Cond.methodLink RX9 166 yX4_fill, Cond.instanceMethod yX4_fill, Cond.selects RX4 yX4_fill yX4_fill, Cond.code yX4_fill cX4_fill 6 none, Cond.methodLink RX4 25 yX1_fits, Cond.methodLink RX4 30 yX4_fillEnds, Cond.instanceMethod yX4_fillEnds, Cond.selects RX4 yX4_fillEnds yX4_fillEnds, Cond.code yX4_fillEnds cX4_fillEnds 3 none, Cond.methodLink RX4 33 yX4_addEnd]
def wsL_law_r26 : List Cond := [Cond.instanceMethod yX4_addEnd, Cond.selects RX4 yX4_addEnd yX4_addEnd, Cond.code yX4_addEnd cX4_addEnd 3 none, Cond.methodLink RX4 37 Lib.Math.max.name, Cond.methodLink RX9 170 yX4_number, Cond.instanceMethod yX4_number, Cond.selects RX4 yX4_number yX4_number, Cond.code yX4_number cX4_number 2 (some .int), Cond.methodLink RX4 47 yX4_numberFrom, Cond.instanceMethod yX4_numberFrom, Cond.selects RX4 yX4_numberFrom yX4_numberFrom, Cond.code yX4_numberFrom cX4_numberFrom 4 (some .int), Cond.methodLink RX9 173 yX4_fewest, Cond.instanceMethod yX4_fewest, Cond.selects RX4 yX4_fewest yX4_fewest, Cond.code yX4_fewest cX4_fewest 2 (some .int), Cond.methodLink RX9 176 yX4_most, Cond.instanceMethod yX4_most, Cond.selects RX4 yX4_most yX4_most, Cond.code yX4_most cX4_most 2 (some .int), Cond.methodLink RL 60 yX10_parted, Cond.instanceMethod yX10_parted, Cond.selects RX10 yX10_parted yX10_parted, Cond.code yX10_parted cX10_parted 5 (some .int)]
def wsL_law_r27 : List Cond := [Cond.methodLink RX10 173 yX10_findRows, Cond.instanceMethod yX10_findRows, Cond.selects RX10 yX10_findRows yX10_findRows, Cond.code yX10_findRows cX10_findRows 8 none, Cond.methodLink RL 61 yX9_row, Cond.instanceMethod yX9_row, Cond.selects RX9 yX9_row yX9_row, Cond.code yX9_row cX9_row 5 (some .int), Cond.methodLink RX9 179 yX4_size, Cond.instanceMethod yX4_size, Cond.selects RX4 yX4_size yX4_size, Cond.code yX4_size cX4_size 9 (some .int), Cond.methodLink RX4 50 yX4_number, Cond.methodLink RX4 54 yX4_has, Cond.instanceMethod yX4_has, Cond.selects RX4 yX4_has yX4_has, Cond.code yX4_has cX4_has 4 (some .boolean), Cond.methodLink RL 65 yX10_row, Cond.instanceMethod yX10_row, Cond.selects RX10 yX10_row yX10_row, Cond.code yX10_row cX10_row 10 (some .int), Cond.methodLink RL 66 yX9_knot, Cond.instanceMethod yX9_knot, Cond.selects RX9 yX9_knot yX9_knot]
def wsL_law_r28 : List Cond := [Cond.code yX9_knot cX9_knot 2 (some .int), Cond.fieldLink RX9 182 "OnlyPrimes$Kept" "knots" "LOnlyPrimes$Slots;", Cond.methodLink RL 69 yX10_knot, Cond.instanceMethod yX10_knot, Cond.selects RX10 yX10_knot yX10_knot, Cond.code yX10_knot cX10_knot 3 (some .int), Cond.methodLink RL 70 yX9_untie, Cond.instanceMethod yX9_untie, Cond.selects RX9 yX9_untie yX9_untie, Cond.code yX9_untie cX9_untie 2 (some .int), Cond.fieldLink RX9 185 "OnlyPrimes$Kept" "countedKnots" "LOnlyPrimes$Slots;", Cond.fieldLink RX9 188 "OnlyPrimes$Kept" "countedSizes" "LOnlyPrimes$Slots;", Cond.methodLink RL 73 yX10_untie, Cond.instanceMethod yX10_untie, Cond.selects RX10 yX10_untie yX10_untie, Cond.code yX10_untie cX10_untie 2 (some .int), Cond.methodLink RL 74 yX9_counted, Cond.instanceMethod yX9_counted, Cond.selects RX9 yX9_counted yX9_counted, Cond.code yX9_counted cX9_counted 3 (some .int), Cond.methodLink RX9 191 yX9_isKnot, Cond.instanceMethod yX9_isKnot, Cond.selects RX9 yX9_isKnot yX9_isKnot, Cond.code yX9_isKnot cX9_isKnot 2 (some .boolean)]
def wsL_law_r29 : List Cond := [Cond.methodLink RL 77 yX10_counted, Cond.instanceMethod yX10_counted, Cond.selects RX10 yX10_counted yX10_counted, Cond.code yX10_counted cX10_counted 4 (some .int), Cond.methodLink RX10 177 yX10_isKnot, Cond.instanceMethod yX10_isKnot, Cond.selects RX10 yX10_isKnot yX10_isKnot, Cond.code yX10_isKnot cX10_isKnot 2 (some .boolean), Cond.methodLink RL 78 yX9_partings, Cond.instanceMethod yX9_partings, Cond.selects RX9 yX9_partings yX9_partings, Cond.code yX9_partings cX9_partings 3 (some .int), Cond.methodLink RX9 194 yX6_partKnots, Cond.instanceMethod yX6_partKnots, Cond.selects RX6 yX6_partKnots yX6_partKnots, Cond.code yX6_partKnots cX6_partKnots 4 none, Cond.fieldLink RX6 28 "OnlyPrimes$Kept" "knots" "LOnlyPrimes$Slots;", Cond.fieldLink RX6 38 "OnlyPrimes$Sets" "things" "I", Cond.methodLink RX6 34 yX6_addUp, Cond.instanceMethod yX6_addUp, Cond.selects RX6 yX6_addUp yX6_addUp, Cond.code yX6_addUp cX6_addUp 4 none, Cond.methodLink RX6 77 Lib.Math.min.name, Cond.static Lib.Math.min.name]
def wsL_law_r30 : List Cond := [Cond.code Lib.Math.min.name Lib.Math.min.code 2 (some .int), Cond.methodLink RX6 55 yX7_size, Cond.methodLink RX6 61 yX7_get, Cond.methodLink RX6 42 yX1_fits, Cond.methodLink RX6 45 yX6_isAsCounted, Cond.instanceMethod yX6_isAsCounted, Cond.selects RX6 yX6_isAsCounted yX6_isAsCounted, Cond.code yX6_isAsCounted cX6_isAsCounted 5 (some .boolean), Cond.fieldLink RX6 52 "OnlyPrimes$Kept" "countedKnots" "LOnlyPrimes$Slots;", Cond.fieldLink RX6 65 "OnlyPrimes$Kept" "countedSizes" "LOnlyPrimes$Slots;", Cond.methodLink RX6 49 yX6_solve, Cond.instanceMethod yX6_solve, Cond.selects RX6 yX6_solve yX6_solve, Cond.code yX6_solve cX6_solve 4 none, Cond.methodLink RX6 83 yX6_addSet, Cond.instanceMethod yX6_addSet, Cond.selects RX6 yX6_addSet yX6_addSet, Cond.code yX6_addSet cX6_addSet 3 none, Cond.methodLink RX6 87 Lib.Math.max.name, Cond.methodLink RX9 197 yX6_number, Cond.instanceMethod yX6_number, Cond.selects RX6 yX6_number yX6_number, Cond.code yX6_number cX6_number 1 (some .int), Cond.methodLink RX6 90 yX6_all]
def wsL_law_r31 : List Cond := [Cond.instanceMethod yX6_all, Cond.selects RX6 yX6_all yX6_all, Cond.code yX6_all cX6_all 1 (some .int), Cond.methodLink RX9 199 yX6_fewest, Cond.instanceMethod yX6_fewest, Cond.selects RX6 yX6_fewest yX6_fewest, Cond.code yX6_fewest cX6_fewest 1 (some .int), Cond.methodLink RX9 201 yX6_most, Cond.instanceMethod yX6_most, Cond.selects RX6 yX6_most yX6_most, Cond.code yX6_most cX6_most 1 (some .int), Cond.methodLink RL 81 yX10_partings, Cond.instanceMethod yX10_partings, Cond.selects RX10 yX10_partings yX10_partings, Cond.code yX10_partings cX10_partings 4 (some .int), Cond.methodLink RX10 183 yX10_findParts, Cond.instanceMethod yX10_findParts, Cond.selects RX10 yX10_findParts yX10_findParts, Cond.code yX10_findParts cX10_findParts 8 none, Cond.methodLink RX10 180 yX10_isCompany, Cond.instanceMethod yX10_isCompany, Cond.selects RX10 yX10_isCompany yX10_isCompany, Cond.code yX10_isCompany cX10_isCompany 6 (some .boolean), Cond.methodLink RX10 186 yX10_allKnots]
def wsL_law_r32 : List Cond := [Cond.instanceMethod yX10_allKnots, Cond.selects RX10 yX10_allKnots yX10_allKnots, Cond.code yX10_allKnots cX10_allKnots 1 (some .int), Cond.methodLink RL 82 yX9_together, Cond.instanceMethod yX9_together, Cond.selects RX9 yX9_together yX9_together, Cond.code yX9_together cX9_together 4 (some .int), Cond.methodLink RX9 203 yX6_numberWith, Cond.instanceMethod yX6_numberWith, Cond.selects RX6 yX6_numberWith yX6_numberWith, Cond.code yX6_numberWith cX6_numberWith 5 (some .int), Cond.methodLink RX9 206 yX9_keepFraction, Cond.instanceMethod yX9_keepFraction, Cond.selects RX9 yX9_keepFraction yX9_keepFraction, Cond.code yX9_keepFraction cX9_keepFraction 7 none, Cond.fieldLink RX9 260 "OnlyPrimes" "above" "I", Cond.methodLink RL 85 yX10_together, Cond.instanceMethod yX10_together, Cond.selects RX10 yX10_together yX10_together, Cond.code yX10_together cX10_together 7 (some .int), Cond.fieldLink RX10 192 "OnlyPrimesModel" "above" "I", Cond.methodLink RX10 189 yX10_common, Cond.static yX10_common, Cond.code yX10_common cX10_common 5 (some .int)]
def wsL_law_r33 : List Cond := [Cond.methodLink RL 86 yX9_soonest, Cond.instanceMethod yX9_soonest, Cond.selects RX9 yX9_soonest yX9_soonest, Cond.code yX9_soonest cX9_soonest 2 (some .int), Cond.methodLink RX9 209 yX8_search, Cond.instanceMethod yX8_search, Cond.selects RX8 yX8_search yX8_search, Cond.code yX8_search cX8_search 7 none, Cond.fieldLink RX8 39 "OnlyPrimes$Kept" "land" "LOnlyPrimes$Land;", Cond.fieldLink RX8 51 "OnlyPrimes$Walk" "people" "I", Cond.fieldLink RX8 57 "OnlyPrimes$Walk" "ways" "I", Cond.fieldLink RX8 60 "OnlyPrimes$Walk" "fitting" "I", Cond.fieldLink RX8 67 "OnlyPrimes$Land" "starts" "LOnlyPrimes$Slots;", Cond.fieldLink RX8 75 "OnlyPrimes$Land" "homes" "LOnlyPrimes$Slots;", Cond.methodLink RX8 45 yX2_people, Cond.methodLink RX8 54 yX2_wayBits, Cond.instanceMethod yX2_wayBits, Cond.selects RX2 yX2_wayBits yX2_wayBits, Cond.code yX2_wayBits cX2_wayBits 1 (some .int), Cond.methodLink RX8 63 yX1_fits, Cond.methodLink RX8 71 yX8_state, Cond.instanceMethod yX8_state, Cond.selects RX8 yX8_state yX8_state, Cond.code yX8_state cX8_state 4 (some .int)]
def wsL_law_r34 : List Cond := [Cond.methodLink RX8 99 yX7_get, Cond.methodLink RX8 78 yX8_searchAnew, Cond.instanceMethod yX8_searchAnew, Cond.selects RX8 yX8_searchAnew yX8_searchAnew, Cond.code yX8_searchAnew cX8_searchAnew 3 none, Cond.fieldLink RX8 86 "OnlyPrimes$Walk" "soonest" "I", Cond.methodLink RX8 82 yX8_spread, Cond.instanceMethod yX8_spread, Cond.selects RX8 yX8_spread yX8_spread, Cond.code yX8_spread cX8_spread 6 none, Cond.fieldLink RX8 116 "OnlyPrimes$Walk" "nearCount" "I", Cond.methodLink RX8 110 yX8_stateCount, Cond.instanceMethod yX8_stateCount, Cond.selects RX8 yX8_stateCount yX8_stateCount, Cond.code yX8_stateCount cX8_stateCount 1 (some .int), Cond.methodLink RX8 104 Lib.Math.min.name, Cond.methodLink RX8 113 yX8_findNear, Cond.instanceMethod yX8_findNear, Cond.selects RX8 yX8_findNear yX8_findNear, Cond.code yX8_findNear cX8_findNear 3 none, Cond.methodLink RX8 129 yX8_gather, Cond.instanceMethod yX8_gather, Cond.selects RX8 yX8_gather yX8_gather, Cond.code yX8_gather cX8_gather 6 (some .int)]
def wsL_law_r35 : List Cond := [Cond.methodLink RX8 95 yX8_shift, Cond.instanceMethod yX8_shift, Cond.selects RX8 yX8_shift yX8_shift, Cond.code yX8_shift cX8_shift 2 (some .int), Cond.methodLink RX8 132 yX8_findChoices, Cond.instanceMethod yX8_findChoices, Cond.selects RX8 yX8_findChoices yX8_findChoices, Cond.code yX8_findChoices cX8_findChoices 5 none, Cond.fieldLink RX8 138 "OnlyPrimes$Walk" "choiceCount" "I", Cond.methodLink RX8 141 yX8_chosen, Cond.instanceMethod yX8_chosen, Cond.selects RX8 yX8_chosen yX8_chosen, Cond.code yX8_chosen cX8_chosen 8 (some .int), Cond.methodLink RX8 135 yX8_multiply, Cond.instanceMethod yX8_multiply, Cond.selects RX8 yX8_multiply yX8_multiply, Cond.code yX8_multiply cX8_multiply 4 none, Cond.methodLink RX8 89 yX8_findNever, Cond.instanceMethod yX8_findNever, Cond.selects RX8 yX8_findNever yX8_findNever, Cond.code yX8_findNever cX8_findNever 4 none, Cond.fieldLink RX8 119 "OnlyPrimes$Walk" "never" "I", Cond.methodLink RX8 122 yX8_corner, Cond.instanceMethod yX8_corner]
def wsL_law_r36 : List Cond := [Cond.selects RX8 yX8_corner yX8_corner, Cond.code yX8_corner cX8_corner 3 (some .int), Cond.methodLink RX8 92 yX8_findPath, Cond.instanceMethod yX8_findPath, Cond.selects RX8 yX8_findPath yX8_findPath, Cond.code yX8_findPath cX8_findPath 5 none, Cond.methodLink RL 89 yX10_soonest, Cond.instanceMethod yX10_soonest, Cond.selects RX10 yX10_soonest yX10_soonest, Cond.code yX10_soonest cX10_soonest 3 (some .int), Cond.methodLink RX10 204 yX10_stateOf, Cond.instanceMethod yX10_stateOf, Cond.selects RX10 yX10_stateOf yX10_stateOf, Cond.code yX10_stateOf cX10_stateOf 4 (some .int), Cond.methodLink RX10 207 yX10_findFar, Cond.instanceMethod yX10_findFar, Cond.selects RX10 yX10_findFar yX10_findFar, Cond.code yX10_findFar cX10_findFar 6 none, Cond.methodLink RX10 198 yX10_states, Cond.instanceMethod yX10_states, Cond.selects RX10 yX10_states yX10_states, Cond.code yX10_states cX10_states 1 (some .int), Cond.methodLink RX10 201 yX10_isStep, Cond.instanceMethod yX10_isStep]
def wsL_law_r37 : List Cond := [Cond.selects RX10 yX10_isStep yX10_isStep, Cond.code yX10_isStep cX10_isStep 7 (some .boolean), Cond.methodLink RX10 195 yX10_whereIn, Cond.instanceMethod yX10_whereIn, Cond.selects RX10 yX10_whereIn yX10_whereIn, Cond.code yX10_whereIn cX10_whereIn 3 (some .int), Cond.methodLink RL 90 yX9_at, Cond.instanceMethod yX9_at, Cond.selects RX9 yX9_at yX9_at, Cond.code yX9_at cX9_at 4 (some .int), Cond.methodLink RX9 215 yX8_cornerBehind, Cond.instanceMethod yX8_cornerBehind, Cond.selects RX8 yX8_cornerBehind yX8_cornerBehind, Cond.code yX8_cornerBehind cX8_cornerBehind 3 (some .int), Cond.methodLink RL 93 yX10_at, Cond.instanceMethod yX10_at, Cond.selects RX10 yX10_at yX10_at, Cond.code yX10_at cX10_at 7 (some .int), Cond.methodLink RL 94 yX9_never, Cond.instanceMethod yX9_never, Cond.selects RX9 yX9_never yX9_never, Cond.code yX9_never cX9_never 2 (some .int), Cond.methodLink RL 97 yX10_never, Cond.instanceMethod yX10_never]
def wsL_law_r38 : List Cond := [Cond.selects RX10 yX10_never yX10_never, Cond.code yX10_never cX10_never 5 (some .int), Cond.methodLink RL 98 yX9_hired, Cond.instanceMethod yX9_hired, Cond.selects RX9 yX9_hired yX9_hired, Cond.code yX9_hired cX9_hired 5 (some .int), Cond.methodLink RL 102 yX10_hired, Cond.instanceMethod yX10_hired, Cond.selects RX10 yX10_hired yX10_hired, Cond.code yX10_hired cX10_hired 4 (some .int), Cond.methodLink RL 103 yX9_last, Cond.instanceMethod yX9_last, Cond.selects RX9 yX9_last yX9_last, Cond.code yX9_last cX9_last 4 (some .int), Cond.fieldLink RX9 221 "OnlyPrimes$Kept" "lasts" "LOnlyPrimes$Slots;", Cond.methodLink RX9 224 yX7_get, Cond.methodLink RX9 227 yX7_set, Cond.methodLink RL 106 yX10_last, Cond.instanceMethod yX10_last, Cond.selects RX10 yX10_last yX10_last, Cond.code yX10_last cX10_last 4 (some .int), Cond.methodLink RL 107 yX9_still, Cond.instanceMethod yX9_still, Cond.selects RX9 yX9_still yX9_still]
def wsL_law_r39 : List Cond := [Cond.code yX9_still cX9_still 4 (some .int), Cond.methodLink RX9 229 yX2_starters, Cond.instanceMethod yX2_starters, Cond.selects RX2 yX2_starters yX2_starters, Cond.code yX2_starters cX2_starters 4 (some .int), Cond.methodLink RX9 232 yX1_canLeave, Cond.instanceMethod yX1_canLeave, Cond.selects RX1 yX1_canLeave yX1_canLeave, Cond.code yX1_canLeave cX1_canLeave 4 (some .boolean), Cond.methodLink RX1 73 yX2_hasWayOut, Cond.instanceMethod yX2_hasWayOut, Cond.selects RX2 yX2_hasWayOut yX2_hasWayOut, Cond.code yX2_hasWayOut cX2_hasWayOut 3 (some .boolean), Cond.methodLink RX2 53 yX2_hasWay, Cond.methodLink RX1 76 yX2_starters, Cond.methodLink RX1 80 yX1_fits, Cond.methodLink RX1 84 yX7_get, Cond.methodLink RL 110 yX10_still, Cond.instanceMethod yX10_still, Cond.selects RX10 yX10_still yX10_still, Cond.code yX10_still cX10_still 8 (some .int), Cond.methodLink RL 111 yX9_tables, Cond.instanceMethod yX9_tables, Cond.selects RX9 yX9_tables yX9_tables]
def wsL_law_r40 : List Cond := [Cond.code yX9_tables cX9_tables 7 (some .int), Cond.methodLink RX9 235 yX5_lay, Cond.instanceMethod yX5_lay, Cond.selects RX5 yX5_lay yX5_lay, Cond.code yX5_lay cX5_lay 8 none, Cond.fieldLink RX5 21 "OnlyPrimes$Seats" "first" "I", Cond.fieldLink RX5 31 "OnlyPrimes$Seats" "second" "I", Cond.fieldLink RX5 34 "OnlyPrimes$Seats" "third" "I", Cond.fieldLink RX5 37 "OnlyPrimes$Seats" "states" "I", Cond.methodLink RX5 25 yX1_fits, Cond.methodLink RX9 239 yX5_fewestStood, Cond.instanceMethod yX5_fewestStood, Cond.selects RX5 yX5_fewestStood yX5_fewestStood, Cond.code yX5_fewestStood cX5_fewestStood 4 (some .int), Cond.constant RX5 40 (1000000), Cond.methodLink RX5 48 Lib.Math.min.name, Cond.methodLink RX5 41 yX5_sitDown, Cond.instanceMethod yX5_sitDown, Cond.selects RX5 yX5_sitDown yX5_sitDown, Cond.code yX5_sitDown cX5_sitDown 5 none, Cond.methodLink RX5 54 yX5_improve, Cond.instanceMethod yX5_improve, Cond.selects RX5 yX5_improve yX5_improve, Cond.code yX5_improve cX5_improve 3 none]
def wsL_law_r41 : List Cond := [Cond.methodLink RX5 44 yX5_countStanding, Cond.instanceMethod yX5_countStanding, Cond.selects RX5 yX5_countStanding yX5_countStanding, Cond.code yX5_countStanding cX5_countStanding 4 none, Cond.methodLink RX9 242 yX5_fewestLeft, Cond.instanceMethod yX5_fewestLeft, Cond.selects RX5 yX5_fewestLeft yX5_fewestLeft, Cond.code yX5_fewestLeft cX5_fewestLeft 5 (some .int), Cond.methodLink RL 115 yX10_tables, Cond.instanceMethod yX10_tables, Cond.selects RX10 yX10_tables yX10_tables, Cond.code yX10_tables cX10_tables 9 (some .int), Cond.methodLink RX10 213 yX10_sink, Cond.instanceMethod yX10_sink, Cond.selects RX10 yX10_sink yX10_sink, Cond.code yX10_sink cX10_sink 4 none, Cond.methodLink RX10 217 yX10_seated, Cond.static yX10_seated, Cond.code yX10_seated cX10_seated 1 (some .int), Cond.methodLink RX10 220 yX10_isSeating, Cond.instanceMethod yX10_isSeating, Cond.selects RX10 yX10_isSeating yX10_isSeating, Cond.code yX10_isSeating cX10_isSeating 5 (some .boolean), Cond.methodLink RX10 210 yX10_isTable]
def wsL_law_r42 : List Cond := [Cond.instanceMethod yX10_isTable, Cond.selects RX10 yX10_isTable yX10_isTable, Cond.code yX10_isTable cX10_isTable 4 (some .boolean), Cond.methodLink RL 116 yX9_company, Cond.instanceMethod yX9_company, Cond.selects RX9 yX9_company yX9_company, Cond.code yX9_company cX9_company 2 (some .int), Cond.fieldLink RX9 245 "OnlyPrimes$Kept" "companies" "LOnlyPrimes$Slots;", Cond.methodLink RL 119 yX10_company, Cond.instanceMethod yX10_company, Cond.selects RX10 yX10_company yX10_company, Cond.code yX10_company cX10_company 3 (some .int), Cond.methodLink RL 120 yX9_disperse, Cond.instanceMethod yX9_disperse, Cond.selects RX9 yX9_disperse yX9_disperse, Cond.code yX9_disperse cX9_disperse 2 (some .int), Cond.methodLink RL 123 yX10_disperse, Cond.instanceMethod yX10_disperse, Cond.selects RX10 yX10_disperse yX10_disperse, Cond.code yX10_disperse cX10_disperse 2 (some .int), Cond.methodLink RL 124 yX9_put, Cond.instanceMethod yX9_put, Cond.selects RX9 yX9_put yX9_put, Cond.code yX9_put cX9_put 4 (some .int)]
def wsL_law_r43 : List Cond := [Cond.fieldLink RX9 248 "OnlyPrimes$Kept" "room" "I", Cond.fieldLink RX9 251 "OnlyPrimes$Kept" "crew" "I", Cond.methodLink RL 127 yX10_put, Cond.instanceMethod yX10_put, Cond.selects RX10 yX10_put yX10_put, Cond.code yX10_put cX10_put 4 (some .int), Cond.methodLink RL 128 yX9_ferry, Cond.instanceMethod yX9_ferry, Cond.selects RX9 yX9_ferry yX9_ferry, Cond.code yX9_ferry cX9_ferry 3 (some .int), Cond.methodLink RX9 254 yX6_partCompanies, Cond.instanceMethod yX6_partCompanies, Cond.selects RX6 yX6_partCompanies yX6_partCompanies, Cond.code yX6_partCompanies cX6_partCompanies 5 none, Cond.fieldLink RX6 68 "OnlyPrimes$Kept" "companies" "LOnlyPrimes$Slots;", Cond.fieldLink RX6 71 "OnlyPrimes$Kept" "crew" "I", Cond.fieldLink RX6 74 "OnlyPrimes$Kept" "room" "I", Cond.methodLink RX9 257 yX6_firstOfFewest, Cond.instanceMethod yX6_firstOfFewest, Cond.selects RX6 yX6_firstOfFewest yX6_firstOfFewest, Cond.code yX6_firstOfFewest cX6_firstOfFewest 3 (some .int), Cond.methodLink RX6 93 yX6_fewest, Cond.methodLink RL 131 yX10_ferry, Cond.instanceMethod yX10_ferry]
def wsL_law_r44 : List Cond := [Cond.selects RX10 yX10_ferry yX10_ferry, Cond.code yX10_ferry cX10_ferry 7 (some .int), Cond.methodLink RX10 224 yX10_isTrip, Cond.instanceMethod yX10_isTrip, Cond.selects RX10 yX10_isTrip yX10_isTrip, Cond.code yX10_isTrip cX10_isTrip 5 (some .boolean), Cond.methodLink RL 132 yX9_part, Cond.instanceMethod yX9_part, Cond.selects RX9 yX9_part yX9_part, Cond.code yX9_part cX9_part 2 (some .int), Cond.methodLink RL 135 yX10_part, Cond.instanceMethod yX10_part, Cond.selects RX10 yX10_part yX10_part, Cond.code yX10_part cX10_part 2 (some .int), Cond.methodLink RL 136 yX9_image, Cond.instanceMethod yX9_image, Cond.selects RX9 yX9_image yX9_image, Cond.code yX9_image cX9_image 2 (some .int), Cond.fieldLink RX9 266 "OnlyPrimes" "imagesKept" "I", Cond.methodLink RX9 263 yX1_copy, Cond.instanceMethod yX1_copy, Cond.selects RX1 yX1_copy yX1_copy, Cond.code yX1_copy cX1_copy 2 none, Cond.fieldLink RX1 52 "OnlyPrimes$Kept" "crew" "I"]
def wsL_law_r45 : List Cond := [Cond.methodLink RX1 55 yX2_copy, Cond.methodLink RX1 59 yX7_copy, Cond.methodLink RL 139 yX10_image, Cond.instanceMethod yX10_image, Cond.selects RX10 yX10_image yX10_image, Cond.code yX10_image cX10_image 2 (some .int), Cond.methodLink RX10 227 yX10_copyAll, Cond.instanceMethod yX10_copyAll, Cond.selects RX10 yX10_copyAll yX10_copyAll, Cond.code yX10_copyAll cX10_copyAll 4 none, Cond.methodLink RL 140 yX9_from, Cond.instanceMethod yX9_from, Cond.selects RX9 yX9_from yX9_from, Cond.code yX9_from cX9_from 2 (some .int), Cond.methodLink RL 143 yX10_from, Cond.instanceMethod yX10_from, Cond.selects RX10 yX10_from yX10_from, Cond.code yX10_from cX10_from 2 (some .int), Cond.methodLink RL 144 yX9_status, Cond.instanceMethod yX9_status, Cond.selects RX9 yX9_status yX9_status, Cond.code yX9_status cX9_status 2 (some .int), Cond.methodLink RL 147 yX10_status, Cond.instanceMethod yX10_status]
def wsL_law_r46 : List Cond := [Cond.selects RX10 yX10_status yX10_status, Cond.code yX10_status cX10_status 2 (some .int), Cond.methodLink RL 148 yX9_count, Cond.instanceMethod yX9_count, Cond.selects RX9 yX9_count yX9_count, Cond.code yX9_count cX9_count 2 (some .int), Cond.methodLink RX9 269 yX9_howMany, Cond.instanceMethod yX9_howMany, Cond.selects RX9 yX9_howMany yX9_howMany, Cond.code yX9_howMany cX9_howMany 2 (some .int), Cond.methodLink RX9 290 yX2_wayCount, Cond.instanceMethod yX2_wayCount, Cond.selects RX2 yX2_wayCount yX2_wayCount, Cond.code yX2_wayCount cX2_wayCount 1 (some .int), Cond.methodLink RX2 47 yJ6_bitCount_0f7a4, Cond.methodLink RL 151 yX10_count, Cond.instanceMethod yX10_count, Cond.selects RX10 yX10_count yX10_count, Cond.code yX10_count cX10_count 2 (some .int), Cond.methodLink RX10 233 yX10_countOf, Cond.instanceMethod yX10_countOf, Cond.selects RX10 yX10_countOf yX10_countOf, Cond.code yX10_countOf cX10_countOf 2 (some .int), Cond.methodLink RX10 230 yX10_waysNow]
def wsL_law_r47 : List Cond := [Cond.instanceMethod yX10_waysNow, Cond.selects RX10 yX10_waysNow yX10_waysNow, Cond.code yX10_waysNow cX10_waysNow 3 (some .int), Cond.methodLink RL 152 yX9_digest, Cond.instanceMethod yX9_digest, Cond.selects RX9 yX9_digest yX9_digest, Cond.code yX9_digest cX9_digest 4 (some .long), Cond.constantLong RX9 272 (619), Cond.methodLink RX9 274 yX9_mix, Cond.static yX9_mix, Cond.code yX9_mix cX9_mix 3 (some .long), Cond.constantLong RX9 293 (31), Cond.methodLink RX9 278 yX9_mixLand, Cond.static yX9_mixLand, Cond.code yX9_mixLand cX9_mixLand 7 (some .long), Cond.fieldLink RX9 295 "OnlyPrimes$Land" "homes" "LOnlyPrimes$Slots;", Cond.fieldLink RX9 298 "OnlyPrimes$Land" "hours" "LOnlyPrimes$Slots;", Cond.fieldLink RX9 301 "OnlyPrimes$Land" "froms" "LOnlyPrimes$Slots;", Cond.fieldLink RX9 304 "OnlyPrimes$Land" "tos" "LOnlyPrimes$Slots;", Cond.fieldLink RX9 307 "OnlyPrimes$Land" "bands" "LOnlyPrimes$Slots;", Cond.methodLink RX9 286 yX9_mixPairs, Cond.static yX9_mixPairs, Cond.code yX9_mixPairs cX9_mixPairs 7 (some .long), Cond.methodLink RX9 282 yX9_mixAll]
def wsL_law_r48 : List Cond := [Cond.static yX9_mixAll, Cond.code yX9_mixAll cX9_mixAll 6 (some .long), Cond.methodLink RL 156 yX10_digest, Cond.instanceMethod yX10_digest, Cond.selects RX10 yX10_digest yX10_digest, Cond.code yX10_digest cX10_digest 2 (some .long), Cond.constantLong RX10 242 (619), Cond.fieldLink RX10 238 "OnlyPrimesModel" "sum" "J", Cond.methodLink RX10 244 yX10_mix, Cond.instanceMethod yX10_mix, Cond.selects RX10 yX10_mix yX10_mix, Cond.code yX10_mix cX10_mix 2 none, Cond.constantLong RX10 236 (31)]
def wsL_law : List Cond := (wsL_law_r1 ++ (wsL_law_r2 ++ (wsL_law_r3 ++ (wsL_law_r4 ++ (wsL_law_r5 ++ (wsL_law_r6 ++ (wsL_law_r7 ++ (wsL_law_r8 ++ (wsL_law_r9 ++ (wsL_law_r10 ++ (wsL_law_r11 ++ (wsL_law_r12 ++ (wsL_law_r13 ++ (wsL_law_r14 ++ (wsL_law_r15 ++ (wsL_law_r16 ++ (wsL_law_r17 ++ (wsL_law_r18 ++ (wsL_law_r19 ++ (wsL_law_r20 ++ (wsL_law_r21 ++ (wsL_law_r22 ++ (wsL_law_r23 ++ (wsL_law_r24 ++ (wsL_law_r25 ++ (wsL_law_r26 ++ (wsL_law_r27 ++ (wsL_law_r28 ++ (wsL_law_r29 ++ (wsL_law_r30 ++ (wsL_law_r31 ++ (wsL_law_r32 ++ (wsL_law_r33 ++ (wsL_law_r34 ++ (wsL_law_r35 ++ (wsL_law_r36 ++ (wsL_law_r37 ++ (wsL_law_r38 ++ (wsL_law_r39 ++ (wsL_law_r40 ++ (wsL_law_r41 ++ (wsL_law_r42 ++ (wsL_law_r43 ++ (wsL_law_r44 ++ (wsL_law_r45 ++ (wsL_law_r46 ++ (wsL_law_r47 ++ wsL_law_r48))))))))))))))))))))))))))))))))))))))))))))))) ++ wsX90 ++ wsX100 ++ wsX10 ++ wsX30 ++ wsX00 ++ wsX40 ++ wsX60 ++ wsX80 ++ wsX50 ++ wsX20 ++ wsX70 ++ ([] : List Cond)
theorem in_pos {big : List Cond} (ws : List Cond) (ps : List Nat) (hp : ws = ps.filterMap (fun i => big[i]?)) : ∀ w ∈ ws, w ∈ big := by
  intro w hw
  rw [hp] at hw
  obtain ⟨i, -, hi⟩ := List.mem_filterMap.mp hw
  exact List.mem_of_getElem? hi
set_option maxRecDepth 20000 in
theorem wsL_in_0 : ∀ w ∈ wsL_law_r1, w ∈ lw_tbl := in_pos _ [93, 94, 76, 1068, 1069, 87, 1459, 95, 96, 97, 98, 99, 100, 101, 102, 77, 397, 398, 129, 400, 402, 224, 225, 81] (by decide +kernel)
set_option maxRecDepth 20000 in
theorem wsL_in_1 : ∀ w ∈ wsL_law_r2, w ∈ lw_tbl := in_pos _ [403, 254, 255, 82, 404, 269, 270, 83, 405, 289, 290, 84, 406, 314, 315, 85, 407, 369, 370, 86, 408, 103, 104, 105] (by decide +kernel)
set_option maxRecDepth 20000 in
theorem wsL_in_2 : ∀ w ∈ wsL_law_r3, w ∈ lw_tbl := in_pos _ [106, 174, 176, 107, 108, 78, 182, 168, 114, 79, 186, 188, 191, 194, 197, 199, 110, 111, 112, 113, 131, 136, 140, 144] (by decide +kernel)
set_option maxRecDepth 20000 in
theorem wsL_in_3 : ∀ w ∈ wsL_law_r4, w ∈ lw_tbl := in_pos _ [147, 150, 115, 116, 117, 118, 119, 120, 80, 121, 122, 169, 170, 171, 172, 173, 123, 227, 228, 229, 230, 234, 232, 236] (by decide +kernel)
set_option maxRecDepth 20000 in
theorem wsL_in_4 : ∀ w ∈ wsL_law_r5, w ∈ lw_tbl := in_pos _ [233, 257, 258, 259, 260, 262, 263, 261, 272, 273, 274, 275, 276, 277, 288, 278, 292, 293, 294, 296, 297, 298, 299, 300] (by decide +kernel)
set_option maxRecDepth 20000 in
theorem wsL_in_5 : ∀ w ∈ wsL_law_r6, w ∈ lw_tbl := in_pos _ [317, 318, 319, 320, 324, 329, 330, 331, 333, 335, 336, 337, 372, 373, 374, 375, 380, 381, 1070, 1071, 1072, 1073, 1074, 1075] (by decide +kernel)
set_option maxRecDepth 20000 in
theorem wsL_in_6 : ∀ w ∈ wsL_law_r7, w ∈ lw_tbl := in_pos _ [1076, 1078, 1086, 1087, 1088, 1089, 1090, 1091, 1092, 1093, 1094, 1095, 1096, 1097, 1098, 1099, 1100, 1101, 1102, 1103, 1104, 1105, 434, 435] (by decide +kernel)
set_option maxRecDepth 20000 in
theorem wsL_in_7 : ∀ w ∈ wsL_law_r8, w ∈ lw_tbl := in_pos _ [436, 437, 438, 175, 439, 441, 0, 442, 1174, 1175, 1176, 1177, 1178, 1179, 1180, 1181, 1182, 1184, 43, 1185, 443, 444, 445, 446] (by decide +kernel)
set_option maxRecDepth 20000 in
theorem wsL_in_8 : ∀ w ∈ wsL_law_r9, w ∈ lw_tbl := in_pos _ [447, 448, 449, 450, 451, 452, 453, 454, 455, 456, 458, 459, 460, 461, 462, 463, 1186, 1187, 1188, 1189, 1190, 1191, 1192, 1193] (by decide +kernel)
set_option maxRecDepth 20000 in
theorem wsL_in_9 : ∀ w ∈ wsL_law_r10, w ∈ lw_tbl := in_pos _ [1195, 44, 1196, 1197, 1198, 1199, 1200, 1201, 1202, 464, 465, 466, 467, 185, 468, 469, 470, 471, 472, 473, 474, 130, 476, 477] (by decide +kernel)
set_option maxRecDepth 20000 in
theorem wsL_in_10 : ∀ w ∈ wsL_law_r11, w ∈ lw_tbl := in_pos _ [478, 479, 480, 481, 482, 1203, 1204, 1205, 1206, 1207, 1209, 45, 1210, 1211, 1213, 46, 1214, 483, 484, 485, 486, 135, 487, 488] (by decide +kernel)
set_option maxRecDepth 20000 in
theorem wsL_in_11 : ∀ w ∈ wsL_law_r12, w ∈ lw_tbl := in_pos _ [489, 490, 491, 492, 493, 494, 495, 496, 497, 498, 499, 500, 501, 502, 503, 1215, 1216, 1217, 1218, 504, 505, 506, 507, 187] (by decide +kernel)
set_option maxRecDepth 20000 in
theorem wsL_in_12 : ∀ w ∈ wsL_law_r13, w ∈ lw_tbl := in_pos _ [509, 508, 510, 1219, 1220, 1221, 1222, 1223, 511, 512, 513, 514, 515, 516, 517, 518, 1224, 1225, 1226, 1227, 519, 520, 521, 522] (by decide +kernel)
set_option maxRecDepth 20000 in
theorem wsL_in_13 : ∀ w ∈ wsL_law_r14, w ∈ lw_tbl := in_pos _ [235, 523, 524, 525, 526, 238, 239, 237, 527, 528, 529, 530, 531, 532, 533, 535, 1, 536, 240, 537, 539, 2, 540, 541] (by decide +kernel)
set_option maxRecDepth 20000 in
theorem wsL_in_14 : ∀ w ∈ wsL_law_r15, w ∈ lw_tbl := in_pos _ [542, 543, 544, 546, 548, 3, 549, 551, 553, 4, 554, 555, 556, 557, 88, 558, 1460, 559, 560, 561, 562, 563, 1461, 565] (by decide +kernel)
set_option maxRecDepth 20000 in
theorem wsL_in_15 : ∀ w ∈ wsL_law_r16, w ∈ lw_tbl := in_pos _ [566, 567, 568, 569, 570, 571, 572, 573, 574, 89, 575, 576, 577, 578, 579, 581, 582, 90, 583, 584, 585, 91, 586, 587] (by decide +kernel)
set_option maxRecDepth 20000 in
theorem wsL_in_16 : ∀ w ∈ wsL_law_r17, w ∈ lw_tbl := in_pos _ [588, 589, 590, 591, 592, 593, 594, 595, 596, 597, 599, 601, 605, 607, 5, 608, 609, 611, 6, 612, 613, 615, 7, 616] (by decide +kernel)
set_option maxRecDepth 20000 in
theorem wsL_in_17 : ∀ w ∈ wsL_law_r18, w ∈ lw_tbl := in_pos _ [617, 618, 619, 621, 8, 622, 623, 625, 9, 626, 134, 627, 628, 629, 631, 10, 632, 142, 633, 634, 635, 636, 637, 638] (by decide +kernel)
set_option maxRecDepth 20000 in
theorem wsL_in_18 : ∀ w ∈ wsL_law_r19, w ∈ lw_tbl := in_pos _ [639, 640, 641, 642, 644, 11, 645, 646, 647, 648, 649, 650, 652, 653, 654, 655, 656, 657, 658, 659, 660, 661, 662, 663] (by decide +kernel)
set_option maxRecDepth 20000 in
theorem wsL_in_19 : ∀ w ∈ wsL_law_r20, w ∈ lw_tbl := in_pos _ [664, 665, 666, 667, 1228, 1229, 1230, 1231, 1079, 1083, 1084, 1085, 1081, 1232, 1234, 47, 1235, 1080, 1082, 1236, 1238, 48, 1239, 1240] (by decide +kernel)
set_option maxRecDepth 20000 in
theorem wsL_in_20 : ∀ w ∈ wsL_law_r21, w ∈ lw_tbl := in_pos _ [1242, 49, 1243, 1244, 1246, 50, 1247, 1248, 1250, 51, 1251, 1252, 1254, 52, 1255, 1256, 1258, 53, 1259, 669, 670, 671, 672, 673] (by decide +kernel)
set_option maxRecDepth 20000 in
theorem wsL_in_21 : ∀ w ∈ wsL_law_r22, w ∈ lw_tbl := in_pos _ [674, 675, 676, 183, 132, 677, 678, 679, 680, 681, 682, 684, 12, 685, 145, 148, 151, 686, 687, 688, 689, 690, 692, 13] (by decide +kernel)
set_option maxRecDepth 20000 in
theorem wsL_in_22 : ∀ w ∈ wsL_law_r23, w ∈ lw_tbl := in_pos _ [693, 141, 694, 695, 696, 697, 92, 698, 699, 700, 701, 702, 703, 705, 14, 706, 707, 708, 709, 710, 711, 712, 713, 714] (by decide +kernel)
set_option maxRecDepth 20000 in
theorem wsL_in_23 : ∀ w ∈ wsL_law_r24, w ∈ lw_tbl := in_pos _ [138, 1260, 1261, 1262, 1263, 1264, 1266, 54, 1267, 1268, 1270, 55, 1271, 1272, 1273, 1274, 715, 716, 717, 718, 719, 720, 721, 722] (by decide +kernel)
set_option maxRecDepth 20000 in
theorem wsL_in_24 : ∀ w ∈ wsL_law_r25, w ∈ lw_tbl := in_pos _ [723, 724, 1275, 1276, 1277, 1278, 1279, 1281, 56, 1282, 725, 726, 727, 728, 729, 730, 731, 732, 733, 734, 736, 15, 737, 738] (by decide +kernel)
set_option maxRecDepth 20000 in
theorem wsL_in_25 : ∀ w ∈ wsL_law_r26, w ∈ lw_tbl := in_pos _ [740, 16, 741, 742, 743, 744, 745, 746, 747, 749, 17, 750, 752, 753, 754, 755, 756, 757, 758, 759, 1283, 1284, 1285, 1286] (by decide +kernel)
set_option maxRecDepth 20000 in
theorem wsL_in_26 : ∀ w ∈ wsL_law_r27, w ∈ lw_tbl := in_pos _ [1287, 1289, 57, 1290, 760, 761, 762, 763, 764, 765, 766, 767, 768, 769, 771, 18, 772, 1291, 1292, 1293, 1294, 773, 774, 775] (by decide +kernel)
set_option maxRecDepth 20000 in
theorem wsL_in_27 : ∀ w ∈ wsL_law_r28, w ∈ lw_tbl := in_pos _ [776, 190, 1295, 1296, 1297, 1298, 777, 778, 779, 780, 193, 196, 1299, 1300, 1301, 1302, 781, 782, 783, 784, 785, 787, 19, 788] (by decide +kernel)
set_option maxRecDepth 20000 in
theorem wsL_in_28 : ∀ w ∈ wsL_law_r29, w ∈ lw_tbl := in_pos _ [1303, 1304, 1305, 1306, 1307, 1309, 58, 1310, 789, 790, 791, 792, 793, 794, 795, 796, 189, 295, 797, 799, 20, 800, 802, 803] (by decide +kernel)
set_option maxRecDepth 20000 in
theorem wsL_in_29 : ∀ w ∈ wsL_law_r30, w ∈ lw_tbl := in_pos _ [804, 801, 805, 806, 807, 809, 21, 810, 192, 195, 811, 813, 22, 814, 815, 817, 23, 818, 819, 820, 821, 822, 823, 824] (by decide +kernel)
set_option maxRecDepth 20000 in
theorem wsL_in_30 : ∀ w ∈ wsL_law_r31, w ∈ lw_tbl := in_pos _ [826, 24, 827, 828, 829, 830, 831, 832, 833, 834, 835, 1311, 1312, 1313, 1314, 1315, 1317, 59, 1318, 1319, 1321, 60, 1322, 1323] (by decide +kernel)
set_option maxRecDepth 20000 in
theorem wsL_in_31 : ∀ w ∈ wsL_law_r32, w ∈ lw_tbl := in_pos _ [1325, 61, 1326, 836, 837, 838, 839, 840, 841, 842, 843, 844, 846, 25, 847, 401, 1327, 1328, 1329, 1330, 1077, 1331, 1332, 1333] (by decide +kernel)
set_option maxRecDepth 20000 in
theorem wsL_in_32 : ∀ w ∈ wsL_law_r33, w ∈ lw_tbl := in_pos _ [848, 849, 850, 851, 852, 853, 854, 855, 184, 321, 322, 323, 133, 137, 856, 857, 858, 859, 860, 861, 862, 864, 26, 865] (by decide +kernel)
set_option maxRecDepth 20000 in
theorem wsL_in_33 : ∀ w ∈ wsL_law_r34, w ∈ lw_tbl := in_pos _ [866, 867, 869, 27, 870, 325, 871, 873, 28, 874, 332, 875, 877, 29, 878, 879, 880, 882, 30, 883, 884, 886, 31, 887] (by decide +kernel)
set_option maxRecDepth 20000 in
theorem wsL_in_34 : ∀ w ∈ wsL_law_r35, w ∈ lw_tbl := in_pos _ [888, 890, 32, 891, 892, 894, 33, 895, 334, 896, 898, 34, 899, 900, 902, 35, 903, 904, 906, 36, 907, 327, 908, 910] (by decide +kernel)
set_option maxRecDepth 20000 in
theorem wsL_in_35 : ∀ w ∈ wsL_law_r36, w ∈ lw_tbl := in_pos _ [37, 911, 912, 914, 38, 915, 1334, 1335, 1336, 1337, 1338, 1340, 62, 1341, 1342, 1344, 63, 1345, 1346, 1348, 64, 1349, 1350, 1352] (by decide +kernel)
set_option maxRecDepth 20000 in
theorem wsL_in_36 : ∀ w ∈ wsL_law_r37, w ∈ lw_tbl := in_pos _ [65, 1353, 1354, 1356, 66, 1357, 916, 917, 918, 919, 920, 921, 922, 923, 1358, 1359, 1360, 1361, 925, 926, 927, 928, 1362, 1363] (by decide +kernel)
set_option maxRecDepth 20000 in
theorem wsL_in_37 : ∀ w ∈ wsL_law_r38, w ∈ lw_tbl := in_pos _ [1364, 1365, 929, 930, 931, 932, 1366, 1367, 1368, 1369, 933, 934, 935, 936, 198, 937, 938, 1370, 1371, 1372, 1373, 939, 940, 941] (by decide +kernel)
set_option maxRecDepth 20000 in
theorem wsL_in_38 : ∀ w ∈ wsL_law_r39, w ∈ lw_tbl := in_pos _ [942, 943, 944, 945, 946, 947, 948, 949, 950, 951, 952, 953, 954, 955, 956, 957, 958, 1374, 1375, 1376, 1377, 959, 960, 961] (by decide +kernel)
set_option maxRecDepth 20000 in
theorem wsL_in_39 : ∀ w ∈ wsL_law_r40, w ∈ lw_tbl := in_pos _ [962, 963, 964, 965, 966, 376, 377, 378, 379, 967, 968, 969, 970, 971, 972, 985, 973, 975, 39, 976, 977, 979, 40, 980] (by decide +kernel)
set_option maxRecDepth 20000 in
theorem wsL_in_40 : ∀ w ∈ wsL_law_r41, w ∈ lw_tbl := in_pos _ [981, 983, 41, 984, 986, 987, 988, 989, 1378, 1379, 1380, 1381, 1382, 1384, 67, 1385, 1386, 1387, 1388, 1389, 1391, 68, 1392, 1393] (by decide +kernel)
set_option maxRecDepth 20000 in
theorem wsL_in_41 : ∀ w ∈ wsL_law_r42, w ∈ lw_tbl := in_pos _ [1395, 69, 1396, 990, 991, 992, 993, 201, 1397, 1398, 1399, 1400, 994, 995, 996, 997, 1401, 1402, 1403, 1404, 998, 999, 1000, 1001] (by decide +kernel)
set_option maxRecDepth 20000 in
theorem wsL_in_42 : ∀ w ∈ wsL_law_r43, w ∈ lw_tbl := in_pos _ [178, 181, 1405, 1406, 1407, 1408, 1002, 1003, 1004, 1005, 1006, 1007, 1008, 1009, 200, 180, 177, 1010, 1011, 1012, 1013, 1014, 1409, 1410] (by decide +kernel)
set_option maxRecDepth 20000 in
theorem wsL_in_43 : ∀ w ∈ wsL_law_r44, w ∈ lw_tbl := in_pos _ [1411, 1412, 1413, 1415, 70, 1416, 1015, 1016, 1017, 1018, 1417, 1418, 1419, 1420, 1019, 1020, 1021, 1022, 399, 1023, 1024, 1025, 1026, 179] (by decide +kernel)
set_option maxRecDepth 20000 in
theorem wsL_in_44 : ∀ w ∈ wsL_law_r45, w ∈ lw_tbl := in_pos _ [1027, 1028, 1421, 1422, 1423, 1424, 1425, 1427, 71, 1428, 1029, 1030, 1031, 1032, 1429, 1430, 1431, 1432, 1033, 1034, 1035, 1036, 1433, 1434] (by decide +kernel)
set_option maxRecDepth 20000 in
theorem wsL_in_45 : ∀ w ∈ wsL_law_r46, w ∈ lw_tbl := in_pos _ [1435, 1436, 1037, 1038, 1039, 1040, 1041, 1043, 42, 1044, 1045, 1046, 1047, 1048, 1049, 1437, 1438, 1439, 1440, 1441, 1443, 72, 1444, 1445] (by decide +kernel)
set_option maxRecDepth 20000 in
theorem wsL_in_46 : ∀ w ∈ wsL_law_r47, w ∈ lw_tbl := in_pos _ [1447, 73, 1448, 1050, 1051, 1052, 1053, 1054, 1055, 1056, 1057, 1058, 1059, 1060, 1061, 139, 143, 146, 149, 152, 1062, 1063, 1064, 1065] (by decide +kernel)
set_option maxRecDepth 20000 in
theorem wsL_in_47 : ∀ w ∈ wsL_law_r48, w ∈ lw_tbl := in_pos _ [1066, 1067, 1449, 1450, 1451, 1452, 1453, 1106, 1454, 1456, 74, 1457, 1458] (by decide +kernel)
set_option maxRecDepth 20000 in
theorem wsL_in_48 : ∀ w ∈ wsX90, w ∈ lw_tbl := in_pos _ [409, 411, 413, 415, 417, 419, 421, 423, 425, 427, 429, 431] (by decide +kernel)
set_option maxRecDepth 20000 in
theorem wsL_in_49 : ∀ w ∈ wsX100, w ∈ lw_tbl := in_pos _ [1107, 1109, 1111, 1113, 1115, 1117, 1119, 1121, 1123, 1125, 1127, 1129, 1131, 1133, 1135, 1137, 1139, 1141, 1143, 1145, 1147, 1149, 1151, 1153, 1155, 1157, 1159, 1161, 1163, 1165, 1167, 1169, 1171] (by decide +kernel)
set_option maxRecDepth 20000 in
theorem wsL_in_50 : ∀ w ∈ wsX10, w ∈ lw_tbl := in_pos _ [202, 204, 206, 208, 210, 212, 214, 216, 218, 220] (by decide +kernel)
set_option maxRecDepth 20000 in
theorem wsL_in_51 : ∀ w ∈ wsX30, w ∈ lw_tbl := in_pos _ [241, 243, 245, 247, 249, 251] (by decide +kernel)
set_option maxRecDepth 20000 in
theorem wsL_in_52 : ∀ w ∈ wsX00, w ∈ lw_tbl := in_pos _ [264, 266] (by decide +kernel)
set_option maxRecDepth 20000 in
theorem wsL_in_53 : ∀ w ∈ wsX40, w ∈ lw_tbl := in_pos _ [279, 281, 283, 285] (by decide +kernel)
set_option maxRecDepth 20000 in
theorem wsL_in_54 : ∀ w ∈ wsX60, w ∈ lw_tbl := in_pos _ [301, 303, 305, 307, 309, 311] (by decide +kernel)
set_option maxRecDepth 20000 in
theorem wsL_in_55 : ∀ w ∈ wsX80, w ∈ lw_tbl := in_pos _ [338, 340, 342, 344, 346, 348, 350, 352, 354, 356, 358, 360, 362, 364, 366] (by decide +kernel)
set_option maxRecDepth 20000 in
theorem wsL_in_56 : ∀ w ∈ wsX50, w ∈ lw_tbl := in_pos _ [382, 384, 386, 388, 390, 392, 394] (by decide +kernel)
set_option maxRecDepth 20000 in
theorem wsL_in_57 : ∀ w ∈ wsX20, w ∈ lw_tbl := in_pos _ [153, 155, 157, 159, 161, 163, 165] (by decide +kernel)
set_option maxRecDepth 20000 in
theorem wsL_in_58 : ∀ w ∈ wsX70, w ∈ lw_tbl := in_pos _ [124, 126] (by decide +kernel)
theorem wsL_law_in : ∀ w ∈ wsL_law, w ∈ lw_tbl := (fun w h => (List.mem_append.mp h).elim ((fun w h => (List.mem_append.mp h).elim ((fun w h => (List.mem_append.mp h).elim ((fun w h => (List.mem_append.mp h).elim ((fun w h => (List.mem_append.mp h).elim ((fun w h => (List.mem_append.mp h).elim ((fun w h => (List.mem_append.mp h).elim ((fun w h => (List.mem_append.mp h).elim ((fun w h => (List.mem_append.mp h).elim ((fun w h => (List.mem_append.mp h).elim ((fun w h => (List.mem_append.mp h).elim ((fun w h => (List.mem_append.mp h).elim ((fun w h => (List.mem_append.mp h).elim (wsL_in_0 w) ((fun w h => (List.mem_append.mp h).elim (wsL_in_1 w) ((fun w h => (List.mem_append.mp h).elim (wsL_in_2 w) ((fun w h => (List.mem_append.mp h).elim (wsL_in_3 w) ((fun w h => (List.mem_append.mp h).elim (wsL_in_4 w) ((fun w h => (List.mem_append.mp h).elim (wsL_in_5 w) ((fun w h => (List.mem_append.mp h).elim (wsL_in_6 w) ((fun w h => (List.mem_append.mp h).elim (wsL_in_7 w) ((fun w h => (List.mem_append.mp h).elim (wsL_in_8 w) ((fun w h => (List.mem_append.mp h).elim (wsL_in_9 w) ((fun w h => (List.mem_append.mp h).elim (wsL_in_10 w) ((fun w h => (List.mem_append.mp h).elim (wsL_in_11 w) ((fun w h => (List.mem_append.mp h).elim (wsL_in_12 w) ((fun w h => (List.mem_append.mp h).elim (wsL_in_13 w) ((fun w h => (List.mem_append.mp h).elim (wsL_in_14 w) ((fun w h => (List.mem_append.mp h).elim (wsL_in_15 w) ((fun w h => (List.mem_append.mp h).elim (wsL_in_16 w) ((fun w h => (List.mem_append.mp h).elim (wsL_in_17 w) ((fun w h => (List.mem_append.mp h).elim (wsL_in_18 w) ((fun w h => (List.mem_append.mp h).elim (wsL_in_19 w) ((fun w h => (List.mem_append.mp h).elim (wsL_in_20 w) ((fun w h => (List.mem_append.mp h).elim (wsL_in_21 w) ((fun w h => (List.mem_append.mp h).elim (wsL_in_22 w) ((fun w h => (List.mem_append.mp h).elim (wsL_in_23 w) ((fun w h => (List.mem_append.mp h).elim (wsL_in_24 w) ((fun w h => (List.mem_append.mp h).elim (wsL_in_25 w) ((fun w h => (List.mem_append.mp h).elim (wsL_in_26 w) ((fun w h => (List.mem_append.mp h).elim (wsL_in_27 w) ((fun w h => (List.mem_append.mp h).elim (wsL_in_28 w) ((fun w h => (List.mem_append.mp h).elim (wsL_in_29 w) ((fun w h => (List.mem_append.mp h).elim (wsL_in_30 w) ((fun w h => (List.mem_append.mp h).elim (wsL_in_31 w) ((fun w h => (List.mem_append.mp h).elim (wsL_in_32 w) ((fun w h => (List.mem_append.mp h).elim (wsL_in_33 w) ((fun w h => (List.mem_append.mp h).elim (wsL_in_34 w) ((fun w h => (List.mem_append.mp h).elim (wsL_in_35 w) ((fun w h => (List.mem_append.mp h).elim (wsL_in_36 w) ((fun w h => (List.mem_append.mp h).elim (wsL_in_37 w) ((fun w h => (List.mem_append.mp h).elim (wsL_in_38 w) ((fun w h => (List.mem_append.mp h).elim (wsL_in_39 w) ((fun w h => (List.mem_append.mp h).elim (wsL_in_40 w) ((fun w h => (List.mem_append.mp h).elim (wsL_in_41 w) ((fun w h => (List.mem_append.mp h).elim (wsL_in_42 w) ((fun w h => (List.mem_append.mp h).elim (wsL_in_43 w) ((fun w h => (List.mem_append.mp h).elim (wsL_in_44 w) ((fun w h => (List.mem_append.mp h).elim (wsL_in_45 w) ((fun w h => (List.mem_append.mp h).elim (wsL_in_46 w) (wsL_in_47 w)) w)) w)) w)) w)) w)) w)) w)) w)) w)) w)) w)) w)) w)) w)) w)) w)) w)) w)) w)) w)) w)) w)) w)) w)) w)) w)) w)) w)) w)) w)) w)) w)) w)) w)) w)) w)) w)) w)) w)) w)) w)) w)) w)) w)) w)) w)) w) (wsL_in_48 w)) w) (wsL_in_49 w)) w) (wsL_in_50 w)) w) (wsL_in_51 w)) w) (wsL_in_52 w)) w) (wsL_in_53 w)) w) (wsL_in_54 w)) w) (wsL_in_55 w)) w) (wsL_in_56 w)) w) (wsL_in_57 w)) w) (wsL_in_58 w)) w) ((fun w h => absurd h List.not_mem_nil) w))
theorem inlX0 : ∀ w ∈ wsX00, w ∈ wsL_law := fun _ h => List.mem_append_left _ (List.mem_append_left _ (List.mem_append_left _ (List.mem_append_left _ (List.mem_append_left _ (List.mem_append_left _ (List.mem_append_left _ (List.mem_append_right _ h)))))))
theorem inX0 : ∀ w ∈ wsX00, w ∈ lw_tbl := fun w h => wsL_law_in w (inlX0 w h)
theorem inlX1 : ∀ w ∈ wsX10, w ∈ wsL_law := fun _ h => List.mem_append_left _ (List.mem_append_left _ (List.mem_append_left _ (List.mem_append_left _ (List.mem_append_left _ (List.mem_append_left _ (List.mem_append_left _ (List.mem_append_left _ (List.mem_append_left _ (List.mem_append_right _ h)))))))))
theorem inX1 : ∀ w ∈ wsX10, w ∈ lw_tbl := fun w h => wsL_law_in w (inlX1 w h)
theorem inlX2 : ∀ w ∈ wsX20, w ∈ wsL_law := fun _ h => List.mem_append_left _ (List.mem_append_left _ (List.mem_append_right _ h))
theorem inX2 : ∀ w ∈ wsX20, w ∈ lw_tbl := fun w h => wsL_law_in w (inlX2 w h)
theorem inlX3 : ∀ w ∈ wsX30, w ∈ wsL_law := fun _ h => List.mem_append_left _ (List.mem_append_left _ (List.mem_append_left _ (List.mem_append_left _ (List.mem_append_left _ (List.mem_append_left _ (List.mem_append_left _ (List.mem_append_left _ (List.mem_append_right _ h))))))))
theorem inX3 : ∀ w ∈ wsX30, w ∈ lw_tbl := fun w h => wsL_law_in w (inlX3 w h)
theorem inlX4 : ∀ w ∈ wsX40, w ∈ wsL_law := fun _ h => List.mem_append_left _ (List.mem_append_left _ (List.mem_append_left _ (List.mem_append_left _ (List.mem_append_left _ (List.mem_append_left _ (List.mem_append_right _ h))))))
theorem inX4 : ∀ w ∈ wsX40, w ∈ lw_tbl := fun w h => wsL_law_in w (inlX4 w h)
theorem inlX5 : ∀ w ∈ wsX50, w ∈ wsL_law := fun _ h => List.mem_append_left _ (List.mem_append_left _ (List.mem_append_left _ (List.mem_append_right _ h)))
theorem inX5 : ∀ w ∈ wsX50, w ∈ lw_tbl := fun w h => wsL_law_in w (inlX5 w h)
theorem inlX6 : ∀ w ∈ wsX60, w ∈ wsL_law := fun _ h => List.mem_append_left _ (List.mem_append_left _ (List.mem_append_left _ (List.mem_append_left _ (List.mem_append_left _ (List.mem_append_right _ h)))))
theorem inX6 : ∀ w ∈ wsX60, w ∈ lw_tbl := fun w h => wsL_law_in w (inlX6 w h)
theorem inlX7 : ∀ w ∈ wsX70, w ∈ wsL_law := fun _ h => List.mem_append_left _ (List.mem_append_right _ h)
theorem inX7 : ∀ w ∈ wsX70, w ∈ lw_tbl := fun w h => wsL_law_in w (inlX7 w h)
theorem inlX8 : ∀ w ∈ wsX80, w ∈ wsL_law := fun _ h => List.mem_append_left _ (List.mem_append_left _ (List.mem_append_left _ (List.mem_append_left _ (List.mem_append_right _ h))))
theorem inX8 : ∀ w ∈ wsX80, w ∈ lw_tbl := fun w h => wsL_law_in w (inlX8 w h)
theorem inlX9 : ∀ w ∈ wsX90, w ∈ wsL_law := fun _ h => List.mem_append_left _ (List.mem_append_left _ (List.mem_append_left _ (List.mem_append_left _ (List.mem_append_left _ (List.mem_append_left _ (List.mem_append_left _ (List.mem_append_left _ (List.mem_append_left _ (List.mem_append_left _ (List.mem_append_left _ (List.mem_append_right _ h)))))))))))
theorem inX9 : ∀ w ∈ wsX90, w ∈ lw_tbl := fun w h => wsL_law_in w (inlX9 w h)
theorem inlX10 : ∀ w ∈ wsX100, w ∈ wsL_law := fun _ h => List.mem_append_left _ (List.mem_append_left _ (List.mem_append_left _ (List.mem_append_left _ (List.mem_append_left _ (List.mem_append_left _ (List.mem_append_left _ (List.mem_append_left _ (List.mem_append_left _ (List.mem_append_left _ (List.mem_append_right _ h))))))))))
theorem inX10 : ∀ w ∈ wsX100, w ∈ lw_tbl := fun w h => wsL_law_in w (inlX10 w h)
theorem inJ6 : ∀ w ∈ wsJ60, w ∈ lw_tbl := by decide +kernel
theorem inJ9 : ∀ w ∈ wsJ90, w ∈ lw_tbl := by decide +kernel
theorem inJ0 : ∀ w ∈ wsJ00, w ∈ lw_tbl := by decide +kernel
theorem inJ1 : ∀ w ∈ wsJ10, w ∈ lw_tbl := by decide +kernel
theorem inJ2 : ∀ w ∈ wsJ20, w ∈ lw_tbl := by decide +kernel
theorem inJ3 : ∀ w ∈ wsJ30, w ∈ lw_tbl := by decide +kernel
set_option maxRecDepth 20000 in
theorem ggX0_init_X7_init : GoodIn wsX0_init wsX7_init := goodIn_r _ [11, 12, 2, 3, 13, 14, 15, 16, 17, 18, 19, 20] (by decide +kernel) (by decide +kernel)
set_option maxRecDepth 20000 in
theorem gX0_init_X7_init : GoodIn wsX0_init (wsX7_init) := ggX0_init_X7_init
theorem dX0_init_0 : decode cX0_init 0 = .ok (.aload_n 0, 1) := by decide +kernel
theorem dX0_init_1 : decode cX0_init 1 = .ok (.invokespecial 3, 3) := by decide +kernel
theorem dX0_init_4 : decode cX0_init 4 = .ok (.aload_n 0, 1) := by decide +kernel
theorem dX0_init_5 : decode cX0_init 5 = .ok (.new 9, 3) := by decide +kernel
theorem dX0_init_8 : decode cX0_init 8 = .ok (.dup, 1) := by decide +kernel
theorem dX0_init_9 : decode cX0_init 9 = .ok (.iconst 5, 1) := by decide +kernel
theorem dX0_init_10 : decode cX0_init 10 = .ok (.invokespecial 11, 3) := by decide +kernel
theorem dX0_init_13 : decode cX0_init 13 = .ok (.putfield 14, 3) := by decide +kernel
theorem dX0_init_16 : decode cX0_init 16 = .ok (.aload_n 0, 1) := by decide +kernel
theorem dX0_init_17 : decode cX0_init 17 = .ok (.new 9, 3) := by decide +kernel
theorem dX0_init_20 : decode cX0_init 20 = .ok (.dup, 1) := by decide +kernel
theorem dX0_init_21 : decode cX0_init 21 = .ok (.iconst 5, 1) := by decide +kernel
theorem dX0_init_22 : decode cX0_init 22 = .ok (.invokespecial 11, 3) := by decide +kernel
theorem dX0_init_25 : decode cX0_init 25 = .ok (.putfield 20, 3) := by decide +kernel
theorem dX0_init_28 : decode cX0_init 28 = .ok (.return_, 1) := by decide +kernel
set_option maxRecDepth 20000 in
theorem ggX0_firstWrong_X7_copy : GoodIn wsX0_firstWrong wsX7_copy := goodIn_r _ [9, 10, 11, 12, 13, 8, 14, 15, 16, 17, 18, 19, 20, 21, 22, 23, 121, 122] (by decide +kernel) (by decide +kernel)
set_option maxRecDepth 20000 in
theorem gX0_firstWrong_X7_copy : GoodIn wsX0_firstWrong (wsV RX0 34 RX7 yX7_copy wsX7_copy) := goodIn_app (goodIn_of _ (by decide +kernel)) ggX0_firstWrong_X7_copy
set_option maxRecDepth 20000 in
theorem ggX0_firstWrong_X7_empty : GoodIn wsX0_firstWrong wsX7_empty := goodIn_r _ [14, 10, 121, 122] (by decide +kernel) (by decide +kernel)
set_option maxRecDepth 20000 in
theorem gX0_firstWrong_X7_empty : GoodIn wsX0_firstWrong (wsV RX0 38 RX7 yX7_empty wsX7_empty) := goodIn_app (goodIn_of _ (by decide +kernel)) ggX0_firstWrong_X7_empty
set_option maxRecDepth 20000 in
theorem ggX0_firstWrong_X2_people : GoodIn wsX0_firstWrong wsX2_people := goodIn_r _ [29, 30, 31, 32, 33, 8, 34, 10, 114, 115, 116, 117, 118, 119, 120, 121, 122] (by decide +kernel) (by decide +kernel)
set_option maxRecDepth 20000 in
theorem gX0_firstWrong_X2_people : GoodIn wsX0_firstWrong (wsV RX0 41 RX2 yX2_people wsX2_people) := goodIn_app (goodIn_of _ (by decide +kernel)) ggX0_firstWrong_X2_people
set_option maxRecDepth 20000 in
theorem ggX0_firstWrong_X7_add : GoodIn wsX0_firstWrong wsX7_add := goodIn_r _ [23, 10, 19, 121, 122] (by decide +kernel) (by decide +kernel)
set_option maxRecDepth 20000 in
theorem gX0_firstWrong_X7_add : GoodIn wsX0_firstWrong (wsV RX0 45 RX7 yX7_add wsX7_add) := goodIn_app (goodIn_of _ (by decide +kernel)) ggX0_firstWrong_X7_add
set_option maxRecDepth 20000 in
theorem ggX0_firstWrong_X2_gos : GoodIn wsX0_firstWrong wsX2_gos := goodIn_r _ [39, 40, 31, 32, 33, 8, 34, 10, 114, 115, 116, 117, 118, 119, 120, 121, 122] (by decide +kernel) (by decide +kernel)
set_option maxRecDepth 20000 in
theorem gX0_firstWrong_X2_gos : GoodIn wsX0_firstWrong (wsV RX0 48 RX2 yX2_gos wsX2_gos) := goodIn_app (goodIn_of _ (by decide +kernel)) ggX0_firstWrong_X2_gos
set_option maxRecDepth 20000 in
theorem ggX0_firstWrong_X0_wrong : GoodIn wsX0_firstWrong wsX0_wrong := goodIn_r _ [45, 1, 46, 47, 48, 25, 26, 27, 28, 29, 30, 31, 32, 33, 8, 34, 10, 49, 50, 51, 52, 53, 54, 16, 17, 18, 19, 55, 56, 57, 44, 58, 2, 4, 59, 60, 61, 62, 63, 64, 65, 66, 67, 68, 69, 70, 71, 72, 73, 74, 75, 76, 77, 78, 79, 80, 81, 82, 83, 84, 85, 86, 87, 88, 89, 90, 91, 92, 93, 102, 103, 104, 105, 106, 107, 108, 109, 110, 111, 114, 115, 116, 117, 118, 119, 120, 121, 122, 112, 113] (by decide +kernel) (by decide +kernel)
set_option maxRecDepth 20000 in
theorem gX0_firstWrong_X0_wrong : GoodIn wsX0_firstWrong (wsV RX0 51 RX0 yX0_wrong wsX0_wrong) := goodIn_app (goodIn_of _ (by decide +kernel)) ggX0_firstWrong_X0_wrong
set_option maxRecDepth 20000 in
theorem ggX0_firstWrong_X0_move : GoodIn wsX0_firstWrong wsX0_move := goodIn_r _ [97, 2, 47, 4, 59, 25, 26, 27, 28, 29, 30, 31, 32, 33, 8, 34, 10, 49, 50, 51, 52, 53, 54, 16, 17, 18, 19, 60, 98, 99, 100, 101, 112, 113, 114, 115, 116, 117, 118, 119, 120, 121, 122] (by decide +kernel) (by decide +kernel)
set_option maxRecDepth 20000 in
theorem gX0_firstWrong_X0_move : GoodIn wsX0_firstWrong (wsV RX0 55 RX0 yX0_move wsX0_move) := goodIn_app (goodIn_of _ (by decide +kernel)) ggX0_firstWrong_X0_move
theorem dX0_firstWrong_0 : decode cX0_firstWrong 0 = .ok (.aload_n 1, 1) := by decide +kernel
theorem dX0_firstWrong_1 : decode cX0_firstWrong 1 = .ok (.getfield 23, 3) := by decide +kernel
theorem dX0_firstWrong_4 : decode cX0_firstWrong 4 = .ok (.astore_n 3, 1) := by decide +kernel
theorem dX0_firstWrong_5 : decode cX0_firstWrong 5 = .ok (.aload_n 0, 1) := by decide +kernel
theorem dX0_firstWrong_6 : decode cX0_firstWrong 6 = .ok (.getfield 14, 3) := by decide +kernel
theorem dX0_firstWrong_9 : decode cX0_firstWrong 9 = .ok (.aload_n 3, 1) := by decide +kernel
theorem dX0_firstWrong_10 : decode cX0_firstWrong 10 = .ok (.getfield 29, 3) := by decide +kernel
theorem dX0_firstWrong_13 : decode cX0_firstWrong 13 = .ok (.invokevirtual 34, 3) := by decide +kernel
theorem dX0_firstWrong_16 : decode cX0_firstWrong 16 = .ok (.aload_n 0, 1) := by decide +kernel
theorem dX0_firstWrong_17 : decode cX0_firstWrong 17 = .ok (.getfield 20, 3) := by decide +kernel
theorem dX0_firstWrong_20 : decode cX0_firstWrong 20 = .ok (.invokevirtual 38, 3) := by decide +kernel
theorem dX0_firstWrong_23 : decode cX0_firstWrong 23 = .ok (.iconst 0, 1) := by decide +kernel
theorem dX0_firstWrong_24 : decode cX0_firstWrong 24 = .ok (.istore 4, 2) := by decide +kernel
theorem dX0_firstWrong_26 : decode cX0_firstWrong 26 = .ok (.iload 4, 2) := by decide +kernel
theorem dX0_firstWrong_28 : decode cX0_firstWrong 28 = .ok (.aload_n 3, 1) := by decide +kernel
theorem dX0_firstWrong_29 : decode cX0_firstWrong 29 = .ok (.invokevirtual 41, 3) := by decide +kernel
theorem dX0_firstWrong_32 : decode cX0_firstWrong 32 = .ok (.if_icmp .ge 17, 3) := by decide +kernel
theorem dX0_firstWrong_35 : decode cX0_firstWrong 35 = .ok (.aload_n 0, 1) := by decide +kernel
theorem dX0_firstWrong_36 : decode cX0_firstWrong 36 = .ok (.getfield 20, 3) := by decide +kernel
theorem dX0_firstWrong_39 : decode cX0_firstWrong 39 = .ok (.iconst 0, 1) := by decide +kernel
theorem dX0_firstWrong_40 : decode cX0_firstWrong 40 = .ok (.invokevirtual 45, 3) := by decide +kernel
theorem dX0_firstWrong_43 : decode cX0_firstWrong 43 = .ok (.iinc 4 1, 3) := by decide +kernel
theorem dX0_firstWrong_46 : decode cX0_firstWrong 46 = .ok (.goto (-20), 3) := by decide +kernel
theorem dX0_firstWrong_49 : decode cX0_firstWrong 49 = .ok (.iconst 0, 1) := by decide +kernel
theorem dX0_firstWrong_50 : decode cX0_firstWrong 50 = .ok (.istore 4, 2) := by decide +kernel
theorem dX0_firstWrong_52 : decode cX0_firstWrong 52 = .ok (.iload 4, 2) := by decide +kernel
theorem dX0_firstWrong_54 : decode cX0_firstWrong 54 = .ok (.aload_n 3, 1) := by decide +kernel
theorem dX0_firstWrong_55 : decode cX0_firstWrong 55 = .ok (.invokevirtual 48, 3) := by decide +kernel
theorem dX0_firstWrong_58 : decode cX0_firstWrong 58 = .ok (.if_icmp .ge 40, 3) := by decide +kernel
theorem dX0_firstWrong_61 : decode cX0_firstWrong 61 = .ok (.aload_n 0, 1) := by decide +kernel
theorem dX0_firstWrong_62 : decode cX0_firstWrong 62 = .ok (.aload_n 1, 1) := by decide +kernel
theorem dX0_firstWrong_63 : decode cX0_firstWrong 63 = .ok (.iload_n 2, 1) := by decide +kernel
theorem dX0_firstWrong_64 : decode cX0_firstWrong 64 = .ok (.iload 4, 2) := by decide +kernel
theorem dX0_firstWrong_66 : decode cX0_firstWrong 66 = .ok (.invokevirtual 51, 3) := by decide +kernel
theorem dX0_firstWrong_69 : decode cX0_firstWrong 69 = .ok (.istore 5, 2) := by decide +kernel
theorem dX0_firstWrong_71 : decode cX0_firstWrong 71 = .ok (.iload 5, 2) := by decide +kernel
theorem dX0_firstWrong_73 : decode cX0_firstWrong 73 = .ok (.ifCond .le 12, 3) := by decide +kernel
theorem dX0_firstWrong_76 : decode cX0_firstWrong 76 = .ok (.bipush 10, 2) := by decide +kernel
theorem dX0_firstWrong_78 : decode cX0_firstWrong 78 = .ok (.iload 4, 2) := by decide +kernel
theorem dX0_firstWrong_80 : decode cX0_firstWrong 80 = .ok (.imul, 1) := by decide +kernel
theorem dX0_firstWrong_81 : decode cX0_firstWrong 81 = .ok (.iload 5, 2) := by decide +kernel
theorem dX0_firstWrong_83 : decode cX0_firstWrong 83 = .ok (.iadd, 1) := by decide +kernel
theorem dX0_firstWrong_84 : decode cX0_firstWrong 84 = .ok (.ireturn, 1) := by decide +kernel
theorem dX0_firstWrong_85 : decode cX0_firstWrong 85 = .ok (.aload_n 0, 1) := by decide +kernel
theorem dX0_firstWrong_86 : decode cX0_firstWrong 86 = .ok (.aload_n 3, 1) := by decide +kernel
theorem dX0_firstWrong_87 : decode cX0_firstWrong 87 = .ok (.iload 4, 2) := by decide +kernel
theorem dX0_firstWrong_89 : decode cX0_firstWrong 89 = .ok (.invokevirtual 55, 3) := by decide +kernel
theorem dX0_firstWrong_92 : decode cX0_firstWrong 92 = .ok (.iinc 4 1, 3) := by decide +kernel
theorem dX0_firstWrong_95 : decode cX0_firstWrong 95 = .ok (.goto (-43), 3) := by decide +kernel
theorem dX0_firstWrong_98 : decode cX0_firstWrong 98 = .ok (.iconst 0, 1) := by decide +kernel
theorem dX0_firstWrong_99 : decode cX0_firstWrong 99 = .ok (.ireturn, 1) := by decide +kernel
set_option maxRecDepth 20000 in
theorem ggX0_wrong_X2_people : GoodIn wsX0_wrong wsX2_people := goodIn_r _ [9, 10, 11, 12, 13, 14, 15, 16, 79, 80, 81, 82, 83, 84, 85, 86, 87] (by decide +kernel) (by decide +kernel)
set_option maxRecDepth 20000 in
theorem gX0_wrong_X2_people : GoodIn wsX0_wrong (wsV RX0 41 RX2 yX2_people wsX2_people) := goodIn_app (goodIn_of _ (by decide +kernel)) ggX0_wrong_X2_people
set_option maxRecDepth 20000 in
theorem ggX0_wrong_X2_goes : GoodIn wsX0_wrong wsX2_goes := goodIn_r _ [20, 21, 22, 23, 24, 14, 25, 16, 26, 79, 80, 81, 82, 83, 84, 85, 86, 87] (by decide +kernel) (by decide +kernel)
set_option maxRecDepth 20000 in
theorem gX0_wrong_X2_goes : GoodIn wsX0_wrong (wsV RX0 59 RX2 yX2_goes wsX2_goes) := goodIn_app (goodIn_of _ (by decide +kernel)) ggX0_wrong_X2_goes
set_option maxRecDepth 20000 in
theorem ggX0_wrong_X0_isReady : GoodIn wsX0_wrong wsX0_isReady := goodIn_r _ [31, 32, 2, 33, 34, 35, 23, 24, 14, 25, 16, 26, 88, 89, 79, 80, 81, 82, 83, 84, 85, 86, 87] (by decide +kernel) (by decide +kernel)
set_option maxRecDepth 20000 in
theorem gX0_wrong_X0_isReady : GoodIn wsX0_wrong (wsV RX0 63 RX0 yX0_isReady wsX0_isReady) := goodIn_app (goodIn_of _ (by decide +kernel)) ggX0_wrong_X0_isReady
set_option maxRecDepth 20000 in
theorem ggX0_wrong_X7_get : GoodIn wsX0_wrong wsX7_get := goodIn_r _ [25, 16, 26, 86, 87] (by decide +kernel) (by decide +kernel)
set_option maxRecDepth 20000 in
theorem gX0_wrong_X7_get : GoodIn wsX0_wrong (wsV RX0 70 RX7 yX7_get wsX7_get) := goodIn_app (goodIn_of _ (by decide +kernel)) ggX0_wrong_X7_get
set_option maxRecDepth 20000 in
theorem ggX0_wrong_X2_hasWay : GoodIn wsX0_wrong wsX2_hasWay := goodIn_r _ [39, 40, 41, 42, 43, 44, 45, 46, 47, 48, 8, 49, 79, 80, 81, 82, 83, 84, 85] (by decide +kernel) (by decide +kernel)
set_option maxRecDepth 20000 in
theorem gX0_wrong_X2_hasWay : GoodIn wsX0_wrong (wsV RX0 77 RX2 yX2_hasWay wsX2_hasWay) := goodIn_app (goodIn_of _ (by decide +kernel)) ggX0_wrong_X2_hasWay
set_option maxRecDepth 20000 in
theorem ggX0_wrong_J6_bitCount_0f7a4 : GoodIn wsX0_wrong wsJ6_bitCount_0f7a4 := goodIn_r _ [53, 54, 55, 56] (by decide +kernel) (by decide +kernel)
set_option maxRecDepth 20000 in
theorem gX0_wrong_J6_bitCount_0f7a4 : GoodIn wsX0_wrong (va_wsS RX0 83 yJ6_bitCount_0f7a4 wsJ6_bitCount_0f7a4) := goodIn_app (goodIn_of _ (by decide +kernel)) ggX0_wrong_J6_bitCount_0f7a4
set_option maxRecDepth 20000 in
theorem ggX0_wrong_X1_fits : GoodIn wsX0_wrong wsX1_fits := goodIn_r _ [61, 62, 45, 42, 46, 63, 64, 60, 65, 66, 67, 68, 69, 70, 71, 72, 73, 74, 75, 76, 77, 78] (by decide +kernel) (by decide +kernel)
set_option maxRecDepth 20000 in
theorem gX0_wrong_X1_fits : GoodIn wsX0_wrong (wsV RX0 88 RX1 yX1_fits wsX1_fits) := goodIn_app (goodIn_of _ (by decide +kernel)) ggX0_wrong_X1_fits
theorem dX0_wrong_0 : decode cX0_wrong 0 = .ok (.aload_n 1, 1) := by decide +kernel
theorem dX0_wrong_1 : decode cX0_wrong 1 = .ok (.getfield 23, 3) := by decide +kernel
theorem dX0_wrong_4 : decode cX0_wrong 4 = .ok (.astore 4, 2) := by decide +kernel
theorem dX0_wrong_6 : decode cX0_wrong 6 = .ok (.iconst 0, 1) := by decide +kernel
theorem dX0_wrong_7 : decode cX0_wrong 7 = .ok (.istore 5, 2) := by decide +kernel
theorem dX0_wrong_9 : decode cX0_wrong 9 = .ok (.iload 5, 2) := by decide +kernel
theorem dX0_wrong_11 : decode cX0_wrong 11 = .ok (.aload 4, 2) := by decide +kernel
theorem dX0_wrong_13 : decode cX0_wrong 13 = .ok (.invokevirtual 41, 3) := by decide +kernel
theorem dX0_wrong_16 : decode cX0_wrong 16 = .ok (.if_icmp .ge 34, 3) := by decide +kernel
theorem dX0_wrong_19 : decode cX0_wrong 19 = .ok (.aload 4, 2) := by decide +kernel
theorem dX0_wrong_21 : decode cX0_wrong 21 = .ok (.iload_n 3, 1) := by decide +kernel
theorem dX0_wrong_22 : decode cX0_wrong 22 = .ok (.iload 5, 2) := by decide +kernel
theorem dX0_wrong_24 : decode cX0_wrong 24 = .ok (.invokevirtual 59, 3) := by decide +kernel
theorem dX0_wrong_27 : decode cX0_wrong 27 = .ok (.ifCond .eq 17, 3) := by decide +kernel
theorem dX0_wrong_30 : decode cX0_wrong 30 = .ok (.aload_n 0, 1) := by decide +kernel
theorem dX0_wrong_31 : decode cX0_wrong 31 = .ok (.aload 4, 2) := by decide +kernel
theorem dX0_wrong_33 : decode cX0_wrong 33 = .ok (.iload_n 3, 1) := by decide +kernel
theorem dX0_wrong_34 : decode cX0_wrong 34 = .ok (.iload 5, 2) := by decide +kernel
theorem dX0_wrong_36 : decode cX0_wrong 36 = .ok (.invokevirtual 63, 3) := by decide +kernel
theorem dX0_wrong_39 : decode cX0_wrong 39 = .ok (.ifCond .ne 5, 3) := by decide +kernel
theorem dX0_wrong_42 : decode cX0_wrong 42 = .ok (.iconst 1, 1) := by decide +kernel
theorem dX0_wrong_43 : decode cX0_wrong 43 = .ok (.ireturn, 1) := by decide +kernel
theorem dX0_wrong_44 : decode cX0_wrong 44 = .ok (.iinc 5 1, 3) := by decide +kernel
theorem dX0_wrong_47 : decode cX0_wrong 47 = .ok (.goto (-38), 3) := by decide +kernel
theorem dX0_wrong_50 : decode cX0_wrong 50 = .ok (.aload 4, 2) := by decide +kernel
theorem dX0_wrong_52 : decode cX0_wrong 52 = .ok (.aload 4, 2) := by decide +kernel
theorem dX0_wrong_54 : decode cX0_wrong 54 = .ok (.getfield 67, 3) := by decide +kernel
theorem dX0_wrong_57 : decode cX0_wrong 57 = .ok (.iload_n 3, 1) := by decide +kernel
theorem dX0_wrong_58 : decode cX0_wrong 58 = .ok (.invokevirtual 70, 3) := by decide +kernel
theorem dX0_wrong_61 : decode cX0_wrong 61 = .ok (.aload 4, 2) := by decide +kernel
theorem dX0_wrong_63 : decode cX0_wrong 63 = .ok (.getfield 74, 3) := by decide +kernel
theorem dX0_wrong_66 : decode cX0_wrong 66 = .ok (.iload_n 3, 1) := by decide +kernel
theorem dX0_wrong_67 : decode cX0_wrong 67 = .ok (.invokevirtual 70, 3) := by decide +kernel
theorem dX0_wrong_70 : decode cX0_wrong 70 = .ok (.invokevirtual 77, 3) := by decide +kernel
theorem dX0_wrong_73 : decode cX0_wrong 73 = .ok (.ifCond .ne 5, 3) := by decide +kernel
theorem dX0_wrong_76 : decode cX0_wrong 76 = .ok (.iconst 2, 1) := by decide +kernel
theorem dX0_wrong_77 : decode cX0_wrong 77 = .ok (.ireturn, 1) := by decide +kernel
theorem dX0_wrong_78 : decode cX0_wrong 78 = .ok (.aload 4, 2) := by decide +kernel
theorem dX0_wrong_80 : decode cX0_wrong 80 = .ok (.getfield 80, 3) := by decide +kernel
theorem dX0_wrong_83 : decode cX0_wrong 83 = .ok (.iload_n 3, 1) := by decide +kernel
theorem dX0_wrong_84 : decode cX0_wrong 84 = .ok (.invokevirtual 70, 3) := by decide +kernel
theorem dX0_wrong_87 : decode cX0_wrong 87 = .ok (.invokestatic 83, 3) := by decide +kernel
theorem dX0_wrong_90 : decode cX0_wrong 90 = .ok (.istore 5, 2) := by decide +kernel
theorem dX0_wrong_92 : decode cX0_wrong 92 = .ok (.aload_n 1, 1) := by decide +kernel
theorem dX0_wrong_93 : decode cX0_wrong 93 = .ok (.iload_n 2, 1) := by decide +kernel
theorem dX0_wrong_94 : decode cX0_wrong 94 = .ok (.iload 5, 2) := by decide +kernel
theorem dX0_wrong_96 : decode cX0_wrong 96 = .ok (.invokevirtual 88, 3) := by decide +kernel
theorem dX0_wrong_99 : decode cX0_wrong 99 = .ok (.ifCond .eq 7, 3) := by decide +kernel
theorem dX0_wrong_102 : decode cX0_wrong 102 = .ok (.iconst 0, 1) := by decide +kernel
theorem dX0_wrong_103 : decode cX0_wrong 103 = .ok (.goto 4, 3) := by decide +kernel
theorem dX0_wrong_106 : decode cX0_wrong 106 = .ok (.iconst 3, 1) := by decide +kernel
theorem dX0_wrong_107 : decode cX0_wrong 107 = .ok (.ireturn, 1) := by decide +kernel
set_option maxRecDepth 20000 in
theorem ggX0_isReady_X7_get : GoodIn wsX0_isReady wsX7_get := goodIn_r _ [9, 10, 11, 21, 22] (by decide +kernel) (by decide +kernel)
set_option maxRecDepth 20000 in
theorem gX0_isReady_X7_get : GoodIn wsX0_isReady (wsV RX0 70 RX7 yX7_get wsX7_get) := goodIn_app (goodIn_of _ (by decide +kernel)) ggX0_isReady_X7_get
theorem dX0_isReady_0 : decode cX0_isReady 0 = .ok (.aload_n 0, 1) := by decide +kernel
theorem dX0_isReady_1 : decode cX0_isReady 1 = .ok (.getfield 14, 3) := by decide +kernel
theorem dX0_isReady_4 : decode cX0_isReady 4 = .ok (.iload_n 3, 1) := by decide +kernel
theorem dX0_isReady_5 : decode cX0_isReady 5 = .ok (.invokevirtual 70, 3) := by decide +kernel
theorem dX0_isReady_8 : decode cX0_isReady 8 = .ok (.aload_n 1, 1) := by decide +kernel
theorem dX0_isReady_9 : decode cX0_isReady 9 = .ok (.getfield 67, 3) := by decide +kernel
theorem dX0_isReady_12 : decode cX0_isReady 12 = .ok (.iload_n 2, 1) := by decide +kernel
theorem dX0_isReady_13 : decode cX0_isReady 13 = .ok (.invokevirtual 70, 3) := by decide +kernel
theorem dX0_isReady_16 : decode cX0_isReady 16 = .ok (.if_icmp .ne 7, 3) := by decide +kernel
theorem dX0_isReady_19 : decode cX0_isReady 19 = .ok (.iconst 1, 1) := by decide +kernel
theorem dX0_isReady_20 : decode cX0_isReady 20 = .ok (.goto 4, 3) := by decide +kernel
theorem dX0_isReady_23 : decode cX0_isReady 23 = .ok (.iconst 0, 1) := by decide +kernel
theorem dX0_isReady_24 : decode cX0_isReady 24 = .ok (.istore 4, 2) := by decide +kernel
theorem dX0_isReady_26 : decode cX0_isReady 26 = .ok (.iload 4, 2) := by decide +kernel
theorem dX0_isReady_28 : decode cX0_isReady 28 = .ok (.ifCond .eq 26, 3) := by decide +kernel
theorem dX0_isReady_31 : decode cX0_isReady 31 = .ok (.aload_n 0, 1) := by decide +kernel
theorem dX0_isReady_32 : decode cX0_isReady 32 = .ok (.getfield 20, 3) := by decide +kernel
theorem dX0_isReady_35 : decode cX0_isReady 35 = .ok (.iload_n 3, 1) := by decide +kernel
theorem dX0_isReady_36 : decode cX0_isReady 36 = .ok (.invokevirtual 70, 3) := by decide +kernel
theorem dX0_isReady_39 : decode cX0_isReady 39 = .ok (.aload_n 1, 1) := by decide +kernel
theorem dX0_isReady_40 : decode cX0_isReady 40 = .ok (.getfield 91, 3) := by decide +kernel
theorem dX0_isReady_43 : decode cX0_isReady 43 = .ok (.iload_n 2, 1) := by decide +kernel
theorem dX0_isReady_44 : decode cX0_isReady 44 = .ok (.invokevirtual 70, 3) := by decide +kernel
theorem dX0_isReady_47 : decode cX0_isReady 47 = .ok (.if_icmp .gt 7, 3) := by decide +kernel
theorem dX0_isReady_50 : decode cX0_isReady 50 = .ok (.iconst 1, 1) := by decide +kernel
theorem dX0_isReady_51 : decode cX0_isReady 51 = .ok (.goto 4, 3) := by decide +kernel
theorem dX0_isReady_54 : decode cX0_isReady 54 = .ok (.iconst 0, 1) := by decide +kernel
theorem dX0_isReady_55 : decode cX0_isReady 55 = .ok (.ireturn, 1) := by decide +kernel
set_option maxRecDepth 20000 in
theorem ggX0_move_X2_people : GoodIn wsX0_move wsX2_people := goodIn_r _ [9, 10, 11, 12, 13, 14, 15, 16, 34, 35, 36, 37, 38, 39, 40, 41, 42] (by decide +kernel) (by decide +kernel)
set_option maxRecDepth 20000 in
theorem gX0_move_X2_people : GoodIn wsX0_move (wsV RX0 41 RX2 yX2_people wsX2_people) := goodIn_app (goodIn_of _ (by decide +kernel)) ggX0_move_X2_people
set_option maxRecDepth 20000 in
theorem ggX0_move_X2_goes : GoodIn wsX0_move wsX2_goes := goodIn_r _ [20, 21, 22, 23, 24, 14, 25, 16, 26, 34, 35, 36, 37, 38, 39, 40, 41, 42] (by decide +kernel) (by decide +kernel)
set_option maxRecDepth 20000 in
theorem gX0_move_X2_goes : GoodIn wsX0_move (wsV RX0 59 RX2 yX2_goes wsX2_goes) := goodIn_app (goodIn_of _ (by decide +kernel)) ggX0_move_X2_goes
set_option maxRecDepth 20000 in
theorem ggX0_move_X7_get : GoodIn wsX0_move wsX7_get := goodIn_r _ [25, 16, 26, 41, 42] (by decide +kernel) (by decide +kernel)
set_option maxRecDepth 20000 in
theorem gX0_move_X7_get : GoodIn wsX0_move (wsV RX0 70 RX7 yX7_get wsX7_get) := goodIn_app (goodIn_of _ (by decide +kernel)) ggX0_move_X7_get
set_option maxRecDepth 20000 in
theorem ggX0_move_X7_set : GoodIn wsX0_move wsX7_set := goodIn_r _ [31, 16, 26, 41, 42] (by decide +kernel) (by decide +kernel)
set_option maxRecDepth 20000 in
theorem gX0_move_X7_set : GoodIn wsX0_move (wsV RX0 94 RX7 yX7_set wsX7_set) := goodIn_app (goodIn_of _ (by decide +kernel)) ggX0_move_X7_set
theorem dX0_move_0 : decode cX0_move 0 = .ok (.iconst 0, 1) := by decide +kernel
theorem dX0_move_1 : decode cX0_move 1 = .ok (.istore_n 3, 1) := by decide +kernel
theorem dX0_move_2 : decode cX0_move 2 = .ok (.iload_n 3, 1) := by decide +kernel
theorem dX0_move_3 : decode cX0_move 3 = .ok (.aload_n 1, 1) := by decide +kernel
theorem dX0_move_4 : decode cX0_move 4 = .ok (.invokevirtual 41, 3) := by decide +kernel
theorem dX0_move_7 : decode cX0_move 7 = .ok (.if_icmp .ge 52, 3) := by decide +kernel
theorem dX0_move_10 : decode cX0_move 10 = .ok (.aload_n 1, 1) := by decide +kernel
theorem dX0_move_11 : decode cX0_move 11 = .ok (.iload_n 2, 1) := by decide +kernel
theorem dX0_move_12 : decode cX0_move 12 = .ok (.iload_n 3, 1) := by decide +kernel
theorem dX0_move_13 : decode cX0_move 13 = .ok (.invokevirtual 59, 3) := by decide +kernel
theorem dX0_move_16 : decode cX0_move 16 = .ok (.ifCond .eq 37, 3) := by decide +kernel
theorem dX0_move_19 : decode cX0_move 19 = .ok (.aload_n 0, 1) := by decide +kernel
theorem dX0_move_20 : decode cX0_move 20 = .ok (.getfield 14, 3) := by decide +kernel
theorem dX0_move_23 : decode cX0_move 23 = .ok (.iload_n 3, 1) := by decide +kernel
theorem dX0_move_24 : decode cX0_move 24 = .ok (.aload_n 1, 1) := by decide +kernel
theorem dX0_move_25 : decode cX0_move 25 = .ok (.getfield 74, 3) := by decide +kernel
theorem dX0_move_28 : decode cX0_move 28 = .ok (.iload_n 2, 1) := by decide +kernel
theorem dX0_move_29 : decode cX0_move 29 = .ok (.invokevirtual 70, 3) := by decide +kernel
theorem dX0_move_32 : decode cX0_move 32 = .ok (.invokevirtual 94, 3) := by decide +kernel
theorem dX0_move_35 : decode cX0_move 35 = .ok (.aload_n 0, 1) := by decide +kernel
theorem dX0_move_36 : decode cX0_move 36 = .ok (.getfield 20, 3) := by decide +kernel
theorem dX0_move_39 : decode cX0_move 39 = .ok (.iload_n 3, 1) := by decide +kernel
theorem dX0_move_40 : decode cX0_move 40 = .ok (.aload_n 1, 1) := by decide +kernel
theorem dX0_move_41 : decode cX0_move 41 = .ok (.getfield 91, 3) := by decide +kernel
theorem dX0_move_44 : decode cX0_move 44 = .ok (.iload_n 2, 1) := by decide +kernel
theorem dX0_move_45 : decode cX0_move 45 = .ok (.invokevirtual 70, 3) := by decide +kernel
theorem dX0_move_48 : decode cX0_move 48 = .ok (.iconst 1, 1) := by decide +kernel
theorem dX0_move_49 : decode cX0_move 49 = .ok (.iadd, 1) := by decide +kernel
theorem dX0_move_50 : decode cX0_move 50 = .ok (.invokevirtual 94, 3) := by decide +kernel
theorem dX0_move_53 : decode cX0_move 53 = .ok (.iinc 3 1, 3) := by decide +kernel
theorem dX0_move_56 : decode cX0_move 56 = .ok (.goto (-54), 3) := by decide +kernel
theorem dX0_move_59 : decode cX0_move 59 = .ok (.return_, 1) := by decide +kernel
set_option maxRecDepth 20000 in
theorem ggX0_allHome_X2_people : GoodIn wsX0_allHome wsX2_people := goodIn_r _ [7, 8, 9, 10, 11, 12, 13, 14, 22, 23, 24, 25, 26, 27, 28, 29, 30] (by decide +kernel) (by decide +kernel)
set_option maxRecDepth 20000 in
theorem gX0_allHome_X2_people : GoodIn wsX0_allHome (wsV RX0 41 RX2 yX2_people wsX2_people) := goodIn_app (goodIn_of _ (by decide +kernel)) ggX0_allHome_X2_people
set_option maxRecDepth 20000 in
theorem ggX0_allHome_X7_get : GoodIn wsX0_allHome wsX7_get := goodIn_r _ [18, 14, 19, 29, 30] (by decide +kernel) (by decide +kernel)
set_option maxRecDepth 20000 in
theorem gX0_allHome_X7_get : GoodIn wsX0_allHome (wsV RX0 70 RX7 yX7_get wsX7_get) := goodIn_app (goodIn_of _ (by decide +kernel)) ggX0_allHome_X7_get
theorem dX0_allHome_0 : decode cX0_allHome 0 = .ok (.iconst 0, 1) := by decide +kernel
theorem dX0_allHome_1 : decode cX0_allHome 1 = .ok (.istore_n 2, 1) := by decide +kernel
theorem dX0_allHome_2 : decode cX0_allHome 2 = .ok (.iload_n 2, 1) := by decide +kernel
theorem dX0_allHome_3 : decode cX0_allHome 3 = .ok (.aload_n 1, 1) := by decide +kernel
theorem dX0_allHome_4 : decode cX0_allHome 4 = .ok (.invokevirtual 41, 3) := by decide +kernel
theorem dX0_allHome_7 : decode cX0_allHome 7 = .ok (.if_icmp .ge 30, 3) := by decide +kernel
theorem dX0_allHome_10 : decode cX0_allHome 10 = .ok (.aload_n 0, 1) := by decide +kernel
theorem dX0_allHome_11 : decode cX0_allHome 11 = .ok (.getfield 14, 3) := by decide +kernel
theorem dX0_allHome_14 : decode cX0_allHome 14 = .ok (.iload_n 2, 1) := by decide +kernel
theorem dX0_allHome_15 : decode cX0_allHome 15 = .ok (.invokevirtual 70, 3) := by decide +kernel
theorem dX0_allHome_18 : decode cX0_allHome 18 = .ok (.aload_n 1, 1) := by decide +kernel
theorem dX0_allHome_19 : decode cX0_allHome 19 = .ok (.getfield 98, 3) := by decide +kernel
theorem dX0_allHome_22 : decode cX0_allHome 22 = .ok (.iload_n 2, 1) := by decide +kernel
theorem dX0_allHome_23 : decode cX0_allHome 23 = .ok (.invokevirtual 70, 3) := by decide +kernel
theorem dX0_allHome_26 : decode cX0_allHome 26 = .ok (.if_icmp .eq 5, 3) := by decide +kernel
theorem dX0_allHome_29 : decode cX0_allHome 29 = .ok (.iconst 0, 1) := by decide +kernel
theorem dX0_allHome_30 : decode cX0_allHome 30 = .ok (.ireturn, 1) := by decide +kernel
theorem dX0_allHome_31 : decode cX0_allHome 31 = .ok (.iinc 2 1, 3) := by decide +kernel
theorem dX0_allHome_34 : decode cX0_allHome 34 = .ok (.goto (-32), 3) := by decide +kernel
theorem dX0_allHome_37 : decode cX0_allHome 37 = .ok (.iconst 1, 1) := by decide +kernel
theorem dX0_allHome_38 : decode cX0_allHome 38 = .ok (.ireturn, 1) := by decide +kernel
set_option maxRecDepth 20000 in
theorem ggX1_init_X2_init : GoodIn wsX1_init wsX2_init := goodIn_r _ [20, 21, 2, 3, 22, 11, 12, 23, 24, 25, 26, 27, 28, 29, 30, 31, 32, 33, 34, 35, 36, 37, 38, 62, 63, 55, 56, 57, 58, 59, 60, 61] (by decide +kernel) (by decide +kernel)
set_option maxRecDepth 20000 in
theorem gX1_init_X2_init_n20 : GoodIn wsX1_init (wsX2_init) := ggX1_init_X2_init
set_option maxRecDepth 20000 in
theorem ggX1_init_X7_init : GoodIn wsX1_init wsX7_init := goodIn_r _ [31, 32, 2, 3, 33, 34, 35, 36, 37, 38, 62, 63] (by decide +kernel) (by decide +kernel)
set_option maxRecDepth 20000 in
theorem gX1_init_X7_init : GoodIn wsX1_init (wsX7_init) := ggX1_init_X7_init
set_option maxRecDepth 20000 in
theorem ggX1_init_X7_add : GoodIn wsX1_init wsX7_add := goodIn_r _ [43, 44, 38, 62, 63] (by decide +kernel) (by decide +kernel)
set_option maxRecDepth 20000 in
theorem gX1_init_X7_add : GoodIn wsX1_init (wsV RX1 49 RX7 yX7_add wsX7_add) := goodIn_app (goodIn_of _ (by decide +kernel)) ggX1_init_X7_add
theorem dX1_init_0 : decode cX1_init 0 = .ok (.aload_n 0, 1) := by decide +kernel
theorem dX1_init_1 : decode cX1_init 1 = .ok (.invokespecial 3, 3) := by decide +kernel
theorem dX1_init_4 : decode cX1_init 4 = .ok (.aload_n 0, 1) := by decide +kernel
theorem dX1_init_5 : decode cX1_init 5 = .ok (.bipush 6, 2) := by decide +kernel
theorem dX1_init_7 : decode cX1_init 7 = .ok (.putfield 9, 3) := by decide +kernel
theorem dX1_init_10 : decode cX1_init 10 = .ok (.aload_n 0, 1) := by decide +kernel
theorem dX1_init_11 : decode cX1_init 11 = .ok (.bipush 10, 2) := by decide +kernel
theorem dX1_init_13 : decode cX1_init 13 = .ok (.putfield 15, 3) := by decide +kernel
theorem dX1_init_16 : decode cX1_init 16 = .ok (.aload_n 0, 1) := by decide +kernel
theorem dX1_init_17 : decode cX1_init 17 = .ok (.new 18, 3) := by decide +kernel
theorem dX1_init_20 : decode cX1_init 20 = .ok (.dup, 1) := by decide +kernel
theorem dX1_init_21 : decode cX1_init 21 = .ok (.invokespecial 20, 3) := by decide +kernel
theorem dX1_init_24 : decode cX1_init 24 = .ok (.putfield 21, 3) := by decide +kernel
theorem dX1_init_27 : decode cX1_init 27 = .ok (.aload_n 0, 1) := by decide +kernel
theorem dX1_init_28 : decode cX1_init 28 = .ok (.new 25, 3) := by decide +kernel
theorem dX1_init_31 : decode cX1_init 31 = .ok (.dup, 1) := by decide +kernel
theorem dX1_init_32 : decode cX1_init 32 = .ok (.sipush 200, 3) := by decide +kernel
theorem dX1_init_35 : decode cX1_init 35 = .ok (.invokespecial 27, 3) := by decide +kernel
theorem dX1_init_38 : decode cX1_init 38 = .ok (.putfield 30, 3) := by decide +kernel
theorem dX1_init_41 : decode cX1_init 41 = .ok (.aload_n 0, 1) := by decide +kernel
theorem dX1_init_42 : decode cX1_init 42 = .ok (.new 25, 3) := by decide +kernel
theorem dX1_init_45 : decode cX1_init 45 = .ok (.dup, 1) := by decide +kernel
theorem dX1_init_46 : decode cX1_init 46 = .ok (.bipush 8, 2) := by decide +kernel
theorem dX1_init_48 : decode cX1_init 48 = .ok (.invokespecial 27, 3) := by decide +kernel
theorem dX1_init_51 : decode cX1_init 51 = .ok (.putfield 34, 3) := by decide +kernel
theorem dX1_init_54 : decode cX1_init 54 = .ok (.aload_n 0, 1) := by decide +kernel
theorem dX1_init_55 : decode cX1_init 55 = .ok (.new 25, 3) := by decide +kernel
theorem dX1_init_58 : decode cX1_init 58 = .ok (.dup, 1) := by decide +kernel
theorem dX1_init_59 : decode cX1_init 59 = .ok (.iconst 4, 1) := by decide +kernel
theorem dX1_init_60 : decode cX1_init 60 = .ok (.invokespecial 27, 3) := by decide +kernel
theorem dX1_init_63 : decode cX1_init 63 = .ok (.putfield 37, 3) := by decide +kernel
theorem dX1_init_66 : decode cX1_init 66 = .ok (.aload_n 0, 1) := by decide +kernel
theorem dX1_init_67 : decode cX1_init 67 = .ok (.new 25, 3) := by decide +kernel
theorem dX1_init_70 : decode cX1_init 70 = .ok (.dup, 1) := by decide +kernel
theorem dX1_init_71 : decode cX1_init 71 = .ok (.iconst 4, 1) := by decide +kernel
theorem dX1_init_72 : decode cX1_init 72 = .ok (.invokespecial 27, 3) := by decide +kernel
theorem dX1_init_75 : decode cX1_init 75 = .ok (.putfield 40, 3) := by decide +kernel
theorem dX1_init_78 : decode cX1_init 78 = .ok (.aload_n 0, 1) := by decide +kernel
theorem dX1_init_79 : decode cX1_init 79 = .ok (.new 25, 3) := by decide +kernel
theorem dX1_init_82 : decode cX1_init 82 = .ok (.dup, 1) := by decide +kernel
theorem dX1_init_83 : decode cX1_init 83 = .ok (.iconst 4, 1) := by decide +kernel
theorem dX1_init_84 : decode cX1_init 84 = .ok (.invokespecial 27, 3) := by decide +kernel
theorem dX1_init_87 : decode cX1_init 87 = .ok (.putfield 43, 3) := by decide +kernel
theorem dX1_init_90 : decode cX1_init 90 = .ok (.aload_n 0, 1) := by decide +kernel
theorem dX1_init_91 : decode cX1_init 91 = .ok (.new 25, 3) := by decide +kernel
theorem dX1_init_94 : decode cX1_init 94 = .ok (.dup, 1) := by decide +kernel
theorem dX1_init_95 : decode cX1_init 95 = .ok (.bipush 8, 2) := by decide +kernel
theorem dX1_init_97 : decode cX1_init 97 = .ok (.invokespecial 27, 3) := by decide +kernel
theorem dX1_init_100 : decode cX1_init 100 = .ok (.putfield 46, 3) := by decide +kernel
theorem dX1_init_103 : decode cX1_init 103 = .ok (.iconst 0, 1) := by decide +kernel
theorem dX1_init_104 : decode cX1_init 104 = .ok (.istore_n 1, 1) := by decide +kernel
theorem dX1_init_105 : decode cX1_init 105 = .ok (.iload_n 1, 1) := by decide +kernel
theorem dX1_init_106 : decode cX1_init 106 = .ok (.iconst 4, 1) := by decide +kernel
theorem dX1_init_107 : decode cX1_init 107 = .ok (.if_icmp .ge 17, 3) := by decide +kernel
theorem dX1_init_110 : decode cX1_init 110 = .ok (.aload_n 0, 1) := by decide +kernel
theorem dX1_init_111 : decode cX1_init 111 = .ok (.getfield 43, 3) := by decide +kernel
theorem dX1_init_114 : decode cX1_init 114 = .ok (.iconst 0, 1) := by decide +kernel
theorem dX1_init_115 : decode cX1_init 115 = .ok (.invokevirtual 49, 3) := by decide +kernel
theorem dX1_init_118 : decode cX1_init 118 = .ok (.iinc 1 1, 3) := by decide +kernel
theorem dX1_init_121 : decode cX1_init 121 = .ok (.goto (-16), 3) := by decide +kernel
theorem dX1_init_124 : decode cX1_init 124 = .ok (.return_, 1) := by decide +kernel
set_option maxRecDepth 20000 in
theorem ggX1_copy_X2_copy : GoodIn wsX1_copy wsX2_copy := goodIn_r _ [15, 16, 17, 18, 19, 20, 21, 22, 23, 24, 25, 26, 27, 28, 29, 30, 31, 32, 33, 34, 35, 36, 37, 38, 39, 40, 41, 53, 54, 55, 56, 57, 58, 59, 60, 61] (by decide +kernel) (by decide +kernel)
set_option maxRecDepth 20000 in
theorem gX1_copy_X2_copy : GoodIn wsX1_copy (wsV RX1 55 RX2 yX2_copy wsX2_copy) := goodIn_app (goodIn_of _ (by decide +kernel)) ggX1_copy_X2_copy
set_option maxRecDepth 20000 in
theorem ggX1_copy_X7_copy : GoodIn wsX1_copy wsX7_copy := goodIn_r _ [27, 28, 29, 30, 31, 26, 32, 33, 34, 35, 36, 37, 38, 39, 40, 41, 60, 61] (by decide +kernel) (by decide +kernel)
set_option maxRecDepth 20000 in
theorem gX1_copy_X7_copy : GoodIn wsX1_copy (wsV RX1 59 RX7 yX7_copy wsX7_copy) := goodIn_app (goodIn_of _ (by decide +kernel)) ggX1_copy_X7_copy
theorem dX1_copy_0 : decode cX1_copy 0 = .ok (.aload_n 0, 1) := by decide +kernel
theorem dX1_copy_1 : decode cX1_copy 1 = .ok (.aload_n 1, 1) := by decide +kernel
theorem dX1_copy_2 : decode cX1_copy 2 = .ok (.getfield 9, 3) := by decide +kernel
theorem dX1_copy_5 : decode cX1_copy 5 = .ok (.putfield 9, 3) := by decide +kernel
theorem dX1_copy_8 : decode cX1_copy 8 = .ok (.aload_n 0, 1) := by decide +kernel
theorem dX1_copy_9 : decode cX1_copy 9 = .ok (.aload_n 1, 1) := by decide +kernel
theorem dX1_copy_10 : decode cX1_copy 10 = .ok (.getfield 15, 3) := by decide +kernel
theorem dX1_copy_13 : decode cX1_copy 13 = .ok (.putfield 15, 3) := by decide +kernel
theorem dX1_copy_16 : decode cX1_copy 16 = .ok (.aload_n 0, 1) := by decide +kernel
theorem dX1_copy_17 : decode cX1_copy 17 = .ok (.aload_n 1, 1) := by decide +kernel
theorem dX1_copy_18 : decode cX1_copy 18 = .ok (.getfield 52, 3) := by decide +kernel
theorem dX1_copy_21 : decode cX1_copy 21 = .ok (.putfield 52, 3) := by decide +kernel
theorem dX1_copy_24 : decode cX1_copy 24 = .ok (.aload_n 0, 1) := by decide +kernel
theorem dX1_copy_25 : decode cX1_copy 25 = .ok (.getfield 21, 3) := by decide +kernel
theorem dX1_copy_28 : decode cX1_copy 28 = .ok (.aload_n 1, 1) := by decide +kernel
theorem dX1_copy_29 : decode cX1_copy 29 = .ok (.getfield 21, 3) := by decide +kernel
theorem dX1_copy_32 : decode cX1_copy 32 = .ok (.invokevirtual 55, 3) := by decide +kernel
theorem dX1_copy_35 : decode cX1_copy 35 = .ok (.aload_n 0, 1) := by decide +kernel
theorem dX1_copy_36 : decode cX1_copy 36 = .ok (.getfield 30, 3) := by decide +kernel
theorem dX1_copy_39 : decode cX1_copy 39 = .ok (.aload_n 1, 1) := by decide +kernel
theorem dX1_copy_40 : decode cX1_copy 40 = .ok (.getfield 30, 3) := by decide +kernel
theorem dX1_copy_43 : decode cX1_copy 43 = .ok (.invokevirtual 59, 3) := by decide +kernel
theorem dX1_copy_46 : decode cX1_copy 46 = .ok (.aload_n 0, 1) := by decide +kernel
theorem dX1_copy_47 : decode cX1_copy 47 = .ok (.getfield 34, 3) := by decide +kernel
theorem dX1_copy_50 : decode cX1_copy 50 = .ok (.aload_n 1, 1) := by decide +kernel
theorem dX1_copy_51 : decode cX1_copy 51 = .ok (.getfield 34, 3) := by decide +kernel
theorem dX1_copy_54 : decode cX1_copy 54 = .ok (.invokevirtual 59, 3) := by decide +kernel
theorem dX1_copy_57 : decode cX1_copy 57 = .ok (.aload_n 0, 1) := by decide +kernel
theorem dX1_copy_58 : decode cX1_copy 58 = .ok (.getfield 37, 3) := by decide +kernel
theorem dX1_copy_61 : decode cX1_copy 61 = .ok (.aload_n 1, 1) := by decide +kernel
theorem dX1_copy_62 : decode cX1_copy 62 = .ok (.getfield 37, 3) := by decide +kernel
theorem dX1_copy_65 : decode cX1_copy 65 = .ok (.invokevirtual 59, 3) := by decide +kernel
theorem dX1_copy_68 : decode cX1_copy 68 = .ok (.aload_n 0, 1) := by decide +kernel
theorem dX1_copy_69 : decode cX1_copy 69 = .ok (.getfield 40, 3) := by decide +kernel
theorem dX1_copy_72 : decode cX1_copy 72 = .ok (.aload_n 1, 1) := by decide +kernel
theorem dX1_copy_73 : decode cX1_copy 73 = .ok (.getfield 40, 3) := by decide +kernel
theorem dX1_copy_76 : decode cX1_copy 76 = .ok (.invokevirtual 59, 3) := by decide +kernel
theorem dX1_copy_79 : decode cX1_copy 79 = .ok (.aload_n 0, 1) := by decide +kernel
theorem dX1_copy_80 : decode cX1_copy 80 = .ok (.getfield 43, 3) := by decide +kernel
theorem dX1_copy_83 : decode cX1_copy 83 = .ok (.aload_n 1, 1) := by decide +kernel
theorem dX1_copy_84 : decode cX1_copy 84 = .ok (.getfield 43, 3) := by decide +kernel
theorem dX1_copy_87 : decode cX1_copy 87 = .ok (.invokevirtual 59, 3) := by decide +kernel
theorem dX1_copy_90 : decode cX1_copy 90 = .ok (.aload_n 0, 1) := by decide +kernel
theorem dX1_copy_91 : decode cX1_copy 91 = .ok (.getfield 46, 3) := by decide +kernel
theorem dX1_copy_94 : decode cX1_copy 94 = .ok (.aload_n 1, 1) := by decide +kernel
theorem dX1_copy_95 : decode cX1_copy 95 = .ok (.getfield 46, 3) := by decide +kernel
theorem dX1_copy_98 : decode cX1_copy 98 = .ok (.invokevirtual 59, 3) := by decide +kernel
theorem dX1_copy_101 : decode cX1_copy 101 = .ok (.return_, 1) := by decide +kernel
set_option maxRecDepth 20000 in
theorem ggX1_fits_X9_isWithin : GoodIn wsX1_fits wsX9_isWithin := goodIn_r _ [4] (by decide +kernel) (by decide +kernel)
set_option maxRecDepth 20000 in
theorem gX1_fits_X9_isWithin_n62 : GoodIn wsX1_fits (wsX9_isWithin) := ggX1_fits_X9_isWithin
set_option maxRecDepth 20000 in
theorem ggX1_fits_X1_isPrime : GoodIn wsX1_fits wsX1_isPrime := goodIn_r _ [8] (by decide +kernel) (by decide +kernel)
set_option maxRecDepth 20000 in
theorem gX1_fits_X1_isPrime : GoodIn wsX1_fits (va_wsS RX1 66 yX1_isPrime wsX1_isPrime) := goodIn_app (goodIn_of _ (by decide +kernel)) ggX1_fits_X1_isPrime
set_option maxRecDepth 20000 in
theorem ggX1_fits_X1_isSquare : GoodIn wsX1_fits wsX1_isSquare := goodIn_r _ [11] (by decide +kernel) (by decide +kernel)
set_option maxRecDepth 20000 in
theorem gX1_fits_X1_isSquare : GoodIn wsX1_fits (va_wsS RX1 70 yX1_isSquare wsX1_isSquare) := goodIn_app (goodIn_of _ (by decide +kernel)) ggX1_fits_X1_isSquare
theorem dX1_fits_0 : decode cX1_fits 0 = .ok (.iload_n 2, 1) := by decide +kernel
theorem dX1_fits_1 : decode cX1_fits 1 = .ok (.iconst 1, 1) := by decide +kernel
theorem dX1_fits_2 : decode cX1_fits 2 = .ok (.bipush 99, 2) := by decide +kernel
theorem dX1_fits_4 : decode cX1_fits 4 = .ok (.invokestatic 62, 3) := by decide +kernel
theorem dX1_fits_7 : decode cX1_fits 7 = .ok (.ifCond .ne 5, 3) := by decide +kernel
theorem dX1_fits_10 : decode cX1_fits 10 = .ok (.iconst 0, 1) := by decide +kernel
theorem dX1_fits_11 : decode cX1_fits 11 = .ok (.ireturn, 1) := by decide +kernel
theorem dX1_fits_12 : decode cX1_fits 12 = .ok (.iload_n 1, 1) := by decide +kernel
theorem dX1_fits_13 : decode cX1_fits 13 = .ok (.tableswitch 79 0 3 #[31, 36, 41, 53], 31) := by decide +kernel
theorem dX1_fits_44 : decode cX1_fits 44 = .ok (.iload_n 2, 1) := by decide +kernel
theorem dX1_fits_45 : decode cX1_fits 45 = .ok (.invokestatic 66, 3) := by decide +kernel
theorem dX1_fits_48 : decode cX1_fits 48 = .ok (.ireturn, 1) := by decide +kernel
theorem dX1_fits_49 : decode cX1_fits 49 = .ok (.iload_n 2, 1) := by decide +kernel
theorem dX1_fits_50 : decode cX1_fits 50 = .ok (.invokestatic 70, 3) := by decide +kernel
theorem dX1_fits_53 : decode cX1_fits 53 = .ok (.ireturn, 1) := by decide +kernel
theorem dX1_fits_54 : decode cX1_fits 54 = .ok (.iload_n 2, 1) := by decide +kernel
theorem dX1_fits_55 : decode cX1_fits 55 = .ok (.iconst 2, 1) := by decide +kernel
theorem dX1_fits_56 : decode cX1_fits 56 = .ok (.irem, 1) := by decide +kernel
theorem dX1_fits_57 : decode cX1_fits 57 = .ok (.ifCond .ne 7, 3) := by decide +kernel
theorem dX1_fits_60 : decode cX1_fits 60 = .ok (.iconst 1, 1) := by decide +kernel
theorem dX1_fits_61 : decode cX1_fits 61 = .ok (.goto 4, 3) := by decide +kernel
theorem dX1_fits_64 : decode cX1_fits 64 = .ok (.iconst 0, 1) := by decide +kernel
theorem dX1_fits_65 : decode cX1_fits 65 = .ok (.ireturn, 1) := by decide +kernel
theorem dX1_fits_66 : decode cX1_fits 66 = .ok (.iload_n 2, 1) := by decide +kernel
theorem dX1_fits_67 : decode cX1_fits 67 = .ok (.bipush 20, 2) := by decide +kernel
theorem dX1_fits_69 : decode cX1_fits 69 = .ok (.if_icmp .gt 21, 3) := by decide +kernel
theorem dX1_fits_72 : decode cX1_fits 72 = .ok (.aload_n 0, 1) := by decide +kernel
theorem dX1_fits_73 : decode cX1_fits 73 = .ok (.getfield 9, 3) := by decide +kernel
theorem dX1_fits_76 : decode cX1_fits 76 = .ok (.iload_n 2, 1) := by decide +kernel
theorem dX1_fits_77 : decode cX1_fits 77 = .ok (.iconst 1, 1) := by decide +kernel
theorem dX1_fits_78 : decode cX1_fits 78 = .ok (.isub, 1) := by decide +kernel
theorem dX1_fits_79 : decode cX1_fits 79 = .ok (.ishr, 1) := by decide +kernel
theorem dX1_fits_80 : decode cX1_fits 80 = .ok (.iconst 1, 1) := by decide +kernel
theorem dX1_fits_81 : decode cX1_fits 81 = .ok (.iand, 1) := by decide +kernel
theorem dX1_fits_82 : decode cX1_fits 82 = .ok (.iconst 1, 1) := by decide +kernel
theorem dX1_fits_83 : decode cX1_fits 83 = .ok (.if_icmp .ne 7, 3) := by decide +kernel
theorem dX1_fits_86 : decode cX1_fits 86 = .ok (.iconst 1, 1) := by decide +kernel
theorem dX1_fits_87 : decode cX1_fits 87 = .ok (.goto 4, 3) := by decide +kernel
theorem dX1_fits_90 : decode cX1_fits 90 = .ok (.iconst 0, 1) := by decide +kernel
theorem dX1_fits_91 : decode cX1_fits 91 = .ok (.ireturn, 1) := by decide +kernel
theorem dX1_fits_92 : decode cX1_fits 92 = .ok (.iconst 0, 1) := by decide +kernel
theorem dX1_fits_93 : decode cX1_fits 93 = .ok (.ireturn, 1) := by decide +kernel
theorem dX1_isPrime_0 : decode cX1_isPrime 0 = .ok (.iconst 2, 1) := by decide +kernel
theorem dX1_isPrime_1 : decode cX1_isPrime 1 = .ok (.istore_n 1, 1) := by decide +kernel
theorem dX1_isPrime_2 : decode cX1_isPrime 2 = .ok (.iload_n 1, 1) := by decide +kernel
theorem dX1_isPrime_3 : decode cX1_isPrime 3 = .ok (.iload_n 0, 1) := by decide +kernel
theorem dX1_isPrime_4 : decode cX1_isPrime 4 = .ok (.if_icmp .ge 17, 3) := by decide +kernel
theorem dX1_isPrime_7 : decode cX1_isPrime 7 = .ok (.iload_n 0, 1) := by decide +kernel
theorem dX1_isPrime_8 : decode cX1_isPrime 8 = .ok (.iload_n 1, 1) := by decide +kernel
theorem dX1_isPrime_9 : decode cX1_isPrime 9 = .ok (.irem, 1) := by decide +kernel
theorem dX1_isPrime_10 : decode cX1_isPrime 10 = .ok (.ifCond .ne 5, 3) := by decide +kernel
theorem dX1_isPrime_13 : decode cX1_isPrime 13 = .ok (.iconst 0, 1) := by decide +kernel
theorem dX1_isPrime_14 : decode cX1_isPrime 14 = .ok (.ireturn, 1) := by decide +kernel
theorem dX1_isPrime_15 : decode cX1_isPrime 15 = .ok (.iinc 1 1, 3) := by decide +kernel
theorem dX1_isPrime_18 : decode cX1_isPrime 18 = .ok (.goto (-16), 3) := by decide +kernel
theorem dX1_isPrime_21 : decode cX1_isPrime 21 = .ok (.iload_n 0, 1) := by decide +kernel
theorem dX1_isPrime_22 : decode cX1_isPrime 22 = .ok (.iconst 1, 1) := by decide +kernel
theorem dX1_isPrime_23 : decode cX1_isPrime 23 = .ok (.if_icmp .le 7, 3) := by decide +kernel
theorem dX1_isPrime_26 : decode cX1_isPrime 26 = .ok (.iconst 1, 1) := by decide +kernel
theorem dX1_isPrime_27 : decode cX1_isPrime 27 = .ok (.goto 4, 3) := by decide +kernel
theorem dX1_isPrime_30 : decode cX1_isPrime 30 = .ok (.iconst 0, 1) := by decide +kernel
theorem dX1_isPrime_31 : decode cX1_isPrime 31 = .ok (.ireturn, 1) := by decide +kernel
theorem dX1_isSquare_0 : decode cX1_isSquare 0 = .ok (.iconst 1, 1) := by decide +kernel
theorem dX1_isSquare_1 : decode cX1_isSquare 1 = .ok (.istore_n 1, 1) := by decide +kernel
theorem dX1_isSquare_2 : decode cX1_isSquare 2 = .ok (.iload_n 1, 1) := by decide +kernel
theorem dX1_isSquare_3 : decode cX1_isSquare 3 = .ok (.iload_n 0, 1) := by decide +kernel
theorem dX1_isSquare_4 : decode cX1_isSquare 4 = .ok (.if_icmp .gt 18, 3) := by decide +kernel
theorem dX1_isSquare_7 : decode cX1_isSquare 7 = .ok (.iload_n 1, 1) := by decide +kernel
theorem dX1_isSquare_8 : decode cX1_isSquare 8 = .ok (.iload_n 1, 1) := by decide +kernel
theorem dX1_isSquare_9 : decode cX1_isSquare 9 = .ok (.imul, 1) := by decide +kernel
theorem dX1_isSquare_10 : decode cX1_isSquare 10 = .ok (.iload_n 0, 1) := by decide +kernel
theorem dX1_isSquare_11 : decode cX1_isSquare 11 = .ok (.if_icmp .ne 5, 3) := by decide +kernel
theorem dX1_isSquare_14 : decode cX1_isSquare 14 = .ok (.iconst 1, 1) := by decide +kernel
theorem dX1_isSquare_15 : decode cX1_isSquare 15 = .ok (.ireturn, 1) := by decide +kernel
theorem dX1_isSquare_16 : decode cX1_isSquare 16 = .ok (.iinc 1 1, 3) := by decide +kernel
theorem dX1_isSquare_19 : decode cX1_isSquare 19 = .ok (.goto (-17), 3) := by decide +kernel
theorem dX1_isSquare_22 : decode cX1_isSquare 22 = .ok (.iconst 0, 1) := by decide +kernel
theorem dX1_isSquare_23 : decode cX1_isSquare 23 = .ok (.ireturn, 1) := by decide +kernel
set_option maxRecDepth 20000 in
theorem ggX1_canLeave_X2_hasWayOut : GoodIn wsX1_canLeave wsX2_hasWayOut := goodIn_r _ [7, 8, 9, 10, 6, 11, 12, 13, 14, 15, 16, 17, 18, 19, 20, 21, 65, 66, 67, 68, 69, 70, 71] (by decide +kernel) (by decide +kernel)
set_option maxRecDepth 20000 in
theorem gX1_canLeave_X2_hasWayOut : GoodIn wsX1_canLeave (wsV RX1 73 RX2 yX2_hasWayOut wsX2_hasWayOut) := goodIn_app (goodIn_of _ (by decide +kernel)) ggX1_canLeave_X2_hasWayOut
set_option maxRecDepth 20000 in
theorem ggX1_canLeave_X2_starters : GoodIn wsX1_canLeave wsX2_starters := goodIn_r _ [25, 26, 27, 28, 29, 6, 30, 31, 32, 33, 34, 35, 36, 37, 38, 39, 40, 41, 65, 66, 67, 68, 69, 70, 71, 72, 73] (by decide +kernel) (by decide +kernel)
set_option maxRecDepth 20000 in
theorem gX1_canLeave_X2_starters : GoodIn wsX1_canLeave (wsV RX1 76 RX2 yX2_starters wsX2_starters) := goodIn_app (goodIn_of _ (by decide +kernel)) ggX1_canLeave_X2_starters
set_option maxRecDepth 20000 in
theorem ggX1_canLeave_X1_fits : GoodIn wsX1_canLeave wsX1_fits := goodIn_r _ [46, 47, 17, 14, 18, 48, 49, 45, 50, 51, 52, 53, 55, 56, 57, 58, 59, 60, 61, 62, 63, 64] (by decide +kernel) (by decide +kernel)
set_option maxRecDepth 20000 in
theorem gX1_canLeave_X1_fits : GoodIn wsX1_canLeave (wsV RX1 80 RX1 yX1_fits wsX1_fits) := goodIn_app (goodIn_of _ (by decide +kernel)) ggX1_canLeave_X1_fits
set_option maxRecDepth 20000 in
theorem ggX1_canLeave_X7_get : GoodIn wsX1_canLeave wsX7_get := goodIn_r _ [40, 36, 41, 72, 73] (by decide +kernel) (by decide +kernel)
set_option maxRecDepth 20000 in
theorem gX1_canLeave_X7_get : GoodIn wsX1_canLeave (wsV RX1 84 RX7 yX7_get wsX7_get) := goodIn_app (goodIn_of _ (by decide +kernel)) ggX1_canLeave_X7_get
theorem dX1_canLeave_0 : decode cX1_canLeave 0 = .ok (.aload_n 0, 1) := by decide +kernel
theorem dX1_canLeave_1 : decode cX1_canLeave 1 = .ok (.getfield 21, 3) := by decide +kernel
theorem dX1_canLeave_4 : decode cX1_canLeave 4 = .ok (.iload_n 2, 1) := by decide +kernel
theorem dX1_canLeave_5 : decode cX1_canLeave 5 = .ok (.invokevirtual 73, 3) := by decide +kernel
theorem dX1_canLeave_8 : decode cX1_canLeave 8 = .ok (.ifCond .ne 5, 3) := by decide +kernel
theorem dX1_canLeave_11 : decode cX1_canLeave 11 = .ok (.iconst 0, 1) := by decide +kernel
theorem dX1_canLeave_12 : decode cX1_canLeave 12 = .ok (.ireturn, 1) := by decide +kernel
theorem dX1_canLeave_13 : decode cX1_canLeave 13 = .ok (.iconst 1, 1) := by decide +kernel
theorem dX1_canLeave_14 : decode cX1_canLeave 14 = .ok (.istore_n 3, 1) := by decide +kernel
theorem dX1_canLeave_15 : decode cX1_canLeave 15 = .ok (.iload_n 3, 1) := by decide +kernel
theorem dX1_canLeave_16 : decode cX1_canLeave 16 = .ok (.aload_n 0, 1) := by decide +kernel
theorem dX1_canLeave_17 : decode cX1_canLeave 17 = .ok (.getfield 21, 3) := by decide +kernel
theorem dX1_canLeave_20 : decode cX1_canLeave 20 = .ok (.iload_n 2, 1) := by decide +kernel
theorem dX1_canLeave_21 : decode cX1_canLeave 21 = .ok (.invokevirtual 76, 3) := by decide +kernel
theorem dX1_canLeave_24 : decode cX1_canLeave 24 = .ok (.if_icmp .gt 32, 3) := by decide +kernel
theorem dX1_canLeave_27 : decode cX1_canLeave 27 = .ok (.aload_n 0, 1) := by decide +kernel
theorem dX1_canLeave_28 : decode cX1_canLeave 28 = .ok (.iload_n 1, 1) := by decide +kernel
theorem dX1_canLeave_29 : decode cX1_canLeave 29 = .ok (.iload_n 3, 1) := by decide +kernel
theorem dX1_canLeave_30 : decode cX1_canLeave 30 = .ok (.invokevirtual 80, 3) := by decide +kernel
theorem dX1_canLeave_33 : decode cX1_canLeave 33 = .ok (.ifCond .eq 17, 3) := by decide +kernel
theorem dX1_canLeave_36 : decode cX1_canLeave 36 = .ok (.iload_n 3, 1) := by decide +kernel
theorem dX1_canLeave_37 : decode cX1_canLeave 37 = .ok (.aload_n 0, 1) := by decide +kernel
theorem dX1_canLeave_38 : decode cX1_canLeave 38 = .ok (.getfield 43, 3) := by decide +kernel
theorem dX1_canLeave_41 : decode cX1_canLeave 41 = .ok (.iload_n 2, 1) := by decide +kernel
theorem dX1_canLeave_42 : decode cX1_canLeave 42 = .ok (.invokevirtual 84, 3) := by decide +kernel
theorem dX1_canLeave_45 : decode cX1_canLeave 45 = .ok (.if_icmp .eq 5, 3) := by decide +kernel
theorem dX1_canLeave_48 : decode cX1_canLeave 48 = .ok (.iconst 1, 1) := by decide +kernel
theorem dX1_canLeave_49 : decode cX1_canLeave 49 = .ok (.ireturn, 1) := by decide +kernel
theorem dX1_canLeave_50 : decode cX1_canLeave 50 = .ok (.iinc 3 1, 3) := by decide +kernel
theorem dX1_canLeave_53 : decode cX1_canLeave 53 = .ok (.goto (-38), 3) := by decide +kernel
theorem dX1_canLeave_56 : decode cX1_canLeave 56 = .ok (.iconst 0, 1) := by decide +kernel
theorem dX1_canLeave_57 : decode cX1_canLeave 57 = .ok (.ireturn, 1) := by decide +kernel
set_option maxRecDepth 20000 in
theorem ggX2_init_X7_init : GoodIn wsX2_init wsX7_init := goodIn_r _ [15, 16, 2, 3, 17, 18, 19, 20, 21, 22, 23, 24] (by decide +kernel) (by decide +kernel)
set_option maxRecDepth 20000 in
theorem gX2_init_X7_init : GoodIn wsX2_init (wsX7_init) := ggX2_init_X7_init
theorem dX2_init_0 : decode cX2_init 0 = .ok (.aload_n 0, 1) := by decide +kernel
theorem dX2_init_1 : decode cX2_init 1 = .ok (.invokespecial 3, 3) := by decide +kernel
theorem dX2_init_4 : decode cX2_init 4 = .ok (.aload_n 0, 1) := by decide +kernel
theorem dX2_init_5 : decode cX2_init 5 = .ok (.new 9, 3) := by decide +kernel
theorem dX2_init_8 : decode cX2_init 8 = .ok (.dup, 1) := by decide +kernel
theorem dX2_init_9 : decode cX2_init 9 = .ok (.iconst 5, 1) := by decide +kernel
theorem dX2_init_10 : decode cX2_init 10 = .ok (.invokespecial 11, 3) := by decide +kernel
theorem dX2_init_13 : decode cX2_init 13 = .ok (.putfield 14, 3) := by decide +kernel
theorem dX2_init_16 : decode cX2_init 16 = .ok (.aload_n 0, 1) := by decide +kernel
theorem dX2_init_17 : decode cX2_init 17 = .ok (.new 9, 3) := by decide +kernel
theorem dX2_init_20 : decode cX2_init 20 = .ok (.dup, 1) := by decide +kernel
theorem dX2_init_21 : decode cX2_init 21 = .ok (.iconst 5, 1) := by decide +kernel
theorem dX2_init_22 : decode cX2_init 22 = .ok (.invokespecial 11, 3) := by decide +kernel
theorem dX2_init_25 : decode cX2_init 25 = .ok (.putfield 20, 3) := by decide +kernel
theorem dX2_init_28 : decode cX2_init 28 = .ok (.aload_n 0, 1) := by decide +kernel
theorem dX2_init_29 : decode cX2_init 29 = .ok (.new 9, 3) := by decide +kernel
theorem dX2_init_32 : decode cX2_init 32 = .ok (.dup, 1) := by decide +kernel
theorem dX2_init_33 : decode cX2_init 33 = .ok (.bipush 24, 2) := by decide +kernel
theorem dX2_init_35 : decode cX2_init 35 = .ok (.invokespecial 11, 3) := by decide +kernel
theorem dX2_init_38 : decode cX2_init 38 = .ok (.putfield 23, 3) := by decide +kernel
theorem dX2_init_41 : decode cX2_init 41 = .ok (.aload_n 0, 1) := by decide +kernel
theorem dX2_init_42 : decode cX2_init 42 = .ok (.new 9, 3) := by decide +kernel
theorem dX2_init_45 : decode cX2_init 45 = .ok (.dup, 1) := by decide +kernel
theorem dX2_init_46 : decode cX2_init 46 = .ok (.bipush 24, 2) := by decide +kernel
theorem dX2_init_48 : decode cX2_init 48 = .ok (.invokespecial 11, 3) := by decide +kernel
theorem dX2_init_51 : decode cX2_init 51 = .ok (.putfield 26, 3) := by decide +kernel
theorem dX2_init_54 : decode cX2_init 54 = .ok (.aload_n 0, 1) := by decide +kernel
theorem dX2_init_55 : decode cX2_init 55 = .ok (.new 9, 3) := by decide +kernel
theorem dX2_init_58 : decode cX2_init 58 = .ok (.dup, 1) := by decide +kernel
theorem dX2_init_59 : decode cX2_init 59 = .ok (.bipush 24, 2) := by decide +kernel
theorem dX2_init_61 : decode cX2_init 61 = .ok (.invokespecial 11, 3) := by decide +kernel
theorem dX2_init_64 : decode cX2_init 64 = .ok (.putfield 29, 3) := by decide +kernel
theorem dX2_init_67 : decode cX2_init 67 = .ok (.aload_n 0, 1) := by decide +kernel
theorem dX2_init_68 : decode cX2_init 68 = .ok (.new 9, 3) := by decide +kernel
theorem dX2_init_71 : decode cX2_init 71 = .ok (.dup, 1) := by decide +kernel
theorem dX2_init_72 : decode cX2_init 72 = .ok (.bipush 24, 2) := by decide +kernel
theorem dX2_init_74 : decode cX2_init 74 = .ok (.invokespecial 11, 3) := by decide +kernel
theorem dX2_init_77 : decode cX2_init 77 = .ok (.putfield 32, 3) := by decide +kernel
theorem dX2_init_80 : decode cX2_init 80 = .ok (.return_, 1) := by decide +kernel
theorem dX2_bit_0 : decode cX2_bit 0 = .ok (.iconst 1, 1) := by decide +kernel
theorem dX2_bit_1 : decode cX2_bit 1 = .ok (.iconst 4, 1) := by decide +kernel
theorem dX2_bit_2 : decode cX2_bit 2 = .ok (.iload_n 0, 1) := by decide +kernel
theorem dX2_bit_3 : decode cX2_bit 3 = .ok (.imul, 1) := by decide +kernel
theorem dX2_bit_4 : decode cX2_bit 4 = .ok (.iload_n 1, 1) := by decide +kernel
theorem dX2_bit_5 : decode cX2_bit 5 = .ok (.iadd, 1) := by decide +kernel
theorem dX2_bit_6 : decode cX2_bit 6 = .ok (.ishl, 1) := by decide +kernel
theorem dX2_bit_7 : decode cX2_bit 7 = .ok (.ireturn, 1) := by decide +kernel
set_option maxRecDepth 20000 in
theorem ggX2_hasWay_X9_isCorner : GoodIn wsX2_hasWay wsX9_isCorner := goodIn_r _ [4, 5, 6, 3, 7] (by decide +kernel) (by decide +kernel)
set_option maxRecDepth 20000 in
theorem gX2_hasWay_X9_isCorner_n35 : GoodIn wsX2_hasWay (wsX9_isCorner) := ggX2_hasWay_X9_isCorner
set_option maxRecDepth 20000 in
theorem ggX2_hasWay_X2_bit : GoodIn wsX2_hasWay wsX2_bit := goodIn_r _ [11] (by decide +kernel) (by decide +kernel)
set_option maxRecDepth 20000 in
theorem gX2_hasWay_X2_bit : GoodIn wsX2_hasWay (va_wsS RX2 43 yX2_bit wsX2_bit) := goodIn_app (goodIn_of _ (by decide +kernel)) ggX2_hasWay_X2_bit
theorem dX2_hasWay_0 : decode cX2_hasWay 0 = .ok (.iload_n 1, 1) := by decide +kernel
theorem dX2_hasWay_1 : decode cX2_hasWay 1 = .ok (.invokestatic 35, 3) := by decide +kernel
theorem dX2_hasWay_4 : decode cX2_hasWay 4 = .ok (.ifCond .eq 27, 3) := by decide +kernel
theorem dX2_hasWay_7 : decode cX2_hasWay 7 = .ok (.iload_n 2, 1) := by decide +kernel
theorem dX2_hasWay_8 : decode cX2_hasWay 8 = .ok (.invokestatic 35, 3) := by decide +kernel
theorem dX2_hasWay_11 : decode cX2_hasWay 11 = .ok (.ifCond .eq 20, 3) := by decide +kernel
theorem dX2_hasWay_14 : decode cX2_hasWay 14 = .ok (.aload_n 0, 1) := by decide +kernel
theorem dX2_hasWay_15 : decode cX2_hasWay 15 = .ok (.getfield 39, 3) := by decide +kernel
theorem dX2_hasWay_18 : decode cX2_hasWay 18 = .ok (.iload_n 1, 1) := by decide +kernel
theorem dX2_hasWay_19 : decode cX2_hasWay 19 = .ok (.iload_n 2, 1) := by decide +kernel
theorem dX2_hasWay_20 : decode cX2_hasWay 20 = .ok (.invokestatic 43, 3) := by decide +kernel
theorem dX2_hasWay_23 : decode cX2_hasWay 23 = .ok (.iand, 1) := by decide +kernel
theorem dX2_hasWay_24 : decode cX2_hasWay 24 = .ok (.ifCond .eq 7, 3) := by decide +kernel
theorem dX2_hasWay_27 : decode cX2_hasWay 27 = .ok (.iconst 1, 1) := by decide +kernel
theorem dX2_hasWay_28 : decode cX2_hasWay 28 = .ok (.goto 4, 3) := by decide +kernel
theorem dX2_hasWay_31 : decode cX2_hasWay 31 = .ok (.iconst 0, 1) := by decide +kernel
theorem dX2_hasWay_32 : decode cX2_hasWay 32 = .ok (.ireturn, 1) := by decide +kernel
set_option maxRecDepth 20000 in
theorem ggX2_setWay_X2_bit : GoodIn wsX2_setWay wsX2_bit := goodIn_r _ [5] (by decide +kernel) (by decide +kernel)
set_option maxRecDepth 20000 in
theorem gX2_setWay_X2_bit : GoodIn wsX2_setWay (va_wsS RX2 43 yX2_bit wsX2_bit) := goodIn_app (goodIn_of _ (by decide +kernel)) ggX2_setWay_X2_bit
theorem dX2_setWay_0 : decode cX2_setWay 0 = .ok (.iload_n 1, 1) := by decide +kernel
theorem dX2_setWay_1 : decode cX2_setWay 1 = .ok (.iload_n 2, 1) := by decide +kernel
theorem dX2_setWay_2 : decode cX2_setWay 2 = .ok (.invokestatic 43, 3) := by decide +kernel
theorem dX2_setWay_5 : decode cX2_setWay 5 = .ok (.iload_n 2, 1) := by decide +kernel
theorem dX2_setWay_6 : decode cX2_setWay 6 = .ok (.iload_n 1, 1) := by decide +kernel
theorem dX2_setWay_7 : decode cX2_setWay 7 = .ok (.invokestatic 43, 3) := by decide +kernel
theorem dX2_setWay_10 : decode cX2_setWay 10 = .ok (.ior, 1) := by decide +kernel
theorem dX2_setWay_11 : decode cX2_setWay 11 = .ok (.istore 4, 2) := by decide +kernel
theorem dX2_setWay_13 : decode cX2_setWay 13 = .ok (.aload_n 0, 1) := by decide +kernel
theorem dX2_setWay_14 : decode cX2_setWay 14 = .ok (.iload_n 3, 1) := by decide +kernel
theorem dX2_setWay_15 : decode cX2_setWay 15 = .ok (.ifCond .eq 13, 3) := by decide +kernel
theorem dX2_setWay_18 : decode cX2_setWay 18 = .ok (.aload_n 0, 1) := by decide +kernel
theorem dX2_setWay_19 : decode cX2_setWay 19 = .ok (.getfield 39, 3) := by decide +kernel
theorem dX2_setWay_22 : decode cX2_setWay 22 = .ok (.iload 4, 2) := by decide +kernel
theorem dX2_setWay_24 : decode cX2_setWay 24 = .ok (.ior, 1) := by decide +kernel
theorem dX2_setWay_25 : decode cX2_setWay 25 = .ok (.goto 12, 3) := by decide +kernel
theorem dX2_setWay_28 : decode cX2_setWay 28 = .ok (.aload_n 0, 1) := by decide +kernel
theorem dX2_setWay_29 : decode cX2_setWay 29 = .ok (.getfield 39, 3) := by decide +kernel
theorem dX2_setWay_32 : decode cX2_setWay 32 = .ok (.iload 4, 2) := by decide +kernel
theorem dX2_setWay_34 : decode cX2_setWay 34 = .ok (.iconst (-1), 1) := by decide +kernel
theorem dX2_setWay_35 : decode cX2_setWay 35 = .ok (.ixor, 1) := by decide +kernel
theorem dX2_setWay_36 : decode cX2_setWay 36 = .ok (.iand, 1) := by decide +kernel
theorem dX2_setWay_37 : decode cX2_setWay 37 = .ok (.putfield 39, 3) := by decide +kernel
theorem dX2_setWay_40 : decode cX2_setWay 40 = .ok (.return_, 1) := by decide +kernel
set_option maxRecDepth 20000 in
theorem ggX2_wayCount_J6_bitCount_0f7a4 : GoodIn wsX2_wayCount wsJ6_bitCount_0f7a4 := goodIn_r _ [5, 6, 7, 8] (by decide +kernel) (by decide +kernel)
set_option maxRecDepth 20000 in
theorem gX2_wayCount_J6_bitCount_0f7a4 : GoodIn wsX2_wayCount (va_wsS RX2 47 yJ6_bitCount_0f7a4 wsJ6_bitCount_0f7a4) := goodIn_app (goodIn_of _ (by decide +kernel)) ggX2_wayCount_J6_bitCount_0f7a4
theorem dX2_wayCount_0 : decode cX2_wayCount 0 = .ok (.aload_n 0, 1) := by decide +kernel
theorem dX2_wayCount_1 : decode cX2_wayCount 1 = .ok (.getfield 39, 3) := by decide +kernel
theorem dX2_wayCount_4 : decode cX2_wayCount 4 = .ok (.invokestatic 47, 3) := by decide +kernel
theorem dX2_wayCount_7 : decode cX2_wayCount 7 = .ok (.iconst 2, 1) := by decide +kernel
theorem dX2_wayCount_8 : decode cX2_wayCount 8 = .ok (.idiv, 1) := by decide +kernel
theorem dX2_wayCount_9 : decode cX2_wayCount 9 = .ok (.ireturn, 1) := by decide +kernel
theorem dX2_wayBits_0 : decode cX2_wayBits 0 = .ok (.aload_n 0, 1) := by decide +kernel
theorem dX2_wayBits_1 : decode cX2_wayBits 1 = .ok (.getfield 39, 3) := by decide +kernel
theorem dX2_wayBits_4 : decode cX2_wayBits 4 = .ok (.ireturn, 1) := by decide +kernel
set_option maxRecDepth 20000 in
theorem ggX2_hasWayOut_X2_hasWay : GoodIn wsX2_hasWayOut wsX2_hasWay := goodIn_r _ [5, 6, 7, 8, 9, 10, 11, 12, 13, 14, 4, 15, 16, 17, 18, 19, 20, 21, 22] (by decide +kernel) (by decide +kernel)
set_option maxRecDepth 20000 in
theorem gX2_hasWayOut_X2_hasWay : GoodIn wsX2_hasWayOut (wsV RX2 53 RX2 yX2_hasWay wsX2_hasWay) := goodIn_app (goodIn_of _ (by decide +kernel)) ggX2_hasWayOut_X2_hasWay
theorem dX2_hasWayOut_0 : decode cX2_hasWayOut 0 = .ok (.iconst 0, 1) := by decide +kernel
theorem dX2_hasWayOut_1 : decode cX2_hasWayOut 1 = .ok (.istore_n 2, 1) := by decide +kernel
theorem dX2_hasWayOut_2 : decode cX2_hasWayOut 2 = .ok (.iload_n 2, 1) := by decide +kernel
theorem dX2_hasWayOut_3 : decode cX2_hasWayOut 3 = .ok (.iconst 4, 1) := by decide +kernel
theorem dX2_hasWayOut_4 : decode cX2_hasWayOut 4 = .ok (.if_icmp .ge 20, 3) := by decide +kernel
theorem dX2_hasWayOut_7 : decode cX2_hasWayOut 7 = .ok (.aload_n 0, 1) := by decide +kernel
theorem dX2_hasWayOut_8 : decode cX2_hasWayOut 8 = .ok (.iload_n 1, 1) := by decide +kernel
theorem dX2_hasWayOut_9 : decode cX2_hasWayOut 9 = .ok (.iload_n 2, 1) := by decide +kernel
theorem dX2_hasWayOut_10 : decode cX2_hasWayOut 10 = .ok (.invokevirtual 53, 3) := by decide +kernel
theorem dX2_hasWayOut_13 : decode cX2_hasWayOut 13 = .ok (.ifCond .eq 5, 3) := by decide +kernel
theorem dX2_hasWayOut_16 : decode cX2_hasWayOut 16 = .ok (.iconst 1, 1) := by decide +kernel
theorem dX2_hasWayOut_17 : decode cX2_hasWayOut 17 = .ok (.ireturn, 1) := by decide +kernel
theorem dX2_hasWayOut_18 : decode cX2_hasWayOut 18 = .ok (.iinc 2 1, 3) := by decide +kernel
theorem dX2_hasWayOut_21 : decode cX2_hasWayOut 21 = .ok (.goto (-19), 3) := by decide +kernel
theorem dX2_hasWayOut_24 : decode cX2_hasWayOut 24 = .ok (.iconst 0, 1) := by decide +kernel
theorem dX2_hasWayOut_25 : decode cX2_hasWayOut 25 = .ok (.ireturn, 1) := by decide +kernel
set_option maxRecDepth 20000 in
theorem ggX2_people_X7_size : GoodIn wsX2_people wsX7_size := goodIn_r _ [6, 7, 15, 16] (by decide +kernel) (by decide +kernel)
set_option maxRecDepth 20000 in
theorem gX2_people_X7_size : GoodIn wsX2_people (wsV RX2 57 RX7 yX7_size wsX7_size) := goodIn_app (goodIn_of _ (by decide +kernel)) ggX2_people_X7_size
theorem dX2_people_0 : decode cX2_people 0 = .ok (.aload_n 0, 1) := by decide +kernel
theorem dX2_people_1 : decode cX2_people 1 = .ok (.getfield 14, 3) := by decide +kernel
theorem dX2_people_4 : decode cX2_people 4 = .ok (.invokevirtual 57, 3) := by decide +kernel
theorem dX2_people_7 : decode cX2_people 7 = .ok (.ireturn, 1) := by decide +kernel
set_option maxRecDepth 20000 in
theorem ggX2_isPerson_X2_people : GoodIn wsX2_isPerson wsX2_people := goodIn_r _ [5, 6, 7, 8, 9, 10, 11, 12, 16, 17, 18, 19, 20, 21, 22, 23, 24] (by decide +kernel) (by decide +kernel)
set_option maxRecDepth 20000 in
theorem gX2_isPerson_X2_people : GoodIn wsX2_isPerson (wsV RX2 61 RX2 yX2_people wsX2_people) := goodIn_app (goodIn_of _ (by decide +kernel)) ggX2_isPerson_X2_people
set_option maxRecDepth 20000 in
theorem ggX2_isPerson_X9_isWithin : GoodIn wsX2_isPerson wsX9_isWithin := goodIn_r _ [15] (by decide +kernel) (by decide +kernel)
set_option maxRecDepth 20000 in
theorem gX2_isPerson_X9_isWithin_n64 : GoodIn wsX2_isPerson (wsX9_isWithin) := ggX2_isPerson_X9_isWithin
theorem dX2_isPerson_0 : decode cX2_isPerson 0 = .ok (.iload_n 1, 1) := by decide +kernel
theorem dX2_isPerson_1 : decode cX2_isPerson 1 = .ok (.iconst 0, 1) := by decide +kernel
theorem dX2_isPerson_2 : decode cX2_isPerson 2 = .ok (.aload_n 0, 1) := by decide +kernel
theorem dX2_isPerson_3 : decode cX2_isPerson 3 = .ok (.invokevirtual 61, 3) := by decide +kernel
theorem dX2_isPerson_6 : decode cX2_isPerson 6 = .ok (.iconst 1, 1) := by decide +kernel
theorem dX2_isPerson_7 : decode cX2_isPerson 7 = .ok (.isub, 1) := by decide +kernel
theorem dX2_isPerson_8 : decode cX2_isPerson 8 = .ok (.invokestatic 64, 3) := by decide +kernel
theorem dX2_isPerson_11 : decode cX2_isPerson 11 = .ok (.ireturn, 1) := by decide +kernel
set_option maxRecDepth 20000 in
theorem ggX2_addPerson_X7_add : GoodIn wsX2_addPerson wsX7_add := goodIn_r _ [7, 8, 9, 17, 18] (by decide +kernel) (by decide +kernel)
set_option maxRecDepth 20000 in
theorem gX2_addPerson_X7_add : GoodIn wsX2_addPerson (wsV RX2 68 RX7 yX7_add wsX7_add) := goodIn_app (goodIn_of _ (by decide +kernel)) ggX2_addPerson_X7_add
theorem dX2_addPerson_0 : decode cX2_addPerson 0 = .ok (.aload_n 0, 1) := by decide +kernel
theorem dX2_addPerson_1 : decode cX2_addPerson 1 = .ok (.getfield 14, 3) := by decide +kernel
theorem dX2_addPerson_4 : decode cX2_addPerson 4 = .ok (.iload_n 1, 1) := by decide +kernel
theorem dX2_addPerson_5 : decode cX2_addPerson 5 = .ok (.invokevirtual 68, 3) := by decide +kernel
theorem dX2_addPerson_8 : decode cX2_addPerson 8 = .ok (.aload_n 0, 1) := by decide +kernel
theorem dX2_addPerson_9 : decode cX2_addPerson 9 = .ok (.getfield 20, 3) := by decide +kernel
theorem dX2_addPerson_12 : decode cX2_addPerson 12 = .ok (.iload_n 2, 1) := by decide +kernel
theorem dX2_addPerson_13 : decode cX2_addPerson 13 = .ok (.invokevirtual 68, 3) := by decide +kernel
theorem dX2_addPerson_16 : decode cX2_addPerson 16 = .ok (.return_, 1) := by decide +kernel
set_option maxRecDepth 20000 in
theorem ggX2_starters_X2_people : GoodIn wsX2_starters wsX2_people := goodIn_r _ [6, 1, 7, 8, 9, 10, 11, 12, 18, 19, 20, 21, 22, 23, 24, 25, 26] (by decide +kernel) (by decide +kernel)
set_option maxRecDepth 20000 in
theorem gX2_starters_X2_people : GoodIn wsX2_starters (wsV RX2 61 RX2 yX2_people wsX2_people) := goodIn_app (goodIn_of _ (by decide +kernel)) ggX2_starters_X2_people
set_option maxRecDepth 20000 in
theorem ggX2_starters_X7_get : GoodIn wsX2_starters wsX7_get := goodIn_r _ [16, 12, 17, 25, 26] (by decide +kernel) (by decide +kernel)
set_option maxRecDepth 20000 in
theorem gX2_starters_X7_get : GoodIn wsX2_starters (wsV RX2 71 RX7 yX7_get wsX7_get) := goodIn_app (goodIn_of _ (by decide +kernel)) ggX2_starters_X7_get
theorem dX2_starters_0 : decode cX2_starters 0 = .ok (.iconst 0, 1) := by decide +kernel
theorem dX2_starters_1 : decode cX2_starters 1 = .ok (.istore_n 2, 1) := by decide +kernel
theorem dX2_starters_2 : decode cX2_starters 2 = .ok (.iconst 0, 1) := by decide +kernel
theorem dX2_starters_3 : decode cX2_starters 3 = .ok (.istore_n 3, 1) := by decide +kernel
theorem dX2_starters_4 : decode cX2_starters 4 = .ok (.iload_n 3, 1) := by decide +kernel
theorem dX2_starters_5 : decode cX2_starters 5 = .ok (.aload_n 0, 1) := by decide +kernel
theorem dX2_starters_6 : decode cX2_starters 6 = .ok (.invokevirtual 61, 3) := by decide +kernel
theorem dX2_starters_9 : decode cX2_starters 9 = .ok (.if_icmp .ge 24, 3) := by decide +kernel
theorem dX2_starters_12 : decode cX2_starters 12 = .ok (.aload_n 0, 1) := by decide +kernel
theorem dX2_starters_13 : decode cX2_starters 13 = .ok (.getfield 14, 3) := by decide +kernel
theorem dX2_starters_16 : decode cX2_starters 16 = .ok (.iload_n 3, 1) := by decide +kernel
theorem dX2_starters_17 : decode cX2_starters 17 = .ok (.invokevirtual 71, 3) := by decide +kernel
theorem dX2_starters_20 : decode cX2_starters 20 = .ok (.iload_n 1, 1) := by decide +kernel
theorem dX2_starters_21 : decode cX2_starters 21 = .ok (.if_icmp .ne 6, 3) := by decide +kernel
theorem dX2_starters_24 : decode cX2_starters 24 = .ok (.iinc 2 1, 3) := by decide +kernel
theorem dX2_starters_27 : decode cX2_starters 27 = .ok (.iinc 3 1, 3) := by decide +kernel
theorem dX2_starters_30 : decode cX2_starters 30 = .ok (.goto (-26), 3) := by decide +kernel
theorem dX2_starters_33 : decode cX2_starters 33 = .ok (.iload_n 2, 1) := by decide +kernel
theorem dX2_starters_34 : decode cX2_starters 34 = .ok (.ireturn, 1) := by decide +kernel
set_option maxRecDepth 20000 in
theorem ggX2_gos_X7_size : GoodIn wsX2_gos wsX7_size := goodIn_r _ [6, 7, 15, 16] (by decide +kernel) (by decide +kernel)
set_option maxRecDepth 20000 in
theorem gX2_gos_X7_size : GoodIn wsX2_gos (wsV RX2 57 RX7 yX7_size wsX7_size) := goodIn_app (goodIn_of _ (by decide +kernel)) ggX2_gos_X7_size
theorem dX2_gos_0 : decode cX2_gos 0 = .ok (.aload_n 0, 1) := by decide +kernel
theorem dX2_gos_1 : decode cX2_gos 1 = .ok (.getfield 23, 3) := by decide +kernel
theorem dX2_gos_4 : decode cX2_gos 4 = .ok (.invokevirtual 57, 3) := by decide +kernel
theorem dX2_gos_7 : decode cX2_gos 7 = .ok (.ireturn, 1) := by decide +kernel
set_option maxRecDepth 20000 in
theorem ggX2_lastHour_X2_gos : GoodIn wsX2_lastHour wsX2_gos := goodIn_r _ [6, 1, 7, 8, 9, 10, 11, 12, 18, 19, 20, 21, 22, 23, 24, 25, 26] (by decide +kernel) (by decide +kernel)
set_option maxRecDepth 20000 in
theorem gX2_lastHour_X2_gos : GoodIn wsX2_lastHour (wsV RX2 74 RX2 yX2_gos wsX2_gos) := goodIn_app (goodIn_of _ (by decide +kernel)) ggX2_lastHour_X2_gos
set_option maxRecDepth 20000 in
theorem ggX2_lastHour_X7_get : GoodIn wsX2_lastHour wsX7_get := goodIn_r _ [16, 12, 17, 25, 26] (by decide +kernel) (by decide +kernel)
set_option maxRecDepth 20000 in
theorem gX2_lastHour_X7_get : GoodIn wsX2_lastHour (wsV RX2 71 RX7 yX7_get wsX7_get) := goodIn_app (goodIn_of _ (by decide +kernel)) ggX2_lastHour_X7_get
theorem dX2_lastHour_0 : decode cX2_lastHour 0 = .ok (.aload_n 0, 1) := by decide +kernel
theorem dX2_lastHour_1 : decode cX2_lastHour 1 = .ok (.getfield 23, 3) := by decide +kernel
theorem dX2_lastHour_4 : decode cX2_lastHour 4 = .ok (.aload_n 0, 1) := by decide +kernel
theorem dX2_lastHour_5 : decode cX2_lastHour 5 = .ok (.invokevirtual 74, 3) := by decide +kernel
theorem dX2_lastHour_8 : decode cX2_lastHour 8 = .ok (.iconst 1, 1) := by decide +kernel
theorem dX2_lastHour_9 : decode cX2_lastHour 9 = .ok (.isub, 1) := by decide +kernel
theorem dX2_lastHour_10 : decode cX2_lastHour 10 = .ok (.invokevirtual 71, 3) := by decide +kernel
theorem dX2_lastHour_13 : decode cX2_lastHour 13 = .ok (.ireturn, 1) := by decide +kernel
set_option maxRecDepth 20000 in
theorem ggX2_addGo_X7_add : GoodIn wsX2_addGo wsX7_add := goodIn_r _ [9, 10, 11, 19, 20] (by decide +kernel) (by decide +kernel)
set_option maxRecDepth 20000 in
theorem gX2_addGo_X7_add : GoodIn wsX2_addGo (wsV RX2 68 RX7 yX7_add wsX7_add) := goodIn_app (goodIn_of _ (by decide +kernel)) ggX2_addGo_X7_add
theorem dX2_addGo_0 : decode cX2_addGo 0 = .ok (.aload_n 0, 1) := by decide +kernel
theorem dX2_addGo_1 : decode cX2_addGo 1 = .ok (.getfield 23, 3) := by decide +kernel
theorem dX2_addGo_4 : decode cX2_addGo 4 = .ok (.iload_n 1, 1) := by decide +kernel
theorem dX2_addGo_5 : decode cX2_addGo 5 = .ok (.invokevirtual 68, 3) := by decide +kernel
theorem dX2_addGo_8 : decode cX2_addGo 8 = .ok (.aload_n 0, 1) := by decide +kernel
theorem dX2_addGo_9 : decode cX2_addGo 9 = .ok (.getfield 26, 3) := by decide +kernel
theorem dX2_addGo_12 : decode cX2_addGo 12 = .ok (.iload_n 2, 1) := by decide +kernel
theorem dX2_addGo_13 : decode cX2_addGo 13 = .ok (.invokevirtual 68, 3) := by decide +kernel
theorem dX2_addGo_16 : decode cX2_addGo 16 = .ok (.aload_n 0, 1) := by decide +kernel
theorem dX2_addGo_17 : decode cX2_addGo 17 = .ok (.getfield 29, 3) := by decide +kernel
theorem dX2_addGo_20 : decode cX2_addGo 20 = .ok (.iload_n 3, 1) := by decide +kernel
theorem dX2_addGo_21 : decode cX2_addGo 21 = .ok (.invokevirtual 68, 3) := by decide +kernel
theorem dX2_addGo_24 : decode cX2_addGo 24 = .ok (.aload_n 0, 1) := by decide +kernel
theorem dX2_addGo_25 : decode cX2_addGo 25 = .ok (.getfield 32, 3) := by decide +kernel
theorem dX2_addGo_28 : decode cX2_addGo 28 = .ok (.iload 4, 2) := by decide +kernel
theorem dX2_addGo_30 : decode cX2_addGo 30 = .ok (.invokevirtual 68, 3) := by decide +kernel
theorem dX2_addGo_33 : decode cX2_addGo 33 = .ok (.return_, 1) := by decide +kernel
set_option maxRecDepth 20000 in
theorem ggX2_goes_X7_get : GoodIn wsX2_goes wsX7_get := goodIn_r _ [6, 7, 8, 16, 17] (by decide +kernel) (by decide +kernel)
set_option maxRecDepth 20000 in
theorem gX2_goes_X7_get : GoodIn wsX2_goes (wsV RX2 71 RX7 yX7_get wsX7_get) := goodIn_app (goodIn_of _ (by decide +kernel)) ggX2_goes_X7_get
theorem dX2_goes_0 : decode cX2_goes 0 = .ok (.aload_n 0, 1) := by decide +kernel
theorem dX2_goes_1 : decode cX2_goes 1 = .ok (.getfield 32, 3) := by decide +kernel
theorem dX2_goes_4 : decode cX2_goes 4 = .ok (.iload_n 1, 1) := by decide +kernel
theorem dX2_goes_5 : decode cX2_goes 5 = .ok (.invokevirtual 71, 3) := by decide +kernel
theorem dX2_goes_8 : decode cX2_goes 8 = .ok (.iload_n 2, 1) := by decide +kernel
theorem dX2_goes_9 : decode cX2_goes 9 = .ok (.ishr, 1) := by decide +kernel
theorem dX2_goes_10 : decode cX2_goes 10 = .ok (.iconst 1, 1) := by decide +kernel
theorem dX2_goes_11 : decode cX2_goes 11 = .ok (.iand, 1) := by decide +kernel
theorem dX2_goes_12 : decode cX2_goes 12 = .ok (.iconst 1, 1) := by decide +kernel
theorem dX2_goes_13 : decode cX2_goes 13 = .ok (.if_icmp .ne 7, 3) := by decide +kernel
theorem dX2_goes_16 : decode cX2_goes 16 = .ok (.iconst 1, 1) := by decide +kernel
theorem dX2_goes_17 : decode cX2_goes 17 = .ok (.goto 4, 3) := by decide +kernel
theorem dX2_goes_20 : decode cX2_goes 20 = .ok (.iconst 0, 1) := by decide +kernel
theorem dX2_goes_21 : decode cX2_goes 21 = .ok (.ireturn, 1) := by decide +kernel
set_option maxRecDepth 20000 in
theorem ggX2_lastCorner_X2_gos : GoodIn wsX2_lastCorner wsX2_gos := goodIn_r _ [7, 8, 9, 10, 11, 12, 13, 14, 25, 26, 27, 28, 29, 30, 31, 32, 33] (by decide +kernel) (by decide +kernel)
set_option maxRecDepth 20000 in
theorem gX2_lastCorner_X2_gos : GoodIn wsX2_lastCorner (wsV RX2 74 RX2 yX2_gos wsX2_gos) := goodIn_app (goodIn_of _ (by decide +kernel)) ggX2_lastCorner_X2_gos
set_option maxRecDepth 20000 in
theorem ggX2_lastCorner_X2_goes : GoodIn wsX2_lastCorner wsX2_goes := goodIn_r _ [18, 19, 20, 21, 22, 12, 23, 14, 24, 25, 26, 27, 28, 29, 30, 31, 32, 33] (by decide +kernel) (by decide +kernel)
set_option maxRecDepth 20000 in
theorem gX2_lastCorner_X2_goes : GoodIn wsX2_lastCorner (wsV RX2 77 RX2 yX2_goes wsX2_goes) := goodIn_app (goodIn_of _ (by decide +kernel)) ggX2_lastCorner_X2_goes
set_option maxRecDepth 20000 in
theorem ggX2_lastCorner_X7_get : GoodIn wsX2_lastCorner wsX7_get := goodIn_r _ [23, 14, 24, 32, 33] (by decide +kernel) (by decide +kernel)
set_option maxRecDepth 20000 in
theorem gX2_lastCorner_X7_get : GoodIn wsX2_lastCorner (wsV RX2 71 RX7 yX7_get wsX7_get) := goodIn_app (goodIn_of _ (by decide +kernel)) ggX2_lastCorner_X7_get
theorem dX2_lastCorner_0 : decode cX2_lastCorner 0 = .ok (.aload_n 0, 1) := by decide +kernel
theorem dX2_lastCorner_1 : decode cX2_lastCorner 1 = .ok (.invokevirtual 74, 3) := by decide +kernel
theorem dX2_lastCorner_4 : decode cX2_lastCorner 4 = .ok (.iconst 1, 1) := by decide +kernel
theorem dX2_lastCorner_5 : decode cX2_lastCorner 5 = .ok (.isub, 1) := by decide +kernel
theorem dX2_lastCorner_6 : decode cX2_lastCorner 6 = .ok (.istore_n 2, 1) := by decide +kernel
theorem dX2_lastCorner_7 : decode cX2_lastCorner 7 = .ok (.iload_n 2, 1) := by decide +kernel
theorem dX2_lastCorner_8 : decode cX2_lastCorner 8 = .ok (.ifCond .lt 27, 3) := by decide +kernel
theorem dX2_lastCorner_11 : decode cX2_lastCorner 11 = .ok (.aload_n 0, 1) := by decide +kernel
theorem dX2_lastCorner_12 : decode cX2_lastCorner 12 = .ok (.iload_n 2, 1) := by decide +kernel
theorem dX2_lastCorner_13 : decode cX2_lastCorner 13 = .ok (.iload_n 1, 1) := by decide +kernel
theorem dX2_lastCorner_14 : decode cX2_lastCorner 14 = .ok (.invokevirtual 77, 3) := by decide +kernel
theorem dX2_lastCorner_17 : decode cX2_lastCorner 17 = .ok (.ifCond .eq 12, 3) := by decide +kernel
theorem dX2_lastCorner_20 : decode cX2_lastCorner 20 = .ok (.aload_n 0, 1) := by decide +kernel
theorem dX2_lastCorner_21 : decode cX2_lastCorner 21 = .ok (.getfield 29, 3) := by decide +kernel
theorem dX2_lastCorner_24 : decode cX2_lastCorner 24 = .ok (.iload_n 2, 1) := by decide +kernel
theorem dX2_lastCorner_25 : decode cX2_lastCorner 25 = .ok (.invokevirtual 71, 3) := by decide +kernel
theorem dX2_lastCorner_28 : decode cX2_lastCorner 28 = .ok (.ireturn, 1) := by decide +kernel
theorem dX2_lastCorner_29 : decode cX2_lastCorner 29 = .ok (.iinc 2 (-1), 3) := by decide +kernel
theorem dX2_lastCorner_32 : decode cX2_lastCorner 32 = .ok (.goto (-25), 3) := by decide +kernel
theorem dX2_lastCorner_35 : decode cX2_lastCorner 35 = .ok (.aload_n 0, 1) := by decide +kernel
theorem dX2_lastCorner_36 : decode cX2_lastCorner 36 = .ok (.getfield 14, 3) := by decide +kernel
theorem dX2_lastCorner_39 : decode cX2_lastCorner 39 = .ok (.iload_n 1, 1) := by decide +kernel
theorem dX2_lastCorner_40 : decode cX2_lastCorner 40 = .ok (.invokevirtual 71, 3) := by decide +kernel
theorem dX2_lastCorner_43 : decode cX2_lastCorner 43 = .ok (.ireturn, 1) := by decide +kernel
set_option maxRecDepth 20000 in
theorem ggX2_empty_X7_empty : GoodIn wsX2_empty wsX7_empty := goodIn_r _ [12, 13, 21, 22] (by decide +kernel) (by decide +kernel)
set_option maxRecDepth 20000 in
theorem gX2_empty_X7_empty : GoodIn wsX2_empty (wsV RX2 80 RX7 yX7_empty wsX7_empty) := goodIn_app (goodIn_of _ (by decide +kernel)) ggX2_empty_X7_empty
theorem dX2_empty_0 : decode cX2_empty 0 = .ok (.aload_n 0, 1) := by decide +kernel
theorem dX2_empty_1 : decode cX2_empty 1 = .ok (.iconst 0, 1) := by decide +kernel
theorem dX2_empty_2 : decode cX2_empty 2 = .ok (.putfield 39, 3) := by decide +kernel
theorem dX2_empty_5 : decode cX2_empty 5 = .ok (.aload_n 0, 1) := by decide +kernel
theorem dX2_empty_6 : decode cX2_empty 6 = .ok (.getfield 14, 3) := by decide +kernel
theorem dX2_empty_9 : decode cX2_empty 9 = .ok (.invokevirtual 80, 3) := by decide +kernel
theorem dX2_empty_12 : decode cX2_empty 12 = .ok (.aload_n 0, 1) := by decide +kernel
theorem dX2_empty_13 : decode cX2_empty 13 = .ok (.getfield 20, 3) := by decide +kernel
theorem dX2_empty_16 : decode cX2_empty 16 = .ok (.invokevirtual 80, 3) := by decide +kernel
theorem dX2_empty_19 : decode cX2_empty 19 = .ok (.aload_n 0, 1) := by decide +kernel
theorem dX2_empty_20 : decode cX2_empty 20 = .ok (.getfield 23, 3) := by decide +kernel
theorem dX2_empty_23 : decode cX2_empty 23 = .ok (.invokevirtual 80, 3) := by decide +kernel
theorem dX2_empty_26 : decode cX2_empty 26 = .ok (.aload_n 0, 1) := by decide +kernel
theorem dX2_empty_27 : decode cX2_empty 27 = .ok (.getfield 26, 3) := by decide +kernel
theorem dX2_empty_30 : decode cX2_empty 30 = .ok (.invokevirtual 80, 3) := by decide +kernel
theorem dX2_empty_33 : decode cX2_empty 33 = .ok (.aload_n 0, 1) := by decide +kernel
theorem dX2_empty_34 : decode cX2_empty 34 = .ok (.getfield 29, 3) := by decide +kernel
theorem dX2_empty_37 : decode cX2_empty 37 = .ok (.invokevirtual 80, 3) := by decide +kernel
theorem dX2_empty_40 : decode cX2_empty 40 = .ok (.aload_n 0, 1) := by decide +kernel
theorem dX2_empty_41 : decode cX2_empty 41 = .ok (.getfield 32, 3) := by decide +kernel
theorem dX2_empty_44 : decode cX2_empty 44 = .ok (.invokevirtual 80, 3) := by decide +kernel
theorem dX2_empty_47 : decode cX2_empty 47 = .ok (.return_, 1) := by decide +kernel
set_option maxRecDepth 20000 in
theorem ggX2_copy_X7_copy : GoodIn wsX2_copy wsX7_copy := goodIn_r _ [12, 13, 14, 15, 16, 11, 17, 18, 19, 20, 21, 22, 23, 24, 25, 26, 34, 35] (by decide +kernel) (by decide +kernel)
set_option maxRecDepth 20000 in
theorem gX2_copy_X7_copy : GoodIn wsX2_copy (wsV RX2 83 RX7 yX7_copy wsX7_copy) := goodIn_app (goodIn_of _ (by decide +kernel)) ggX2_copy_X7_copy
theorem dX2_copy_0 : decode cX2_copy 0 = .ok (.aload_n 0, 1) := by decide +kernel
theorem dX2_copy_1 : decode cX2_copy 1 = .ok (.aload_n 1, 1) := by decide +kernel
theorem dX2_copy_2 : decode cX2_copy 2 = .ok (.getfield 39, 3) := by decide +kernel
theorem dX2_copy_5 : decode cX2_copy 5 = .ok (.putfield 39, 3) := by decide +kernel
theorem dX2_copy_8 : decode cX2_copy 8 = .ok (.aload_n 0, 1) := by decide +kernel
theorem dX2_copy_9 : decode cX2_copy 9 = .ok (.getfield 14, 3) := by decide +kernel
theorem dX2_copy_12 : decode cX2_copy 12 = .ok (.aload_n 1, 1) := by decide +kernel
theorem dX2_copy_13 : decode cX2_copy 13 = .ok (.getfield 14, 3) := by decide +kernel
theorem dX2_copy_16 : decode cX2_copy 16 = .ok (.invokevirtual 83, 3) := by decide +kernel
theorem dX2_copy_19 : decode cX2_copy 19 = .ok (.aload_n 0, 1) := by decide +kernel
theorem dX2_copy_20 : decode cX2_copy 20 = .ok (.getfield 20, 3) := by decide +kernel
theorem dX2_copy_23 : decode cX2_copy 23 = .ok (.aload_n 1, 1) := by decide +kernel
theorem dX2_copy_24 : decode cX2_copy 24 = .ok (.getfield 20, 3) := by decide +kernel
theorem dX2_copy_27 : decode cX2_copy 27 = .ok (.invokevirtual 83, 3) := by decide +kernel
theorem dX2_copy_30 : decode cX2_copy 30 = .ok (.aload_n 0, 1) := by decide +kernel
theorem dX2_copy_31 : decode cX2_copy 31 = .ok (.getfield 23, 3) := by decide +kernel
theorem dX2_copy_34 : decode cX2_copy 34 = .ok (.aload_n 1, 1) := by decide +kernel
theorem dX2_copy_35 : decode cX2_copy 35 = .ok (.getfield 23, 3) := by decide +kernel
theorem dX2_copy_38 : decode cX2_copy 38 = .ok (.invokevirtual 83, 3) := by decide +kernel
theorem dX2_copy_41 : decode cX2_copy 41 = .ok (.aload_n 0, 1) := by decide +kernel
theorem dX2_copy_42 : decode cX2_copy 42 = .ok (.getfield 26, 3) := by decide +kernel
theorem dX2_copy_45 : decode cX2_copy 45 = .ok (.aload_n 1, 1) := by decide +kernel
theorem dX2_copy_46 : decode cX2_copy 46 = .ok (.getfield 26, 3) := by decide +kernel
theorem dX2_copy_49 : decode cX2_copy 49 = .ok (.invokevirtual 83, 3) := by decide +kernel
theorem dX2_copy_52 : decode cX2_copy 52 = .ok (.aload_n 0, 1) := by decide +kernel
theorem dX2_copy_53 : decode cX2_copy 53 = .ok (.getfield 29, 3) := by decide +kernel
theorem dX2_copy_56 : decode cX2_copy 56 = .ok (.aload_n 1, 1) := by decide +kernel
theorem dX2_copy_57 : decode cX2_copy 57 = .ok (.getfield 29, 3) := by decide +kernel
theorem dX2_copy_60 : decode cX2_copy 60 = .ok (.invokevirtual 83, 3) := by decide +kernel
theorem dX2_copy_63 : decode cX2_copy 63 = .ok (.aload_n 0, 1) := by decide +kernel
theorem dX2_copy_64 : decode cX2_copy 64 = .ok (.getfield 32, 3) := by decide +kernel
theorem dX2_copy_67 : decode cX2_copy 67 = .ok (.aload_n 1, 1) := by decide +kernel
theorem dX2_copy_68 : decode cX2_copy 68 = .ok (.getfield 32, 3) := by decide +kernel
theorem dX2_copy_71 : decode cX2_copy 71 = .ok (.invokevirtual 83, 3) := by decide +kernel
theorem dX2_copy_74 : decode cX2_copy 74 = .ok (.return_, 1) := by decide +kernel
set_option maxRecDepth 20000 in
theorem ggX3_init_X2_init : GoodIn wsX3_init wsX2_init := goodIn_r _ [13, 14, 2, 3, 15, 9, 10, 16, 17, 18, 19, 20, 21, 22, 23, 24, 25, 26, 27, 28, 29, 30, 31, 46, 47, 33, 34, 35, 36, 37, 38, 39] (by decide +kernel) (by decide +kernel)
set_option maxRecDepth 20000 in
theorem gX3_init_X2_init_n11 : GoodIn wsX3_init (wsX2_init) := ggX3_init_X2_init
set_option maxRecDepth 20000 in
theorem ggX3_init_X7_init : GoodIn wsX3_init wsX7_init := goodIn_r _ [24, 25, 2, 3, 26, 27, 28, 29, 30, 31, 46, 47] (by decide +kernel) (by decide +kernel)
set_option maxRecDepth 20000 in
theorem gX3_init_X7_init : GoodIn wsX3_init (wsX7_init) := ggX3_init_X7_init
theorem dX3_init_0 : decode cX3_init 0 = .ok (.aload_n 0, 1) := by decide +kernel
theorem dX3_init_1 : decode cX3_init 1 = .ok (.invokespecial 3, 3) := by decide +kernel
theorem dX3_init_4 : decode cX3_init 4 = .ok (.aload_n 0, 1) := by decide +kernel
theorem dX3_init_5 : decode cX3_init 5 = .ok (.new 9, 3) := by decide +kernel
theorem dX3_init_8 : decode cX3_init 8 = .ok (.dup, 1) := by decide +kernel
theorem dX3_init_9 : decode cX3_init 9 = .ok (.invokespecial 11, 3) := by decide +kernel
theorem dX3_init_12 : decode cX3_init 12 = .ok (.putfield 12, 3) := by decide +kernel
theorem dX3_init_15 : decode cX3_init 15 = .ok (.aload_n 0, 1) := by decide +kernel
theorem dX3_init_16 : decode cX3_init 16 = .ok (.new 18, 3) := by decide +kernel
theorem dX3_init_19 : decode cX3_init 19 = .ok (.dup, 1) := by decide +kernel
theorem dX3_init_20 : decode cX3_init 20 = .ok (.iconst 0, 1) := by decide +kernel
theorem dX3_init_21 : decode cX3_init 21 = .ok (.invokespecial 20, 3) := by decide +kernel
theorem dX3_init_24 : decode cX3_init 24 = .ok (.putfield 23, 3) := by decide +kernel
theorem dX3_init_27 : decode cX3_init 27 = .ok (.return_, 1) := by decide +kernel
set_option maxRecDepth 20000 in
theorem ggX3_parse_X2_empty : GoodIn wsX3_parse wsX2_empty := goodIn_r _ [10, 11, 12, 13, 14, 15, 16, 17, 18, 19, 20, 21, 22, 23, 187, 188, 189, 190, 191, 192, 193, 194, 195] (by decide +kernel) (by decide +kernel)
set_option maxRecDepth 20000 in
theorem gX3_parse_X2_empty : GoodIn wsX3_parse (wsV RX3 31 RX2 yX2_empty wsX2_empty) := goodIn_app (goodIn_of _ (by decide +kernel)) ggX3_parse_X2_empty
set_option maxRecDepth 20000 in
theorem ggX3_parse_X7_size : GoodIn wsX3_parse wsX7_size := goodIn_r _ [27, 23, 194, 195] (by decide +kernel) (by decide +kernel)
set_option maxRecDepth 20000 in
theorem gX3_parse_X7_size : GoodIn wsX3_parse (wsV RX3 34 RX7 yX7_size wsX7_size) := goodIn_app (goodIn_of _ (by decide +kernel)) ggX3_parse_X7_size
set_option maxRecDepth 20000 in
theorem ggX3_parse_X3_take : GoodIn wsX3_parse wsX3_take := goodIn_r _ [32, 2, 5, 1, 4, 33, 34, 35, 36, 31, 37, 24, 25, 26, 21, 27, 23, 38, 39, 40, 41, 42, 43, 44, 45, 46, 47, 48, 49, 50, 51, 52, 53, 54, 55, 56, 57, 58, 59, 60, 61, 62, 63, 64, 65, 66, 67, 68, 69, 70, 71, 72, 73, 74, 75, 76, 77, 78, 79, 80, 81, 82, 83, 84, 85, 86, 87, 88, 89, 90, 91, 92, 93, 94, 95, 96, 97, 98, 99, 100, 101, 102, 103, 104, 105, 106, 181, 182, 183, 184, 185, 186, 194, 195] (by decide +kernel) (by decide +kernel)
set_option maxRecDepth 20000 in
theorem gX3_parse_X3_take : GoodIn wsX3_parse (wsV RX3 38 RX3 yX3_take wsX3_take) := goodIn_app (goodIn_of _ (by decide +kernel)) ggX3_parse_X3_take
set_option maxRecDepth 20000 in
theorem ggX3_parse_X3_takeWay : GoodIn wsX3_parse wsX3_takeWay := goodIn_r _ [110, 33, 3, 111, 112, 113, 31, 114, 4, 28, 29, 30, 32, 2, 5, 1, 34, 35, 36, 37, 24, 25, 26, 21, 27, 23, 38, 39, 40, 41, 42, 43, 44, 45, 46, 47, 48, 49, 50, 51, 52, 53, 54, 55, 56, 57, 58, 59, 60, 61, 62, 63, 64, 65, 66, 67, 68, 69, 70, 71, 72, 73, 74, 75, 76, 77, 78, 79, 80, 81, 82, 83, 84, 85, 86, 87, 88, 89, 90, 91, 92, 93, 94, 95, 96, 97, 98, 99, 100, 101, 102, 103, 104, 105, 106, 115, 116, 117, 9, 118, 11, 119, 120, 121, 122, 123, 124, 125, 126, 127, 128, 129, 130, 131, 132, 181, 182, 183, 184, 185, 186, 194, 195, 187, 188, 189, 190, 191, 192, 193] (by decide +kernel) (by decide +kernel)
set_option maxRecDepth 20000 in
theorem gX3_parse_X3_takeWay : GoodIn wsX3_parse (wsV RX3 44 RX3 yX3_takeWay wsX3_takeWay) := goodIn_app (goodIn_of _ (by decide +kernel)) ggX3_parse_X3_takeWay
set_option maxRecDepth 20000 in
theorem ggX3_parse_X3_takeOne : GoodIn wsX3_parse wsX3_takeOne := goodIn_r _ [136, 3, 137, 33, 138, 139, 140, 21, 141, 23, 42, 111, 112, 113, 31, 114, 4, 28, 29, 30, 32, 2, 5, 1, 34, 35, 36, 37, 24, 25, 26, 27, 38, 39, 40, 41, 43, 44, 45, 46, 47, 48, 49, 50, 51, 52, 53, 54, 55, 56, 57, 58, 59, 60, 61, 62, 63, 64, 65, 66, 67, 68, 69, 70, 71, 72, 73, 74, 75, 76, 77, 78, 79, 80, 81, 82, 83, 84, 85, 86, 87, 88, 89, 90, 91, 92, 93, 94, 95, 96, 97, 98, 99, 100, 101, 102, 103, 104, 105, 106, 142, 143, 144, 9, 145, 12, 13, 146, 147, 148, 149, 129, 130, 131, 132, 181, 182, 183, 184, 185, 186, 187, 188, 189, 190, 191, 192, 193, 194, 195] (by decide +kernel) (by decide +kernel)
set_option maxRecDepth 20000 in
theorem gX3_parse_X3_takeOne : GoodIn wsX3_parse (wsV RX3 48 RX3 yX3_takeOne wsX3_takeOne) := goodIn_app (goodIn_of _ (by decide +kernel)) ggX3_parse_X3_takeOne
set_option maxRecDepth 20000 in
theorem ggX3_parse_X3_takeGo : GoodIn wsX3_parse wsX3_takeGo := goodIn_r _ [153, 3, 154, 33, 138, 139, 140, 21, 141, 23, 42, 155, 156, 157, 9, 158, 14, 159, 160, 161, 162, 163, 25, 26, 27, 164, 39, 40, 41, 111, 112, 113, 31, 114, 4, 28, 29, 30, 32, 2, 5, 1, 34, 35, 36, 37, 24, 38, 43, 44, 45, 46, 47, 48, 49, 50, 51, 52, 53, 54, 55, 56, 57, 58, 59, 60, 61, 62, 63, 64, 65, 66, 67, 68, 69, 70, 71, 72, 73, 74, 75, 76, 77, 78, 79, 80, 81, 82, 83, 84, 85, 86, 87, 88, 89, 90, 91, 92, 93, 94, 95, 96, 97, 98, 99, 100, 101, 102, 103, 104, 105, 106, 165, 166, 167, 168, 169, 170, 171, 172, 173, 174, 175, 176, 12, 177, 178, 179, 180, 15, 16, 17, 146, 147, 148, 149, 181, 182, 183, 184, 185, 186, 187, 188, 189, 190, 191, 192, 193, 194, 195] (by decide +kernel) (by decide +kernel)
set_option maxRecDepth 20000 in
theorem gX3_parse_X3_takeGo : GoodIn wsX3_parse (wsV RX3 51 RX3 yX3_takeGo wsX3_takeGo) := goodIn_app (goodIn_of _ (by decide +kernel)) ggX3_parse_X3_takeGo
theorem dX3_parse_0 : decode cX3_parse 0 = .ok (.aload_n 0, 1) := by decide +kernel
theorem dX3_parse_1 : decode cX3_parse 1 = .ok (.aload_n 1, 1) := by decide +kernel
theorem dX3_parse_2 : decode cX3_parse 2 = .ok (.putfield 23, 3) := by decide +kernel
theorem dX3_parse_5 : decode cX3_parse 5 = .ok (.aload_n 0, 1) := by decide +kernel
theorem dX3_parse_6 : decode cX3_parse 6 = .ok (.iconst 0, 1) := by decide +kernel
theorem dX3_parse_7 : decode cX3_parse 7 = .ok (.putfield 27, 3) := by decide +kernel
theorem dX3_parse_10 : decode cX3_parse 10 = .ok (.aload_n 0, 1) := by decide +kernel
theorem dX3_parse_11 : decode cX3_parse 11 = .ok (.getfield 12, 3) := by decide +kernel
theorem dX3_parse_14 : decode cX3_parse 14 = .ok (.invokevirtual 31, 3) := by decide +kernel
theorem dX3_parse_17 : decode cX3_parse 17 = .ok (.iconst 0, 1) := by decide +kernel
theorem dX3_parse_18 : decode cX3_parse 18 = .ok (.istore_n 2, 1) := by decide +kernel
theorem dX3_parse_19 : decode cX3_parse 19 = .ok (.iload_n 2, 1) := by decide +kernel
theorem dX3_parse_20 : decode cX3_parse 20 = .ok (.aload_n 1, 1) := by decide +kernel
theorem dX3_parse_21 : decode cX3_parse 21 = .ok (.invokevirtual 34, 3) := by decide +kernel
theorem dX3_parse_24 : decode cX3_parse 24 = .ok (.if_icmp .gt 87, 3) := by decide +kernel
theorem dX3_parse_27 : decode cX3_parse 27 = .ok (.aload_n 0, 1) := by decide +kernel
theorem dX3_parse_28 : decode cX3_parse 28 = .ok (.invokevirtual 38, 3) := by decide +kernel
theorem dX3_parse_31 : decode cX3_parse 31 = .ok (.aload_n 0, 1) := by decide +kernel
theorem dX3_parse_32 : decode cX3_parse 32 = .ok (.getfield 41, 3) := by decide +kernel
theorem dX3_parse_35 : decode cX3_parse 35 = .ok (.ifCond .ne 5, 3) := by decide +kernel
theorem dX3_parse_38 : decode cX3_parse 38 = .ok (.iconst (-1), 1) := by decide +kernel
theorem dX3_parse_39 : decode cX3_parse 39 = .ok (.ireturn, 1) := by decide +kernel
theorem dX3_parse_40 : decode cX3_parse 40 = .ok (.iconst 0, 1) := by decide +kernel
theorem dX3_parse_41 : decode cX3_parse 41 = .ok (.istore_n 3, 1) := by decide +kernel
theorem dX3_parse_42 : decode cX3_parse 42 = .ok (.aload_n 0, 1) := by decide +kernel
theorem dX3_parse_43 : decode cX3_parse 43 = .ok (.getfield 41, 3) := by decide +kernel
theorem dX3_parse_46 : decode cX3_parse 46 = .ok (.tableswitch 50 3 5 #[26, 34, 42], 26) := by decide +kernel
theorem dX3_parse_72 : decode cX3_parse 72 = .ok (.aload_n 0, 1) := by decide +kernel
theorem dX3_parse_73 : decode cX3_parse 73 = .ok (.invokevirtual 44, 3) := by decide +kernel
theorem dX3_parse_76 : decode cX3_parse 76 = .ok (.istore_n 3, 1) := by decide +kernel
theorem dX3_parse_77 : decode cX3_parse 77 = .ok (.goto 19, 3) := by decide +kernel
theorem dX3_parse_80 : decode cX3_parse 80 = .ok (.aload_n 0, 1) := by decide +kernel
theorem dX3_parse_81 : decode cX3_parse 81 = .ok (.invokevirtual 48, 3) := by decide +kernel
theorem dX3_parse_84 : decode cX3_parse 84 = .ok (.istore_n 3, 1) := by decide +kernel
theorem dX3_parse_85 : decode cX3_parse 85 = .ok (.goto 11, 3) := by decide +kernel
theorem dX3_parse_88 : decode cX3_parse 88 = .ok (.aload_n 0, 1) := by decide +kernel
theorem dX3_parse_89 : decode cX3_parse 89 = .ok (.invokevirtual 51, 3) := by decide +kernel
theorem dX3_parse_92 : decode cX3_parse 92 = .ok (.istore_n 3, 1) := by decide +kernel
theorem dX3_parse_93 : decode cX3_parse 93 = .ok (.goto 3, 3) := by decide +kernel
theorem dX3_parse_96 : decode cX3_parse 96 = .ok (.iload_n 3, 1) := by decide +kernel
theorem dX3_parse_97 : decode cX3_parse 97 = .ok (.ifCond .ne 8, 3) := by decide +kernel
theorem dX3_parse_100 : decode cX3_parse 100 = .ok (.aload_n 0, 1) := by decide +kernel
theorem dX3_parse_101 : decode cX3_parse 101 = .ok (.getfield 54, 3) := by decide +kernel
theorem dX3_parse_104 : decode cX3_parse 104 = .ok (.ireturn, 1) := by decide +kernel
theorem dX3_parse_105 : decode cX3_parse 105 = .ok (.iinc 2 1, 3) := by decide +kernel
theorem dX3_parse_108 : decode cX3_parse 108 = .ok (.goto (-89), 3) := by decide +kernel
theorem dX3_parse_111 : decode cX3_parse 111 = .ok (.aload_n 0, 1) := by decide +kernel
theorem dX3_parse_112 : decode cX3_parse 112 = .ok (.getfield 54, 3) := by decide +kernel
theorem dX3_parse_115 : decode cX3_parse 115 = .ok (.ireturn, 1) := by decide +kernel
set_option maxRecDepth 20000 in
theorem ggX3_takeWay_X3_takeNumber : GoodIn wsX3_takeWay wsX3_takeNumber := goodIn_r _ [7, 8, 1, 9, 10, 11, 6, 12, 13, 14, 15, 16, 17, 18, 19, 20, 21, 22, 23, 24, 25, 26, 27, 28, 29, 30, 31, 32, 33, 34, 35, 36, 37, 38, 39, 40, 41, 42, 43, 44, 45, 46, 47, 48, 49, 50, 51, 52, 53, 54, 55, 56, 57, 58, 59, 60, 61, 62, 63, 64, 65, 66, 67, 68, 69, 70, 71, 72, 73, 74, 75, 76, 77, 78, 79, 80, 81, 82, 83, 84, 85, 86, 87, 88, 89, 90, 91, 92, 93, 94, 115, 116, 117, 118, 119, 120, 121, 122] (by decide +kernel) (by decide +kernel)
set_option maxRecDepth 20000 in
theorem gX3_takeWay_X3_takeNumber : GoodIn wsX3_takeWay (wsV RX3 57 RX3 yX3_takeNumber wsX3_takeNumber) := goodIn_app (goodIn_of _ (by decide +kernel)) ggX3_takeWay_X3_takeNumber
set_option maxRecDepth 20000 in
theorem ggX3_takeWay_X2_hasWay : GoodIn wsX3_takeWay wsX2_hasWay := goodIn_r _ [99, 100, 101, 32, 102, 103, 31, 33, 104, 105, 98, 106, 123, 124, 125, 126, 127, 128, 129] (by decide +kernel) (by decide +kernel)
set_option maxRecDepth 20000 in
theorem gX3_takeWay_X2_hasWay : GoodIn wsX3_takeWay (wsV RX3 64 RX2 yX2_hasWay wsX2_hasWay) := goodIn_app (goodIn_of _ (by decide +kernel)) ggX3_takeWay_X2_hasWay
set_option maxRecDepth 20000 in
theorem ggX3_takeWay_X2_setWay : GoodIn wsX3_takeWay wsX2_setWay := goodIn_r _ [110, 100, 104, 105, 98, 106, 123, 124, 125, 126, 127, 128, 129] (by decide +kernel) (by decide +kernel)
set_option maxRecDepth 20000 in
theorem gX3_takeWay_X2_setWay : GoodIn wsX3_takeWay (wsV RX3 67 RX2 yX2_setWay wsX2_setWay) := goodIn_app (goodIn_of _ (by decide +kernel)) ggX3_takeWay_X2_setWay
set_option maxRecDepth 20000 in
theorem ggX3_takeWay_X3_takeStop : GoodIn wsX3_takeWay wsX3_takeStop := goodIn_r _ [114, 8, 9, 10, 11, 6, 12, 13, 14, 15, 1, 16, 17, 18, 19, 20, 21, 22, 23, 24, 25, 26, 27, 28, 29, 30, 31, 32, 33, 34, 35, 36, 37, 38, 39, 40, 41, 42, 43, 44, 45, 46, 47, 48, 49, 50, 51, 52, 53, 54, 55, 56, 57, 58, 59, 60, 61, 62, 63, 64, 65, 66, 67, 68, 69, 70, 71, 72, 73, 74, 75, 76, 77, 78, 79, 80, 81, 82, 83, 84, 85, 86, 87, 88, 89, 90, 91, 92, 93, 94, 115, 116, 117, 118, 119, 120, 121, 122] (by decide +kernel) (by decide +kernel)
set_option maxRecDepth 20000 in
theorem gX3_takeWay_X3_takeStop : GoodIn wsX3_takeWay (wsV RX3 71 RX3 yX3_takeStop wsX3_takeStop) := goodIn_app (goodIn_of _ (by decide +kernel)) ggX3_takeWay_X3_takeStop
theorem dX3_takeWay_0 : decode cX3_takeWay 0 = .ok (.aload_n 0, 1) := by decide +kernel
theorem dX3_takeWay_1 : decode cX3_takeWay 1 = .ok (.iconst 0, 1) := by decide +kernel
theorem dX3_takeWay_2 : decode cX3_takeWay 2 = .ok (.iconst 3, 1) := by decide +kernel
theorem dX3_takeWay_3 : decode cX3_takeWay 3 = .ok (.invokevirtual 57, 3) := by decide +kernel
theorem dX3_takeWay_6 : decode cX3_takeWay 6 = .ok (.ifCond .ne 5, 3) := by decide +kernel
theorem dX3_takeWay_9 : decode cX3_takeWay 9 = .ok (.iconst 0, 1) := by decide +kernel
theorem dX3_takeWay_10 : decode cX3_takeWay 10 = .ok (.ireturn, 1) := by decide +kernel
theorem dX3_takeWay_11 : decode cX3_takeWay 11 = .ok (.aload_n 0, 1) := by decide +kernel
theorem dX3_takeWay_12 : decode cX3_takeWay 12 = .ok (.getfield 61, 3) := by decide +kernel
theorem dX3_takeWay_15 : decode cX3_takeWay 15 = .ok (.istore_n 1, 1) := by decide +kernel
theorem dX3_takeWay_16 : decode cX3_takeWay 16 = .ok (.aload_n 0, 1) := by decide +kernel
theorem dX3_takeWay_17 : decode cX3_takeWay 17 = .ok (.iconst 0, 1) := by decide +kernel
theorem dX3_takeWay_18 : decode cX3_takeWay 18 = .ok (.iconst 3, 1) := by decide +kernel
theorem dX3_takeWay_19 : decode cX3_takeWay 19 = .ok (.invokevirtual 57, 3) := by decide +kernel
theorem dX3_takeWay_22 : decode cX3_takeWay 22 = .ok (.ifCond .eq 26, 3) := by decide +kernel
theorem dX3_takeWay_25 : decode cX3_takeWay 25 = .ok (.aload_n 0, 1) := by decide +kernel
theorem dX3_takeWay_26 : decode cX3_takeWay 26 = .ok (.getfield 61, 3) := by decide +kernel
theorem dX3_takeWay_29 : decode cX3_takeWay 29 = .ok (.iload_n 1, 1) := by decide +kernel
theorem dX3_takeWay_30 : decode cX3_takeWay 30 = .ok (.if_icmp .eq 18, 3) := by decide +kernel
theorem dX3_takeWay_33 : decode cX3_takeWay 33 = .ok (.aload_n 0, 1) := by decide +kernel
theorem dX3_takeWay_34 : decode cX3_takeWay 34 = .ok (.getfield 12, 3) := by decide +kernel
theorem dX3_takeWay_37 : decode cX3_takeWay 37 = .ok (.iload_n 1, 1) := by decide +kernel
theorem dX3_takeWay_38 : decode cX3_takeWay 38 = .ok (.aload_n 0, 1) := by decide +kernel
theorem dX3_takeWay_39 : decode cX3_takeWay 39 = .ok (.getfield 61, 3) := by decide +kernel
theorem dX3_takeWay_42 : decode cX3_takeWay 42 = .ok (.invokevirtual 64, 3) := by decide +kernel
theorem dX3_takeWay_45 : decode cX3_takeWay 45 = .ok (.ifCond .eq 5, 3) := by decide +kernel
theorem dX3_takeWay_48 : decode cX3_takeWay 48 = .ok (.iconst 0, 1) := by decide +kernel
theorem dX3_takeWay_49 : decode cX3_takeWay 49 = .ok (.ireturn, 1) := by decide +kernel
theorem dX3_takeWay_50 : decode cX3_takeWay 50 = .ok (.aload_n 0, 1) := by decide +kernel
theorem dX3_takeWay_51 : decode cX3_takeWay 51 = .ok (.getfield 12, 3) := by decide +kernel
theorem dX3_takeWay_54 : decode cX3_takeWay 54 = .ok (.iload_n 1, 1) := by decide +kernel
theorem dX3_takeWay_55 : decode cX3_takeWay 55 = .ok (.aload_n 0, 1) := by decide +kernel
theorem dX3_takeWay_56 : decode cX3_takeWay 56 = .ok (.getfield 61, 3) := by decide +kernel
theorem dX3_takeWay_59 : decode cX3_takeWay 59 = .ok (.iconst 1, 1) := by decide +kernel
theorem dX3_takeWay_60 : decode cX3_takeWay 60 = .ok (.invokevirtual 67, 3) := by decide +kernel
theorem dX3_takeWay_63 : decode cX3_takeWay 63 = .ok (.aload_n 0, 1) := by decide +kernel
theorem dX3_takeWay_64 : decode cX3_takeWay 64 = .ok (.invokevirtual 71, 3) := by decide +kernel
theorem dX3_takeWay_67 : decode cX3_takeWay 67 = .ok (.ireturn, 1) := by decide +kernel
set_option maxRecDepth 20000 in
theorem ggX3_takeOne_X7_isFull : GoodIn wsX3_takeOne wsX7_isFull := goodIn_r _ [8, 9, 10, 128, 129] (by decide +kernel) (by decide +kernel)
set_option maxRecDepth 20000 in
theorem gX3_takeOne_X7_isFull : GoodIn wsX3_takeOne (wsV RX3 77 RX7 yX7_isFull wsX7_isFull) := goodIn_app (goodIn_of _ (by decide +kernel)) ggX3_takeOne_X7_isFull
set_option maxRecDepth 20000 in
theorem ggX3_takeOne_X3_takeNumber : GoodIn wsX3_takeOne wsX3_takeNumber := goodIn_r _ [15, 16, 3, 17, 18, 19, 14, 20, 21, 22, 23, 24, 25, 26, 27, 28, 29, 30, 7, 31, 9, 32, 33, 34, 35, 10, 36, 37, 38, 39, 40, 41, 42, 43, 44, 45, 46, 47, 48, 49, 50, 51, 52, 53, 54, 55, 56, 57, 58, 59, 60, 61, 62, 63, 64, 65, 66, 67, 68, 69, 70, 71, 72, 73, 74, 75, 76, 77, 78, 79, 80, 81, 82, 83, 84, 85, 86, 87, 88, 89, 90, 91, 92, 93, 94, 95, 96, 97, 98, 99, 115, 116, 117, 118, 119, 120, 128, 129] (by decide +kernel) (by decide +kernel)
set_option maxRecDepth 20000 in
theorem gX3_takeOne_X3_takeNumber : GoodIn wsX3_takeOne (wsV RX3 57 RX3 yX3_takeNumber wsX3_takeNumber) := goodIn_app (goodIn_of _ (by decide +kernel)) ggX3_takeOne_X3_takeNumber
set_option maxRecDepth 20000 in
theorem ggX3_takeOne_X2_addPerson : GoodIn wsX3_takeOne wsX2_addPerson := goodIn_r _ [104, 105, 106, 107, 108, 109, 7, 110, 9, 10, 121, 122, 123, 124, 125, 126, 127, 128, 129] (by decide +kernel) (by decide +kernel)
set_option maxRecDepth 20000 in
theorem gX3_takeOne_X2_addPerson : GoodIn wsX3_takeOne (wsV RX3 80 RX2 yX2_addPerson wsX2_addPerson) := goodIn_app (goodIn_of _ (by decide +kernel)) ggX3_takeOne_X2_addPerson
set_option maxRecDepth 20000 in
theorem ggX3_takeOne_X3_takeStop : GoodIn wsX3_takeOne wsX3_takeStop := goodIn_r _ [114, 16, 17, 18, 19, 14, 20, 21, 22, 23, 3, 24, 25, 26, 27, 28, 29, 30, 7, 31, 9, 32, 33, 34, 35, 10, 36, 37, 38, 39, 40, 41, 42, 43, 44, 45, 46, 47, 48, 49, 50, 51, 52, 53, 54, 55, 56, 57, 58, 59, 60, 61, 62, 63, 64, 65, 66, 67, 68, 69, 70, 71, 72, 73, 74, 75, 76, 77, 78, 79, 80, 81, 82, 83, 84, 85, 86, 87, 88, 89, 90, 91, 92, 93, 94, 95, 96, 97, 98, 99, 115, 116, 117, 118, 119, 120, 128, 129] (by decide +kernel) (by decide +kernel)
set_option maxRecDepth 20000 in
theorem gX3_takeOne_X3_takeStop : GoodIn wsX3_takeOne (wsV RX3 71 RX3 yX3_takeStop wsX3_takeStop) := goodIn_app (goodIn_of _ (by decide +kernel)) ggX3_takeOne_X3_takeStop
theorem dX3_takeOne_0 : decode cX3_takeOne 0 = .ok (.aload_n 0, 1) := by decide +kernel
theorem dX3_takeOne_1 : decode cX3_takeOne 1 = .ok (.getfield 12, 3) := by decide +kernel
theorem dX3_takeOne_4 : decode cX3_takeOne 4 = .ok (.getfield 74, 3) := by decide +kernel
theorem dX3_takeOne_7 : decode cX3_takeOne 7 = .ok (.invokevirtual 77, 3) := by decide +kernel
theorem dX3_takeOne_10 : decode cX3_takeOne 10 = .ok (.ifCond .ne 12, 3) := by decide +kernel
theorem dX3_takeOne_13 : decode cX3_takeOne 13 = .ok (.aload_n 0, 1) := by decide +kernel
theorem dX3_takeOne_14 : decode cX3_takeOne 14 = .ok (.iconst 0, 1) := by decide +kernel
theorem dX3_takeOne_15 : decode cX3_takeOne 15 = .ok (.iconst 3, 1) := by decide +kernel
theorem dX3_takeOne_16 : decode cX3_takeOne 16 = .ok (.invokevirtual 57, 3) := by decide +kernel
theorem dX3_takeOne_19 : decode cX3_takeOne 19 = .ok (.ifCond .ne 5, 3) := by decide +kernel
theorem dX3_takeOne_22 : decode cX3_takeOne 22 = .ok (.iconst 0, 1) := by decide +kernel
theorem dX3_takeOne_23 : decode cX3_takeOne 23 = .ok (.ireturn, 1) := by decide +kernel
theorem dX3_takeOne_24 : decode cX3_takeOne 24 = .ok (.aload_n 0, 1) := by decide +kernel
theorem dX3_takeOne_25 : decode cX3_takeOne 25 = .ok (.getfield 61, 3) := by decide +kernel
theorem dX3_takeOne_28 : decode cX3_takeOne 28 = .ok (.istore_n 1, 1) := by decide +kernel
theorem dX3_takeOne_29 : decode cX3_takeOne 29 = .ok (.aload_n 0, 1) := by decide +kernel
theorem dX3_takeOne_30 : decode cX3_takeOne 30 = .ok (.iconst 0, 1) := by decide +kernel
theorem dX3_takeOne_31 : decode cX3_takeOne 31 = .ok (.iconst 3, 1) := by decide +kernel
theorem dX3_takeOne_32 : decode cX3_takeOne 32 = .ok (.invokevirtual 57, 3) := by decide +kernel
theorem dX3_takeOne_35 : decode cX3_takeOne 35 = .ok (.ifCond .ne 5, 3) := by decide +kernel
theorem dX3_takeOne_38 : decode cX3_takeOne 38 = .ok (.iconst 0, 1) := by decide +kernel
theorem dX3_takeOne_39 : decode cX3_takeOne 39 = .ok (.ireturn, 1) := by decide +kernel
theorem dX3_takeOne_40 : decode cX3_takeOne 40 = .ok (.aload_n 0, 1) := by decide +kernel
theorem dX3_takeOne_41 : decode cX3_takeOne 41 = .ok (.getfield 12, 3) := by decide +kernel
theorem dX3_takeOne_44 : decode cX3_takeOne 44 = .ok (.iload_n 1, 1) := by decide +kernel
theorem dX3_takeOne_45 : decode cX3_takeOne 45 = .ok (.aload_n 0, 1) := by decide +kernel
theorem dX3_takeOne_46 : decode cX3_takeOne 46 = .ok (.getfield 61, 3) := by decide +kernel
theorem dX3_takeOne_49 : decode cX3_takeOne 49 = .ok (.invokevirtual 80, 3) := by decide +kernel
theorem dX3_takeOne_52 : decode cX3_takeOne 52 = .ok (.aload_n 0, 1) := by decide +kernel
theorem dX3_takeOne_53 : decode cX3_takeOne 53 = .ok (.invokevirtual 71, 3) := by decide +kernel
theorem dX3_takeOne_56 : decode cX3_takeOne 56 = .ok (.ireturn, 1) := by decide +kernel
set_option maxRecDepth 20000 in
theorem ggX3_takeGo_X7_isFull : GoodIn wsX3_takeGo wsX7_isFull := goodIn_r _ [8, 9, 10, 149, 150] (by decide +kernel) (by decide +kernel)
set_option maxRecDepth 20000 in
theorem gX3_takeGo_X7_isFull : GoodIn wsX3_takeGo (wsV RX3 77 RX7 yX7_isFull wsX7_isFull) := goodIn_app (goodIn_of _ (by decide +kernel)) ggX3_takeGo_X7_isFull
set_option maxRecDepth 20000 in
theorem ggX3_takeGo_X2_lastHour : GoodIn wsX3_takeGo wsX2_lastHour := goodIn_r _ [15, 16, 17, 18, 19, 14, 20, 21, 22, 23, 7, 24, 9, 25, 26, 27, 28, 10, 142, 143, 144, 145, 146, 147, 148, 149, 150] (by decide +kernel) (by decide +kernel)
set_option maxRecDepth 20000 in
theorem gX3_takeGo_X2_lastHour : GoodIn wsX3_takeGo (wsV RX3 87 RX2 yX2_lastHour wsX2_lastHour) := goodIn_app (goodIn_of _ (by decide +kernel)) ggX3_takeGo_X2_lastHour
set_option maxRecDepth 20000 in
theorem ggX3_takeGo_X3_takeNumber : GoodIn wsX3_takeGo wsX3_takeNumber := goodIn_r _ [33, 34, 3, 35, 36, 37, 32, 38, 39, 40, 41, 42, 43, 44, 45, 46, 22, 23, 7, 24, 9, 47, 26, 27, 28, 10, 48, 49, 50, 51, 52, 53, 54, 55, 56, 57, 58, 59, 60, 61, 62, 63, 64, 65, 66, 67, 68, 69, 70, 71, 72, 73, 74, 75, 76, 77, 78, 79, 80, 81, 82, 83, 84, 85, 86, 87, 88, 89, 90, 91, 92, 93, 94, 95, 96, 97, 98, 99, 100, 101, 102, 103, 104, 105, 106, 107, 108, 109, 110, 111, 136, 137, 138, 139, 140, 141, 149, 150] (by decide +kernel) (by decide +kernel)
set_option maxRecDepth 20000 in
theorem gX3_takeGo_X3_takeNumber : GoodIn wsX3_takeGo (wsV RX3 57 RX3 yX3_takeNumber wsX3_takeNumber) := goodIn_app (goodIn_of _ (by decide +kernel)) ggX3_takeGo_X3_takeNumber
set_option maxRecDepth 20000 in
theorem ggX3_takeGo_X3_takeBand : GoodIn wsX3_takeGo wsX3_takeBand := goodIn_r _ [115, 34, 1, 3, 35, 36, 37, 32, 38, 39, 40, 41, 42, 43, 44, 45, 46, 22, 23, 7, 24, 9, 47, 26, 27, 28, 10, 48, 49, 50, 51, 52, 53, 54, 55, 56, 57, 58, 59, 60, 61, 62, 63, 64, 65, 66, 67, 68, 69, 70, 71, 72, 73, 74, 75, 76, 77, 78, 79, 80, 81, 82, 83, 84, 85, 86, 87, 88, 89, 90, 91, 92, 93, 94, 95, 96, 97, 98, 99, 100, 101, 102, 103, 104, 105, 106, 107, 108, 109, 110, 111, 116, 117, 118, 14, 119, 120, 121, 122, 123, 124, 21, 136, 137, 138, 139, 140, 141, 149, 150, 142, 143, 144, 145, 146, 147, 148] (by decide +kernel) (by decide +kernel)
set_option maxRecDepth 20000 in
theorem gX3_takeGo_X3_takeBand : GoodIn wsX3_takeGo (wsV RX3 90 RX3 yX3_takeBand wsX3_takeBand) := goodIn_app (goodIn_of _ (by decide +kernel)) ggX3_takeGo_X3_takeBand
set_option maxRecDepth 20000 in
theorem ggX3_takeGo_X2_addGo : GoodIn wsX3_takeGo wsX2_addGo := goodIn_r _ [128, 16, 129, 130, 131, 132, 133, 134, 7, 135, 9, 10, 142, 143, 144, 145, 146, 147, 148, 149, 150] (by decide +kernel) (by decide +kernel)
set_option maxRecDepth 20000 in
theorem gX3_takeGo_X2_addGo : GoodIn wsX3_takeGo (wsV RX3 93 RX2 yX2_addGo wsX2_addGo) := goodIn_app (goodIn_of _ (by decide +kernel)) ggX3_takeGo_X2_addGo
theorem dX3_takeGo_0 : decode cX3_takeGo 0 = .ok (.aload_n 0, 1) := by decide +kernel
theorem dX3_takeGo_1 : decode cX3_takeGo 1 = .ok (.getfield 12, 3) := by decide +kernel
theorem dX3_takeGo_4 : decode cX3_takeGo 4 = .ok (.getfield 84, 3) := by decide +kernel
theorem dX3_takeGo_7 : decode cX3_takeGo 7 = .ok (.invokevirtual 77, 3) := by decide +kernel
theorem dX3_takeGo_10 : decode cX3_takeGo 10 = .ok (.ifCond .ne 19, 3) := by decide +kernel
theorem dX3_takeGo_13 : decode cX3_takeGo 13 = .ok (.aload_n 0, 1) := by decide +kernel
theorem dX3_takeGo_14 : decode cX3_takeGo 14 = .ok (.aload_n 0, 1) := by decide +kernel
theorem dX3_takeGo_15 : decode cX3_takeGo 15 = .ok (.getfield 12, 3) := by decide +kernel
theorem dX3_takeGo_18 : decode cX3_takeGo 18 = .ok (.invokevirtual 87, 3) := by decide +kernel
theorem dX3_takeGo_21 : decode cX3_takeGo 21 = .ok (.bipush 23, 2) := by decide +kernel
theorem dX3_takeGo_23 : decode cX3_takeGo 23 = .ok (.invokevirtual 57, 3) := by decide +kernel
theorem dX3_takeGo_26 : decode cX3_takeGo 26 = .ok (.ifCond .ne 5, 3) := by decide +kernel
theorem dX3_takeGo_29 : decode cX3_takeGo 29 = .ok (.iconst 0, 1) := by decide +kernel
theorem dX3_takeGo_30 : decode cX3_takeGo 30 = .ok (.ireturn, 1) := by decide +kernel
theorem dX3_takeGo_31 : decode cX3_takeGo 31 = .ok (.aload_n 0, 1) := by decide +kernel
theorem dX3_takeGo_32 : decode cX3_takeGo 32 = .ok (.getfield 61, 3) := by decide +kernel
theorem dX3_takeGo_35 : decode cX3_takeGo 35 = .ok (.istore_n 1, 1) := by decide +kernel
theorem dX3_takeGo_36 : decode cX3_takeGo 36 = .ok (.aload_n 0, 1) := by decide +kernel
theorem dX3_takeGo_37 : decode cX3_takeGo 37 = .ok (.iconst 0, 1) := by decide +kernel
theorem dX3_takeGo_38 : decode cX3_takeGo 38 = .ok (.iconst 3, 1) := by decide +kernel
theorem dX3_takeGo_39 : decode cX3_takeGo 39 = .ok (.invokevirtual 57, 3) := by decide +kernel
theorem dX3_takeGo_42 : decode cX3_takeGo 42 = .ok (.ifCond .ne 5, 3) := by decide +kernel
theorem dX3_takeGo_45 : decode cX3_takeGo 45 = .ok (.iconst 0, 1) := by decide +kernel
theorem dX3_takeGo_46 : decode cX3_takeGo 46 = .ok (.ireturn, 1) := by decide +kernel
theorem dX3_takeGo_47 : decode cX3_takeGo 47 = .ok (.aload_n 0, 1) := by decide +kernel
theorem dX3_takeGo_48 : decode cX3_takeGo 48 = .ok (.getfield 61, 3) := by decide +kernel
theorem dX3_takeGo_51 : decode cX3_takeGo 51 = .ok (.istore_n 2, 1) := by decide +kernel
theorem dX3_takeGo_52 : decode cX3_takeGo 52 = .ok (.aload_n 0, 1) := by decide +kernel
theorem dX3_takeGo_53 : decode cX3_takeGo 53 = .ok (.iconst 0, 1) := by decide +kernel
theorem dX3_takeGo_54 : decode cX3_takeGo 54 = .ok (.iconst 3, 1) := by decide +kernel
theorem dX3_takeGo_55 : decode cX3_takeGo 55 = .ok (.invokevirtual 57, 3) := by decide +kernel
theorem dX3_takeGo_58 : decode cX3_takeGo 58 = .ok (.ifCond .ne 5, 3) := by decide +kernel
theorem dX3_takeGo_61 : decode cX3_takeGo 61 = .ok (.iconst 0, 1) := by decide +kernel
theorem dX3_takeGo_62 : decode cX3_takeGo 62 = .ok (.ireturn, 1) := by decide +kernel
theorem dX3_takeGo_63 : decode cX3_takeGo 63 = .ok (.aload_n 0, 1) := by decide +kernel
theorem dX3_takeGo_64 : decode cX3_takeGo 64 = .ok (.getfield 61, 3) := by decide +kernel
theorem dX3_takeGo_67 : decode cX3_takeGo 67 = .ok (.istore_n 3, 1) := by decide +kernel
theorem dX3_takeGo_68 : decode cX3_takeGo 68 = .ok (.aload_n 0, 1) := by decide +kernel
theorem dX3_takeGo_69 : decode cX3_takeGo 69 = .ok (.invokevirtual 90, 3) := by decide +kernel
theorem dX3_takeGo_72 : decode cX3_takeGo 72 = .ok (.istore 4, 2) := by decide +kernel
theorem dX3_takeGo_74 : decode cX3_takeGo 74 = .ok (.iload 4, 2) := by decide +kernel
theorem dX3_takeGo_76 : decode cX3_takeGo 76 = .ok (.ifCond .ne 5, 3) := by decide +kernel
theorem dX3_takeGo_79 : decode cX3_takeGo 79 = .ok (.iconst 0, 1) := by decide +kernel
theorem dX3_takeGo_80 : decode cX3_takeGo 80 = .ok (.ireturn, 1) := by decide +kernel
theorem dX3_takeGo_81 : decode cX3_takeGo 81 = .ok (.aload_n 0, 1) := by decide +kernel
theorem dX3_takeGo_82 : decode cX3_takeGo 82 = .ok (.getfield 12, 3) := by decide +kernel
theorem dX3_takeGo_85 : decode cX3_takeGo 85 = .ok (.iload_n 1, 1) := by decide +kernel
theorem dX3_takeGo_86 : decode cX3_takeGo 86 = .ok (.iload_n 2, 1) := by decide +kernel
theorem dX3_takeGo_87 : decode cX3_takeGo 87 = .ok (.iload_n 3, 1) := by decide +kernel
theorem dX3_takeGo_88 : decode cX3_takeGo 88 = .ok (.iload 4, 2) := by decide +kernel
theorem dX3_takeGo_90 : decode cX3_takeGo 90 = .ok (.invokevirtual 93, 3) := by decide +kernel
theorem dX3_takeGo_93 : decode cX3_takeGo 93 = .ok (.iconst 1, 1) := by decide +kernel
theorem dX3_takeGo_94 : decode cX3_takeGo 94 = .ok (.ireturn, 1) := by decide +kernel
set_option maxRecDepth 20000 in
theorem ggX3_takeBand_X3_take : GoodIn wsX3_takeBand wsX3_take := goodIn_r _ [8, 9, 10, 11, 1, 3, 12, 13, 14, 7, 15, 16, 17, 18, 19, 20, 21, 22, 23, 24, 25, 26, 27, 28, 29, 30, 31, 32, 33, 34, 35, 36, 37, 38, 39, 40, 41, 42, 43, 44, 45, 46, 47, 48, 49, 50, 51, 52, 53, 54, 55, 56, 57, 58, 59, 60, 61, 62, 63, 64, 65, 66, 67, 68, 69, 70, 71, 72, 73, 74, 75, 76, 77, 78, 79, 80, 81, 82, 83, 84, 85, 86, 87, 88, 89, 90, 102, 103, 104, 105, 106, 107, 108, 109] (by decide +kernel) (by decide +kernel)
set_option maxRecDepth 20000 in
theorem gX3_takeBand_X3_take : GoodIn wsX3_takeBand (wsV RX3 38 RX3 yX3_take wsX3_take) := goodIn_app (goodIn_of _ (by decide +kernel)) ggX3_takeBand_X3_take
set_option maxRecDepth 20000 in
theorem ggX3_takeBand_X2_isPerson : GoodIn wsX3_takeBand wsX2_isPerson := goodIn_r _ [95, 96, 97, 98, 94, 99, 100, 101, 17, 18, 19, 20, 21, 27, 28, 29, 110, 111, 112, 113, 114, 115, 116, 108, 109] (by decide +kernel) (by decide +kernel)
set_option maxRecDepth 20000 in
theorem gX3_takeBand_X2_isPerson : GoodIn wsX3_takeBand (wsV RX3 97 RX2 yX2_isPerson wsX2_isPerson) := goodIn_app (goodIn_of _ (by decide +kernel)) ggX3_takeBand_X2_isPerson
theorem dX3_takeBand_0 : decode cX3_takeBand 0 = .ok (.iconst 0, 1) := by decide +kernel
theorem dX3_takeBand_1 : decode cX3_takeBand 1 = .ok (.istore_n 1, 1) := by decide +kernel
theorem dX3_takeBand_2 : decode cX3_takeBand 2 = .ok (.iconst 0, 1) := by decide +kernel
theorem dX3_takeBand_3 : decode cX3_takeBand 3 = .ok (.istore_n 2, 1) := by decide +kernel
theorem dX3_takeBand_4 : decode cX3_takeBand 4 = .ok (.iload_n 2, 1) := by decide +kernel
theorem dX3_takeBand_5 : decode cX3_takeBand 5 = .ok (.iconst 5, 1) := by decide +kernel
theorem dX3_takeBand_6 : decode cX3_takeBand 6 = .ok (.if_icmp .gt 68, 3) := by decide +kernel
theorem dX3_takeBand_9 : decode cX3_takeBand 9 = .ok (.aload_n 0, 1) := by decide +kernel
theorem dX3_takeBand_10 : decode cX3_takeBand 10 = .ok (.invokevirtual 38, 3) := by decide +kernel
theorem dX3_takeBand_13 : decode cX3_takeBand 13 = .ok (.aload_n 0, 1) := by decide +kernel
theorem dX3_takeBand_14 : decode cX3_takeBand 14 = .ok (.getfield 41, 3) := by decide +kernel
theorem dX3_takeBand_17 : decode cX3_takeBand 17 = .ok (.iconst 2, 1) := by decide +kernel
theorem dX3_takeBand_18 : decode cX3_takeBand 18 = .ok (.if_icmp .ne 5, 3) := by decide +kernel
theorem dX3_takeBand_21 : decode cX3_takeBand 21 = .ok (.iload_n 1, 1) := by decide +kernel
theorem dX3_takeBand_22 : decode cX3_takeBand 22 = .ok (.ireturn, 1) := by decide +kernel
theorem dX3_takeBand_23 : decode cX3_takeBand 23 = .ok (.aload_n 0, 1) := by decide +kernel
theorem dX3_takeBand_24 : decode cX3_takeBand 24 = .ok (.getfield 41, 3) := by decide +kernel
theorem dX3_takeBand_27 : decode cX3_takeBand 27 = .ok (.iconst 1, 1) := by decide +kernel
theorem dX3_takeBand_28 : decode cX3_takeBand 28 = .ok (.if_icmp .ne 29, 3) := by decide +kernel
theorem dX3_takeBand_31 : decode cX3_takeBand 31 = .ok (.aload_n 0, 1) := by decide +kernel
theorem dX3_takeBand_32 : decode cX3_takeBand 32 = .ok (.getfield 12, 3) := by decide +kernel
theorem dX3_takeBand_35 : decode cX3_takeBand 35 = .ok (.aload_n 0, 1) := by decide +kernel
theorem dX3_takeBand_36 : decode cX3_takeBand 36 = .ok (.getfield 61, 3) := by decide +kernel
theorem dX3_takeBand_39 : decode cX3_takeBand 39 = .ok (.invokevirtual 97, 3) := by decide +kernel
theorem dX3_takeBand_42 : decode cX3_takeBand 42 = .ok (.ifCond .eq 15, 3) := by decide +kernel
theorem dX3_takeBand_45 : decode cX3_takeBand 45 = .ok (.iload_n 1, 1) := by decide +kernel
theorem dX3_takeBand_46 : decode cX3_takeBand 46 = .ok (.aload_n 0, 1) := by decide +kernel
theorem dX3_takeBand_47 : decode cX3_takeBand 47 = .ok (.getfield 61, 3) := by decide +kernel
theorem dX3_takeBand_50 : decode cX3_takeBand 50 = .ok (.ishr, 1) := by decide +kernel
theorem dX3_takeBand_51 : decode cX3_takeBand 51 = .ok (.iconst 1, 1) := by decide +kernel
theorem dX3_takeBand_52 : decode cX3_takeBand 52 = .ok (.iand, 1) := by decide +kernel
theorem dX3_takeBand_53 : decode cX3_takeBand 53 = .ok (.iconst 1, 1) := by decide +kernel
theorem dX3_takeBand_54 : decode cX3_takeBand 54 = .ok (.if_icmp .ne 5, 3) := by decide +kernel
theorem dX3_takeBand_57 : decode cX3_takeBand 57 = .ok (.iconst 0, 1) := by decide +kernel
theorem dX3_takeBand_58 : decode cX3_takeBand 58 = .ok (.ireturn, 1) := by decide +kernel
theorem dX3_takeBand_59 : decode cX3_takeBand 59 = .ok (.iload_n 1, 1) := by decide +kernel
theorem dX3_takeBand_60 : decode cX3_takeBand 60 = .ok (.iconst 1, 1) := by decide +kernel
theorem dX3_takeBand_61 : decode cX3_takeBand 61 = .ok (.aload_n 0, 1) := by decide +kernel
theorem dX3_takeBand_62 : decode cX3_takeBand 62 = .ok (.getfield 61, 3) := by decide +kernel
theorem dX3_takeBand_65 : decode cX3_takeBand 65 = .ok (.ishl, 1) := by decide +kernel
theorem dX3_takeBand_66 : decode cX3_takeBand 66 = .ok (.ior, 1) := by decide +kernel
theorem dX3_takeBand_67 : decode cX3_takeBand 67 = .ok (.istore_n 1, 1) := by decide +kernel
theorem dX3_takeBand_68 : decode cX3_takeBand 68 = .ok (.iinc 2 1, 3) := by decide +kernel
theorem dX3_takeBand_71 : decode cX3_takeBand 71 = .ok (.goto (-67), 3) := by decide +kernel
theorem dX3_takeBand_74 : decode cX3_takeBand 74 = .ok (.iconst 0, 1) := by decide +kernel
theorem dX3_takeBand_75 : decode cX3_takeBand 75 = .ok (.ireturn, 1) := by decide +kernel
set_option maxRecDepth 20000 in
theorem ggX3_takeNumber_X3_take : GoodIn wsX3_takeNumber wsX3_take := goodIn_r _ [7, 8, 9, 10, 1, 2, 11, 12, 13, 6, 14, 15, 16, 17, 18, 19, 20, 21, 22, 23, 24, 25, 26, 27, 28, 29, 30, 31, 32, 33, 34, 35, 36, 37, 38, 39, 40, 41, 42, 43, 44, 45, 46, 47, 48, 49, 50, 51, 52, 53, 54, 55, 56, 57, 58, 59, 60, 61, 62, 63, 64, 65, 66, 67, 68, 69, 70, 71, 72, 73, 74, 75, 76, 77, 78, 79, 80, 81, 82, 83, 84, 85, 86, 87, 88, 89, 90, 91, 92, 93, 94, 95, 96, 97] (by decide +kernel) (by decide +kernel)
set_option maxRecDepth 20000 in
theorem gX3_takeNumber_X3_take : GoodIn wsX3_takeNumber (wsV RX3 38 RX3 yX3_take wsX3_take) := goodIn_app (goodIn_of _ (by decide +kernel)) ggX3_takeNumber_X3_take
set_option maxRecDepth 20000 in
theorem ggX3_takeNumber_X9_isWithin : GoodIn wsX3_takeNumber wsX9_isWithin := goodIn_r _ [28] (by decide +kernel) (by decide +kernel)
set_option maxRecDepth 20000 in
theorem gX3_takeNumber_X9_isWithin_n101 : GoodIn wsX3_takeNumber (wsX9_isWithin) := ggX3_takeNumber_X9_isWithin
theorem dX3_takeNumber_0 : decode cX3_takeNumber 0 = .ok (.aload_n 0, 1) := by decide +kernel
theorem dX3_takeNumber_1 : decode cX3_takeNumber 1 = .ok (.invokevirtual 38, 3) := by decide +kernel
theorem dX3_takeNumber_4 : decode cX3_takeNumber 4 = .ok (.aload_n 0, 1) := by decide +kernel
theorem dX3_takeNumber_5 : decode cX3_takeNumber 5 = .ok (.getfield 41, 3) := by decide +kernel
theorem dX3_takeNumber_8 : decode cX3_takeNumber 8 = .ok (.iconst 1, 1) := by decide +kernel
theorem dX3_takeNumber_9 : decode cX3_takeNumber 9 = .ok (.if_icmp .ne 19, 3) := by decide +kernel
theorem dX3_takeNumber_12 : decode cX3_takeNumber 12 = .ok (.aload_n 0, 1) := by decide +kernel
theorem dX3_takeNumber_13 : decode cX3_takeNumber 13 = .ok (.getfield 61, 3) := by decide +kernel
theorem dX3_takeNumber_16 : decode cX3_takeNumber 16 = .ok (.iload_n 1, 1) := by decide +kernel
theorem dX3_takeNumber_17 : decode cX3_takeNumber 17 = .ok (.iload_n 2, 1) := by decide +kernel
theorem dX3_takeNumber_18 : decode cX3_takeNumber 18 = .ok (.invokestatic 101, 3) := by decide +kernel
theorem dX3_takeNumber_21 : decode cX3_takeNumber 21 = .ok (.ifCond .eq 7, 3) := by decide +kernel
theorem dX3_takeNumber_24 : decode cX3_takeNumber 24 = .ok (.iconst 1, 1) := by decide +kernel
theorem dX3_takeNumber_25 : decode cX3_takeNumber 25 = .ok (.goto 4, 3) := by decide +kernel
theorem dX3_takeNumber_28 : decode cX3_takeNumber 28 = .ok (.iconst 0, 1) := by decide +kernel
theorem dX3_takeNumber_29 : decode cX3_takeNumber 29 = .ok (.ireturn, 1) := by decide +kernel
set_option maxRecDepth 20000 in
theorem ggX3_takeStop_X3_take : GoodIn wsX3_takeStop wsX3_take := goodIn_r _ [6, 7, 8, 9, 1, 10, 11, 12, 13, 5, 14, 15, 16, 17, 18, 19, 20, 21, 22, 23, 24, 25, 26, 27, 28, 29, 30, 31, 32, 33, 34, 35, 36, 37, 38, 39, 40, 41, 42, 43, 44, 45, 46, 47, 48, 49, 50, 51, 52, 53, 54, 55, 56, 57, 58, 59, 60, 61, 62, 63, 64, 65, 66, 67, 68, 69, 70, 71, 72, 73, 74, 75, 76, 77, 78, 79, 80, 81, 82, 83, 84, 85, 86, 87, 88, 89, 90, 91, 92, 93, 94, 95, 96, 97] (by decide +kernel) (by decide +kernel)
set_option maxRecDepth 20000 in
theorem gX3_takeStop_X3_take : GoodIn wsX3_takeStop (wsV RX3 38 RX3 yX3_take wsX3_take) := goodIn_app (goodIn_of _ (by decide +kernel)) ggX3_takeStop_X3_take
theorem dX3_takeStop_0 : decode cX3_takeStop 0 = .ok (.aload_n 0, 1) := by decide +kernel
theorem dX3_takeStop_1 : decode cX3_takeStop 1 = .ok (.invokevirtual 38, 3) := by decide +kernel
theorem dX3_takeStop_4 : decode cX3_takeStop 4 = .ok (.aload_n 0, 1) := by decide +kernel
theorem dX3_takeStop_5 : decode cX3_takeStop 5 = .ok (.getfield 41, 3) := by decide +kernel
theorem dX3_takeStop_8 : decode cX3_takeStop 8 = .ok (.iconst 2, 1) := by decide +kernel
theorem dX3_takeStop_9 : decode cX3_takeStop 9 = .ok (.if_icmp .ne 7, 3) := by decide +kernel
theorem dX3_takeStop_12 : decode cX3_takeStop 12 = .ok (.iconst 1, 1) := by decide +kernel
theorem dX3_takeStop_13 : decode cX3_takeStop 13 = .ok (.goto 4, 3) := by decide +kernel
theorem dX3_takeStop_16 : decode cX3_takeStop 16 = .ok (.iconst 0, 1) := by decide +kernel
theorem dX3_takeStop_17 : decode cX3_takeStop 17 = .ok (.ireturn, 1) := by decide +kernel
set_option maxRecDepth 20000 in
theorem ggX3_take_X3_runEnd : GoodIn wsX3_take wsX3_runEnd := goodIn_r _ [10, 3, 11, 12, 13, 14, 15, 16, 17, 18, 19, 20, 21, 22, 23, 24, 86, 87, 88, 89, 90, 91, 92, 93] (by decide +kernel) (by decide +kernel)
set_option maxRecDepth 20000 in
theorem gX3_take_X3_runEnd : GoodIn wsX3_take (wsV RX3 105 RX3 yX3_runEnd wsX3_runEnd) := goodIn_app (goodIn_of _ (by decide +kernel)) ggX3_take_X3_runEnd
set_option maxRecDepth 20000 in
theorem ggX3_take_X7_size : GoodIn wsX3_take wsX7_size := goodIn_r _ [15, 16, 92, 93] (by decide +kernel) (by decide +kernel)
set_option maxRecDepth 20000 in
theorem gX3_take_X7_size : GoodIn wsX3_take (wsV RX3 34 RX7 yX7_size wsX7_size) := goodIn_app (goodIn_of _ (by decide +kernel)) ggX3_take_X7_size
set_option maxRecDepth 20000 in
theorem ggX3_take_X3_isFrom : GoodIn wsX3_take wsX3_isFrom := goodIn_r _ [28, 3, 2, 17, 18, 19, 14, 20, 16, 21, 22, 23, 24, 86, 87, 88, 89, 90, 91, 92, 93] (by decide +kernel) (by decide +kernel)
set_option maxRecDepth 20000 in
theorem gX3_take_X3_isFrom : GoodIn wsX3_take (wsV RX3 109 RX3 yX3_isFrom wsX3_isFrom) := goodIn_app (goodIn_of _ (by decide +kernel)) ggX3_take_X3_isFrom
set_option maxRecDepth 20000 in
theorem ggX3_take_X3_isWord : GoodIn wsX3_take wsX3_isWord := goodIn_r _ [32, 1, 2, 3, 33, 34, 35, 36, 37, 38, 39, 40, 41, 42, 43, 44, 17, 18, 19, 14, 20, 16, 21, 45, 46, 47, 48, 49, 50, 51, 52, 53, 54, 55, 56, 57, 58, 59, 60, 61, 62, 63, 64, 65, 66, 67, 68, 69, 70, 71, 72, 73, 74, 75, 76, 77, 78, 79, 80, 81, 86, 87, 88, 89, 90, 91, 92, 93] (by decide +kernel) (by decide +kernel)
set_option maxRecDepth 20000 in
theorem gX3_take_X3_isWord : GoodIn wsX3_take (wsV RX3 114 RX3 yX3_isWord wsX3_isWord) := goodIn_app (goodIn_of _ (by decide +kernel)) ggX3_take_X3_isWord
set_option maxRecDepth 20000 in
theorem ggX3_take_X3_value : GoodIn wsX3_take wsX3_value := goodIn_r _ [85, 2, 1, 3, 17, 18, 19, 14, 20, 16, 21, 86, 87, 88, 89, 90, 91, 92, 93] (by decide +kernel) (by decide +kernel)
set_option maxRecDepth 20000 in
theorem gX3_take_X3_value : GoodIn wsX3_take (wsV RX3 122 RX3 yX3_value wsX3_value) := goodIn_app (goodIn_of _ (by decide +kernel)) ggX3_take_X3_value
theorem dX3_take_0 : decode cX3_take 0 = .ok (.aload_n 0, 1) := by decide +kernel
theorem dX3_take_1 : decode cX3_take 1 = .ok (.aload_n 0, 1) := by decide +kernel
theorem dX3_take_2 : decode cX3_take 2 = .ok (.aload_n 0, 1) := by decide +kernel
theorem dX3_take_3 : decode cX3_take 3 = .ok (.getfield 27, 3) := by decide +kernel
theorem dX3_take_6 : decode cX3_take 6 = .ok (.bipush 32, 2) := by decide +kernel
theorem dX3_take_8 : decode cX3_take 8 = .ok (.bipush 32, 2) := by decide +kernel
theorem dX3_take_10 : decode cX3_take 10 = .ok (.invokevirtual 105, 3) := by decide +kernel
theorem dX3_take_13 : decode cX3_take 13 = .ok (.putfield 54, 3) := by decide +kernel
theorem dX3_take_16 : decode cX3_take 16 = .ok (.aload_n 0, 1) := by decide +kernel
theorem dX3_take_17 : decode cX3_take 17 = .ok (.aload_n 0, 1) := by decide +kernel
theorem dX3_take_18 : decode cX3_take 18 = .ok (.getfield 54, 3) := by decide +kernel
theorem dX3_take_21 : decode cX3_take 21 = .ok (.iconst 1, 1) := by decide +kernel
theorem dX3_take_22 : decode cX3_take 22 = .ok (.iadd, 1) := by decide +kernel
theorem dX3_take_23 : decode cX3_take 23 = .ok (.putfield 27, 3) := by decide +kernel
theorem dX3_take_26 : decode cX3_take 26 = .ok (.aload_n 0, 1) := by decide +kernel
theorem dX3_take_27 : decode cX3_take 27 = .ok (.getfield 54, 3) := by decide +kernel
theorem dX3_take_30 : decode cX3_take 30 = .ok (.aload_n 0, 1) := by decide +kernel
theorem dX3_take_31 : decode cX3_take 31 = .ok (.getfield 23, 3) := by decide +kernel
theorem dX3_take_34 : decode cX3_take 34 = .ok (.invokevirtual 34, 3) := by decide +kernel
theorem dX3_take_37 : decode cX3_take 37 = .ok (.if_icmp .lt 19, 3) := by decide +kernel
theorem dX3_take_40 : decode cX3_take 40 = .ok (.aload_n 0, 1) := by decide +kernel
theorem dX3_take_41 : decode cX3_take 41 = .ok (.iconst 0, 1) := by decide +kernel
theorem dX3_take_42 : decode cX3_take 42 = .ok (.putfield 41, 3) := by decide +kernel
theorem dX3_take_45 : decode cX3_take 45 = .ok (.aload_n 0, 1) := by decide +kernel
theorem dX3_take_46 : decode cX3_take 46 = .ok (.aload_n 0, 1) := by decide +kernel
theorem dX3_take_47 : decode cX3_take 47 = .ok (.getfield 54, 3) := by decide +kernel
theorem dX3_take_50 : decode cX3_take 50 = .ok (.putfield 27, 3) := by decide +kernel
theorem dX3_take_53 : decode cX3_take 53 = .ok (.goto 168, 3) := by decide +kernel
theorem dX3_take_56 : decode cX3_take 56 = .ok (.aload_n 0, 1) := by decide +kernel
theorem dX3_take_57 : decode cX3_take 57 = .ok (.bipush 97, 2) := by decide +kernel
theorem dX3_take_59 : decode cX3_take 59 = .ok (.bipush 122, 2) := by decide +kernel
theorem dX3_take_61 : decode cX3_take 61 = .ok (.invokevirtual 109, 3) := by decide +kernel
theorem dX3_take_64 : decode cX3_take 64 = .ok (.ifCond .eq 75, 3) := by decide +kernel
theorem dX3_take_67 : decode cX3_take 67 = .ok (.aload_n 0, 1) := by decide +kernel
theorem dX3_take_68 : decode cX3_take 68 = .ok (.aload_n 0, 1) := by decide +kernel
theorem dX3_take_69 : decode cX3_take 69 = .ok (.aload_n 0, 1) := by decide +kernel
theorem dX3_take_70 : decode cX3_take 70 = .ok (.getfield 54, 3) := by decide +kernel
theorem dX3_take_73 : decode cX3_take 73 = .ok (.bipush 97, 2) := by decide +kernel
theorem dX3_take_75 : decode cX3_take 75 = .ok (.bipush 122, 2) := by decide +kernel
theorem dX3_take_77 : decode cX3_take 77 = .ok (.invokevirtual 105, 3) := by decide +kernel
theorem dX3_take_80 : decode cX3_take 80 = .ok (.putfield 27, 3) := by decide +kernel
theorem dX3_take_83 : decode cX3_take 83 = .ok (.aload_n 0, 1) := by decide +kernel
theorem dX3_take_84 : decode cX3_take 84 = .ok (.aload_n 0, 1) := by decide +kernel
theorem dX3_take_85 : decode cX3_take 85 = .ok (.ldc 112, 2) := by decide +kernel
theorem dX3_take_87 : decode cX3_take 87 = .ok (.invokevirtual 114, 3) := by decide +kernel
theorem dX3_take_90 : decode cX3_take 90 = .ok (.ifCond .eq 7, 3) := by decide +kernel
theorem dX3_take_93 : decode cX3_take 93 = .ok (.iconst 3, 1) := by decide +kernel
theorem dX3_take_94 : decode cX3_take 94 = .ok (.goto 18, 3) := by decide +kernel
theorem dX3_take_97 : decode cX3_take 97 = .ok (.aload_n 0, 1) := by decide +kernel
theorem dX3_take_98 : decode cX3_take 98 = .ok (.ldc 118, 2) := by decide +kernel
theorem dX3_take_100 : decode cX3_take 100 = .ok (.invokevirtual 114, 3) := by decide +kernel
theorem dX3_take_103 : decode cX3_take 103 = .ok (.ifCond .eq 7, 3) := by decide +kernel
theorem dX3_take_106 : decode cX3_take 106 = .ok (.iconst 4, 1) := by decide +kernel
theorem dX3_take_107 : decode cX3_take 107 = .ok (.goto 5, 3) := by decide +kernel
theorem dX3_take_110 : decode cX3_take 110 = .ok (.bipush 6, 2) := by decide +kernel
theorem dX3_take_112 : decode cX3_take 112 = .ok (.putfield 41, 3) := by decide +kernel
theorem dX3_take_115 : decode cX3_take 115 = .ok (.aload_n 0, 1) := by decide +kernel
theorem dX3_take_116 : decode cX3_take 116 = .ok (.aload_n 0, 1) := by decide +kernel
theorem dX3_take_117 : decode cX3_take 117 = .ok (.ldc 120, 2) := by decide +kernel
theorem dX3_take_119 : decode cX3_take 119 = .ok (.invokevirtual 114, 3) := by decide +kernel
theorem dX3_take_122 : decode cX3_take 122 = .ok (.ifCond .eq 7, 3) := by decide +kernel
theorem dX3_take_125 : decode cX3_take 125 = .ok (.iconst 5, 1) := by decide +kernel
theorem dX3_take_126 : decode cX3_take 126 = .ok (.goto 7, 3) := by decide +kernel
theorem dX3_take_129 : decode cX3_take 129 = .ok (.aload_n 0, 1) := by decide +kernel
theorem dX3_take_130 : decode cX3_take 130 = .ok (.getfield 41, 3) := by decide +kernel
theorem dX3_take_133 : decode cX3_take 133 = .ok (.putfield 41, 3) := by decide +kernel
theorem dX3_take_136 : decode cX3_take 136 = .ok (.goto 85, 3) := by decide +kernel
theorem dX3_take_139 : decode cX3_take 139 = .ok (.aload_n 0, 1) := by decide +kernel
theorem dX3_take_140 : decode cX3_take 140 = .ok (.bipush 48, 2) := by decide +kernel
theorem dX3_take_142 : decode cX3_take 142 = .ok (.bipush 57, 2) := by decide +kernel
theorem dX3_take_144 : decode cX3_take 144 = .ok (.invokevirtual 109, 3) := by decide +kernel
theorem dX3_take_147 : decode cX3_take 147 = .ok (.ifCond .eq 53, 3) := by decide +kernel
theorem dX3_take_150 : decode cX3_take 150 = .ok (.aload_n 0, 1) := by decide +kernel
theorem dX3_take_151 : decode cX3_take 151 = .ok (.aload_n 0, 1) := by decide +kernel
theorem dX3_take_152 : decode cX3_take 152 = .ok (.aload_n 0, 1) := by decide +kernel
theorem dX3_take_153 : decode cX3_take 153 = .ok (.getfield 54, 3) := by decide +kernel
theorem dX3_take_156 : decode cX3_take 156 = .ok (.bipush 48, 2) := by decide +kernel
theorem dX3_take_158 : decode cX3_take 158 = .ok (.bipush 57, 2) := by decide +kernel
theorem dX3_take_160 : decode cX3_take 160 = .ok (.invokevirtual 105, 3) := by decide +kernel
theorem dX3_take_163 : decode cX3_take 163 = .ok (.putfield 27, 3) := by decide +kernel
theorem dX3_take_166 : decode cX3_take 166 = .ok (.aload_n 0, 1) := by decide +kernel
theorem dX3_take_167 : decode cX3_take 167 = .ok (.aload_n 0, 1) := by decide +kernel
theorem dX3_take_168 : decode cX3_take 168 = .ok (.getfield 27, 3) := by decide +kernel
theorem dX3_take_171 : decode cX3_take 171 = .ok (.aload_n 0, 1) := by decide +kernel
theorem dX3_take_172 : decode cX3_take 172 = .ok (.getfield 54, 3) := by decide +kernel
theorem dX3_take_175 : decode cX3_take 175 = .ok (.isub, 1) := by decide +kernel
theorem dX3_take_176 : decode cX3_take 176 = .ok (.iconst 2, 1) := by decide +kernel
theorem dX3_take_177 : decode cX3_take 177 = .ok (.if_icmp .gt 7, 3) := by decide +kernel
theorem dX3_take_180 : decode cX3_take 180 = .ok (.iconst 1, 1) := by decide +kernel
theorem dX3_take_181 : decode cX3_take 181 = .ok (.goto 5, 3) := by decide +kernel
theorem dX3_take_184 : decode cX3_take 184 = .ok (.bipush 6, 2) := by decide +kernel
theorem dX3_take_186 : decode cX3_take 186 = .ok (.putfield 41, 3) := by decide +kernel
theorem dX3_take_189 : decode cX3_take 189 = .ok (.aload_n 0, 1) := by decide +kernel
theorem dX3_take_190 : decode cX3_take 190 = .ok (.aload_n 0, 1) := by decide +kernel
theorem dX3_take_191 : decode cX3_take 191 = .ok (.invokevirtual 122, 3) := by decide +kernel
theorem dX3_take_194 : decode cX3_take 194 = .ok (.putfield 61, 3) := by decide +kernel
theorem dX3_take_197 : decode cX3_take 197 = .ok (.goto 24, 3) := by decide +kernel
theorem dX3_take_200 : decode cX3_take 200 = .ok (.aload_n 0, 1) := by decide +kernel
theorem dX3_take_201 : decode cX3_take 201 = .ok (.aload_n 0, 1) := by decide +kernel
theorem dX3_take_202 : decode cX3_take 202 = .ok (.bipush 59, 2) := by decide +kernel
theorem dX3_take_204 : decode cX3_take 204 = .ok (.bipush 59, 2) := by decide +kernel
theorem dX3_take_206 : decode cX3_take 206 = .ok (.invokevirtual 109, 3) := by decide +kernel
theorem dX3_take_209 : decode cX3_take 209 = .ok (.ifCond .eq 7, 3) := by decide +kernel
theorem dX3_take_212 : decode cX3_take 212 = .ok (.iconst 2, 1) := by decide +kernel
theorem dX3_take_213 : decode cX3_take 213 = .ok (.goto 5, 3) := by decide +kernel
theorem dX3_take_216 : decode cX3_take 216 = .ok (.bipush 6, 2) := by decide +kernel
theorem dX3_take_218 : decode cX3_take 218 = .ok (.putfield 41, 3) := by decide +kernel
theorem dX3_take_221 : decode cX3_take 221 = .ok (.return_, 1) := by decide +kernel
set_option maxRecDepth 20000 in
theorem ggX3_isFrom_X7_get : GoodIn wsX3_isFrom wsX7_get := goodIn_r _ [7, 8, 9, 19, 20] (by decide +kernel) (by decide +kernel)
set_option maxRecDepth 20000 in
theorem gX3_isFrom_X7_get : GoodIn wsX3_isFrom (wsV RX3 125 RX7 yX7_get wsX7_get) := goodIn_app (goodIn_of _ (by decide +kernel)) ggX3_isFrom_X7_get
set_option maxRecDepth 20000 in
theorem ggX3_isFrom_X9_isWithin : GoodIn wsX3_isFrom wsX9_isWithin := goodIn_r _ [12] (by decide +kernel) (by decide +kernel)
set_option maxRecDepth 20000 in
theorem gX3_isFrom_X9_isWithin_n101 : GoodIn wsX3_isFrom (wsX9_isWithin) := ggX3_isFrom_X9_isWithin
theorem dX3_isFrom_0 : decode cX3_isFrom 0 = .ok (.aload_n 0, 1) := by decide +kernel
theorem dX3_isFrom_1 : decode cX3_isFrom 1 = .ok (.getfield 23, 3) := by decide +kernel
theorem dX3_isFrom_4 : decode cX3_isFrom 4 = .ok (.aload_n 0, 1) := by decide +kernel
theorem dX3_isFrom_5 : decode cX3_isFrom 5 = .ok (.getfield 54, 3) := by decide +kernel
theorem dX3_isFrom_8 : decode cX3_isFrom 8 = .ok (.invokevirtual 125, 3) := by decide +kernel
theorem dX3_isFrom_11 : decode cX3_isFrom 11 = .ok (.iload_n 1, 1) := by decide +kernel
theorem dX3_isFrom_12 : decode cX3_isFrom 12 = .ok (.iload_n 2, 1) := by decide +kernel
theorem dX3_isFrom_13 : decode cX3_isFrom 13 = .ok (.invokestatic 101, 3) := by decide +kernel
theorem dX3_isFrom_16 : decode cX3_isFrom 16 = .ok (.ireturn, 1) := by decide +kernel
set_option maxRecDepth 20000 in
theorem ggX3_runEnd_X7_size : GoodIn wsX3_runEnd wsX7_size := goodIn_r _ [6, 7, 22, 23] (by decide +kernel) (by decide +kernel)
set_option maxRecDepth 20000 in
theorem gX3_runEnd_X7_size : GoodIn wsX3_runEnd (wsV RX3 34 RX7 yX7_size wsX7_size) := goodIn_app (goodIn_of _ (by decide +kernel)) ggX3_runEnd_X7_size
set_option maxRecDepth 20000 in
theorem ggX3_runEnd_X7_get : GoodIn wsX3_runEnd wsX7_get := goodIn_r _ [11, 7, 12, 22, 23] (by decide +kernel) (by decide +kernel)
set_option maxRecDepth 20000 in
theorem gX3_runEnd_X7_get : GoodIn wsX3_runEnd (wsV RX3 125 RX7 yX7_get wsX7_get) := goodIn_app (goodIn_of _ (by decide +kernel)) ggX3_runEnd_X7_get
set_option maxRecDepth 20000 in
theorem ggX3_runEnd_X9_isWithin : GoodIn wsX3_runEnd wsX9_isWithin := goodIn_r _ [15] (by decide +kernel) (by decide +kernel)
set_option maxRecDepth 20000 in
theorem gX3_runEnd_X9_isWithin_n101 : GoodIn wsX3_runEnd (wsX9_isWithin) := ggX3_runEnd_X9_isWithin
theorem dX3_runEnd_0 : decode cX3_runEnd 0 = .ok (.iload_n 1, 1) := by decide +kernel
theorem dX3_runEnd_1 : decode cX3_runEnd 1 = .ok (.istore 4, 2) := by decide +kernel
theorem dX3_runEnd_3 : decode cX3_runEnd 3 = .ok (.iload 4, 2) := by decide +kernel
theorem dX3_runEnd_5 : decode cX3_runEnd 5 = .ok (.aload_n 0, 1) := by decide +kernel
theorem dX3_runEnd_6 : decode cX3_runEnd 6 = .ok (.getfield 23, 3) := by decide +kernel
theorem dX3_runEnd_9 : decode cX3_runEnd 9 = .ok (.invokevirtual 34, 3) := by decide +kernel
theorem dX3_runEnd_12 : decode cX3_runEnd 12 = .ok (.if_icmp .ge 29, 3) := by decide +kernel
theorem dX3_runEnd_15 : decode cX3_runEnd 15 = .ok (.aload_n 0, 1) := by decide +kernel
theorem dX3_runEnd_16 : decode cX3_runEnd 16 = .ok (.getfield 23, 3) := by decide +kernel
theorem dX3_runEnd_19 : decode cX3_runEnd 19 = .ok (.iload 4, 2) := by decide +kernel
theorem dX3_runEnd_21 : decode cX3_runEnd 21 = .ok (.invokevirtual 125, 3) := by decide +kernel
theorem dX3_runEnd_24 : decode cX3_runEnd 24 = .ok (.iload_n 2, 1) := by decide +kernel
theorem dX3_runEnd_25 : decode cX3_runEnd 25 = .ok (.iload_n 3, 1) := by decide +kernel
theorem dX3_runEnd_26 : decode cX3_runEnd 26 = .ok (.invokestatic 101, 3) := by decide +kernel
theorem dX3_runEnd_29 : decode cX3_runEnd 29 = .ok (.ifCond .ne 6, 3) := by decide +kernel
theorem dX3_runEnd_32 : decode cX3_runEnd 32 = .ok (.iload 4, 2) := by decide +kernel
theorem dX3_runEnd_34 : decode cX3_runEnd 34 = .ok (.ireturn, 1) := by decide +kernel
theorem dX3_runEnd_35 : decode cX3_runEnd 35 = .ok (.iinc 4 1, 3) := by decide +kernel
theorem dX3_runEnd_38 : decode cX3_runEnd 38 = .ok (.goto (-35), 3) := by decide +kernel
theorem dX3_runEnd_41 : decode cX3_runEnd 41 = .ok (.aload_n 0, 1) := by decide +kernel
theorem dX3_runEnd_42 : decode cX3_runEnd 42 = .ok (.getfield 23, 3) := by decide +kernel
theorem dX3_runEnd_45 : decode cX3_runEnd 45 = .ok (.invokevirtual 34, 3) := by decide +kernel
theorem dX3_runEnd_48 : decode cX3_runEnd 48 = .ok (.ireturn, 1) := by decide +kernel
set_option maxRecDepth 20000 in
theorem ggX3_value_X7_get : GoodIn wsX3_value wsX7_get := goodIn_r _ [8, 9, 10, 17, 18] (by decide +kernel) (by decide +kernel)
set_option maxRecDepth 20000 in
theorem gX3_value_X7_get : GoodIn wsX3_value (wsV RX3 125 RX7 yX7_get wsX7_get) := goodIn_app (goodIn_of _ (by decide +kernel)) ggX3_value_X7_get
theorem dX3_value_0 : decode cX3_value 0 = .ok (.iconst 0, 1) := by decide +kernel
theorem dX3_value_1 : decode cX3_value 1 = .ok (.istore_n 1, 1) := by decide +kernel
theorem dX3_value_2 : decode cX3_value 2 = .ok (.aload_n 0, 1) := by decide +kernel
theorem dX3_value_3 : decode cX3_value 3 = .ok (.getfield 54, 3) := by decide +kernel
theorem dX3_value_6 : decode cX3_value 6 = .ok (.istore_n 2, 1) := by decide +kernel
theorem dX3_value_7 : decode cX3_value 7 = .ok (.iload_n 2, 1) := by decide +kernel
theorem dX3_value_8 : decode cX3_value 8 = .ok (.aload_n 0, 1) := by decide +kernel
theorem dX3_value_9 : decode cX3_value 9 = .ok (.getfield 27, 3) := by decide +kernel
theorem dX3_value_12 : decode cX3_value 12 = .ok (.if_icmp .ge 36, 3) := by decide +kernel
theorem dX3_value_15 : decode cX3_value 15 = .ok (.iload_n 2, 1) := by decide +kernel
theorem dX3_value_16 : decode cX3_value 16 = .ok (.aload_n 0, 1) := by decide +kernel
theorem dX3_value_17 : decode cX3_value 17 = .ok (.getfield 54, 3) := by decide +kernel
theorem dX3_value_20 : decode cX3_value 20 = .ok (.iconst 2, 1) := by decide +kernel
theorem dX3_value_21 : decode cX3_value 21 = .ok (.iadd, 1) := by decide +kernel
theorem dX3_value_22 : decode cX3_value 22 = .ok (.if_icmp .ge 26, 3) := by decide +kernel
theorem dX3_value_25 : decode cX3_value 25 = .ok (.bipush 10, 2) := by decide +kernel
theorem dX3_value_27 : decode cX3_value 27 = .ok (.iload_n 1, 1) := by decide +kernel
theorem dX3_value_28 : decode cX3_value 28 = .ok (.imul, 1) := by decide +kernel
theorem dX3_value_29 : decode cX3_value 29 = .ok (.aload_n 0, 1) := by decide +kernel
theorem dX3_value_30 : decode cX3_value 30 = .ok (.getfield 23, 3) := by decide +kernel
theorem dX3_value_33 : decode cX3_value 33 = .ok (.iload_n 2, 1) := by decide +kernel
theorem dX3_value_34 : decode cX3_value 34 = .ok (.invokevirtual 125, 3) := by decide +kernel
theorem dX3_value_37 : decode cX3_value 37 = .ok (.iadd, 1) := by decide +kernel
theorem dX3_value_38 : decode cX3_value 38 = .ok (.bipush 48, 2) := by decide +kernel
theorem dX3_value_40 : decode cX3_value 40 = .ok (.isub, 1) := by decide +kernel
theorem dX3_value_41 : decode cX3_value 41 = .ok (.istore_n 1, 1) := by decide +kernel
theorem dX3_value_42 : decode cX3_value 42 = .ok (.iinc 2 1, 3) := by decide +kernel
theorem dX3_value_45 : decode cX3_value 45 = .ok (.goto (-38), 3) := by decide +kernel
theorem dX3_value_48 : decode cX3_value 48 = .ok (.iload_n 1, 1) := by decide +kernel
theorem dX3_value_49 : decode cX3_value 49 = .ok (.ireturn, 1) := by decide +kernel
set_option maxRecDepth 20000 in
theorem ggX3_isWord_J0_length_8abf5 : GoodIn wsX3_isWord wsJ0_length_8abf5 := goodIn_r _ [8, 9, 10, 11, 12, 7, 13, 14, 15] (by decide +kernel) (by decide +kernel)
set_option maxRecDepth 20000 in
theorem gX3_isWord_J0_length_8abf5 : GoodIn wsX3_isWord (wsV RX3 129 RJ0 yJ0_length_8abf5 wsJ0_length_8abf5) := goodIn_app (goodIn_of _ (by decide +kernel)) ggX3_isWord_J0_length_8abf5
set_option maxRecDepth 20000 in
theorem ggX3_isWord_X7_get : GoodIn wsX3_isWord wsX7_get := goodIn_r _ [20, 21, 22, 66, 67] (by decide +kernel) (by decide +kernel)
set_option maxRecDepth 20000 in
theorem gX3_isWord_X7_get : GoodIn wsX3_isWord (wsV RX3 125 RX7 yX7_get wsX7_get) := goodIn_app (goodIn_of _ (by decide +kernel)) ggX3_isWord_X7_get
set_option maxRecDepth 20000 in
theorem ggX3_isWord_J0_charAt_5068e : GoodIn wsX3_isWord wsJ0_charAt_5068e := goodIn_r _ [26, 9, 27, 28, 29, 7, 30, 14, 15, 31, 32, 33, 34, 35, 36, 37, 38, 39, 40, 41, 42, 43, 44, 45, 46, 47, 48, 49, 50, 51, 52, 53, 54, 55, 56, 57, 58, 59] (by decide +kernel) (by decide +kernel)
set_option maxRecDepth 20000 in
theorem gX3_isWord_J0_charAt_5068e : GoodIn wsX3_isWord (wsV RX3 134 RJ0 yJ0_charAt_5068e wsJ0_charAt_5068e) := goodIn_app (goodIn_of _ (by decide +kernel)) ggX3_isWord_J0_charAt_5068e
theorem dX3_isWord_0 : decode cX3_isWord 0 = .ok (.aload_n 1, 1) := by decide +kernel
theorem dX3_isWord_1 : decode cX3_isWord 1 = .ok (.invokevirtual 129, 3) := by decide +kernel
theorem dX3_isWord_4 : decode cX3_isWord 4 = .ok (.aload_n 0, 1) := by decide +kernel
theorem dX3_isWord_5 : decode cX3_isWord 5 = .ok (.getfield 27, 3) := by decide +kernel
theorem dX3_isWord_8 : decode cX3_isWord 8 = .ok (.aload_n 0, 1) := by decide +kernel
theorem dX3_isWord_9 : decode cX3_isWord 9 = .ok (.getfield 54, 3) := by decide +kernel
theorem dX3_isWord_12 : decode cX3_isWord 12 = .ok (.isub, 1) := by decide +kernel
theorem dX3_isWord_13 : decode cX3_isWord 13 = .ok (.if_icmp .eq 5, 3) := by decide +kernel
theorem dX3_isWord_16 : decode cX3_isWord 16 = .ok (.iconst 0, 1) := by decide +kernel
theorem dX3_isWord_17 : decode cX3_isWord 17 = .ok (.ireturn, 1) := by decide +kernel
theorem dX3_isWord_18 : decode cX3_isWord 18 = .ok (.iconst 0, 1) := by decide +kernel
theorem dX3_isWord_19 : decode cX3_isWord 19 = .ok (.istore_n 2, 1) := by decide +kernel
theorem dX3_isWord_20 : decode cX3_isWord 20 = .ok (.iload_n 2, 1) := by decide +kernel
theorem dX3_isWord_21 : decode cX3_isWord 21 = .ok (.aload_n 1, 1) := by decide +kernel
theorem dX3_isWord_22 : decode cX3_isWord 22 = .ok (.invokevirtual 129, 3) := by decide +kernel
theorem dX3_isWord_25 : decode cX3_isWord 25 = .ok (.if_icmp .ge 32, 3) := by decide +kernel
theorem dX3_isWord_28 : decode cX3_isWord 28 = .ok (.aload_n 0, 1) := by decide +kernel
theorem dX3_isWord_29 : decode cX3_isWord 29 = .ok (.getfield 23, 3) := by decide +kernel
theorem dX3_isWord_32 : decode cX3_isWord 32 = .ok (.aload_n 0, 1) := by decide +kernel
theorem dX3_isWord_33 : decode cX3_isWord 33 = .ok (.getfield 54, 3) := by decide +kernel
theorem dX3_isWord_36 : decode cX3_isWord 36 = .ok (.iload_n 2, 1) := by decide +kernel
theorem dX3_isWord_37 : decode cX3_isWord 37 = .ok (.iadd, 1) := by decide +kernel
theorem dX3_isWord_38 : decode cX3_isWord 38 = .ok (.invokevirtual 125, 3) := by decide +kernel
theorem dX3_isWord_41 : decode cX3_isWord 41 = .ok (.aload_n 1, 1) := by decide +kernel
theorem dX3_isWord_42 : decode cX3_isWord 42 = .ok (.iload_n 2, 1) := by decide +kernel
theorem dX3_isWord_43 : decode cX3_isWord 43 = .ok (.invokevirtual 134, 3) := by decide +kernel
theorem dX3_isWord_46 : decode cX3_isWord 46 = .ok (.if_icmp .eq 5, 3) := by decide +kernel
theorem dX3_isWord_49 : decode cX3_isWord 49 = .ok (.iconst 0, 1) := by decide +kernel
theorem dX3_isWord_50 : decode cX3_isWord 50 = .ok (.ireturn, 1) := by decide +kernel
theorem dX3_isWord_51 : decode cX3_isWord 51 = .ok (.iinc 2 1, 3) := by decide +kernel
theorem dX3_isWord_54 : decode cX3_isWord 54 = .ok (.goto (-34), 3) := by decide +kernel
theorem dX3_isWord_57 : decode cX3_isWord 57 = .ok (.iconst 1, 1) := by decide +kernel
theorem dX3_isWord_58 : decode cX3_isWord 58 = .ok (.ireturn, 1) := by decide +kernel
theorem dX4_init_0 : decode cX4_init 0 = .ok (.aload_n 0, 1) := by decide +kernel
theorem dX4_init_1 : decode cX4_init 1 = .ok (.invokespecial 3, 3) := by decide +kernel
theorem dX4_init_4 : decode cX4_init 4 = .ok (.aload_n 0, 1) := by decide +kernel
theorem dX4_init_5 : decode cX4_init 5 = .ok (.sipush 992, 3) := by decide +kernel
theorem dX4_init_8 : decode cX4_init 8 = .ok (.newarray .int, 2) := by decide +kernel
theorem dX4_init_10 : decode cX4_init 10 = .ok (.putfield 11, 3) := by decide +kernel
theorem dX4_init_13 : decode cX4_init 13 = .ok (.aload_n 0, 1) := by decide +kernel
theorem dX4_init_14 : decode cX4_init 14 = .ok (.bipush 31, 2) := by decide +kernel
theorem dX4_init_16 : decode cX4_init 16 = .ok (.newarray .int, 2) := by decide +kernel
theorem dX4_init_18 : decode cX4_init 18 = .ok (.putfield 15, 3) := by decide +kernel
theorem dX4_init_21 : decode cX4_init 21 = .ok (.aload_n 0, 1) := by decide +kernel
theorem dX4_init_22 : decode cX4_init 22 = .ok (.bipush 31, 2) := by decide +kernel
theorem dX4_init_24 : decode cX4_init 24 = .ok (.newarray .int, 2) := by decide +kernel
theorem dX4_init_26 : decode cX4_init 26 = .ok (.putfield 18, 3) := by decide +kernel
theorem dX4_init_29 : decode cX4_init 29 = .ok (.aload_n 0, 1) := by decide +kernel
theorem dX4_init_30 : decode cX4_init 30 = .ok (.bipush 31, 2) := by decide +kernel
theorem dX4_init_32 : decode cX4_init 32 = .ok (.newarray .boolean, 2) := by decide +kernel
theorem dX4_init_34 : decode cX4_init 34 = .ok (.putfield 21, 3) := by decide +kernel
theorem dX4_init_37 : decode cX4_init 37 = .ok (.return_, 1) := by decide +kernel
set_option maxRecDepth 20000 in
theorem ggX4_fill_X1_fits : GoodIn wsX4_fill wsX1_fits := goodIn_r _ [7, 8, 9, 10, 11, 12, 13, 6, 14, 15, 16, 17, 37, 38, 39, 40, 41, 42, 43, 44, 45, 46] (by decide +kernel) (by decide +kernel)
set_option maxRecDepth 20000 in
theorem gX4_fill_X1_fits : GoodIn wsX4_fill (wsV RX4 25 RX1 yX1_fits wsX1_fits) := goodIn_app (goodIn_of _ (by decide +kernel)) ggX4_fill_X1_fits
set_option maxRecDepth 20000 in
theorem ggX4_fill_X4_fillEnds : GoodIn wsX4_fill wsX4_fillEnds := goodIn_r _ [22, 23, 24, 1, 25, 26, 27, 21, 28, 29, 30, 31, 32, 33, 34, 35, 36] (by decide +kernel) (by decide +kernel)
set_option maxRecDepth 20000 in
theorem gX4_fill_X4_fillEnds : GoodIn wsX4_fill (wsV RX4 30 RX4 yX4_fillEnds wsX4_fillEnds) := goodIn_app (goodIn_of _ (by decide +kernel)) ggX4_fill_X4_fillEnds
theorem dX4_fill_0 : decode cX4_fill 0 = .ok (.iconst 0, 1) := by decide +kernel
theorem dX4_fill_1 : decode cX4_fill 1 = .ok (.istore_n 3, 1) := by decide +kernel
theorem dX4_fill_2 : decode cX4_fill 2 = .ok (.iload_n 3, 1) := by decide +kernel
theorem dX4_fill_3 : decode cX4_fill 3 = .ok (.bipush 31, 2) := by decide +kernel
theorem dX4_fill_5 : decode cX4_fill 5 = .ok (.if_icmp .ge 40, 3) := by decide +kernel
theorem dX4_fill_8 : decode cX4_fill 8 = .ok (.aload_n 0, 1) := by decide +kernel
theorem dX4_fill_9 : decode cX4_fill 9 = .ok (.getfield 21, 3) := by decide +kernel
theorem dX4_fill_12 : decode cX4_fill 12 = .ok (.iload_n 3, 1) := by decide +kernel
theorem dX4_fill_13 : decode cX4_fill 13 = .ok (.aload_n 1, 1) := by decide +kernel
theorem dX4_fill_14 : decode cX4_fill 14 = .ok (.iload_n 2, 1) := by decide +kernel
theorem dX4_fill_15 : decode cX4_fill 15 = .ok (.iload_n 3, 1) := by decide +kernel
theorem dX4_fill_16 : decode cX4_fill 16 = .ok (.invokevirtual 25, 3) := by decide +kernel
theorem dX4_fill_19 : decode cX4_fill 19 = .ok (.bastore, 1) := by decide +kernel
theorem dX4_fill_20 : decode cX4_fill 20 = .ok (.aload_n 0, 1) := by decide +kernel
theorem dX4_fill_21 : decode cX4_fill 21 = .ok (.getfield 11, 3) := by decide +kernel
theorem dX4_fill_24 : decode cX4_fill 24 = .ok (.sipush 961, 3) := by decide +kernel
theorem dX4_fill_27 : decode cX4_fill 27 = .ok (.iload_n 3, 1) := by decide +kernel
theorem dX4_fill_28 : decode cX4_fill 28 = .ok (.iadd, 1) := by decide +kernel
theorem dX4_fill_29 : decode cX4_fill 29 = .ok (.iload_n 3, 1) := by decide +kernel
theorem dX4_fill_30 : decode cX4_fill 30 = .ok (.ifCond .ne 7, 3) := by decide +kernel
theorem dX4_fill_33 : decode cX4_fill 33 = .ok (.iconst 1, 1) := by decide +kernel
theorem dX4_fill_34 : decode cX4_fill 34 = .ok (.goto 4, 3) := by decide +kernel
theorem dX4_fill_37 : decode cX4_fill 37 = .ok (.iconst 0, 1) := by decide +kernel
theorem dX4_fill_38 : decode cX4_fill 38 = .ok (.iastore, 1) := by decide +kernel
theorem dX4_fill_39 : decode cX4_fill 39 = .ok (.iinc 3 1, 3) := by decide +kernel
theorem dX4_fill_42 : decode cX4_fill 42 = .ok (.goto (-40), 3) := by decide +kernel
theorem dX4_fill_45 : decode cX4_fill 45 = .ok (.bipush 30, 2) := by decide +kernel
theorem dX4_fill_47 : decode cX4_fill 47 = .ok (.istore_n 3, 1) := by decide +kernel
theorem dX4_fill_48 : decode cX4_fill 48 = .ok (.iload_n 3, 1) := by decide +kernel
theorem dX4_fill_49 : decode cX4_fill 49 = .ok (.ifCond .le 89, 3) := by decide +kernel
theorem dX4_fill_52 : decode cX4_fill 52 = .ok (.iconst 0, 1) := by decide +kernel
theorem dX4_fill_53 : decode cX4_fill 53 = .ok (.istore 4, 2) := by decide +kernel
theorem dX4_fill_55 : decode cX4_fill 55 = .ok (.iload 4, 2) := by decide +kernel
theorem dX4_fill_57 : decode cX4_fill 57 = .ok (.bipush 31, 2) := by decide +kernel
theorem dX4_fill_59 : decode cX4_fill 59 = .ok (.if_icmp .ge 73, 3) := by decide +kernel
theorem dX4_fill_62 : decode cX4_fill 62 = .ok (.aload_n 0, 1) := by decide +kernel
theorem dX4_fill_63 : decode cX4_fill 63 = .ok (.getfield 21, 3) := by decide +kernel
theorem dX4_fill_66 : decode cX4_fill 66 = .ok (.iload_n 3, 1) := by decide +kernel
theorem dX4_fill_67 : decode cX4_fill 67 = .ok (.baload, 1) := by decide +kernel
theorem dX4_fill_68 : decode cX4_fill 68 = .ok (.ifCond .eq 26, 3) := by decide +kernel
theorem dX4_fill_71 : decode cX4_fill 71 = .ok (.iload 4, 2) := by decide +kernel
theorem dX4_fill_73 : decode cX4_fill 73 = .ok (.iload_n 3, 1) := by decide +kernel
theorem dX4_fill_74 : decode cX4_fill 74 = .ok (.if_icmp .lt 20, 3) := by decide +kernel
theorem dX4_fill_77 : decode cX4_fill 77 = .ok (.aload_n 0, 1) := by decide +kernel
theorem dX4_fill_78 : decode cX4_fill 78 = .ok (.getfield 11, 3) := by decide +kernel
theorem dX4_fill_81 : decode cX4_fill 81 = .ok (.bipush 31, 2) := by decide +kernel
theorem dX4_fill_83 : decode cX4_fill 83 = .ok (.iload_n 3, 1) := by decide +kernel
theorem dX4_fill_84 : decode cX4_fill 84 = .ok (.imul, 1) := by decide +kernel
theorem dX4_fill_85 : decode cX4_fill 85 = .ok (.iload 4, 2) := by decide +kernel
theorem dX4_fill_87 : decode cX4_fill 87 = .ok (.iadd, 1) := by decide +kernel
theorem dX4_fill_88 : decode cX4_fill 88 = .ok (.iload_n 3, 1) := by decide +kernel
theorem dX4_fill_89 : decode cX4_fill 89 = .ok (.isub, 1) := by decide +kernel
theorem dX4_fill_90 : decode cX4_fill 90 = .ok (.iaload, 1) := by decide +kernel
theorem dX4_fill_91 : decode cX4_fill 91 = .ok (.goto 4, 3) := by decide +kernel
theorem dX4_fill_94 : decode cX4_fill 94 = .ok (.iconst 0, 1) := by decide +kernel
theorem dX4_fill_95 : decode cX4_fill 95 = .ok (.istore 5, 2) := by decide +kernel
theorem dX4_fill_97 : decode cX4_fill 97 = .ok (.aload_n 0, 1) := by decide +kernel
theorem dX4_fill_98 : decode cX4_fill 98 = .ok (.getfield 11, 3) := by decide +kernel
theorem dX4_fill_101 : decode cX4_fill 101 = .ok (.bipush 31, 2) := by decide +kernel
theorem dX4_fill_103 : decode cX4_fill 103 = .ok (.iload_n 3, 1) := by decide +kernel
theorem dX4_fill_104 : decode cX4_fill 104 = .ok (.imul, 1) := by decide +kernel
theorem dX4_fill_105 : decode cX4_fill 105 = .ok (.iload 4, 2) := by decide +kernel
theorem dX4_fill_107 : decode cX4_fill 107 = .ok (.iadd, 1) := by decide +kernel
theorem dX4_fill_108 : decode cX4_fill 108 = .ok (.aload_n 0, 1) := by decide +kernel
theorem dX4_fill_109 : decode cX4_fill 109 = .ok (.getfield 11, 3) := by decide +kernel
theorem dX4_fill_112 : decode cX4_fill 112 = .ok (.bipush 31, 2) := by decide +kernel
theorem dX4_fill_114 : decode cX4_fill 114 = .ok (.iload_n 3, 1) := by decide +kernel
theorem dX4_fill_115 : decode cX4_fill 115 = .ok (.iconst 1, 1) := by decide +kernel
theorem dX4_fill_116 : decode cX4_fill 116 = .ok (.iadd, 1) := by decide +kernel
theorem dX4_fill_117 : decode cX4_fill 117 = .ok (.imul, 1) := by decide +kernel
theorem dX4_fill_118 : decode cX4_fill 118 = .ok (.iload 4, 2) := by decide +kernel
theorem dX4_fill_120 : decode cX4_fill 120 = .ok (.iadd, 1) := by decide +kernel
theorem dX4_fill_121 : decode cX4_fill 121 = .ok (.iaload, 1) := by decide +kernel
theorem dX4_fill_122 : decode cX4_fill 122 = .ok (.iload 5, 2) := by decide +kernel
theorem dX4_fill_124 : decode cX4_fill 124 = .ok (.iadd, 1) := by decide +kernel
theorem dX4_fill_125 : decode cX4_fill 125 = .ok (.iastore, 1) := by decide +kernel
theorem dX4_fill_126 : decode cX4_fill 126 = .ok (.iinc 4 1, 3) := by decide +kernel
theorem dX4_fill_129 : decode cX4_fill 129 = .ok (.goto (-74), 3) := by decide +kernel
theorem dX4_fill_132 : decode cX4_fill 132 = .ok (.iinc 3 (-1), 3) := by decide +kernel
theorem dX4_fill_135 : decode cX4_fill 135 = .ok (.goto (-87), 3) := by decide +kernel
theorem dX4_fill_138 : decode cX4_fill 138 = .ok (.aload_n 0, 1) := by decide +kernel
theorem dX4_fill_139 : decode cX4_fill 139 = .ok (.invokevirtual 30, 3) := by decide +kernel
theorem dX4_fill_142 : decode cX4_fill 142 = .ok (.return_, 1) := by decide +kernel
set_option maxRecDepth 20000 in
theorem ggX4_fillEnds_X4_addEnd : GoodIn wsX4_fillEnds wsX4_addEnd := goodIn_r _ [8, 1, 2, 9, 10, 11, 12, 13, 14, 15, 16] (by decide +kernel) (by decide +kernel)
set_option maxRecDepth 20000 in
theorem gX4_fillEnds_X4_addEnd : GoodIn wsX4_fillEnds (wsV RX4 33 RX4 yX4_addEnd wsX4_addEnd) := goodIn_app (goodIn_of _ (by decide +kernel)) ggX4_fillEnds_X4_addEnd
theorem dX4_fillEnds_0 : decode cX4_fillEnds 0 = .ok (.aload_n 0, 1) := by decide +kernel
theorem dX4_fillEnds_1 : decode cX4_fillEnds 1 = .ok (.getfield 15, 3) := by decide +kernel
theorem dX4_fillEnds_4 : decode cX4_fillEnds 4 = .ok (.iconst 0, 1) := by decide +kernel
theorem dX4_fillEnds_5 : decode cX4_fillEnds 5 = .ok (.iconst 0, 1) := by decide +kernel
theorem dX4_fillEnds_6 : decode cX4_fillEnds 6 = .ok (.iastore, 1) := by decide +kernel
theorem dX4_fillEnds_7 : decode cX4_fillEnds 7 = .ok (.aload_n 0, 1) := by decide +kernel
theorem dX4_fillEnds_8 : decode cX4_fillEnds 8 = .ok (.getfield 18, 3) := by decide +kernel
theorem dX4_fillEnds_11 : decode cX4_fillEnds 11 = .ok (.iconst 0, 1) := by decide +kernel
theorem dX4_fillEnds_12 : decode cX4_fillEnds 12 = .ok (.iconst 0, 1) := by decide +kernel
theorem dX4_fillEnds_13 : decode cX4_fillEnds 13 = .ok (.iastore, 1) := by decide +kernel
theorem dX4_fillEnds_14 : decode cX4_fillEnds 14 = .ok (.iconst 1, 1) := by decide +kernel
theorem dX4_fillEnds_15 : decode cX4_fillEnds 15 = .ok (.istore_n 1, 1) := by decide +kernel
theorem dX4_fillEnds_16 : decode cX4_fillEnds 16 = .ok (.iload_n 1, 1) := by decide +kernel
theorem dX4_fillEnds_17 : decode cX4_fillEnds 17 = .ok (.bipush 31, 2) := by decide +kernel
theorem dX4_fillEnds_19 : decode cX4_fillEnds 19 = .ok (.if_icmp .ge 65, 3) := by decide +kernel
theorem dX4_fillEnds_22 : decode cX4_fillEnds 22 = .ok (.aload_n 0, 1) := by decide +kernel
theorem dX4_fillEnds_23 : decode cX4_fillEnds 23 = .ok (.getfield 15, 3) := by decide +kernel
theorem dX4_fillEnds_26 : decode cX4_fillEnds 26 = .ok (.iload_n 1, 1) := by decide +kernel
theorem dX4_fillEnds_27 : decode cX4_fillEnds 27 = .ok (.iconst (-1), 1) := by decide +kernel
theorem dX4_fillEnds_28 : decode cX4_fillEnds 28 = .ok (.iastore, 1) := by decide +kernel
theorem dX4_fillEnds_29 : decode cX4_fillEnds 29 = .ok (.aload_n 0, 1) := by decide +kernel
theorem dX4_fillEnds_30 : decode cX4_fillEnds 30 = .ok (.getfield 18, 3) := by decide +kernel
theorem dX4_fillEnds_33 : decode cX4_fillEnds 33 = .ok (.iload_n 1, 1) := by decide +kernel
theorem dX4_fillEnds_34 : decode cX4_fillEnds 34 = .ok (.iconst (-1), 1) := by decide +kernel
theorem dX4_fillEnds_35 : decode cX4_fillEnds 35 = .ok (.iastore, 1) := by decide +kernel
theorem dX4_fillEnds_36 : decode cX4_fillEnds 36 = .ok (.iconst 1, 1) := by decide +kernel
theorem dX4_fillEnds_37 : decode cX4_fillEnds 37 = .ok (.istore_n 2, 1) := by decide +kernel
theorem dX4_fillEnds_38 : decode cX4_fillEnds 38 = .ok (.iload_n 2, 1) := by decide +kernel
theorem dX4_fillEnds_39 : decode cX4_fillEnds 39 = .ok (.iload_n 1, 1) := by decide +kernel
theorem dX4_fillEnds_40 : decode cX4_fillEnds 40 = .ok (.if_icmp .gt 38, 3) := by decide +kernel
theorem dX4_fillEnds_43 : decode cX4_fillEnds 43 = .ok (.aload_n 0, 1) := by decide +kernel
theorem dX4_fillEnds_44 : decode cX4_fillEnds 44 = .ok (.getfield 21, 3) := by decide +kernel
theorem dX4_fillEnds_47 : decode cX4_fillEnds 47 = .ok (.iload_n 2, 1) := by decide +kernel
theorem dX4_fillEnds_48 : decode cX4_fillEnds 48 = .ok (.baload, 1) := by decide +kernel
theorem dX4_fillEnds_49 : decode cX4_fillEnds 49 = .ok (.ifCond .eq 23, 3) := by decide +kernel
theorem dX4_fillEnds_52 : decode cX4_fillEnds 52 = .ok (.aload_n 0, 1) := by decide +kernel
theorem dX4_fillEnds_53 : decode cX4_fillEnds 53 = .ok (.getfield 15, 3) := by decide +kernel
theorem dX4_fillEnds_56 : decode cX4_fillEnds 56 = .ok (.iload_n 1, 1) := by decide +kernel
theorem dX4_fillEnds_57 : decode cX4_fillEnds 57 = .ok (.iload_n 2, 1) := by decide +kernel
theorem dX4_fillEnds_58 : decode cX4_fillEnds 58 = .ok (.isub, 1) := by decide +kernel
theorem dX4_fillEnds_59 : decode cX4_fillEnds 59 = .ok (.iaload, 1) := by decide +kernel
theorem dX4_fillEnds_60 : decode cX4_fillEnds 60 = .ok (.iconst (-1), 1) := by decide +kernel
theorem dX4_fillEnds_61 : decode cX4_fillEnds 61 = .ok (.if_icmp .eq 11, 3) := by decide +kernel
theorem dX4_fillEnds_64 : decode cX4_fillEnds 64 = .ok (.aload_n 0, 1) := by decide +kernel
theorem dX4_fillEnds_65 : decode cX4_fillEnds 65 = .ok (.iload_n 1, 1) := by decide +kernel
theorem dX4_fillEnds_66 : decode cX4_fillEnds 66 = .ok (.iload_n 1, 1) := by decide +kernel
theorem dX4_fillEnds_67 : decode cX4_fillEnds 67 = .ok (.iload_n 2, 1) := by decide +kernel
theorem dX4_fillEnds_68 : decode cX4_fillEnds 68 = .ok (.isub, 1) := by decide +kernel
theorem dX4_fillEnds_69 : decode cX4_fillEnds 69 = .ok (.invokevirtual 33, 3) := by decide +kernel
theorem dX4_fillEnds_72 : decode cX4_fillEnds 72 = .ok (.iinc 2 1, 3) := by decide +kernel
theorem dX4_fillEnds_75 : decode cX4_fillEnds 75 = .ok (.goto (-37), 3) := by decide +kernel
theorem dX4_fillEnds_78 : decode cX4_fillEnds 78 = .ok (.iinc 1 1, 3) := by decide +kernel
theorem dX4_fillEnds_81 : decode cX4_fillEnds 81 = .ok (.goto (-65), 3) := by decide +kernel
theorem dX4_fillEnds_84 : decode cX4_fillEnds 84 = .ok (.return_, 1) := by decide +kernel
theorem dX4_addEnd_0 : decode cX4_addEnd 0 = .ok (.aload_n 0, 1) := by decide +kernel
theorem dX4_addEnd_1 : decode cX4_addEnd 1 = .ok (.getfield 15, 3) := by decide +kernel
theorem dX4_addEnd_4 : decode cX4_addEnd 4 = .ok (.iload_n 1, 1) := by decide +kernel
theorem dX4_addEnd_5 : decode cX4_addEnd 5 = .ok (.iaload, 1) := by decide +kernel
theorem dX4_addEnd_6 : decode cX4_addEnd 6 = .ok (.iconst (-1), 1) := by decide +kernel
theorem dX4_addEnd_7 : decode cX4_addEnd 7 = .ok (.if_icmp .eq 20, 3) := by decide +kernel
theorem dX4_addEnd_10 : decode cX4_addEnd 10 = .ok (.aload_n 0, 1) := by decide +kernel
theorem dX4_addEnd_11 : decode cX4_addEnd 11 = .ok (.getfield 15, 3) := by decide +kernel
theorem dX4_addEnd_14 : decode cX4_addEnd 14 = .ok (.iload_n 2, 1) := by decide +kernel
theorem dX4_addEnd_15 : decode cX4_addEnd 15 = .ok (.iaload, 1) := by decide +kernel
theorem dX4_addEnd_16 : decode cX4_addEnd 16 = .ok (.iconst 1, 1) := by decide +kernel
theorem dX4_addEnd_17 : decode cX4_addEnd 17 = .ok (.iadd, 1) := by decide +kernel
theorem dX4_addEnd_18 : decode cX4_addEnd 18 = .ok (.aload_n 0, 1) := by decide +kernel
theorem dX4_addEnd_19 : decode cX4_addEnd 19 = .ok (.getfield 15, 3) := by decide +kernel
theorem dX4_addEnd_22 : decode cX4_addEnd 22 = .ok (.iload_n 1, 1) := by decide +kernel
theorem dX4_addEnd_23 : decode cX4_addEnd 23 = .ok (.iaload, 1) := by decide +kernel
theorem dX4_addEnd_24 : decode cX4_addEnd 24 = .ok (.if_icmp .ge 17, 3) := by decide +kernel
theorem dX4_addEnd_27 : decode cX4_addEnd 27 = .ok (.aload_n 0, 1) := by decide +kernel
theorem dX4_addEnd_28 : decode cX4_addEnd 28 = .ok (.getfield 15, 3) := by decide +kernel
theorem dX4_addEnd_31 : decode cX4_addEnd 31 = .ok (.iload_n 1, 1) := by decide +kernel
theorem dX4_addEnd_32 : decode cX4_addEnd 32 = .ok (.aload_n 0, 1) := by decide +kernel
theorem dX4_addEnd_33 : decode cX4_addEnd 33 = .ok (.getfield 15, 3) := by decide +kernel
theorem dX4_addEnd_36 : decode cX4_addEnd 36 = .ok (.iload_n 2, 1) := by decide +kernel
theorem dX4_addEnd_37 : decode cX4_addEnd 37 = .ok (.iaload, 1) := by decide +kernel
theorem dX4_addEnd_38 : decode cX4_addEnd 38 = .ok (.iconst 1, 1) := by decide +kernel
theorem dX4_addEnd_39 : decode cX4_addEnd 39 = .ok (.iadd, 1) := by decide +kernel
theorem dX4_addEnd_40 : decode cX4_addEnd 40 = .ok (.iastore, 1) := by decide +kernel
theorem dX4_addEnd_41 : decode cX4_addEnd 41 = .ok (.aload_n 0, 1) := by decide +kernel
theorem dX4_addEnd_42 : decode cX4_addEnd 42 = .ok (.getfield 18, 3) := by decide +kernel
theorem dX4_addEnd_45 : decode cX4_addEnd 45 = .ok (.iload_n 1, 1) := by decide +kernel
theorem dX4_addEnd_46 : decode cX4_addEnd 46 = .ok (.aload_n 0, 1) := by decide +kernel
theorem dX4_addEnd_47 : decode cX4_addEnd 47 = .ok (.getfield 18, 3) := by decide +kernel
theorem dX4_addEnd_50 : decode cX4_addEnd 50 = .ok (.iload_n 1, 1) := by decide +kernel
theorem dX4_addEnd_51 : decode cX4_addEnd 51 = .ok (.iaload, 1) := by decide +kernel
theorem dX4_addEnd_52 : decode cX4_addEnd 52 = .ok (.aload_n 0, 1) := by decide +kernel
theorem dX4_addEnd_53 : decode cX4_addEnd 53 = .ok (.getfield 18, 3) := by decide +kernel
theorem dX4_addEnd_56 : decode cX4_addEnd 56 = .ok (.iload_n 2, 1) := by decide +kernel
theorem dX4_addEnd_57 : decode cX4_addEnd 57 = .ok (.iaload, 1) := by decide +kernel
theorem dX4_addEnd_58 : decode cX4_addEnd 58 = .ok (.iconst 1, 1) := by decide +kernel
theorem dX4_addEnd_59 : decode cX4_addEnd 59 = .ok (.iadd, 1) := by decide +kernel
theorem dX4_addEnd_60 : decode cX4_addEnd 60 = .ok (.invokestatic 37, 3) := by decide +kernel
theorem dX4_addEnd_63 : decode cX4_addEnd 63 = .ok (.iastore, 1) := by decide +kernel
theorem dX4_addEnd_64 : decode cX4_addEnd 64 = .ok (.return_, 1) := by decide +kernel
set_option maxRecDepth 20000 in
theorem ggX4_numberFrom_X9_isWithin : GoodIn wsX4_numberFrom wsX9_isWithin := goodIn_r _ [4] (by decide +kernel) (by decide +kernel)
set_option maxRecDepth 20000 in
theorem gX4_numberFrom_X9_isWithin_n43 : GoodIn wsX4_numberFrom (wsX9_isWithin) := ggX4_numberFrom_X9_isWithin
theorem dX4_numberFrom_0 : decode cX4_numberFrom 0 = .ok (.iload_n 1, 1) := by decide +kernel
theorem dX4_numberFrom_1 : decode cX4_numberFrom 1 = .ok (.iconst 1, 1) := by decide +kernel
theorem dX4_numberFrom_2 : decode cX4_numberFrom 2 = .ok (.bipush 31, 2) := by decide +kernel
theorem dX4_numberFrom_4 : decode cX4_numberFrom 4 = .ok (.invokestatic 43, 3) := by decide +kernel
theorem dX4_numberFrom_7 : decode cX4_numberFrom 7 = .ok (.ifCond .eq 17, 3) := by decide +kernel
theorem dX4_numberFrom_10 : decode cX4_numberFrom 10 = .ok (.iload_n 2, 1) := by decide +kernel
theorem dX4_numberFrom_11 : decode cX4_numberFrom 11 = .ok (.iconst 0, 1) := by decide +kernel
theorem dX4_numberFrom_12 : decode cX4_numberFrom 12 = .ok (.bipush 30, 2) := by decide +kernel
theorem dX4_numberFrom_14 : decode cX4_numberFrom 14 = .ok (.invokestatic 43, 3) := by decide +kernel
theorem dX4_numberFrom_17 : decode cX4_numberFrom 17 = .ok (.ifCond .eq 7, 3) := by decide +kernel
theorem dX4_numberFrom_20 : decode cX4_numberFrom 20 = .ok (.iconst 1, 1) := by decide +kernel
theorem dX4_numberFrom_21 : decode cX4_numberFrom 21 = .ok (.goto 4, 3) := by decide +kernel
theorem dX4_numberFrom_24 : decode cX4_numberFrom 24 = .ok (.iconst 0, 1) := by decide +kernel
theorem dX4_numberFrom_25 : decode cX4_numberFrom 25 = .ok (.istore_n 3, 1) := by decide +kernel
theorem dX4_numberFrom_26 : decode cX4_numberFrom 26 = .ok (.iload_n 3, 1) := by decide +kernel
theorem dX4_numberFrom_27 : decode cX4_numberFrom 27 = .ok (.ifCond .eq 17, 3) := by decide +kernel
theorem dX4_numberFrom_30 : decode cX4_numberFrom 30 = .ok (.aload_n 0, 1) := by decide +kernel
theorem dX4_numberFrom_31 : decode cX4_numberFrom 31 = .ok (.getfield 11, 3) := by decide +kernel
theorem dX4_numberFrom_34 : decode cX4_numberFrom 34 = .ok (.bipush 31, 2) := by decide +kernel
theorem dX4_numberFrom_36 : decode cX4_numberFrom 36 = .ok (.iload_n 1, 1) := by decide +kernel
theorem dX4_numberFrom_37 : decode cX4_numberFrom 37 = .ok (.imul, 1) := by decide +kernel
theorem dX4_numberFrom_38 : decode cX4_numberFrom 38 = .ok (.iload_n 2, 1) := by decide +kernel
theorem dX4_numberFrom_39 : decode cX4_numberFrom 39 = .ok (.iadd, 1) := by decide +kernel
theorem dX4_numberFrom_40 : decode cX4_numberFrom 40 = .ok (.iaload, 1) := by decide +kernel
theorem dX4_numberFrom_41 : decode cX4_numberFrom 41 = .ok (.goto 4, 3) := by decide +kernel
theorem dX4_numberFrom_44 : decode cX4_numberFrom 44 = .ok (.iconst 0, 1) := by decide +kernel
theorem dX4_numberFrom_45 : decode cX4_numberFrom 45 = .ok (.ireturn, 1) := by decide +kernel
set_option maxRecDepth 20000 in
theorem ggX4_number_X4_numberFrom : GoodIn wsX4_number wsX4_numberFrom := goodIn_r _ [5, 6, 7, 8, 9, 10, 11, 12, 13] (by decide +kernel) (by decide +kernel)
set_option maxRecDepth 20000 in
theorem gX4_number_X4_numberFrom : GoodIn wsX4_number (wsV RX4 47 RX4 yX4_numberFrom wsX4_numberFrom) := goodIn_app (goodIn_of _ (by decide +kernel)) ggX4_number_X4_numberFrom
theorem dX4_number_0 : decode cX4_number 0 = .ok (.aload_n 0, 1) := by decide +kernel
theorem dX4_number_1 : decode cX4_number 1 = .ok (.iconst 1, 1) := by decide +kernel
theorem dX4_number_2 : decode cX4_number 2 = .ok (.iload_n 1, 1) := by decide +kernel
theorem dX4_number_3 : decode cX4_number 3 = .ok (.invokevirtual 47, 3) := by decide +kernel
theorem dX4_number_6 : decode cX4_number 6 = .ok (.ireturn, 1) := by decide +kernel
set_option maxRecDepth 20000 in
theorem ggX4_fewest_X9_isWithin : GoodIn wsX4_fewest wsX9_isWithin := goodIn_r _ [4] (by decide +kernel) (by decide +kernel)
set_option maxRecDepth 20000 in
theorem gX4_fewest_X9_isWithin_n43 : GoodIn wsX4_fewest (wsX9_isWithin) := ggX4_fewest_X9_isWithin
theorem dX4_fewest_0 : decode cX4_fewest 0 = .ok (.iload_n 1, 1) := by decide +kernel
theorem dX4_fewest_1 : decode cX4_fewest 1 = .ok (.iconst 0, 1) := by decide +kernel
theorem dX4_fewest_2 : decode cX4_fewest 2 = .ok (.bipush 30, 2) := by decide +kernel
theorem dX4_fewest_4 : decode cX4_fewest 4 = .ok (.invokestatic 43, 3) := by decide +kernel
theorem dX4_fewest_7 : decode cX4_fewest 7 = .ok (.ifCond .eq 12, 3) := by decide +kernel
theorem dX4_fewest_10 : decode cX4_fewest 10 = .ok (.aload_n 0, 1) := by decide +kernel
theorem dX4_fewest_11 : decode cX4_fewest 11 = .ok (.getfield 15, 3) := by decide +kernel
theorem dX4_fewest_14 : decode cX4_fewest 14 = .ok (.iload_n 1, 1) := by decide +kernel
theorem dX4_fewest_15 : decode cX4_fewest 15 = .ok (.iaload, 1) := by decide +kernel
theorem dX4_fewest_16 : decode cX4_fewest 16 = .ok (.goto 4, 3) := by decide +kernel
theorem dX4_fewest_19 : decode cX4_fewest 19 = .ok (.iconst (-1), 1) := by decide +kernel
theorem dX4_fewest_20 : decode cX4_fewest 20 = .ok (.ireturn, 1) := by decide +kernel
set_option maxRecDepth 20000 in
theorem ggX4_most_X9_isWithin : GoodIn wsX4_most wsX9_isWithin := goodIn_r _ [4] (by decide +kernel) (by decide +kernel)
set_option maxRecDepth 20000 in
theorem gX4_most_X9_isWithin_n43 : GoodIn wsX4_most (wsX9_isWithin) := ggX4_most_X9_isWithin
theorem dX4_most_0 : decode cX4_most 0 = .ok (.iload_n 1, 1) := by decide +kernel
theorem dX4_most_1 : decode cX4_most 1 = .ok (.iconst 0, 1) := by decide +kernel
theorem dX4_most_2 : decode cX4_most 2 = .ok (.bipush 30, 2) := by decide +kernel
theorem dX4_most_4 : decode cX4_most 4 = .ok (.invokestatic 43, 3) := by decide +kernel
theorem dX4_most_7 : decode cX4_most 7 = .ok (.ifCond .eq 12, 3) := by decide +kernel
theorem dX4_most_10 : decode cX4_most 10 = .ok (.aload_n 0, 1) := by decide +kernel
theorem dX4_most_11 : decode cX4_most 11 = .ok (.getfield 18, 3) := by decide +kernel
theorem dX4_most_14 : decode cX4_most 14 = .ok (.iload_n 1, 1) := by decide +kernel
theorem dX4_most_15 : decode cX4_most 15 = .ok (.iaload, 1) := by decide +kernel
theorem dX4_most_16 : decode cX4_most 16 = .ok (.goto 4, 3) := by decide +kernel
theorem dX4_most_19 : decode cX4_most 19 = .ok (.iconst (-1), 1) := by decide +kernel
theorem dX4_most_20 : decode cX4_most 20 = .ok (.ireturn, 1) := by decide +kernel
set_option maxRecDepth 20000 in
theorem ggX4_size_X4_number : GoodIn wsX4_size wsX4_number := goodIn_r _ [6, 7, 8, 9, 5, 10, 11, 12, 13, 14, 19, 20, 21, 22] (by decide +kernel) (by decide +kernel)
set_option maxRecDepth 20000 in
theorem gX4_size_X4_number : GoodIn wsX4_size (wsV RX4 50 RX4 yX4_number wsX4_number) := goodIn_app (goodIn_of _ (by decide +kernel)) ggX4_size_X4_number
set_option maxRecDepth 20000 in
theorem ggX4_size_X4_has : GoodIn wsX4_size wsX4_has := goodIn_r _ [18, 1, 7, 8, 9, 5, 10, 11, 12, 13, 14, 19, 20, 21, 22] (by decide +kernel) (by decide +kernel)
set_option maxRecDepth 20000 in
theorem gX4_size_X4_has : GoodIn wsX4_size (wsV RX4 54 RX4 yX4_has wsX4_has) := goodIn_app (goodIn_of _ (by decide +kernel)) ggX4_size_X4_has
set_option maxRecDepth 20000 in
theorem ggX4_size_X4_numberFrom : GoodIn wsX4_size wsX4_numberFrom := goodIn_r _ [10, 11, 12, 13, 14, 19, 20, 21, 22] (by decide +kernel) (by decide +kernel)
set_option maxRecDepth 20000 in
theorem gX4_size_X4_numberFrom : GoodIn wsX4_size (wsV RX4 47 RX4 yX4_numberFrom wsX4_numberFrom) := goodIn_app (goodIn_of _ (by decide +kernel)) ggX4_size_X4_numberFrom
theorem dX4_size_0 : decode cX4_size 0 = .ok (.iload_n 2, 1) := by decide +kernel
theorem dX4_size_1 : decode cX4_size 1 = .ok (.aload_n 0, 1) := by decide +kernel
theorem dX4_size_2 : decode cX4_size 2 = .ok (.iload_n 1, 1) := by decide +kernel
theorem dX4_size_3 : decode cX4_size 3 = .ok (.invokevirtual 50, 3) := by decide +kernel
theorem dX4_size_6 : decode cX4_size 6 = .ok (.if_icmp .lt 6, 3) := by decide +kernel
theorem dX4_size_9 : decode cX4_size 9 = .ok (.bipush (-5), 2) := by decide +kernel
theorem dX4_size_11 : decode cX4_size 11 = .ok (.ireturn, 1) := by decide +kernel
theorem dX4_size_12 : decode cX4_size 12 = .ok (.iload_n 1, 1) := by decide +kernel
theorem dX4_size_13 : decode cX4_size 13 = .ok (.istore 4, 2) := by decide +kernel
theorem dX4_size_15 : decode cX4_size 15 = .ok (.iload_n 2, 1) := by decide +kernel
theorem dX4_size_16 : decode cX4_size 16 = .ok (.istore 5, 2) := by decide +kernel
theorem dX4_size_18 : decode cX4_size 18 = .ok (.iconst 0, 1) := by decide +kernel
theorem dX4_size_19 : decode cX4_size 19 = .ok (.istore 6, 2) := by decide +kernel
theorem dX4_size_21 : decode cX4_size 21 = .ok (.iconst 1, 1) := by decide +kernel
theorem dX4_size_22 : decode cX4_size 22 = .ok (.istore 7, 2) := by decide +kernel
theorem dX4_size_24 : decode cX4_size 24 = .ok (.iload 7, 2) := by decide +kernel
theorem dX4_size_26 : decode cX4_size 26 = .ok (.iload 4, 2) := by decide +kernel
theorem dX4_size_28 : decode cX4_size 28 = .ok (.if_icmp .gt 90, 3) := by decide +kernel
theorem dX4_size_31 : decode cX4_size 31 = .ok (.iconst 0, 1) := by decide +kernel
theorem dX4_size_32 : decode cX4_size 32 = .ok (.istore 8, 2) := by decide +kernel
theorem dX4_size_34 : decode cX4_size 34 = .ok (.iload 8, 2) := by decide +kernel
theorem dX4_size_36 : decode cX4_size 36 = .ok (.bipush 31, 2) := by decide +kernel
theorem dX4_size_38 : decode cX4_size 38 = .ok (.if_icmp .ge 41, 3) := by decide +kernel
theorem dX4_size_41 : decode cX4_size 41 = .ok (.aload_n 0, 1) := by decide +kernel
theorem dX4_size_42 : decode cX4_size 42 = .ok (.iload 7, 2) := by decide +kernel
theorem dX4_size_44 : decode cX4_size 44 = .ok (.iload 4, 2) := by decide +kernel
theorem dX4_size_46 : decode cX4_size 46 = .ok (.iload 5, 2) := by decide +kernel
theorem dX4_size_48 : decode cX4_size 48 = .ok (.invokevirtual 54, 3) := by decide +kernel
theorem dX4_size_51 : decode cX4_size 51 = .ok (.ifCond .eq 28, 3) := by decide +kernel
theorem dX4_size_54 : decode cX4_size 54 = .ok (.iload 6, 2) := by decide +kernel
theorem dX4_size_56 : decode cX4_size 56 = .ok (.iload_n 3, 1) := by decide +kernel
theorem dX4_size_57 : decode cX4_size 57 = .ok (.if_icmp .ne 6, 3) := by decide +kernel
theorem dX4_size_60 : decode cX4_size 60 = .ok (.iload 7, 2) := by decide +kernel
theorem dX4_size_62 : decode cX4_size 62 = .ok (.ireturn, 1) := by decide +kernel
theorem dX4_size_63 : decode cX4_size 63 = .ok (.iinc 6 1, 3) := by decide +kernel
theorem dX4_size_66 : decode cX4_size 66 = .ok (.iload 4, 2) := by decide +kernel
theorem dX4_size_68 : decode cX4_size 68 = .ok (.iload 7, 2) := by decide +kernel
theorem dX4_size_70 : decode cX4_size 70 = .ok (.isub, 1) := by decide +kernel
theorem dX4_size_71 : decode cX4_size 71 = .ok (.istore 4, 2) := by decide +kernel
theorem dX4_size_73 : decode cX4_size 73 = .ok (.iinc 8 1, 3) := by decide +kernel
theorem dX4_size_76 : decode cX4_size 76 = .ok (.goto (-42), 3) := by decide +kernel
theorem dX4_size_79 : decode cX4_size 79 = .ok (.iload 7, 2) := by decide +kernel
theorem dX4_size_81 : decode cX4_size 81 = .ok (.bipush 31, 2) := by decide +kernel
theorem dX4_size_83 : decode cX4_size 83 = .ok (.if_icmp .ge 29, 3) := by decide +kernel
theorem dX4_size_86 : decode cX4_size 86 = .ok (.aload_n 0, 1) := by decide +kernel
theorem dX4_size_87 : decode cX4_size 87 = .ok (.getfield 21, 3) := by decide +kernel
theorem dX4_size_90 : decode cX4_size 90 = .ok (.iload 7, 2) := by decide +kernel
theorem dX4_size_92 : decode cX4_size 92 = .ok (.baload, 1) := by decide +kernel
theorem dX4_size_93 : decode cX4_size 93 = .ok (.ifCond .eq 19, 3) := by decide +kernel
theorem dX4_size_96 : decode cX4_size 96 = .ok (.iload 5, 2) := by decide +kernel
theorem dX4_size_98 : decode cX4_size 98 = .ok (.aload_n 0, 1) := by decide +kernel
theorem dX4_size_99 : decode cX4_size 99 = .ok (.iload 7, 2) := by decide +kernel
theorem dX4_size_101 : decode cX4_size 101 = .ok (.iload 4, 2) := by decide +kernel
theorem dX4_size_103 : decode cX4_size 103 = .ok (.iload 7, 2) := by decide +kernel
theorem dX4_size_105 : decode cX4_size 105 = .ok (.isub, 1) := by decide +kernel
theorem dX4_size_106 : decode cX4_size 106 = .ok (.invokevirtual 47, 3) := by decide +kernel
theorem dX4_size_109 : decode cX4_size 109 = .ok (.isub, 1) := by decide +kernel
theorem dX4_size_110 : decode cX4_size 110 = .ok (.istore 5, 2) := by decide +kernel
theorem dX4_size_112 : decode cX4_size 112 = .ok (.iinc 7 1, 3) := by decide +kernel
theorem dX4_size_115 : decode cX4_size 115 = .ok (.goto (-91), 3) := by decide +kernel
theorem dX4_size_118 : decode cX4_size 118 = .ok (.bipush (-5), 2) := by decide +kernel
theorem dX4_size_120 : decode cX4_size 120 = .ok (.ireturn, 1) := by decide +kernel
set_option maxRecDepth 20000 in
theorem ggX4_has_X4_numberFrom : GoodIn wsX4_has wsX4_numberFrom := goodIn_r _ [6, 7, 8, 9, 10, 11, 12, 13, 14] (by decide +kernel) (by decide +kernel)
set_option maxRecDepth 20000 in
theorem gX4_has_X4_numberFrom : GoodIn wsX4_has (wsV RX4 47 RX4 yX4_numberFrom wsX4_numberFrom) := goodIn_app (goodIn_of _ (by decide +kernel)) ggX4_has_X4_numberFrom
theorem dX4_has_0 : decode cX4_has 0 = .ok (.iload_n 1, 1) := by decide +kernel
theorem dX4_has_1 : decode cX4_has 1 = .ok (.bipush 31, 2) := by decide +kernel
theorem dX4_has_3 : decode cX4_has 3 = .ok (.if_icmp .ge 28, 3) := by decide +kernel
theorem dX4_has_6 : decode cX4_has 6 = .ok (.aload_n 0, 1) := by decide +kernel
theorem dX4_has_7 : decode cX4_has 7 = .ok (.getfield 21, 3) := by decide +kernel
theorem dX4_has_10 : decode cX4_has 10 = .ok (.iload_n 1, 1) := by decide +kernel
theorem dX4_has_11 : decode cX4_has 11 = .ok (.baload, 1) := by decide +kernel
theorem dX4_has_12 : decode cX4_has 12 = .ok (.ifCond .eq 19, 3) := by decide +kernel
theorem dX4_has_15 : decode cX4_has 15 = .ok (.iload_n 3, 1) := by decide +kernel
theorem dX4_has_16 : decode cX4_has 16 = .ok (.aload_n 0, 1) := by decide +kernel
theorem dX4_has_17 : decode cX4_has 17 = .ok (.iload_n 1, 1) := by decide +kernel
theorem dX4_has_18 : decode cX4_has 18 = .ok (.iload_n 2, 1) := by decide +kernel
theorem dX4_has_19 : decode cX4_has 19 = .ok (.iload_n 1, 1) := by decide +kernel
theorem dX4_has_20 : decode cX4_has 20 = .ok (.isub, 1) := by decide +kernel
theorem dX4_has_21 : decode cX4_has 21 = .ok (.invokevirtual 47, 3) := by decide +kernel
theorem dX4_has_24 : decode cX4_has 24 = .ok (.if_icmp .ge 7, 3) := by decide +kernel
theorem dX4_has_27 : decode cX4_has 27 = .ok (.iconst 1, 1) := by decide +kernel
theorem dX4_has_28 : decode cX4_has 28 = .ok (.goto 4, 3) := by decide +kernel
theorem dX4_has_31 : decode cX4_has 31 = .ok (.iconst 0, 1) := by decide +kernel
theorem dX4_has_32 : decode cX4_has 32 = .ok (.ireturn, 1) := by decide +kernel
theorem dX5_init_0 : decode cX5_init 0 = .ok (.aload_n 0, 1) := by decide +kernel
theorem dX5_init_1 : decode cX5_init 1 = .ok (.invokespecial 5, 3) := by decide +kernel
theorem dX5_init_4 : decode cX5_init 4 = .ok (.aload_n 0, 1) := by decide +kernel
theorem dX5_init_5 : decode cX5_init 5 = .ok (.bipush 13, 2) := by decide +kernel
theorem dX5_init_7 : decode cX5_init 7 = .ok (.newarray .int, 2) := by decide +kernel
theorem dX5_init_9 : decode cX5_init 9 = .ok (.putfield 11, 3) := by decide +kernel
theorem dX5_init_12 : decode cX5_init 12 = .ok (.aload_n 0, 1) := by decide +kernel
theorem dX5_init_13 : decode cX5_init 13 = .ok (.sipush 2197, 3) := by decide +kernel
theorem dX5_init_16 : decode cX5_init 16 = .ok (.newarray .int, 2) := by decide +kernel
theorem dX5_init_18 : decode cX5_init 18 = .ok (.putfield 15, 3) := by decide +kernel
theorem dX5_init_21 : decode cX5_init 21 = .ok (.aload_n 0, 1) := by decide +kernel
theorem dX5_init_22 : decode cX5_init 22 = .ok (.sipush 2197, 3) := by decide +kernel
theorem dX5_init_25 : decode cX5_init 25 = .ok (.newarray .int, 2) := by decide +kernel
theorem dX5_init_27 : decode cX5_init 27 = .ok (.putfield 18, 3) := by decide +kernel
theorem dX5_init_30 : decode cX5_init 30 = .ok (.return_, 1) := by decide +kernel
set_option maxRecDepth 20000 in
theorem ggX5_lay_X1_fits : GoodIn wsX5_lay wsX1_fits := goodIn_r _ [11, 12, 13, 14, 15, 16, 17, 10, 18, 19, 20, 21, 29, 30, 31, 32, 33, 34, 35, 36, 37, 38] (by decide +kernel) (by decide +kernel)
set_option maxRecDepth 20000 in
theorem gX5_lay_X1_fits : GoodIn wsX5_lay (wsV RX5 25 RX1 yX1_fits wsX1_fits) := goodIn_app (goodIn_of _ (by decide +kernel)) ggX5_lay_X1_fits
theorem dX5_lay_0 : decode cX5_lay 0 = .ok (.aload_n 0, 1) := by decide +kernel
theorem dX5_lay_1 : decode cX5_lay 1 = .ok (.iconst 1, 1) := by decide +kernel
theorem dX5_lay_2 : decode cX5_lay 2 = .ok (.putfield 21, 3) := by decide +kernel
theorem dX5_lay_5 : decode cX5_lay 5 = .ok (.iconst 1, 1) := by decide +kernel
theorem dX5_lay_6 : decode cX5_lay 6 = .ok (.istore 5, 2) := by decide +kernel
theorem dX5_lay_8 : decode cX5_lay 8 = .ok (.iload 5, 2) := by decide +kernel
theorem dX5_lay_10 : decode cX5_lay 10 = .ok (.iload 4, 2) := by decide +kernel
theorem dX5_lay_12 : decode cX5_lay 12 = .ok (.if_icmp .gt 49, 3) := by decide +kernel
theorem dX5_lay_15 : decode cX5_lay 15 = .ok (.aload_n 0, 1) := by decide +kernel
theorem dX5_lay_16 : decode cX5_lay 16 = .ok (.getfield 21, 3) := by decide +kernel
theorem dX5_lay_19 : decode cX5_lay 19 = .ok (.bipush 13, 2) := by decide +kernel
theorem dX5_lay_21 : decode cX5_lay 21 = .ok (.if_icmp .ge 40, 3) := by decide +kernel
theorem dX5_lay_24 : decode cX5_lay 24 = .ok (.aload_n 1, 1) := by decide +kernel
theorem dX5_lay_25 : decode cX5_lay 25 = .ok (.iload_n 2, 1) := by decide +kernel
theorem dX5_lay_26 : decode cX5_lay 26 = .ok (.iload 5, 2) := by decide +kernel
theorem dX5_lay_28 : decode cX5_lay 28 = .ok (.invokevirtual 25, 3) := by decide +kernel
theorem dX5_lay_31 : decode cX5_lay 31 = .ok (.ifCond .eq 24, 3) := by decide +kernel
theorem dX5_lay_34 : decode cX5_lay 34 = .ok (.aload_n 0, 1) := by decide +kernel
theorem dX5_lay_35 : decode cX5_lay 35 = .ok (.getfield 11, 3) := by decide +kernel
theorem dX5_lay_38 : decode cX5_lay 38 = .ok (.aload_n 0, 1) := by decide +kernel
theorem dX5_lay_39 : decode cX5_lay 39 = .ok (.getfield 21, 3) := by decide +kernel
theorem dX5_lay_42 : decode cX5_lay 42 = .ok (.iload 5, 2) := by decide +kernel
theorem dX5_lay_44 : decode cX5_lay 44 = .ok (.iastore, 1) := by decide +kernel
theorem dX5_lay_45 : decode cX5_lay 45 = .ok (.aload_n 0, 1) := by decide +kernel
theorem dX5_lay_46 : decode cX5_lay 46 = .ok (.dup, 1) := by decide +kernel
theorem dX5_lay_47 : decode cX5_lay 47 = .ok (.getfield 21, 3) := by decide +kernel
theorem dX5_lay_50 : decode cX5_lay 50 = .ok (.iconst 1, 1) := by decide +kernel
theorem dX5_lay_51 : decode cX5_lay 51 = .ok (.iadd, 1) := by decide +kernel
theorem dX5_lay_52 : decode cX5_lay 52 = .ok (.putfield 21, 3) := by decide +kernel
theorem dX5_lay_55 : decode cX5_lay 55 = .ok (.iinc 5 1, 3) := by decide +kernel
theorem dX5_lay_58 : decode cX5_lay 58 = .ok (.goto (-50), 3) := by decide +kernel
theorem dX5_lay_61 : decode cX5_lay 61 = .ok (.aload_n 0, 1) := by decide +kernel
theorem dX5_lay_62 : decode cX5_lay 62 = .ok (.iload_n 3, 1) := by decide +kernel
theorem dX5_lay_63 : decode cX5_lay 63 = .ok (.iconst 1, 1) := by decide +kernel
theorem dX5_lay_64 : decode cX5_lay 64 = .ok (.if_icmp .le 10, 3) := by decide +kernel
theorem dX5_lay_67 : decode cX5_lay 67 = .ok (.aload_n 0, 1) := by decide +kernel
theorem dX5_lay_68 : decode cX5_lay 68 = .ok (.getfield 21, 3) := by decide +kernel
theorem dX5_lay_71 : decode cX5_lay 71 = .ok (.goto 4, 3) := by decide +kernel
theorem dX5_lay_74 : decode cX5_lay 74 = .ok (.iconst 1, 1) := by decide +kernel
theorem dX5_lay_75 : decode cX5_lay 75 = .ok (.putfield 31, 3) := by decide +kernel
theorem dX5_lay_78 : decode cX5_lay 78 = .ok (.aload_n 0, 1) := by decide +kernel
theorem dX5_lay_79 : decode cX5_lay 79 = .ok (.iload_n 3, 1) := by decide +kernel
theorem dX5_lay_80 : decode cX5_lay 80 = .ok (.iconst 2, 1) := by decide +kernel
theorem dX5_lay_81 : decode cX5_lay 81 = .ok (.if_icmp .le 10, 3) := by decide +kernel
theorem dX5_lay_84 : decode cX5_lay 84 = .ok (.aload_n 0, 1) := by decide +kernel
theorem dX5_lay_85 : decode cX5_lay 85 = .ok (.getfield 21, 3) := by decide +kernel
theorem dX5_lay_88 : decode cX5_lay 88 = .ok (.goto 4, 3) := by decide +kernel
theorem dX5_lay_91 : decode cX5_lay 91 = .ok (.iconst 1, 1) := by decide +kernel
theorem dX5_lay_92 : decode cX5_lay 92 = .ok (.putfield 34, 3) := by decide +kernel
theorem dX5_lay_95 : decode cX5_lay 95 = .ok (.aload_n 0, 1) := by decide +kernel
theorem dX5_lay_96 : decode cX5_lay 96 = .ok (.iconst 0, 1) := by decide +kernel
theorem dX5_lay_97 : decode cX5_lay 97 = .ok (.putfield 37, 3) := by decide +kernel
theorem dX5_lay_100 : decode cX5_lay 100 = .ok (.iconst 0, 1) := by decide +kernel
theorem dX5_lay_101 : decode cX5_lay 101 = .ok (.istore 5, 2) := by decide +kernel
theorem dX5_lay_103 : decode cX5_lay 103 = .ok (.iload 5, 2) := by decide +kernel
theorem dX5_lay_105 : decode cX5_lay 105 = .ok (.aload_n 0, 1) := by decide +kernel
theorem dX5_lay_106 : decode cX5_lay 106 = .ok (.getfield 21, 3) := by decide +kernel
theorem dX5_lay_109 : decode cX5_lay 109 = .ok (.if_icmp .ge 97, 3) := by decide +kernel
theorem dX5_lay_112 : decode cX5_lay 112 = .ok (.iconst 0, 1) := by decide +kernel
theorem dX5_lay_113 : decode cX5_lay 113 = .ok (.istore 6, 2) := by decide +kernel
theorem dX5_lay_115 : decode cX5_lay 115 = .ok (.iload 6, 2) := by decide +kernel
theorem dX5_lay_117 : decode cX5_lay 117 = .ok (.aload_n 0, 1) := by decide +kernel
theorem dX5_lay_118 : decode cX5_lay 118 = .ok (.getfield 31, 3) := by decide +kernel
theorem dX5_lay_121 : decode cX5_lay 121 = .ok (.if_icmp .ge 79, 3) := by decide +kernel
theorem dX5_lay_124 : decode cX5_lay 124 = .ok (.iconst 0, 1) := by decide +kernel
theorem dX5_lay_125 : decode cX5_lay 125 = .ok (.istore 7, 2) := by decide +kernel
theorem dX5_lay_127 : decode cX5_lay 127 = .ok (.iload 7, 2) := by decide +kernel
theorem dX5_lay_129 : decode cX5_lay 129 = .ok (.aload_n 0, 1) := by decide +kernel
theorem dX5_lay_130 : decode cX5_lay 130 = .ok (.getfield 34, 3) := by decide +kernel
theorem dX5_lay_133 : decode cX5_lay 133 = .ok (.if_icmp .ge 61, 3) := by decide +kernel
theorem dX5_lay_136 : decode cX5_lay 136 = .ok (.aload_n 0, 1) := by decide +kernel
theorem dX5_lay_137 : decode cX5_lay 137 = .ok (.getfield 37, 3) := by decide +kernel
theorem dX5_lay_140 : decode cX5_lay 140 = .ok (.sipush 2197, 3) := by decide +kernel
theorem dX5_lay_143 : decode cX5_lay 143 = .ok (.if_icmp .ge 51, 3) := by decide +kernel
theorem dX5_lay_146 : decode cX5_lay 146 = .ok (.aload_n 0, 1) := by decide +kernel
theorem dX5_lay_147 : decode cX5_lay 147 = .ok (.getfield 15, 3) := by decide +kernel
theorem dX5_lay_150 : decode cX5_lay 150 = .ok (.aload_n 0, 1) := by decide +kernel
theorem dX5_lay_151 : decode cX5_lay 151 = .ok (.getfield 37, 3) := by decide +kernel
theorem dX5_lay_154 : decode cX5_lay 154 = .ok (.aload_n 0, 1) := by decide +kernel
theorem dX5_lay_155 : decode cX5_lay 155 = .ok (.getfield 11, 3) := by decide +kernel
theorem dX5_lay_158 : decode cX5_lay 158 = .ok (.iload 5, 2) := by decide +kernel
theorem dX5_lay_160 : decode cX5_lay 160 = .ok (.iaload, 1) := by decide +kernel
theorem dX5_lay_161 : decode cX5_lay 161 = .ok (.aload_n 0, 1) := by decide +kernel
theorem dX5_lay_162 : decode cX5_lay 162 = .ok (.getfield 11, 3) := by decide +kernel
theorem dX5_lay_165 : decode cX5_lay 165 = .ok (.iload 6, 2) := by decide +kernel
theorem dX5_lay_167 : decode cX5_lay 167 = .ok (.iaload, 1) := by decide +kernel
theorem dX5_lay_168 : decode cX5_lay 168 = .ok (.iadd, 1) := by decide +kernel
theorem dX5_lay_169 : decode cX5_lay 169 = .ok (.aload_n 0, 1) := by decide +kernel
theorem dX5_lay_170 : decode cX5_lay 170 = .ok (.getfield 11, 3) := by decide +kernel
theorem dX5_lay_173 : decode cX5_lay 173 = .ok (.iload 7, 2) := by decide +kernel
theorem dX5_lay_175 : decode cX5_lay 175 = .ok (.iaload, 1) := by decide +kernel
theorem dX5_lay_176 : decode cX5_lay 176 = .ok (.iadd, 1) := by decide +kernel
theorem dX5_lay_177 : decode cX5_lay 177 = .ok (.iastore, 1) := by decide +kernel
theorem dX5_lay_178 : decode cX5_lay 178 = .ok (.aload_n 0, 1) := by decide +kernel
theorem dX5_lay_179 : decode cX5_lay 179 = .ok (.dup, 1) := by decide +kernel
theorem dX5_lay_180 : decode cX5_lay 180 = .ok (.getfield 37, 3) := by decide +kernel
theorem dX5_lay_183 : decode cX5_lay 183 = .ok (.iconst 1, 1) := by decide +kernel
theorem dX5_lay_184 : decode cX5_lay 184 = .ok (.iadd, 1) := by decide +kernel
theorem dX5_lay_185 : decode cX5_lay 185 = .ok (.putfield 37, 3) := by decide +kernel
theorem dX5_lay_188 : decode cX5_lay 188 = .ok (.iinc 7 1, 3) := by decide +kernel
theorem dX5_lay_191 : decode cX5_lay 191 = .ok (.goto (-64), 3) := by decide +kernel
theorem dX5_lay_194 : decode cX5_lay 194 = .ok (.iinc 6 1, 3) := by decide +kernel
theorem dX5_lay_197 : decode cX5_lay 197 = .ok (.goto (-82), 3) := by decide +kernel
theorem dX5_lay_200 : decode cX5_lay 200 = .ok (.iinc 5 1, 3) := by decide +kernel
theorem dX5_lay_203 : decode cX5_lay 203 = .ok (.goto (-100), 3) := by decide +kernel
theorem dX5_lay_206 : decode cX5_lay 206 = .ok (.return_, 1) := by decide +kernel
set_option maxRecDepth 20000 in
theorem ggX5_fewestStood_X5_sitDown : GoodIn wsX5_fewestStood wsX5_sitDown := goodIn_r _ [12, 13, 14, 15, 16, 17, 18, 11, 19, 2, 25, 26, 27, 28, 29, 30, 31] (by decide +kernel) (by decide +kernel)
set_option maxRecDepth 20000 in
theorem gX5_fewestStood_X5_sitDown : GoodIn wsX5_fewestStood (wsV RX5 41 RX5 yX5_sitDown wsX5_sitDown) := goodIn_app (goodIn_of _ (by decide +kernel)) ggX5_fewestStood_X5_sitDown
set_option maxRecDepth 20000 in
theorem ggX5_fewestStood_X5_countStanding : GoodIn wsX5_fewestStood wsX5_countStanding := goodIn_r _ [23, 1, 24, 2, 3, 25, 26, 27, 28, 29, 30, 31] (by decide +kernel) (by decide +kernel)
set_option maxRecDepth 20000 in
theorem gX5_fewestStood_X5_countStanding : GoodIn wsX5_fewestStood (wsV RX5 44 RX5 yX5_countStanding wsX5_countStanding) := goodIn_app (goodIn_of _ (by decide +kernel)) ggX5_fewestStood_X5_countStanding
theorem dX5_fewestStood_0 : decode cX5_fewestStood 0 = .ok (.iconst 0, 1) := by decide +kernel
theorem dX5_fewestStood_1 : decode cX5_fewestStood 1 = .ok (.istore_n 2, 1) := by decide +kernel
theorem dX5_fewestStood_2 : decode cX5_fewestStood 2 = .ok (.iload_n 2, 1) := by decide +kernel
theorem dX5_fewestStood_3 : decode cX5_fewestStood 3 = .ok (.aload_n 0, 1) := by decide +kernel
theorem dX5_fewestStood_4 : decode cX5_fewestStood 4 = .ok (.getfield 37, 3) := by decide +kernel
theorem dX5_fewestStood_7 : decode cX5_fewestStood 7 = .ok (.if_icmp .ge 25, 3) := by decide +kernel
theorem dX5_fewestStood_10 : decode cX5_fewestStood 10 = .ok (.aload_n 0, 1) := by decide +kernel
theorem dX5_fewestStood_11 : decode cX5_fewestStood 11 = .ok (.getfield 18, 3) := by decide +kernel
theorem dX5_fewestStood_14 : decode cX5_fewestStood 14 = .ok (.iload_n 2, 1) := by decide +kernel
theorem dX5_fewestStood_15 : decode cX5_fewestStood 15 = .ok (.iload_n 2, 1) := by decide +kernel
theorem dX5_fewestStood_16 : decode cX5_fewestStood 16 = .ok (.ifCond .ne 7, 3) := by decide +kernel
theorem dX5_fewestStood_19 : decode cX5_fewestStood 19 = .ok (.iconst 0, 1) := by decide +kernel
theorem dX5_fewestStood_20 : decode cX5_fewestStood 20 = .ok (.goto 5, 3) := by decide +kernel
theorem dX5_fewestStood_23 : decode cX5_fewestStood 23 = .ok (.ldc 40, 2) := by decide +kernel
theorem dX5_fewestStood_25 : decode cX5_fewestStood 25 = .ok (.iastore, 1) := by decide +kernel
theorem dX5_fewestStood_26 : decode cX5_fewestStood 26 = .ok (.iinc 2 1, 3) := by decide +kernel
theorem dX5_fewestStood_29 : decode cX5_fewestStood 29 = .ok (.goto (-27), 3) := by decide +kernel
theorem dX5_fewestStood_32 : decode cX5_fewestStood 32 = .ok (.iconst 1, 1) := by decide +kernel
theorem dX5_fewestStood_33 : decode cX5_fewestStood 33 = .ok (.istore_n 2, 1) := by decide +kernel
theorem dX5_fewestStood_34 : decode cX5_fewestStood 34 = .ok (.iload_n 2, 1) := by decide +kernel
theorem dX5_fewestStood_35 : decode cX5_fewestStood 35 = .ok (.iload_n 1, 1) := by decide +kernel
theorem dX5_fewestStood_36 : decode cX5_fewestStood 36 = .ok (.if_icmp .gt 18, 3) := by decide +kernel
theorem dX5_fewestStood_39 : decode cX5_fewestStood 39 = .ok (.aload_n 0, 1) := by decide +kernel
theorem dX5_fewestStood_40 : decode cX5_fewestStood 40 = .ok (.invokevirtual 41, 3) := by decide +kernel
theorem dX5_fewestStood_43 : decode cX5_fewestStood 43 = .ok (.aload_n 0, 1) := by decide +kernel
theorem dX5_fewestStood_44 : decode cX5_fewestStood 44 = .ok (.iload_n 2, 1) := by decide +kernel
theorem dX5_fewestStood_45 : decode cX5_fewestStood 45 = .ok (.invokevirtual 44, 3) := by decide +kernel
theorem dX5_fewestStood_48 : decode cX5_fewestStood 48 = .ok (.iinc 2 1, 3) := by decide +kernel
theorem dX5_fewestStood_51 : decode cX5_fewestStood 51 = .ok (.goto (-17), 3) := by decide +kernel
theorem dX5_fewestStood_54 : decode cX5_fewestStood 54 = .ok (.ldc 40, 2) := by decide +kernel
theorem dX5_fewestStood_56 : decode cX5_fewestStood 56 = .ok (.istore_n 2, 1) := by decide +kernel
theorem dX5_fewestStood_57 : decode cX5_fewestStood 57 = .ok (.iconst 0, 1) := by decide +kernel
theorem dX5_fewestStood_58 : decode cX5_fewestStood 58 = .ok (.istore_n 3, 1) := by decide +kernel
theorem dX5_fewestStood_59 : decode cX5_fewestStood 59 = .ok (.iload_n 3, 1) := by decide +kernel
theorem dX5_fewestStood_60 : decode cX5_fewestStood 60 = .ok (.aload_n 0, 1) := by decide +kernel
theorem dX5_fewestStood_61 : decode cX5_fewestStood 61 = .ok (.getfield 37, 3) := by decide +kernel
theorem dX5_fewestStood_64 : decode cX5_fewestStood 64 = .ok (.if_icmp .ge 20, 3) := by decide +kernel
theorem dX5_fewestStood_67 : decode cX5_fewestStood 67 = .ok (.iload_n 2, 1) := by decide +kernel
theorem dX5_fewestStood_68 : decode cX5_fewestStood 68 = .ok (.aload_n 0, 1) := by decide +kernel
theorem dX5_fewestStood_69 : decode cX5_fewestStood 69 = .ok (.getfield 18, 3) := by decide +kernel
theorem dX5_fewestStood_72 : decode cX5_fewestStood 72 = .ok (.iload_n 3, 1) := by decide +kernel
theorem dX5_fewestStood_73 : decode cX5_fewestStood 73 = .ok (.iaload, 1) := by decide +kernel
theorem dX5_fewestStood_74 : decode cX5_fewestStood 74 = .ok (.invokestatic 48, 3) := by decide +kernel
theorem dX5_fewestStood_77 : decode cX5_fewestStood 77 = .ok (.istore_n 2, 1) := by decide +kernel
theorem dX5_fewestStood_78 : decode cX5_fewestStood 78 = .ok (.iinc 3 1, 3) := by decide +kernel
theorem dX5_fewestStood_81 : decode cX5_fewestStood 81 = .ok (.goto (-22), 3) := by decide +kernel
theorem dX5_fewestStood_84 : decode cX5_fewestStood 84 = .ok (.iload_n 2, 1) := by decide +kernel
theorem dX5_fewestStood_85 : decode cX5_fewestStood 85 = .ok (.ireturn, 1) := by decide +kernel
set_option maxRecDepth 20000 in
theorem ggX5_sitDown_X5_improve : GoodIn wsX5_sitDown wsX5_improve := goodIn_r _ [8, 9, 10, 11, 12, 13, 14, 15, 16] (by decide +kernel) (by decide +kernel)
set_option maxRecDepth 20000 in
theorem gX5_sitDown_X5_improve : GoodIn wsX5_sitDown (wsV RX5 54 RX5 yX5_improve wsX5_improve) := goodIn_app (goodIn_of _ (by decide +kernel)) ggX5_sitDown_X5_improve
theorem dX5_sitDown_0 : decode cX5_sitDown 0 = .ok (.iconst 0, 1) := by decide +kernel
theorem dX5_sitDown_1 : decode cX5_sitDown 1 = .ok (.istore_n 1, 1) := by decide +kernel
theorem dX5_sitDown_2 : decode cX5_sitDown 2 = .ok (.iconst 0, 1) := by decide +kernel
theorem dX5_sitDown_3 : decode cX5_sitDown 3 = .ok (.istore_n 2, 1) := by decide +kernel
theorem dX5_sitDown_4 : decode cX5_sitDown 4 = .ok (.iload_n 2, 1) := by decide +kernel
theorem dX5_sitDown_5 : decode cX5_sitDown 5 = .ok (.aload_n 0, 1) := by decide +kernel
theorem dX5_sitDown_6 : decode cX5_sitDown 6 = .ok (.getfield 21, 3) := by decide +kernel
theorem dX5_sitDown_9 : decode cX5_sitDown 9 = .ok (.if_icmp .ge 106, 3) := by decide +kernel
theorem dX5_sitDown_12 : decode cX5_sitDown 12 = .ok (.iconst 0, 1) := by decide +kernel
theorem dX5_sitDown_13 : decode cX5_sitDown 13 = .ok (.istore_n 3, 1) := by decide +kernel
theorem dX5_sitDown_14 : decode cX5_sitDown 14 = .ok (.iload_n 3, 1) := by decide +kernel
theorem dX5_sitDown_15 : decode cX5_sitDown 15 = .ok (.aload_n 0, 1) := by decide +kernel
theorem dX5_sitDown_16 : decode cX5_sitDown 16 = .ok (.getfield 31, 3) := by decide +kernel
theorem dX5_sitDown_19 : decode cX5_sitDown 19 = .ok (.if_icmp .ge 90, 3) := by decide +kernel
theorem dX5_sitDown_22 : decode cX5_sitDown 22 = .ok (.iconst 0, 1) := by decide +kernel
theorem dX5_sitDown_23 : decode cX5_sitDown 23 = .ok (.istore 4, 2) := by decide +kernel
theorem dX5_sitDown_25 : decode cX5_sitDown 25 = .ok (.iload 4, 2) := by decide +kernel
theorem dX5_sitDown_27 : decode cX5_sitDown 27 = .ok (.aload_n 0, 1) := by decide +kernel
theorem dX5_sitDown_28 : decode cX5_sitDown 28 = .ok (.getfield 34, 3) := by decide +kernel
theorem dX5_sitDown_31 : decode cX5_sitDown 31 = .ok (.if_icmp .ge 72, 3) := by decide +kernel
theorem dX5_sitDown_34 : decode cX5_sitDown 34 = .ok (.aload_n 0, 1) := by decide +kernel
theorem dX5_sitDown_35 : decode cX5_sitDown 35 = .ok (.iload_n 1, 1) := by decide +kernel
theorem dX5_sitDown_36 : decode cX5_sitDown 36 = .ok (.iload_n 2, 1) := by decide +kernel
theorem dX5_sitDown_37 : decode cX5_sitDown 37 = .ok (.ifCond .le 17, 3) := by decide +kernel
theorem dX5_sitDown_40 : decode cX5_sitDown 40 = .ok (.iload_n 1, 1) := by decide +kernel
theorem dX5_sitDown_41 : decode cX5_sitDown 41 = .ok (.aload_n 0, 1) := by decide +kernel
theorem dX5_sitDown_42 : decode cX5_sitDown 42 = .ok (.getfield 31, 3) := by decide +kernel
theorem dX5_sitDown_45 : decode cX5_sitDown 45 = .ok (.aload_n 0, 1) := by decide +kernel
theorem dX5_sitDown_46 : decode cX5_sitDown 46 = .ok (.getfield 34, 3) := by decide +kernel
theorem dX5_sitDown_49 : decode cX5_sitDown 49 = .ok (.imul, 1) := by decide +kernel
theorem dX5_sitDown_50 : decode cX5_sitDown 50 = .ok (.isub, 1) := by decide +kernel
theorem dX5_sitDown_51 : decode cX5_sitDown 51 = .ok (.goto 4, 3) := by decide +kernel
theorem dX5_sitDown_54 : decode cX5_sitDown 54 = .ok (.iload_n 1, 1) := by decide +kernel
theorem dX5_sitDown_55 : decode cX5_sitDown 55 = .ok (.invokevirtual 54, 3) := by decide +kernel
theorem dX5_sitDown_58 : decode cX5_sitDown 58 = .ok (.aload_n 0, 1) := by decide +kernel
theorem dX5_sitDown_59 : decode cX5_sitDown 59 = .ok (.iload_n 1, 1) := by decide +kernel
theorem dX5_sitDown_60 : decode cX5_sitDown 60 = .ok (.iload_n 3, 1) := by decide +kernel
theorem dX5_sitDown_61 : decode cX5_sitDown 61 = .ok (.ifCond .le 12, 3) := by decide +kernel
theorem dX5_sitDown_64 : decode cX5_sitDown 64 = .ok (.iload_n 1, 1) := by decide +kernel
theorem dX5_sitDown_65 : decode cX5_sitDown 65 = .ok (.aload_n 0, 1) := by decide +kernel
theorem dX5_sitDown_66 : decode cX5_sitDown 66 = .ok (.getfield 34, 3) := by decide +kernel
theorem dX5_sitDown_69 : decode cX5_sitDown 69 = .ok (.isub, 1) := by decide +kernel
theorem dX5_sitDown_70 : decode cX5_sitDown 70 = .ok (.goto 4, 3) := by decide +kernel
theorem dX5_sitDown_73 : decode cX5_sitDown 73 = .ok (.iload_n 1, 1) := by decide +kernel
theorem dX5_sitDown_74 : decode cX5_sitDown 74 = .ok (.invokevirtual 54, 3) := by decide +kernel
theorem dX5_sitDown_77 : decode cX5_sitDown 77 = .ok (.aload_n 0, 1) := by decide +kernel
theorem dX5_sitDown_78 : decode cX5_sitDown 78 = .ok (.iload_n 1, 1) := by decide +kernel
theorem dX5_sitDown_79 : decode cX5_sitDown 79 = .ok (.iload 4, 2) := by decide +kernel
theorem dX5_sitDown_81 : decode cX5_sitDown 81 = .ok (.ifCond .le 9, 3) := by decide +kernel
theorem dX5_sitDown_84 : decode cX5_sitDown 84 = .ok (.iload_n 1, 1) := by decide +kernel
theorem dX5_sitDown_85 : decode cX5_sitDown 85 = .ok (.iconst 1, 1) := by decide +kernel
theorem dX5_sitDown_86 : decode cX5_sitDown 86 = .ok (.isub, 1) := by decide +kernel
theorem dX5_sitDown_87 : decode cX5_sitDown 87 = .ok (.goto 4, 3) := by decide +kernel
theorem dX5_sitDown_90 : decode cX5_sitDown 90 = .ok (.iload_n 1, 1) := by decide +kernel
theorem dX5_sitDown_91 : decode cX5_sitDown 91 = .ok (.invokevirtual 54, 3) := by decide +kernel
theorem dX5_sitDown_94 : decode cX5_sitDown 94 = .ok (.iinc 1 1, 3) := by decide +kernel
theorem dX5_sitDown_97 : decode cX5_sitDown 97 = .ok (.iinc 4 1, 3) := by decide +kernel
theorem dX5_sitDown_100 : decode cX5_sitDown 100 = .ok (.goto (-75), 3) := by decide +kernel
theorem dX5_sitDown_103 : decode cX5_sitDown 103 = .ok (.iinc 3 1, 3) := by decide +kernel
theorem dX5_sitDown_106 : decode cX5_sitDown 106 = .ok (.goto (-92), 3) := by decide +kernel
theorem dX5_sitDown_109 : decode cX5_sitDown 109 = .ok (.iinc 2 1, 3) := by decide +kernel
theorem dX5_sitDown_112 : decode cX5_sitDown 112 = .ok (.goto (-108), 3) := by decide +kernel
theorem dX5_sitDown_115 : decode cX5_sitDown 115 = .ok (.return_, 1) := by decide +kernel
theorem dX5_improve_0 : decode cX5_improve 0 = .ok (.iload_n 2, 1) := by decide +kernel
theorem dX5_improve_1 : decode cX5_improve 1 = .ok (.ifCond .lt 37, 3) := by decide +kernel
theorem dX5_improve_4 : decode cX5_improve 4 = .ok (.iload_n 1, 1) := by decide +kernel
theorem dX5_improve_5 : decode cX5_improve 5 = .ok (.sipush 2197, 3) := by decide +kernel
theorem dX5_improve_8 : decode cX5_improve 8 = .ok (.if_icmp .ge 30, 3) := by decide +kernel
theorem dX5_improve_11 : decode cX5_improve 11 = .ok (.aload_n 0, 1) := by decide +kernel
theorem dX5_improve_12 : decode cX5_improve 12 = .ok (.getfield 18, 3) := by decide +kernel
theorem dX5_improve_15 : decode cX5_improve 15 = .ok (.iload_n 2, 1) := by decide +kernel
theorem dX5_improve_16 : decode cX5_improve 16 = .ok (.iaload, 1) := by decide +kernel
theorem dX5_improve_17 : decode cX5_improve 17 = .ok (.aload_n 0, 1) := by decide +kernel
theorem dX5_improve_18 : decode cX5_improve 18 = .ok (.getfield 18, 3) := by decide +kernel
theorem dX5_improve_21 : decode cX5_improve 21 = .ok (.iload_n 1, 1) := by decide +kernel
theorem dX5_improve_22 : decode cX5_improve 22 = .ok (.iaload, 1) := by decide +kernel
theorem dX5_improve_23 : decode cX5_improve 23 = .ok (.if_icmp .ge 15, 3) := by decide +kernel
theorem dX5_improve_26 : decode cX5_improve 26 = .ok (.aload_n 0, 1) := by decide +kernel
theorem dX5_improve_27 : decode cX5_improve 27 = .ok (.getfield 18, 3) := by decide +kernel
theorem dX5_improve_30 : decode cX5_improve 30 = .ok (.iload_n 1, 1) := by decide +kernel
theorem dX5_improve_31 : decode cX5_improve 31 = .ok (.aload_n 0, 1) := by decide +kernel
theorem dX5_improve_32 : decode cX5_improve 32 = .ok (.getfield 18, 3) := by decide +kernel
theorem dX5_improve_35 : decode cX5_improve 35 = .ok (.iload_n 2, 1) := by decide +kernel
theorem dX5_improve_36 : decode cX5_improve 36 = .ok (.iaload, 1) := by decide +kernel
theorem dX5_improve_37 : decode cX5_improve 37 = .ok (.iastore, 1) := by decide +kernel
theorem dX5_improve_38 : decode cX5_improve 38 = .ok (.return_, 1) := by decide +kernel
theorem dX5_countStanding_0 : decode cX5_countStanding 0 = .ok (.iconst 0, 1) := by decide +kernel
theorem dX5_countStanding_1 : decode cX5_countStanding 1 = .ok (.istore_n 2, 1) := by decide +kernel
theorem dX5_countStanding_2 : decode cX5_countStanding 2 = .ok (.iload_n 2, 1) := by decide +kernel
theorem dX5_countStanding_3 : decode cX5_countStanding 3 = .ok (.aload_n 0, 1) := by decide +kernel
theorem dX5_countStanding_4 : decode cX5_countStanding 4 = .ok (.getfield 37, 3) := by decide +kernel
theorem dX5_countStanding_7 : decode cX5_countStanding 7 = .ok (.if_icmp .ge 41, 3) := by decide +kernel
theorem dX5_countStanding_10 : decode cX5_countStanding 10 = .ok (.iload_n 1, 1) := by decide +kernel
theorem dX5_countStanding_11 : decode cX5_countStanding 11 = .ok (.aload_n 0, 1) := by decide +kernel
theorem dX5_countStanding_12 : decode cX5_countStanding 12 = .ok (.getfield 15, 3) := by decide +kernel
theorem dX5_countStanding_15 : decode cX5_countStanding 15 = .ok (.iload_n 2, 1) := by decide +kernel
theorem dX5_countStanding_16 : decode cX5_countStanding 16 = .ok (.iaload, 1) := by decide +kernel
theorem dX5_countStanding_17 : decode cX5_countStanding 17 = .ok (.isub, 1) := by decide +kernel
theorem dX5_countStanding_18 : decode cX5_countStanding 18 = .ok (.istore_n 3, 1) := by decide +kernel
theorem dX5_countStanding_19 : decode cX5_countStanding 19 = .ok (.aload_n 0, 1) := by decide +kernel
theorem dX5_countStanding_20 : decode cX5_countStanding 20 = .ok (.getfield 18, 3) := by decide +kernel
theorem dX5_countStanding_23 : decode cX5_countStanding 23 = .ok (.iload_n 2, 1) := by decide +kernel
theorem dX5_countStanding_24 : decode cX5_countStanding 24 = .ok (.iload_n 3, 1) := by decide +kernel
theorem dX5_countStanding_25 : decode cX5_countStanding 25 = .ok (.ifCond .ge 8, 3) := by decide +kernel
theorem dX5_countStanding_28 : decode cX5_countStanding 28 = .ok (.ldc 40, 2) := by decide +kernel
theorem dX5_countStanding_30 : decode cX5_countStanding 30 = .ok (.goto 11, 3) := by decide +kernel
theorem dX5_countStanding_33 : decode cX5_countStanding 33 = .ok (.aload_n 0, 1) := by decide +kernel
theorem dX5_countStanding_34 : decode cX5_countStanding 34 = .ok (.getfield 18, 3) := by decide +kernel
theorem dX5_countStanding_37 : decode cX5_countStanding 37 = .ok (.iload_n 2, 1) := by decide +kernel
theorem dX5_countStanding_38 : decode cX5_countStanding 38 = .ok (.iaload, 1) := by decide +kernel
theorem dX5_countStanding_39 : decode cX5_countStanding 39 = .ok (.iload_n 3, 1) := by decide +kernel
theorem dX5_countStanding_40 : decode cX5_countStanding 40 = .ok (.iadd, 1) := by decide +kernel
theorem dX5_countStanding_41 : decode cX5_countStanding 41 = .ok (.iastore, 1) := by decide +kernel
theorem dX5_countStanding_42 : decode cX5_countStanding 42 = .ok (.iinc 2 1, 3) := by decide +kernel
theorem dX5_countStanding_45 : decode cX5_countStanding 45 = .ok (.goto (-43), 3) := by decide +kernel
theorem dX5_countStanding_48 : decode cX5_countStanding 48 = .ok (.return_, 1) := by decide +kernel
theorem dX5_fewestLeft_0 : decode cX5_fewestLeft 0 = .ok (.iload_n 1, 1) := by decide +kernel
theorem dX5_fewestLeft_1 : decode cX5_fewestLeft 1 = .ok (.istore_n 2, 1) := by decide +kernel
theorem dX5_fewestLeft_2 : decode cX5_fewestLeft 2 = .ok (.iconst 0, 1) := by decide +kernel
theorem dX5_fewestLeft_3 : decode cX5_fewestLeft 3 = .ok (.istore_n 3, 1) := by decide +kernel
theorem dX5_fewestLeft_4 : decode cX5_fewestLeft 4 = .ok (.iload_n 3, 1) := by decide +kernel
theorem dX5_fewestLeft_5 : decode cX5_fewestLeft 5 = .ok (.aload_n 0, 1) := by decide +kernel
theorem dX5_fewestLeft_6 : decode cX5_fewestLeft 6 = .ok (.getfield 37, 3) := by decide +kernel
theorem dX5_fewestLeft_9 : decode cX5_fewestLeft 9 = .ok (.if_icmp .ge 35, 3) := by decide +kernel
theorem dX5_fewestLeft_12 : decode cX5_fewestLeft 12 = .ok (.iload_n 1, 1) := by decide +kernel
theorem dX5_fewestLeft_13 : decode cX5_fewestLeft 13 = .ok (.aload_n 0, 1) := by decide +kernel
theorem dX5_fewestLeft_14 : decode cX5_fewestLeft 14 = .ok (.getfield 15, 3) := by decide +kernel
theorem dX5_fewestLeft_17 : decode cX5_fewestLeft 17 = .ok (.iload_n 3, 1) := by decide +kernel
theorem dX5_fewestLeft_18 : decode cX5_fewestLeft 18 = .ok (.iaload, 1) := by decide +kernel
theorem dX5_fewestLeft_19 : decode cX5_fewestLeft 19 = .ok (.isub, 1) := by decide +kernel
theorem dX5_fewestLeft_20 : decode cX5_fewestLeft 20 = .ok (.istore 4, 2) := by decide +kernel
theorem dX5_fewestLeft_22 : decode cX5_fewestLeft 22 = .ok (.iload 4, 2) := by decide +kernel
theorem dX5_fewestLeft_24 : decode cX5_fewestLeft 24 = .ok (.ifCond .lt 12, 3) := by decide +kernel
theorem dX5_fewestLeft_27 : decode cX5_fewestLeft 27 = .ok (.iload_n 2, 1) := by decide +kernel
theorem dX5_fewestLeft_28 : decode cX5_fewestLeft 28 = .ok (.iload 4, 2) := by decide +kernel
theorem dX5_fewestLeft_30 : decode cX5_fewestLeft 30 = .ok (.invokestatic 48, 3) := by decide +kernel
theorem dX5_fewestLeft_33 : decode cX5_fewestLeft 33 = .ok (.goto 4, 3) := by decide +kernel
theorem dX5_fewestLeft_36 : decode cX5_fewestLeft 36 = .ok (.iload_n 2, 1) := by decide +kernel
theorem dX5_fewestLeft_37 : decode cX5_fewestLeft 37 = .ok (.istore_n 2, 1) := by decide +kernel
theorem dX5_fewestLeft_38 : decode cX5_fewestLeft 38 = .ok (.iinc 3 1, 3) := by decide +kernel
theorem dX5_fewestLeft_41 : decode cX5_fewestLeft 41 = .ok (.goto (-37), 3) := by decide +kernel
theorem dX5_fewestLeft_44 : decode cX5_fewestLeft 44 = .ok (.iload_n 2, 1) := by decide +kernel
theorem dX5_fewestLeft_45 : decode cX5_fewestLeft 45 = .ok (.ireturn, 1) := by decide +kernel
theorem dX6_init_0 : decode cX6_init 0 = .ok (.aload_n 0, 1) := by decide +kernel
theorem dX6_init_1 : decode cX6_init 1 = .ok (.invokespecial 5, 3) := by decide +kernel
theorem dX6_init_4 : decode cX6_init 4 = .ok (.aload_n 0, 1) := by decide +kernel
theorem dX6_init_5 : decode cX6_init 5 = .ok (.sipush 256, 3) := by decide +kernel
theorem dX6_init_8 : decode cX6_init 8 = .ok (.newarray .int, 2) := by decide +kernel
theorem dX6_init_10 : decode cX6_init 10 = .ok (.putfield 11, 3) := by decide +kernel
theorem dX6_init_13 : decode cX6_init 13 = .ok (.aload_n 0, 1) := by decide +kernel
theorem dX6_init_14 : decode cX6_init 14 = .ok (.sipush 256, 3) := by decide +kernel
theorem dX6_init_17 : decode cX6_init 17 = .ok (.newarray .boolean, 2) := by decide +kernel
theorem dX6_init_19 : decode cX6_init 19 = .ok (.putfield 15, 3) := by decide +kernel
theorem dX6_init_22 : decode cX6_init 22 = .ok (.aload_n 0, 1) := by decide +kernel
theorem dX6_init_23 : decode cX6_init 23 = .ok (.sipush 256, 3) := by decide +kernel
theorem dX6_init_26 : decode cX6_init 26 = .ok (.newarray .int, 2) := by decide +kernel
theorem dX6_init_28 : decode cX6_init 28 = .ok (.putfield 19, 3) := by decide +kernel
theorem dX6_init_31 : decode cX6_init 31 = .ok (.aload_n 0, 1) := by decide +kernel
theorem dX6_init_32 : decode cX6_init 32 = .ok (.sipush 256, 3) := by decide +kernel
theorem dX6_init_35 : decode cX6_init 35 = .ok (.newarray .int, 2) := by decide +kernel
theorem dX6_init_37 : decode cX6_init 37 = .ok (.putfield 22, 3) := by decide +kernel
theorem dX6_init_40 : decode cX6_init 40 = .ok (.aload_n 0, 1) := by decide +kernel
theorem dX6_init_41 : decode cX6_init 41 = .ok (.sipush 256, 3) := by decide +kernel
theorem dX6_init_44 : decode cX6_init 44 = .ok (.newarray .int, 2) := by decide +kernel
theorem dX6_init_46 : decode cX6_init 46 = .ok (.putfield 25, 3) := by decide +kernel
theorem dX6_init_49 : decode cX6_init 49 = .ok (.return_, 1) := by decide +kernel
set_option maxRecDepth 20000 in
theorem ggX6_partKnots_X6_addUp : GoodIn wsX6_partKnots wsX6_addUp := goodIn_r _ [9, 10, 11, 12, 13, 2, 4, 14, 15, 16, 17, 18, 19, 20, 21, 22, 23, 24, 70, 71, 72, 73, 74, 75, 76, 77] (by decide +kernel) (by decide +kernel)
set_option maxRecDepth 20000 in
theorem gX6_partKnots_X6_addUp : GoodIn wsX6_partKnots (wsV RX6 34 RX6 yX6_addUp wsX6_addUp) := goodIn_app (goodIn_of _ (by decide +kernel)) ggX6_partKnots_X6_addUp
set_option maxRecDepth 20000 in
theorem ggX6_partKnots_X1_fits : GoodIn wsX6_partKnots wsX1_fits := goodIn_r _ [29, 30, 31, 32, 33, 34, 35, 28, 36, 37, 38, 39, 60, 61, 62, 63, 64, 65, 66, 67, 68, 69] (by decide +kernel) (by decide +kernel)
set_option maxRecDepth 20000 in
theorem gX6_partKnots_X1_fits : GoodIn wsX6_partKnots (wsV RX6 42 RX1 yX1_fits wsX1_fits) := goodIn_app (goodIn_of _ (by decide +kernel)) ggX6_partKnots_X1_fits
set_option maxRecDepth 20000 in
theorem ggX6_partKnots_X6_isAsCounted : GoodIn wsX6_partKnots wsX6_isAsCounted := goodIn_r _ [43, 44, 4, 45, 14, 15, 16, 17, 18, 19, 20, 21, 22, 23, 24, 60, 61, 62, 63, 64, 65, 66, 67, 68, 69, 70, 71, 72, 73, 74, 75, 76, 77] (by decide +kernel) (by decide +kernel)
set_option maxRecDepth 20000 in
theorem gX6_partKnots_X6_isAsCounted : GoodIn wsX6_partKnots (wsV RX6 45 RX6 yX6_isAsCounted wsX6_isAsCounted) := goodIn_app (goodIn_of _ (by decide +kernel)) ggX6_partKnots_X6_isAsCounted
set_option maxRecDepth 20000 in
theorem ggX6_partKnots_X6_solve : GoodIn wsX6_partKnots wsX6_solve := goodIn_r _ [49, 50, 51, 52, 2, 3, 53, 54, 55, 8, 56, 57, 58, 12, 59, 70, 71, 72, 73, 74, 75] (by decide +kernel) (by decide +kernel)
set_option maxRecDepth 20000 in
theorem gX6_partKnots_X6_solve : GoodIn wsX6_partKnots (wsV RX6 49 RX6 yX6_solve wsX6_solve) := goodIn_app (goodIn_of _ (by decide +kernel)) ggX6_partKnots_X6_solve
theorem dX6_partKnots_0 : decode cX6_partKnots 0 = .ok (.aload_n 0, 1) := by decide +kernel
theorem dX6_partKnots_1 : decode cX6_partKnots 1 = .ok (.aload_n 1, 1) := by decide +kernel
theorem dX6_partKnots_2 : decode cX6_partKnots 2 = .ok (.getfield 28, 3) := by decide +kernel
theorem dX6_partKnots_5 : decode cX6_partKnots 5 = .ok (.invokevirtual 34, 3) := by decide +kernel
theorem dX6_partKnots_8 : decode cX6_partKnots 8 = .ok (.iconst 1, 1) := by decide +kernel
theorem dX6_partKnots_9 : decode cX6_partKnots 9 = .ok (.istore_n 3, 1) := by decide +kernel
theorem dX6_partKnots_10 : decode cX6_partKnots 10 = .ok (.iload_n 3, 1) := by decide +kernel
theorem dX6_partKnots_11 : decode cX6_partKnots 11 = .ok (.iconst 1, 1) := by decide +kernel
theorem dX6_partKnots_12 : decode cX6_partKnots 12 = .ok (.aload_n 0, 1) := by decide +kernel
theorem dX6_partKnots_13 : decode cX6_partKnots 13 = .ok (.getfield 38, 3) := by decide +kernel
theorem dX6_partKnots_16 : decode cX6_partKnots 16 = .ok (.ishl, 1) := by decide +kernel
theorem dX6_partKnots_17 : decode cX6_partKnots 17 = .ok (.if_icmp .ge 43, 3) := by decide +kernel
theorem dX6_partKnots_20 : decode cX6_partKnots 20 = .ok (.aload_n 0, 1) := by decide +kernel
theorem dX6_partKnots_21 : decode cX6_partKnots 21 = .ok (.getfield 15, 3) := by decide +kernel
theorem dX6_partKnots_24 : decode cX6_partKnots 24 = .ok (.iload_n 3, 1) := by decide +kernel
theorem dX6_partKnots_25 : decode cX6_partKnots 25 = .ok (.aload_n 1, 1) := by decide +kernel
theorem dX6_partKnots_26 : decode cX6_partKnots 26 = .ok (.iload_n 2, 1) := by decide +kernel
theorem dX6_partKnots_27 : decode cX6_partKnots 27 = .ok (.aload_n 0, 1) := by decide +kernel
theorem dX6_partKnots_28 : decode cX6_partKnots 28 = .ok (.getfield 11, 3) := by decide +kernel
theorem dX6_partKnots_31 : decode cX6_partKnots 31 = .ok (.iload_n 3, 1) := by decide +kernel
theorem dX6_partKnots_32 : decode cX6_partKnots 32 = .ok (.iaload, 1) := by decide +kernel
theorem dX6_partKnots_33 : decode cX6_partKnots 33 = .ok (.invokevirtual 42, 3) := by decide +kernel
theorem dX6_partKnots_36 : decode cX6_partKnots 36 = .ok (.ifCond .eq 16, 3) := by decide +kernel
theorem dX6_partKnots_39 : decode cX6_partKnots 39 = .ok (.aload_n 0, 1) := by decide +kernel
theorem dX6_partKnots_40 : decode cX6_partKnots 40 = .ok (.aload_n 1, 1) := by decide +kernel
theorem dX6_partKnots_41 : decode cX6_partKnots 41 = .ok (.iload_n 3, 1) := by decide +kernel
theorem dX6_partKnots_42 : decode cX6_partKnots 42 = .ok (.invokevirtual 45, 3) := by decide +kernel
theorem dX6_partKnots_45 : decode cX6_partKnots 45 = .ok (.ifCond .eq 7, 3) := by decide +kernel
theorem dX6_partKnots_48 : decode cX6_partKnots 48 = .ok (.iconst 1, 1) := by decide +kernel
theorem dX6_partKnots_49 : decode cX6_partKnots 49 = .ok (.goto 4, 3) := by decide +kernel
theorem dX6_partKnots_52 : decode cX6_partKnots 52 = .ok (.iconst 0, 1) := by decide +kernel
theorem dX6_partKnots_53 : decode cX6_partKnots 53 = .ok (.bastore, 1) := by decide +kernel
theorem dX6_partKnots_54 : decode cX6_partKnots 54 = .ok (.iinc 3 1, 3) := by decide +kernel
theorem dX6_partKnots_57 : decode cX6_partKnots 57 = .ok (.goto (-47), 3) := by decide +kernel
theorem dX6_partKnots_60 : decode cX6_partKnots 60 = .ok (.aload_n 0, 1) := by decide +kernel
theorem dX6_partKnots_61 : decode cX6_partKnots 61 = .ok (.invokevirtual 49, 3) := by decide +kernel
theorem dX6_partKnots_64 : decode cX6_partKnots 64 = .ok (.return_, 1) := by decide +kernel
set_option maxRecDepth 20000 in
theorem ggX6_isAsCounted_X7_size : GoodIn wsX6_isAsCounted wsX7_size := goodIn_r _ [8, 9, 31, 32] (by decide +kernel) (by decide +kernel)
set_option maxRecDepth 20000 in
theorem gX6_isAsCounted_X7_size : GoodIn wsX6_isAsCounted (wsV RX6 55 RX7 yX7_size wsX7_size) := goodIn_app (goodIn_of _ (by decide +kernel)) ggX6_isAsCounted_X7_size
set_option maxRecDepth 20000 in
theorem ggX6_isAsCounted_X7_get : GoodIn wsX6_isAsCounted wsX7_get := goodIn_r _ [13, 9, 14, 31, 32] (by decide +kernel) (by decide +kernel)
set_option maxRecDepth 20000 in
theorem gX6_isAsCounted_X7_get : GoodIn wsX6_isAsCounted (wsV RX6 61 RX7 yX7_get wsX7_get) := goodIn_app (goodIn_of _ (by decide +kernel)) ggX6_isAsCounted_X7_get
theorem dX6_isAsCounted_0 : decode cX6_isAsCounted 0 = .ok (.iconst 0, 1) := by decide +kernel
theorem dX6_isAsCounted_1 : decode cX6_isAsCounted 1 = .ok (.istore_n 3, 1) := by decide +kernel
theorem dX6_isAsCounted_2 : decode cX6_isAsCounted 2 = .ok (.iload_n 3, 1) := by decide +kernel
theorem dX6_isAsCounted_3 : decode cX6_isAsCounted 3 = .ok (.aload_n 1, 1) := by decide +kernel
theorem dX6_isAsCounted_4 : decode cX6_isAsCounted 4 = .ok (.getfield 52, 3) := by decide +kernel
theorem dX6_isAsCounted_7 : decode cX6_isAsCounted 7 = .ok (.invokevirtual 55, 3) := by decide +kernel
theorem dX6_isAsCounted_10 : decode cX6_isAsCounted 10 = .ok (.if_icmp .ge 56, 3) := by decide +kernel
theorem dX6_isAsCounted_13 : decode cX6_isAsCounted 13 = .ok (.iload_n 2, 1) := by decide +kernel
theorem dX6_isAsCounted_14 : decode cX6_isAsCounted 14 = .ok (.aload_n 1, 1) := by decide +kernel
theorem dX6_isAsCounted_15 : decode cX6_isAsCounted 15 = .ok (.getfield 52, 3) := by decide +kernel
theorem dX6_isAsCounted_18 : decode cX6_isAsCounted 18 = .ok (.iload_n 3, 1) := by decide +kernel
theorem dX6_isAsCounted_19 : decode cX6_isAsCounted 19 = .ok (.invokevirtual 61, 3) := by decide +kernel
theorem dX6_isAsCounted_22 : decode cX6_isAsCounted 22 = .ok (.ishr, 1) := by decide +kernel
theorem dX6_isAsCounted_23 : decode cX6_isAsCounted 23 = .ok (.iconst 1, 1) := by decide +kernel
theorem dX6_isAsCounted_24 : decode cX6_isAsCounted 24 = .ok (.iand, 1) := by decide +kernel
theorem dX6_isAsCounted_25 : decode cX6_isAsCounted 25 = .ok (.iconst 1, 1) := by decide +kernel
theorem dX6_isAsCounted_26 : decode cX6_isAsCounted 26 = .ok (.if_icmp .ne 7, 3) := by decide +kernel
theorem dX6_isAsCounted_29 : decode cX6_isAsCounted 29 = .ok (.iconst 1, 1) := by decide +kernel
theorem dX6_isAsCounted_30 : decode cX6_isAsCounted 30 = .ok (.goto 4, 3) := by decide +kernel
theorem dX6_isAsCounted_33 : decode cX6_isAsCounted 33 = .ok (.iconst 0, 1) := by decide +kernel
theorem dX6_isAsCounted_34 : decode cX6_isAsCounted 34 = .ok (.istore 4, 2) := by decide +kernel
theorem dX6_isAsCounted_36 : decode cX6_isAsCounted 36 = .ok (.iload 4, 2) := by decide +kernel
theorem dX6_isAsCounted_38 : decode cX6_isAsCounted 38 = .ok (.ifCond .eq 22, 3) := by decide +kernel
theorem dX6_isAsCounted_41 : decode cX6_isAsCounted 41 = .ok (.aload_n 0, 1) := by decide +kernel
theorem dX6_isAsCounted_42 : decode cX6_isAsCounted 42 = .ok (.getfield 11, 3) := by decide +kernel
theorem dX6_isAsCounted_45 : decode cX6_isAsCounted 45 = .ok (.iload_n 2, 1) := by decide +kernel
theorem dX6_isAsCounted_46 : decode cX6_isAsCounted 46 = .ok (.iaload, 1) := by decide +kernel
theorem dX6_isAsCounted_47 : decode cX6_isAsCounted 47 = .ok (.aload_n 1, 1) := by decide +kernel
theorem dX6_isAsCounted_48 : decode cX6_isAsCounted 48 = .ok (.getfield 65, 3) := by decide +kernel
theorem dX6_isAsCounted_51 : decode cX6_isAsCounted 51 = .ok (.iload_n 3, 1) := by decide +kernel
theorem dX6_isAsCounted_52 : decode cX6_isAsCounted 52 = .ok (.invokevirtual 61, 3) := by decide +kernel
theorem dX6_isAsCounted_55 : decode cX6_isAsCounted 55 = .ok (.if_icmp .eq 5, 3) := by decide +kernel
theorem dX6_isAsCounted_58 : decode cX6_isAsCounted 58 = .ok (.iconst 0, 1) := by decide +kernel
theorem dX6_isAsCounted_59 : decode cX6_isAsCounted 59 = .ok (.ireturn, 1) := by decide +kernel
theorem dX6_isAsCounted_60 : decode cX6_isAsCounted 60 = .ok (.iinc 3 1, 3) := by decide +kernel
theorem dX6_isAsCounted_63 : decode cX6_isAsCounted 63 = .ok (.goto (-61), 3) := by decide +kernel
theorem dX6_isAsCounted_66 : decode cX6_isAsCounted 66 = .ok (.iconst 1, 1) := by decide +kernel
theorem dX6_isAsCounted_67 : decode cX6_isAsCounted 67 = .ok (.ireturn, 1) := by decide +kernel
set_option maxRecDepth 20000 in
theorem ggX6_partCompanies_X6_addUp : GoodIn wsX6_partCompanies wsX6_addUp := goodIn_r _ [11, 12, 13, 14, 15, 2, 3, 16, 17, 18, 19, 20, 21, 22, 23, 24, 25, 26, 66, 67, 68, 69, 70, 71, 72, 73] (by decide +kernel) (by decide +kernel)
set_option maxRecDepth 20000 in
theorem gX6_partCompanies_X6_addUp : GoodIn wsX6_partCompanies (wsV RX6 34 RX6 yX6_addUp wsX6_addUp) := goodIn_app (goodIn_of _ (by decide +kernel)) ggX6_partCompanies_X6_addUp
set_option maxRecDepth 20000 in
theorem ggX6_partCompanies_X1_fits : GoodIn wsX6_partCompanies wsX1_fits := goodIn_r _ [31, 32, 33, 34, 35, 36, 37, 30, 38, 39, 40, 41, 56, 57, 58, 59, 60, 61, 62, 63, 64, 65] (by decide +kernel) (by decide +kernel)
set_option maxRecDepth 20000 in
theorem gX6_partCompanies_X1_fits : GoodIn wsX6_partCompanies (wsV RX6 42 RX1 yX1_fits wsX1_fits) := goodIn_app (goodIn_of _ (by decide +kernel)) ggX6_partCompanies_X1_fits
set_option maxRecDepth 20000 in
theorem ggX6_partCompanies_X6_solve : GoodIn wsX6_partCompanies wsX6_solve := goodIn_r _ [45, 46, 47, 48, 2, 5, 49, 50, 51, 10, 52, 53, 54, 14, 55, 66, 67, 68, 69, 70, 71] (by decide +kernel) (by decide +kernel)
set_option maxRecDepth 20000 in
theorem gX6_partCompanies_X6_solve : GoodIn wsX6_partCompanies (wsV RX6 49 RX6 yX6_solve wsX6_solve) := goodIn_app (goodIn_of _ (by decide +kernel)) ggX6_partCompanies_X6_solve
theorem dX6_partCompanies_0 : decode cX6_partCompanies 0 = .ok (.aload_n 0, 1) := by decide +kernel
theorem dX6_partCompanies_1 : decode cX6_partCompanies 1 = .ok (.aload_n 1, 1) := by decide +kernel
theorem dX6_partCompanies_2 : decode cX6_partCompanies 2 = .ok (.getfield 68, 3) := by decide +kernel
theorem dX6_partCompanies_5 : decode cX6_partCompanies 5 = .ok (.invokevirtual 34, 3) := by decide +kernel
theorem dX6_partCompanies_8 : decode cX6_partCompanies 8 = .ok (.iconst 1, 1) := by decide +kernel
theorem dX6_partCompanies_9 : decode cX6_partCompanies 9 = .ok (.istore_n 3, 1) := by decide +kernel
theorem dX6_partCompanies_10 : decode cX6_partCompanies 10 = .ok (.iload_n 3, 1) := by decide +kernel
theorem dX6_partCompanies_11 : decode cX6_partCompanies 11 = .ok (.iconst 1, 1) := by decide +kernel
theorem dX6_partCompanies_12 : decode cX6_partCompanies 12 = .ok (.aload_n 0, 1) := by decide +kernel
theorem dX6_partCompanies_13 : decode cX6_partCompanies 13 = .ok (.getfield 38, 3) := by decide +kernel
theorem dX6_partCompanies_16 : decode cX6_partCompanies 16 = .ok (.ishl, 1) := by decide +kernel
theorem dX6_partCompanies_17 : decode cX6_partCompanies 17 = .ok (.if_icmp .ge 52, 3) := by decide +kernel
theorem dX6_partCompanies_20 : decode cX6_partCompanies 20 = .ok (.aload_n 0, 1) := by decide +kernel
theorem dX6_partCompanies_21 : decode cX6_partCompanies 21 = .ok (.getfield 11, 3) := by decide +kernel
theorem dX6_partCompanies_24 : decode cX6_partCompanies 24 = .ok (.iload_n 3, 1) := by decide +kernel
theorem dX6_partCompanies_25 : decode cX6_partCompanies 25 = .ok (.iaload, 1) := by decide +kernel
theorem dX6_partCompanies_26 : decode cX6_partCompanies 26 = .ok (.aload_n 1, 1) := by decide +kernel
theorem dX6_partCompanies_27 : decode cX6_partCompanies 27 = .ok (.getfield 71, 3) := by decide +kernel
theorem dX6_partCompanies_30 : decode cX6_partCompanies 30 = .ok (.iadd, 1) := by decide +kernel
theorem dX6_partCompanies_31 : decode cX6_partCompanies 31 = .ok (.istore 4, 2) := by decide +kernel
theorem dX6_partCompanies_33 : decode cX6_partCompanies 33 = .ok (.aload_n 0, 1) := by decide +kernel
theorem dX6_partCompanies_34 : decode cX6_partCompanies 34 = .ok (.getfield 15, 3) := by decide +kernel
theorem dX6_partCompanies_37 : decode cX6_partCompanies 37 = .ok (.iload_n 3, 1) := by decide +kernel
theorem dX6_partCompanies_38 : decode cX6_partCompanies 38 = .ok (.iload 4, 2) := by decide +kernel
theorem dX6_partCompanies_40 : decode cX6_partCompanies 40 = .ok (.aload_n 1, 1) := by decide +kernel
theorem dX6_partCompanies_41 : decode cX6_partCompanies 41 = .ok (.getfield 74, 3) := by decide +kernel
theorem dX6_partCompanies_44 : decode cX6_partCompanies 44 = .ok (.if_icmp .gt 17, 3) := by decide +kernel
theorem dX6_partCompanies_47 : decode cX6_partCompanies 47 = .ok (.aload_n 1, 1) := by decide +kernel
theorem dX6_partCompanies_48 : decode cX6_partCompanies 48 = .ok (.iload_n 2, 1) := by decide +kernel
theorem dX6_partCompanies_49 : decode cX6_partCompanies 49 = .ok (.iload 4, 2) := by decide +kernel
theorem dX6_partCompanies_51 : decode cX6_partCompanies 51 = .ok (.invokevirtual 42, 3) := by decide +kernel
theorem dX6_partCompanies_54 : decode cX6_partCompanies 54 = .ok (.ifCond .eq 7, 3) := by decide +kernel
theorem dX6_partCompanies_57 : decode cX6_partCompanies 57 = .ok (.iconst 1, 1) := by decide +kernel
theorem dX6_partCompanies_58 : decode cX6_partCompanies 58 = .ok (.goto 4, 3) := by decide +kernel
theorem dX6_partCompanies_61 : decode cX6_partCompanies 61 = .ok (.iconst 0, 1) := by decide +kernel
theorem dX6_partCompanies_62 : decode cX6_partCompanies 62 = .ok (.bastore, 1) := by decide +kernel
theorem dX6_partCompanies_63 : decode cX6_partCompanies 63 = .ok (.iinc 3 1, 3) := by decide +kernel
theorem dX6_partCompanies_66 : decode cX6_partCompanies 66 = .ok (.goto (-56), 3) := by decide +kernel
theorem dX6_partCompanies_69 : decode cX6_partCompanies 69 = .ok (.aload_n 0, 1) := by decide +kernel
theorem dX6_partCompanies_70 : decode cX6_partCompanies 70 = .ok (.invokevirtual 49, 3) := by decide +kernel
theorem dX6_partCompanies_73 : decode cX6_partCompanies 73 = .ok (.return_, 1) := by decide +kernel
set_option maxRecDepth 20000 in
theorem ggX6_addUp_X7_size : GoodIn wsX6_addUp wsX7_size := goodIn_r _ [11, 12, 24, 25] (by decide +kernel) (by decide +kernel)
set_option maxRecDepth 20000 in
theorem gX6_addUp_X7_size : GoodIn wsX6_addUp (wsV RX6 55 RX7 yX7_size wsX7_size) := goodIn_app (goodIn_of _ (by decide +kernel)) ggX6_addUp_X7_size
set_option maxRecDepth 20000 in
theorem ggX6_addUp_X7_get : GoodIn wsX6_addUp wsX7_get := goodIn_r _ [16, 12, 17, 24, 25] (by decide +kernel) (by decide +kernel)
set_option maxRecDepth 20000 in
theorem gX6_addUp_X7_get : GoodIn wsX6_addUp (wsV RX6 61 RX7 yX7_get wsX7_get) := goodIn_app (goodIn_of _ (by decide +kernel)) ggX6_addUp_X7_get
theorem dX6_addUp_0 : decode cX6_addUp 0 = .ok (.aload_n 0, 1) := by decide +kernel
theorem dX6_addUp_1 : decode cX6_addUp 1 = .ok (.aload_n 1, 1) := by decide +kernel
theorem dX6_addUp_2 : decode cX6_addUp 2 = .ok (.invokevirtual 55, 3) := by decide +kernel
theorem dX6_addUp_5 : decode cX6_addUp 5 = .ok (.bipush 8, 2) := by decide +kernel
theorem dX6_addUp_7 : decode cX6_addUp 7 = .ok (.invokestatic 77, 3) := by decide +kernel
theorem dX6_addUp_10 : decode cX6_addUp 10 = .ok (.putfield 38, 3) := by decide +kernel
theorem dX6_addUp_13 : decode cX6_addUp 13 = .ok (.iconst 0, 1) := by decide +kernel
theorem dX6_addUp_14 : decode cX6_addUp 14 = .ok (.istore_n 2, 1) := by decide +kernel
theorem dX6_addUp_15 : decode cX6_addUp 15 = .ok (.iload_n 2, 1) := by decide +kernel
theorem dX6_addUp_16 : decode cX6_addUp 16 = .ok (.iconst 1, 1) := by decide +kernel
theorem dX6_addUp_17 : decode cX6_addUp 17 = .ok (.aload_n 0, 1) := by decide +kernel
theorem dX6_addUp_18 : decode cX6_addUp 18 = .ok (.getfield 38, 3) := by decide +kernel
theorem dX6_addUp_21 : decode cX6_addUp 21 = .ok (.ishl, 1) := by decide +kernel
theorem dX6_addUp_22 : decode cX6_addUp 22 = .ok (.if_icmp .ge 52, 3) := by decide +kernel
theorem dX6_addUp_25 : decode cX6_addUp 25 = .ok (.aload_n 0, 1) := by decide +kernel
theorem dX6_addUp_26 : decode cX6_addUp 26 = .ok (.getfield 11, 3) := by decide +kernel
theorem dX6_addUp_29 : decode cX6_addUp 29 = .ok (.iload_n 2, 1) := by decide +kernel
theorem dX6_addUp_30 : decode cX6_addUp 30 = .ok (.iconst 0, 1) := by decide +kernel
theorem dX6_addUp_31 : decode cX6_addUp 31 = .ok (.iastore, 1) := by decide +kernel
theorem dX6_addUp_32 : decode cX6_addUp 32 = .ok (.iconst 0, 1) := by decide +kernel
theorem dX6_addUp_33 : decode cX6_addUp 33 = .ok (.istore_n 3, 1) := by decide +kernel
theorem dX6_addUp_34 : decode cX6_addUp 34 = .ok (.iload_n 3, 1) := by decide +kernel
theorem dX6_addUp_35 : decode cX6_addUp 35 = .ok (.aload_n 0, 1) := by decide +kernel
theorem dX6_addUp_36 : decode cX6_addUp 36 = .ok (.getfield 38, 3) := by decide +kernel
theorem dX6_addUp_39 : decode cX6_addUp 39 = .ok (.if_icmp .ge 29, 3) := by decide +kernel
theorem dX6_addUp_42 : decode cX6_addUp 42 = .ok (.aload_n 0, 1) := by decide +kernel
theorem dX6_addUp_43 : decode cX6_addUp 43 = .ok (.getfield 11, 3) := by decide +kernel
theorem dX6_addUp_46 : decode cX6_addUp 46 = .ok (.iload_n 2, 1) := by decide +kernel
theorem dX6_addUp_47 : decode cX6_addUp 47 = .ok (.dup2, 1) := by decide +kernel
theorem dX6_addUp_48 : decode cX6_addUp 48 = .ok (.iaload, 1) := by decide +kernel
theorem dX6_addUp_49 : decode cX6_addUp 49 = .ok (.iload_n 2, 1) := by decide +kernel
theorem dX6_addUp_50 : decode cX6_addUp 50 = .ok (.iload_n 3, 1) := by decide +kernel
theorem dX6_addUp_51 : decode cX6_addUp 51 = .ok (.ishr, 1) := by decide +kernel
theorem dX6_addUp_52 : decode cX6_addUp 52 = .ok (.iconst 1, 1) := by decide +kernel
theorem dX6_addUp_53 : decode cX6_addUp 53 = .ok (.iand, 1) := by decide +kernel
theorem dX6_addUp_54 : decode cX6_addUp 54 = .ok (.aload_n 1, 1) := by decide +kernel
theorem dX6_addUp_55 : decode cX6_addUp 55 = .ok (.iload_n 3, 1) := by decide +kernel
theorem dX6_addUp_56 : decode cX6_addUp 56 = .ok (.invokevirtual 61, 3) := by decide +kernel
theorem dX6_addUp_59 : decode cX6_addUp 59 = .ok (.imul, 1) := by decide +kernel
theorem dX6_addUp_60 : decode cX6_addUp 60 = .ok (.iadd, 1) := by decide +kernel
theorem dX6_addUp_61 : decode cX6_addUp 61 = .ok (.iastore, 1) := by decide +kernel
theorem dX6_addUp_62 : decode cX6_addUp 62 = .ok (.iinc 3 1, 3) := by decide +kernel
theorem dX6_addUp_65 : decode cX6_addUp 65 = .ok (.goto (-31), 3) := by decide +kernel
theorem dX6_addUp_68 : decode cX6_addUp 68 = .ok (.iinc 2 1, 3) := by decide +kernel
theorem dX6_addUp_71 : decode cX6_addUp 71 = .ok (.goto (-56), 3) := by decide +kernel
theorem dX6_addUp_74 : decode cX6_addUp 74 = .ok (.return_, 1) := by decide +kernel
set_option maxRecDepth 20000 in
theorem ggX6_solve_X6_addSet : GoodIn wsX6_solve wsX6_addSet := goodIn_r _ [10, 1, 2, 3, 11, 12, 13, 14, 15, 16, 17, 18, 19, 20] (by decide +kernel) (by decide +kernel)
set_option maxRecDepth 20000 in
theorem gX6_solve_X6_addSet : GoodIn wsX6_solve (wsV RX6 83 RX6 yX6_addSet wsX6_addSet) := goodIn_app (goodIn_of _ (by decide +kernel)) ggX6_solve_X6_addSet
theorem dX6_solve_0 : decode cX6_solve 0 = .ok (.aload_n 0, 1) := by decide +kernel
theorem dX6_solve_1 : decode cX6_solve 1 = .ok (.getfield 19, 3) := by decide +kernel
theorem dX6_solve_4 : decode cX6_solve 4 = .ok (.iconst 0, 1) := by decide +kernel
theorem dX6_solve_5 : decode cX6_solve 5 = .ok (.iconst 1, 1) := by decide +kernel
theorem dX6_solve_6 : decode cX6_solve 6 = .ok (.iastore, 1) := by decide +kernel
theorem dX6_solve_7 : decode cX6_solve 7 = .ok (.aload_n 0, 1) := by decide +kernel
theorem dX6_solve_8 : decode cX6_solve 8 = .ok (.getfield 22, 3) := by decide +kernel
theorem dX6_solve_11 : decode cX6_solve 11 = .ok (.iconst 0, 1) := by decide +kernel
theorem dX6_solve_12 : decode cX6_solve 12 = .ok (.iconst 0, 1) := by decide +kernel
theorem dX6_solve_13 : decode cX6_solve 13 = .ok (.iastore, 1) := by decide +kernel
theorem dX6_solve_14 : decode cX6_solve 14 = .ok (.aload_n 0, 1) := by decide +kernel
theorem dX6_solve_15 : decode cX6_solve 15 = .ok (.getfield 25, 3) := by decide +kernel
theorem dX6_solve_18 : decode cX6_solve 18 = .ok (.iconst 0, 1) := by decide +kernel
theorem dX6_solve_19 : decode cX6_solve 19 = .ok (.iconst 0, 1) := by decide +kernel
theorem dX6_solve_20 : decode cX6_solve 20 = .ok (.iastore, 1) := by decide +kernel
theorem dX6_solve_21 : decode cX6_solve 21 = .ok (.iconst 1, 1) := by decide +kernel
theorem dX6_solve_22 : decode cX6_solve 22 = .ok (.istore_n 1, 1) := by decide +kernel
theorem dX6_solve_23 : decode cX6_solve 23 = .ok (.iload_n 1, 1) := by decide +kernel
theorem dX6_solve_24 : decode cX6_solve 24 = .ok (.iconst 1, 1) := by decide +kernel
theorem dX6_solve_25 : decode cX6_solve 25 = .ok (.aload_n 0, 1) := by decide +kernel
theorem dX6_solve_26 : decode cX6_solve 26 = .ok (.getfield 38, 3) := by decide +kernel
theorem dX6_solve_29 : decode cX6_solve 29 = .ok (.ishl, 1) := by decide +kernel
theorem dX6_solve_30 : decode cX6_solve 30 = .ok (.if_icmp .ge 78, 3) := by decide +kernel
theorem dX6_solve_33 : decode cX6_solve 33 = .ok (.aload_n 0, 1) := by decide +kernel
theorem dX6_solve_34 : decode cX6_solve 34 = .ok (.getfield 19, 3) := by decide +kernel
theorem dX6_solve_37 : decode cX6_solve 37 = .ok (.iload_n 1, 1) := by decide +kernel
theorem dX6_solve_38 : decode cX6_solve 38 = .ok (.iconst 0, 1) := by decide +kernel
theorem dX6_solve_39 : decode cX6_solve 39 = .ok (.iastore, 1) := by decide +kernel
theorem dX6_solve_40 : decode cX6_solve 40 = .ok (.aload_n 0, 1) := by decide +kernel
theorem dX6_solve_41 : decode cX6_solve 41 = .ok (.getfield 22, 3) := by decide +kernel
theorem dX6_solve_44 : decode cX6_solve 44 = .ok (.iload_n 1, 1) := by decide +kernel
theorem dX6_solve_45 : decode cX6_solve 45 = .ok (.iconst (-1), 1) := by decide +kernel
theorem dX6_solve_46 : decode cX6_solve 46 = .ok (.iastore, 1) := by decide +kernel
theorem dX6_solve_47 : decode cX6_solve 47 = .ok (.aload_n 0, 1) := by decide +kernel
theorem dX6_solve_48 : decode cX6_solve 48 = .ok (.getfield 25, 3) := by decide +kernel
theorem dX6_solve_51 : decode cX6_solve 51 = .ok (.iload_n 1, 1) := by decide +kernel
theorem dX6_solve_52 : decode cX6_solve 52 = .ok (.iconst (-1), 1) := by decide +kernel
theorem dX6_solve_53 : decode cX6_solve 53 = .ok (.iastore, 1) := by decide +kernel
theorem dX6_solve_54 : decode cX6_solve 54 = .ok (.iload_n 1, 1) := by decide +kernel
theorem dX6_solve_55 : decode cX6_solve 55 = .ok (.iload_n 1, 1) := by decide +kernel
theorem dX6_solve_56 : decode cX6_solve 56 = .ok (.ineg, 1) := by decide +kernel
theorem dX6_solve_57 : decode cX6_solve 57 = .ok (.iand, 1) := by decide +kernel
theorem dX6_solve_58 : decode cX6_solve 58 = .ok (.istore_n 2, 1) := by decide +kernel
theorem dX6_solve_59 : decode cX6_solve 59 = .ok (.iload_n 2, 1) := by decide +kernel
theorem dX6_solve_60 : decode cX6_solve 60 = .ok (.istore_n 3, 1) := by decide +kernel
theorem dX6_solve_61 : decode cX6_solve 61 = .ok (.iload_n 3, 1) := by decide +kernel
theorem dX6_solve_62 : decode cX6_solve 62 = .ok (.iload_n 1, 1) := by decide +kernel
theorem dX6_solve_63 : decode cX6_solve 63 = .ok (.if_icmp .gt 39, 3) := by decide +kernel
theorem dX6_solve_66 : decode cX6_solve 66 = .ok (.iload_n 3, 1) := by decide +kernel
theorem dX6_solve_67 : decode cX6_solve 67 = .ok (.iload_n 2, 1) := by decide +kernel
theorem dX6_solve_68 : decode cX6_solve 68 = .ok (.iand, 1) := by decide +kernel
theorem dX6_solve_69 : decode cX6_solve 69 = .ok (.ifCond .eq 27, 3) := by decide +kernel
theorem dX6_solve_72 : decode cX6_solve 72 = .ok (.iload_n 3, 1) := by decide +kernel
theorem dX6_solve_73 : decode cX6_solve 73 = .ok (.iload_n 1, 1) := by decide +kernel
theorem dX6_solve_74 : decode cX6_solve 74 = .ok (.iand, 1) := by decide +kernel
theorem dX6_solve_75 : decode cX6_solve 75 = .ok (.iload_n 3, 1) := by decide +kernel
theorem dX6_solve_76 : decode cX6_solve 76 = .ok (.if_icmp .ne 20, 3) := by decide +kernel
theorem dX6_solve_79 : decode cX6_solve 79 = .ok (.aload_n 0, 1) := by decide +kernel
theorem dX6_solve_80 : decode cX6_solve 80 = .ok (.getfield 15, 3) := by decide +kernel
theorem dX6_solve_83 : decode cX6_solve 83 = .ok (.iload_n 3, 1) := by decide +kernel
theorem dX6_solve_84 : decode cX6_solve 84 = .ok (.baload, 1) := by decide +kernel
theorem dX6_solve_85 : decode cX6_solve 85 = .ok (.ifCond .eq 11, 3) := by decide +kernel
theorem dX6_solve_88 : decode cX6_solve 88 = .ok (.aload_n 0, 1) := by decide +kernel
theorem dX6_solve_89 : decode cX6_solve 89 = .ok (.iload_n 1, 1) := by decide +kernel
theorem dX6_solve_90 : decode cX6_solve 90 = .ok (.iload_n 1, 1) := by decide +kernel
theorem dX6_solve_91 : decode cX6_solve 91 = .ok (.iload_n 3, 1) := by decide +kernel
theorem dX6_solve_92 : decode cX6_solve 92 = .ok (.ixor, 1) := by decide +kernel
theorem dX6_solve_93 : decode cX6_solve 93 = .ok (.invokevirtual 83, 3) := by decide +kernel
theorem dX6_solve_96 : decode cX6_solve 96 = .ok (.iinc 3 1, 3) := by decide +kernel
theorem dX6_solve_99 : decode cX6_solve 99 = .ok (.goto (-38), 3) := by decide +kernel
theorem dX6_solve_102 : decode cX6_solve 102 = .ok (.iinc 1 1, 3) := by decide +kernel
theorem dX6_solve_105 : decode cX6_solve 105 = .ok (.goto (-82), 3) := by decide +kernel
theorem dX6_solve_108 : decode cX6_solve 108 = .ok (.return_, 1) := by decide +kernel
theorem dX6_addSet_0 : decode cX6_addSet 0 = .ok (.aload_n 0, 1) := by decide +kernel
theorem dX6_addSet_1 : decode cX6_addSet 1 = .ok (.getfield 19, 3) := by decide +kernel
theorem dX6_addSet_4 : decode cX6_addSet 4 = .ok (.iload_n 2, 1) := by decide +kernel
theorem dX6_addSet_5 : decode cX6_addSet 5 = .ok (.iaload, 1) := by decide +kernel
theorem dX6_addSet_6 : decode cX6_addSet 6 = .ok (.ifCond .ne 4, 3) := by decide +kernel
theorem dX6_addSet_9 : decode cX6_addSet 9 = .ok (.return_, 1) := by decide +kernel
theorem dX6_addSet_10 : decode cX6_addSet 10 = .ok (.aload_n 0, 1) := by decide +kernel
theorem dX6_addSet_11 : decode cX6_addSet 11 = .ok (.getfield 19, 3) := by decide +kernel
theorem dX6_addSet_14 : decode cX6_addSet 14 = .ok (.iload_n 1, 1) := by decide +kernel
theorem dX6_addSet_15 : decode cX6_addSet 15 = .ok (.dup2, 1) := by decide +kernel
theorem dX6_addSet_16 : decode cX6_addSet 16 = .ok (.iaload, 1) := by decide +kernel
theorem dX6_addSet_17 : decode cX6_addSet 17 = .ok (.aload_n 0, 1) := by decide +kernel
theorem dX6_addSet_18 : decode cX6_addSet 18 = .ok (.getfield 19, 3) := by decide +kernel
theorem dX6_addSet_21 : decode cX6_addSet 21 = .ok (.iload_n 2, 1) := by decide +kernel
theorem dX6_addSet_22 : decode cX6_addSet 22 = .ok (.iaload, 1) := by decide +kernel
theorem dX6_addSet_23 : decode cX6_addSet 23 = .ok (.iadd, 1) := by decide +kernel
theorem dX6_addSet_24 : decode cX6_addSet 24 = .ok (.iastore, 1) := by decide +kernel
theorem dX6_addSet_25 : decode cX6_addSet 25 = .ok (.aload_n 0, 1) := by decide +kernel
theorem dX6_addSet_26 : decode cX6_addSet 26 = .ok (.getfield 22, 3) := by decide +kernel
theorem dX6_addSet_29 : decode cX6_addSet 29 = .ok (.iload_n 1, 1) := by decide +kernel
theorem dX6_addSet_30 : decode cX6_addSet 30 = .ok (.iaload, 1) := by decide +kernel
theorem dX6_addSet_31 : decode cX6_addSet 31 = .ok (.iconst (-1), 1) := by decide +kernel
theorem dX6_addSet_32 : decode cX6_addSet 32 = .ok (.if_icmp .eq 20, 3) := by decide +kernel
theorem dX6_addSet_35 : decode cX6_addSet 35 = .ok (.aload_n 0, 1) := by decide +kernel
theorem dX6_addSet_36 : decode cX6_addSet 36 = .ok (.getfield 22, 3) := by decide +kernel
theorem dX6_addSet_39 : decode cX6_addSet 39 = .ok (.iload_n 2, 1) := by decide +kernel
theorem dX6_addSet_40 : decode cX6_addSet 40 = .ok (.iaload, 1) := by decide +kernel
theorem dX6_addSet_41 : decode cX6_addSet 41 = .ok (.iconst 1, 1) := by decide +kernel
theorem dX6_addSet_42 : decode cX6_addSet 42 = .ok (.iadd, 1) := by decide +kernel
theorem dX6_addSet_43 : decode cX6_addSet 43 = .ok (.aload_n 0, 1) := by decide +kernel
theorem dX6_addSet_44 : decode cX6_addSet 44 = .ok (.getfield 22, 3) := by decide +kernel
theorem dX6_addSet_47 : decode cX6_addSet 47 = .ok (.iload_n 1, 1) := by decide +kernel
theorem dX6_addSet_48 : decode cX6_addSet 48 = .ok (.iaload, 1) := by decide +kernel
theorem dX6_addSet_49 : decode cX6_addSet 49 = .ok (.if_icmp .ge 17, 3) := by decide +kernel
theorem dX6_addSet_52 : decode cX6_addSet 52 = .ok (.aload_n 0, 1) := by decide +kernel
theorem dX6_addSet_53 : decode cX6_addSet 53 = .ok (.getfield 22, 3) := by decide +kernel
theorem dX6_addSet_56 : decode cX6_addSet 56 = .ok (.iload_n 1, 1) := by decide +kernel
theorem dX6_addSet_57 : decode cX6_addSet 57 = .ok (.aload_n 0, 1) := by decide +kernel
theorem dX6_addSet_58 : decode cX6_addSet 58 = .ok (.getfield 22, 3) := by decide +kernel
theorem dX6_addSet_61 : decode cX6_addSet 61 = .ok (.iload_n 2, 1) := by decide +kernel
theorem dX6_addSet_62 : decode cX6_addSet 62 = .ok (.iaload, 1) := by decide +kernel
theorem dX6_addSet_63 : decode cX6_addSet 63 = .ok (.iconst 1, 1) := by decide +kernel
theorem dX6_addSet_64 : decode cX6_addSet 64 = .ok (.iadd, 1) := by decide +kernel
theorem dX6_addSet_65 : decode cX6_addSet 65 = .ok (.iastore, 1) := by decide +kernel
theorem dX6_addSet_66 : decode cX6_addSet 66 = .ok (.aload_n 0, 1) := by decide +kernel
theorem dX6_addSet_67 : decode cX6_addSet 67 = .ok (.getfield 25, 3) := by decide +kernel
theorem dX6_addSet_70 : decode cX6_addSet 70 = .ok (.iload_n 1, 1) := by decide +kernel
theorem dX6_addSet_71 : decode cX6_addSet 71 = .ok (.aload_n 0, 1) := by decide +kernel
theorem dX6_addSet_72 : decode cX6_addSet 72 = .ok (.getfield 25, 3) := by decide +kernel
theorem dX6_addSet_75 : decode cX6_addSet 75 = .ok (.iload_n 1, 1) := by decide +kernel
theorem dX6_addSet_76 : decode cX6_addSet 76 = .ok (.iaload, 1) := by decide +kernel
theorem dX6_addSet_77 : decode cX6_addSet 77 = .ok (.aload_n 0, 1) := by decide +kernel
theorem dX6_addSet_78 : decode cX6_addSet 78 = .ok (.getfield 25, 3) := by decide +kernel
theorem dX6_addSet_81 : decode cX6_addSet 81 = .ok (.iload_n 2, 1) := by decide +kernel
theorem dX6_addSet_82 : decode cX6_addSet 82 = .ok (.iaload, 1) := by decide +kernel
theorem dX6_addSet_83 : decode cX6_addSet 83 = .ok (.iconst 1, 1) := by decide +kernel
theorem dX6_addSet_84 : decode cX6_addSet 84 = .ok (.iadd, 1) := by decide +kernel
theorem dX6_addSet_85 : decode cX6_addSet 85 = .ok (.invokestatic 87, 3) := by decide +kernel
theorem dX6_addSet_88 : decode cX6_addSet 88 = .ok (.iastore, 1) := by decide +kernel
theorem dX6_addSet_89 : decode cX6_addSet 89 = .ok (.return_, 1) := by decide +kernel
theorem dX6_all_0 : decode cX6_all 0 = .ok (.iconst 1, 1) := by decide +kernel
theorem dX6_all_1 : decode cX6_all 1 = .ok (.aload_n 0, 1) := by decide +kernel
theorem dX6_all_2 : decode cX6_all 2 = .ok (.getfield 38, 3) := by decide +kernel
theorem dX6_all_5 : decode cX6_all 5 = .ok (.ishl, 1) := by decide +kernel
theorem dX6_all_6 : decode cX6_all 6 = .ok (.iconst 1, 1) := by decide +kernel
theorem dX6_all_7 : decode cX6_all 7 = .ok (.isub, 1) := by decide +kernel
theorem dX6_all_8 : decode cX6_all 8 = .ok (.ireturn, 1) := by decide +kernel
set_option maxRecDepth 20000 in
theorem ggX6_number_X6_all : GoodIn wsX6_number wsX6_all := goodIn_r _ [6, 7, 8, 9, 10, 11, 12, 13] (by decide +kernel) (by decide +kernel)
set_option maxRecDepth 20000 in
theorem gX6_number_X6_all : GoodIn wsX6_number (wsV RX6 90 RX6 yX6_all wsX6_all) := goodIn_app (goodIn_of _ (by decide +kernel)) ggX6_number_X6_all
theorem dX6_number_0 : decode cX6_number 0 = .ok (.aload_n 0, 1) := by decide +kernel
theorem dX6_number_1 : decode cX6_number 1 = .ok (.getfield 19, 3) := by decide +kernel
theorem dX6_number_4 : decode cX6_number 4 = .ok (.aload_n 0, 1) := by decide +kernel
theorem dX6_number_5 : decode cX6_number 5 = .ok (.invokevirtual 90, 3) := by decide +kernel
theorem dX6_number_8 : decode cX6_number 8 = .ok (.iaload, 1) := by decide +kernel
theorem dX6_number_9 : decode cX6_number 9 = .ok (.ireturn, 1) := by decide +kernel
set_option maxRecDepth 20000 in
theorem ggX6_fewest_X6_all : GoodIn wsX6_fewest wsX6_all := goodIn_r _ [6, 7, 8, 9, 10, 11, 12, 13] (by decide +kernel) (by decide +kernel)
set_option maxRecDepth 20000 in
theorem gX6_fewest_X6_all : GoodIn wsX6_fewest (wsV RX6 90 RX6 yX6_all wsX6_all) := goodIn_app (goodIn_of _ (by decide +kernel)) ggX6_fewest_X6_all
theorem dX6_fewest_0 : decode cX6_fewest 0 = .ok (.aload_n 0, 1) := by decide +kernel
theorem dX6_fewest_1 : decode cX6_fewest 1 = .ok (.getfield 22, 3) := by decide +kernel
theorem dX6_fewest_4 : decode cX6_fewest 4 = .ok (.aload_n 0, 1) := by decide +kernel
theorem dX6_fewest_5 : decode cX6_fewest 5 = .ok (.invokevirtual 90, 3) := by decide +kernel
theorem dX6_fewest_8 : decode cX6_fewest 8 = .ok (.iaload, 1) := by decide +kernel
theorem dX6_fewest_9 : decode cX6_fewest 9 = .ok (.ireturn, 1) := by decide +kernel
set_option maxRecDepth 20000 in
theorem ggX6_most_X6_all : GoodIn wsX6_most wsX6_all := goodIn_r _ [6, 7, 8, 9, 10, 11, 12, 13] (by decide +kernel) (by decide +kernel)
set_option maxRecDepth 20000 in
theorem gX6_most_X6_all : GoodIn wsX6_most (wsV RX6 90 RX6 yX6_all wsX6_all) := goodIn_app (goodIn_of _ (by decide +kernel)) ggX6_most_X6_all
theorem dX6_most_0 : decode cX6_most 0 = .ok (.aload_n 0, 1) := by decide +kernel
theorem dX6_most_1 : decode cX6_most 1 = .ok (.getfield 25, 3) := by decide +kernel
theorem dX6_most_4 : decode cX6_most 4 = .ok (.aload_n 0, 1) := by decide +kernel
theorem dX6_most_5 : decode cX6_most 5 = .ok (.invokevirtual 90, 3) := by decide +kernel
theorem dX6_most_8 : decode cX6_most 8 = .ok (.iaload, 1) := by decide +kernel
theorem dX6_most_9 : decode cX6_most 9 = .ok (.ireturn, 1) := by decide +kernel
set_option maxRecDepth 20000 in
theorem ggX6_numberWith_X6_all : GoodIn wsX6_numberWith wsX6_all := goodIn_r _ [7, 8, 9, 10, 11, 12, 13, 14] (by decide +kernel) (by decide +kernel)
set_option maxRecDepth 20000 in
theorem gX6_numberWith_X6_all : GoodIn wsX6_numberWith (wsV RX6 90 RX6 yX6_all wsX6_all) := goodIn_app (goodIn_of _ (by decide +kernel)) ggX6_numberWith_X6_all
theorem dX6_numberWith_0 : decode cX6_numberWith 0 = .ok (.iconst 0, 1) := by decide +kernel
theorem dX6_numberWith_1 : decode cX6_numberWith 1 = .ok (.istore_n 3, 1) := by decide +kernel
theorem dX6_numberWith_2 : decode cX6_numberWith 2 = .ok (.iconst 1, 1) := by decide +kernel
theorem dX6_numberWith_3 : decode cX6_numberWith 3 = .ok (.istore 4, 2) := by decide +kernel
theorem dX6_numberWith_5 : decode cX6_numberWith 5 = .ok (.iload 4, 2) := by decide +kernel
theorem dX6_numberWith_7 : decode cX6_numberWith 7 = .ok (.aload_n 0, 1) := by decide +kernel
theorem dX6_numberWith_8 : decode cX6_numberWith 8 = .ok (.invokevirtual 90, 3) := by decide +kernel
theorem dX6_numberWith_11 : decode cX6_numberWith 11 = .ok (.if_icmp .gt 54, 3) := by decide +kernel
theorem dX6_numberWith_14 : decode cX6_numberWith 14 = .ok (.iload 4, 2) := by decide +kernel
theorem dX6_numberWith_16 : decode cX6_numberWith 16 = .ok (.iload_n 1, 1) := by decide +kernel
theorem dX6_numberWith_17 : decode cX6_numberWith 17 = .ok (.ishr, 1) := by decide +kernel
theorem dX6_numberWith_18 : decode cX6_numberWith 18 = .ok (.iconst 1, 1) := by decide +kernel
theorem dX6_numberWith_19 : decode cX6_numberWith 19 = .ok (.iand, 1) := by decide +kernel
theorem dX6_numberWith_20 : decode cX6_numberWith 20 = .ok (.iconst 1, 1) := by decide +kernel
theorem dX6_numberWith_21 : decode cX6_numberWith 21 = .ok (.if_icmp .ne 38, 3) := by decide +kernel
theorem dX6_numberWith_24 : decode cX6_numberWith 24 = .ok (.iload 4, 2) := by decide +kernel
theorem dX6_numberWith_26 : decode cX6_numberWith 26 = .ok (.iload_n 2, 1) := by decide +kernel
theorem dX6_numberWith_27 : decode cX6_numberWith 27 = .ok (.ishr, 1) := by decide +kernel
theorem dX6_numberWith_28 : decode cX6_numberWith 28 = .ok (.iconst 1, 1) := by decide +kernel
theorem dX6_numberWith_29 : decode cX6_numberWith 29 = .ok (.iand, 1) := by decide +kernel
theorem dX6_numberWith_30 : decode cX6_numberWith 30 = .ok (.iconst 1, 1) := by decide +kernel
theorem dX6_numberWith_31 : decode cX6_numberWith 31 = .ok (.if_icmp .ne 28, 3) := by decide +kernel
theorem dX6_numberWith_34 : decode cX6_numberWith 34 = .ok (.aload_n 0, 1) := by decide +kernel
theorem dX6_numberWith_35 : decode cX6_numberWith 35 = .ok (.getfield 15, 3) := by decide +kernel
theorem dX6_numberWith_38 : decode cX6_numberWith 38 = .ok (.iload 4, 2) := by decide +kernel
theorem dX6_numberWith_40 : decode cX6_numberWith 40 = .ok (.baload, 1) := by decide +kernel
theorem dX6_numberWith_41 : decode cX6_numberWith 41 = .ok (.ifCond .eq 18, 3) := by decide +kernel
theorem dX6_numberWith_44 : decode cX6_numberWith 44 = .ok (.iload_n 3, 1) := by decide +kernel
theorem dX6_numberWith_45 : decode cX6_numberWith 45 = .ok (.aload_n 0, 1) := by decide +kernel
theorem dX6_numberWith_46 : decode cX6_numberWith 46 = .ok (.getfield 19, 3) := by decide +kernel
theorem dX6_numberWith_49 : decode cX6_numberWith 49 = .ok (.aload_n 0, 1) := by decide +kernel
theorem dX6_numberWith_50 : decode cX6_numberWith 50 = .ok (.invokevirtual 90, 3) := by decide +kernel
theorem dX6_numberWith_53 : decode cX6_numberWith 53 = .ok (.iload 4, 2) := by decide +kernel
theorem dX6_numberWith_55 : decode cX6_numberWith 55 = .ok (.ixor, 1) := by decide +kernel
theorem dX6_numberWith_56 : decode cX6_numberWith 56 = .ok (.iaload, 1) := by decide +kernel
theorem dX6_numberWith_57 : decode cX6_numberWith 57 = .ok (.iadd, 1) := by decide +kernel
theorem dX6_numberWith_58 : decode cX6_numberWith 58 = .ok (.istore_n 3, 1) := by decide +kernel
theorem dX6_numberWith_59 : decode cX6_numberWith 59 = .ok (.iinc 4 1, 3) := by decide +kernel
theorem dX6_numberWith_62 : decode cX6_numberWith 62 = .ok (.goto (-57), 3) := by decide +kernel
theorem dX6_numberWith_65 : decode cX6_numberWith 65 = .ok (.iload_n 3, 1) := by decide +kernel
theorem dX6_numberWith_66 : decode cX6_numberWith 66 = .ok (.ireturn, 1) := by decide +kernel
set_option maxRecDepth 20000 in
theorem ggX6_firstOfFewest_X6_all : GoodIn wsX6_firstOfFewest wsX6_all := goodIn_r _ [9, 1, 14, 15, 16, 17, 18, 19] (by decide +kernel) (by decide +kernel)
set_option maxRecDepth 20000 in
theorem gX6_firstOfFewest_X6_all : GoodIn wsX6_firstOfFewest (wsV RX6 90 RX6 yX6_all wsX6_all) := goodIn_app (goodIn_of _ (by decide +kernel)) ggX6_firstOfFewest_X6_all
set_option maxRecDepth 20000 in
theorem ggX6_firstOfFewest_X6_fewest : GoodIn wsX6_firstOfFewest wsX6_fewest := goodIn_r _ [13, 4, 5, 6, 7, 8, 9, 1, 14, 15, 16, 17, 18, 19] (by decide +kernel) (by decide +kernel)
set_option maxRecDepth 20000 in
theorem gX6_firstOfFewest_X6_fewest : GoodIn wsX6_firstOfFewest (wsV RX6 93 RX6 yX6_fewest wsX6_fewest) := goodIn_app (goodIn_of _ (by decide +kernel)) ggX6_firstOfFewest_X6_fewest
theorem dX6_firstOfFewest_0 : decode cX6_firstOfFewest 0 = .ok (.aload_n 0, 1) := by decide +kernel
theorem dX6_firstOfFewest_1 : decode cX6_firstOfFewest 1 = .ok (.getfield 38, 3) := by decide +kernel
theorem dX6_firstOfFewest_4 : decode cX6_firstOfFewest 4 = .ok (.ifCond .ne 5, 3) := by decide +kernel
theorem dX6_firstOfFewest_7 : decode cX6_firstOfFewest 7 = .ok (.iconst 0, 1) := by decide +kernel
theorem dX6_firstOfFewest_8 : decode cX6_firstOfFewest 8 = .ok (.ireturn, 1) := by decide +kernel
theorem dX6_firstOfFewest_9 : decode cX6_firstOfFewest 9 = .ok (.iconst 1, 1) := by decide +kernel
theorem dX6_firstOfFewest_10 : decode cX6_firstOfFewest 10 = .ok (.istore_n 1, 1) := by decide +kernel
theorem dX6_firstOfFewest_11 : decode cX6_firstOfFewest 11 = .ok (.iload_n 1, 1) := by decide +kernel
theorem dX6_firstOfFewest_12 : decode cX6_firstOfFewest 12 = .ok (.aload_n 0, 1) := by decide +kernel
theorem dX6_firstOfFewest_13 : decode cX6_firstOfFewest 13 = .ok (.invokevirtual 90, 3) := by decide +kernel
theorem dX6_firstOfFewest_16 : decode cX6_firstOfFewest 16 = .ok (.if_icmp .gt 51, 3) := by decide +kernel
theorem dX6_firstOfFewest_19 : decode cX6_firstOfFewest 19 = .ok (.aload_n 0, 1) := by decide +kernel
theorem dX6_firstOfFewest_20 : decode cX6_firstOfFewest 20 = .ok (.invokevirtual 90, 3) := by decide +kernel
theorem dX6_firstOfFewest_23 : decode cX6_firstOfFewest 23 = .ok (.iload_n 1, 1) := by decide +kernel
theorem dX6_firstOfFewest_24 : decode cX6_firstOfFewest 24 = .ok (.ixor, 1) := by decide +kernel
theorem dX6_firstOfFewest_25 : decode cX6_firstOfFewest 25 = .ok (.istore_n 2, 1) := by decide +kernel
theorem dX6_firstOfFewest_26 : decode cX6_firstOfFewest 26 = .ok (.aload_n 0, 1) := by decide +kernel
theorem dX6_firstOfFewest_27 : decode cX6_firstOfFewest 27 = .ok (.getfield 15, 3) := by decide +kernel
theorem dX6_firstOfFewest_30 : decode cX6_firstOfFewest 30 = .ok (.iload_n 1, 1) := by decide +kernel
theorem dX6_firstOfFewest_31 : decode cX6_firstOfFewest 31 = .ok (.baload, 1) := by decide +kernel
theorem dX6_firstOfFewest_32 : decode cX6_firstOfFewest 32 = .ok (.ifCond .eq 29, 3) := by decide +kernel
theorem dX6_firstOfFewest_35 : decode cX6_firstOfFewest 35 = .ok (.aload_n 0, 1) := by decide +kernel
theorem dX6_firstOfFewest_36 : decode cX6_firstOfFewest 36 = .ok (.getfield 19, 3) := by decide +kernel
theorem dX6_firstOfFewest_39 : decode cX6_firstOfFewest 39 = .ok (.iload_n 2, 1) := by decide +kernel
theorem dX6_firstOfFewest_40 : decode cX6_firstOfFewest 40 = .ok (.iaload, 1) := by decide +kernel
theorem dX6_firstOfFewest_41 : decode cX6_firstOfFewest 41 = .ok (.ifCond .le 20, 3) := by decide +kernel
theorem dX6_firstOfFewest_44 : decode cX6_firstOfFewest 44 = .ok (.aload_n 0, 1) := by decide +kernel
theorem dX6_firstOfFewest_45 : decode cX6_firstOfFewest 45 = .ok (.getfield 22, 3) := by decide +kernel
theorem dX6_firstOfFewest_48 : decode cX6_firstOfFewest 48 = .ok (.iload_n 2, 1) := by decide +kernel
theorem dX6_firstOfFewest_49 : decode cX6_firstOfFewest 49 = .ok (.iaload, 1) := by decide +kernel
theorem dX6_firstOfFewest_50 : decode cX6_firstOfFewest 50 = .ok (.iconst 1, 1) := by decide +kernel
theorem dX6_firstOfFewest_51 : decode cX6_firstOfFewest 51 = .ok (.iadd, 1) := by decide +kernel
theorem dX6_firstOfFewest_52 : decode cX6_firstOfFewest 52 = .ok (.aload_n 0, 1) := by decide +kernel
theorem dX6_firstOfFewest_53 : decode cX6_firstOfFewest 53 = .ok (.invokevirtual 93, 3) := by decide +kernel
theorem dX6_firstOfFewest_56 : decode cX6_firstOfFewest 56 = .ok (.if_icmp .ne 5, 3) := by decide +kernel
theorem dX6_firstOfFewest_59 : decode cX6_firstOfFewest 59 = .ok (.iload_n 1, 1) := by decide +kernel
theorem dX6_firstOfFewest_60 : decode cX6_firstOfFewest 60 = .ok (.ireturn, 1) := by decide +kernel
theorem dX6_firstOfFewest_61 : decode cX6_firstOfFewest 61 = .ok (.iinc 1 2, 3) := by decide +kernel
theorem dX6_firstOfFewest_64 : decode cX6_firstOfFewest 64 = .ok (.goto (-53), 3) := by decide +kernel
theorem dX6_firstOfFewest_67 : decode cX6_firstOfFewest 67 = .ok (.iconst (-1), 1) := by decide +kernel
theorem dX6_firstOfFewest_68 : decode cX6_firstOfFewest 68 = .ok (.ireturn, 1) := by decide +kernel
theorem dX7_init_0 : decode cX7_init 0 = .ok (.aload_n 0, 1) := by decide +kernel
theorem dX7_init_1 : decode cX7_init 1 = .ok (.invokespecial 1, 3) := by decide +kernel
theorem dX7_init_4 : decode cX7_init 4 = .ok (.aload_n 0, 1) := by decide +kernel
theorem dX7_init_5 : decode cX7_init 5 = .ok (.iload_n 1, 1) := by decide +kernel
theorem dX7_init_6 : decode cX7_init 6 = .ok (.iconst 0, 1) := by decide +kernel
theorem dX7_init_7 : decode cX7_init 7 = .ok (.invokestatic 7, 3) := by decide +kernel
theorem dX7_init_10 : decode cX7_init 10 = .ok (.newarray .int, 2) := by decide +kernel
theorem dX7_init_12 : decode cX7_init 12 = .ok (.putfield 13, 3) := by decide +kernel
theorem dX7_init_15 : decode cX7_init 15 = .ok (.return_, 1) := by decide +kernel
theorem dX7_size_0 : decode cX7_size 0 = .ok (.aload_n 0, 1) := by decide +kernel
theorem dX7_size_1 : decode cX7_size 1 = .ok (.getfield 19, 3) := by decide +kernel
theorem dX7_size_4 : decode cX7_size 4 = .ok (.ireturn, 1) := by decide +kernel
theorem dX7_isFull_0 : decode cX7_isFull 0 = .ok (.aload_n 0, 1) := by decide +kernel
theorem dX7_isFull_1 : decode cX7_isFull 1 = .ok (.getfield 19, 3) := by decide +kernel
theorem dX7_isFull_4 : decode cX7_isFull 4 = .ok (.aload_n 0, 1) := by decide +kernel
theorem dX7_isFull_5 : decode cX7_isFull 5 = .ok (.getfield 13, 3) := by decide +kernel
theorem dX7_isFull_8 : decode cX7_isFull 8 = .ok (.arraylength, 1) := by decide +kernel
theorem dX7_isFull_9 : decode cX7_isFull 9 = .ok (.if_icmp .lt 7, 3) := by decide +kernel
theorem dX7_isFull_12 : decode cX7_isFull 12 = .ok (.iconst 1, 1) := by decide +kernel
theorem dX7_isFull_13 : decode cX7_isFull 13 = .ok (.goto 4, 3) := by decide +kernel
theorem dX7_isFull_16 : decode cX7_isFull 16 = .ok (.iconst 0, 1) := by decide +kernel
theorem dX7_isFull_17 : decode cX7_isFull 17 = .ok (.ireturn, 1) := by decide +kernel
theorem dX7_get_0 : decode cX7_get 0 = .ok (.iload_n 1, 1) := by decide +kernel
theorem dX7_get_1 : decode cX7_get 1 = .ok (.ifCond .lt 20, 3) := by decide +kernel
theorem dX7_get_4 : decode cX7_get 4 = .ok (.iload_n 1, 1) := by decide +kernel
theorem dX7_get_5 : decode cX7_get 5 = .ok (.aload_n 0, 1) := by decide +kernel
theorem dX7_get_6 : decode cX7_get 6 = .ok (.getfield 19, 3) := by decide +kernel
theorem dX7_get_9 : decode cX7_get 9 = .ok (.if_icmp .ge 12, 3) := by decide +kernel
theorem dX7_get_12 : decode cX7_get 12 = .ok (.aload_n 0, 1) := by decide +kernel
theorem dX7_get_13 : decode cX7_get 13 = .ok (.getfield 13, 3) := by decide +kernel
theorem dX7_get_16 : decode cX7_get 16 = .ok (.iload_n 1, 1) := by decide +kernel
theorem dX7_get_17 : decode cX7_get 17 = .ok (.iaload, 1) := by decide +kernel
theorem dX7_get_18 : decode cX7_get 18 = .ok (.goto 4, 3) := by decide +kernel
theorem dX7_get_21 : decode cX7_get 21 = .ok (.iconst 0, 1) := by decide +kernel
theorem dX7_get_22 : decode cX7_get 22 = .ok (.ireturn, 1) := by decide +kernel
theorem dX7_set_0 : decode cX7_set 0 = .ok (.iload_n 1, 1) := by decide +kernel
theorem dX7_set_1 : decode cX7_set 1 = .ok (.ifCond .lt 18, 3) := by decide +kernel
theorem dX7_set_4 : decode cX7_set 4 = .ok (.iload_n 1, 1) := by decide +kernel
theorem dX7_set_5 : decode cX7_set 5 = .ok (.aload_n 0, 1) := by decide +kernel
theorem dX7_set_6 : decode cX7_set 6 = .ok (.getfield 19, 3) := by decide +kernel
theorem dX7_set_9 : decode cX7_set 9 = .ok (.if_icmp .ge 10, 3) := by decide +kernel
theorem dX7_set_12 : decode cX7_set 12 = .ok (.aload_n 0, 1) := by decide +kernel
theorem dX7_set_13 : decode cX7_set 13 = .ok (.getfield 13, 3) := by decide +kernel
theorem dX7_set_16 : decode cX7_set 16 = .ok (.iload_n 1, 1) := by decide +kernel
theorem dX7_set_17 : decode cX7_set 17 = .ok (.iload_n 2, 1) := by decide +kernel
theorem dX7_set_18 : decode cX7_set 18 = .ok (.iastore, 1) := by decide +kernel
theorem dX7_set_19 : decode cX7_set 19 = .ok (.return_, 1) := by decide +kernel
theorem dX7_add_0 : decode cX7_add 0 = .ok (.aload_n 0, 1) := by decide +kernel
theorem dX7_add_1 : decode cX7_add 1 = .ok (.getfield 19, 3) := by decide +kernel
theorem dX7_add_4 : decode cX7_add 4 = .ok (.aload_n 0, 1) := by decide +kernel
theorem dX7_add_5 : decode cX7_add 5 = .ok (.getfield 13, 3) := by decide +kernel
theorem dX7_add_8 : decode cX7_add 8 = .ok (.arraylength, 1) := by decide +kernel
theorem dX7_add_9 : decode cX7_add 9 = .ok (.if_icmp .ge 23, 3) := by decide +kernel
theorem dX7_add_12 : decode cX7_add 12 = .ok (.aload_n 0, 1) := by decide +kernel
theorem dX7_add_13 : decode cX7_add 13 = .ok (.getfield 13, 3) := by decide +kernel
theorem dX7_add_16 : decode cX7_add 16 = .ok (.aload_n 0, 1) := by decide +kernel
theorem dX7_add_17 : decode cX7_add 17 = .ok (.getfield 19, 3) := by decide +kernel
theorem dX7_add_20 : decode cX7_add 20 = .ok (.iload_n 1, 1) := by decide +kernel
theorem dX7_add_21 : decode cX7_add 21 = .ok (.iastore, 1) := by decide +kernel
theorem dX7_add_22 : decode cX7_add 22 = .ok (.aload_n 0, 1) := by decide +kernel
theorem dX7_add_23 : decode cX7_add 23 = .ok (.dup, 1) := by decide +kernel
theorem dX7_add_24 : decode cX7_add 24 = .ok (.getfield 19, 3) := by decide +kernel
theorem dX7_add_27 : decode cX7_add 27 = .ok (.iconst 1, 1) := by decide +kernel
theorem dX7_add_28 : decode cX7_add 28 = .ok (.iadd, 1) := by decide +kernel
theorem dX7_add_29 : decode cX7_add 29 = .ok (.putfield 19, 3) := by decide +kernel
theorem dX7_add_32 : decode cX7_add 32 = .ok (.return_, 1) := by decide +kernel
theorem dX7_empty_0 : decode cX7_empty 0 = .ok (.aload_n 0, 1) := by decide +kernel
theorem dX7_empty_1 : decode cX7_empty 1 = .ok (.iconst 0, 1) := by decide +kernel
theorem dX7_empty_2 : decode cX7_empty 2 = .ok (.putfield 19, 3) := by decide +kernel
theorem dX7_empty_5 : decode cX7_empty 5 = .ok (.return_, 1) := by decide +kernel
set_option maxRecDepth 20000 in
theorem ggX7_copy_X7_empty : GoodIn wsX7_copy wsX7_empty := goodIn_r _ [6, 1, 16, 17] (by decide +kernel) (by decide +kernel)
set_option maxRecDepth 20000 in
theorem gX7_copy_X7_empty : GoodIn wsX7_copy (wsV RX7 23 RX7 yX7_empty wsX7_empty) := goodIn_app (goodIn_of _ (by decide +kernel)) ggX7_copy_X7_empty
set_option maxRecDepth 20000 in
theorem ggX7_copy_X7_get : GoodIn wsX7_copy wsX7_get := goodIn_r _ [10, 1, 11, 16, 17] (by decide +kernel) (by decide +kernel)
set_option maxRecDepth 20000 in
theorem gX7_copy_X7_get : GoodIn wsX7_copy (wsV RX7 26 RX7 yX7_get wsX7_get) := goodIn_app (goodIn_of _ (by decide +kernel)) ggX7_copy_X7_get
set_option maxRecDepth 20000 in
theorem ggX7_copy_X7_add : GoodIn wsX7_copy wsX7_add := goodIn_r _ [15, 1, 11, 16, 17] (by decide +kernel) (by decide +kernel)
set_option maxRecDepth 20000 in
theorem gX7_copy_X7_add : GoodIn wsX7_copy (wsV RX7 30 RX7 yX7_add wsX7_add) := goodIn_app (goodIn_of _ (by decide +kernel)) ggX7_copy_X7_add
theorem dX7_copy_0 : decode cX7_copy 0 = .ok (.aload_n 0, 1) := by decide +kernel
theorem dX7_copy_1 : decode cX7_copy 1 = .ok (.invokevirtual 23, 3) := by decide +kernel
theorem dX7_copy_4 : decode cX7_copy 4 = .ok (.iconst 0, 1) := by decide +kernel
theorem dX7_copy_5 : decode cX7_copy 5 = .ok (.istore_n 2, 1) := by decide +kernel
theorem dX7_copy_6 : decode cX7_copy 6 = .ok (.iload_n 2, 1) := by decide +kernel
theorem dX7_copy_7 : decode cX7_copy 7 = .ok (.aload_n 1, 1) := by decide +kernel
theorem dX7_copy_8 : decode cX7_copy 8 = .ok (.getfield 19, 3) := by decide +kernel
theorem dX7_copy_11 : decode cX7_copy 11 = .ok (.if_icmp .ge 18, 3) := by decide +kernel
theorem dX7_copy_14 : decode cX7_copy 14 = .ok (.aload_n 0, 1) := by decide +kernel
theorem dX7_copy_15 : decode cX7_copy 15 = .ok (.aload_n 1, 1) := by decide +kernel
theorem dX7_copy_16 : decode cX7_copy 16 = .ok (.iload_n 2, 1) := by decide +kernel
theorem dX7_copy_17 : decode cX7_copy 17 = .ok (.invokevirtual 26, 3) := by decide +kernel
theorem dX7_copy_20 : decode cX7_copy 20 = .ok (.invokevirtual 30, 3) := by decide +kernel
theorem dX7_copy_23 : decode cX7_copy 23 = .ok (.iinc 2 1, 3) := by decide +kernel
theorem dX7_copy_26 : decode cX7_copy 26 = .ok (.goto (-20), 3) := by decide +kernel
theorem dX7_copy_29 : decode cX7_copy 29 = .ok (.return_, 1) := by decide +kernel
theorem dX8_init_0 : decode cX8_init 0 = .ok (.aload_n 0, 1) := by decide +kernel
theorem dX8_init_1 : decode cX8_init 1 = .ok (.invokespecial 3, 3) := by decide +kernel
theorem dX8_init_4 : decode cX8_init 4 = .ok (.aload_n 0, 1) := by decide +kernel
theorem dX8_init_5 : decode cX8_init 5 = .ok (.ldc2_w 9, 3) := by decide +kernel
theorem dX8_init_8 : decode cX8_init 8 = .ok (.putfield 11, 3) := by decide +kernel
theorem dX8_init_11 : decode cX8_init 11 = .ok (.aload_n 0, 1) := by decide +kernel
theorem dX8_init_12 : decode cX8_init 12 = .ok (.sipush 1024, 3) := by decide +kernel
theorem dX8_init_15 : decode cX8_init 15 = .ok (.newarray .int, 2) := by decide +kernel
theorem dX8_init_17 : decode cX8_init 17 = .ok (.putfield 17, 3) := by decide +kernel
theorem dX8_init_20 : decode cX8_init 20 = .ok (.aload_n 0, 1) := by decide +kernel
theorem dX8_init_21 : decode cX8_init 21 = .ok (.sipush 1024, 3) := by decide +kernel
theorem dX8_init_24 : decode cX8_init 24 = .ok (.newarray .int, 2) := by decide +kernel
theorem dX8_init_26 : decode cX8_init 26 = .ok (.putfield 21, 3) := by decide +kernel
theorem dX8_init_29 : decode cX8_init 29 = .ok (.aload_n 0, 1) := by decide +kernel
theorem dX8_init_30 : decode cX8_init 30 = .ok (.sipush 1024, 3) := by decide +kernel
theorem dX8_init_33 : decode cX8_init 33 = .ok (.newarray .int, 2) := by decide +kernel
theorem dX8_init_35 : decode cX8_init 35 = .ok (.putfield 24, 3) := by decide +kernel
theorem dX8_init_38 : decode cX8_init 38 = .ok (.aload_n 0, 1) := by decide +kernel
theorem dX8_init_39 : decode cX8_init 39 = .ok (.sipush 1024, 3) := by decide +kernel
theorem dX8_init_42 : decode cX8_init 42 = .ok (.newarray .int, 2) := by decide +kernel
theorem dX8_init_44 : decode cX8_init 44 = .ok (.putfield 27, 3) := by decide +kernel
theorem dX8_init_47 : decode cX8_init 47 = .ok (.aload_n 0, 1) := by decide +kernel
theorem dX8_init_48 : decode cX8_init 48 = .ok (.sipush 1024, 3) := by decide +kernel
theorem dX8_init_51 : decode cX8_init 51 = .ok (.newarray .int, 2) := by decide +kernel
theorem dX8_init_53 : decode cX8_init 53 = .ok (.putfield 30, 3) := by decide +kernel
theorem dX8_init_56 : decode cX8_init 56 = .ok (.aload_n 0, 1) := by decide +kernel
theorem dX8_init_57 : decode cX8_init 57 = .ok (.iconst 5, 1) := by decide +kernel
theorem dX8_init_58 : decode cX8_init 58 = .ok (.newarray .int, 2) := by decide +kernel
theorem dX8_init_60 : decode cX8_init 60 = .ok (.putfield 33, 3) := by decide +kernel
theorem dX8_init_63 : decode cX8_init 63 = .ok (.aload_n 0, 1) := by decide +kernel
theorem dX8_init_64 : decode cX8_init 64 = .ok (.iconst 4, 1) := by decide +kernel
theorem dX8_init_65 : decode cX8_init 65 = .ok (.newarray .int, 2) := by decide +kernel
theorem dX8_init_67 : decode cX8_init 67 = .ok (.putfield 36, 3) := by decide +kernel
theorem dX8_init_70 : decode cX8_init 70 = .ok (.return_, 1) := by decide +kernel
set_option maxRecDepth 20000 in
theorem ggX8_search_X2_people : GoodIn wsX8_search wsX2_people := goodIn_r _ [12, 13, 14, 15, 16, 17, 18, 19, 138, 139, 140, 141, 142, 143, 144, 145, 146] (by decide +kernel) (by decide +kernel)
set_option maxRecDepth 20000 in
theorem gX8_search_X2_people : GoodIn wsX8_search (wsV RX8 45 RX2 yX2_people wsX2_people) := goodIn_app (goodIn_of _ (by decide +kernel)) ggX8_search_X2_people
set_option maxRecDepth 20000 in
theorem ggX8_search_X2_wayBits : GoodIn wsX8_search wsX2_wayBits := goodIn_r _ [23, 24, 138, 139, 140, 141, 142, 143, 144] (by decide +kernel) (by decide +kernel)
set_option maxRecDepth 20000 in
theorem gX8_search_X2_wayBits : GoodIn wsX8_search (wsV RX8 54 RX2 yX2_wayBits wsX2_wayBits) := goodIn_app (goodIn_of _ (by decide +kernel)) ggX8_search_X2_wayBits
set_option maxRecDepth 20000 in
theorem ggX8_search_X1_fits : GoodIn wsX8_search wsX1_fits := goodIn_r _ [29, 30, 31, 32, 33, 34, 35, 28, 36, 37, 38, 39, 113, 114, 115, 116, 117, 118, 119, 120, 121, 122] (by decide +kernel) (by decide +kernel)
set_option maxRecDepth 20000 in
theorem gX8_search_X1_fits : GoodIn wsX8_search (wsV RX8 63 RX1 yX1_fits wsX1_fits) := goodIn_app (goodIn_of _ (by decide +kernel)) ggX8_search_X1_fits
set_option maxRecDepth 20000 in
theorem ggX8_search_X8_state : GoodIn wsX8_search wsX8_state := goodIn_r _ [44, 2, 45, 46, 47, 17, 48, 19, 49, 123, 124, 125, 126, 127, 128, 129, 130, 131, 132, 133, 134, 135, 136, 137, 145, 146] (by decide +kernel) (by decide +kernel)
set_option maxRecDepth 20000 in
theorem gX8_search_X8_state : GoodIn wsX8_search (wsV RX8 71 RX8 yX8_state wsX8_state) := goodIn_app (goodIn_of _ (by decide +kernel)) ggX8_search_X8_state
set_option maxRecDepth 20000 in
theorem ggX8_search_X8_searchAnew : GoodIn wsX8_search wsX8_searchAnew := goodIn_r _ [53, 54, 55, 56, 57, 58, 43, 59, 60, 61, 62, 63, 64, 65, 66, 2, 67, 68, 69, 70, 71, 72, 73, 74, 75, 76, 77, 78, 79, 80, 81, 82, 83, 84, 85, 86, 87, 88, 89, 90, 91, 92, 93, 94, 3, 4, 95, 96, 97, 98, 99, 100, 101, 102, 103, 104, 105, 106, 107, 108, 109, 110, 111, 112, 123, 124, 125, 126, 127, 128, 129, 130, 131, 132, 133, 134, 135, 136, 137] (by decide +kernel) (by decide +kernel)
set_option maxRecDepth 20000 in
theorem gX8_search_X8_searchAnew : GoodIn wsX8_search (wsV RX8 78 RX8 yX8_searchAnew wsX8_searchAnew) := goodIn_app (goodIn_of _ (by decide +kernel)) ggX8_search_X8_searchAnew
theorem dX8_search_0 : decode cX8_search 0 = .ok (.aload_n 0, 1) := by decide +kernel
theorem dX8_search_1 : decode cX8_search 1 = .ok (.aload_n 1, 1) := by decide +kernel
theorem dX8_search_2 : decode cX8_search 2 = .ok (.getfield 39, 3) := by decide +kernel
theorem dX8_search_5 : decode cX8_search 5 = .ok (.invokevirtual 45, 3) := by decide +kernel
theorem dX8_search_8 : decode cX8_search 8 = .ok (.putfield 51, 3) := by decide +kernel
theorem dX8_search_11 : decode cX8_search 11 = .ok (.aload_n 0, 1) := by decide +kernel
theorem dX8_search_12 : decode cX8_search 12 = .ok (.aload_n 1, 1) := by decide +kernel
theorem dX8_search_13 : decode cX8_search 13 = .ok (.getfield 39, 3) := by decide +kernel
theorem dX8_search_16 : decode cX8_search 16 = .ok (.invokevirtual 54, 3) := by decide +kernel
theorem dX8_search_19 : decode cX8_search 19 = .ok (.putfield 57, 3) := by decide +kernel
theorem dX8_search_22 : decode cX8_search 22 = .ok (.aload_n 0, 1) := by decide +kernel
theorem dX8_search_23 : decode cX8_search 23 = .ok (.iconst 0, 1) := by decide +kernel
theorem dX8_search_24 : decode cX8_search 24 = .ok (.putfield 60, 3) := by decide +kernel
theorem dX8_search_27 : decode cX8_search 27 = .ok (.iconst 1, 1) := by decide +kernel
theorem dX8_search_28 : decode cX8_search 28 = .ok (.istore_n 3, 1) := by decide +kernel
theorem dX8_search_29 : decode cX8_search 29 = .ok (.iload_n 3, 1) := by decide +kernel
theorem dX8_search_30 : decode cX8_search 30 = .ok (.iconst 5, 1) := by decide +kernel
theorem dX8_search_31 : decode cX8_search 31 = .ok (.if_icmp .gt 34, 3) := by decide +kernel
theorem dX8_search_34 : decode cX8_search 34 = .ok (.aload_n 0, 1) := by decide +kernel
theorem dX8_search_35 : decode cX8_search 35 = .ok (.dup, 1) := by decide +kernel
theorem dX8_search_36 : decode cX8_search 36 = .ok (.getfield 60, 3) := by decide +kernel
theorem dX8_search_39 : decode cX8_search 39 = .ok (.aload_n 1, 1) := by decide +kernel
theorem dX8_search_40 : decode cX8_search 40 = .ok (.iload_n 2, 1) := by decide +kernel
theorem dX8_search_41 : decode cX8_search 41 = .ok (.iload_n 3, 1) := by decide +kernel
theorem dX8_search_42 : decode cX8_search 42 = .ok (.invokevirtual 63, 3) := by decide +kernel
theorem dX8_search_45 : decode cX8_search 45 = .ok (.ifCond .eq 9, 3) := by decide +kernel
theorem dX8_search_48 : decode cX8_search 48 = .ok (.iconst 1, 1) := by decide +kernel
theorem dX8_search_49 : decode cX8_search 49 = .ok (.iload_n 3, 1) := by decide +kernel
theorem dX8_search_50 : decode cX8_search 50 = .ok (.ishl, 1) := by decide +kernel
theorem dX8_search_51 : decode cX8_search 51 = .ok (.goto 4, 3) := by decide +kernel
theorem dX8_search_54 : decode cX8_search 54 = .ok (.iconst 0, 1) := by decide +kernel
theorem dX8_search_55 : decode cX8_search 55 = .ok (.ior, 1) := by decide +kernel
theorem dX8_search_56 : decode cX8_search 56 = .ok (.putfield 60, 3) := by decide +kernel
theorem dX8_search_59 : decode cX8_search 59 = .ok (.iinc 3 1, 3) := by decide +kernel
theorem dX8_search_62 : decode cX8_search 62 = .ok (.goto (-33), 3) := by decide +kernel
theorem dX8_search_65 : decode cX8_search 65 = .ok (.aload_n 0, 1) := by decide +kernel
theorem dX8_search_66 : decode cX8_search 66 = .ok (.aload_n 1, 1) := by decide +kernel
theorem dX8_search_67 : decode cX8_search 67 = .ok (.getfield 39, 3) := by decide +kernel
theorem dX8_search_70 : decode cX8_search 70 = .ok (.getfield 67, 3) := by decide +kernel
theorem dX8_search_73 : decode cX8_search 73 = .ok (.invokevirtual 71, 3) := by decide +kernel
theorem dX8_search_76 : decode cX8_search 76 = .ok (.istore_n 3, 1) := by decide +kernel
theorem dX8_search_77 : decode cX8_search 77 = .ok (.aload_n 0, 1) := by decide +kernel
theorem dX8_search_78 : decode cX8_search 78 = .ok (.aload_n 1, 1) := by decide +kernel
theorem dX8_search_79 : decode cX8_search 79 = .ok (.getfield 39, 3) := by decide +kernel
theorem dX8_search_82 : decode cX8_search 82 = .ok (.getfield 75, 3) := by decide +kernel
theorem dX8_search_85 : decode cX8_search 85 = .ok (.invokevirtual 71, 3) := by decide +kernel
theorem dX8_search_88 : decode cX8_search 88 = .ok (.istore 4, 2) := by decide +kernel
theorem dX8_search_90 : decode cX8_search 90 = .ok (.aload_n 0, 1) := by decide +kernel
theorem dX8_search_91 : decode cX8_search 91 = .ok (.getfield 57, 3) := by decide +kernel
theorem dX8_search_94 : decode cX8_search 94 = .ok (.i2l, 1) := by decide +kernel
theorem dX8_search_95 : decode cX8_search 95 = .ok (.bipush 6, 2) := by decide +kernel
theorem dX8_search_97 : decode cX8_search 97 = .ok (.lshl, 1) := by decide +kernel
theorem dX8_search_98 : decode cX8_search 98 = .ok (.aload_n 0, 1) := by decide +kernel
theorem dX8_search_99 : decode cX8_search 99 = .ok (.getfield 60, 3) := by decide +kernel
theorem dX8_search_102 : decode cX8_search 102 = .ok (.i2l, 1) := by decide +kernel
theorem dX8_search_103 : decode cX8_search 103 = .ok (.lor, 1) := by decide +kernel
theorem dX8_search_104 : decode cX8_search 104 = .ok (.lstore 5, 2) := by decide +kernel
theorem dX8_search_106 : decode cX8_search 106 = .ok (.lload 5, 2) := by decide +kernel
theorem dX8_search_108 : decode cX8_search 108 = .ok (.iconst 3, 1) := by decide +kernel
theorem dX8_search_109 : decode cX8_search 109 = .ok (.lshl, 1) := by decide +kernel
theorem dX8_search_110 : decode cX8_search 110 = .ok (.aload_n 0, 1) := by decide +kernel
theorem dX8_search_111 : decode cX8_search 111 = .ok (.getfield 51, 3) := by decide +kernel
theorem dX8_search_114 : decode cX8_search 114 = .ok (.i2l, 1) := by decide +kernel
theorem dX8_search_115 : decode cX8_search 115 = .ok (.lor, 1) := by decide +kernel
theorem dX8_search_116 : decode cX8_search 116 = .ok (.bipush 10, 2) := by decide +kernel
theorem dX8_search_118 : decode cX8_search 118 = .ok (.lshl, 1) := by decide +kernel
theorem dX8_search_119 : decode cX8_search 119 = .ok (.iload_n 3, 1) := by decide +kernel
theorem dX8_search_120 : decode cX8_search 120 = .ok (.i2l, 1) := by decide +kernel
theorem dX8_search_121 : decode cX8_search 121 = .ok (.lor, 1) := by decide +kernel
theorem dX8_search_122 : decode cX8_search 122 = .ok (.lstore 5, 2) := by decide +kernel
theorem dX8_search_124 : decode cX8_search 124 = .ok (.lload 5, 2) := by decide +kernel
theorem dX8_search_126 : decode cX8_search 126 = .ok (.bipush 10, 2) := by decide +kernel
theorem dX8_search_128 : decode cX8_search 128 = .ok (.lshl, 1) := by decide +kernel
theorem dX8_search_129 : decode cX8_search 129 = .ok (.iload 4, 2) := by decide +kernel
theorem dX8_search_131 : decode cX8_search 131 = .ok (.i2l, 1) := by decide +kernel
theorem dX8_search_132 : decode cX8_search 132 = .ok (.lor, 1) := by decide +kernel
theorem dX8_search_133 : decode cX8_search 133 = .ok (.lstore 5, 2) := by decide +kernel
theorem dX8_search_135 : decode cX8_search 135 = .ok (.lload 5, 2) := by decide +kernel
theorem dX8_search_137 : decode cX8_search 137 = .ok (.aload_n 0, 1) := by decide +kernel
theorem dX8_search_138 : decode cX8_search 138 = .ok (.getfield 11, 3) := by decide +kernel
theorem dX8_search_141 : decode cX8_search 141 = .ok (.lcmp, 1) := by decide +kernel
theorem dX8_search_142 : decode cX8_search 142 = .ok (.ifCond .eq 16, 3) := by decide +kernel
theorem dX8_search_145 : decode cX8_search 145 = .ok (.aload_n 0, 1) := by decide +kernel
theorem dX8_search_146 : decode cX8_search 146 = .ok (.lload 5, 2) := by decide +kernel
theorem dX8_search_148 : decode cX8_search 148 = .ok (.putfield 11, 3) := by decide +kernel
theorem dX8_search_151 : decode cX8_search 151 = .ok (.aload_n 0, 1) := by decide +kernel
theorem dX8_search_152 : decode cX8_search 152 = .ok (.iload_n 3, 1) := by decide +kernel
theorem dX8_search_153 : decode cX8_search 153 = .ok (.iload 4, 2) := by decide +kernel
theorem dX8_search_155 : decode cX8_search 155 = .ok (.invokevirtual 78, 3) := by decide +kernel
theorem dX8_search_158 : decode cX8_search 158 = .ok (.return_, 1) := by decide +kernel
set_option maxRecDepth 20000 in
theorem ggX8_searchAnew_X8_spread : GoodIn wsX8_searchAnew wsX8_spread := goodIn_r _ [7, 1, 8, 9, 10, 11, 12, 13, 6, 14, 15, 16, 17, 18, 19, 20, 21, 22, 23, 24, 25, 26, 27, 28, 29, 30, 31, 32, 33, 34, 35, 36, 37, 38, 39, 40, 41, 42, 43, 44, 45, 46, 47, 48, 49, 64, 65, 66, 67, 68, 69, 70, 71, 72, 73, 74, 75, 76, 77, 78] (by decide +kernel) (by decide +kernel)
set_option maxRecDepth 20000 in
theorem gX8_searchAnew_X8_spread : GoodIn wsX8_searchAnew (wsV RX8 82 RX8 yX8_spread wsX8_spread) := goodIn_app (goodIn_of _ (by decide +kernel)) ggX8_searchAnew_X8_spread
set_option maxRecDepth 20000 in
theorem ggX8_searchAnew_X8_findNever : GoodIn wsX8_searchAnew wsX8_findNever := goodIn_r _ [53, 15, 54, 1, 11, 12, 13, 6, 14, 16, 17, 18, 19, 55, 56, 57, 58, 29, 30, 31, 32, 64, 65, 66, 67, 68, 69, 70, 71, 72, 73, 74, 75, 76, 77, 78] (by decide +kernel) (by decide +kernel)
set_option maxRecDepth 20000 in
theorem gX8_searchAnew_X8_findNever : GoodIn wsX8_searchAnew (wsV RX8 89 RX8 yX8_findNever wsX8_findNever) := goodIn_app (goodIn_of _ (by decide +kernel)) ggX8_searchAnew_X8_findNever
set_option maxRecDepth 20000 in
theorem ggX8_searchAnew_X8_findPath : GoodIn wsX8_searchAnew wsX8_findPath := goodIn_r _ [62, 63, 2, 9, 1, 10, 16, 17, 18, 19, 20, 21, 22, 6, 23, 24, 25, 26, 27, 15, 28, 29, 30, 31, 32, 33, 34, 35, 36, 37, 38, 39, 40, 41, 42, 43, 44, 45, 46, 47, 48, 49, 64, 65, 66, 67, 68, 69, 70, 71, 72, 73, 74, 75, 76, 77, 78] (by decide +kernel) (by decide +kernel)
set_option maxRecDepth 20000 in
theorem gX8_searchAnew_X8_findPath : GoodIn wsX8_searchAnew (wsV RX8 92 RX8 yX8_findPath wsX8_findPath) := goodIn_app (goodIn_of _ (by decide +kernel)) ggX8_searchAnew_X8_findPath
theorem dX8_searchAnew_0 : decode cX8_searchAnew 0 = .ok (.aload_n 0, 1) := by decide +kernel
theorem dX8_searchAnew_1 : decode cX8_searchAnew 1 = .ok (.iload_n 1, 1) := by decide +kernel
theorem dX8_searchAnew_2 : decode cX8_searchAnew 2 = .ok (.invokevirtual 82, 3) := by decide +kernel
theorem dX8_searchAnew_5 : decode cX8_searchAnew 5 = .ok (.aload_n 0, 1) := by decide +kernel
theorem dX8_searchAnew_6 : decode cX8_searchAnew 6 = .ok (.aload_n 0, 1) := by decide +kernel
theorem dX8_searchAnew_7 : decode cX8_searchAnew 7 = .ok (.getfield 17, 3) := by decide +kernel
theorem dX8_searchAnew_10 : decode cX8_searchAnew 10 = .ok (.iload_n 2, 1) := by decide +kernel
theorem dX8_searchAnew_11 : decode cX8_searchAnew 11 = .ok (.iaload, 1) := by decide +kernel
theorem dX8_searchAnew_12 : decode cX8_searchAnew 12 = .ok (.putfield 86, 3) := by decide +kernel
theorem dX8_searchAnew_15 : decode cX8_searchAnew 15 = .ok (.aload_n 0, 1) := by decide +kernel
theorem dX8_searchAnew_16 : decode cX8_searchAnew 16 = .ok (.iload_n 2, 1) := by decide +kernel
theorem dX8_searchAnew_17 : decode cX8_searchAnew 17 = .ok (.invokevirtual 89, 3) := by decide +kernel
theorem dX8_searchAnew_20 : decode cX8_searchAnew 20 = .ok (.aload_n 0, 1) := by decide +kernel
theorem dX8_searchAnew_21 : decode cX8_searchAnew 21 = .ok (.getfield 86, 3) := by decide +kernel
theorem dX8_searchAnew_24 : decode cX8_searchAnew 24 = .ok (.iconst (-1), 1) := by decide +kernel
theorem dX8_searchAnew_25 : decode cX8_searchAnew 25 = .ok (.if_icmp .eq 13, 3) := by decide +kernel
theorem dX8_searchAnew_28 : decode cX8_searchAnew 28 = .ok (.aload_n 0, 1) := by decide +kernel
theorem dX8_searchAnew_29 : decode cX8_searchAnew 29 = .ok (.iload_n 2, 1) := by decide +kernel
theorem dX8_searchAnew_30 : decode cX8_searchAnew 30 = .ok (.invokevirtual 82, 3) := by decide +kernel
theorem dX8_searchAnew_33 : decode cX8_searchAnew 33 = .ok (.aload_n 0, 1) := by decide +kernel
theorem dX8_searchAnew_34 : decode cX8_searchAnew 34 = .ok (.iload_n 1, 1) := by decide +kernel
theorem dX8_searchAnew_35 : decode cX8_searchAnew 35 = .ok (.invokevirtual 92, 3) := by decide +kernel
theorem dX8_searchAnew_38 : decode cX8_searchAnew 38 = .ok (.return_, 1) := by decide +kernel
theorem dX8_shift_0 : decode cX8_shift 0 = .ok (.iconst 2, 1) := by decide +kernel
theorem dX8_shift_1 : decode cX8_shift 1 = .ok (.aload_n 0, 1) := by decide +kernel
theorem dX8_shift_2 : decode cX8_shift 2 = .ok (.getfield 51, 3) := by decide +kernel
theorem dX8_shift_5 : decode cX8_shift 5 = .ok (.iconst 1, 1) := by decide +kernel
theorem dX8_shift_6 : decode cX8_shift 6 = .ok (.isub, 1) := by decide +kernel
theorem dX8_shift_7 : decode cX8_shift 7 = .ok (.iload_n 1, 1) := by decide +kernel
theorem dX8_shift_8 : decode cX8_shift 8 = .ok (.isub, 1) := by decide +kernel
theorem dX8_shift_9 : decode cX8_shift 9 = .ok (.imul, 1) := by decide +kernel
theorem dX8_shift_10 : decode cX8_shift 10 = .ok (.ireturn, 1) := by decide +kernel
set_option maxRecDepth 20000 in
theorem ggX8_corner_X8_shift : GoodIn wsX8_corner wsX8_shift := goodIn_r _ [5, 6, 7, 8, 9, 10, 11, 12, 13, 14, 15, 16, 17, 18, 19, 20, 21] (by decide +kernel) (by decide +kernel)
set_option maxRecDepth 20000 in
theorem gX8_corner_X8_shift : GoodIn wsX8_corner (wsV RX8 95 RX8 yX8_shift wsX8_shift) := goodIn_app (goodIn_of _ (by decide +kernel)) ggX8_corner_X8_shift
theorem dX8_corner_0 : decode cX8_corner 0 = .ok (.iload_n 1, 1) := by decide +kernel
theorem dX8_corner_1 : decode cX8_corner 1 = .ok (.aload_n 0, 1) := by decide +kernel
theorem dX8_corner_2 : decode cX8_corner 2 = .ok (.iload_n 2, 1) := by decide +kernel
theorem dX8_corner_3 : decode cX8_corner 3 = .ok (.invokevirtual 95, 3) := by decide +kernel
theorem dX8_corner_6 : decode cX8_corner 6 = .ok (.ishr, 1) := by decide +kernel
theorem dX8_corner_7 : decode cX8_corner 7 = .ok (.iconst 3, 1) := by decide +kernel
theorem dX8_corner_8 : decode cX8_corner 8 = .ok (.iand, 1) := by decide +kernel
theorem dX8_corner_9 : decode cX8_corner 9 = .ok (.ireturn, 1) := by decide +kernel
set_option maxRecDepth 20000 in
theorem ggX8_state_X7_get : GoodIn wsX8_state wsX7_get := goodIn_r _ [6, 7, 8, 24, 25] (by decide +kernel) (by decide +kernel)
set_option maxRecDepth 20000 in
theorem gX8_state_X7_get : GoodIn wsX8_state (wsV RX8 99 RX7 yX7_get wsX7_get) := goodIn_app (goodIn_of _ (by decide +kernel)) ggX8_state_X7_get
theorem dX8_state_0 : decode cX8_state 0 = .ok (.iconst 0, 1) := by decide +kernel
theorem dX8_state_1 : decode cX8_state 1 = .ok (.istore_n 2, 1) := by decide +kernel
theorem dX8_state_2 : decode cX8_state 2 = .ok (.iconst 0, 1) := by decide +kernel
theorem dX8_state_3 : decode cX8_state 3 = .ok (.istore_n 3, 1) := by decide +kernel
theorem dX8_state_4 : decode cX8_state 4 = .ok (.iload_n 3, 1) := by decide +kernel
theorem dX8_state_5 : decode cX8_state 5 = .ok (.aload_n 0, 1) := by decide +kernel
theorem dX8_state_6 : decode cX8_state 6 = .ok (.getfield 51, 3) := by decide +kernel
theorem dX8_state_9 : decode cX8_state 9 = .ok (.if_icmp .ge 21, 3) := by decide +kernel
theorem dX8_state_12 : decode cX8_state 12 = .ok (.iload_n 2, 1) := by decide +kernel
theorem dX8_state_13 : decode cX8_state 13 = .ok (.iconst 2, 1) := by decide +kernel
theorem dX8_state_14 : decode cX8_state 14 = .ok (.ishl, 1) := by decide +kernel
theorem dX8_state_15 : decode cX8_state 15 = .ok (.aload_n 1, 1) := by decide +kernel
theorem dX8_state_16 : decode cX8_state 16 = .ok (.iload_n 3, 1) := by decide +kernel
theorem dX8_state_17 : decode cX8_state 17 = .ok (.invokevirtual 99, 3) := by decide +kernel
theorem dX8_state_20 : decode cX8_state 20 = .ok (.iconst 3, 1) := by decide +kernel
theorem dX8_state_21 : decode cX8_state 21 = .ok (.iand, 1) := by decide +kernel
theorem dX8_state_22 : decode cX8_state 22 = .ok (.ior, 1) := by decide +kernel
theorem dX8_state_23 : decode cX8_state 23 = .ok (.istore_n 2, 1) := by decide +kernel
theorem dX8_state_24 : decode cX8_state 24 = .ok (.iinc 3 1, 3) := by decide +kernel
theorem dX8_state_27 : decode cX8_state 27 = .ok (.goto (-23), 3) := by decide +kernel
theorem dX8_state_30 : decode cX8_state 30 = .ok (.iload_n 2, 1) := by decide +kernel
theorem dX8_state_31 : decode cX8_state 31 = .ok (.sipush 1023, 3) := by decide +kernel
theorem dX8_state_34 : decode cX8_state 34 = .ok (.iand, 1) := by decide +kernel
theorem dX8_state_35 : decode cX8_state 35 = .ok (.ireturn, 1) := by decide +kernel
theorem dX8_stateCount_0 : decode cX8_stateCount 0 = .ok (.iconst 1, 1) := by decide +kernel
theorem dX8_stateCount_1 : decode cX8_stateCount 1 = .ok (.iconst 2, 1) := by decide +kernel
theorem dX8_stateCount_2 : decode cX8_stateCount 2 = .ok (.aload_n 0, 1) := by decide +kernel
theorem dX8_stateCount_3 : decode cX8_stateCount 3 = .ok (.getfield 51, 3) := by decide +kernel
theorem dX8_stateCount_6 : decode cX8_stateCount 6 = .ok (.imul, 1) := by decide +kernel
theorem dX8_stateCount_7 : decode cX8_stateCount 7 = .ok (.ishl, 1) := by decide +kernel
theorem dX8_stateCount_8 : decode cX8_stateCount 8 = .ok (.sipush 1024, 3) := by decide +kernel
theorem dX8_stateCount_11 : decode cX8_stateCount 11 = .ok (.invokestatic 104, 3) := by decide +kernel
theorem dX8_stateCount_14 : decode cX8_stateCount 14 = .ok (.ireturn, 1) := by decide +kernel
set_option maxRecDepth 20000 in
theorem ggX8_spread_X8_stateCount : GoodIn wsX8_spread wsX8_stateCount := goodIn_r _ [9, 10, 11, 12, 13, 14, 45, 46, 47, 48, 49, 50, 51, 52, 53, 54, 55, 56, 57, 58, 59] (by decide +kernel) (by decide +kernel)
set_option maxRecDepth 20000 in
theorem gX8_spread_X8_stateCount : GoodIn wsX8_spread (wsV RX8 110 RX8 yX8_stateCount wsX8_stateCount) := goodIn_app (goodIn_of _ (by decide +kernel)) ggX8_spread_X8_stateCount
set_option maxRecDepth 20000 in
theorem ggX8_spread_X8_findNear : GoodIn wsX8_spread wsX8_findNear := goodIn_r _ [18, 4, 3, 19, 20, 21, 8, 22, 10, 23, 24, 25, 26, 27, 28, 29, 30, 31, 32, 33, 34, 35, 36, 37, 38, 39, 40, 41, 42, 43, 44, 11, 12, 13, 14, 45, 46, 47, 48, 49, 50, 51, 52, 53, 54, 55, 56, 57, 58, 59] (by decide +kernel) (by decide +kernel)
set_option maxRecDepth 20000 in
theorem gX8_spread_X8_findNear : GoodIn wsX8_spread (wsV RX8 113 RX8 yX8_findNear wsX8_findNear) := goodIn_app (goodIn_of _ (by decide +kernel)) ggX8_spread_X8_findNear
theorem dX8_spread_0 : decode cX8_spread 0 = .ok (.iconst 0, 1) := by decide +kernel
theorem dX8_spread_1 : decode cX8_spread 1 = .ok (.istore_n 2, 1) := by decide +kernel
theorem dX8_spread_2 : decode cX8_spread 2 = .ok (.iload_n 2, 1) := by decide +kernel
theorem dX8_spread_3 : decode cX8_spread 3 = .ok (.sipush 1024, 3) := by decide +kernel
theorem dX8_spread_6 : decode cX8_spread 6 = .ok (.if_icmp .ge 16, 3) := by decide +kernel
theorem dX8_spread_9 : decode cX8_spread 9 = .ok (.aload_n 0, 1) := by decide +kernel
theorem dX8_spread_10 : decode cX8_spread 10 = .ok (.getfield 17, 3) := by decide +kernel
theorem dX8_spread_13 : decode cX8_spread 13 = .ok (.iload_n 2, 1) := by decide +kernel
theorem dX8_spread_14 : decode cX8_spread 14 = .ok (.iconst (-1), 1) := by decide +kernel
theorem dX8_spread_15 : decode cX8_spread 15 = .ok (.iastore, 1) := by decide +kernel
theorem dX8_spread_16 : decode cX8_spread 16 = .ok (.iinc 2 1, 3) := by decide +kernel
theorem dX8_spread_19 : decode cX8_spread 19 = .ok (.goto (-17), 3) := by decide +kernel
theorem dX8_spread_22 : decode cX8_spread 22 = .ok (.aload_n 0, 1) := by decide +kernel
theorem dX8_spread_23 : decode cX8_spread 23 = .ok (.getfield 17, 3) := by decide +kernel
theorem dX8_spread_26 : decode cX8_spread 26 = .ok (.iload_n 1, 1) := by decide +kernel
theorem dX8_spread_27 : decode cX8_spread 27 = .ok (.iconst 0, 1) := by decide +kernel
theorem dX8_spread_28 : decode cX8_spread 28 = .ok (.iastore, 1) := by decide +kernel
theorem dX8_spread_29 : decode cX8_spread 29 = .ok (.aload_n 0, 1) := by decide +kernel

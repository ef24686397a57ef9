def wsL_ring_r1 : List Cond := [Cond.classLink RL 13 "java/util/NoSuchElementException", Cond.methodLink RL 7 yX8_ring, Cond.instanceMethod yX8_ring, Cond.selects RX8 yX8_ring yX8_ring, Cond.initialized RX8, Cond.code yX8_ring cX8_ring 5 (some .int), Cond.classLink RX8 144 "java/util/NoSuchElementException", Cond.initialized "java/util/NoSuchElementException", Cond.fieldLink RX8 26 "RoundDays" "plan" "LRoundDays$Plan;", Cond.methodLink RX8 133 yX3_hasTwoDays, Cond.instanceMethod yX3_hasTwoDays, Cond.selects RX3 yX3_hasTwoDays yX3_hasTwoDays, Cond.initialized RX3, Cond.code yX3_hasTwoDays cX3_hasTwoDays 3 (some .boolean), Cond.fieldLink RX3 19 "RoundDays$Plan" "days" "I", Cond.methodLink RX8 140 yX3_circleAt, Cond.instanceMethod yX3_circleAt, Cond.selects RX3 yX3_circleAt yX3_circleAt, Cond.code yX3_circleAt cX3_circleAt 8 (some .int), Cond.fieldLink RX3 15 "RoundDays$Plan" "teams" "I", Cond.methodLink RX3 36 yX3_circleOf, Cond.instanceMethod yX3_circleOf, Cond.selects RX3 yX3_circleOf yX3_circleOf, Cond.code yX3_circleOf cX3_circleOf 8 (some .int)]
def wsL_ring_r2 : List Cond := [Cond.methodLink RX3 32 yX3_partner, Cond.instanceMethod yX3_partner, Cond.selects RX3 yX3_partner yX3_partner, Cond.code yX3_partner cX3_partner 3 (some .int), Cond.fieldLink RX3 9 "RoundDays$Plan" "rows" "[I"]
def wsL_ring : List Cond := .codeWith yL_ring cL_ring 6 (some .int) [(0, 12, 15, 13)] :: ((wsL_ring_r1 ++ wsL_ring_r2) ++ wsX80 ++ wsX30 ++ (vx_at0 RX8 146 "java/util/NoSuchElementException" ["java/lang/RuntimeException", "java/lang/Exception"]).filter goodWord)
def wsL_law0_r1 : List Cond := [Cond.classLink RL 8 RX8, Cond.instantiable RX8 13, Cond.initialized RX8, Cond.classLink RL 16 RX9, Cond.instantiable RX9 29, Cond.initialized RX9, Cond.arrayClass .long, Cond.methodLink RL 15 yX8_init, Cond.instanceMethod yX8_init, Cond.code yX8_init cX8_init 2 none, Cond.methodLink RX8 1 objectInit, Cond.instanceMethod objectInit, Cond.code objectInit ⟨#[0xb1]⟩ 1 none, Cond.classLink RX8 7 RX7, Cond.instantiable RX7 2, Cond.initialized RX7, Cond.fieldLink RX8 10 "RoundDays" "tape" "LRoundDays$Tape;", Cond.classLink RX8 16 RX5, Cond.instantiable RX5 9, Cond.initialized RX5, Cond.fieldLink RX8 19 "RoundDays" "reader" "LRoundDays$Reader;", Cond.classLink RX8 23 RX3, Cond.instantiable RX3 3, Cond.initialized RX3]
def wsL_law0_r2 : List Cond := [Cond.fieldLink RX8 26 "RoundDays" "plan" "LRoundDays$Plan;", Cond.fieldLink RX8 30 "RoundDays" "kept" "[LRoundDays$Plan;", Cond.arrayClass .boolean, Cond.fieldLink RX8 34 "RoundDays" "filled" "[Z", Cond.classLink RX8 38 RX0, Cond.instantiable RX0 3, Cond.initialized RX0, Cond.fieldLink RX8 41 "RoundDays" "acts" "LRoundDays$Acts;", Cond.classLink RX8 45 RX2, Cond.instantiable RX2 8, Cond.initialized RX2, Cond.fieldLink RX8 48 "RoundDays" "finder" "LRoundDays$Finder;", Cond.classLink RX8 52 RX6, Cond.instantiable RX6 7, Cond.initialized RX6, Cond.fieldLink RX8 55 "RoundDays" "starterList" "LRoundDays$StarterList;", Cond.classLink RX8 59 RX4, Cond.instantiable RX4 4, Cond.initialized RX4, Cond.fieldLink RX8 62 "RoundDays" "profile" "LRoundDays$Profile;", Cond.fieldLink RX8 66 "RoundDays" "keptProfile" "LRoundDays$Profile;", Cond.classLink RX8 69 RX1, Cond.instantiable RX1 1, Cond.initialized RX1]
def wsL_law0_r3 : List Cond := [Cond.fieldLink RX8 72 "RoundDays" "dice" "LRoundDays$Dice;", Cond.arrayClass .int, Cond.fieldLink RX8 76 "RoundDays" "told" "[I", Cond.fieldLink RX8 80 "RoundDays" "faultKind" "I", Cond.instanceMethod yX7_init, Cond.code yX7_init cX7_init 1 none, Cond.methodLink RX7 3 objectInit, Cond.fieldLink RX7 9 "RoundDays$Tape" "bytes" "[I", Cond.instanceMethod yX5_init, Cond.code yX5_init cX5_init 1 none, Cond.methodLink RX5 3 objectInit, Cond.classLink RX5 9 RX3, Cond.fieldLink RX5 12 "RoundDays$Reader" "plan" "LRoundDays$Plan;", Cond.fieldLink RX5 18 "RoundDays$Reader" "row" "[I", Cond.instanceMethod yX3_init, Cond.code yX3_init cX3_init 1 none, Cond.methodLink RX3 3 objectInit, Cond.fieldLink RX3 9 "RoundDays$Plan" "rows" "[I", Cond.methodLink RX8 40 yX0_init, Cond.instanceMethod yX0_init, Cond.code yX0_init cX0_init 2 none, Cond.methodLink RX0 3 objectInit, Cond.classLink RX0 9 RX3, Cond.fieldLink RX0 11 "RoundDays$Acts" "before" "[LRoundDays$Plan;"]
def wsL_law0_r4 : List Cond := [Cond.instanceMethod yX2_init, Cond.code yX2_init cX2_init 1 none, Cond.methodLink RX2 3 objectInit, Cond.fieldLink RX2 9 "RoundDays$Finder" "found" "[I", Cond.fieldLink RX2 15 "RoundDays$Finder" "free" "[I", Cond.fieldLink RX2 18 "RoundDays$Finder" "ends" "[I", Cond.fieldLink RX2 21 "RoundDays$Finder" "stamps" "[I", Cond.fieldLink RX2 24 "RoundDays$Finder" "ways" "[I", Cond.instanceMethod yX6_init, Cond.code yX6_init cX6_init 1 none, Cond.methodLink RX6 3 objectInit, Cond.fieldLink RX6 9 "RoundDays$StarterList" "row" "[I", Cond.classLink RX6 15 RX3, Cond.fieldLink RX6 18 "RoundDays$StarterList" "plan" "LRoundDays$Plan;", Cond.instanceMethod yX4_init, Cond.code yX4_init cX4_init 1 none, Cond.methodLink RX4 3 objectInit, Cond.fieldLink RX4 9 "RoundDays$Profile" "signs" "[I", Cond.fieldLink RX4 15 "RoundDays$Profile" "daysOfSign" "[I", Cond.fieldLink RX4 18 "RoundDays$Profile" "pairsOfRings" "[I", Cond.instanceMethod yX1_init, Cond.code yX1_init cX1_init 1 none, Cond.methodLink RX1 1 objectInit, Cond.methodLink RL 18 yX9_init]
def wsL_law0_r5 : List Cond := [Cond.instanceMethod yX9_init, Cond.code yX9_init cX9_init 1 none, Cond.methodLink RX9 62 objectInit, Cond.fieldLink RX9 11 "RoundDaysModel" "tape" "[I", Cond.fieldLink RX9 68 "RoundDaysModel" "now" "[I", Cond.fieldLink RX9 71 "RoundDaysModel" "read" "[I", Cond.fieldLink RX9 74 "RoundDaysModel" "kept" "[I", Cond.fieldLink RX9 77 "RoundDaysModel" "snaps" "[I", Cond.fieldLink RX9 80 "RoundDaysModel" "before" "[I", Cond.fieldLink RX9 83 "RoundDaysModel" "live" "[I", Cond.fieldLink RX9 86 "RoundDaysModel" "other" "[I", Cond.fieldLink RX9 89 "RoundDaysModel" "isKept" "[Z", Cond.fieldLink RX9 93 "RoundDaysModel" "waysOf" "[I", Cond.fieldLink RX9 96 "RoundDaysModel" "sought" "[I", Cond.fieldLink RX9 99 "RoundDaysModel" "starterRow" "[I", Cond.fieldLink RX9 102 "RoundDaysModel" "wantedRow" "[I", Cond.fieldLink RX9 105 "RoundDaysModel" "order" "[I", Cond.methodLink RL 19 yX8_feed, Cond.instanceMethod yX8_feed, Cond.selects RX8 yX8_feed yX8_feed, Cond.code yX8_feed cX8_feed 6 (some .int), Cond.fieldLink RX8 84 "RoundDays$Tape" "length" "I", Cond.methodLink RX8 87 yX7_push, Cond.instanceMethod yX7_push]
def wsL_law0_r6 : List Cond := [Cond.selects RX7 yX7_push yX7_push, Cond.code yX7_push cX7_push 3 none, Cond.fieldLink RX7 15 "RoundDays$Tape" "length" "I", Cond.methodLink RL 23 yX9_feed, Cond.instanceMethod yX9_feed, Cond.selects RX9 yX9_feed yX9_feed, Cond.code yX9_feed cX9_feed 6 (some .int), Cond.fieldLink RX9 1 "RoundDaysModel" "thrown" "I", Cond.fieldLink RX9 15 "RoundDaysModel" "taped" "I", Cond.methodLink RX9 18 yX9_lay, Cond.instanceMethod yX9_lay, Cond.selects RX9 yX9_lay yX9_lay, Cond.code yX9_lay cX9_lay 3 none, Cond.methodLink RL 24 yX8_end, Cond.instanceMethod yX8_end, Cond.selects RX8 yX8_end yX8_end, Cond.code yX8_end cX8_end 2 (some .boolean), Cond.methodLink RL 28 yX9_end, Cond.instanceMethod yX9_end, Cond.selects RX9 yX9_end yX9_end, Cond.code yX9_end cX9_end 2 (some .boolean), Cond.methodLink RL 29 yX8_text, Cond.instanceMethod yX8_text, Cond.selects RX8 yX8_text yX8_text]
def wsL_law0_r7 : List Cond := [Cond.code yX8_text cX8_text 2 (some .int), Cond.fieldLink RX8 95 "RoundDays$Reader" "faultKind" "I", Cond.fieldLink RX8 96 "RoundDays$Reader" "faultPlace" "I", Cond.fieldLink RX8 99 "RoundDays$Reader" "plan" "LRoundDays$Plan;", Cond.fieldLink RX8 107 "RoundDays$Reader" "lines" "I", Cond.methodLink RX8 91 yX5_read, Cond.instanceMethod yX5_read, Cond.selects RX5 yX5_read yX5_read, Cond.code yX5_read cX5_read 4 (some .boolean), Cond.fieldLink RX5 26 "RoundDays$Reader" "lines" "I", Cond.fieldLink RX5 30 "RoundDays$Reader" "faultKind" "I", Cond.fieldLink RX5 33 "RoundDays$Reader" "faultPlace" "I", Cond.fieldLink RX5 36 "RoundDays$Reader" "next" "I", Cond.fieldLink RX5 43 "RoundDays$Reader" "kind" "I", Cond.methodLink RX5 22 yX3_clear, Cond.instanceMethod yX3_clear, Cond.selects RX3 yX3_clear yX3_clear, Cond.code yX3_clear cX3_clear 2 none, Cond.fieldLink RX3 15 "RoundDays$Plan" "teams" "I", Cond.fieldLink RX3 19 "RoundDays$Plan" "days" "I", Cond.methodLink RX5 39 yX5_step, Cond.instanceMethod yX5_step, Cond.selects RX5 yX5_step yX5_step, Cond.code yX5_step cX5_step 2 none]
def wsL_law0_r8 : List Cond := [Cond.fieldLink RX5 93 "RoundDays$Tape" "length" "I", Cond.fieldLink RX5 90 "RoundDays$Reader" "start" "I", Cond.methodLink RX5 98 yX7_at, Cond.instanceMethod yX7_at, Cond.selects RX7 yX7_at yX7_at, Cond.code yX7_at cX7_at 2 (some .int), Cond.methodLink RX5 102 yX5_isBlank, Cond.static yX5_isBlank, Cond.code yX5_isBlank cX5_isBlank 1 (some .boolean), Cond.methodLink RX5 105 yX5_stepOverRun, Cond.instanceMethod yX5_stepOverRun, Cond.selects RX5 yX5_stepOverRun yX5_stepOverRun, Cond.code yX5_stepOverRun cX5_stepOverRun 4 none, Cond.fieldLink RX5 57 "RoundDays$Reader" "value" "I", Cond.methodLink RX5 108 yX5_isLetter, Cond.static yX5_isLetter, Cond.code yX5_isLetter cX5_isLetter 1 (some .boolean), Cond.methodLink RX5 111 yX5_isDigit, Cond.static yX5_isDigit, Cond.code yX5_isDigit cX5_isDigit 1 (some .boolean), Cond.methodLink RX5 115 yX5_spells, Cond.instanceMethod yX5_spells, Cond.selects RX5 yX5_spells yX5_spells, Cond.code yX5_spells cX5_spells 4 (some .boolean)]
def wsL_law0_r9 : List Cond := [Cond.fieldLink RX5 126 "RoundDays$Tape" "bytes" "[I", Cond.methodLink RX5 121 yJ0_length_8abf5, Cond.instanceMethod yJ0_length_8abf5, Cond.selects RJ0 yJ0_length_8abf5 yJ0_length_8abf5, Cond.initialized RJ0, Cond.code yJ0_length_8abf5 cJ0_length_8abf5 1 (some .int), Cond.fieldLink RJ0 9 "java/lang/String" "value" "[B", Cond.methodLink RJ0 335 yJ0_coder_7d493, Cond.instanceMethod yJ0_coder_7d493, Cond.selects RJ0 yJ0_coder_7d493 yJ0_coder_7d493, Cond.code yJ0_coder_7d493 cJ0_coder_7d493 1 (some .byte), Cond.fieldLink RJ0 38 "java/lang/String" "COMPACT_STRINGS" "Z", Cond.fieldLink RJ0 15 "java/lang/String" "coder" "B", Cond.methodLink RX5 129 yJ0_charAt_5068e, Cond.instanceMethod yJ0_charAt_5068e, Cond.selects RJ0 yJ0_charAt_5068e yJ0_charAt_5068e, Cond.code yJ0_charAt_5068e cJ0_charAt_5068e 2 (some .char), Cond.methodLink RJ0 492 yJ0_isLatin1_aae02, Cond.instanceMethod yJ0_isLatin1_aae02, Cond.selects RJ0 yJ0_isLatin1_aae02 yJ0_isLatin1_aae02, Cond.code yJ0_isLatin1_aae02 cJ0_isLatin1_aae02 1 (some .boolean), Cond.methodLink RJ0 495 yJ1_charAt_3b067, Cond.static yJ1_charAt_3b067, Cond.initialized RJ1]
def wsL_law0_r10 : List Cond := [Cond.code yJ1_charAt_3b067 cJ1_charAt_3b067 2 (some .char), Cond.methodLink RJ1 9 yJ0_checkIndex_df160, Cond.static yJ0_checkIndex_df160, Cond.code yJ0_checkIndex_df160 cJ0_checkIndex_df160 2 none, Cond.fieldLink RJ0 1053 "jdk/internal/util/Preconditions" "SIOOBE_FORMATTER" "Ljava/util/function/BiFunction;", Cond.methodLink RJ0 1059 yJ3_checkIndex_8e157, Cond.static yJ3_checkIndex_8e157, Cond.initialized RJ3, Cond.code yJ3_checkIndex_8e157 cJ3_checkIndex_8e157 3 (some .int), Cond.methodLink RJ0 498 yJ2_charAt_3b067, Cond.static yJ2_charAt_3b067, Cond.initialized RJ2, Cond.code yJ2_charAt_3b067 cJ2_charAt_3b067 2 (some .char), Cond.methodLink RJ2 67 yJ2_checkIndex_2214a, Cond.static yJ2_checkIndex_2214a, Cond.code yJ2_checkIndex_2214a cJ2_checkIndex_2214a 2 none, Cond.methodLink RJ2 48 yJ2_length_9d52b, Cond.static yJ2_length_9d52b, Cond.code yJ2_length_9d52b cJ2_length_9d52b 1 (some .int), Cond.methodLink RJ2 414 yJ0_checkIndex_df160, Cond.methodLink RJ2 71 yJ2_getChar_3b067, Cond.static yJ2_getChar_3b067, Cond.code yJ2_getChar_3b067 cJ2_getChar_3b067 2 (some .char), Cond.fieldLink RJ2 44 "java/lang/StringUTF16" "$assertionsDisabled" "Z"]
def wsL_law0_r11 : List Cond := [Cond.fieldLink RJ2 59 "java/lang/StringUTF16" "HI_BYTE_SHIFT" "I", Cond.fieldLink RJ2 63 "java/lang/StringUTF16" "LO_BYTE_SHIFT" "I", Cond.methodLink RX5 46 yX5_readTeams, Cond.instanceMethod yX5_readTeams, Cond.selects RX5 yX5_readTeams yX5_readTeams, Cond.code yX5_readTeams cX5_readTeams 2 (some .boolean), Cond.methodLink RX5 53 yX5_refuse, Cond.instanceMethod yX5_refuse, Cond.selects RX5 yX5_refuse yX5_refuse, Cond.code yX5_refuse cX5_refuse 2 (some .boolean), Cond.methodLink RX5 60 yX5_readLineEnd, Cond.instanceMethod yX5_readLineEnd, Cond.selects RX5 yX5_readLineEnd yX5_readLineEnd, Cond.code yX5_readLineEnd cX5_readLineEnd 2 (some .boolean), Cond.methodLink RX5 50 yX5_readDay, Cond.instanceMethod yX5_readDay, Cond.selects RX5 yX5_readDay yX5_readDay, Cond.code yX5_readDay cX5_readDay 5 (some .boolean), Cond.fieldLink RX5 63 "RoundDays$Plan" "days" "I", Cond.fieldLink RX5 66 "RoundDays$Plan" "teams" "I", Cond.methodLink RX5 69 yX5_readTeam, Cond.instanceMethod yX5_readTeam, Cond.selects RX5 yX5_readTeam yX5_readTeam, Cond.code yX5_readTeam cX5_readTeam 2 (some .boolean)]
def wsL_law0_r12 : List Cond := [Cond.methodLink RX5 80 yX3_hasTeam, Cond.instanceMethod yX3_hasTeam, Cond.selects RX3 yX3_hasTeam yX3_hasTeam, Cond.code yX3_hasTeam cX3_hasTeam 2 (some .boolean), Cond.methodLink RX5 72 yX5_readPair, Cond.instanceMethod yX5_readPair, Cond.selects RX5 yX5_readPair yX5_readPair, Cond.code yX5_readPair cX5_readPair 3 (some .boolean), Cond.methodLink RX5 83 yX3_dayOf, Cond.instanceMethod yX3_dayOf, Cond.selects RX3 yX3_dayOf yX3_dayOf, Cond.code yX3_dayOf cX3_dayOf 4 (some .int), Cond.methodLink RX3 28 yX3_hasTwoTeams, Cond.instanceMethod yX3_hasTwoTeams, Cond.selects RX3 yX3_hasTwoTeams yX3_hasTwoTeams, Cond.code yX3_hasTwoTeams cX3_hasTwoTeams 3 (some .boolean), Cond.methodLink RX5 87 yX3_hasTwoTeams, Cond.methodLink RX5 76 yX3_append, Cond.instanceMethod yX3_append, Cond.selects RX3 yX3_append yX3_append, Cond.code yX3_append cX3_append 2 none, Cond.methodLink RX3 22 arraycopyName, Cond.native arraycopyName, Cond.static arraycopyName]
def wsL_law0_r13 : List Cond := [Cond.initialized "java/lang/System", Cond.methodLink RX8 100 yX3_copy, Cond.instanceMethod yX3_copy, Cond.selects RX3 yX3_copy yX3_copy, Cond.code yX3_copy cX3_copy 2 none, Cond.methodLink RX8 104 yX0_forget, Cond.instanceMethod yX0_forget, Cond.selects RX0 yX0_forget yX0_forget, Cond.code yX0_forget cX0_forget 1 none, Cond.fieldLink RX0 18 "RoundDays$Acts" "held" "I", Cond.methodLink RL 33 yX9_text, Cond.instanceMethod yX9_text, Cond.selects RX9 yX9_text yX9_text, Cond.code yX9_text cX9_text 3 (some .int), Cond.fieldLink RX9 22 "RoundDaysModel" "size" "I", Cond.fieldLink RX9 56 "RoundDaysModel" "fault" "I", Cond.fieldLink RX9 25 "RoundDaysModel" "to" "I", Cond.fieldLink RX9 31 "RoundDaysModel" "kind" "I", Cond.fieldLink RX9 59 "RoundDaysModel" "place" "I", Cond.fieldLink RX9 154 "RoundDaysModel" "snapMany" "I", Cond.methodLink RX9 112 yX9_next, Cond.instanceMethod yX9_next, Cond.selects RX9 yX9_next yX9_next, Cond.code yX9_next cX9_next 5 none]
def wsL_law0_r14 : List Cond := [Cond.fieldLink RX9 28 "RoundDaysModel" "from" "I", Cond.fieldLink RX9 41 "RoundDaysModel" "word" "J", Cond.fieldLink RX9 45 "RoundDaysModel" "number" "I", Cond.constantLong RX9 52 (27), Cond.constantLong RX9 54 (96), Cond.methodLink RX9 34 yX9_isLetter, Cond.static yX9_isLetter, Cond.code yX9_isLetter cX9_isLetter 1 (some .boolean), Cond.methodLink RX9 38 yX9_isDigit, Cond.static yX9_isDigit, Cond.code yX9_isDigit cX9_isDigit 1 (some .boolean), Cond.methodLink RX9 48 yX9_tapeAt, Cond.instanceMethod yX9_tapeAt, Cond.selects RX9 yX9_tapeAt yX9_tapeAt, Cond.code yX9_tapeAt cX9_tapeAt 2 (some .int), Cond.methodLink RX9 144 yX9_readLine, Cond.instanceMethod yX9_readLine, Cond.selects RX9 yX9_readLine yX9_readLine, Cond.code yX9_readLine cX9_readLine 1 (some .boolean), Cond.methodLink RX9 129 yX9_spelt, Cond.static yX9_spelt, Cond.code yX9_spelt cX9_spelt 7 (some .long), Cond.methodLink RX9 133 yX9_isWord, Cond.instanceMethod yX9_isWord]
def wsL_law0_r15 : List Cond := [Cond.selects RX9 yX9_isWord yX9_isWord, Cond.code yX9_isWord cX9_isWord 3 (some .boolean), Cond.methodLink RX9 137 yX9_readTeams, Cond.instanceMethod yX9_readTeams, Cond.selects RX9 yX9_readTeams yX9_readTeams, Cond.code yX9_readTeams cX9_readTeams 1 (some .boolean), Cond.methodLink RX9 115 yX9_bad, Cond.instanceMethod yX9_bad, Cond.selects RX9 yX9_bad yX9_bad, Cond.code yX9_bad cX9_bad 2 (some .boolean), Cond.methodLink RX9 118 yX9_isIn, Cond.static yX9_isIn, Cond.code yX9_isIn cX9_isIn 3 (some .boolean), Cond.methodLink RX9 141 yX9_readDay, Cond.instanceMethod yX9_readDay, Cond.selects RX9 yX9_readDay yX9_readDay, Cond.code yX9_readDay cX9_readDay 5 (some .boolean), Cond.methodLink RX9 7 yX9_has, Cond.static yX9_has, Cond.code yX9_has cX9_has 2 (some .boolean), Cond.methodLink RX9 122 yX9_metOn, Cond.static yX9_metOn, Cond.code yX9_metOn cX9_metOn 4 (some .int), Cond.methodLink RX9 108 yX9_meets]
def wsL_law0_r16 : List Cond := [Cond.static yX9_meets, Cond.code yX9_meets cX9_meets 3 (some .int), Cond.methodLink RX9 125 yX9_pairs, Cond.static yX9_pairs, Cond.code yX9_pairs cX9_pairs 4 none, Cond.methodLink RX9 147 yX9_readEnd, Cond.instanceMethod yX9_readEnd, Cond.selects RX9 yX9_readEnd yX9_readEnd, Cond.code yX9_readEnd cX9_readEnd 1 (some .boolean), Cond.methodLink RX9 150 yX9_copy, Cond.static yX9_copy, Cond.code yX9_copy cX9_copy 5 none, Cond.methodLink RL 34 yX8_fault, Cond.instanceMethod yX8_fault, Cond.selects RX8 yX8_fault yX8_fault, Cond.code yX8_fault cX8_fault 1 (some .int), Cond.methodLink RL 37 yX9_fault, Cond.instanceMethod yX9_fault, Cond.selects RX9 yX9_fault yX9_fault, Cond.code yX9_fault cX9_fault 1 (some .int), Cond.methodLink RL 38 yX8_now, Cond.instanceMethod yX8_now, Cond.selects RX8 yX8_now yX8_now, Cond.code yX8_now cX8_now 2 (some .int)]
def wsL_law0_r17 : List Cond := [Cond.fieldLink RX8 110 "RoundDays$Plan" "teams" "I", Cond.fieldLink RX8 113 "RoundDays$Plan" "days" "I", Cond.fieldLink RX8 123 "RoundDays$Acts" "held" "I", Cond.methodLink RX8 116 yX4_measure, Cond.instanceMethod yX4_measure, Cond.selects RX4 yX4_measure yX4_measure, Cond.code yX4_measure cX4_measure 5 none, Cond.fieldLink RX4 21 "RoundDays$Plan" "days" "I", Cond.methodLink RX4 27 Lib.Math.min.name, Cond.static Lib.Math.min.name, Cond.initialized "java/lang/Math", Cond.code Lib.Math.min.name Lib.Math.min.code 2 (some .int), Cond.fieldLink RX4 33 "RoundDays$Profile" "days" "I", Cond.methodLink RX4 34 yX4_clear, Cond.instanceMethod yX4_clear, Cond.selects RX4 yX4_clear yX4_clear, Cond.code yX4_clear cX4_clear 2 none, Cond.methodLink RX4 37 yX3_circles, Cond.instanceMethod yX3_circles, Cond.selects RX3 yX3_circles yX3_circles, Cond.code yX3_circles cX3_circles 6 (some .int), Cond.methodLink RX3 36 yX3_circleOf, Cond.instanceMethod yX3_circleOf, Cond.selects RX3 yX3_circleOf yX3_circleOf]
def wsL_law0_r18 : List Cond := [Cond.code yX3_circleOf cX3_circleOf 8 (some .int), Cond.methodLink RX3 32 yX3_partner, Cond.instanceMethod yX3_partner, Cond.selects RX3 yX3_partner yX3_partner, Cond.code yX3_partner cX3_partner 3 (some .int), Cond.methodLink RX8 119 yX4_makes, Cond.instanceMethod yX4_makes, Cond.selects RX4 yX4_makes yX4_makes, Cond.code yX4_makes cX4_makes 2 (some .int), Cond.methodLink RL 42 yX9_now, Cond.instanceMethod yX9_now, Cond.selects RX9 yX9_now yX9_now, Cond.code yX9_now cX9_now 2 (some .int), Cond.methodLink RX9 157 yX9_teams, Cond.instanceMethod yX9_teams, Cond.selects RX9 yX9_teams yX9_teams, Cond.code yX9_teams cX9_teams 1 (some .int), Cond.methodLink RX9 161 yX9_days, Cond.instanceMethod yX9_days, Cond.selects RX9 yX9_days yX9_days, Cond.code yX9_days cX9_days 1 (some .int), Cond.methodLink RX9 182 yX9_isPerfect, Cond.static yX9_isPerfect, Cond.code yX9_isPerfect cX9_isPerfect 1 (some .boolean)]
def wsL_law0_r19 : List Cond := [Cond.methodLink RX9 178 yX9_makes, Cond.static yX9_makes, Cond.code yX9_makes cX9_makes 5 (some .int), Cond.methodLink RX9 175 yX9_ringMany, Cond.static yX9_ringMany, Cond.code yX9_ringMany cX9_ringMany 5 (some .int), Cond.methodLink RX9 164 yX9_least, Cond.static yX9_least, Cond.code yX9_least cX9_least 2 (some .int), Cond.methodLink RX9 167 yX9_ringOf, Cond.static yX9_ringOf, Cond.code yX9_ringOf cX9_ringOf 7 (some .int), Cond.methodLink RL 43 yX8_meets, Cond.instanceMethod yX8_meets, Cond.selects RX8 yX8_meets yX8_meets, Cond.code yX8_meets cX8_meets 3 (some .int), Cond.methodLink RX8 126 yX3_partner, Cond.methodLink RL 47 yX9_meets_, Cond.instanceMethod yX9_meets_, Cond.selects RX9 yX9_meets_ yX9_meets_, Cond.code yX9_meets_ cX9_meets_ 3 (some .int), Cond.methodLink RX9 186 yX9_isDay, Cond.instanceMethod yX9_isDay, Cond.selects RX9 yX9_isDay yX9_isDay]
def wsL_law0_r20 : List Cond := [Cond.code yX9_isDay cX9_isDay 2 (some .boolean), Cond.methodLink RX9 189 yX9_isTeam, Cond.instanceMethod yX9_isTeam, Cond.selects RX9 yX9_isTeam yX9_isTeam, Cond.code yX9_isTeam cX9_isTeam 2 (some .boolean), Cond.methodLink RL 48 yX8_met, Cond.instanceMethod yX8_met, Cond.selects RX8 yX8_met yX8_met, Cond.code yX8_met cX8_met 3 (some .int), Cond.methodLink RX8 130 yX3_dayOf, Cond.methodLink RL 51 yX9_met, Cond.instanceMethod yX9_met, Cond.selects RX9 yX9_met yX9_met, Cond.code yX9_met cX9_met 3 (some .int), Cond.methodLink RL 52 yX8_rings, Cond.instanceMethod yX8_rings, Cond.selects RX8 yX8_rings yX8_rings, Cond.code yX8_rings cX8_rings 3 (some .int), Cond.methodLink RX8 133 yX3_hasTwoDays, Cond.instanceMethod yX3_hasTwoDays, Cond.selects RX3 yX3_hasTwoDays yX3_hasTwoDays, Cond.code yX3_hasTwoDays cX3_hasTwoDays 3 (some .boolean), Cond.methodLink RX8 137 yX3_circles, Cond.methodLink RL 55 yX9_rings]
def wsL_law0_r21 : List Cond := [Cond.instanceMethod yX9_rings, Cond.selects RX9 yX9_rings yX9_rings, Cond.code yX9_rings cX9_rings 3 (some .int), Cond.methodLink RL 56 yL_ring, Cond.static yL_ring, Cond.initialized RL, Cond.codeWith yL_ring cL_ring 6 (some .int) [(0, 12, 15, 13)], Cond.classLink RL 13 "java/util/NoSuchElementException", Cond.methodLink RL 7 yX8_ring, Cond.instanceMethod yX8_ring, Cond.selects RX8 yX8_ring yX8_ring, Cond.code yX8_ring cX8_ring 5 (some .int), Cond.classLink RX8 144 "java/util/NoSuchElementException", Cond.initialized "java/util/NoSuchElementException", Cond.methodLink RX8 140 yX3_circleAt, Cond.instanceMethod yX3_circleAt, Cond.selects RX3 yX3_circleAt yX3_circleAt, Cond.code yX3_circleAt cX3_circleAt 8 (some .int), Cond.methodLink RL 61 yX9_ring, Cond.instanceMethod yX9_ring, Cond.selects RX9 yX9_ring yX9_ring, Cond.code yX9_ring cX9_ring 7 (some .int), Cond.methodLink RX9 192 yX9_refuse, Cond.instanceMethod yX9_refuse]
def wsL_law0_r22 : List Cond := [Cond.selects RX9 yX9_refuse yX9_refuse, Cond.code yX9_refuse cX9_refuse 1 (some .int), Cond.methodLink RL 62 yX9_thrown, Cond.instanceMethod yX9_thrown, Cond.selects RX9 yX9_thrown yX9_thrown, Cond.code yX9_thrown cX9_thrown 1 (some .int), Cond.methodLink RL 65 yX8_make, Cond.instanceMethod yX8_make, Cond.selects RX8 yX8_make yX8_make, Cond.code yX8_make cX8_make 2 (some .int), Cond.methodLink RL 68 yX9_make, Cond.instanceMethod yX9_make, Cond.selects RX9 yX9_make yX9_make, Cond.code yX9_make cX9_make 2 (some .int), Cond.methodLink RL 69 yX8_sign, Cond.instanceMethod yX8_sign, Cond.selects RX8 yX8_sign yX8_sign, Cond.code yX8_sign cX8_sign 2 (some .int), Cond.methodLink RX8 147 yX3_hasDay, Cond.instanceMethod yX3_hasDay, Cond.selects RX3 yX3_hasDay yX3_hasDay, Cond.code yX3_hasDay cX3_hasDay 2 (some .boolean), Cond.methodLink RX8 151 yX4_signOf, Cond.instanceMethod yX4_signOf]
def wsL_law0_r23 : List Cond := [Cond.selects RX4 yX4_signOf yX4_signOf, Cond.code yX4_signOf cX4_signOf 2 (some .int), Cond.methodLink RL 72 yX9_sign, Cond.instanceMethod yX9_sign, Cond.selects RX9 yX9_sign yX9_sign, Cond.code yX9_sign cX9_sign 2 (some .int), Cond.methodLink RX9 195 yX9_signOf, Cond.static yX9_signOf, Cond.code yX9_signOf cX9_signOf 4 (some .int), Cond.methodLink RX9 171 yX9_isOne, Cond.static yX9_isOne, Cond.code yX9_isOne cX9_isOne 3 (some .boolean), Cond.methodLink RL 73 yX8_may, Cond.instanceMethod yX8_may, Cond.selects RX8 yX8_may yX8_may, Cond.code yX8_may cX8_may 1 (some .int), Cond.methodLink RX8 154 yX2_countAll, Cond.instanceMethod yX2_countAll, Cond.selects RX2 yX2_countAll yX2_countAll, Cond.code yX2_countAll cX2_countAll 2 (some .int), Cond.fieldLink RX2 27 "RoundDays$Plan" "teams" "I", Cond.fieldLink RX2 37 "RoundDays$Finder" "all" "I", Cond.methodLink RX2 33 yX2_look, Cond.instanceMethod yX2_look]
def wsL_law0_r24 : List Cond := [Cond.selects RX2 yX2_look yX2_look, Cond.code yX2_look cX2_look 5 none, Cond.fieldLink RX2 65 "RoundDays$Plan" "days" "I", Cond.methodLink RX2 68 Lib.Math.min.name, Cond.fieldLink RX2 73 "RoundDays$Finder" "days" "I", Cond.fieldLink RX2 62 "RoundDays$Finder" "search" "I", Cond.methodLink RX2 74 yX3_partner, Cond.methodLink RX2 40 yX2_countFrom, Cond.instanceMethod yX2_countFrom, Cond.selects RX2 yX2_countFrom yX2_countFrom, Cond.code yX2_countFrom cX2_countFrom 8 (some .int), Cond.methodLink RX2 77 yX2_lowest, Cond.static yX2_lowest, Cond.code yX2_lowest cX2_lowest 3 (some .int), Cond.methodLink RX2 80 yX2_slot, Cond.static yX2_slot, Cond.code yX2_slot cX2_slot 1 (some .int), Cond.methodLink RL 76 yX9_may, Cond.instanceMethod yX9_may, Cond.selects RX9 yX9_may yX9_may, Cond.code yX9_may cX9_may 1 (some .int), Cond.methodLink RX9 198 yX9_laysWays, Cond.instanceMethod yX9_laysWays, Cond.selects RX9 yX9_laysWays yX9_laysWays]
def wsL_law0_r25 : List Cond := [Cond.code yX9_laysWays cX9_laysWays 5 none, Cond.methodLink RX9 201 yX9_all, Cond.instanceMethod yX9_all, Cond.selects RX9 yX9_all yX9_all, Cond.code yX9_all cX9_all 1 (some .int), Cond.methodLink RL 77 yX8_come, Cond.instanceMethod yX8_come, Cond.selects RX8 yX8_come yX8_come, Cond.code yX8_come cX8_come 3 (some .int), Cond.fieldLink RX8 165 "RoundDays$Finder" "found" "[I", Cond.methodLink RX8 158 yX3_hasTeam, Cond.methodLink RX8 161 yX2_find, Cond.instanceMethod yX2_find, Cond.selects RX2 yX2_find yX2_find, Cond.code yX2_find cX2_find 3 (some .boolean), Cond.methodLink RX2 44 yX2_firstFrom, Cond.instanceMethod yX2_firstFrom, Cond.selects RX2 yX2_firstFrom yX2_firstFrom, Cond.code yX2_firstFrom cX2_firstFrom 6 (some .boolean), Cond.methodLink RX2 48 yX2_lookAtEnds, Cond.instanceMethod yX2_lookAtEnds, Cond.selects RX2 yX2_lookAtEnds yX2_lookAtEnds, Cond.code yX2_lookAtEnds cX2_lookAtEnds 4 none, Cond.methodLink RX2 51 yX2_bestFrom]
def wsL_law0_r26 : List Cond := [Cond.instanceMethod yX2_bestFrom, Cond.selects RX2 yX2_bestFrom yX2_bestFrom, Cond.code yX2_bestFrom cX2_bestFrom 6 (some .boolean), Cond.methodLink RX2 84 yX2_closers, Cond.instanceMethod yX2_closers, Cond.selects RX2 yX2_closers yX2_closers, Cond.code yX2_closers cX2_closers 5 (some .int), Cond.methodLink RX2 94 yJ6_bitCount_0f7a4, Cond.static yJ6_bitCount_0f7a4, Cond.initialized RJ6, Cond.code yJ6_bitCount_0f7a4 cJ6_bitCount_0f7a4 1 (some .int), Cond.constant RJ6 265 (1431655765), Cond.constant RJ6 266 (858993459), Cond.constant RJ6 267 (252645135), Cond.methodLink RX2 87 yX2_join, Cond.instanceMethod yX2_join, Cond.selects RX2 yX2_join yX2_join, Cond.code yX2_join cX2_join 7 none, Cond.methodLink RX2 99 yX2_setEnd, Cond.instanceMethod yX2_setEnd, Cond.selects RX2 yX2_setEnd yX2_setEnd, Cond.code yX2_setEnd cX2_setEnd 4 none, Cond.methodLink RX2 91 yX2_part, Cond.instanceMethod yX2_part]
def wsL_law0_r27 : List Cond := [Cond.selects RX2 yX2_part yX2_part, Cond.code yX2_part cX2_part 5 none, Cond.methodLink RL 81 yX9_come, Cond.instanceMethod yX9_come, Cond.selects RX9 yX9_come yX9_come, Cond.code yX9_come cX9_come 3 (some .int), Cond.methodLink RX9 211 yX9_laysSought, Cond.instanceMethod yX9_laysSought, Cond.selects RX9 yX9_laysSought yX9_laysSought, Cond.code yX9_laysSought cX9_laysSought 3 (some .boolean), Cond.methodLink RX9 207 yX9_seeks, Cond.instanceMethod yX9_seeks, Cond.selects RX9 yX9_seeks yX9_seeks, Cond.code yX9_seeks cX9_seeks 6 (some .boolean), Cond.methodLink RX9 204 yX9_closesNone, Cond.instanceMethod yX9_closesNone, Cond.selects RX9 yX9_closesNone yX9_closesNone, Cond.code yX9_closesNone cX9_closesNone 6 (some .boolean), Cond.methodLink RL 82 yX8_sure, Cond.instanceMethod yX8_sure, Cond.selects RX8 yX8_sure yX8_sure, Cond.code yX8_sure cX8_sure 2 (some .int), Cond.methodLink RX8 168 yX2_onlyPartner, Cond.instanceMethod yX2_onlyPartner]
def wsL_law0_r28 : List Cond := [Cond.selects RX2 yX2_onlyPartner yX2_onlyPartner, Cond.code yX2_onlyPartner cX2_onlyPartner 4 (some .int), Cond.methodLink RX2 54 yX2_find, Cond.methodLink RX2 58 yX3_hasTeam, Cond.methodLink RL 85 yX9_sure, Cond.instanceMethod yX9_sure, Cond.selects RX9 yX9_sure yX9_sure, Cond.code yX9_sure cX9_sure 4 (some .int), Cond.methodLink RL 86 yX8_family, Cond.instanceMethod yX8_family, Cond.selects RX8 yX8_family yX8_family, Cond.code yX8_family cX8_family 3 (some .int), Cond.methodLink RX8 172 yX0_keep, Cond.instanceMethod yX0_keep, Cond.selects RX0 yX0_keep yX0_keep, Cond.code yX0_keep cX0_keep 2 none, Cond.fieldLink RX0 22 "RoundDays$Acts" "next" "I", Cond.methodLink RX0 29 Lib.Math.min.name, Cond.methodLink RX0 25 yX3_copy, Cond.methodLink RX8 175 yX3_fillWheel, Cond.instanceMethod yX3_fillWheel, Cond.selects RX3 yX3_fillWheel yX3_fillWheel, Cond.code yX3_fillWheel cX3_fillWheel 5 none, Cond.methodLink RX3 67 yX3_clear]
def wsL_law0_r29 : List Cond := [Cond.methodLink RX3 44 yX3_pair, Cond.instanceMethod yX3_pair, Cond.selects RX3 yX3_pair yX3_pair, Cond.code yX3_pair cX3_pair 4 none, Cond.methodLink RX8 178 yX3_fillTwins, Cond.instanceMethod yX3_fillTwins, Cond.selects RX3 yX3_fillTwins yX3_fillTwins, Cond.code yX3_fillTwins cX3_fillTwins 6 none, Cond.methodLink RL 89 yX9_family, Cond.instanceMethod yX9_family, Cond.selects RX9 yX9_family yX9_family, Cond.code yX9_family cX9_family 3 (some .int), Cond.methodLink RX9 215 yX9_snap, Cond.instanceMethod yX9_snap, Cond.selects RX9 yX9_snap yX9_snap, Cond.code yX9_snap cX9_snap 2 none, Cond.methodLink RX9 218 yX9_clears, Cond.static yX9_clears, Cond.code yX9_clears cX9_clears 3 none, Cond.methodLink RX9 222 yX9_laysTurns, Cond.instanceMethod yX9_laysTurns, Cond.selects RX9 yX9_laysTurns yX9_laysTurns, Cond.code yX9_laysTurns cX9_laysTurns 4 none, Cond.methodLink RX9 225 yX9_laysSums]
def wsL_law0_r30 : List Cond := [Cond.instanceMethod yX9_laysSums, Cond.selects RX9 yX9_laysSums yX9_laysSums, Cond.code yX9_laysSums cX9_laysSums 6 none, Cond.methodLink RL 90 yX8_starters, Cond.instanceMethod yX8_starters, Cond.selects RX8 yX8_starters yX8_starters, Cond.code yX8_starters cX8_starters 3 (some .int), Cond.fieldLink RX8 187 "RoundDays$StarterList" "counted" "I", Cond.fieldLink RX8 190 "RoundDays$StarterList" "perfect" "I", Cond.methodLink RX8 181 yX8_isStarterSize, Cond.static yX8_isStarterSize, Cond.code yX8_isStarterSize cX8_isStarterSize 1 (some .boolean), Cond.methodLink RX8 184 yX6_countAll, Cond.instanceMethod yX6_countAll, Cond.selects RX6 yX6_countAll yX6_countAll, Cond.code yX6_countAll cX6_countAll 3 none, Cond.methodLink RX6 22 yX6_begin, Cond.instanceMethod yX6_begin, Cond.selects RX6 yX6_begin yX6_begin, Cond.code yX6_begin cX6_begin 4 none, Cond.fieldLink RX6 34 "RoundDays$StarterList" "m" "I", Cond.fieldLink RX6 38 "RoundDays$StarterList" "wanted" "I", Cond.fieldLink RX6 41 "RoundDays$StarterList" "judging" "Z", Cond.fieldLink RX6 45 "RoundDays$StarterList" "counted" "I"]
def wsL_law0_r31 : List Cond := [Cond.fieldLink RX6 48 "RoundDays$StarterList" "perfect" "I", Cond.methodLink RX6 26 yX6_numbers, Cond.instanceMethod yX6_numbers, Cond.selects RX6 yX6_numbers yX6_numbers, Cond.code yX6_numbers cX6_numbers 1 (some .int), Cond.methodLink RX6 30 yX6_seek, Cond.instanceMethod yX6_seek, Cond.selects RX6 yX6_seek yX6_seek, Cond.code yX6_seek cX6_seek 8 (some .boolean), Cond.methodLink RX6 51 yX6_isWanted, Cond.instanceMethod yX6_isWanted, Cond.selects RX6 yX6_isWanted yX6_isWanted, Cond.code yX6_isWanted cX6_isWanted 1 (some .boolean), Cond.methodLink RX6 55 yX3_fillBy, Cond.instanceMethod yX3_fillBy, Cond.selects RX3 yX3_fillBy yX3_fillBy, Cond.code yX3_fillBy cX3_fillBy 5 none, Cond.methodLink RX6 59 yX3_isFirstOneWithAll, Cond.instanceMethod yX3_isFirstOneWithAll, Cond.selects RX3 yX3_isFirstOneWithAll yX3_isFirstOneWithAll, Cond.code yX3_isFirstOneWithAll cX3_isFirstOneWithAll 3 (some .boolean), Cond.methodLink RL 93 yX9_starters, Cond.instanceMethod yX9_starters, Cond.selects RX9 yX9_starters yX9_starters]
def wsL_law0_r32 : List Cond := [Cond.code yX9_starters cX9_starters 3 (some .int), Cond.fieldLink RX9 228 "RoundDaysModel" "starterMany" "I", Cond.fieldLink RX9 238 "RoundDaysModel" "perfectMany" "I", Cond.methodLink RX9 245 yX9_isOdd, Cond.static yX9_isOdd, Cond.code yX9_isOdd cX9_isOdd 1 (some .boolean), Cond.methodLink RX9 248 yX9_laysStarters, Cond.instanceMethod yX9_laysStarters, Cond.selects RX9 yX9_laysStarters yX9_laysStarters, Cond.code yX9_laysStarters cX9_laysStarters 4 none, Cond.fieldLink RX9 231 "RoundDaysModel" "wanted" "I", Cond.methodLink RX9 241 yX9_starts, Cond.instanceMethod yX9_starts, Cond.selects RX9 yX9_starts yX9_starts, Cond.code yX9_starts cX9_starts 8 none, Cond.methodLink RX9 234 yX9_laysBy, Cond.static yX9_laysBy, Cond.code yX9_laysBy cX9_laysBy 5 none, Cond.methodLink RL 94 yX8_starter, Cond.instanceMethod yX8_starter, Cond.selects RX8 yX8_starter yX8_starter, Cond.code yX8_starter cX8_starter 4 (some .int), Cond.fieldLink RX8 195 "RoundDays$StarterList" "row" "[I", Cond.methodLink RX8 193 yX6_find]
def wsL_law0_r33 : List Cond := [Cond.instanceMethod yX6_find, Cond.selects RX6 yX6_find yX6_find, Cond.code yX6_find cX6_find 3 (some .boolean), Cond.methodLink RL 97 yX9_starter, Cond.instanceMethod yX9_starter, Cond.selects RX9 yX9_starter yX9_starter, Cond.code yX9_starter cX9_starter 4 (some .int), Cond.methodLink RX9 252 yX9_laysStarter, Cond.instanceMethod yX9_laysStarter, Cond.selects RX9 yX9_laysStarter yX9_laysStarter, Cond.code yX9_laysStarter cX9_laysStarter 3 (some .boolean), Cond.methodLink RL 98 yX8_by, Cond.instanceMethod yX8_by, Cond.selects RX8 yX8_by yX8_by, Cond.code yX8_by cX8_by 3 (some .int), Cond.methodLink RX8 198 yX3_fillBy, Cond.methodLink RL 101 yX9_by, Cond.instanceMethod yX9_by, Cond.selects RX9 yX9_by yX9_by, Cond.code yX9_by cX9_by 3 (some .int), Cond.methodLink RL 102 yX8_turned, Cond.instanceMethod yX8_turned, Cond.selects RX8 yX8_turned yX8_turned, Cond.code yX8_turned cX8_turned 1 (some .int)]
def wsL_law0_r34 : List Cond := [Cond.methodLink RX8 202 yX3_turns, Cond.instanceMethod yX3_turns, Cond.selects RX3 yX3_turns yX3_turns, Cond.code yX3_turns cX3_turns 5 (some .int), Cond.methodLink RX3 58 yX3_isTurnedToDay, Cond.instanceMethod yX3_isTurnedToDay, Cond.selects RX3 yX3_isTurnedToDay yX3_isTurnedToDay, Cond.code yX3_isTurnedToDay cX3_isTurnedToDay 5 (some .boolean), Cond.methodLink RX3 61 yX3_turn, Cond.instanceMethod yX3_turn, Cond.selects RX3 yX3_turn yX3_turn, Cond.code yX3_turn cX3_turn 4 (some .int), Cond.methodLink RX3 64 yX3_dayOf, Cond.methodLink RL 105 yX9_turned, Cond.instanceMethod yX9_turned, Cond.selects RX9 yX9_turned yX9_turned, Cond.code yX9_turned cX9_turned 5 (some .int), Cond.methodLink RX9 255 yX9_isDayBy, Cond.instanceMethod yX9_isDayBy, Cond.selects RX9 yX9_isDayBy yX9_isDayBy, Cond.code yX9_isDayBy cX9_isDayBy 7 (some .boolean), Cond.methodLink RL 106 yX8_alike, Cond.instanceMethod yX8_alike, Cond.selects RX8 yX8_alike yX8_alike]
def wsL_law0_r35 : List Cond := [Cond.code yX8_alike cX8_alike 3 (some .int), Cond.methodLink RX8 206 yX8_isFilled, Cond.instanceMethod yX8_isFilled, Cond.selects RX8 yX8_isFilled yX8_isFilled, Cond.code yX8_isFilled cX8_isFilled 2 (some .boolean), Cond.methodLink RX8 209 yX4_same, Cond.instanceMethod yX4_same, Cond.selects RX4 yX4_same yX4_same, Cond.code yX4_same cX4_same 3 (some .boolean), Cond.methodLink RL 109 yX9_alike, Cond.instanceMethod yX9_alike, Cond.selects RX9 yX9_alike yX9_alike, Cond.code yX9_alike cX9_alike 3 (some .int), Cond.methodLink RX9 258 yX9_signed, Cond.static yX9_signed, Cond.code yX9_signed cX9_signed 4 (some .int), Cond.methodLink RL 110 yX8_tell, Cond.instanceMethod yX8_tell, Cond.selects RX8 yX8_tell yX8_tell, Cond.code yX8_tell cX8_tell 2 (some .int), Cond.methodLink RX8 213 yX8_readTold, Cond.instanceMethod yX8_readTold, Cond.selects RX8 yX8_readTold yX8_readTold, Cond.code yX8_readTold cX8_readTold 3 (some .boolean)]
def wsL_law0_r36 : List Cond := [Cond.methodLink RX8 249 yX7_at, Cond.methodLink RX8 227 yX3_hasTwoTeams, Cond.methodLink RX8 217 yX3_append, Cond.methodLink RL 113 yX9_tell, Cond.instanceMethod yX9_tell, Cond.selects RX9 yX9_tell yX9_tell, Cond.code yX9_tell cX9_tell 3 (some .int), Cond.methodLink RX9 261 yX9_isTold, Cond.instanceMethod yX9_isTold, Cond.selects RX9 yX9_isTold yX9_isTold, Cond.code yX9_isTold cX9_isTold 3 (some .boolean), Cond.methodLink RX9 264 yX9_comes, Cond.instanceMethod yX9_comes, Cond.selects RX9 yX9_comes yX9_comes, Cond.code yX9_comes cX9_comes 2 none, Cond.methodLink RL 114 yX8_add, Cond.instanceMethod yX8_add, Cond.selects RX8 yX8_add yX8_add, Cond.code yX8_add cX8_add 2 (some .int), Cond.methodLink RL 118 yX9_add, Cond.instanceMethod yX9_add, Cond.selects RX9 yX9_add yX9_add, Cond.code yX9_add cX9_add 2 (some .int), Cond.methodLink RL 119 yX8_addAll]
def wsL_law0_r37 : List Cond := [Cond.instanceMethod yX8_addAll, Cond.selects RX8 yX8_addAll yX8_addAll, Cond.code yX8_addAll cX8_addAll 3 (some .int), Cond.methodLink RL 122 yX9_addAll, Cond.instanceMethod yX9_addAll, Cond.selects RX9 yX9_addAll yX9_addAll, Cond.code yX9_addAll cX9_addAll 3 (some .int), Cond.methodLink RX9 267 yX9_stay, Cond.instanceMethod yX9_stay, Cond.selects RX9 yX9_stay yX9_stay, Cond.code yX9_stay cX9_stay 1 none, Cond.methodLink RL 123 yX8_drop, Cond.instanceMethod yX8_drop, Cond.selects RX8 yX8_drop yX8_drop, Cond.code yX8_drop cX8_drop 2 (some .int), Cond.methodLink RX8 221 yX3_remove, Cond.instanceMethod yX3_remove, Cond.selects RX3 yX3_remove yX3_remove, Cond.code yX3_remove cX3_remove 3 none, Cond.methodLink RX3 40 yX3_hasDay, Cond.methodLink RL 126 yX9_drop, Cond.instanceMethod yX9_drop, Cond.selects RX9 yX9_drop yX9_drop, Cond.code yX9_drop cX9_drop 2 (some .int)]
def wsL_law0_r38 : List Cond := [Cond.methodLink RX9 270 yX9_goes, Cond.instanceMethod yX9_goes, Cond.selects RX9 yX9_goes yX9_goes, Cond.code yX9_goes cX9_goes 3 none, Cond.methodLink RL 127 yX8_weed, Cond.instanceMethod yX8_weed, Cond.selects RX8 yX8_weed yX8_weed, Cond.code yX8_weed cX8_weed 4 (some .int), Cond.methodLink RX8 224 yX4_daysBelow, Cond.instanceMethod yX4_daysBelow, Cond.selects RX4 yX4_daysBelow yX4_daysBelow, Cond.code yX4_daysBelow cX4_daysBelow 4 (some .int), Cond.methodLink RL 130 yX9_weed, Cond.instanceMethod yX9_weed, Cond.selects RX9 yX9_weed yX9_weed, Cond.code yX9_weed cX9_weed 5 (some .int), Cond.methodLink RL 131 yX8_name, Cond.instanceMethod yX8_name, Cond.selects RX8 yX8_name yX8_name, Cond.code yX8_name cX8_name 3 (some .int), Cond.methodLink RX8 230 yX3_swapTeams, Cond.instanceMethod yX3_swapTeams, Cond.selects RX3 yX3_swapTeams yX3_swapTeams, Cond.code yX3_swapTeams cX3_swapTeams 7 (some .int)]
def wsL_law0_r39 : List Cond := [Cond.methodLink RL 134 yX9_name, Cond.instanceMethod yX9_name, Cond.selects RX9 yX9_name yX9_name, Cond.code yX9_name cX9_name 3 (some .int), Cond.methodLink RX9 273 yX9_names, Cond.instanceMethod yX9_names, Cond.selects RX9 yX9_names yX9_names, Cond.code yX9_names cX9_names 7 (some .int), Cond.methodLink RL 135 yX8_sort, Cond.instanceMethod yX8_sort, Cond.selects RX8 yX8_sort yX8_sort, Cond.code yX8_sort cX8_sort 2 (some .int), Cond.methodLink RX8 233 yX3_outOfOrder, Cond.instanceMethod yX3_outOfOrder, Cond.selects RX3 yX3_outOfOrder yX3_outOfOrder, Cond.code yX3_outOfOrder cX3_outOfOrder 5 (some .int), Cond.methodLink RX3 48 yX3_order, Cond.instanceMethod yX3_order, Cond.selects RX3 yX3_order yX3_order, Cond.code yX3_order cX3_order 5 (some .int), Cond.methodLink RX8 236 yX3_putInOrder, Cond.instanceMethod yX3_putInOrder, Cond.selects RX3 yX3_putInOrder yX3_putInOrder, Cond.code yX3_putInOrder cX3_putInOrder 3 none]
def wsL_law0_r40 : List Cond := [Cond.methodLink RX3 51 yX3_swapDays, Cond.instanceMethod yX3_swapDays, Cond.selects RX3 yX3_swapDays yX3_swapDays, Cond.code yX3_swapDays cX3_swapDays 5 none, Cond.methodLink RX3 55 yX3_hasTwoDays, Cond.methodLink RL 138 yX9_sort, Cond.instanceMethod yX9_sort, Cond.selects RX9 yX9_sort yX9_sort, Cond.code yX9_sort cX9_sort 4 (some .int), Cond.methodLink RX9 277 yX9_isLess, Cond.instanceMethod yX9_isLess, Cond.selects RX9 yX9_isLess yX9_isLess, Cond.code yX9_isLess cX9_isLess 4 (some .boolean), Cond.methodLink RL 139 yX8_drawn, Cond.instanceMethod yX8_drawn, Cond.selects RX8 yX8_drawn yX8_drawn, Cond.code yX8_drawn cX8_drawn 4 (some .int), Cond.fieldLink RX8 239 "RoundDays$Dice" "seed" "I", Cond.methodLink RX8 242 yX8_doDrawnDeed, Cond.instanceMethod yX8_doDrawnDeed, Cond.selects RX8 yX8_doDrawnDeed yX8_doDrawnDeed, Cond.code yX8_doDrawnDeed cX8_doDrawnDeed 1 none, Cond.methodLink RX8 252 yX1_draw, Cond.instanceMethod yX1_draw]
def wsL_law0_r41 : List Cond := [Cond.selects RX1 yX1_draw yX1_draw, Cond.code yX1_draw cX1_draw 2 (some .int), Cond.fieldLink RX1 7 "RoundDays$Dice" "seed" "I", Cond.constant RX1 13 (1103515245), Cond.methodLink RX8 255 yX8_dropDrawnDay, Cond.instanceMethod yX8_dropDrawnDay, Cond.selects RX8 yX8_dropDrawnDay yX8_dropDrawnDay, Cond.code yX8_dropDrawnDay cX8_dropDrawnDay 1 none, Cond.methodLink RX8 258 yX8_renameDrawnTeams, Cond.instanceMethod yX8_renameDrawnTeams, Cond.selects RX8 yX8_renameDrawnTeams yX8_renameDrawnTeams, Cond.code yX8_renameDrawnTeams cX8_renameDrawnTeams 3 none, Cond.methodLink RL 142 yX9_drawn, Cond.instanceMethod yX9_drawn, Cond.selects RX9 yX9_drawn yX9_drawn, Cond.code yX9_drawn cX9_drawn 4 (some .int), Cond.fieldLink RX9 280 "RoundDaysModel" "seed" "I", Cond.methodLink RX9 287 yX9_does, Cond.instanceMethod yX9_does, Cond.selects RX9 yX9_does yX9_does, Cond.code yX9_does cX9_does 3 none, Cond.methodLink RX9 284 yX9_draw, Cond.instanceMethod yX9_draw, Cond.selects RX9 yX9_draw yX9_draw]
def wsL_law0_r42 : List Cond := [Cond.code yX9_draw cX9_draw 2 (some .int), Cond.constant RX9 283 (1103515245), Cond.methodLink RL 143 yX8_undo, Cond.instanceMethod yX8_undo, Cond.selects RX8 yX8_undo yX8_undo, Cond.code yX8_undo cX8_undo 1 (some .int), Cond.methodLink RX8 245 yX0_takeBack, Cond.instanceMethod yX0_takeBack, Cond.selects RX0 yX0_takeBack yX0_takeBack, Cond.code yX0_takeBack cX0_takeBack 2 (some .boolean), Cond.methodLink RL 146 yX9_undo, Cond.instanceMethod yX9_undo, Cond.selects RX9 yX9_undo yX9_undo, Cond.code yX9_undo cX9_undo 1 (some .int), Cond.methodLink RL 147 yX8_image, Cond.instanceMethod yX8_image, Cond.selects RX8 yX8_image yX8_image, Cond.code yX8_image cX8_image 2 (some .boolean), Cond.methodLink RL 150 yX9_image, Cond.instanceMethod yX9_image, Cond.selects RX9 yX9_image yX9_image, Cond.code yX9_image cX9_image 2 (some .boolean), Cond.methodLink RL 151 yX8_restore, Cond.instanceMethod yX8_restore]
def wsL_law0_r43 : List Cond := [Cond.selects RX8 yX8_restore yX8_restore, Cond.code yX8_restore cX8_restore 2 (some .boolean), Cond.methodLink RL 154 yX9_restore, Cond.instanceMethod yX9_restore, Cond.selects RX9 yX9_restore yX9_restore, Cond.code yX9_restore cX9_restore 2 (some .boolean)]
set_option maxRecDepth 20000 in
theorem rd_mem {big : List Cond} (ws : List Cond) (ps : List Nat) (hp : ws = ps.filterMap (fun i => big[i]?)) : ∀ w ∈ ws, w ∈ big := by
  intro w hw
  rw [hp] at hw
  obtain ⟨i, -, hi⟩ := List.mem_filterMap.mp hw
  exact List.mem_of_getElem? hi
theorem in_wsL_law0_r1 : ∀ w ∈ wsL_law0_r1, w ∈ lw_tbl := rd_mem _ [91, 92, 70, 926, 920, 79, 1330, 93, 94, 95, 96, 97, 98, 99, 100, 71, 295, 116, 117, 72, 296, 177, 123, 73] (by decide +kernel)
theorem in_wsL_law0_r2 : ∀ w ∈ wsL_law0_r2, w ∈ lw_tbl := rd_mem _ [297, 298, 199, 299, 180, 181, 74, 300, 200, 201, 75, 301, 232, 233, 76, 302, 265, 266, 77, 303, 304, 284, 285, 78] (by decide +kernel)
theorem in_wsL_law0_r3 : ∀ w ∈ wsL_law0_r3, w ∈ lw_tbl := rd_mem _ [305, 115, 306, 307, 102, 103, 104, 105, 119, 120, 121, 122, 145, 153, 125, 126, 127, 137, 182, 183, 184, 185, 186, 191] (by decide +kernel)
theorem in_wsL_law0_r4 : ∀ w ∈ wsL_law0_r4, w ∈ lw_tbl := rd_mem _ [203, 204, 205, 206, 208, 211, 212, 213, 235, 236, 237, 240, 238, 246, 268, 269, 270, 272, 273, 274, 287, 288, 289, 927] (by decide +kernel)
theorem in_wsL_law0_r5 : ∀ w ∈ wsL_law0_r5, w ∈ lw_tbl := rd_mem _ [928, 929, 930, 932, 942, 943, 944, 945, 946, 947, 948, 949, 951, 952, 953, 954, 958, 335, 336, 337, 338, 107, 339, 340] (by decide +kernel)
theorem in_wsL_law0_r6 : ∀ w ∈ wsL_law0_r6, w ∈ lw_tbl := rd_mem _ [341, 342, 108, 913, 914, 915, 916, 931, 933, 917, 919, 35, 921, 343, 344, 345, 346, 922, 923, 924, 925, 347, 348, 349] (by decide +kernel)
theorem in_wsL_law0_r7 : ∀ w ∈ wsL_law0_r7, w ∈ lw_tbl := rd_mem _ [350, 150, 152, 146, 148, 351, 352, 353, 354, 147, 149, 151, 154, 156, 355, 356, 357, 358, 129, 133, 359, 361, 0, 362] (by decide +kernel)
theorem in_wsL_law0_r8 : ∀ w ∈ wsL_law0_r8, w ∈ lw_tbl := rd_mem _ [109, 155, 363, 364, 365, 366, 367, 368, 369, 370, 372, 1, 373, 157, 374, 375, 376, 377, 378, 379, 381, 383, 2, 384] (by decide +kernel)
theorem in_wsL_law0_r9 : ∀ w ∈ wsL_law0_r9, w ∈ lw_tbl := rd_mem _ [106, 385, 386, 387, 80, 388, 1345, 389, 390, 391, 392, 393, 1346, 395, 396, 397, 398, 399, 400, 401, 402, 403, 404, 81] (by decide +kernel)
theorem in_wsL_law0_r10 : ∀ w ∈ wsL_law0_r10, w ∈ lw_tbl := rd_mem _ [405, 406, 407, 408, 409, 411, 412, 82, 413, 414, 415, 83, 416, 417, 418, 419, 420, 421, 422, 423, 424, 425, 426, 427] (by decide +kernel)
theorem in_wsL_law0_r11 : ∀ w ∈ wsL_law0_r11, w ∈ lw_tbl := rd_mem _ [429, 431, 434, 436, 3, 437, 438, 440, 4, 441, 442, 444, 5, 445, 446, 448, 6, 449, 134, 130, 450, 452, 7, 453] (by decide +kernel)
theorem in_wsL_law0_r12 : ∀ w ∈ wsL_law0_r12, w ∈ lw_tbl := rd_mem _ [454, 455, 456, 457, 458, 460, 8, 461, 462, 463, 464, 465, 466, 467, 468, 469, 470, 471, 472, 473, 474, 475, 477, 476] (by decide +kernel)
theorem in_wsL_law0_r13 : ∀ w ∈ wsL_law0_r13, w ∈ lw_tbl := rd_mem _ [84, 478, 479, 480, 481, 482, 483, 484, 485, 188, 1019, 1020, 1021, 1022, 934, 939, 935, 937, 940, 950, 1023, 1025, 36, 1026] (by decide +kernel)
theorem in_wsL_law0_r14 : ∀ w ∈ wsL_law0_r14, w ∈ lw_tbl := rd_mem _ [936, 941, 938, 1037, 1038, 1027, 1028, 1029, 1030, 1031, 1032, 1033, 1035, 37, 1036, 1039, 1041, 38, 1042, 1043, 1044, 1045, 1046, 1048] (by decide +kernel)
theorem in_wsL_law0_r15 : ∀ w ∈ wsL_law0_r15, w ∈ lw_tbl := rd_mem _ [39, 1049, 1050, 1052, 40, 1053, 1054, 1056, 41, 1057, 1058, 1059, 1060, 1061, 1063, 42, 1064, 1065, 1066, 1067, 1068, 1069, 1070, 1071] (by decide +kernel)
theorem in_wsL_law0_r16 : ∀ w ∈ wsL_law0_r16, w ∈ lw_tbl := rd_mem _ [1072, 1073, 1074, 1075, 1076, 1077, 1079, 43, 1080, 1081, 1082, 1083, 487, 488, 489, 490, 1084, 1085, 1086, 1087, 491, 492, 493, 494] (by decide +kernel)
theorem in_wsL_law0_r17 : ∀ w ∈ wsL_law0_r17, w ∈ lw_tbl := rd_mem _ [131, 136, 189, 495, 496, 497, 498, 132, 499, 500, 85, 501, 271, 502, 504, 9, 505, 506, 507, 508, 509, 510, 512, 10] (by decide +kernel)
theorem in_wsL_law0_r18 : ∀ w ∈ wsL_law0_r18, w ∈ lw_tbl := rd_mem _ [513, 514, 515, 516, 517, 518, 519, 520, 521, 1088, 1089, 1090, 1091, 1092, 1094, 44, 1095, 1096, 1098, 45, 1099, 1100, 1101, 1102] (by decide +kernel)
theorem in_wsL_law0_r19 : ∀ w ∈ wsL_law0_r19, w ∈ lw_tbl := rd_mem _ [1103, 1104, 1105, 1106, 1107, 1108, 1109, 1110, 1111, 1112, 1113, 1114, 522, 523, 524, 525, 526, 1115, 1116, 1117, 1118, 1119, 1121, 46] (by decide +kernel)
theorem in_wsL_law0_r20 : ∀ w ∈ wsL_law0_r20, w ∈ lw_tbl := rd_mem _ [1122, 1123, 1125, 47, 1126, 527, 528, 529, 530, 531, 1127, 1128, 1129, 1130, 532, 533, 534, 535, 536, 537, 538, 539, 540, 1131] (by decide +kernel)
theorem in_wsL_law0_r21 : ∀ w ∈ wsL_law0_r21, w ∈ lw_tbl := rd_mem _ [1132, 1133, 1134, 836, 837, 69, 838, 839, 840, 841, 842, 843, 848, 89, 844, 845, 846, 847, 1135, 1136, 1137, 1138, 1139, 1141] (by decide +kernel)
theorem in_wsL_law0_r22 : ∀ w ∈ wsL_law0_r22, w ∈ lw_tbl := rd_mem _ [48, 1142, 909, 910, 911, 912, 541, 542, 543, 544, 1143, 1144, 1145, 1146, 545, 546, 547, 548, 549, 550, 551, 552, 553, 554] (by decide +kernel)
theorem in_wsL_law0_r23 : ∀ w ∈ wsL_law0_r23, w ∈ lw_tbl := rd_mem _ [555, 556, 1147, 1148, 1149, 1150, 1151, 1152, 1153, 1154, 1155, 1156, 557, 558, 559, 560, 561, 562, 563, 564, 128, 209, 565, 567] (by decide +kernel)
theorem in_wsL_law0_r24 : ∀ w ∈ wsL_law0_r24, w ∈ lw_tbl := rd_mem _ [11, 568, 135, 569, 210, 214, 570, 571, 573, 12, 574, 575, 576, 577, 578, 579, 580, 1157, 1158, 1159, 1160, 1161, 1163, 49] (by decide +kernel)
theorem in_wsL_law0_r25 : ∀ w ∈ wsL_law0_r25, w ∈ lw_tbl := rd_mem _ [1164, 1165, 1167, 50, 1168, 581, 582, 583, 584, 207, 585, 586, 587, 588, 589, 590, 592, 13, 593, 594, 596, 14, 597, 598] (by decide +kernel)
theorem in_wsL_law0_r26 : ∀ w ∈ wsL_law0_r26, w ∈ lw_tbl := rd_mem _ [600, 15, 601, 602, 604, 16, 605, 606, 607, 90, 608, 609, 610, 611, 612, 614, 17, 615, 616, 618, 18, 619, 620, 622] (by decide +kernel)
theorem in_wsL_law0_r27 : ∀ w ∈ wsL_law0_r27, w ∈ lw_tbl := rd_mem _ [19, 623, 1173, 1174, 1175, 1176, 1177, 1179, 51, 1180, 1181, 1183, 52, 1184, 1185, 1187, 53, 1188, 624, 625, 626, 627, 628, 629] (by decide +kernel)
theorem in_wsL_law0_r28 : ∀ w ∈ wsL_law0_r28, w ∈ lw_tbl := rd_mem _ [630, 631, 632, 633, 1169, 1170, 1171, 1172, 634, 635, 636, 637, 638, 639, 640, 641, 190, 643, 642, 644, 645, 646, 647, 648] (by decide +kernel)
theorem in_wsL_law0_r29 : ∀ w ∈ wsL_law0_r29, w ∈ lw_tbl := rd_mem _ [649, 651, 20, 652, 653, 654, 655, 656, 1189, 1190, 1191, 1192, 1193, 1195, 54, 1196, 1197, 1198, 1199, 1200, 1202, 55, 1203, 1204] (by decide +kernel)
theorem in_wsL_law0_r30 : ∀ w ∈ wsL_law0_r30, w ∈ lw_tbl := rd_mem _ [1206, 56, 1207, 657, 658, 659, 660, 243, 245, 661, 662, 663, 664, 665, 666, 667, 668, 670, 21, 671, 247, 248, 249, 242] (by decide +kernel)
theorem in_wsL_law0_r31 : ∀ w ∈ wsL_law0_r31, w ∈ lw_tbl := rd_mem _ [244, 672, 674, 22, 675, 676, 678, 23, 679, 680, 682, 24, 683, 684, 685, 686, 687, 688, 689, 690, 691, 1208, 1209, 1210] (by decide +kernel)
theorem in_wsL_law0_r32 : ∀ w ∈ wsL_law0_r32, w ∈ lw_tbl := rd_mem _ [1211, 955, 956, 1212, 1213, 1214, 1215, 1217, 57, 1218, 957, 1219, 1221, 58, 1222, 1223, 1224, 1225, 692, 693, 694, 695, 241, 696] (by decide +kernel)
theorem in_wsL_law0_r33 : ∀ w ∈ wsL_law0_r33, w ∈ lw_tbl := rd_mem _ [697, 698, 699, 1226, 1227, 1228, 1229, 1230, 1232, 59, 1233, 700, 701, 702, 703, 704, 1234, 1235, 1236, 1237, 705, 706, 707, 708] (by decide +kernel)
theorem in_wsL_law0_r34 : ∀ w ∈ wsL_law0_r34, w ∈ lw_tbl := rd_mem _ [709, 710, 711, 712, 713, 715, 25, 716, 717, 719, 26, 720, 721, 1238, 1239, 1240, 1241, 1242, 1244, 60, 1245, 722, 723, 724] (by decide +kernel)
theorem in_wsL_law0_r35 : ∀ w ∈ wsL_law0_r35, w ∈ lw_tbl := rd_mem _ [725, 726, 728, 27, 729, 730, 731, 732, 733, 1246, 1247, 1248, 1249, 1250, 1251, 1252, 734, 735, 736, 737, 738, 740, 28, 741] (by decide +kernel)
theorem in_wsL_law0_r36 : ∀ w ∈ wsL_law0_r36, w ∈ lw_tbl := rd_mem _ [742, 743, 744, 1253, 1254, 1255, 1256, 1257, 1259, 61, 1260, 1261, 1263, 62, 1264, 745, 746, 747, 748, 1265, 1266, 1267, 1268, 749] (by decide +kernel)
theorem in_wsL_law0_r37 : ∀ w ∈ wsL_law0_r37, w ∈ lw_tbl := rd_mem _ [750, 751, 752, 1269, 1270, 1271, 1272, 1273, 1275, 63, 1276, 753, 754, 755, 756, 757, 758, 759, 760, 761, 1277, 1278, 1279, 1280] (by decide +kernel)
theorem in_wsL_law0_r38 : ∀ w ∈ wsL_law0_r38, w ∈ lw_tbl := rd_mem _ [1281, 1283, 64, 1284, 762, 763, 764, 765, 766, 767, 768, 769, 1285, 1286, 1287, 1288, 770, 771, 772, 773, 774, 775, 776, 777] (by decide +kernel)
theorem in_wsL_law0_r39 : ∀ w ∈ wsL_law0_r39, w ∈ lw_tbl := rd_mem _ [1289, 1290, 1291, 1292, 1293, 1295, 65, 1296, 778, 779, 780, 781, 782, 783, 784, 785, 786, 788, 29, 789, 790, 791, 792, 793] (by decide +kernel)
theorem in_wsL_law0_r40 : ∀ w ∈ wsL_law0_r40, w ∈ lw_tbl := rd_mem _ [794, 796, 30, 797, 798, 1297, 1298, 1299, 1300, 1301, 1303, 66, 1304, 799, 800, 801, 802, 291, 803, 805, 31, 806, 807, 808] (by decide +kernel)
theorem in_wsL_law0_r41 : ∀ w ∈ wsL_law0_r41, w ∈ lw_tbl := rd_mem _ [809, 810, 290, 811, 812, 814, 32, 815, 816, 818, 33, 819, 1305, 1306, 1307, 1308, 959, 1309, 1311, 67, 1312, 1313, 1315, 68] (by decide +kernel)
theorem in_wsL_law0_r42 : ∀ w ∈ wsL_law0_r42, w ∈ lw_tbl := rd_mem _ [1316, 1317, 820, 821, 822, 823, 824, 825, 826, 827, 1318, 1319, 1320, 1321, 828, 829, 830, 831, 1322, 1323, 1324, 1325, 832, 833] (by decide +kernel)
theorem in_wsL_law0_r43 : ∀ w ∈ wsL_law0_r43, w ∈ lw_tbl := rd_mem _ [834, 835, 1326, 1327, 1328, 1329] (by decide +kernel)
theorem inq_X8 : ∀ w ∈ wsX80, w ∈ lw_tbl := rd_mem _ [308, 310, 312, 314, 316, 318, 320, 322, 324, 326, 328, 330, 332] (by decide +kernel)
theorem inq_X9 : ∀ w ∈ wsX90, w ∈ lw_tbl := rd_mem _ [960, 962, 964, 966, 968, 970, 972, 974, 976, 978, 980, 982, 984, 986, 988, 990, 992, 994, 996, 998, 1000, 1002, 1004, 1006, 1008, 1010, 1012, 1014, 1016] (by decide +kernel)
theorem inq_X7 : ∀ w ∈ wsX70, w ∈ lw_tbl := rd_mem _ [110, 112] (by decide +kernel)
theorem inq_X5 : ∀ w ∈ wsX50, w ∈ lw_tbl := rd_mem _ [158, 160, 162, 164, 166, 168, 170, 172, 174] (by decide +kernel)
theorem inq_X3 : ∀ w ∈ wsX30, w ∈ lw_tbl := rd_mem _ [138, 140, 142] (by decide +kernel)
theorem inq_X0 : ∀ w ∈ wsX00, w ∈ lw_tbl := rd_mem _ [192, 194, 196] (by decide +kernel)
theorem inq_X2 : ∀ w ∈ wsX20, w ∈ lw_tbl := rd_mem _ [215, 217, 219, 221, 223, 225, 227, 229] (by decide +kernel)
theorem inq_X6 : ∀ w ∈ wsX60, w ∈ lw_tbl := rd_mem _ [250, 252, 254, 256, 258, 260, 262] (by decide +kernel)
theorem inq_X4 : ∀ w ∈ wsX40, w ∈ lw_tbl := rd_mem _ [275, 277, 279, 281] (by decide +kernel)
theorem inq_X1 : ∀ w ∈ wsX10, w ∈ lw_tbl := rd_mem _ [292] (by decide +kernel)
theorem rd_all {big a b : List Cond} (ha : ∀ w ∈ a, w ∈ big) (hb : ∀ w ∈ b, w ∈ big) : ∀ w ∈ a ++ b, w ∈ big := fun w h => (List.mem_append.mp h).elim (ha w) (hb w)
theorem wsL_law_x0 : ∀ w ∈ (vx_at0 RX8 146 "java/util/NoSuchElementException" ["java/lang/RuntimeException", "java/lang/Exception"]).filter goodWord, w ∈ lw_tbl := by decide +kernel
set_option maxRecDepth 20000 in
theorem ggL_ring_X8_ring : GoodIn wsL_ring wsX8_ring := goodIn_ca (goodIn_r _ [6, 7, 8, 9, 10, 11, 12, 13, 14, 15, 16, 17, 18, 19, 20, 21, 22, 23, 24, 25, 26, 27, 28, 29, 30, 31, 32, 33, 34, 35, 36, 37, 38, 39, 40, 41, 42, 43, 44, 45] (by decide +kernel) (by decide +kernel)) (goodIn_sub (fun _ h => List.mem_cons_of_mem _ (List.mem_append_right _ h)) (by decide +kernel))
set_option maxRecDepth 20000 in
theorem gL_ring_X8_ring : GoodIn wsL_ring (wsV RL 7 RX8 yX8_ring wsX8_ring) := goodIn_app (goodIn_of _ (by decide +kernel)) ggL_ring_X8_ring
theorem dL_ring_0 : decode cL_ring 0 = .ok (.aload 4, 2) := by decide +kernel
theorem dL_ring_2 : decode cL_ring 2 = .ok (.iconst 0, 1) := by decide +kernel
theorem dL_ring_3 : decode cL_ring 3 = .ok (.aload_n 0, 1) := by decide +kernel
theorem dL_ring_4 : decode cL_ring 4 = .ok (.iload_n 1, 1) := by decide +kernel
theorem dL_ring_5 : decode cL_ring 5 = .ok (.iload_n 2, 1) := by decide +kernel
theorem dL_ring_6 : decode cL_ring 6 = .ok (.iload_n 3, 1) := by decide +kernel
theorem dL_ring_7 : decode cL_ring 7 = .ok (.invokevirtual 7, 3) := by decide +kernel
theorem dL_ring_10 : decode cL_ring 10 = .ok (.i2l, 1) := by decide +kernel
theorem dL_ring_11 : decode cL_ring 11 = .ok (.lastore, 1) := by decide +kernel
theorem dL_ring_12 : decode cL_ring 12 = .ok (.goto 7, 3) := by decide +kernel
theorem dL_ring_15 : decode cL_ring 15 = .ok (.astore 5, 2) := by decide +kernel
theorem dL_ring_17 : decode cL_ring 17 = .ok (.iconst 1, 1) := by decide +kernel
theorem dL_ring_18 : decode cL_ring 18 = .ok (.ireturn, 1) := by decide +kernel
theorem dL_ring_19 : decode cL_ring 19 = .ok (.iconst 0, 1) := by decide +kernel
theorem dL_ring_20 : decode cL_ring 20 = .ok (.ireturn, 1) := by decide +kernel
theorem dL_law_0 : decode cL_law 0 = .ok (.new 8, 3) := by decide +kernel
theorem dL_law_3 : decode cL_law 3 = .ok (.dup, 1) := by decide +kernel
theorem dL_law_4 : decode cL_law 4 = .ok (.invokespecial 15, 3) := by decide +kernel
theorem dL_law_7 : decode cL_law 7 = .ok (.astore_n 1, 1) := by decide +kernel
theorem dL_law_8 : decode cL_law 8 = .ok (.new 16, 3) := by decide +kernel
theorem dL_law_11 : decode cL_law 11 = .ok (.dup, 1) := by decide +kernel
theorem dL_law_12 : decode cL_law 12 = .ok (.invokespecial 18, 3) := by decide +kernel
theorem dL_law_15 : decode cL_law 15 = .ok (.astore_n 2, 1) := by decide +kernel
theorem dL_law_16 : decode cL_law 16 = .ok (.iconst 1, 1) := by decide +kernel
theorem dL_law_17 : decode cL_law 17 = .ok (.newarray .long, 2) := by decide +kernel
theorem dL_law_19 : decode cL_law 19 = .ok (.astore_n 3, 1) := by decide +kernel
theorem dL_law_20 : decode cL_law 20 = .ok (.iconst 0, 1) := by decide +kernel
theorem dL_law_21 : decode cL_law 21 = .ok (.istore 4, 2) := by decide +kernel
theorem dL_law_23 : decode cL_law 23 = .ok (.iload 4, 2) := by decide +kernel
theorem dL_law_25 : decode cL_law 25 = .ok (.aload_n 0, 1) := by decide +kernel
theorem dL_law_26 : decode cL_law 26 = .ok (.arraylength, 1) := by decide +kernel
theorem dL_law_27 : decode cL_law 27 = .ok (.bipush 6, 2) := by decide +kernel
theorem dL_law_29 : decode cL_law 29 = .ok (.isub, 1) := by decide +kernel
theorem dL_law_30 : decode cL_law 30 = .ok (.if_icmp .gt 1130, 3) := by decide +kernel
theorem dL_law_33 : decode cL_law 33 = .ok (.aload_n 0, 1) := by decide +kernel
theorem dL_law_34 : decode cL_law 34 = .ok (.iload 4, 2) := by decide +kernel
theorem dL_law_36 : decode cL_law 36 = .ok (.iaload, 1) := by decide +kernel
theorem dL_law_37 : decode cL_law 37 = .ok (.bipush 31, 2) := by decide +kernel
theorem dL_law_39 : decode cL_law 39 = .ok (.iand, 1) := by decide +kernel
theorem dL_law_40 : decode cL_law 40 = .ok (.tableswitch 1114 0 30 #[140, 213, 238, 251, 264, 289, 326, 363, 400, 480, 505, 530, 543, 596, 621, 658, 695, 744, 781, 794, 819, 832, 873, 914, 939, 964, 1001, 1014, 1051, 1064, 1089], 140) := by decide +kernel
theorem dL_law_180 : decode cL_law 180 = .ok (.aload_n 1, 1) := by decide +kernel
theorem dL_law_181 : decode cL_law 181 = .ok (.aload_n 0, 1) := by decide +kernel
theorem dL_law_182 : decode cL_law 182 = .ok (.iload 4, 2) := by decide +kernel
theorem dL_law_184 : decode cL_law 184 = .ok (.iconst 1, 1) := by decide +kernel
theorem dL_law_185 : decode cL_law 185 = .ok (.iadd, 1) := by decide +kernel
theorem dL_law_186 : decode cL_law 186 = .ok (.iaload, 1) := by decide +kernel
theorem dL_law_187 : decode cL_law 187 = .ok (.aload_n 0, 1) := by decide +kernel
theorem dL_law_188 : decode cL_law 188 = .ok (.iload 4, 2) := by decide +kernel
theorem dL_law_190 : decode cL_law 190 = .ok (.iconst 2, 1) := by decide +kernel
theorem dL_law_191 : decode cL_law 191 = .ok (.iadd, 1) := by decide +kernel
theorem dL_law_192 : decode cL_law 192 = .ok (.iaload, 1) := by decide +kernel
theorem dL_law_193 : decode cL_law 193 = .ok (.aload_n 0, 1) := by decide +kernel
theorem dL_law_194 : decode cL_law 194 = .ok (.iload 4, 2) := by decide +kernel
theorem dL_law_196 : decode cL_law 196 = .ok (.iconst 3, 1) := by decide +kernel
theorem dL_law_197 : decode cL_law 197 = .ok (.iadd, 1) := by decide +kernel
theorem dL_law_198 : decode cL_law 198 = .ok (.iaload, 1) := by decide +kernel
theorem dL_law_199 : decode cL_law 199 = .ok (.aload_n 0, 1) := by decide +kernel
theorem dL_law_200 : decode cL_law 200 = .ok (.iload 4, 2) := by decide +kernel
theorem dL_law_202 : decode cL_law 202 = .ok (.iconst 4, 1) := by decide +kernel
theorem dL_law_203 : decode cL_law 203 = .ok (.iadd, 1) := by decide +kernel
theorem dL_law_204 : decode cL_law 204 = .ok (.iaload, 1) := by decide +kernel
theorem dL_law_205 : decode cL_law 205 = .ok (.aload_n 0, 1) := by decide +kernel
theorem dL_law_206 : decode cL_law 206 = .ok (.iload 4, 2) := by decide +kernel
theorem dL_law_208 : decode cL_law 208 = .ok (.iconst 5, 1) := by decide +kernel
theorem dL_law_209 : decode cL_law 209 = .ok (.iadd, 1) := by decide +kernel
theorem dL_law_210 : decode cL_law 210 = .ok (.iaload, 1) := by decide +kernel
theorem dL_law_211 : decode cL_law 211 = .ok (.invokevirtual 19, 3) := by decide +kernel
theorem dL_law_214 : decode cL_law 214 = .ok (.aload_n 2, 1) := by decide +kernel
theorem dL_law_215 : decode cL_law 215 = .ok (.aload_n 0, 1) := by decide +kernel
theorem dL_law_216 : decode cL_law 216 = .ok (.iload 4, 2) := by decide +kernel
theorem dL_law_218 : decode cL_law 218 = .ok (.iconst 1, 1) := by decide +kernel
theorem dL_law_219 : decode cL_law 219 = .ok (.iadd, 1) := by decide +kernel
theorem dL_law_220 : decode cL_law 220 = .ok (.iaload, 1) := by decide +kernel
theorem dL_law_221 : decode cL_law 221 = .ok (.aload_n 0, 1) := by decide +kernel
theorem dL_law_222 : decode cL_law 222 = .ok (.iload 4, 2) := by decide +kernel
theorem dL_law_224 : decode cL_law 224 = .ok (.iconst 2, 1) := by decide +kernel
theorem dL_law_225 : decode cL_law 225 = .ok (.iadd, 1) := by decide +kernel
theorem dL_law_226 : decode cL_law 226 = .ok (.iaload, 1) := by decide +kernel
theorem dL_law_227 : decode cL_law 227 = .ok (.aload_n 0, 1) := by decide +kernel
theorem dL_law_228 : decode cL_law 228 = .ok (.iload 4, 2) := by decide +kernel
theorem dL_law_230 : decode cL_law 230 = .ok (.iconst 3, 1) := by decide +kernel
theorem dL_law_231 : decode cL_law 231 = .ok (.iadd, 1) := by decide +kernel
theorem dL_law_232 : decode cL_law 232 = .ok (.iaload, 1) := by decide +kernel
theorem dL_law_233 : decode cL_law 233 = .ok (.aload_n 0, 1) := by decide +kernel
theorem dL_law_234 : decode cL_law 234 = .ok (.iload 4, 2) := by decide +kernel
theorem dL_law_236 : decode cL_law 236 = .ok (.iconst 4, 1) := by decide +kernel
theorem dL_law_237 : decode cL_law 237 = .ok (.iadd, 1) := by decide +kernel
theorem dL_law_238 : decode cL_law 238 = .ok (.iaload, 1) := by decide +kernel
theorem dL_law_239 : decode cL_law 239 = .ok (.aload_n 0, 1) := by decide +kernel
theorem dL_law_240 : decode cL_law 240 = .ok (.iload 4, 2) := by decide +kernel
theorem dL_law_242 : decode cL_law 242 = .ok (.iconst 5, 1) := by decide +kernel
theorem dL_law_243 : decode cL_law 243 = .ok (.iadd, 1) := by decide +kernel
theorem dL_law_244 : decode cL_law 244 = .ok (.iaload, 1) := by decide +kernel
theorem dL_law_245 : decode cL_law 245 = .ok (.invokevirtual 23, 3) := by decide +kernel
theorem dL_law_248 : decode cL_law 248 = .ok (.if_icmp .eq 906, 3) := by decide +kernel
theorem dL_law_251 : decode cL_law 251 = .ok (.iconst 0, 1) := by decide +kernel
theorem dL_law_252 : decode cL_law 252 = .ok (.ireturn, 1) := by decide +kernel
theorem dL_law_253 : decode cL_law 253 = .ok (.aload_n 1, 1) := by decide +kernel
theorem dL_law_254 : decode cL_law 254 = .ok (.aload_n 0, 1) := by decide +kernel
theorem dL_law_255 : decode cL_law 255 = .ok (.iload 4, 2) := by decide +kernel
theorem dL_law_257 : decode cL_law 257 = .ok (.iconst 1, 1) := by decide +kernel
theorem dL_law_258 : decode cL_law 258 = .ok (.iadd, 1) := by decide +kernel
theorem dL_law_259 : decode cL_law 259 = .ok (.iaload, 1) := by decide +kernel
theorem dL_law_260 : decode cL_law 260 = .ok (.invokevirtual 24, 3) := by decide +kernel
theorem dL_law_263 : decode cL_law 263 = .ok (.aload_n 2, 1) := by decide +kernel
theorem dL_law_264 : decode cL_law 264 = .ok (.aload_n 0, 1) := by decide +kernel
theorem dL_law_265 : decode cL_law 265 = .ok (.iload 4, 2) := by decide +kernel
theorem dL_law_267 : decode cL_law 267 = .ok (.iconst 1, 1) := by decide +kernel
theorem dL_law_268 : decode cL_law 268 = .ok (.iadd, 1) := by decide +kernel
theorem dL_law_269 : decode cL_law 269 = .ok (.iaload, 1) := by decide +kernel
theorem dL_law_270 : decode cL_law 270 = .ok (.invokevirtual 28, 3) := by decide +kernel
theorem dL_law_273 : decode cL_law 273 = .ok (.if_icmp .eq 881, 3) := by decide +kernel
theorem dL_law_276 : decode cL_law 276 = .ok (.iconst 0, 1) := by decide +kernel
theorem dL_law_277 : decode cL_law 277 = .ok (.ireturn, 1) := by decide +kernel
theorem dL_law_278 : decode cL_law 278 = .ok (.aload_n 1, 1) := by decide +kernel
theorem dL_law_279 : decode cL_law 279 = .ok (.invokevirtual 29, 3) := by decide +kernel
theorem dL_law_282 : decode cL_law 282 = .ok (.aload_n 2, 1) := by decide +kernel
theorem dL_law_283 : decode cL_law 283 = .ok (.invokevirtual 33, 3) := by decide +kernel
theorem dL_law_286 : decode cL_law 286 = .ok (.if_icmp .eq 868, 3) := by decide +kernel
theorem dL_law_289 : decode cL_law 289 = .ok (.iconst 0, 1) := by decide +kernel
theorem dL_law_290 : decode cL_law 290 = .ok (.ireturn, 1) := by decide +kernel
theorem dL_law_291 : decode cL_law 291 = .ok (.aload_n 1, 1) := by decide +kernel
theorem dL_law_292 : decode cL_law 292 = .ok (.invokevirtual 34, 3) := by decide +kernel
theorem dL_law_295 : decode cL_law 295 = .ok (.aload_n 2, 1) := by decide +kernel
theorem dL_law_296 : decode cL_law 296 = .ok (.invokevirtual 37, 3) := by decide +kernel
theorem dL_law_299 : decode cL_law 299 = .ok (.if_icmp .eq 855, 3) := by decide +kernel
theorem dL_law_302 : decode cL_law 302 = .ok (.iconst 0, 1) := by decide +kernel
theorem dL_law_303 : decode cL_law 303 = .ok (.ireturn, 1) := by decide +kernel
theorem dL_law_304 : decode cL_law 304 = .ok (.aload_n 1, 1) := by decide +kernel
theorem dL_law_305 : decode cL_law 305 = .ok (.aload_n 0, 1) := by decide +kernel
theorem dL_law_306 : decode cL_law 306 = .ok (.iload 4, 2) := by decide +kernel
theorem dL_law_308 : decode cL_law 308 = .ok (.iconst 1, 1) := by decide +kernel
theorem dL_law_309 : decode cL_law 309 = .ok (.iadd, 1) := by decide +kernel
theorem dL_law_310 : decode cL_law 310 = .ok (.iaload, 1) := by decide +kernel
theorem dL_law_311 : decode cL_law 311 = .ok (.invokevirtual 38, 3) := by decide +kernel
theorem dL_law_314 : decode cL_law 314 = .ok (.aload_n 2, 1) := by decide +kernel
theorem dL_law_315 : decode cL_law 315 = .ok (.aload_n 0, 1) := by decide +kernel
theorem dL_law_316 : decode cL_law 316 = .ok (.iload 4, 2) := by decide +kernel
theorem dL_law_318 : decode cL_law 318 = .ok (.iconst 1, 1) := by decide +kernel
theorem dL_law_319 : decode cL_law 319 = .ok (.iadd, 1) := by decide +kernel
theorem dL_law_320 : decode cL_law 320 = .ok (.iaload, 1) := by decide +kernel
theorem dL_law_321 : decode cL_law 321 = .ok (.invokevirtual 42, 3) := by decide +kernel
theorem dL_law_324 : decode cL_law 324 = .ok (.if_icmp .eq 830, 3) := by decide +kernel
theorem dL_law_327 : decode cL_law 327 = .ok (.iconst 0, 1) := by decide +kernel
theorem dL_law_328 : decode cL_law 328 = .ok (.ireturn, 1) := by decide +kernel
theorem dL_law_329 : decode cL_law 329 = .ok (.aload_n 1, 1) := by decide +kernel
theorem dL_law_330 : decode cL_law 330 = .ok (.aload_n 0, 1) := by decide +kernel
theorem dL_law_331 : decode cL_law 331 = .ok (.iload 4, 2) := by decide +kernel
theorem dL_law_333 : decode cL_law 333 = .ok (.iconst 1, 1) := by decide +kernel
theorem dL_law_334 : decode cL_law 334 = .ok (.iadd, 1) := by decide +kernel
theorem dL_law_335 : decode cL_law 335 = .ok (.iaload, 1) := by decide +kernel
theorem dL_law_336 : decode cL_law 336 = .ok (.aload_n 0, 1) := by decide +kernel
theorem dL_law_337 : decode cL_law 337 = .ok (.iload 4, 2) := by decide +kernel
theorem dL_law_339 : decode cL_law 339 = .ok (.iconst 2, 1) := by decide +kernel
theorem dL_law_340 : decode cL_law 340 = .ok (.iadd, 1) := by decide +kernel
theorem dL_law_341 : decode cL_law 341 = .ok (.iaload, 1) := by decide +kernel
theorem dL_law_342 : decode cL_law 342 = .ok (.invokevirtual 43, 3) := by decide +kernel
theorem dL_law_345 : decode cL_law 345 = .ok (.aload_n 2, 1) := by decide +kernel
theorem dL_law_346 : decode cL_law 346 = .ok (.aload_n 0, 1) := by decide +kernel
theorem dL_law_347 : decode cL_law 347 = .ok (.iload 4, 2) := by decide +kernel
theorem dL_law_349 : decode cL_law 349 = .ok (.iconst 1, 1) := by decide +kernel
theorem dL_law_350 : decode cL_law 350 = .ok (.iadd, 1) := by decide +kernel
theorem dL_law_351 : decode cL_law 351 = .ok (.iaload, 1) := by decide +kernel
theorem dL_law_352 : decode cL_law 352 = .ok (.aload_n 0, 1) := by decide +kernel
theorem dL_law_353 : decode cL_law 353 = .ok (.iload 4, 2) := by decide +kernel
theorem dL_law_355 : decode cL_law 355 = .ok (.iconst 2, 1) := by decide +kernel
theorem dL_law_356 : decode cL_law 356 = .ok (.iadd, 1) := by decide +kernel
theorem dL_law_357 : decode cL_law 357 = .ok (.iaload, 1) := by decide +kernel
theorem dL_law_358 : decode cL_law 358 = .ok (.invokevirtual 47, 3) := by decide +kernel
theorem dL_law_361 : decode cL_law 361 = .ok (.if_icmp .eq 793, 3) := by decide +kernel
theorem dL_law_364 : decode cL_law 364 = .ok (.iconst 0, 1) := by decide +kernel
theorem dL_law_365 : decode cL_law 365 = .ok (.ireturn, 1) := by decide +kernel
theorem dL_law_366 : decode cL_law 366 = .ok (.aload_n 1, 1) := by decide +kernel
theorem dL_law_367 : decode cL_law 367 = .ok (.aload_n 0, 1) := by decide +kernel
theorem dL_law_368 : decode cL_law 368 = .ok (.iload 4, 2) := by decide +kernel
theorem dL_law_370 : decode cL_law 370 = .ok (.iconst 1, 1) := by decide +kernel
theorem dL_law_371 : decode cL_law 371 = .ok (.iadd, 1) := by decide +kernel
theorem dL_law_372 : decode cL_law 372 = .ok (.iaload, 1) := by decide +kernel
theorem dL_law_373 : decode cL_law 373 = .ok (.aload_n 0, 1) := by decide +kernel
theorem dL_law_374 : decode cL_law 374 = .ok (.iload 4, 2) := by decide +kernel
theorem dL_law_376 : decode cL_law 376 = .ok (.iconst 2, 1) := by decide +kernel
theorem dL_law_377 : decode cL_law 377 = .ok (.iadd, 1) := by decide +kernel
theorem dL_law_378 : decode cL_law 378 = .ok (.iaload, 1) := by decide +kernel
theorem dL_law_379 : decode cL_law 379 = .ok (.invokevirtual 48, 3) := by decide +kernel
theorem dL_law_382 : decode cL_law 382 = .ok (.aload_n 2, 1) := by decide +kernel
theorem dL_law_383 : decode cL_law 383 = .ok (.aload_n 0, 1) := by decide +kernel
theorem dL_law_384 : decode cL_law 384 = .ok (.iload 4, 2) := by decide +kernel
theorem dL_law_386 : decode cL_law 386 = .ok (.iconst 1, 1) := by decide +kernel
theorem dL_law_387 : decode cL_law 387 = .ok (.iadd, 1) := by decide +kernel
theorem dL_law_388 : decode cL_law 388 = .ok (.iaload, 1) := by decide +kernel
theorem dL_law_389 : decode cL_law 389 = .ok (.aload_n 0, 1) := by decide +kernel
theorem dL_law_390 : decode cL_law 390 = .ok (.iload 4, 2) := by decide +kernel
theorem dL_law_392 : decode cL_law 392 = .ok (.iconst 2, 1) := by decide +kernel
theorem dL_law_393 : decode cL_law 393 = .ok (.iadd, 1) := by decide +kernel
theorem dL_law_394 : decode cL_law 394 = .ok (.iaload, 1) := by decide +kernel
theorem dL_law_395 : decode cL_law 395 = .ok (.invokevirtual 51, 3) := by decide +kernel
theorem dL_law_398 : decode cL_law 398 = .ok (.if_icmp .eq 756, 3) := by decide +kernel
theorem dL_law_401 : decode cL_law 401 = .ok (.iconst 0, 1) := by decide +kernel
theorem dL_law_402 : decode cL_law 402 = .ok (.ireturn, 1) := by decide +kernel
theorem dL_law_403 : decode cL_law 403 = .ok (.aload_n 1, 1) := by decide +kernel
theorem dL_law_404 : decode cL_law 404 = .ok (.aload_n 0, 1) := by decide +kernel
theorem dL_law_405 : decode cL_law 405 = .ok (.iload 4, 2) := by decide +kernel
theorem dL_law_407 : decode cL_law 407 = .ok (.iconst 1, 1) := by decide +kernel
theorem dL_law_408 : decode cL_law 408 = .ok (.iadd, 1) := by decide +kernel
theorem dL_law_409 : decode cL_law 409 = .ok (.iaload, 1) := by decide +kernel
theorem dL_law_410 : decode cL_law 410 = .ok (.aload_n 0, 1) := by decide +kernel
theorem dL_law_411 : decode cL_law 411 = .ok (.iload 4, 2) := by decide +kernel
theorem dL_law_413 : decode cL_law 413 = .ok (.iconst 2, 1) := by decide +kernel
theorem dL_law_414 : decode cL_law 414 = .ok (.iadd, 1) := by decide +kernel
theorem dL_law_415 : decode cL_law 415 = .ok (.iaload, 1) := by decide +kernel
theorem dL_law_416 : decode cL_law 416 = .ok (.invokevirtual 52, 3) := by decide +kernel
theorem dL_law_419 : decode cL_law 419 = .ok (.aload_n 2, 1) := by decide +kernel
theorem dL_law_420 : decode cL_law 420 = .ok (.aload_n 0, 1) := by decide +kernel
theorem dL_law_421 : decode cL_law 421 = .ok (.iload 4, 2) := by decide +kernel
theorem dL_law_423 : decode cL_law 423 = .ok (.iconst 1, 1) := by decide +kernel
theorem dL_law_424 : decode cL_law 424 = .ok (.iadd, 1) := by decide +kernel
theorem dL_law_425 : decode cL_law 425 = .ok (.iaload, 1) := by decide +kernel
theorem dL_law_426 : decode cL_law 426 = .ok (.aload_n 0, 1) := by decide +kernel
theorem dL_law_427 : decode cL_law 427 = .ok (.iload 4, 2) := by decide +kernel
theorem dL_law_429 : decode cL_law 429 = .ok (.iconst 2, 1) := by decide +kernel
theorem dL_law_430 : decode cL_law 430 = .ok (.iadd, 1) := by decide +kernel
theorem dL_law_431 : decode cL_law 431 = .ok (.iaload, 1) := by decide +kernel
theorem dL_law_432 : decode cL_law 432 = .ok (.invokevirtual 55, 3) := by decide +kernel
theorem dL_law_435 : decode cL_law 435 = .ok (.if_icmp .eq 719, 3) := by decide +kernel
theorem dL_law_438 : decode cL_law 438 = .ok (.iconst 0, 1) := by decide +kernel
theorem dL_law_439 : decode cL_law 439 = .ok (.ireturn, 1) := by decide +kernel
theorem dL_law_440 : decode cL_law 440 = .ok (.aload_n 1, 1) := by decide +kernel
theorem dL_law_441 : decode cL_law 441 = .ok (.aload_n 0, 1) := by decide +kernel
theorem dL_law_442 : decode cL_law 442 = .ok (.iload 4, 2) := by decide +kernel
theorem dL_law_444 : decode cL_law 444 = .ok (.iconst 1, 1) := by decide +kernel
theorem dL_law_445 : decode cL_law 445 = .ok (.iadd, 1) := by decide +kernel
theorem dL_law_446 : decode cL_law 446 = .ok (.iaload, 1) := by decide +kernel
theorem dL_law_447 : decode cL_law 447 = .ok (.aload_n 0, 1) := by decide +kernel
theorem dL_law_448 : decode cL_law 448 = .ok (.iload 4, 2) := by decide +kernel
theorem dL_law_450 : decode cL_law 450 = .ok (.iconst 2, 1) := by decide +kernel
theorem dL_law_451 : decode cL_law 451 = .ok (.iadd, 1) := by decide +kernel
theorem dL_law_452 : decode cL_law 452 = .ok (.iaload, 1) := by decide +kernel
theorem dL_law_453 : decode cL_law 453 = .ok (.aload_n 0, 1) := by decide +kernel
theorem dL_law_454 : decode cL_law 454 = .ok (.iload 4, 2) := by decide +kernel
theorem dL_law_456 : decode cL_law 456 = .ok (.iconst 3, 1) := by decide +kernel
theorem dL_law_457 : decode cL_law 457 = .ok (.iadd, 1) := by decide +kernel
theorem dL_law_458 : decode cL_law 458 = .ok (.iaload, 1) := by decide +kernel
theorem dL_law_459 : decode cL_law 459 = .ok (.aload_n 3, 1) := by decide +kernel
theorem dL_law_460 : decode cL_law 460 = .ok (.invokestatic 56, 3) := by decide +kernel
theorem dL_law_463 : decode cL_law 463 = .ok (.istore 5, 2) := by decide +kernel
theorem dL_law_465 : decode cL_law 465 = .ok (.aload_n 2, 1) := by decide +kernel
theorem dL_law_466 : decode cL_law 466 = .ok (.aload_n 0, 1) := by decide +kernel
theorem dL_law_467 : decode cL_law 467 = .ok (.iload 4, 2) := by decide +kernel
theorem dL_law_469 : decode cL_law 469 = .ok (.iconst 1, 1) := by decide +kernel
theorem dL_law_470 : decode cL_law 470 = .ok (.iadd, 1) := by decide +kernel
theorem dL_law_471 : decode cL_law 471 = .ok (.iaload, 1) := by decide +kernel
theorem dL_law_472 : decode cL_law 472 = .ok (.aload_n 0, 1) := by decide +kernel
theorem dL_law_473 : decode cL_law 473 = .ok (.iload 4, 2) := by decide +kernel
theorem dL_law_475 : decode cL_law 475 = .ok (.iconst 2, 1) := by decide +kernel
theorem dL_law_476 : decode cL_law 476 = .ok (.iadd, 1) := by decide +kernel
theorem dL_law_477 : decode cL_law 477 = .ok (.iaload, 1) := by decide +kernel
theorem dL_law_478 : decode cL_law 478 = .ok (.aload_n 0, 1) := by decide +kernel
theorem dL_law_479 : decode cL_law 479 = .ok (.iload 4, 2) := by decide +kernel
theorem dL_law_481 : decode cL_law 481 = .ok (.iconst 3, 1) := by decide +kernel
theorem dL_law_482 : decode cL_law 482 = .ok (.iadd, 1) := by decide +kernel
theorem dL_law_483 : decode cL_law 483 = .ok (.iaload, 1) := by decide +kernel
theorem dL_law_484 : decode cL_law 484 = .ok (.invokevirtual 61, 3) := by decide +kernel
theorem dL_law_487 : decode cL_law 487 = .ok (.istore 6, 2) := by decide +kernel
theorem dL_law_489 : decode cL_law 489 = .ok (.aload_n 2, 1) := by decide +kernel
theorem dL_law_490 : decode cL_law 490 = .ok (.invokevirtual 62, 3) := by decide +kernel
theorem dL_law_493 : decode cL_law 493 = .ok (.iload 5, 2) := by decide +kernel
theorem dL_law_495 : decode cL_law 495 = .ok (.if_icmp .eq 5, 3) := by decide +kernel
theorem dL_law_498 : decode cL_law 498 = .ok (.iconst 0, 1) := by decide +kernel
theorem dL_law_499 : decode cL_law 499 = .ok (.ireturn, 1) := by decide +kernel
theorem dL_law_500 : decode cL_law 500 = .ok (.iload 5, 2) := by decide +kernel
theorem dL_law_502 : decode cL_law 502 = .ok (.ifCond .ne 15, 3) := by decide +kernel
theorem dL_law_505 : decode cL_law 505 = .ok (.aload_n 3, 1) := by decide +kernel
theorem dL_law_506 : decode cL_law 506 = .ok (.iconst 0, 1) := by decide +kernel
theorem dL_law_507 : decode cL_law 507 = .ok (.laload, 1) := by decide +kernel
theorem dL_law_508 : decode cL_law 508 = .ok (.iload 6, 2) := by decide +kernel
theorem dL_law_510 : decode cL_law 510 = .ok (.i2l, 1) := by decide +kernel
theorem dL_law_511 : decode cL_law 511 = .ok (.lcmp, 1) := by decide +kernel
theorem dL_law_512 : decode cL_law 512 = .ok (.ifCond .eq 5, 3) := by decide +kernel
theorem dL_law_515 : decode cL_law 515 = .ok (.iconst 0, 1) := by decide +kernel
theorem dL_law_516 : decode cL_law 516 = .ok (.ireturn, 1) := by decide +kernel
theorem dL_law_517 : decode cL_law 517 = .ok (.goto 637, 3) := by decide +kernel
theorem dL_law_520 : decode cL_law 520 = .ok (.aload_n 1, 1) := by decide +kernel
theorem dL_law_521 : decode cL_law 521 = .ok (.aload_n 0, 1) := by decide +kernel
theorem dL_law_522 : decode cL_law 522 = .ok (.iload 4, 2) := by decide +kernel
theorem dL_law_524 : decode cL_law 524 = .ok (.iconst 1, 1) := by decide +kernel
theorem dL_law_525 : decode cL_law 525 = .ok (.iadd, 1) := by decide +kernel
theorem dL_law_526 : decode cL_law 526 = .ok (.iaload, 1) := by decide +kernel
theorem dL_law_527 : decode cL_law 527 = .ok (.invokevirtual 65, 3) := by decide +kernel
theorem dL_law_530 : decode cL_law 530 = .ok (.aload_n 2, 1) := by decide +kernel
theorem dL_law_531 : decode cL_law 531 = .ok (.aload_n 0, 1) := by decide +kernel
theorem dL_law_532 : decode cL_law 532 = .ok (.iload 4, 2) := by decide +kernel
theorem dL_law_534 : decode cL_law 534 = .ok (.iconst 1, 1) := by decide +kernel
theorem dL_law_535 : decode cL_law 535 = .ok (.iadd, 1) := by decide +kernel
theorem dL_law_536 : decode cL_law 536 = .ok (.iaload, 1) := by decide +kernel
theorem dL_law_537 : decode cL_law 537 = .ok (.invokevirtual 68, 3) := by decide +kernel
theorem dL_law_540 : decode cL_law 540 = .ok (.if_icmp .eq 614, 3) := by decide +kernel
theorem dL_law_543 : decode cL_law 543 = .ok (.iconst 0, 1) := by decide +kernel
theorem dL_law_544 : decode cL_law 544 = .ok (.ireturn, 1) := by decide +kernel
theorem dL_law_545 : decode cL_law 545 = .ok (.aload_n 1, 1) := by decide +kernel
theorem dL_law_546 : decode cL_law 546 = .ok (.aload_n 0, 1) := by decide +kernel
theorem dL_law_547 : decode cL_law 547 = .ok (.iload 4, 2) := by decide +kernel
theorem dL_law_549 : decode cL_law 549 = .ok (.iconst 1, 1) := by decide +kernel
theorem dL_law_550 : decode cL_law 550 = .ok (.iadd, 1) := by decide +kernel
theorem dL_law_551 : decode cL_law 551 = .ok (.iaload, 1) := by decide +kernel
theorem dL_law_552 : decode cL_law 552 = .ok (.invokevirtual 69, 3) := by decide +kernel
theorem dL_law_555 : decode cL_law 555 = .ok (.aload_n 2, 1) := by decide +kernel
theorem dL_law_556 : decode cL_law 556 = .ok (.aload_n 0, 1) := by decide +kernel
theorem dL_law_557 : decode cL_law 557 = .ok (.iload 4, 2) := by decide +kernel
theorem dL_law_559 : decode cL_law 559 = .ok (.iconst 1, 1) := by decide +kernel
theorem dL_law_560 : decode cL_law 560 = .ok (.iadd, 1) := by decide +kernel
theorem dL_law_561 : decode cL_law 561 = .ok (.iaload, 1) := by decide +kernel
theorem dL_law_562 : decode cL_law 562 = .ok (.invokevirtual 72, 3) := by decide +kernel
theorem dL_law_565 : decode cL_law 565 = .ok (.if_icmp .eq 589, 3) := by decide +kernel
theorem dL_law_568 : decode cL_law 568 = .ok (.iconst 0, 1) := by decide +kernel
theorem dL_law_569 : decode cL_law 569 = .ok (.ireturn, 1) := by decide +kernel
theorem dL_law_570 : decode cL_law 570 = .ok (.aload_n 1, 1) := by decide +kernel
theorem dL_law_571 : decode cL_law 571 = .ok (.invokevirtual 73, 3) := by decide +kernel
theorem dL_law_574 : decode cL_law 574 = .ok (.aload_n 2, 1) := by decide +kernel
theorem dL_law_575 : decode cL_law 575 = .ok (.invokevirtual 76, 3) := by decide +kernel
theorem dL_law_578 : decode cL_law 578 = .ok (.if_icmp .eq 576, 3) := by decide +kernel
theorem dL_law_581 : decode cL_law 581 = .ok (.iconst 0, 1) := by decide +kernel
theorem dL_law_582 : decode cL_law 582 = .ok (.ireturn, 1) := by decide +kernel
theorem dL_law_583 : decode cL_law 583 = .ok (.aload_n 1, 1) := by decide +kernel
theorem dL_law_584 : decode cL_law 584 = .ok (.aload_n 0, 1) := by decide +kernel
theorem dL_law_585 : decode cL_law 585 = .ok (.iload 4, 2) := by decide +kernel
theorem dL_law_587 : decode cL_law 587 = .ok (.iconst 1, 1) := by decide +kernel
theorem dL_law_588 : decode cL_law 588 = .ok (.iadd, 1) := by decide +kernel
theorem dL_law_589 : decode cL_law 589 = .ok (.iaload, 1) := by decide +kernel
theorem dL_law_590 : decode cL_law 590 = .ok (.ifCond .eq 7, 3) := by decide +kernel
theorem dL_law_593 : decode cL_law 593 = .ok (.iconst 1, 1) := by decide +kernel
theorem dL_law_594 : decode cL_law 594 = .ok (.goto 4, 3) := by decide +kernel
theorem dL_law_597 : decode cL_law 597 = .ok (.iconst 0, 1) := by decide +kernel
theorem dL_law_598 : decode cL_law 598 = .ok (.aload_n 0, 1) := by decide +kernel
theorem dL_law_599 : decode cL_law 599 = .ok (.iload 4, 2) := by decide +kernel
theorem dL_law_601 : decode cL_law 601 = .ok (.iconst 2, 1) := by decide +kernel
theorem dL_law_602 : decode cL_law 602 = .ok (.iadd, 1) := by decide +kernel
theorem dL_law_603 : decode cL_law 603 = .ok (.iaload, 1) := by decide +kernel
theorem dL_law_604 : decode cL_law 604 = .ok (.invokevirtual 77, 3) := by decide +kernel
theorem dL_law_607 : decode cL_law 607 = .ok (.aload_n 2, 1) := by decide +kernel
theorem dL_law_608 : decode cL_law 608 = .ok (.aload_n 0, 1) := by decide +kernel
theorem dL_law_609 : decode cL_law 609 = .ok (.iload 4, 2) := by decide +kernel
theorem dL_law_611 : decode cL_law 611 = .ok (.iconst 1, 1) := by decide +kernel
theorem dL_law_612 : decode cL_law 612 = .ok (.iadd, 1) := by decide +kernel
theorem dL_law_613 : decode cL_law 613 = .ok (.iaload, 1) := by decide +kernel
theorem dL_law_614 : decode cL_law 614 = .ok (.ifCond .eq 7, 3) := by decide +kernel
theorem dL_law_617 : decode cL_law 617 = .ok (.iconst 1, 1) := by decide +kernel
theorem dL_law_618 : decode cL_law 618 = .ok (.goto 4, 3) := by decide +kernel
theorem dL_law_621 : decode cL_law 621 = .ok (.iconst 0, 1) := by decide +kernel
theorem dL_law_622 : decode cL_law 622 = .ok (.aload_n 0, 1) := by decide +kernel
theorem dL_law_623 : decode cL_law 623 = .ok (.iload 4, 2) := by decide +kernel
theorem dL_law_625 : decode cL_law 625 = .ok (.iconst 2, 1) := by decide +kernel
theorem dL_law_626 : decode cL_law 626 = .ok (.iadd, 1) := by decide +kernel
theorem dL_law_627 : decode cL_law 627 = .ok (.iaload, 1) := by decide +kernel
theorem dL_law_628 : decode cL_law 628 = .ok (.invokevirtual 81, 3) := by decide +kernel
theorem dL_law_631 : decode cL_law 631 = .ok (.if_icmp .eq 523, 3) := by decide +kernel
theorem dL_law_634 : decode cL_law 634 = .ok (.iconst 0, 1) := by decide +kernel
theorem dL_law_635 : decode cL_law 635 = .ok (.ireturn, 1) := by decide +kernel
theorem dL_law_636 : decode cL_law 636 = .ok (.aload_n 1, 1) := by decide +kernel
theorem dL_law_637 : decode cL_law 637 = .ok (.aload_n 0, 1) := by decide +kernel
theorem dL_law_638 : decode cL_law 638 = .ok (.iload 4, 2) := by decide +kernel
theorem dL_law_640 : decode cL_law 640 = .ok (.iconst 1, 1) := by decide +kernel
theorem dL_law_641 : decode cL_law 641 = .ok (.iadd, 1) := by decide +kernel
theorem dL_law_642 : decode cL_law 642 = .ok (.iaload, 1) := by decide +kernel
theorem dL_law_643 : decode cL_law 643 = .ok (.invokevirtual 82, 3) := by decide +kernel
theorem dL_law_646 : decode cL_law 646 = .ok (.aload_n 2, 1) := by decide +kernel
theorem dL_law_647 : decode cL_law 647 = .ok (.aload_n 0, 1) := by decide +kernel
theorem dL_law_648 : decode cL_law 648 = .ok (.iload 4, 2) := by decide +kernel
theorem dL_law_650 : decode cL_law 650 = .ok (.iconst 1, 1) := by decide +kernel
theorem dL_law_651 : decode cL_law 651 = .ok (.iadd, 1) := by decide +kernel
theorem dL_law_652 : decode cL_law 652 = .ok (.iaload, 1) := by decide +kernel
theorem dL_law_653 : decode cL_law 653 = .ok (.invokevirtual 85, 3) := by decide +kernel
theorem dL_law_656 : decode cL_law 656 = .ok (.if_icmp .eq 498, 3) := by decide +kernel
theorem dL_law_659 : decode cL_law 659 = .ok (.iconst 0, 1) := by decide +kernel
theorem dL_law_660 : decode cL_law 660 = .ok (.ireturn, 1) := by decide +kernel
theorem dL_law_661 : decode cL_law 661 = .ok (.aload_n 1, 1) := by decide +kernel
theorem dL_law_662 : decode cL_law 662 = .ok (.aload_n 0, 1) := by decide +kernel
theorem dL_law_663 : decode cL_law 663 = .ok (.iload 4, 2) := by decide +kernel
theorem dL_law_665 : decode cL_law 665 = .ok (.iconst 1, 1) := by decide +kernel
theorem dL_law_666 : decode cL_law 666 = .ok (.iadd, 1) := by decide +kernel
theorem dL_law_667 : decode cL_law 667 = .ok (.iaload, 1) := by decide +kernel
theorem dL_law_668 : decode cL_law 668 = .ok (.aload_n 0, 1) := by decide +kernel
theorem dL_law_669 : decode cL_law 669 = .ok (.iload 4, 2) := by decide +kernel
theorem dL_law_671 : decode cL_law 671 = .ok (.iconst 2, 1) := by decide +kernel
theorem dL_law_672 : decode cL_law 672 = .ok (.iadd, 1) := by decide +kernel
theorem dL_law_673 : decode cL_law 673 = .ok (.iaload, 1) := by decide +kernel
theorem dL_law_674 : decode cL_law 674 = .ok (.invokevirtual 86, 3) := by decide +kernel
theorem dL_law_677 : decode cL_law 677 = .ok (.aload_n 2, 1) := by decide +kernel
theorem dL_law_678 : decode cL_law 678 = .ok (.aload_n 0, 1) := by decide +kernel
theorem dL_law_679 : decode cL_law 679 = .ok (.iload 4, 2) := by decide +kernel
theorem dL_law_681 : decode cL_law 681 = .ok (.iconst 1, 1) := by decide +kernel
theorem dL_law_682 : decode cL_law 682 = .ok (.iadd, 1) := by decide +kernel
theorem dL_law_683 : decode cL_law 683 = .ok (.iaload, 1) := by decide +kernel
theorem dL_law_684 : decode cL_law 684 = .ok (.aload_n 0, 1) := by decide +kernel
theorem dL_law_685 : decode cL_law 685 = .ok (.iload 4, 2) := by decide +kernel
theorem dL_law_687 : decode cL_law 687 = .ok (.iconst 2, 1) := by decide +kernel
theorem dL_law_688 : decode cL_law 688 = .ok (.iadd, 1) := by decide +kernel
theorem dL_law_689 : decode cL_law 689 = .ok (.iaload, 1) := by decide +kernel
theorem dL_law_690 : decode cL_law 690 = .ok (.invokevirtual 89, 3) := by decide +kernel
theorem dL_law_693 : decode cL_law 693 = .ok (.if_icmp .eq 461, 3) := by decide +kernel
theorem dL_law_696 : decode cL_law 696 = .ok (.iconst 0, 1) := by decide +kernel
theorem dL_law_697 : decode cL_law 697 = .ok (.ireturn, 1) := by decide +kernel
theorem dL_law_698 : decode cL_law 698 = .ok (.aload_n 1, 1) := by decide +kernel
theorem dL_law_699 : decode cL_law 699 = .ok (.aload_n 0, 1) := by decide +kernel
theorem dL_law_700 : decode cL_law 700 = .ok (.iload 4, 2) := by decide +kernel
theorem dL_law_702 : decode cL_law 702 = .ok (.iconst 1, 1) := by decide +kernel
theorem dL_law_703 : decode cL_law 703 = .ok (.iadd, 1) := by decide +kernel
theorem dL_law_704 : decode cL_law 704 = .ok (.iaload, 1) := by decide +kernel
theorem dL_law_705 : decode cL_law 705 = .ok (.aload_n 0, 1) := by decide +kernel
theorem dL_law_706 : decode cL_law 706 = .ok (.iload 4, 2) := by decide +kernel
theorem dL_law_708 : decode cL_law 708 = .ok (.iconst 2, 1) := by decide +kernel
theorem dL_law_709 : decode cL_law 709 = .ok (.iadd, 1) := by decide +kernel
theorem dL_law_710 : decode cL_law 710 = .ok (.iaload, 1) := by decide +kernel
theorem dL_law_711 : decode cL_law 711 = .ok (.invokevirtual 90, 3) := by decide +kernel
theorem dL_law_714 : decode cL_law 714 = .ok (.aload_n 2, 1) := by decide +kernel
theorem dL_law_715 : decode cL_law 715 = .ok (.aload_n 0, 1) := by decide +kernel
theorem dL_law_716 : decode cL_law 716 = .ok (.iload 4, 2) := by decide +kernel
theorem dL_law_718 : decode cL_law 718 = .ok (.iconst 1, 1) := by decide +kernel
theorem dL_law_719 : decode cL_law 719 = .ok (.iadd, 1) := by decide +kernel
theorem dL_law_720 : decode cL_law 720 = .ok (.iaload, 1) := by decide +kernel
theorem dL_law_721 : decode cL_law 721 = .ok (.aload_n 0, 1) := by decide +kernel
theorem dL_law_722 : decode cL_law 722 = .ok (.iload 4, 2) := by decide +kernel
theorem dL_law_724 : decode cL_law 724 = .ok (.iconst 2, 1) := by decide +kernel
theorem dL_law_725 : decode cL_law 725 = .ok (.iadd, 1) := by decide +kernel
theorem dL_law_726 : decode cL_law 726 = .ok (.iaload, 1) := by decide +kernel
theorem dL_law_727 : decode cL_law 727 = .ok (.invokevirtual 93, 3) := by decide +kernel
theorem dL_law_730 : decode cL_law 730 = .ok (.if_icmp .eq 424, 3) := by decide +kernel
theorem dL_law_733 : decode cL_law 733 = .ok (.iconst 0, 1) := by decide +kernel
theorem dL_law_734 : decode cL_law 734 = .ok (.ireturn, 1) := by decide +kernel
theorem dL_law_735 : decode cL_law 735 = .ok (.aload_n 1, 1) := by decide +kernel
theorem dL_law_736 : decode cL_law 736 = .ok (.aload_n 0, 1) := by decide +kernel
theorem dL_law_737 : decode cL_law 737 = .ok (.iload 4, 2) := by decide +kernel
theorem dL_law_739 : decode cL_law 739 = .ok (.iconst 1, 1) := by decide +kernel
theorem dL_law_740 : decode cL_law 740 = .ok (.iadd, 1) := by decide +kernel
theorem dL_law_741 : decode cL_law 741 = .ok (.iaload, 1) := by decide +kernel
theorem dL_law_742 : decode cL_law 742 = .ok (.aload_n 0, 1) := by decide +kernel
theorem dL_law_743 : decode cL_law 743 = .ok (.iload 4, 2) := by decide +kernel
theorem dL_law_745 : decode cL_law 745 = .ok (.iconst 2, 1) := by decide +kernel
theorem dL_law_746 : decode cL_law 746 = .ok (.iadd, 1) := by decide +kernel
theorem dL_law_747 : decode cL_law 747 = .ok (.iaload, 1) := by decide +kernel
theorem dL_law_748 : decode cL_law 748 = .ok (.aload_n 0, 1) := by decide +kernel
theorem dL_law_749 : decode cL_law 749 = .ok (.iload 4, 2) := by decide +kernel
theorem dL_law_751 : decode cL_law 751 = .ok (.iconst 3, 1) := by decide +kernel
theorem dL_law_752 : decode cL_law 752 = .ok (.iadd, 1) := by decide +kernel
theorem dL_law_753 : decode cL_law 753 = .ok (.iaload, 1) := by decide +kernel
theorem dL_law_754 : decode cL_law 754 = .ok (.invokevirtual 94, 3) := by decide +kernel
theorem dL_law_757 : decode cL_law 757 = .ok (.aload_n 2, 1) := by decide +kernel
theorem dL_law_758 : decode cL_law 758 = .ok (.aload_n 0, 1) := by decide +kernel
theorem dL_law_759 : decode cL_law 759 = .ok (.iload 4, 2) := by decide +kernel
theorem dL_law_761 : decode cL_law 761 = .ok (.iconst 1, 1) := by decide +kernel
theorem dL_law_762 : decode cL_law 762 = .ok (.iadd, 1) := by decide +kernel
theorem dL_law_763 : decode cL_law 763 = .ok (.iaload, 1) := by decide +kernel
theorem dL_law_764 : decode cL_law 764 = .ok (.aload_n 0, 1) := by decide +kernel
theorem dL_law_765 : decode cL_law 765 = .ok (.iload 4, 2) := by decide +kernel
theorem dL_law_767 : decode cL_law 767 = .ok (.iconst 2, 1) := by decide +kernel
theorem dL_law_768 : decode cL_law 768 = .ok (.iadd, 1) := by decide +kernel
theorem dL_law_769 : decode cL_law 769 = .ok (.iaload, 1) := by decide +kernel
theorem dL_law_770 : decode cL_law 770 = .ok (.aload_n 0, 1) := by decide +kernel
theorem dL_law_771 : decode cL_law 771 = .ok (.iload 4, 2) := by decide +kernel
theorem dL_law_773 : decode cL_law 773 = .ok (.iconst 3, 1) := by decide +kernel
theorem dL_law_774 : decode cL_law 774 = .ok (.iadd, 1) := by decide +kernel
theorem dL_law_775 : decode cL_law 775 = .ok (.iaload, 1) := by decide +kernel
theorem dL_law_776 : decode cL_law 776 = .ok (.invokevirtual 97, 3) := by decide +kernel
theorem dL_law_779 : decode cL_law 779 = .ok (.if_icmp .eq 375, 3) := by decide +kernel
theorem dL_law_782 : decode cL_law 782 = .ok (.iconst 0, 1) := by decide +kernel
theorem dL_law_783 : decode cL_law 783 = .ok (.ireturn, 1) := by decide +kernel
theorem dL_law_784 : decode cL_law 784 = .ok (.aload_n 1, 1) := by decide +kernel
theorem dL_law_785 : decode cL_law 785 = .ok (.aload_n 0, 1) := by decide +kernel
theorem dL_law_786 : decode cL_law 786 = .ok (.iload 4, 2) := by decide +kernel
theorem dL_law_788 : decode cL_law 788 = .ok (.iconst 1, 1) := by decide +kernel
theorem dL_law_789 : decode cL_law 789 = .ok (.iadd, 1) := by decide +kernel
theorem dL_law_790 : decode cL_law 790 = .ok (.iaload, 1) := by decide +kernel
theorem dL_law_791 : decode cL_law 791 = .ok (.aload_n 0, 1) := by decide +kernel
theorem dL_law_792 : decode cL_law 792 = .ok (.iload 4, 2) := by decide +kernel
theorem dL_law_794 : decode cL_law 794 = .ok (.iconst 2, 1) := by decide +kernel
theorem dL_law_795 : decode cL_law 795 = .ok (.iadd, 1) := by decide +kernel
theorem dL_law_796 : decode cL_law 796 = .ok (.iaload, 1) := by decide +kernel
theorem dL_law_797 : decode cL_law 797 = .ok (.invokevirtual 98, 3) := by decide +kernel
theorem dL_law_800 : decode cL_law 800 = .ok (.aload_n 2, 1) := by decide +kernel
theorem dL_law_801 : decode cL_law 801 = .ok (.aload_n 0, 1) := by decide +kernel
theorem dL_law_802 : decode cL_law 802 = .ok (.iload 4, 2) := by decide +kernel
theorem dL_law_804 : decode cL_law 804 = .ok (.iconst 1, 1) := by decide +kernel
theorem dL_law_805 : decode cL_law 805 = .ok (.iadd, 1) := by decide +kernel
theorem dL_law_806 : decode cL_law 806 = .ok (.iaload, 1) := by decide +kernel
theorem dL_law_807 : decode cL_law 807 = .ok (.aload_n 0, 1) := by decide +kernel
theorem dL_law_808 : decode cL_law 808 = .ok (.iload 4, 2) := by decide +kernel
theorem dL_law_810 : decode cL_law 810 = .ok (.iconst 2, 1) := by decide +kernel
theorem dL_law_811 : decode cL_law 811 = .ok (.iadd, 1) := by decide +kernel
theorem dL_law_812 : decode cL_law 812 = .ok (.iaload, 1) := by decide +kernel
theorem dL_law_813 : decode cL_law 813 = .ok (.invokevirtual 101, 3) := by decide +kernel
theorem dL_law_816 : decode cL_law 816 = .ok (.if_icmp .eq 338, 3) := by decide +kernel
theorem dL_law_819 : decode cL_law 819 = .ok (.iconst 0, 1) := by decide +kernel
theorem dL_law_820 : decode cL_law 820 = .ok (.ireturn, 1) := by decide +kernel
theorem dL_law_821 : decode cL_law 821 = .ok (.aload_n 1, 1) := by decide +kernel
theorem dL_law_822 : decode cL_law 822 = .ok (.invokevirtual 102, 3) := by decide +kernel
theorem dL_law_825 : decode cL_law 825 = .ok (.aload_n 2, 1) := by decide +kernel
theorem dL_law_826 : decode cL_law 826 = .ok (.invokevirtual 105, 3) := by decide +kernel
theorem dL_law_829 : decode cL_law 829 = .ok (.if_icmp .eq 325, 3) := by decide +kernel
theorem dL_law_832 : decode cL_law 832 = .ok (.iconst 0, 1) := by decide +kernel
theorem dL_law_833 : decode cL_law 833 = .ok (.ireturn, 1) := by decide +kernel
theorem dL_law_834 : decode cL_law 834 = .ok (.aload_n 1, 1) := by decide +kernel
theorem dL_law_835 : decode cL_law 835 = .ok (.aload_n 0, 1) := by decide +kernel
theorem dL_law_836 : decode cL_law 836 = .ok (.iload 4, 2) := by decide +kernel
theorem dL_law_838 : decode cL_law 838 = .ok (.iconst 1, 1) := by decide +kernel
theorem dL_law_839 : decode cL_law 839 = .ok (.iadd, 1) := by decide +kernel
theorem dL_law_840 : decode cL_law 840 = .ok (.iaload, 1) := by decide +kernel
theorem dL_law_841 : decode cL_law 841 = .ok (.invokevirtual 106, 3) := by decide +kernel
theorem dL_law_844 : decode cL_law 844 = .ok (.aload_n 2, 1) := by decide +kernel
theorem dL_law_845 : decode cL_law 845 = .ok (.aload_n 0, 1) := by decide +kernel
theorem dL_law_846 : decode cL_law 846 = .ok (.iload 4, 2) := by decide +kernel
theorem dL_law_848 : decode cL_law 848 = .ok (.iconst 1, 1) := by decide +kernel
theorem dL_law_849 : decode cL_law 849 = .ok (.iadd, 1) := by decide +kernel
theorem dL_law_850 : decode cL_law 850 = .ok (.iaload, 1) := by decide +kernel
theorem dL_law_851 : decode cL_law 851 = .ok (.invokevirtual 109, 3) := by decide +kernel
theorem dL_law_854 : decode cL_law 854 = .ok (.if_icmp .eq 300, 3) := by decide +kernel
theorem dL_law_857 : decode cL_law 857 = .ok (.iconst 0, 1) := by decide +kernel
theorem dL_law_858 : decode cL_law 858 = .ok (.ireturn, 1) := by decide +kernel
theorem dL_law_859 : decode cL_law 859 = .ok (.aload_n 1, 1) := by decide +kernel
theorem dL_law_860 : decode cL_law 860 = .ok (.invokevirtual 110, 3) := by decide +kernel
theorem dL_law_863 : decode cL_law 863 = .ok (.aload_n 2, 1) := by decide +kernel
theorem dL_law_864 : decode cL_law 864 = .ok (.invokevirtual 113, 3) := by decide +kernel
theorem dL_law_867 : decode cL_law 867 = .ok (.if_icmp .eq 287, 3) := by decide +kernel
theorem dL_law_870 : decode cL_law 870 = .ok (.iconst 0, 1) := by decide +kernel
theorem dL_law_871 : decode cL_law 871 = .ok (.ireturn, 1) := by decide +kernel
theorem dL_law_872 : decode cL_law 872 = .ok (.aload_n 1, 1) := by decide +kernel
theorem dL_law_873 : decode cL_law 873 = .ok (.aload_n 0, 1) := by decide +kernel
theorem dL_law_874 : decode cL_law 874 = .ok (.iload 4, 2) := by decide +kernel
theorem dL_law_876 : decode cL_law 876 = .ok (.iconst 1, 1) := by decide +kernel
theorem dL_law_877 : decode cL_law 877 = .ok (.iadd, 1) := by decide +kernel
theorem dL_law_878 : decode cL_law 878 = .ok (.iaload, 1) := by decide +kernel
theorem dL_law_879 : decode cL_law 879 = .ok (.ifCond .eq 7, 3) := by decide +kernel
theorem dL_law_882 : decode cL_law 882 = .ok (.iconst 1, 1) := by decide +kernel
theorem dL_law_883 : decode cL_law 883 = .ok (.goto 4, 3) := by decide +kernel
theorem dL_law_886 : decode cL_law 886 = .ok (.iconst 0, 1) := by decide +kernel
theorem dL_law_887 : decode cL_law 887 = .ok (.invokevirtual 114, 3) := by decide +kernel
theorem dL_law_890 : decode cL_law 890 = .ok (.aload_n 2, 1) := by decide +kernel
theorem dL_law_891 : decode cL_law 891 = .ok (.aload_n 0, 1) := by decide +kernel
theorem dL_law_892 : decode cL_law 892 = .ok (.iload 4, 2) := by decide +kernel
theorem dL_law_894 : decode cL_law 894 = .ok (.iconst 1, 1) := by decide +kernel
theorem dL_law_895 : decode cL_law 895 = .ok (.iadd, 1) := by decide +kernel
theorem dL_law_896 : decode cL_law 896 = .ok (.iaload, 1) := by decide +kernel
theorem dL_law_897 : decode cL_law 897 = .ok (.ifCond .eq 7, 3) := by decide +kernel
theorem dL_law_900 : decode cL_law 900 = .ok (.iconst 1, 1) := by decide +kernel
theorem dL_law_901 : decode cL_law 901 = .ok (.goto 4, 3) := by decide +kernel
theorem dL_law_904 : decode cL_law 904 = .ok (.iconst 0, 1) := by decide +kernel
theorem dL_law_905 : decode cL_law 905 = .ok (.invokevirtual 118, 3) := by decide +kernel
theorem dL_law_908 : decode cL_law 908 = .ok (.if_icmp .eq 246, 3) := by decide +kernel
theorem dL_law_911 : decode cL_law 911 = .ok (.iconst 0, 1) := by decide +kernel
theorem dL_law_912 : decode cL_law 912 = .ok (.ireturn, 1) := by decide +kernel
theorem dL_law_913 : decode cL_law 913 = .ok (.aload_n 1, 1) := by decide +kernel
theorem dL_law_914 : decode cL_law 914 = .ok (.aload_n 0, 1) := by decide +kernel
theorem dL_law_915 : decode cL_law 915 = .ok (.iload 4, 2) := by decide +kernel
theorem dL_law_917 : decode cL_law 917 = .ok (.iconst 1, 1) := by decide +kernel
theorem dL_law_918 : decode cL_law 918 = .ok (.iadd, 1) := by decide +kernel
theorem dL_law_919 : decode cL_law 919 = .ok (.iaload, 1) := by decide +kernel
theorem dL_law_920 : decode cL_law 920 = .ok (.ifCond .eq 7, 3) := by decide +kernel
theorem dL_law_923 : decode cL_law 923 = .ok (.iconst 1, 1) := by decide +kernel
theorem dL_law_924 : decode cL_law 924 = .ok (.goto 4, 3) := by decide +kernel
theorem dL_law_927 : decode cL_law 927 = .ok (.iconst 0, 1) := by decide +kernel
theorem dL_law_928 : decode cL_law 928 = .ok (.invokevirtual 119, 3) := by decide +kernel
theorem dL_law_931 : decode cL_law 931 = .ok (.aload_n 2, 1) := by decide +kernel
theorem dL_law_932 : decode cL_law 932 = .ok (.aload_n 0, 1) := by decide +kernel
theorem dL_law_933 : decode cL_law 933 = .ok (.iload 4, 2) := by decide +kernel
theorem dL_law_935 : decode cL_law 935 = .ok (.iconst 1, 1) := by decide +kernel
theorem dL_law_936 : decode cL_law 936 = .ok (.iadd, 1) := by decide +kernel
theorem dL_law_937 : decode cL_law 937 = .ok (.iaload, 1) := by decide +kernel
theorem dL_law_938 : decode cL_law 938 = .ok (.ifCond .eq 7, 3) := by decide +kernel
theorem dL_law_941 : decode cL_law 941 = .ok (.iconst 1, 1) := by decide +kernel
theorem dL_law_942 : decode cL_law 942 = .ok (.goto 4, 3) := by decide +kernel
theorem dL_law_945 : decode cL_law 945 = .ok (.iconst 0, 1) := by decide +kernel
theorem dL_law_946 : decode cL_law 946 = .ok (.invokevirtual 122, 3) := by decide +kernel
theorem dL_law_949 : decode cL_law 949 = .ok (.if_icmp .eq 205, 3) := by decide +kernel
theorem dL_law_952 : decode cL_law 952 = .ok (.iconst 0, 1) := by decide +kernel
theorem dL_law_953 : decode cL_law 953 = .ok (.ireturn, 1) := by decide +kernel
theorem dL_law_954 : decode cL_law 954 = .ok (.aload_n 1, 1) := by decide +kernel
theorem dL_law_955 : decode cL_law 955 = .ok (.aload_n 0, 1) := by decide +kernel
theorem dL_law_956 : decode cL_law 956 = .ok (.iload 4, 2) := by decide +kernel
theorem dL_law_958 : decode cL_law 958 = .ok (.iconst 1, 1) := by decide +kernel
theorem dL_law_959 : decode cL_law 959 = .ok (.iadd, 1) := by decide +kernel
theorem dL_law_960 : decode cL_law 960 = .ok (.iaload, 1) := by decide +kernel
theorem dL_law_961 : decode cL_law 961 = .ok (.invokevirtual 123, 3) := by decide +kernel
theorem dL_law_964 : decode cL_law 964 = .ok (.aload_n 2, 1) := by decide +kernel
theorem dL_law_965 : decode cL_law 965 = .ok (.aload_n 0, 1) := by decide +kernel
theorem dL_law_966 : decode cL_law 966 = .ok (.iload 4, 2) := by decide +kernel
theorem dL_law_968 : decode cL_law 968 = .ok (.iconst 1, 1) := by decide +kernel
theorem dL_law_969 : decode cL_law 969 = .ok (.iadd, 1) := by decide +kernel
theorem dL_law_970 : decode cL_law 970 = .ok (.iaload, 1) := by decide +kernel
theorem dL_law_971 : decode cL_law 971 = .ok (.invokevirtual 126, 3) := by decide +kernel
theorem dL_law_974 : decode cL_law 974 = .ok (.if_icmp .eq 180, 3) := by decide +kernel
theorem dL_law_977 : decode cL_law 977 = .ok (.iconst 0, 1) := by decide +kernel
theorem dL_law_978 : decode cL_law 978 = .ok (.ireturn, 1) := by decide +kernel
theorem dL_law_979 : decode cL_law 979 = .ok (.aload_n 1, 1) := by decide +kernel
theorem dL_law_980 : decode cL_law 980 = .ok (.aload_n 0, 1) := by decide +kernel
theorem dL_law_981 : decode cL_law 981 = .ok (.iload 4, 2) := by decide +kernel
theorem dL_law_983 : decode cL_law 983 = .ok (.iconst 1, 1) := by decide +kernel
theorem dL_law_984 : decode cL_law 984 = .ok (.iadd, 1) := by decide +kernel
theorem dL_law_985 : decode cL_law 985 = .ok (.iaload, 1) := by decide +kernel
theorem dL_law_986 : decode cL_law 986 = .ok (.invokevirtual 127, 3) := by decide +kernel
theorem dL_law_989 : decode cL_law 989 = .ok (.aload_n 2, 1) := by decide +kernel
theorem dL_law_990 : decode cL_law 990 = .ok (.aload_n 0, 1) := by decide +kernel
theorem dL_law_991 : decode cL_law 991 = .ok (.iload 4, 2) := by decide +kernel
theorem dL_law_993 : decode cL_law 993 = .ok (.iconst 1, 1) := by decide +kernel
theorem dL_law_994 : decode cL_law 994 = .ok (.iadd, 1) := by decide +kernel
theorem dL_law_995 : decode cL_law 995 = .ok (.iaload, 1) := by decide +kernel
theorem dL_law_996 : decode cL_law 996 = .ok (.invokevirtual 130, 3) := by decide +kernel
theorem dL_law_999 : decode cL_law 999 = .ok (.if_icmp .eq 155, 3) := by decide +kernel
theorem dL_law_1002 : decode cL_law 1002 = .ok (.iconst 0, 1) := by decide +kernel
theorem dL_law_1003 : decode cL_law 1003 = .ok (.ireturn, 1) := by decide +kernel
theorem dL_law_1004 : decode cL_law 1004 = .ok (.aload_n 1, 1) := by decide +kernel
theorem dL_law_1005 : decode cL_law 1005 = .ok (.aload_n 0, 1) := by decide +kernel
theorem dL_law_1006 : decode cL_law 1006 = .ok (.iload 4, 2) := by decide +kernel
theorem dL_law_1008 : decode cL_law 1008 = .ok (.iconst 1, 1) := by decide +kernel
theorem dL_law_1009 : decode cL_law 1009 = .ok (.iadd, 1) := by decide +kernel
theorem dL_law_1010 : decode cL_law 1010 = .ok (.iaload, 1) := by decide +kernel
theorem dL_law_1011 : decode cL_law 1011 = .ok (.aload_n 0, 1) := by decide +kernel
theorem dL_law_1012 : decode cL_law 1012 = .ok (.iload 4, 2) := by decide +kernel
theorem dL_law_1014 : decode cL_law 1014 = .ok (.iconst 2, 1) := by decide +kernel
theorem dL_law_1015 : decode cL_law 1015 = .ok (.iadd, 1) := by decide +kernel
theorem dL_law_1016 : decode cL_law 1016 = .ok (.iaload, 1) := by decide +kernel
theorem dL_law_1017 : decode cL_law 1017 = .ok (.invokevirtual 131, 3) := by decide +kernel
theorem dL_law_1020 : decode cL_law 1020 = .ok (.aload_n 2, 1) := by decide +kernel
theorem dL_law_1021 : decode cL_law 1021 = .ok (.aload_n 0, 1) := by decide +kernel
theorem dL_law_1022 : decode cL_law 1022 = .ok (.iload 4, 2) := by decide +kernel
theorem dL_law_1024 : decode cL_law 1024 = .ok (.iconst 1, 1) := by decide +kernel
theorem dL_law_1025 : decode cL_law 1025 = .ok (.iadd, 1) := by decide +kernel
theorem dL_law_1026 : decode cL_law 1026 = .ok (.iaload, 1) := by decide +kernel
theorem dL_law_1027 : decode cL_law 1027 = .ok (.aload_n 0, 1) := by decide +kernel
theorem dL_law_1028 : decode cL_law 1028 = .ok (.iload 4, 2) := by decide +kernel
theorem dL_law_1030 : decode cL_law 1030 = .ok (.iconst 2, 1) := by decide +kernel
theorem dL_law_1031 : decode cL_law 1031 = .ok (.iadd, 1) := by decide +kernel
theorem dL_law_1032 : decode cL_law 1032 = .ok (.iaload, 1) := by decide +kernel
theorem dL_law_1033 : decode cL_law 1033 = .ok (.invokevirtual 134, 3) := by decide +kernel
theorem dL_law_1036 : decode cL_law 1036 = .ok (.if_icmp .eq 118, 3) := by decide +kernel
theorem dL_law_1039 : decode cL_law 1039 = .ok (.iconst 0, 1) := by decide +kernel
theorem dL_law_1040 : decode cL_law 1040 = .ok (.ireturn, 1) := by decide +kernel
theorem dL_law_1041 : decode cL_law 1041 = .ok (.aload_n 1, 1) := by decide +kernel
theorem dL_law_1042 : decode cL_law 1042 = .ok (.invokevirtual 135, 3) := by decide +kernel
theorem dL_law_1045 : decode cL_law 1045 = .ok (.aload_n 2, 1) := by decide +kernel
theorem dL_law_1046 : decode cL_law 1046 = .ok (.invokevirtual 138, 3) := by decide +kernel
theorem dL_law_1049 : decode cL_law 1049 = .ok (.if_icmp .eq 105, 3) := by decide +kernel
theorem dL_law_1052 : decode cL_law 1052 = .ok (.iconst 0, 1) := by decide +kernel
theorem dL_law_1053 : decode cL_law 1053 = .ok (.ireturn, 1) := by decide +kernel
theorem dL_law_1054 : decode cL_law 1054 = .ok (.aload_n 1, 1) := by decide +kernel
theorem dL_law_1055 : decode cL_law 1055 = .ok (.aload_n 0, 1) := by decide +kernel
theorem dL_law_1056 : decode cL_law 1056 = .ok (.iload 4, 2) := by decide +kernel
theorem dL_law_1058 : decode cL_law 1058 = .ok (.iconst 1, 1) := by decide +kernel
theorem dL_law_1059 : decode cL_law 1059 = .ok (.iadd, 1) := by decide +kernel
theorem dL_law_1060 : decode cL_law 1060 = .ok (.iaload, 1) := by decide +kernel
theorem dL_law_1061 : decode cL_law 1061 = .ok (.aload_n 0, 1) := by decide +kernel
theorem dL_law_1062 : decode cL_law 1062 = .ok (.iload 4, 2) := by decide +kernel
theorem dL_law_1064 : decode cL_law 1064 = .ok (.iconst 2, 1) := by decide +kernel
theorem dL_law_1065 : decode cL_law 1065 = .ok (.iadd, 1) := by decide +kernel
theorem dL_law_1066 : decode cL_law 1066 = .ok (.iaload, 1) := by decide +kernel
theorem dL_law_1067 : decode cL_law 1067 = .ok (.invokevirtual 139, 3) := by decide +kernel
theorem dL_law_1070 : decode cL_law 1070 = .ok (.aload_n 2, 1) := by decide +kernel
theorem dL_law_1071 : decode cL_law 1071 = .ok (.aload_n 0, 1) := by decide +kernel
theorem dL_law_1072 : decode cL_law 1072 = .ok (.iload 4, 2) := by decide +kernel
theorem dL_law_1074 : decode cL_law 1074 = .ok (.iconst 1, 1) := by decide +kernel
theorem dL_law_1075 : decode cL_law 1075 = .ok (.iadd, 1) := by decide +kernel
theorem dL_law_1076 : decode cL_law 1076 = .ok (.iaload, 1) := by decide +kernel
theorem dL_law_1077 : decode cL_law 1077 = .ok (.aload_n 0, 1) := by decide +kernel
theorem dL_law_1078 : decode cL_law 1078 = .ok (.iload 4, 2) := by decide +kernel
theorem dL_law_1080 : decode cL_law 1080 = .ok (.iconst 2, 1) := by decide +kernel
theorem dL_law_1081 : decode cL_law 1081 = .ok (.iadd, 1) := by decide +kernel
theorem dL_law_1082 : decode cL_law 1082 = .ok (.iaload, 1) := by decide +kernel
theorem dL_law_1083 : decode cL_law 1083 = .ok (.invokevirtual 142, 3) := by decide +kernel
theorem dL_law_1086 : decode cL_law 1086 = .ok (.if_icmp .eq 68, 3) := by decide +kernel
theorem dL_law_1089 : decode cL_law 1089 = .ok (.iconst 0, 1) := by decide +kernel
theorem dL_law_1090 : decode cL_law 1090 = .ok (.ireturn, 1) := by decide +kernel
theorem dL_law_1091 : decode cL_law 1091 = .ok (.aload_n 1, 1) := by decide +kernel
theorem dL_law_1092 : decode cL_law 1092 = .ok (.invokevirtual 143, 3) := by decide +kernel
theorem dL_law_1095 : decode cL_law 1095 = .ok (.aload_n 2, 1) := by decide +kernel
theorem dL_law_1096 : decode cL_law 1096 = .ok (.invokevirtual 146, 3) := by decide +kernel
theorem dL_law_1099 : decode cL_law 1099 = .ok (.if_icmp .eq 55, 3) := by decide +kernel
theorem dL_law_1102 : decode cL_law 1102 = .ok (.iconst 0, 1) := by decide +kernel
theorem dL_law_1103 : decode cL_law 1103 = .ok (.ireturn, 1) := by decide +kernel
theorem dL_law_1104 : decode cL_law 1104 = .ok (.aload_n 1, 1) := by decide +kernel
theorem dL_law_1105 : decode cL_law 1105 = .ok (.aload_n 0, 1) := by decide +kernel
theorem dL_law_1106 : decode cL_law 1106 = .ok (.iload 4, 2) := by decide +kernel
theorem dL_law_1108 : decode cL_law 1108 = .ok (.iconst 1, 1) := by decide +kernel
theorem dL_law_1109 : decode cL_law 1109 = .ok (.iadd, 1) := by decide +kernel
theorem dL_law_1110 : decode cL_law 1110 = .ok (.iaload, 1) := by decide +kernel
theorem dL_law_1111 : decode cL_law 1111 = .ok (.invokevirtual 147, 3) := by decide +kernel
theorem dL_law_1114 : decode cL_law 1114 = .ok (.aload_n 2, 1) := by decide +kernel
theorem dL_law_1115 : decode cL_law 1115 = .ok (.aload_n 0, 1) := by decide +kernel
theorem dL_law_1116 : decode cL_law 1116 = .ok (.iload 4, 2) := by decide +kernel
theorem dL_law_1118 : decode cL_law 1118 = .ok (.iconst 1, 1) := by decide +kernel
theorem dL_law_1119 : decode cL_law 1119 = .ok (.iadd, 1) := by decide +kernel
theorem dL_law_1120 : decode cL_law 1120 = .ok (.iaload, 1) := by decide +kernel
theorem dL_law_1121 : decode cL_law 1121 = .ok (.invokevirtual 150, 3) := by decide +kernel
theorem dL_law_1124 : decode cL_law 1124 = .ok (.if_icmp .eq 30, 3) := by decide +kernel
theorem dL_law_1127 : decode cL_law 1127 = .ok (.iconst 0, 1) := by decide +kernel
theorem dL_law_1128 : decode cL_law 1128 = .ok (.ireturn, 1) := by decide +kernel
theorem dL_law_1129 : decode cL_law 1129 = .ok (.aload_n 1, 1) := by decide +kernel
theorem dL_law_1130 : decode cL_law 1130 = .ok (.aload_n 0, 1) := by decide +kernel
theorem dL_law_1131 : decode cL_law 1131 = .ok (.iload 4, 2) := by decide +kernel
theorem dL_law_1133 : decode cL_law 1133 = .ok (.iconst 1, 1) := by decide +kernel
theorem dL_law_1134 : decode cL_law 1134 = .ok (.iadd, 1) := by decide +kernel
theorem dL_law_1135 : decode cL_law 1135 = .ok (.iaload, 1) := by decide +kernel
theorem dL_law_1136 : decode cL_law 1136 = .ok (.invokevirtual 151, 3) := by decide +kernel
theorem dL_law_1139 : decode cL_law 1139 = .ok (.aload_n 2, 1) := by decide +kernel
theorem dL_law_1140 : decode cL_law 1140 = .ok (.aload_n 0, 1) := by decide +kernel
theorem dL_law_1141 : decode cL_law 1141 = .ok (.iload 4, 2) := by decide +kernel
theorem dL_law_1143 : decode cL_law 1143 = .ok (.iconst 1, 1) := by decide +kernel
theorem dL_law_1144 : decode cL_law 1144 = .ok (.iadd, 1) := by decide +kernel
theorem dL_law_1145 : decode cL_law 1145 = .ok (.iaload, 1) := by decide +kernel
theorem dL_law_1146 : decode cL_law 1146 = .ok (.invokevirtual 154, 3) := by decide +kernel
theorem dL_law_1149 : decode cL_law 1149 = .ok (.if_icmp .eq 5, 3) := by decide +kernel
theorem dL_law_1152 : decode cL_law 1152 = .ok (.iconst 0, 1) := by decide +kernel
theorem dL_law_1153 : decode cL_law 1153 = .ok (.ireturn, 1) := by decide +kernel
theorem dL_law_1154 : decode cL_law 1154 = .ok (.iinc 4 6, 3) := by decide +kernel
theorem dL_law_1157 : decode cL_law 1157 = .ok (.goto (-1134), 3) := by decide +kernel
theorem dL_law_1160 : decode cL_law 1160 = .ok (.iconst 1, 1) := by decide +kernel
theorem dL_law_1161 : decode cL_law 1161 = .ok (.ireturn, 1) := by decide +kernel


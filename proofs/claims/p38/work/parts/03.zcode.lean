/-! NAMES: the methods' bytes, words of the tables -/
set_option maxRecDepth 20000 in
theorem cd_ShakeHands_init : Cond.code y_ShakeHands_init b_ShakeHands_init 2 (none) ∈ tbl := tb_1 22 rfl rfl
set_option maxRecDepth 20000 in
theorem cd_Object_init : Cond.code y_Object_init b_Object_init 1 (none) ∈ tbl := tb_1 25 rfl rfl
set_option maxRecDepth 20000 in
theorem cd_Tape_init : Cond.code y_Tape_init b_Tape_init 1 (none) ∈ tbl := tb_1 30 rfl rfl
set_option maxRecDepth 20000 in
theorem cd_Teller_init : Cond.code y_Teller_init b_Teller_init 2 (none) ∈ tbl := tb_1 47 rfl rfl
set_option maxRecDepth 20000 in
theorem cd_Circle_init : Cond.code y_Circle_init b_Circle_init 1 (none) ∈ tbl := tb_1 53 rfl rfl
set_option maxRecDepth 20000 in
theorem cd_Row_init : Cond.code y_Row_init b_Row_init 1 (none) ∈ tbl := tb_1 59 rfl rfl
set_option maxRecDepth 20000 in
theorem cd_Minds_init : Cond.code y_Minds_init b_Minds_init 1 (none) ∈ tbl := tb_1 175 rfl rfl
set_option maxRecDepth 20000 in
theorem cd_Search_init : Cond.code y_Search_init b_Search_init 3 (none) ∈ tbl := tb_1 205 rfl rfl
set_option maxRecDepth 20000 in
theorem cd_Habit_init : Cond.code y_Habit_init b_Habit_init 3 (none) ∈ tbl := tb_2 18 rfl rfl
set_option maxRecDepth 20000 in
theorem cd_Sheet_init : Cond.code y_Sheet_init b_Sheet_init 1 (none) ∈ tbl := tb_2 38 rfl rfl
set_option maxRecDepth 20000 in
theorem cd_ShakeHands_feed : Cond.code y_ShakeHands_feed b_ShakeHands_feed 3 (some .int) ∈ tbl := tb_2 92 rfl rfl
set_option maxRecDepth 20000 in
theorem cd_Tape_append : Cond.code y_Tape_append b_Tape_append 4 (some .boolean) ∈ tbl := tb_2 96 rfl rfl
set_option maxRecDepth 20000 in
theorem cd_ShakeHands_end : Cond.code y_ShakeHands_end b_ShakeHands_end 3 (some .int) ∈ tbl := tb_2 100 rfl rfl
set_option maxRecDepth 20000 in
theorem cd_ShakeHands_text : Cond.code y_ShakeHands_text b_ShakeHands_text 2 (some .int) ∈ tbl := tb_2 104 rfl rfl
set_option maxRecDepth 20000 in
theorem cd_Teller_tell : Cond.code y_Teller_tell b_Teller_tell 2 (some .int) ∈ tbl := tb_2 108 rfl rfl
set_option maxRecDepth 20000 in
theorem cd_Teller_begin : Cond.code y_Teller_begin b_Teller_begin 2 (none) ∈ tbl := tb_2 112 rfl rfl
set_option maxRecDepth 20000 in
theorem cd_Circle_beAsAtFirst : Cond.code y_Circle_beAsAtFirst b_Circle_beAsAtFirst 1 (none) ∈ tbl := tb_2 116 rfl rfl
set_option maxRecDepth 20000 in
theorem cd_Teller_readToken : Cond.code y_Teller_readToken b_Teller_readToken 1 (none) ∈ tbl := tb_2 120 rfl rfl
set_option maxRecDepth 20000 in
theorem cd_Teller_isWithin : Cond.code y_Teller_isWithin b_Teller_isWithin 3 (some .boolean) ∈ tbl := tb_2 124 rfl rfl
set_option maxRecDepth 20000 in
theorem cd_Teller_refuse : Cond.code y_Teller_refuse b_Teller_refuse 2 (none) ∈ tbl := tb_2 128 rfl rfl
set_option maxRecDepth 20000 in
theorem cd_Teller_tellLine : Cond.code y_Teller_tellLine b_Teller_tellLine 1 (none) ∈ tbl := tb_2 132 rfl rfl
set_option maxRecDepth 20000 in
theorem cd_Teller_isCalled : Cond.code y_Teller_isCalled b_Teller_isCalled 3 (some .boolean) ∈ tbl := tb_2 137 rfl rfl
set_option maxRecDepth 20000 in
theorem cd_String_length : Cond.code y_String_length b_String_length 1 (some .int) ∈ tbl := tb_2 141 rfl rfl
set_option maxRecDepth 20000 in
theorem cd_String_coder : Cond.code y_String_coder b_String_coder 1 (some .byte) ∈ tbl := tb_2 145 rfl rfl
set_option maxRecDepth 20000 in
theorem cd_String_charAt : Cond.code y_String_charAt b_String_charAt 2 (some .char) ∈ tbl := tb_2 151 rfl rfl
set_option maxRecDepth 20000 in
theorem cd_String_isLatin1 : Cond.code y_String_isLatin1 b_String_isLatin1 1 (some .boolean) ∈ tbl := tb_2 155 rfl rfl
set_option maxRecDepth 20000 in
theorem cd_StringLatin1_charAt : Cond.code y_StringLatin1_charAt b_StringLatin1_charAt 2 (some .char) ∈ tbl := tb_2 158 rfl rfl
set_option maxRecDepth 20000 in
theorem cd_String_checkIndex : Cond.code y_String_checkIndex b_String_checkIndex 2 (none) ∈ tbl := tb_2 161 rfl rfl
set_option maxRecDepth 20000 in
theorem cd_Precond_checkIndex : Cond.code y_Precond_checkIndex b_Precond_checkIndex 3 (some .int) ∈ tbl := tb_2 166 rfl rfl
set_option maxRecDepth 20000 in
theorem cd_StringUTF16_charAt : Cond.code y_StringUTF16_charAt b_StringUTF16_charAt 2 (some .char) ∈ tbl := tb_2 169 rfl rfl
set_option maxRecDepth 20000 in
theorem cd_StringUTF16_checkIndex : Cond.code y_StringUTF16_checkIndex b_StringUTF16_checkIndex 2 (none) ∈ tbl := tb_2 172 rfl rfl
set_option maxRecDepth 20000 in
theorem cd_StringUTF16_length : Cond.code y_StringUTF16_length b_StringUTF16_length 1 (some .int) ∈ tbl := tb_2 175 rfl rfl
set_option maxRecDepth 20000 in
theorem cd_StringUTF16_getChar : Cond.code y_StringUTF16_getChar b_StringUTF16_getChar 2 (some .char) ∈ tbl := tb_2 179 rfl rfl
set_option maxRecDepth 20000 in
theorem cd_Teller_tellPeople : Cond.code y_Teller_tellPeople b_Teller_tellPeople 1 (none) ∈ tbl := tb_2 189 rfl rfl
set_option maxRecDepth 20000 in
theorem cd_Teller_takeNumber : Cond.code y_Teller_takeNumber b_Teller_takeNumber 3 (some .int) ∈ tbl := tb_2 193 rfl rfl
set_option maxRecDepth 20000 in
theorem cd_Teller_boundedValue : Cond.code y_Teller_boundedValue b_Teller_boundedValue 3 (some .int) ∈ tbl := tb_2 197 rfl rfl
set_option maxRecDepth 20000 in
theorem cd_Teller_takeSign : Cond.code y_Teller_takeSign b_Teller_takeSign 1 (none) ∈ tbl := tb_2 201 rfl rfl
set_option maxRecDepth 20000 in
theorem cd_Teller_tellHold : Cond.code y_Teller_tellHold b_Teller_tellHold 1 (none) ∈ tbl := tb_2 206 rfl rfl
set_option maxRecDepth 20000 in
theorem cd_Teller_tellRow : Cond.code y_Teller_tellRow b_Teller_tellRow 3 (none) ∈ tbl := tb_2 211 rfl rfl
set_option maxRecDepth 20000 in
theorem cd_Math_max : Cond.code y_Math_max b_Math_max 2 (some .int) ∈ tbl := tb_2 214 rfl rfl
set_option maxRecDepth 20000 in
theorem cd_Row_take : Cond.code y_Row_take b_Row_take 3 (none) ∈ tbl := tb_2 218 rfl rfl
set_option maxRecDepth 20000 in
theorem cd_Teller_tellThing : Cond.code y_Teller_tellThing b_Teller_tellThing 2 (none) ∈ tbl := tb_2 223 rfl rfl
set_option maxRecDepth 20000 in
theorem cd_Integer_bitCount : Cond.code y_Integer_bitCount b_Integer_bitCount 1 (some .int) ∈ tbl := tb_2 226 rfl rfl
set_option maxRecDepth 20000 in
theorem cd_Row_add : Cond.code y_Row_add b_Row_add 2 (none) ∈ tbl := tb_2 233 rfl rfl
set_option maxRecDepth 20000 in
theorem cd_Row_atRest : Cond.code y_Row_atRest b_Row_atRest 1 (some .long) ∈ tbl := tb_2 238 rfl rfl
set_option maxRecDepth 20000 in
theorem cd_Teller_tellJoin : Cond.code y_Teller_tellJoin b_Teller_tellJoin 5 (none) ∈ tbl := tb_3 3 rfl rfl
set_option maxRecDepth 20000 in
theorem cd_Teller_tellPair : Cond.code y_Teller_tellPair b_Teller_tellPair 5 (some .int) ∈ tbl := tb_3 8 rfl rfl
set_option maxRecDepth 20000 in
theorem cd_ShakeHands_pairOf : Cond.code y_ShakeHands_pairOf b_ShakeHands_pairOf 3 (some .int) ∈ tbl := tb_3 11 rfl rfl
set_option maxRecDepth 20000 in
theorem cd_Math_min : Cond.code y_Math_min b_Math_min 2 (some .int) ∈ tbl := tb_3 15 rfl rfl
set_option maxRecDepth 20000 in
theorem cd_Teller_tellGlove : Cond.code y_Teller_tellGlove b_Teller_tellGlove 2 (none) ∈ tbl := tb_3 21 rfl rfl
set_option maxRecDepth 20000 in
theorem cd_Teller_lookBack : Cond.code y_Teller_lookBack b_Teller_lookBack 1 (none) ∈ tbl := tb_3 25 rfl rfl
set_option maxRecDepth 20000 in
theorem cd_Circle_copy : Cond.code y_Circle_copy b_Circle_copy 2 (none) ∈ tbl := tb_3 29 rfl rfl
set_option maxRecDepth 20000 in
theorem cd_ShakeHands_fault : Cond.code y_ShakeHands_fault b_ShakeHands_fault 1 (some .int) ∈ tbl := tb_3 37 rfl rfl
set_option maxRecDepth 20000 in
theorem cd_ShakeHands_rule : Cond.code y_ShakeHands_rule b_ShakeHands_rule 2 (some .int) ∈ tbl := tb_3 41 rfl rfl
set_option maxRecDepth 20000 in
theorem cd_ShakeHands_hand : Cond.code y_ShakeHands_hand b_ShakeHands_hand 3 (some .int) ∈ tbl := tb_3 46 rfl rfl
set_option maxRecDepth 20000 in
theorem cd_ShakeHands_join : Cond.code y_ShakeHands_join b_ShakeHands_join 3 (some .int) ∈ tbl := tb_3 50 rfl rfl
set_option maxRecDepth 20000 in
theorem cd_ShakeHands_knows : Cond.code y_ShakeHands_knows b_ShakeHands_knows 2 (some .int) ∈ tbl := tb_3 54 rfl rfl
set_option maxRecDepth 20000 in
theorem cd_ShakeHands_isOne : Cond.code y_ShakeHands_isOne b_ShakeHands_isOne 2 (some .boolean) ∈ tbl := tb_3 58 rfl rfl
set_option maxRecDepth 20000 in
theorem cd_Row_knownOf : Cond.code y_Row_knownOf b_Row_knownOf 2 (some .int) ∈ tbl := tb_3 61 rfl rfl
set_option maxRecDepth 20000 in
theorem cd_ShakeHands_row : Cond.code y_ShakeHands_row b_ShakeHands_row 5 (some .int) ∈ tbl := tb_3 65 rfl rfl
set_option maxRecDepth 20000 in
theorem cd_Row_sizeOf : Cond.code y_Row_sizeOf b_Row_sizeOf 2 (some .int) ∈ tbl := tb_3 68 rfl rfl
set_option maxRecDepth 20000 in
theorem cd_Row_thingOf : Cond.code y_Row_thingOf b_Row_thingOf 3 (some .int) ∈ tbl := tb_3 71 rfl rfl
set_option maxRecDepth 20000 in
theorem cd_ShakeHands_who : Cond.code y_ShakeHands_who b_ShakeHands_who 2 (some .int) ∈ tbl := tb_3 75 rfl rfl
set_option maxRecDepth 20000 in
theorem cd_ShakeHands_isThing : Cond.code y_ShakeHands_isThing b_ShakeHands_isThing 1 (some .boolean) ∈ tbl := tb_3 78 rfl rfl
set_option maxRecDepth 20000 in
theorem cd_Minds_knowers : Cond.code y_Minds_knowers b_Minds_knowers 4 (some .int) ∈ tbl := tb_3 81 rfl rfl
set_option maxRecDepth 20000 in
theorem cd_ShakeHands_learn : Cond.code y_ShakeHands_learn b_ShakeHands_learn 3 (some .int) ∈ tbl := tb_3 85 rfl rfl
set_option maxRecDepth 20000 in
theorem cd_ShakeHands_knowsNow : Cond.code y_ShakeHands_knowsNow b_ShakeHands_knowsNow 3 (some .boolean) ∈ tbl := tb_3 89 rfl rfl
set_option maxRecDepth 20000 in
theorem cd_Row_knowsIt : Cond.code y_Row_knowsIt b_Row_knowsIt 3 (some .boolean) ∈ tbl := tb_3 92 rfl rfl
set_option maxRecDepth 20000 in
theorem cd_Circle_taught : Cond.code y_Circle_taught b_Circle_taught 4 (some .long) ∈ tbl := tb_3 96 rfl rfl
set_option maxRecDepth 20000 in
theorem cd_Circle_settle : Cond.code y_Circle_settle b_Circle_settle 3 (none) ∈ tbl := tb_3 102 rfl rfl
set_option maxRecDepth 20000 in
theorem cd_Circle_firstJoin : Cond.code y_Circle_firstJoin b_Circle_firstJoin 2 (some .int) ∈ tbl := tb_3 106 rfl rfl
set_option maxRecDepth 20000 in
theorem cd_Row_drop : Cond.code y_Row_drop b_Row_drop 6 (none) ∈ tbl := tb_3 110 rfl rfl
set_option maxRecDepth 20000 in
theorem cd_Row_shorten : Cond.code y_Row_shorten b_Row_shorten 3 (none) ∈ tbl := tb_3 115 rfl rfl
set_option maxRecDepth 20000 in
theorem cd_ShakeHands_forget : Cond.code y_ShakeHands_forget b_ShakeHands_forget 3 (some .int) ∈ tbl := tb_3 120 rfl rfl
set_option maxRecDepth 20000 in
theorem cd_Circle_without : Cond.code y_Circle_without b_Circle_without 4 (some .long) ∈ tbl := tb_3 124 rfl rfl
set_option maxRecDepth 20000 in
theorem cd_ShakeHands_glove : Cond.code y_ShakeHands_glove b_ShakeHands_glove 4 (some .int) ∈ tbl := tb_3 128 rfl rfl
set_option maxRecDepth 20000 in
theorem cd_ShakeHands_shake : Cond.code y_ShakeHands_shake b_ShakeHands_shake 3 (some .int) ∈ tbl := tb_3 132 rfl rfl
set_option maxRecDepth 20000 in
theorem cd_ShakeHands_areTwo : Cond.code y_ShakeHands_areTwo b_ShakeHands_areTwo 3 (some .boolean) ∈ tbl := tb_3 136 rfl rfl
set_option maxRecDepth 20000 in
theorem cd_Circle_meet : Cond.code y_Circle_meet b_Circle_meet 9 (some .boolean) ∈ tbl := tb_3 141 rfl rfl
set_option maxRecDepth 20000 in
theorem cd_Row_addAll : Cond.code y_Row_addAll b_Row_addAll 5 (none) ∈ tbl := tb_3 149 rfl rfl
set_option maxRecDepth 20000 in
theorem cd_ShakeHands_feast : Cond.code y_ShakeHands_feast b_ShakeHands_feast 3 (some .int) ∈ tbl := tb_3 154 rfl rfl
set_option maxRecDepth 20000 in
theorem cd_ShakeHands_isFeastPart : Cond.code y_ShakeHands_isFeastPart b_ShakeHands_isFeastPart 2 (some .boolean) ∈ tbl := tb_3 158 rfl rfl
set_option maxRecDepth 20000 in
theorem cd_Minds_known : Cond.code y_Minds_known b_Minds_known 4 (some .int) ∈ tbl := tb_3 161 rfl rfl
set_option maxRecDepth 20000 in
theorem cd_Circle_celebrate : Cond.code y_Circle_celebrate b_Circle_celebrate 5 (none) ∈ tbl := tb_3 165 rfl rfl
set_option maxRecDepth 20000 in
theorem cd_ShakeHands_after : Cond.code y_ShakeHands_after b_ShakeHands_after 3 (some .int) ∈ tbl := tb_3 170 rfl rfl
set_option maxRecDepth 20000 in
theorem cd_ShakeHands_takeTrial : Cond.code y_ShakeHands_takeTrial b_ShakeHands_takeTrial 1 (none) ∈ tbl := tb_3 174 rfl rfl
set_option maxRecDepth 20000 in
theorem cd_ShakeHands_lost : Cond.code y_ShakeHands_lost b_ShakeHands_lost 3 (some .int) ∈ tbl := tb_3 178 rfl rfl
set_option maxRecDepth 20000 in
theorem cd_ShakeHands_told : Cond.code y_ShakeHands_told b_ShakeHands_told 4 (some .int) ∈ tbl := tb_3 182 rfl rfl
set_option maxRecDepth 20000 in
theorem cd_ShakeHands_fewest : Cond.code y_ShakeHands_fewest b_ShakeHands_fewest 7 (some .int) ∈ tbl := tb_3 186 rfl rfl
set_option maxRecDepth 20000 in
theorem cd_ShakeHands_arePeople : Cond.code y_ShakeHands_arePeople b_ShakeHands_arePeople 2 (some .boolean) ∈ tbl := tb_3 190 rfl rfl
set_option maxRecDepth 20000 in
theorem cd_ShakeHands_everybody : Cond.code y_ShakeHands_everybody b_ShakeHands_everybody 1 (some .int) ∈ tbl := tb_3 194 rfl rfl
set_option maxRecDepth 20000 in
theorem cd_Search_begin : Cond.code y_Search_begin b_Search_begin 1 (none) ∈ tbl := tb_3 198 rfl rfl
set_option maxRecDepth 20000 in
theorem cd_Search_aim : Cond.code y_Search_aim b_Search_aim 5 (none) ∈ tbl := tb_3 203 rfl rfl
set_option maxRecDepth 20000 in
theorem cd_Search_fewestHands : Cond.code y_Search_fewestHands b_Search_fewestHands 2 (some .int) ∈ tbl := tb_3 207 rfl rfl
set_option maxRecDepth 20000 in
theorem cd_Search_isBarred : Cond.code y_Search_isBarred b_Search_isBarred 2 (some .boolean) ∈ tbl := tb_3 211 rfl rfl
set_option maxRecDepth 20000 in
theorem cd_Search_reaches : Cond.code y_Search_reaches b_Search_reaches 5 (some .boolean) ∈ tbl := tb_3 215 rfl rfl
set_option maxRecDepth 20000 in
theorem cd_Search_amiss : Cond.code y_Search_amiss b_Search_amiss 2 (some .int) ∈ tbl := tb_3 219 rfl rfl
set_option maxRecDepth 20000 in
theorem cd_Search_bitsOf : Cond.code y_Search_bitsOf b_Search_bitsOf 1 (some .int) ∈ tbl := tb_3 222 rfl rfl
set_option maxRecDepth 20000 in
theorem cd_Search_canMend : Cond.code y_Search_canMend b_Search_canMend 3 (some .boolean) ∈ tbl := tb_3 227 rfl rfl
set_option maxRecDepth 20000 in
theorem cd_Search_step : Cond.code y_Search_step b_Search_step 3 (some .boolean) ∈ tbl := tb_3 232 rfl rfl
set_option maxRecDepth 20000 in
theorem cd_ShakeHands_rounds : Cond.code y_ShakeHands_rounds b_ShakeHands_rounds 4 (some .int) ∈ tbl := tb_3 237 rfl rfl
set_option maxRecDepth 20000 in
theorem cd_Search_fewestRounds : Cond.code y_Search_fewestRounds b_Search_fewestRounds 2 (some .int) ∈ tbl := tb_4 1 rfl rfl
set_option maxRecDepth 20000 in
theorem cd_Search_turns : Cond.code y_Search_turns b_Search_turns 7 (some .boolean) ∈ tbl := tb_4 4 rfl rfl
set_option maxRecDepth 20000 in
theorem cd_ShakeHands_lose : Cond.code y_ShakeHands_lose b_ShakeHands_lose 2 (some .int) ∈ tbl := tb_4 8 rfl rfl
set_option maxRecDepth 20000 in
theorem cd_ShakeHands_lives : Cond.code y_ShakeHands_lives b_ShakeHands_lives 2 (some .int) ∈ tbl := tb_4 12 rfl rfl
set_option maxRecDepth 20000 in
theorem cd_Habit_lastDay : Cond.code y_Habit_lastDay b_Habit_lastDay 3 (some .int) ∈ tbl := tb_4 16 rfl rfl
set_option maxRecDepth 20000 in
theorem cd_Circle_liveDay : Cond.code y_Circle_liveDay b_Circle_liveDay 4 (none) ∈ tbl := tb_4 22 rfl rfl
set_option maxRecDepth 20000 in
theorem cd_ShakeHands_comes : Cond.code y_ShakeHands_comes b_ShakeHands_comes 2 (some .int) ∈ tbl := tb_4 26 rfl rfl
set_option maxRecDepth 20000 in
theorem cd_Habit_comesBack : Cond.code y_Habit_comesBack b_Habit_comesBack 4 (some .int) ∈ tbl := tb_4 30 rfl rfl
set_option maxRecDepth 20000 in
theorem cd_Habit_sameDay : Cond.code y_Habit_sameDay b_Habit_sameDay 4 (some .int) ∈ tbl := tb_4 34 rfl rfl
set_option maxRecDepth 20000 in
theorem cd_ShakeHands_days : Cond.code y_ShakeHands_days b_ShakeHands_days 3 (some .int) ∈ tbl := tb_4 38 rfl rfl
set_option maxRecDepth 20000 in
theorem cd_ShakeHands_saw : Cond.code y_ShakeHands_saw b_ShakeHands_saw 3 (some .int) ∈ tbl := tb_4 43 rfl rfl
set_option maxRecDepth 20000 in
theorem cd_ShakeHands_blind : Cond.code y_ShakeHands_blind b_ShakeHands_blind 2 (some .int) ∈ tbl := tb_4 48 rfl rfl
set_option maxRecDepth 20000 in
theorem cd_ShakeHands_fits : Cond.code y_ShakeHands_fits b_ShakeHands_fits 3 (some .int) ∈ tbl := tb_4 52 rfl rfl
set_option maxRecDepth 20000 in
theorem cd_Search_countFits : Cond.code y_Search_countFits b_Search_countFits 2 (none) ∈ tbl := tb_4 56 rfl rfl
set_option maxRecDepth 20000 in
theorem cd_Search_fit : Cond.code y_Search_fit b_Search_fit 7 (none) ∈ tbl := tb_4 59 rfl rfl
set_option maxRecDepth 20000 in
theorem cd_Search_unlikeSeen : Cond.code y_Search_unlikeSeen b_Search_unlikeSeen 4 (some .int) ∈ tbl := tb_4 63 rfl rfl
set_option maxRecDepth 20000 in
theorem cd_ShakeHands_least : Cond.code y_ShakeHands_least b_ShakeHands_least 2 (some .int) ∈ tbl := tb_4 68 rfl rfl
set_option maxRecDepth 20000 in
theorem cd_ShakeHands_seats : Cond.code y_ShakeHands_seats b_ShakeHands_seats 6 (some .int) ∈ tbl := tb_4 72 rfl rfl
set_option maxRecDepth 20000 in
theorem cd_Search_countSeats : Cond.code y_Search_countSeats b_Search_countSeats 1 (none) ∈ tbl := tb_4 76 rfl rfl
set_option maxRecDepth 20000 in
theorem cd_Search_sit : Cond.code y_Search_sit b_Search_sit 4 (none) ∈ tbl := tb_4 79 rfl rfl
set_option maxRecDepth 20000 in
theorem cd_ShakeHands_gloves : Cond.code y_ShakeHands_gloves b_ShakeHands_gloves 5 (some .int) ∈ tbl := tb_4 84 rfl rfl
set_option maxRecDepth 20000 in
theorem cd_ShakeHands_fewestGloves : Cond.code y_ShakeHands_fewestGloves b_ShakeHands_fewestGloves 6 (some .int) ∈ tbl := tb_4 88 rfl rfl
set_option maxRecDepth 20000 in
theorem cd_ShakeHands_keep : Cond.code y_ShakeHands_keep b_ShakeHands_keep 3 (some .int) ∈ tbl := tb_4 92 rfl rfl
set_option maxRecDepth 20000 in
theorem cd_ShakeHands_isImage : Cond.code y_ShakeHands_isImage b_ShakeHands_isImage 1 (some .boolean) ∈ tbl := tb_4 95 rfl rfl
set_option maxRecDepth 20000 in
theorem cd_Minds_copy : Cond.code y_Minds_copy b_Minds_copy 2 (none) ∈ tbl := tb_4 99 rfl rfl
set_option maxRecDepth 20000 in
theorem cd_ShakeHands_back : Cond.code y_ShakeHands_back b_ShakeHands_back 2 (some .int) ∈ tbl := tb_4 104 rfl rfl
set_option maxRecDepth 20000 in
theorem cd_ShakeHands_sheet : Cond.code y_ShakeHands_sheet b_ShakeHands_sheet 4 (some .int) ∈ tbl := tb_4 108 rfl rfl
set_option maxRecDepth 20000 in
theorem cd_ShakeHands_isSheet : Cond.code y_ShakeHands_isSheet b_ShakeHands_isSheet 1 (some .boolean) ∈ tbl := tb_4 111 rfl rfl
set_option maxRecDepth 20000 in
theorem cd_ShakeHands_isLane : Cond.code y_ShakeHands_isLane b_ShakeHands_isLane 1 (some .boolean) ∈ tbl := tb_4 114 rfl rfl
set_option maxRecDepth 20000 in
theorem cd_Sheet_renew : Cond.code y_Sheet_renew b_Sheet_renew 4 (none) ∈ tbl := tb_4 118 rfl rfl
set_option maxRecDepth 20000 in
theorem cd_ShakeHands_lay : Cond.code y_ShakeHands_lay b_ShakeHands_lay 5 (some .int) ∈ tbl := tb_4 122 rfl rfl
set_option maxRecDepth 20000 in
theorem cd_Sheet_faultAt : Cond.code y_Sheet_faultAt b_Sheet_faultAt 2 (some .int) ∈ tbl := tb_4 126 rfl rfl
set_option maxRecDepth 20000 in
theorem cd_Sheet_put : Cond.code y_Sheet_put b_Sheet_put 3 (none) ∈ tbl := tb_4 130 rfl rfl
set_option maxRecDepth 20000 in
theorem cd_ShakeHands_read : Cond.code y_ShakeHands_read b_ShakeHands_read 10 (some .int) ∈ tbl := tb_4 135 rfl rfl
set_option maxRecDepth 20000 in
theorem cd_Sheet_faultOfTwo : Cond.code y_Sheet_faultOfTwo b_Sheet_faultOfTwo 4 (some .int) ∈ tbl := tb_4 139 rfl rfl
set_option maxRecDepth 20000 in
theorem cd_Sheet_cellAt : Cond.code y_Sheet_cellAt b_Sheet_cellAt 2 (some .int) ∈ tbl := tb_4 143 rfl rfl
set_option maxRecDepth 20000 in
theorem cd_ShakeHands_torn : Cond.code y_ShakeHands_torn b_ShakeHands_torn 1 (some .int) ∈ tbl := tb_4 147 rfl rfl
set_option maxRecDepth 20000 in
theorem cd_ShakeHands_count : Cond.code y_ShakeHands_count b_ShakeHands_count 2 (some .int) ∈ tbl := tb_4 151 rfl rfl
set_option maxRecDepth 20000 in
theorem cd_ShakeHands_knownToAll : Cond.code y_ShakeHands_knownToAll b_ShakeHands_knownToAll 3 (some .int) ∈ tbl := tb_4 155 rfl rfl
set_option maxRecDepth 20000 in
theorem cd_Model_init : Cond.code y_Model_init b_Model_init 3 (none) ∈ tbl := tb_4 161 rfl rfl
set_option maxRecDepth 20000 in
theorem cd_Model_pairOf : Cond.code y_Model_pairOf b_Model_pairOf 2 (some .int) ∈ tbl := tb_4 165 rfl rfl
set_option maxRecDepth 20000 in
theorem cd_Model_firstDraft : Cond.code y_Model_firstDraft b_Model_firstDraft 2 (none) ∈ tbl := tb_4 169 rfl rfl
set_option maxRecDepth 20000 in
theorem cd_Model_keepDraft : Cond.code y_Model_keepDraft b_Model_keepDraft 2 (none) ∈ tbl := tb_4 173 rfl rfl
set_option maxRecDepth 20000 in
theorem cd_Model_flag : Cond.code y_Model_flag b_Model_flag 1 (some .int) ∈ tbl := tb_4 176 rfl rfl
set_option maxRecDepth 20000 in
theorem cd_Model_feed : Cond.code y_Model_feed b_Model_feed 4 (some .int) ∈ tbl := tb_5 107 rfl rfl
set_option maxRecDepth 20000 in
theorem cd_Model_end : Cond.code y_Model_end b_Model_end 3 (some .int) ∈ tbl := tb_5 112 rfl rfl
set_option maxRecDepth 20000 in
theorem cd_Model_in : Cond.code y_Model_in b_Model_in 6 (some .boolean) ∈ tbl := tb_5 115 rfl rfl
set_option maxRecDepth 20000 in
theorem cd_Model_text : Cond.code y_Model_text b_Model_text 2 (some .int) ∈ tbl := tb_5 119 rfl rfl
set_option maxRecDepth 20000 in
theorem cd_Model_next : Cond.code y_Model_next b_Model_next 2 (none) ∈ tbl := tb_5 123 rfl rfl
set_option maxRecDepth 20000 in
theorem cd_Model_look : Cond.code y_Model_look b_Model_look 2 (some .int) ∈ tbl := tb_5 127 rfl rfl
set_option maxRecDepth 20000 in
theorem cd_Model_needs : Cond.code y_Model_needs b_Model_needs 3 (none) ∈ tbl := tb_5 135 rfl rfl
set_option maxRecDepth 20000 in
theorem cd_Model_readLine : Cond.code y_Model_readLine b_Model_readLine 2 (none) ∈ tbl := tb_5 139 rfl rfl
set_option maxRecDepth 20000 in
theorem cd_Model_nameNow : Cond.code y_Model_nameNow b_Model_nameNow 1 (some .int) ∈ tbl := tb_5 143 rfl rfl
set_option maxRecDepth 20000 in
theorem cd_Model_is : Cond.code y_Model_is b_Model_is 6 (some .boolean) ∈ tbl := tb_5 147 rfl rfl
set_option maxRecDepth 20000 in
theorem cd_Model_readNumber : Cond.code y_Model_readNumber b_Model_readNumber 4 (some .int) ∈ tbl := tb_5 151 rfl rfl
set_option maxRecDepth 20000 in
theorem cd_Model_looked : Cond.code y_Model_looked b_Model_looked 3 (some .int) ∈ tbl := tb_5 155 rfl rfl
set_option maxRecDepth 20000 in
theorem cd_Model_readKnows : Cond.code y_Model_readKnows b_Model_readKnows 6 (none) ∈ tbl := tb_5 159 rfl rfl
set_option maxRecDepth 20000 in
theorem cd_Model_tells : Cond.code y_Model_tells b_Model_tells 2 (none) ∈ tbl := tb_5 163 rfl rfl
set_option maxRecDepth 20000 in
theorem cd_Model_readJoin : Cond.code y_Model_readJoin b_Model_readJoin 4 (none) ∈ tbl := tb_5 167 rfl rfl
set_option maxRecDepth 20000 in
theorem cd_Model_readHand : Cond.code y_Model_readHand b_Model_readHand 3 (some .int) ∈ tbl := tb_5 171 rfl rfl
set_option maxRecDepth 20000 in
theorem cd_Model_readGlove : Cond.code y_Model_readGlove b_Model_readGlove 2 (none) ∈ tbl := tb_5 175 rfl rfl
set_option maxRecDepth 20000 in
theorem cd_Model_isHeld : Cond.code y_Model_isHeld b_Model_isHeld 3 (some .boolean) ∈ tbl := tb_5 179 rfl rfl
set_option maxRecDepth 20000 in
theorem cd_Model_fault : Cond.code y_Model_fault b_Model_fault 1 (some .int) ∈ tbl := tb_5 183 rfl rfl
set_option maxRecDepth 20000 in
theorem cd_Model_rule : Cond.code y_Model_rule b_Model_rule 2 (some .int) ∈ tbl := tb_5 187 rfl rfl
set_option maxRecDepth 20000 in
theorem cd_Model_worn : Cond.code y_Model_worn b_Model_worn 3 (some .int) ∈ tbl := tb_5 191 rfl rfl
set_option maxRecDepth 20000 in
theorem cd_Model_bitsOf : Cond.code y_Model_bitsOf b_Model_bitsOf 3 (some .int) ∈ tbl := tb_5 194 rfl rfl
set_option maxRecDepth 20000 in
theorem cd_Model_hand : Cond.code y_Model_hand b_Model_hand 3 (some .int) ∈ tbl := tb_5 198 rfl rfl
set_option maxRecDepth 20000 in
theorem cd_Model_join : Cond.code y_Model_join b_Model_join 3 (some .int) ∈ tbl := tb_5 202 rfl rfl
set_option maxRecDepth 20000 in
theorem cd_Model_knows : Cond.code y_Model_knows b_Model_knows 2 (some .int) ∈ tbl := tb_5 207 rfl rfl
set_option maxRecDepth 20000 in
theorem cd_Model_isOne : Cond.code y_Model_isOne b_Model_isOne 2 (some .boolean) ∈ tbl := tb_5 211 rfl rfl
set_option maxRecDepth 20000 in
theorem cd_Model_knowsNow : Cond.code y_Model_knowsNow b_Model_knowsNow 2 (some .int) ∈ tbl := tb_5 215 rfl rfl
set_option maxRecDepth 20000 in
theorem cd_Model_begins : Cond.code y_Model_begins b_Model_begins 3 (none) ∈ tbl := tb_5 219 rfl rfl
set_option maxRecDepth 20000 in
theorem cd_Model_knowsIn : Cond.code y_Model_knowsIn b_Model_knowsIn 6 (some .int) ∈ tbl := tb_5 223 rfl rfl
set_option maxRecDepth 20000 in
theorem cd_Model_row : Cond.code y_Model_row b_Model_row 3 (some .int) ∈ tbl := tb_5 227 rfl rfl
set_option maxRecDepth 20000 in
theorem cd_Model_who : Cond.code y_Model_who b_Model_who 2 (some .int) ∈ tbl := tb_5 231 rfl rfl
set_option maxRecDepth 20000 in
theorem cd_Model_isThing : Cond.code y_Model_isThing b_Model_isThing 1 (some .boolean) ∈ tbl := tb_5 234 rfl rfl
set_option maxRecDepth 20000 in
theorem cd_Model_whoNow : Cond.code y_Model_whoNow b_Model_whoNow 2 (some .int) ∈ tbl := tb_5 239 rfl rfl
set_option maxRecDepth 20000 in
theorem cd_Model_whoIn : Cond.code y_Model_whoIn b_Model_whoIn 5 (some .int) ∈ tbl := tb_6 3 rfl rfl
set_option maxRecDepth 20000 in
theorem cd_Model_learn : Cond.code y_Model_learn b_Model_learn 3 (some .int) ∈ tbl := tb_6 7 rfl rfl
set_option maxRecDepth 20000 in
theorem cd_Model_knowsIt : Cond.code y_Model_knowsIt b_Model_knowsIt 3 (some .boolean) ∈ tbl := tb_6 11 rfl rfl
set_option maxRecDepth 20000 in
theorem cd_Model_takes : Cond.code y_Model_takes b_Model_takes 4 (none) ∈ tbl := tb_6 15 rfl rfl
set_option maxRecDepth 20000 in
theorem cd_Model_adds : Cond.code y_Model_adds b_Model_adds 2 (none) ∈ tbl := tb_6 19 rfl rfl
set_option maxRecDepth 20000 in
theorem cd_Model_place : Cond.code y_Model_place b_Model_place 4 (some .int) ∈ tbl := tb_6 23 rfl rfl
set_option maxRecDepth 20000 in
theorem cd_Model_settles : Cond.code y_Model_settles b_Model_settles 3 (none) ∈ tbl := tb_6 27 rfl rfl
set_option maxRecDepth 20000 in
theorem cd_Model_drops : Cond.code y_Model_drops b_Model_drops 3 (none) ∈ tbl := tb_6 31 rfl rfl
set_option maxRecDepth 20000 in
theorem cd_Model_puts : Cond.code y_Model_puts b_Model_puts 4 (none) ∈ tbl := tb_6 35 rfl rfl
set_option maxRecDepth 20000 in
theorem cd_Model_forget : Cond.code y_Model_forget b_Model_forget 3 (some .int) ∈ tbl := tb_6 39 rfl rfl
set_option maxRecDepth 20000 in
theorem cd_Model_glove : Cond.code y_Model_glove b_Model_glove 4 (some .int) ∈ tbl := tb_6 43 rfl rfl
set_option maxRecDepth 20000 in
theorem cd_Model_shake : Cond.code y_Model_shake b_Model_shake 3 (some .int) ∈ tbl := tb_6 47 rfl rfl
set_option maxRecDepth 20000 in
theorem cd_Model_areTwo : Cond.code y_Model_areTwo b_Model_areTwo 3 (some .boolean) ∈ tbl := tb_6 51 rfl rfl
set_option maxRecDepth 20000 in
theorem cd_Model_shakesNow : Cond.code y_Model_shakesNow b_Model_shakesNow 2 (none) ∈ tbl := tb_6 55 rfl rfl
set_option maxRecDepth 20000 in
theorem cd_Model_shakes : Cond.code y_Model_shakes b_Model_shakes 6 (none) ∈ tbl := tb_6 59 rfl rfl
set_option maxRecDepth 20000 in
theorem cd_Model_becomes : Cond.code y_Model_becomes b_Model_becomes 3 (none) ∈ tbl := tb_6 63 rfl rfl
set_option maxRecDepth 20000 in
theorem cd_Model_feast : Cond.code y_Model_feast b_Model_feast 3 (some .int) ∈ tbl := tb_6 67 rfl rfl
set_option maxRecDepth 20000 in
theorem cd_Model_anyNow : Cond.code y_Model_anyNow b_Model_anyNow 1 (some .int) ∈ tbl := tb_6 71 rfl rfl
set_option maxRecDepth 20000 in
theorem cd_Model_anyIn : Cond.code y_Model_anyIn b_Model_anyIn 4 (some .int) ∈ tbl := tb_6 75 rfl rfl
set_option maxRecDepth 20000 in
theorem cd_Model_feasts : Cond.code y_Model_feasts b_Model_feasts 4 (none) ∈ tbl := tb_6 79 rfl rfl
set_option maxRecDepth 20000 in
theorem cd_Model_after : Cond.code y_Model_after b_Model_after 3 (some .int) ∈ tbl := tb_6 83 rfl rfl
set_option maxRecDepth 20000 in
theorem cd_Model_lost : Cond.code y_Model_lost b_Model_lost 3 (some .int) ∈ tbl := tb_6 87 rfl rfl
set_option maxRecDepth 20000 in
theorem cd_Model_told : Cond.code y_Model_told b_Model_told 4 (some .int) ∈ tbl := tb_6 91 rfl rfl
set_option maxRecDepth 20000 in
theorem cd_Model_fewest : Cond.code y_Model_fewest b_Model_fewest 6 (some .int) ∈ tbl := tb_6 95 rfl rfl
set_option maxRecDepth 20000 in
theorem cd_Model_areOnes : Cond.code y_Model_areOnes b_Model_areOnes 2 (some .boolean) ∈ tbl := tb_6 99 rfl rfl
set_option maxRecDepth 20000 in
theorem cd_Model_asks : Cond.code y_Model_asks b_Model_asks 5 (none) ∈ tbl := tb_6 105 rfl rfl
set_option maxRecDepth 20000 in
theorem cd_Model_fewestHands : Cond.code y_Model_fewestHands b_Model_fewestHands 2 (some .int) ∈ tbl := tb_6 109 rfl rfl
set_option maxRecDepth 20000 in
theorem cd_Model_layRows : Cond.code y_Model_layRows b_Model_layRows 5 (some .int) ∈ tbl := tb_6 113 rfl rfl
set_option maxRecDepth 20000 in
theorem cd_Model_isStill : Cond.code y_Model_isStill b_Model_isStill 2 (some .boolean) ∈ tbl := tb_6 117 rfl rfl
set_option maxRecDepth 20000 in
theorem cd_Model_isGood : Cond.code y_Model_isGood b_Model_isGood 3 (some .boolean) ∈ tbl := tb_6 121 rfl rfl
set_option maxRecDepth 20000 in
theorem cd_Model_isSeen : Cond.code y_Model_isSeen b_Model_isSeen 4 (some .boolean) ∈ tbl := tb_6 125 rfl rfl
set_option maxRecDepth 20000 in
theorem cd_Model_aRow : Cond.code y_Model_aRow b_Model_aRow 4 (none) ∈ tbl := tb_6 129 rfl rfl
set_option maxRecDepth 20000 in
theorem cd_Model_freeFrom : Cond.code y_Model_freeFrom b_Model_freeFrom 3 (some .int) ∈ tbl := tb_6 133 rfl rfl
set_option maxRecDepth 20000 in
theorem cd_Model_isFreePair : Cond.code y_Model_isFreePair b_Model_isFreePair 2 (some .boolean) ∈ tbl := tb_6 137 rfl rfl
set_option maxRecDepth 20000 in
theorem cd_Model_copies : Cond.code y_Model_copies b_Model_copies 4 (none) ∈ tbl := tb_6 141 rfl rfl
set_option maxRecDepth 20000 in
theorem cd_Model_rounds : Cond.code y_Model_rounds b_Model_rounds 7 (some .int) ∈ tbl := tb_6 145 rfl rfl
set_option maxRecDepth 20000 in
theorem cd_Model_layRounds : Cond.code y_Model_layRounds b_Model_layRounds 2 (none) ∈ tbl := tb_6 149 rfl rfl
set_option maxRecDepth 20000 in
theorem cd_Model_isRound : Cond.code y_Model_isRound b_Model_isRound 5 (some .boolean) ∈ tbl := tb_6 154 rfl rfl
set_option maxRecDepth 20000 in
theorem cd_Model_goesRound : Cond.code y_Model_goesRound b_Model_goesRound 4 (none) ∈ tbl := tb_6 158 rfl rfl
set_option maxRecDepth 20000 in
theorem cd_Model_lose : Cond.code y_Model_lose b_Model_lose 2 (some .int) ∈ tbl := tb_6 162 rfl rfl
set_option maxRecDepth 20000 in
theorem cd_Model_lives : Cond.code y_Model_lives b_Model_lives 3 (some .int) ∈ tbl := tb_6 166 rfl rfl
set_option maxRecDepth 20000 in
theorem cd_Model_aDay : Cond.code y_Model_aDay b_Model_aDay 3 (none) ∈ tbl := tb_6 170 rfl rfl
set_option maxRecDepth 20000 in
theorem cd_Model_comes : Cond.code y_Model_comes b_Model_comes 4 (some .int) ∈ tbl := tb_6 174 rfl rfl
set_option maxRecDepth 20000 in
theorem cd_Model_notes : Cond.code y_Model_notes b_Model_notes 6 (none) ∈ tbl := tb_6 178 rfl rfl
set_option maxRecDepth 20000 in
theorem cd_Model_isAs : Cond.code y_Model_isAs b_Model_isAs 5 (some .boolean) ∈ tbl := tb_6 183 rfl rfl
set_option maxRecDepth 20000 in
theorem cd_Model_days : Cond.code y_Model_days b_Model_days 3 (some .int) ∈ tbl := tb_6 187 rfl rfl
set_option maxRecDepth 20000 in
theorem cd_Model_saw : Cond.code y_Model_saw b_Model_saw 3 (some .int) ∈ tbl := tb_6 192 rfl rfl
set_option maxRecDepth 20000 in
theorem cd_Model_seen : Cond.code y_Model_seen b_Model_seen 3 (some .int) ∈ tbl := tb_6 197 rfl rfl
set_option maxRecDepth 20000 in
theorem cd_Model_blind : Cond.code y_Model_blind b_Model_blind 3 (some .int) ∈ tbl := tb_6 201 rfl rfl
set_option maxRecDepth 20000 in
theorem cd_Model_fits : Cond.code y_Model_fits b_Model_fits 4 (some .int) ∈ tbl := tb_6 205 rfl rfl
set_option maxRecDepth 20000 in
theorem cd_Model_least : Cond.code y_Model_least b_Model_least 1 (some .int) ∈ tbl := tb_6 210 rfl rfl
set_option maxRecDepth 20000 in
theorem cd_Model_seats : Cond.code y_Model_seats b_Model_seats 9 (some .int) ∈ tbl := tb_6 214 rfl rfl
set_option maxRecDepth 20000 in
theorem cd_Model_sits : Cond.code y_Model_sits b_Model_sits 8 (none) ∈ tbl := tb_6 218 rfl rfl
set_option maxRecDepth 20000 in
theorem cd_Model_gloves : Cond.code y_Model_gloves b_Model_gloves 7 (some .int) ∈ tbl := tb_6 222 rfl rfl
set_option maxRecDepth 20000 in
theorem cd_Model_keep : Cond.code y_Model_keep b_Model_keep 4 (some .int) ∈ tbl := tb_6 226 rfl rfl
set_option maxRecDepth 20000 in
theorem cd_Model_back : Cond.code y_Model_back b_Model_back 3 (some .int) ∈ tbl := tb_6 230 rfl rfl
set_option maxRecDepth 20000 in
theorem cd_Model_sheet : Cond.code y_Model_sheet b_Model_sheet 5 (some .int) ∈ tbl := tb_6 234 rfl rfl
set_option maxRecDepth 20000 in
theorem cd_Model_isSheet : Cond.code y_Model_isSheet b_Model_isSheet 2 (some .boolean) ∈ tbl := tb_6 237 rfl rfl
set_option maxRecDepth 20000 in
theorem cd_Model_lay : Cond.code y_Model_lay b_Model_lay 4 (some .int) ∈ tbl := tb_7 2 rfl rfl
set_option maxRecDepth 20000 in
theorem cd_Model_read : Cond.code y_Model_read b_Model_read 11 (some .int) ∈ tbl := tb_7 6 rfl rfl
set_option maxRecDepth 20000 in
theorem cd_Model_torn : Cond.code y_Model_torn b_Model_torn 1 (some .int) ∈ tbl := tb_7 11 rfl rfl
set_option maxRecDepth 20000 in
theorem cd_Model_count : Cond.code y_Model_count b_Model_count 4 (some .int) ∈ tbl := tb_7 15 rfl rfl

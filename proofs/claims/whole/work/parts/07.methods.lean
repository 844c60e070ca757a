/-! the methods: name, code, locals, answer, frames and words below; what each may use -/
def mX0_init : MD := (yX0_init, cX0_init, 2, none, 1, 20)
def mX0_read : MD := (yX0_read, cX0_read, 4, none, 0, 0)
def mX0_settleBorn : MD := (yX0_settleBorn, cX0_settleBorn, 2, none, 0, 0)
def mX0_isPartedFrom : MD := (yX0_isPartedFrom, cX0_isPartedFrom, 2, (some .boolean), 0, 0)
def mX0_distanceTo : MD := (yX0_distanceTo, cX0_distanceTo, 2, (some .int), 0, 0)
def mX0_likenessTo : MD := (yX0_likenessTo, cX0_likenessTo, 3, (some .int), 1, 21)
def mX0_yearsWith : MD := (yX0_yearsWith, cX0_yearsWith, 4, (some .int), 1, 21)
def mX0_isInWrongOrderWith : MD := (yX0_isInWrongOrderWith, cX0_isInWrongOrderWith, 2, (some .boolean), 0, 0)
def mX1_init : MD := (yX1_init, cX1_init, 1, none, 1, 20)
def mX1_clear : MD := (yX1_clear, cX1_clear, 1, none, 0, 0)
def mX1_weddings : MD := (yX1_weddings, cX1_weddings, 1, (some .int), 0, 0)
def mX1_isBorn : MD := (yX1_isBorn, cX1_isBorn, 1, (some .boolean), 0, 0)
def mX1_add : MD := (yX1_add, cX1_add, 3, none, 1, 21)
def mX2_init : MD := (yX2_init, cX2_init, 2, none, 2, 40)
def mX2_settle : MD := (yX2_settle, cX2_settle, 6, none, 4, 94)
def mX2_has : MD := (yX2_has, cX2_has, 2, (some .boolean), 0, 0)
def mX2_countShaky : MD := (yX2_countShaky, cX2_countShaky, 3, (some .int), 0, 0)
def mX2_countSingle : MD := (yX2_countSingle, cX2_countSingle, 3, (some .int), 0, 0)
def mX2_openByMatch : MD := (yX2_openByMatch, cX2_openByMatch, 6, none, 3, 66)
def mX2_open : MD := (yX2_open, cX2_open, 1, (some .int), 1, 20)
def mX2_add : MD := (yX2_add, cX2_add, 4, none, 2, 43)
def mX2_isShaky : MD := (yX2_isShaky, cX2_isShaky, 9, (some .boolean), 1, 22)
def mX2_layWedding : MD := (yX2_layWedding, cX2_layWedding, 7, none, 3, 68)
def mX2_valueAt : MD := (yX2_valueAt, cX2_valueAt, 3, (some .int), 2, 46)
def mX2_hasRival : MD := (yX2_hasRival, cX2_hasRival, 4, (some .boolean), 0, 0)
def mX3_init : MD := (yX3_init, cX3_init, 1, none, 1, 20)
def mX3_settle : MD := (yX3_settle, cX3_settle, 5, none, 3, 71)
def mX3_list : MD := (yX3_list, cX3_list, 4, none, 0, 0)
def mX3_bestFrom : MD := (yX3_bestFrom, cX3_bestFrom, 6, (some .int), 2, 46)
def mX3_isFree : MD := (yX3_isFree, cX3_isFree, 5, (some .boolean), 1, 22)
def mX3_worthWith : MD := (yX3_worthWith, cX3_worthWith, 5, (some .int), 0, 0)
def mX3_choose : MD := (yX3_choose, cX3_choose, 5, none, 2, 46)
def mX4_init : MD := (yX4_init, cX4_init, 1, none, 1, 20)
def mX4_distance : MD := (yX4_distance, cX4_distance, 7, (some .int), 7, 148)
def mX4_costOfMaking : MD := (yX4_costOfMaking, cX4_costOfMaking, 2, (some .int), 6, 127)
def mX4_soundOf : MD := (yX4_soundOf, cX4_soundOf, 2, (some .int), 5, 106)
def mX5_init : MD := (yX5_init, cX5_init, 1, none, 1, 20)
def mX5_put : MD := (yX5_put, cX5_put, 2, none, 0, 0)
def mX6_init : MD := (yX6_init, cX6_init, 1, none, 1, 20)
def mX6_settle : MD := (yX6_settle, cX6_settle, 5, none, 4, 95)
def mX6_fit : MD := (yX6_fit, cX6_fit, 3, (some .boolean), 0, 0)
def mX6_countFitting : MD := (yX6_countFitting, cX6_countFitting, 4, (some .int), 1, 22)
def mX6_bestFor : MD := (yX6_bestFor, cX6_bestFor, 4, (some .int), 1, 22)
def mX6_fitFirst : MD := (yX6_fitFirst, cX6_fitFirst, 5, (some .boolean), 1, 22)
def mX6_meanWorth : MD := (yX6_meanWorth, cX6_meanWorth, 6, (some .int), 0, 0)
def mX6_settleTwo : MD := (yX6_settleTwo, cX6_settleTwo, 10, none, 3, 66)
def mX6_whyNot : MD := (yX6_whyNot, cX6_whyNot, 3, (some .int), 2, 44)
def mX7_init : MD := (yX7_init, cX7_init, 1, none, 1, 20)
def mX7_start : MD := (yX7_start, cX7_start, 2, none, 1, 20)
def mX7_takes : MD := (yX7_takes, cX7_takes, 3, (some .boolean), 4, 83)
def mX7_isWhole : MD := (yX7_isWhole, cX7_isWhole, 1, (some .boolean), 3, 61)
def mX7_startEntry : MD := (yX7_startEntry, cX7_startEntry, 1, none, 0, 0)
def mX7_takesKind : MD := (yX7_takesKind, cX7_takesKind, 2, (some .boolean), 0, 0)
def mX7_takesInName : MD := (yX7_takesInName, cX7_takesInName, 2, (some .boolean), 0, 0)
def mX7_takesFigureOfYear : MD := (yX7_takesFigureOfYear, cX7_takesFigureOfYear, 4, (some .boolean), 0, 0)
def mX7_takesBehindYear : MD := (yX7_takesBehindYear, cX7_takesBehindYear, 2, (some .boolean), 1, 20)
def mX7_takesInAge : MD := (yX7_takesInAge, cX7_takesInAge, 2, (some .boolean), 3, 62)
def mX7_ageGoesOnWith : MD := (yX7_ageGoesOnWith, cX7_ageGoesOnWith, 2, (some .boolean), 2, 41)
def mX7_ageIsWhole : MD := (yX7_ageIsWhole, cX7_ageIsWhole, 1, (some .boolean), 2, 41)
def mX8_init : MD := (yX8_init, cX8_init, 2, none, 2, 41)
def mX8_has : MD := (yX8_has, cX8_has, 2, (some .boolean), 0, 0)
def mX8_hasRoomFor : MD := (yX8_hasRoomFor, cX8_hasRoomFor, 4, (some .boolean), 0, 0)
def mX8_add : MD := (yX8_add, cX8_add, 8, none, 8, 174)
def mX8_remove : MD := (yX8_remove, cX8_remove, 4, none, 0, 0)
def mX8_turnParted : MD := (yX8_turnParted, cX8_turnParted, 3, (some .boolean), 1, 21)
def mX8_countParted : MD := (yX8_countParted, cX8_countParted, 3, (some .int), 1, 20)
def mX8_settleBorn : MD := (yX8_settleBorn, cX8_settleBorn, 3, none, 1, 21)
def mX9_init : MD := (yX9_init, cX9_init, 1, none, 3, 62)
def mX9_letter : MD := (yX9_letter, cX9_letter, 2, (some .int), 1, 21)
def mX9_blank : MD := (yX9_blank, cX9_blank, 2, (some .int), 0, 0)
def mX9_fault : MD := (yX9_fault, cX9_fault, 2, (some .int), 5, 105)
def mX9_enter : MD := (yX9_enter, cX9_enter, 2, (some .int), 10, 222)
def mX9_entry : MD := (yX9_entry, cX9_entry, 3, (some .int), 6, 139)
def mX9_sign : MD := (yX9_sign, cX9_sign, 4, (some .int), 1, 21)
def mX9_as : MD := (yX9_as, cX9_as, 4, (some .int), 1, 21)
def mX9_strike : MD := (yX9_strike, cX9_strike, 2, (some .int), 1, 23)
def mX9_age : MD := (yX9_age, cX9_age, 5, (some .int), 2, 41)
def mX9_part : MD := (yX9_part, cX9_part, 3, (some .int), 2, 43)
def mX9_bound : MD := (yX9_bound, cX9_bound, 5, (some .int), 0, 0)
def mX9_two : MD := (yX9_two, cX9_two, 4, (some .int), 6, 139)
def mX9_fits : MD := (yX9_fits, cX9_fits, 2, (some .int), 6, 139)
def mX9_nearest : MD := (yX9_nearest, cX9_nearest, 2, (some .int), 6, 139)
def mX9_lives : MD := (yX9_lives, cX9_lives, 2, (some .int), 6, 139)
def mX9_life : MD := (yX9_life, cX9_life, 3, (some .int), 6, 139)
def mX9_wedding : MD := (yX9_wedding, cX9_wedding, 4, (some .int), 6, 139)
def mX9_worth : MD := (yX9_worth, cX9_worth, 4, (some .int), 6, 139)
def mX9_mate : MD := (yX9_mate, cX9_mate, 2, (some .int), 6, 139)
def mX9_count : MD := (yX9_count, cX9_count, 2, (some .int), 2, 42)
def mX9_digest : MD := (yX9_digest, cX9_digest, 4, (some .long), 6, 139)
def mX9_leastAge : MD := (yX9_leastAge, cX9_leastAge, 1, (some .int), 0, 0)
def mX9_mayHaveAge : MD := (yX9_mayHaveAge, cX9_mayHaveAge, 2, (some .boolean), 1, 20)
def mX9_areTwo : MD := (yX9_areTwo, cX9_areTwo, 3, (some .boolean), 1, 21)
def mX9_addEntriesOfPage : MD := (yX9_addEntriesOfPage, cX9_addEntriesOfPage, 2, none, 9, 201)
def mX9_settle : MD := (yX9_settle, cX9_settle, 1, none, 5, 119)
def mX9_tellEntry : MD := (yX9_tellEntry, cX9_tellEntry, 4, (some .int), 0, 0)
def mX9_tellTwo : MD := (yX9_tellTwo, cX9_tellTwo, 6, (some .int), 2, 44)
def mX9_tellLives : MD := (yX9_tellLives, cX9_tellLives, 2, (some .int), 1, 22)
def mX9_tellLife : MD := (yX9_tellLife, cX9_tellLife, 2, (some .int), 1, 20)
def mX9_mixed : MD := (yX9_mixed, cX9_mixed, 4, (some .long), 0, 0)
def mX9_mixEntries : MD := (yX9_mixEntries, cX9_mixEntries, 8, (some .long), 2, 45)
def mX9_mixTwos : MD := (yX9_mixTwos, cX9_mixTwos, 8, (some .long), 3, 69)
def mX9_mixLives : MD := (yX9_mixLives, cX9_mixLives, 8, (some .long), 2, 43)
def mX10_init : MD := (yX10_init, cX10_init, 1, none, 1, 20)
def mX10_within : MD := (yX10_within, cX10_within, 3, (some .boolean), 0, 0)
def mX10_letter : MD := (yX10_letter, cX10_letter, 2, (some .int), 1, 22)
def mX10_blank : MD := (yX10_blank, cX10_blank, 2, (some .int), 0, 0)
def mX10_goes : MD := (yX10_goes, cX10_goes, 3, (some .boolean), 0, 0)
def mX10_takesKind : MD := (yX10_takesKind, cX10_takesKind, 3, (some .boolean), 1, 22)
def mX10_takesName : MD := (yX10_takesName, cX10_takesName, 4, (some .boolean), 1, 22)
def mX10_takesYear : MD := (yX10_takesYear, cX10_takesYear, 5, (some .boolean), 1, 22)
def mX10_takesAge : MD := (yX10_takesAge, cX10_takesAge, 6, (some .boolean), 1, 22)
def mX10_takesEnd : MD := (yX10_takesEnd, cX10_takesEnd, 3, (some .boolean), 2, 47)
def mX10_takes : MD := (yX10_takes, cX10_takes, 3, (some .boolean), 3, 69)
def mX10_read : MD := (yX10_read, cX10_read, 2, (some .int), 4, 91)
def mX10_fault : MD := (yX10_fault, cX10_fault, 1, (some .int), 5, 112)
def mX10_ofKind : MD := (yX10_ofKind, cX10_ofKind, 4, (some .int), 0, 0)
def mX10_newOfKind : MD := (yX10_newOfKind, cX10_newOfKind, 4, (some .int), 0, 0)
def mX10_isRoom : MD := (yX10_isRoom, cX10_isRoom, 3, (some .boolean), 1, 23)
def mX10_enter : MD := (yX10_enter, cX10_enter, 5, (some .int), 5, 112)
def mX10_groupOf : MD := (yX10_groupOf, cX10_groupOf, 1, (some .int), 0, 0)
def mX10_changeOf : MD := (yX10_changeOf, cX10_changeOf, 2, (some .int), 1, 20)
def mX10_lesser : MD := (yX10_lesser, cX10_lesser, 2, (some .int), 0, 0)
def mX10_greater : MD := (yX10_greater, cX10_greater, 2, (some .int), 0, 0)
def mX10_distance : MD := (yX10_distance, cX10_distance, 7, (some .int), 2, 41)
def mX10_likeness : MD := (yX10_likeness, cX10_likeness, 3, (some .int), 3, 67)
def mX10_firstBorn : MD := (yX10_firstBorn, cX10_firstBorn, 2, (some .int), 0, 0)
def mX10_lastBorn : MD := (yX10_lastBorn, cX10_lastBorn, 2, (some .int), 0, 0)
def mX10_yearsOf : MD := (yX10_yearsOf, cX10_yearsOf, 5, (some .int), 1, 21)
def mX10_isParted : MD := (yX10_isParted, cX10_isParted, 3, (some .boolean), 0, 0)
def mX10_isOutOfOrder : MD := (yX10_isOutOfOrder, cX10_isOutOfOrder, 5, (some .boolean), 0, 0)
def mX10_why : MD := (yX10_why, cX10_why, 3, (some .int), 4, 89)
def mX10_isFit : MD := (yX10_isFit, cX10_isFit, 3, (some .boolean), 5, 111)
def mX10_worthOf : MD := (yX10_worthOf, cX10_worthOf, 3, (some .int), 6, 133)
def mX10_isEntry : MD := (yX10_isEntry, cX10_isEntry, 2, (some .boolean), 1, 22)
def mX10_twoNow : MD := (yX10_twoNow, cX10_twoNow, 4, (some .int), 7, 155)
def mX10_two : MD := (yX10_two, cX10_two, 4, (some .int), 8, 178)
def mX10_fitsNow : MD := (yX10_fitsNow, cX10_fitsNow, 4, (some .int), 6, 133)
def mX10_fits : MD := (yX10_fits, cX10_fits, 2, (some .int), 7, 156)
def mX10_nearestNow : MD := (yX10_nearestNow, cX10_nearestNow, 5, (some .int), 7, 155)
def mX10_nearest : MD := (yX10_nearest, cX10_nearest, 2, (some .int), 8, 179)
def mX10_listKinds : MD := (yX10_listKinds, cX10_listKinds, 2, none, 0, 0)
def mX10_bestWith : MD := (yX10_bestWith, cX10_bestWith, 5, (some .int), 7, 155)
def mX10_layBest : MD := (yX10_layBest, cX10_layBest, 5, none, 8, 179)
def mX10_layPairs : MD := (yX10_layPairs, cX10_layPairs, 4, none, 9, 203)
def mX10_beginLife : MD := (yX10_beginLife, cX10_beginLife, 3, none, 0, 0)
def mX10_layFirstLives : MD := (yX10_layFirstLives, cX10_layFirstLives, 2, none, 10, 226)
def mX10_isOf : MD := (yX10_isOf, cX10_isOf, 3, (some .boolean), 0, 0)
def mX10_canGo : MD := (yX10_canGo, cX10_canGo, 5, (some .boolean), 6, 133)
def mX10_worthAt : MD := (yX10_worthAt, cX10_worthAt, 7, (some .int), 7, 155)
def mX10_bestLife : MD := (yX10_bestLife, cX10_bestLife, 5, (some .int), 8, 181)
def mX10_isInDoubt : MD := (yX10_isInDoubt, cX10_isInDoubt, 5, (some .boolean), 8, 181)
def mX10_layLives : MD := (yX10_layLives, cX10_layLives, 2, none, 11, 247)
def mX10_layWedding : MD := (yX10_layWedding, cX10_layWedding, 3, none, 9, 205)
def mX10_isShaky : MD := (yX10_isShaky, cX10_isShaky, 9, (some .boolean), 7, 155)
def mX10_entriesOf : MD := (yX10_entriesOf, cX10_entriesOf, 4, (some .int), 1, 22)
def mX10_doubtful : MD := (yX10_doubtful, cX10_doubtful, 3, (some .int), 0, 0)
def mX10_shakyMany : MD := (yX10_shakyMany, cX10_shakyMany, 3, (some .int), 8, 183)
def mX10_onlyMany : MD := (yX10_onlyMany, cX10_onlyMany, 3, (some .int), 2, 45)
def mX10_livesNow : MD := (yX10_livesNow, cX10_livesNow, 2, (some .int), 12, 268)
def mX10_lives : MD := (yX10_lives, cX10_lives, 2, (some .int), 13, 289)
def mX10_bornOf : MD := (yX10_bornOf, cX10_bornOf, 6, (some .int), 1, 22)
def mX10_lastYear : MD := (yX10_lastYear, cX10_lastYear, 4, (some .int), 1, 22)
def mX10_lifeNow : MD := (yX10_lifeNow, cX10_lifeNow, 3, (some .int), 8, 183)
def mX10_life : MD := (yX10_life, cX10_life, 3, (some .int), 12, 268)
def mX10_weddingAt : MD := (yX10_weddingAt, cX10_weddingAt, 5, (some .int), 1, 22)
def mX10_wedding : MD := (yX10_wedding, cX10_wedding, 3, (some .int), 12, 268)
def mX10_worth : MD := (yX10_worth, cX10_worth, 3, (some .int), 11, 247)
def mX10_mate : MD := (yX10_mate, cX10_mate, 2, (some .int), 10, 226)
def mX10_entryNow : MD := (yX10_entryNow, cX10_entryNow, 3, (some .int), 1, 21)
def mX10_entryTold : MD := (yX10_entryTold, cX10_entryTold, 3, (some .int), 12, 268)
def mX10_entry : MD := (yX10_entry, cX10_entry, 3, (some .int), 13, 290)
def mX10_sign : MD := (yX10_sign, cX10_sign, 3, (some .int), 2, 43)
def mX10_as : MD := (yX10_as, cX10_as, 3, (some .int), 2, 43)
def mX10_without : MD := (yX10_without, cX10_without, 3, (some .int), 0, 0)
def mX10_strike : MD := (yX10_strike, cX10_strike, 4, (some .int), 2, 43)
def mX10_isAge : MD := (yX10_isAge, cX10_isAge, 3, (some .boolean), 1, 22)
def mX10_age : MD := (yX10_age, cX10_age, 4, (some .int), 2, 44)
def mX10_part : MD := (yX10_part, cX10_part, 3, (some .int), 2, 43)
def mX10_bound : MD := (yX10_bound, cX10_bound, 5, (some .int), 1, 22)
def mX10_partedMany : MD := (yX10_partedMany, cX10_partedMany, 4, (some .int), 1, 22)
def mX10_howMany : MD := (yX10_howMany, cX10_howMany, 2, (some .int), 2, 45)
def mX10_count : MD := (yX10_count, cX10_count, 2, (some .int), 3, 66)
def mX10_mix : MD := (yX10_mix, cX10_mix, 3, none, 0, 0)
def mX10_mixEntries : MD := (yX10_mixEntries, cX10_mixEntries, 4, none, 12, 268)
def mX10_mixLives : MD := (yX10_mixLives, cX10_mixLives, 3, none, 13, 289)
def mX10_digest : MD := (yX10_digest, cX10_digest, 2, (some .long), 14, 311)
def mJ6_bitCount_0f7a4 : MD := (yJ6_bitCount_0f7a4, cJ6_bitCount_0f7a4, 1, (some .int), 0, 0)
def mJ0_length_8abf5 : MD := (yJ0_length_8abf5, cJ0_length_8abf5, 1, (some .int), 1, 20)
def mJ0_charAt_5068e : MD := (yJ0_charAt_5068e, cJ0_charAt_5068e, 2, (some .char), 4, 85)
def mJ0_coder_7d493 : MD := (yJ0_coder_7d493, cJ0_coder_7d493, 1, (some .byte), 0, 0)
def mJ0_isLatin1_aae02 : MD := (yJ0_isLatin1_aae02, cJ0_isLatin1_aae02, 1, (some .boolean), 0, 0)
def mJ0_checkIndex_df160 : MD := (yJ0_checkIndex_df160, cJ0_checkIndex_df160, 2, none, 1, 22)
def mJ1_charAt_3b067 : MD := (yJ1_charAt_3b067, cJ1_charAt_3b067, 2, (some .char), 2, 43)
def mJ2_getChar_3b067 : MD := (yJ2_getChar_3b067, cJ2_getChar_3b067, 2, (some .char), 1, 20)
def mJ2_length_9d52b : MD := (yJ2_length_9d52b, cJ2_length_9d52b, 1, (some .int), 0, 0)
def mJ2_charAt_3b067 : MD := (yJ2_charAt_3b067, cJ2_charAt_3b067, 2, (some .char), 3, 64)
def mJ2_checkIndex_2214a : MD := (yJ2_checkIndex_2214a, cJ2_checkIndex_2214a, 2, none, 2, 43)
def mJ3_checkIndex_8e157 : MD := (yJ3_checkIndex_8e157, cJ3_checkIndex_8e157, 3, (some .int), 0, 0)
theorem nvX0_init : NV mX0_init 1 := ⟨(wt1 113 rfl rfl), (wt1 6 rfl rfl), by decide +kernel⟩
theorem nvX0_read : NV mX0_read 2 := ⟨(wt2 211 rfl rfl), (wt1 6 rfl rfl), by decide +kernel⟩
theorem nvX0_settleBorn : NV mX0_settleBorn 1 := ⟨(wt3 54 rfl rfl), (wt1 6 rfl rfl), by decide +kernel⟩
theorem nvX0_isPartedFrom : NV mX0_isPartedFrom 1 := ⟨(wt3 69 rfl rfl), (wt1 6 rfl rfl), by decide +kernel⟩
theorem nvX0_distanceTo : NV mX0_distanceTo 1 := ⟨(wt3 89 rfl rfl), (wt1 6 rfl rfl), by decide +kernel⟩
theorem nvX0_likenessTo : NV mX0_likenessTo 1 := ⟨(wt3 85 rfl rfl), (wt1 6 rfl rfl), by decide +kernel⟩
theorem nvX0_yearsWith : NV mX0_yearsWith 1 := ⟨(wt3 77 rfl rfl), (wt1 6 rfl rfl), by decide +kernel⟩
theorem nvX0_isInWrongOrderWith : NV mX0_isInWrongOrderWith 1 := ⟨(wt3 73 rfl rfl), (wt1 6 rfl rfl), by decide +kernel⟩
theorem nvX1_init : NV mX1_init 0 := ⟨(wt2 18 rfl rfl), (wt1 10 rfl rfl), by decide +kernel⟩
theorem nvX1_clear : NV mX1_clear 0 := ⟨(wt3 134 rfl rfl), (wt1 10 rfl rfl), by decide +kernel⟩
theorem nvX1_weddings : NV mX1_weddings 0 := ⟨(wt3 163 rfl rfl), (wt1 10 rfl rfl), by decide +kernel⟩
theorem nvX1_isBorn : NV mX1_isBorn 0 := ⟨(wt4 34 rfl rfl), (wt1 10 rfl rfl), by decide +kernel⟩
theorem nvX1_add : NV mX1_add 2 := ⟨(wt3 146 rfl rfl), (wt1 10 rfl rfl), by decide +kernel⟩
theorem nvX2_init : NV mX2_init 0 := ⟨(wt2 11 rfl rfl), (wt1 9 rfl rfl), by decide +kernel⟩
theorem nvX2_settle : NV mX2_settle 4 := ⟨(wt3 122 rfl rfl), (wt1 9 rfl rfl), by decide +kernel⟩
theorem nvX2_has : NV mX2_has 1 := ⟨(wt3 142 rfl rfl), (wt1 9 rfl rfl), by decide +kernel⟩
theorem nvX2_countShaky : NV mX2_countShaky 0 := ⟨(wt4 17 rfl rfl), (wt1 9 rfl rfl), by decide +kernel⟩
theorem nvX2_countSingle : NV mX2_countSingle 0 := ⟨(wt4 21 rfl rfl), (wt1 9 rfl rfl), by decide +kernel⟩
theorem nvX2_openByMatch : NV mX2_openByMatch 2 := ⟨(wt3 126 rfl rfl), (wt1 9 rfl rfl), by decide +kernel⟩
theorem nvX2_open : NV mX2_open 0 := ⟨(wt3 130 rfl rfl), (wt1 9 rfl rfl), by decide +kernel⟩
theorem nvX2_add : NV mX2_add 3 := ⟨(wt3 138 rfl rfl), (wt1 9 rfl rfl), by decide +kernel⟩
theorem nvX2_isShaky : NV mX2_isShaky 4 := ⟨(wt3 151 rfl rfl), (wt1 9 rfl rfl), by decide +kernel⟩
theorem nvX2_layWedding : NV mX2_layWedding 4 := ⟨(wt3 156 rfl rfl), (wt1 9 rfl rfl), by decide +kernel⟩
theorem nvX2_valueAt : NV mX2_valueAt 3 := ⟨(wt3 159 rfl rfl), (wt1 9 rfl rfl), by decide +kernel⟩
theorem nvX2_hasRival : NV mX2_hasRival 2 := ⟨(wt3 176 rfl rfl), (wt1 9 rfl rfl), by decide +kernel⟩
theorem nvX3_init : NV mX3_init 0 := ⟨(wt1 215 rfl rfl), (wt1 8 rfl rfl), by decide +kernel⟩
theorem nvX3_settle : NV mX3_settle 2 := ⟨(wt3 93 rfl rfl), (wt1 8 rfl rfl), by decide +kernel⟩
theorem nvX3_list : NV mX3_list 1 := ⟨(wt3 97 rfl rfl), (wt1 8 rfl rfl), by decide +kernel⟩
theorem nvX3_bestFrom : NV mX3_bestFrom 3 := ⟨(wt3 101 rfl rfl), (wt1 8 rfl rfl), by decide +kernel⟩
theorem nvX3_isFree : NV mX3_isFree 4 := ⟨(wt3 105 rfl rfl), (wt1 8 rfl rfl), by decide +kernel⟩
theorem nvX3_worthWith : NV mX3_worthWith 4 := ⟨(wt3 113 rfl rfl), (wt1 8 rfl rfl), by decide +kernel⟩
theorem nvX3_choose : NV mX3_choose 1 := ⟨(wt3 118 rfl rfl), (wt1 8 rfl rfl), by decide +kernel⟩
theorem nvX4_init : NV mX4_init 0 := ⟨(wt1 93 rfl rfl), (wt1 4 rfl rfl), by decide +kernel⟩
theorem nvX4_distance : NV mX4_distance 2 := ⟨(wt2 215 rfl rfl), (wt1 4 rfl rfl), by decide +kernel⟩
theorem nvX4_costOfMaking : NV mX4_costOfMaking 2 := ⟨(wt2 218 rfl rfl), (wt1 4 rfl rfl), by decide +kernel⟩
theorem nvX4_soundOf : NV mX4_soundOf 1 := ⟨(wt2 221 rfl rfl), (wt1 4 rfl rfl), by decide +kernel⟩
theorem nvX5_init : NV mX5_init 0 := ⟨(wt1 30 rfl rfl), (wt1 2 rfl rfl), by decide +kernel⟩
theorem nvX5_put : NV mX5_put 1 := ⟨(wt2 131 rfl rfl), (wt1 2 rfl rfl), by decide +kernel⟩
theorem nvX6_init : NV mX6_init 0 := ⟨(wt1 193 rfl rfl), (wt1 7 rfl rfl), by decide +kernel⟩
theorem nvX6_settle : NV mX6_settle 2 := ⟨(wt3 58 rfl rfl), (wt1 7 rfl rfl), by decide +kernel⟩
theorem nvX6_fit : NV mX6_fit 2 := ⟨(wt3 109 rfl rfl), (wt1 7 rfl rfl), by decide +kernel⟩
theorem nvX6_countFitting : NV mX6_countFitting 1 := ⟨(wt3 237 rfl rfl), (wt1 7 rfl rfl), by decide +kernel⟩
theorem nvX6_bestFor : NV mX6_bestFor 1 := ⟨(wt4 5 rfl rfl), (wt1 7 rfl rfl), by decide +kernel⟩
theorem nvX6_fitFirst : NV mX6_fitFirst 3 := ⟨(wt3 167 rfl rfl), (wt1 7 rfl rfl), by decide +kernel⟩
theorem nvX6_meanWorth : NV mX6_meanWorth 3 := ⟨(wt3 172 rfl rfl), (wt1 7 rfl rfl), by decide +kernel⟩
theorem nvX6_settleTwo : NV mX6_settleTwo 4 := ⟨(wt3 62 rfl rfl), (wt1 7 rfl rfl), by decide +kernel⟩
theorem nvX6_whyNot : NV mX6_whyNot 3 := ⟨(wt3 65 rfl rfl), (wt1 7 rfl rfl), by decide +kernel⟩
theorem nvX7_init : NV mX7_init 0 := ⟨(wt1 48 rfl rfl), (wt1 3 rfl rfl), by decide +kernel⟩
theorem nvX7_start : NV mX7_start 0 := ⟨(wt2 143 rfl rfl), (wt1 3 rfl rfl), by decide +kernel⟩
theorem nvX7_takes : NV mX7_takes 1 := ⟨(wt2 151 rfl rfl), (wt1 3 rfl rfl), by decide +kernel⟩
theorem nvX7_isWhole : NV mX7_isWhole 0 := ⟨(wt2 195 rfl rfl), (wt1 3 rfl rfl), by decide +kernel⟩
theorem nvX7_startEntry : NV mX7_startEntry 0 := ⟨(wt2 147 rfl rfl), (wt1 3 rfl rfl), by decide +kernel⟩
theorem nvX7_takesKind : NV mX7_takesKind 1 := ⟨(wt2 155 rfl rfl), (wt1 3 rfl rfl), by decide +kernel⟩
theorem nvX7_takesInName : NV mX7_takesInName 1 := ⟨(wt2 159 rfl rfl), (wt1 3 rfl rfl), by decide +kernel⟩
theorem nvX7_takesFigureOfYear : NV mX7_takesFigureOfYear 1 := ⟨(wt2 163 rfl rfl), (wt1 3 rfl rfl), by decide +kernel⟩
theorem nvX7_takesBehindYear : NV mX7_takesBehindYear 1 := ⟨(wt2 167 rfl rfl), (wt1 3 rfl rfl), by decide +kernel⟩
theorem nvX7_takesInAge : NV mX7_takesInAge 1 := ⟨(wt2 171 rfl rfl), (wt1 3 rfl rfl), by decide +kernel⟩
theorem nvX7_ageGoesOnWith : NV mX7_ageGoesOnWith 1 := ⟨(wt2 185 rfl rfl), (wt1 3 rfl rfl), by decide +kernel⟩
theorem nvX7_ageIsWhole : NV mX7_ageIsWhole 0 := ⟨(wt2 175 rfl rfl), (wt1 3 rfl rfl), by decide +kernel⟩
theorem nvX8_init : NV mX8_init 0 := ⟨(wt1 106 rfl rfl), (wt1 5 rfl rfl), by decide +kernel⟩
theorem nvX8_has : NV mX8_has 1 := ⟨(wt3 42 rfl rfl), (wt1 5 rfl rfl), by decide +kernel⟩
theorem nvX8_hasRoomFor : NV mX8_hasRoomFor 1 := ⟨(wt2 199 rfl rfl), (wt1 5 rfl rfl), by decide +kernel⟩
theorem nvX8_add : NV mX8_add 3 := ⟨(wt2 207 rfl rfl), (wt1 5 rfl rfl), by decide +kernel⟩
theorem nvX8_remove : NV mX8_remove 1 := ⟨(wt3 196 rfl rfl), (wt1 5 rfl rfl), by decide +kernel⟩
theorem nvX8_turnParted : NV mX8_turnParted 2 := ⟨(wt3 213 rfl rfl), (wt1 5 rfl rfl), by decide +kernel⟩
theorem nvX8_countParted : NV mX8_countParted 0 := ⟨(wt4 56 rfl rfl), (wt1 5 rfl rfl), by decide +kernel⟩
theorem nvX8_settleBorn : NV mX8_settleBorn 1 := ⟨(wt3 50 rfl rfl), (wt1 5 rfl rfl), by decide +kernel⟩
theorem nvX9_init : NV mX9_init 0 := ⟨(wt1 22 rfl rfl), (wt1 1 rfl rfl), by decide +kernel⟩
theorem nvX9_letter : NV mX9_letter 1 := ⟨(wt2 127 rfl rfl), (wt1 1 rfl rfl), by decide +kernel⟩
theorem nvX9_blank : NV mX9_blank 0 := ⟨(wt2 135 rfl rfl), (wt1 1 rfl rfl), by decide +kernel⟩
theorem nvX9_fault : NV mX9_fault 0 := ⟨(wt2 139 rfl rfl), (wt1 1 rfl rfl), by decide +kernel⟩
theorem nvX9_enter : NV mX9_enter 0 := ⟨(wt2 190 rfl rfl), (wt1 1 rfl rfl), by decide +kernel⟩
theorem nvX9_entry : NV mX9_entry 2 := ⟨(wt3 38 rfl rfl), (wt1 1 rfl rfl), by decide +kernel⟩
theorem nvX9_sign : NV mX9_sign 2 := ⟨(wt3 184 rfl rfl), (wt1 1 rfl rfl), by decide +kernel⟩
theorem nvX9_as : NV mX9_as 2 := ⟨(wt3 188 rfl rfl), (wt1 1 rfl rfl), by decide +kernel⟩
theorem nvX9_strike : NV mX9_strike 1 := ⟨(wt3 192 rfl rfl), (wt1 1 rfl rfl), by decide +kernel⟩
theorem nvX9_age : NV mX9_age 2 := ⟨(wt3 200 rfl rfl), (wt1 1 rfl rfl), by decide +kernel⟩
theorem nvX9_part : NV mX9_part 2 := ⟨(wt3 205 rfl rfl), (wt1 1 rfl rfl), by decide +kernel⟩
theorem nvX9_bound : NV mX9_bound 2 := ⟨(wt3 218 rfl rfl), (wt1 1 rfl rfl), by decide +kernel⟩
theorem nvX9_two : NV mX9_two 3 := ⟨(wt3 222 rfl rfl), (wt1 1 rfl rfl), by decide +kernel⟩
theorem nvX9_fits : NV mX9_fits 1 := ⟨(wt3 233 rfl rfl), (wt1 1 rfl rfl), by decide +kernel⟩
theorem nvX9_nearest : NV mX9_nearest 1 := ⟨(wt4 1 rfl rfl), (wt1 1 rfl rfl), by decide +kernel⟩
theorem nvX9_lives : NV mX9_lives 1 := ⟨(wt4 9 rfl rfl), (wt1 1 rfl rfl), by decide +kernel⟩
theorem nvX9_life : NV mX9_life 2 := ⟨(wt4 25 rfl rfl), (wt1 1 rfl rfl), by decide +kernel⟩
theorem nvX9_wedding : NV mX9_wedding 2 := ⟨(wt4 38 rfl rfl), (wt1 1 rfl rfl), by decide +kernel⟩
theorem nvX9_worth : NV mX9_worth 2 := ⟨(wt4 42 rfl rfl), (wt1 1 rfl rfl), by decide +kernel⟩
theorem nvX9_mate : NV mX9_mate 1 := ⟨(wt4 48 rfl rfl), (wt1 1 rfl rfl), by decide +kernel⟩
theorem nvX9_count : NV mX9_count 1 := ⟨(wt4 52 rfl rfl), (wt1 1 rfl rfl), by decide +kernel⟩
theorem nvX9_digest : NV mX9_digest 0 := ⟨(wt4 66 rfl rfl), (wt1 1 rfl rfl), by decide +kernel⟩
theorem nvX9_leastAge : NV mX9_leastAge 1 := ⟨(wt2 181 rfl rfl), (wt1 1 rfl rfl), by decide +kernel⟩
theorem nvX9_mayHaveAge : NV mX9_mayHaveAge 2 := ⟨(wt2 178 rfl rfl), (wt1 1 rfl rfl), by decide +kernel⟩
theorem nvX9_areTwo : NV mX9_areTwo 2 := ⟨(wt3 209 rfl rfl), (wt1 1 rfl rfl), by decide +kernel⟩
theorem nvX9_addEntriesOfPage : NV mX9_addEntriesOfPage 0 := ⟨(wt2 203 rfl rfl), (wt1 1 rfl rfl), by decide +kernel⟩
theorem nvX9_settle : NV mX9_settle 0 := ⟨(wt3 46 rfl rfl), (wt1 1 rfl rfl), by decide +kernel⟩
theorem nvX9_tellEntry : NV mX9_tellEntry 2 := ⟨(wt3 180 rfl rfl), (wt1 1 rfl rfl), by decide +kernel⟩
theorem nvX9_tellTwo : NV mX9_tellTwo 3 := ⟨(wt3 226 rfl rfl), (wt1 1 rfl rfl), by decide +kernel⟩
theorem nvX9_tellLives : NV mX9_tellLives 1 := ⟨(wt4 13 rfl rfl), (wt1 1 rfl rfl), by decide +kernel⟩
theorem nvX9_tellLife : NV mX9_tellLife 2 := ⟨(wt4 29 rfl rfl), (wt1 1 rfl rfl), by decide +kernel⟩
theorem nvX9_mixed : NV mX9_mixed 2 := ⟨(wt4 74 rfl rfl), (wt1 1 rfl rfl), by decide +kernel⟩
theorem nvX9_mixEntries : NV mX9_mixEntries 1 := ⟨(wt4 71 rfl rfl), (wt1 1 rfl rfl), by decide +kernel⟩
theorem nvX9_mixTwos : NV mX9_mixTwos 1 := ⟨(wt4 79 rfl rfl), (wt1 1 rfl rfl), by decide +kernel⟩
theorem nvX9_mixLives : NV mX9_mixLives 1 := ⟨(wt4 83 rfl rfl), (wt1 1 rfl rfl), by decide +kernel⟩
theorem nvX10_init : NV mX10_init 0 := ⟨(wt4 89 rfl rfl), (wt1 11 rfl rfl), by decide +kernel⟩
theorem nvX10_within : NV mX10_within 3 := ⟨(wt4 200 rfl rfl), (wt1 11 rfl rfl), by decide +kernel⟩
theorem nvX10_letter : NV mX10_letter 1 := ⟨(wt4 197 rfl rfl), (wt1 11 rfl rfl), by decide +kernel⟩
theorem nvX10_blank : NV mX10_blank 0 := ⟨(wt4 204 rfl rfl), (wt1 11 rfl rfl), by decide +kernel⟩
theorem nvX10_goes : NV mX10_goes 2 := ⟨(wt4 224 rfl rfl), (wt1 11 rfl rfl), by decide +kernel⟩
theorem nvX10_takesKind : NV mX10_takesKind 1 := ⟨(wt4 220 rfl rfl), (wt1 11 rfl rfl), by decide +kernel⟩
theorem nvX10_takesName : NV mX10_takesName 2 := ⟨(wt4 228 rfl rfl), (wt1 11 rfl rfl), by decide +kernel⟩
theorem nvX10_takesYear : NV mX10_takesYear 2 := ⟨(wt4 232 rfl rfl), (wt1 11 rfl rfl), by decide +kernel⟩
theorem nvX10_takesAge : NV mX10_takesAge 2 := ⟨(wt4 236 rfl rfl), (wt1 11 rfl rfl), by decide +kernel⟩
theorem nvX10_takesEnd : NV mX10_takesEnd 2 := ⟨(wt5 0 rfl rfl), (wt1 11 rfl rfl), by decide +kernel⟩
theorem nvX10_takes : NV mX10_takes 1 := ⟨(wt4 216 rfl rfl), (wt1 11 rfl rfl), by decide +kernel⟩
theorem nvX10_read : NV mX10_read 0 := ⟨(wt4 212 rfl rfl), (wt1 11 rfl rfl), by decide +kernel⟩
theorem nvX10_fault : NV mX10_fault 0 := ⟨(wt4 208 rfl rfl), (wt1 11 rfl rfl), by decide +kernel⟩
theorem nvX10_ofKind : NV mX10_ofKind 1 := ⟨(wt5 12 rfl rfl), (wt1 11 rfl rfl), by decide +kernel⟩
theorem nvX10_newOfKind : NV mX10_newOfKind 1 := ⟨(wt5 16 rfl rfl), (wt1 11 rfl rfl), by decide +kernel⟩
theorem nvX10_isRoom : NV mX10_isRoom 0 := ⟨(wt5 8 rfl rfl), (wt1 11 rfl rfl), by decide +kernel⟩
theorem nvX10_enter : NV mX10_enter 0 := ⟨(wt5 4 rfl rfl), (wt1 11 rfl rfl), by decide +kernel⟩
theorem nvX10_groupOf : NV mX10_groupOf 1 := ⟨(wt5 41 rfl rfl), (wt1 11 rfl rfl), by decide +kernel⟩
theorem nvX10_changeOf : NV mX10_changeOf 2 := ⟨(wt5 38 rfl rfl), (wt1 11 rfl rfl), by decide +kernel⟩
theorem nvX10_lesser : NV mX10_lesser 2 := ⟨(wt5 35 rfl rfl), (wt1 11 rfl rfl), by decide +kernel⟩
theorem nvX10_greater : NV mX10_greater 2 := ⟨(wt5 48 rfl rfl), (wt1 11 rfl rfl), by decide +kernel⟩
theorem nvX10_distance : NV mX10_distance 2 := ⟨(wt5 32 rfl rfl), (wt1 11 rfl rfl), by decide +kernel⟩
theorem nvX10_likeness : NV mX10_likeness 2 := ⟨(wt5 45 rfl rfl), (wt1 11 rfl rfl), by decide +kernel⟩
theorem nvX10_firstBorn : NV mX10_firstBorn 1 := ⟨(wt5 68 rfl rfl), (wt1 11 rfl rfl), by decide +kernel⟩
theorem nvX10_lastBorn : NV mX10_lastBorn 1 := ⟨(wt5 72 rfl rfl), (wt1 11 rfl rfl), by decide +kernel⟩
theorem nvX10_yearsOf : NV mX10_yearsOf 2 := ⟨(wt5 64 rfl rfl), (wt1 11 rfl rfl), by decide +kernel⟩
theorem nvX10_isParted : NV mX10_isParted 2 := ⟨(wt5 56 rfl rfl), (wt1 11 rfl rfl), by decide +kernel⟩
theorem nvX10_isOutOfOrder : NV mX10_isOutOfOrder 2 := ⟨(wt5 60 rfl rfl), (wt1 11 rfl rfl), by decide +kernel⟩
theorem nvX10_why : NV mX10_why 2 := ⟨(wt5 52 rfl rfl), (wt1 11 rfl rfl), by decide +kernel⟩
theorem nvX10_isFit : NV mX10_isFit 2 := ⟨(wt5 80 rfl rfl), (wt1 11 rfl rfl), by decide +kernel⟩
theorem nvX10_worthOf : NV mX10_worthOf 2 := ⟨(wt5 76 rfl rfl), (wt1 11 rfl rfl), by decide +kernel⟩
theorem nvX10_isEntry : NV mX10_isEntry 1 := ⟨(wt5 24 rfl rfl), (wt1 11 rfl rfl), by decide +kernel⟩
theorem nvX10_twoNow : NV mX10_twoNow 3 := ⟨(wt5 28 rfl rfl), (wt1 11 rfl rfl), by decide +kernel⟩
theorem nvX10_two : NV mX10_two 3 := ⟨(wt5 20 rfl rfl), (wt1 11 rfl rfl), by decide +kernel⟩
theorem nvX10_fitsNow : NV mX10_fitsNow 1 := ⟨(wt5 88 rfl rfl), (wt1 11 rfl rfl), by decide +kernel⟩
theorem nvX10_fits : NV mX10_fits 1 := ⟨(wt5 84 rfl rfl), (wt1 11 rfl rfl), by decide +kernel⟩
theorem nvX10_nearestNow : NV mX10_nearestNow 1 := ⟨(wt5 96 rfl rfl), (wt1 11 rfl rfl), by decide +kernel⟩
theorem nvX10_nearest : NV mX10_nearest 1 := ⟨(wt5 92 rfl rfl), (wt1 11 rfl rfl), by decide +kernel⟩
theorem nvX10_listKinds : NV mX10_listKinds 0 := ⟨(wt5 120 rfl rfl), (wt1 11 rfl rfl), by decide +kernel⟩
theorem nvX10_bestWith : NV mX10_bestWith 3 := ⟨(wt5 128 rfl rfl), (wt1 11 rfl rfl), by decide +kernel⟩
theorem nvX10_layBest : NV mX10_layBest 0 := ⟨(wt5 124 rfl rfl), (wt1 11 rfl rfl), by decide +kernel⟩
theorem nvX10_layPairs : NV mX10_layPairs 0 := ⟨(wt5 116 rfl rfl), (wt1 11 rfl rfl), by decide +kernel⟩
theorem nvX10_beginLife : NV mX10_beginLife 2 := ⟨(wt5 132 rfl rfl), (wt1 11 rfl rfl), by decide +kernel⟩
theorem nvX10_layFirstLives : NV mX10_layFirstLives 0 := ⟨(wt5 112 rfl rfl), (wt1 11 rfl rfl), by decide +kernel⟩
theorem nvX10_isOf : NV mX10_isOf 2 := ⟨(wt5 148 rfl rfl), (wt1 11 rfl rfl), by decide +kernel⟩
theorem nvX10_canGo : NV mX10_canGo 2 := ⟨(wt5 144 rfl rfl), (wt1 11 rfl rfl), by decide +kernel⟩
theorem nvX10_worthAt : NV mX10_worthAt 2 := ⟨(wt5 152 rfl rfl), (wt1 11 rfl rfl), by decide +kernel⟩
theorem nvX10_bestLife : NV mX10_bestLife 1 := ⟨(wt5 140 rfl rfl), (wt1 11 rfl rfl), by decide +kernel⟩
theorem nvX10_isInDoubt : NV mX10_isInDoubt 2 := ⟨(wt5 156 rfl rfl), (wt1 11 rfl rfl), by decide +kernel⟩
theorem nvX10_layLives : NV mX10_layLives 0 := ⟨(wt5 108 rfl rfl), (wt1 11 rfl rfl), by decide +kernel⟩
theorem nvX10_layWedding : NV mX10_layWedding 1 := ⟨(wt5 136 rfl rfl), (wt1 11 rfl rfl), by decide +kernel⟩
theorem nvX10_isShaky : NV mX10_isShaky 1 := ⟨(wt5 168 rfl rfl), (wt1 11 rfl rfl), by decide +kernel⟩
theorem nvX10_entriesOf : NV mX10_entriesOf 1 := ⟨(wt5 176 rfl rfl), (wt1 11 rfl rfl), by decide +kernel⟩
theorem nvX10_doubtful : NV mX10_doubtful 0 := ⟨(wt5 160 rfl rfl), (wt1 11 rfl rfl), by decide +kernel⟩
theorem nvX10_shakyMany : NV mX10_shakyMany 0 := ⟨(wt5 164 rfl rfl), (wt1 11 rfl rfl), by decide +kernel⟩
theorem nvX10_onlyMany : NV mX10_onlyMany 0 := ⟨(wt5 172 rfl rfl), (wt1 11 rfl rfl), by decide +kernel⟩
theorem nvX10_livesNow : NV mX10_livesNow 1 := ⟨(wt5 104 rfl rfl), (wt1 11 rfl rfl), by decide +kernel⟩
theorem nvX10_lives : NV mX10_lives 1 := ⟨(wt5 100 rfl rfl), (wt1 11 rfl rfl), by decide +kernel⟩
theorem nvX10_bornOf : NV mX10_bornOf 2 := ⟨(wt5 188 rfl rfl), (wt1 11 rfl rfl), by decide +kernel⟩
theorem nvX10_lastYear : NV mX10_lastYear 1 := ⟨(wt5 193 rfl rfl), (wt1 11 rfl rfl), by decide +kernel⟩
theorem nvX10_lifeNow : NV mX10_lifeNow 2 := ⟨(wt5 184 rfl rfl), (wt1 11 rfl rfl), by decide +kernel⟩
theorem nvX10_life : NV mX10_life 2 := ⟨(wt5 180 rfl rfl), (wt1 11 rfl rfl), by decide +kernel⟩
theorem nvX10_weddingAt : NV mX10_weddingAt 2 := ⟨(wt5 201 rfl rfl), (wt1 11 rfl rfl), by decide +kernel⟩
theorem nvX10_wedding : NV mX10_wedding 2 := ⟨(wt5 197 rfl rfl), (wt1 11 rfl rfl), by decide +kernel⟩
theorem nvX10_worth : NV mX10_worth 2 := ⟨(wt5 205 rfl rfl), (wt1 11 rfl rfl), by decide +kernel⟩
theorem nvX10_mate : NV mX10_mate 1 := ⟨(wt5 209 rfl rfl), (wt1 11 rfl rfl), by decide +kernel⟩
theorem nvX10_entryNow : NV mX10_entryNow 2 := ⟨(wt5 221 rfl rfl), (wt1 11 rfl rfl), by decide +kernel⟩
theorem nvX10_entryTold : NV mX10_entryTold 2 := ⟨(wt5 217 rfl rfl), (wt1 11 rfl rfl), by decide +kernel⟩
theorem nvX10_entry : NV mX10_entry 2 := ⟨(wt5 213 rfl rfl), (wt1 11 rfl rfl), by decide +kernel⟩
theorem nvX10_sign : NV mX10_sign 2 := ⟨(wt5 225 rfl rfl), (wt1 11 rfl rfl), by decide +kernel⟩
theorem nvX10_as : NV mX10_as 2 := ⟨(wt5 229 rfl rfl), (wt1 11 rfl rfl), by decide +kernel⟩
theorem nvX10_without : NV mX10_without 2 := ⟨(wt5 236 rfl rfl), (wt1 11 rfl rfl), by decide +kernel⟩
theorem nvX10_strike : NV mX10_strike 1 := ⟨(wt5 233 rfl rfl), (wt1 11 rfl rfl), by decide +kernel⟩
theorem nvX10_isAge : NV mX10_isAge 2 := ⟨(wt6 4 rfl rfl), (wt1 11 rfl rfl), by decide +kernel⟩
theorem nvX10_age : NV mX10_age 2 := ⟨(wt6 0 rfl rfl), (wt1 11 rfl rfl), by decide +kernel⟩
theorem nvX10_part : NV mX10_part 2 := ⟨(wt6 8 rfl rfl), (wt1 11 rfl rfl), by decide +kernel⟩
theorem nvX10_bound : NV mX10_bound 2 := ⟨(wt6 12 rfl rfl), (wt1 11 rfl rfl), by decide +kernel⟩
theorem nvX10_partedMany : NV mX10_partedMany 0 := ⟨(wt6 24 rfl rfl), (wt1 11 rfl rfl), by decide +kernel⟩
theorem nvX10_howMany : NV mX10_howMany 1 := ⟨(wt6 20 rfl rfl), (wt1 11 rfl rfl), by decide +kernel⟩
theorem nvX10_count : NV mX10_count 1 := ⟨(wt6 16 rfl rfl), (wt1 11 rfl rfl), by decide +kernel⟩
theorem nvX10_mix : NV mX10_mix 1 := ⟨(wt6 37 rfl rfl), (wt1 11 rfl rfl), by decide +kernel⟩
theorem nvX10_mixEntries : NV mX10_mixEntries 0 := ⟨(wt6 33 rfl rfl), (wt1 11 rfl rfl), by decide +kernel⟩
theorem nvX10_mixLives : NV mX10_mixLives 0 := ⟨(wt6 42 rfl rfl), (wt1 11 rfl rfl), by decide +kernel⟩
theorem nvX10_digest : NV mX10_digest 0 := ⟨(wt6 28 rfl rfl), (wt1 11 rfl rfl), by decide +kernel⟩
theorem nvJ6_bitCount_0f7a4 : NV mJ6_bitCount_0f7a4 1 := ⟨(wt4 59 rfl rfl), (wt1 17 rfl rfl), by decide +kernel⟩
theorem nvJ0_length_8abf5 : NV mJ0_length_8abf5 0 := ⟨(wt2 226 rfl rfl), (wt1 12 rfl rfl), by decide +kernel⟩
theorem nvJ0_charAt_5068e : NV mJ0_charAt_5068e 1 := ⟨(wt2 236 rfl rfl), (wt1 12 rfl rfl), by decide +kernel⟩
theorem nvJ0_coder_7d493 : NV mJ0_coder_7d493 0 := ⟨(wt2 230 rfl rfl), (wt1 12 rfl rfl), by decide +kernel⟩
theorem nvJ0_isLatin1_aae02 : NV mJ0_isLatin1_aae02 0 := ⟨(wt3 0 rfl rfl), (wt1 12 rfl rfl), by decide +kernel⟩
theorem nvJ0_checkIndex_df160 : NV mJ0_checkIndex_df160 2 := ⟨(wt3 6 rfl rfl), (wt1 12 rfl rfl), by decide +kernel⟩
theorem nvJ1_charAt_3b067 : NV mJ1_charAt_3b067 2 := ⟨(wt3 3 rfl rfl), (wt1 13 rfl rfl), by decide +kernel⟩
theorem nvJ2_getChar_3b067 : NV mJ2_getChar_3b067 2 := ⟨(wt3 24 rfl rfl), (wt1 15 rfl rfl), by decide +kernel⟩
theorem nvJ2_length_9d52b : NV mJ2_length_9d52b 1 := ⟨(wt3 20 rfl rfl), (wt1 15 rfl rfl), by decide +kernel⟩
theorem nvJ2_charAt_3b067 : NV mJ2_charAt_3b067 2 := ⟨(wt3 14 rfl rfl), (wt1 15 rfl rfl), by decide +kernel⟩
theorem nvJ2_checkIndex_2214a : NV mJ2_checkIndex_2214a 2 := ⟨(wt3 17 rfl rfl), (wt1 15 rfl rfl), by decide +kernel⟩
theorem nvJ3_checkIndex_8e157 : NV mJ3_checkIndex_8e157 3 := ⟨(wt3 11 rfl rfl), (wt1 14 rfl rfl), by decide +kernel⟩
theorem fiX0_9 : FI RX0 9 0 1 := ⟨_, rfl, by decide, (wt1 117 rfl rfl)⟩
theorem fiX0_15 : FI RX0 15 0 2 := ⟨_, rfl, by decide, (wt1 120 rfl rfl)⟩
theorem fiX0_18 : FI RX0 18 0 0 := ⟨_, rfl, by decide, (wt1 115 rfl rfl)⟩
theorem fiX0_22 : FI RX0 22 7 2 := ⟨_, rfl, by decide, (wt1 55 rfl rfl)⟩
theorem fiX0_27 : FI RX0 27 0 4 := ⟨_, rfl, by decide, (wt1 125 rfl rfl)⟩
theorem fiX0_28 : FI RX0 28 7 5 := ⟨_, rfl, by decide, (wt1 61 rfl rfl)⟩
theorem fiX0_31 : FI RX0 31 0 5 := ⟨_, rfl, by decide, (wt1 132 rfl rfl)⟩
theorem fiX0_32 : FI RX0 32 7 6 := ⟨_, rfl, by decide, (wt1 63 rfl rfl)⟩
theorem fiX0_35 : FI RX0 35 0 6 := ⟨_, rfl, by decide, (wt1 135 rfl rfl)⟩
theorem fiX0_36 : FI RX0 36 0 7 := ⟨_, rfl, by decide, (wt1 137 rfl rfl)⟩
theorem fiX0_39 : FI RX0 39 0 3 := ⟨_, rfl, by decide, (wt1 123 rfl rfl)⟩
theorem fiX0_42 : FI RX0 42 7 4 := ⟨_, rfl, by decide, (wt1 59 rfl rfl)⟩
theorem fiX0_45 : FI RX0 45 7 3 := ⟨_, rfl, by decide, (wt1 57 rfl rfl)⟩
theorem fiX0_48 : FI RX0 48 5 1 := ⟨_, rfl, by decide, (wt1 37 rfl rfl)⟩
theorem fiX0_53 : FI RX0 53 5 0 := ⟨_, rfl, by decide, (wt1 33 rfl rfl)⟩
theorem fiX0_56 : FI RX0 56 0 8 := ⟨_, rfl, by decide, (wt1 139 rfl rfl)⟩
theorem fiX0_59 : FI RX0 59 0 9 := ⟨_, rfl, by decide, (wt1 142 rfl rfl)⟩
theorem fiX1_9 : FI RX1 9 1 0 := ⟨_, rfl, by decide, (wt2 20 rfl rfl)⟩
theorem fiX1_15 : FI RX1 15 1 1 := ⟨_, rfl, by decide, (wt2 23 rfl rfl)⟩
theorem fiX1_19 : FI RX1 19 1 2 := ⟨_, rfl, by decide, (wt2 26 rfl rfl)⟩
theorem fiX1_22 : FI RX1 22 1 3 := ⟨_, rfl, by decide, (wt2 29 rfl rfl)⟩
theorem fiX1_25 : FI RX1 25 1 4 := ⟨_, rfl, by decide, (wt2 32 rfl rfl)⟩
theorem fiX1_28 : FI RX1 28 1 8 := ⟨_, rfl, by decide, (wt2 41 rfl rfl)⟩
theorem fiX1_32 : FI RX1 32 1 5 := ⟨_, rfl, by decide, (wt2 35 rfl rfl)⟩
theorem fiX1_35 : FI RX1 35 1 6 := ⟨_, rfl, by decide, (wt2 37 rfl rfl)⟩
theorem fiX1_38 : FI RX1 38 0 8 := ⟨_, rfl, by decide, (wt1 140 rfl rfl)⟩
theorem fiX1_47 : FI RX1 47 0 9 := ⟨_, rfl, by decide, (wt1 143 rfl rfl)⟩
theorem fiX1_51 : FI RX1 51 0 5 := ⟨_, rfl, by decide, (wt1 133 rfl rfl)⟩
theorem fiX1_54 : FI RX1 54 1 7 := ⟨_, rfl, by decide, (wt2 39 rfl rfl)⟩
theorem fiX1_57 : FI RX1 57 0 4 := ⟨_, rfl, by decide, (wt1 129 rfl rfl)⟩
theorem fiX10_7 : FI RX10 7 10 1 := ⟨_, rfl, by decide, (wt4 92 rfl rfl)⟩
theorem fiX10_13 : FI RX10 13 10 3 := ⟨_, rfl, by decide, (wt4 94 rfl rfl)⟩
theorem fiX10_16 : FI RX10 16 10 4 := ⟨_, rfl, by decide, (wt4 95 rfl rfl)⟩
theorem fiX10_19 : FI RX10 19 10 5 := ⟨_, rfl, by decide, (wt4 96 rfl rfl)⟩
theorem fiX10_22 : FI RX10 22 10 6 := ⟨_, rfl, by decide, (wt4 97 rfl rfl)⟩
theorem fiX10_25 : FI RX10 25 10 7 := ⟨_, rfl, by decide, (wt4 98 rfl rfl)⟩
theorem fiX10_28 : FI RX10 28 10 8 := ⟨_, rfl, by decide, (wt4 99 rfl rfl)⟩
theorem fiX10_31 : FI RX10 31 10 9 := ⟨_, rfl, by decide, (wt4 100 rfl rfl)⟩
theorem fiX10_34 : FI RX10 34 10 14 := ⟨_, rfl, by decide, (wt4 105 rfl rfl)⟩
theorem fiX10_37 : FI RX10 37 10 15 := ⟨_, rfl, by decide, (wt4 106 rfl rfl)⟩
theorem fiX10_40 : FI RX10 40 10 16 := ⟨_, rfl, by decide, (wt4 107 rfl rfl)⟩
theorem fiX10_43 : FI RX10 43 10 17 := ⟨_, rfl, by decide, (wt4 108 rfl rfl)⟩
theorem fiX10_46 : FI RX10 46 10 18 := ⟨_, rfl, by decide, (wt4 109 rfl rfl)⟩
theorem fiX10_49 : FI RX10 49 10 19 := ⟨_, rfl, by decide, (wt4 110 rfl rfl)⟩
theorem fiX10_52 : FI RX10 52 10 22 := ⟨_, rfl, by decide, (wt4 113 rfl rfl)⟩
theorem fiX10_55 : FI RX10 55 10 23 := ⟨_, rfl, by decide, (wt4 114 rfl rfl)⟩
theorem fiX10_58 : FI RX10 58 10 24 := ⟨_, rfl, by decide, (wt4 115 rfl rfl)⟩
theorem fiX10_61 : FI RX10 61 10 25 := ⟨_, rfl, by decide, (wt4 116 rfl rfl)⟩
theorem fiX10_64 : FI RX10 64 10 29 := ⟨_, rfl, by decide, (wt4 120 rfl rfl)⟩
theorem fiX10_67 : FI RX10 67 10 30 := ⟨_, rfl, by decide, (wt4 121 rfl rfl)⟩
theorem fiX10_70 : FI RX10 70 10 31 := ⟨_, rfl, by decide, (wt4 122 rfl rfl)⟩
theorem fiX10_73 : FI RX10 73 10 32 := ⟨_, rfl, by decide, (wt4 123 rfl rfl)⟩
theorem fiX10_80 : FI RX10 80 10 0 := ⟨_, rfl, by decide, (wt4 91 rfl rfl)⟩
theorem fiX10_84 : FI RX10 84 10 12 := ⟨_, rfl, by decide, (wt4 103 rfl rfl)⟩
theorem fiX10_87 : FI RX10 87 10 13 := ⟨_, rfl, by decide, (wt4 104 rfl rfl)⟩
theorem fiX10_118 : FI RX10 118 10 2 := ⟨_, rfl, by decide, (wt4 93 rfl rfl)⟩
theorem fiX10_132 : FI RX10 132 10 10 := ⟨_, rfl, by decide, (wt4 101 rfl rfl)⟩
theorem fiX10_191 : FI RX10 191 10 20 := ⟨_, rfl, by decide, (wt4 111 rfl rfl)⟩
theorem fiX10_194 : FI RX10 194 10 21 := ⟨_, rfl, by decide, (wt4 112 rfl rfl)⟩
theorem fiX10_206 : FI RX10 206 10 26 := ⟨_, rfl, by decide, (wt4 117 rfl rfl)⟩
theorem fiX10_209 : FI RX10 209 10 27 := ⟨_, rfl, by decide, (wt4 118 rfl rfl)⟩
theorem fiX10_212 : FI RX10 212 10 28 := ⟨_, rfl, by decide, (wt4 119 rfl rfl)⟩
theorem fiX10_288 : FI RX10 288 10 11 := ⟨_, rfl, by decide, (wt4 102 rfl rfl)⟩
theorem fiX10_302 : FI RX10 302 10 33 := ⟨_, rfl, by decide, (wt4 124 rfl rfl)⟩
theorem fiX2_11 : FI RX2 11 2 0 := ⟨_, rfl, by decide, (wt2 63 rfl rfl)⟩
theorem fiX2_17 : FI RX2 17 2 1 := ⟨_, rfl, by decide, (wt2 65 rfl rfl)⟩
theorem fiX2_21 : FI RX2 21 2 5 := ⟨_, rfl, by decide, (wt2 73 rfl rfl)⟩
theorem fiX2_25 : FI RX2 25 2 2 := ⟨_, rfl, by decide, (wt2 67 rfl rfl)⟩
theorem fiX2_29 : FI RX2 29 2 4 := ⟨_, rfl, by decide, (wt2 71 rfl rfl)⟩
theorem fiX2_36 : FI RX2 36 2 3 := ⟨_, rfl, by decide, (wt2 69 rfl rfl)⟩
theorem fiX2_43 : FI RX2 43 1 8 := ⟨_, rfl, by decide, (wt2 42 rfl rfl)⟩
theorem fiX2_47 : FI RX2 47 8 2 := ⟨_, rfl, by decide, (wt1 175 rfl rfl)⟩
theorem fiX2_50 : FI RX2 50 8 0 := ⟨_, rfl, by decide, (wt1 167 rfl rfl)⟩
theorem fiX2_54 : FI RX2 54 0 4 := ⟨_, rfl, by decide, (wt1 126 rfl rfl)⟩
theorem fiX2_63 : FI RX2 63 1 1 := ⟨_, rfl, by decide, (wt2 24 rfl rfl)⟩
theorem fiX2_72 : FI RX2 72 3 0 := ⟨_, rfl, by decide, (wt1 219 rfl rfl)⟩
theorem fiX2_87 : FI RX2 87 1 3 := ⟨_, rfl, by decide, (wt2 30 rfl rfl)⟩
theorem fiX2_90 : FI RX2 90 1 4 := ⟨_, rfl, by decide, (wt2 33 rfl rfl)⟩
theorem fiX2_93 : FI RX2 93 6 1 := ⟨_, rfl, by decide, (wt1 201 rfl rfl)⟩
theorem fiX2_113 : FI RX2 113 1 0 := ⟨_, rfl, by decide, (wt2 21 rfl rfl)⟩
theorem fiX2_120 : FI RX2 120 1 2 := ⟨_, rfl, by decide, (wt2 27 rfl rfl)⟩
theorem fiX3_9 : FI RX3 9 3 0 := ⟨_, rfl, by decide, (wt1 218 rfl rfl)⟩
theorem fiX3_15 : FI RX3 15 3 3 := ⟨_, rfl, by decide, (wt1 225 rfl rfl)⟩
theorem fiX3_18 : FI RX3 18 3 4 := ⟨_, rfl, by decide, (wt1 226 rfl rfl)⟩
theorem fiX3_23 : FI RX3 23 3 7 := ⟨_, rfl, by decide, (wt1 229 rfl rfl)⟩
theorem fiX3_30 : FI RX3 30 3 5 := ⟨_, rfl, by decide, (wt1 227 rfl rfl)⟩
theorem fiX3_34 : FI RX3 34 3 6 := ⟨_, rfl, by decide, (wt1 228 rfl rfl)⟩
theorem fiX3_45 : FI RX3 45 8 2 := ⟨_, rfl, by decide, (wt1 176 rfl rfl)⟩
theorem fiX3_50 : FI RX3 50 8 0 := ⟨_, rfl, by decide, (wt1 168 rfl rfl)⟩
theorem fiX3_54 : FI RX3 54 0 4 := ⟨_, rfl, by decide, (wt1 127 rfl rfl)⟩
theorem fiX3_79 : FI RX3 79 6 1 := ⟨_, rfl, by decide, (wt1 200 rfl rfl)⟩
theorem fiX3_82 : FI RX3 82 3 1 := ⟨_, rfl, by decide, (wt1 221 rfl rfl)⟩
theorem fiX3_85 : FI RX3 85 3 2 := ⟨_, rfl, by decide, (wt1 223 rfl rfl)⟩
theorem fiX4_9 : FI RX4 9 4 0 := ⟨_, rfl, by decide, (wt1 95 rfl rfl)⟩
theorem fiX4_15 : FI RX4 15 4 1 := ⟨_, rfl, by decide, (wt1 96 rfl rfl)⟩
theorem fiX4_18 : FI RX4 18 0 3 := ⟨_, rfl, by decide, (wt1 122 rfl rfl)⟩
theorem fiX4_24 : FI RX4 24 0 1 := ⟨_, rfl, by decide, (wt1 118 rfl rfl)⟩
theorem fiX5_9 : FI RX5 9 5 0 := ⟨_, rfl, by decide, (wt1 32 rfl rfl)⟩
theorem fiX5_15 : FI RX5 15 5 1 := ⟨_, rfl, by decide, (wt1 35 rfl rfl)⟩
theorem fiX6_11 : FI RX6 11 6 0 := ⟨_, rfl, by decide, (wt1 197 rfl rfl)⟩
theorem fiX6_16 : FI RX6 16 6 1 := ⟨_, rfl, by decide, (wt1 199 rfl rfl)⟩
theorem fiX6_19 : FI RX6 19 8 2 := ⟨_, rfl, by decide, (wt1 173 rfl rfl)⟩
theorem fiX6_25 : FI RX6 25 6 2 := ⟨_, rfl, by decide, (wt1 203 rfl rfl)⟩
theorem fiX6_34 : FI RX6 34 8 0 := ⟨_, rfl, by decide, (wt1 170 rfl rfl)⟩
theorem fiX6_51 : FI RX6 51 0 4 := ⟨_, rfl, by decide, (wt1 131 rfl rfl)⟩
theorem fiX7_9 : FI RX7 9 7 0 := ⟨_, rfl, by decide, (wt1 50 rfl rfl)⟩
theorem fiX7_15 : FI RX7 15 7 1 := ⟨_, rfl, by decide, (wt1 52 rfl rfl)⟩
theorem fiX7_19 : FI RX7 19 7 8 := ⟨_, rfl, by decide, (wt1 66 rfl rfl)⟩
theorem fiX7_25 : FI RX7 25 7 7 := ⟨_, rfl, by decide, (wt1 65 rfl rfl)⟩
theorem fiX7_48 : FI RX7 48 7 4 := ⟨_, rfl, by decide, (wt1 60 rfl rfl)⟩
theorem fiX7_51 : FI RX7 51 7 5 := ⟨_, rfl, by decide, (wt1 62 rfl rfl)⟩
theorem fiX7_54 : FI RX7 54 7 6 := ⟨_, rfl, by decide, (wt1 64 rfl rfl)⟩
theorem fiX7_57 : FI RX7 57 7 9 := ⟨_, rfl, by decide, (wt1 67 rfl rfl)⟩
theorem fiX7_60 : FI RX7 60 7 2 := ⟨_, rfl, by decide, (wt1 56 rfl rfl)⟩
theorem fiX7_63 : FI RX7 63 7 3 := ⟨_, rfl, by decide, (wt1 58 rfl rfl)⟩
theorem fiX8_11 : FI RX8 11 8 0 := ⟨_, rfl, by decide, (wt1 166 rfl rfl)⟩
theorem fiX8_17 : FI RX8 17 8 1 := ⟨_, rfl, by decide, (wt1 171 rfl rfl)⟩
theorem fiX8_24 : FI RX8 24 8 2 := ⟨_, rfl, by decide, (wt1 174 rfl rfl)⟩
theorem fiX8_28 : FI RX8 28 7 1 := ⟨_, rfl, by decide, (wt1 53 rfl rfl)⟩
theorem fiX8_33 : FI RX8 33 7 0 := ⟨_, rfl, by decide, (wt1 51 rfl rfl)⟩
theorem fiX8_44 : FI RX8 44 0 2 := ⟨_, rfl, by decide, (wt1 121 rfl rfl)⟩
theorem fiX8_47 : FI RX8 47 0 0 := ⟨_, rfl, by decide, (wt1 116 rfl rfl)⟩
theorem fiX8_50 : FI RX8 50 0 4 := ⟨_, rfl, by decide, (wt1 128 rfl rfl)⟩
theorem fiX8_53 : FI RX8 53 8 3 := ⟨_, rfl, by decide, (wt1 178 rfl rfl)⟩
theorem fiX8_56 : FI RX8 56 0 7 := ⟨_, rfl, by decide, (wt1 138 rfl rfl)⟩
theorem fiX9_10 : FI RX9 10 9 0 := ⟨_, rfl, by decide, (wt2 87 rfl rfl)⟩
theorem fiX9_19 : FI RX9 19 9 1 := ⟨_, rfl, by decide, (wt2 88 rfl rfl)⟩
theorem fiX9_26 : FI RX9 26 9 2 := ⟨_, rfl, by decide, (wt2 89 rfl rfl)⟩
theorem fiX9_33 : FI RX9 33 9 3 := ⟨_, rfl, by decide, (wt2 90 rfl rfl)⟩
theorem fiX9_40 : FI RX9 40 9 4 := ⟨_, rfl, by decide, (wt2 91 rfl rfl)⟩
theorem fiX9_47 : FI RX9 47 9 5 := ⟨_, rfl, by decide, (wt2 92 rfl rfl)⟩
theorem fiX9_54 : FI RX9 54 9 6 := ⟨_, rfl, by decide, (wt2 93 rfl rfl)⟩
theorem fiX9_58 : FI RX9 58 9 7 := ⟨_, rfl, by decide, (wt2 94 rfl rfl)⟩
theorem fiX9_62 : FI RX9 62 9 8 := ⟨_, rfl, by decide, (wt2 95 rfl rfl)⟩
theorem fiX9_65 : FI RX9 65 9 9 := ⟨_, rfl, by decide, (wt2 96 rfl rfl)⟩
theorem fiX9_68 : FI RX9 68 9 11 := ⟨_, rfl, by decide, (wt2 98 rfl rfl)⟩
theorem fiX9_72 : FI RX9 72 5 1 := ⟨_, rfl, by decide, (wt1 36 rfl rfl)⟩
theorem fiX9_82 : FI RX9 82 5 0 := ⟨_, rfl, by decide, (wt1 34 rfl rfl)⟩
theorem fiX9_102 : FI RX9 102 7 1 := ⟨_, rfl, by decide, (wt1 54 rfl rfl)⟩
theorem fiX9_108 : FI RX9 108 9 10 := ⟨_, rfl, by decide, (wt2 97 rfl rfl)⟩
theorem fiX9_121 : FI RX9 121 8 0 := ⟨_, rfl, by decide, (wt1 169 rfl rfl)⟩
theorem fiX9_125 : FI RX9 125 0 3 := ⟨_, rfl, by decide, (wt1 124 rfl rfl)⟩
theorem fiX9_130 : FI RX9 130 0 1 := ⟨_, rfl, by decide, (wt1 119 rfl rfl)⟩
theorem fiX9_133 : FI RX9 133 0 4 := ⟨_, rfl, by decide, (wt1 130 rfl rfl)⟩
theorem fiX9_136 : FI RX9 136 0 5 := ⟨_, rfl, by decide, (wt1 134 rfl rfl)⟩
theorem fiX9_142 : FI RX9 142 8 2 := ⟨_, rfl, by decide, (wt1 177 rfl rfl)⟩
theorem fiX9_147 : FI RX9 147 0 6 := ⟨_, rfl, by decide, (wt1 136 rfl rfl)⟩
theorem fiX9_172 : FI RX9 172 2 0 := ⟨_, rfl, by decide, (wt2 64 rfl rfl)⟩
theorem fiX9_185 : FI RX9 185 1 0 := ⟨_, rfl, by decide, (wt2 22 rfl rfl)⟩
theorem fiX9_188 : FI RX9 188 1 2 := ⟨_, rfl, by decide, (wt2 28 rfl rfl)⟩
theorem fiX9_191 : FI RX9 191 2 3 := ⟨_, rfl, by decide, (wt2 70 rfl rfl)⟩
theorem fiX9_202 : FI RX9 202 3 0 := ⟨_, rfl, by decide, (wt1 220 rfl rfl)⟩
theorem fiX9_205 : FI RX9 205 8 1 := ⟨_, rfl, by decide, (wt1 172 rfl rfl)⟩
theorem fiX9_208 : FI RX9 208 8 3 := ⟨_, rfl, by decide, (wt1 179 rfl rfl)⟩
theorem fiX9_252 : FI RX9 252 0 8 := ⟨_, rfl, by decide, (wt1 141 rfl rfl)⟩
theorem fiX9_255 : FI RX9 255 0 9 := ⟨_, rfl, by decide, (wt1 144 rfl rfl)⟩
theorem fiX9_258 : FI RX9 258 2 1 := ⟨_, rfl, by decide, (wt2 66 rfl rfl)⟩
theorem fiX9_268 : FI RX9 268 6 0 := ⟨_, rfl, by decide, (wt1 198 rfl rfl)⟩
theorem fiX9_272 : FI RX9 272 6 1 := ⟨_, rfl, by decide, (wt1 202 rfl rfl)⟩
theorem fiX9_278 : FI RX9 278 2 2 := ⟨_, rfl, by decide, (wt2 68 rfl rfl)⟩
theorem fiX9_279 : FI RX9 279 3 1 := ⟨_, rfl, by decide, (wt1 222 rfl rfl)⟩
theorem fiX9_281 : FI RX9 281 3 2 := ⟨_, rfl, by decide, (wt1 224 rfl rfl)⟩
theorem fiX9_283 : FI RX9 283 2 4 := ⟨_, rfl, by decide, (wt2 72 rfl rfl)⟩
theorem fiX9_292 : FI RX9 292 1 3 := ⟨_, rfl, by decide, (wt2 31 rfl rfl)⟩
theorem fiX9_295 : FI RX9 295 1 4 := ⟨_, rfl, by decide, (wt2 34 rfl rfl)⟩
theorem fiX9_301 : FI RX9 301 1 5 := ⟨_, rfl, by decide, (wt2 36 rfl rfl)⟩
theorem fiX9_302 : FI RX9 302 1 6 := ⟨_, rfl, by decide, (wt2 38 rfl rfl)⟩
theorem fiX9_303 : FI RX9 303 1 8 := ⟨_, rfl, by decide, (wt2 43 rfl rfl)⟩
theorem fiX9_306 : FI RX9 306 1 1 := ⟨_, rfl, by decide, (wt2 25 rfl rfl)⟩
theorem fiX9_307 : FI RX9 307 1 7 := ⟨_, rfl, by decide, (wt2 40 rfl rfl)⟩
theorem ff0_0 : FF RX0 0 0 true := fun q h => by cases h; exact ⟨rfl, rfl⟩
theorem ff0_1 : FF RX0 0 1 true := fun q h => by cases h; exact ⟨rfl, rfl⟩
theorem ff0_2 : FF RX0 0 2 true := fun q h => by cases h; exact ⟨rfl, rfl⟩
theorem ff0_3 : FF RX0 0 3 false := fun q h => by cases h; exact ⟨rfl, rfl⟩
theorem ff0_4 : FF RX0 0 4 false := fun q h => by cases h; exact ⟨rfl, rfl⟩
theorem ff0_5 : FF RX0 0 5 false := fun q h => by cases h; exact ⟨rfl, rfl⟩
theorem ff0_6 : FF RX0 0 6 false := fun q h => by cases h; exact ⟨rfl, rfl⟩
theorem ff0_7 : FF RX0 0 7 false := fun q h => by cases h; exact ⟨rfl, rfl⟩
theorem ff0_8 : FF RX0 0 8 false := fun q h => by cases h; exact ⟨rfl, rfl⟩
theorem ff0_9 : FF RX0 0 9 false := fun q h => by cases h; exact ⟨rfl, rfl⟩
theorem ff1_0 : FF RX1 1 0 true := fun q h => by cases h; exact ⟨rfl, rfl⟩
theorem ff1_1 : FF RX1 1 1 false := fun q h => by cases h; exact ⟨rfl, rfl⟩
theorem ff1_2 : FF RX1 1 2 false := fun q h => by cases h; exact ⟨rfl, rfl⟩
theorem ff1_3 : FF RX1 1 3 false := fun q h => by cases h; exact ⟨rfl, rfl⟩
theorem ff1_4 : FF RX1 1 4 false := fun q h => by cases h; exact ⟨rfl, rfl⟩
theorem ff1_5 : FF RX1 1 5 false := fun q h => by cases h; exact ⟨rfl, rfl⟩
theorem ff1_6 : FF RX1 1 6 false := fun q h => by cases h; exact ⟨rfl, rfl⟩
theorem ff1_7 : FF RX1 1 7 false := fun q h => by cases h; exact ⟨rfl, rfl⟩
theorem ff1_8 : FF RX1 1 8 false := fun q h => by cases h; exact ⟨rfl, rfl⟩
theorem ff2_0 : FF RX2 2 0 true := fun q h => by cases h; exact ⟨rfl, rfl⟩
theorem ff2_1 : FF RX2 2 1 true := fun q h => by cases h; exact ⟨rfl, rfl⟩
theorem ff2_2 : FF RX2 2 2 false := fun q h => by cases h; exact ⟨rfl, rfl⟩
theorem ff2_3 : FF RX2 2 3 false := fun q h => by cases h; exact ⟨rfl, rfl⟩
theorem ff2_4 : FF RX2 2 4 false := fun q h => by cases h; exact ⟨rfl, rfl⟩
theorem ff2_5 : FF RX2 2 5 true := fun q h => by cases h; exact ⟨rfl, rfl⟩
theorem ff3_0 : FF RX3 3 0 true := fun q h => by cases h; exact ⟨rfl, rfl⟩
theorem ff3_1 : FF RX3 3 1 false := fun q h => by cases h; exact ⟨rfl, rfl⟩
theorem ff3_2 : FF RX3 3 2 false := fun q h => by cases h; exact ⟨rfl, rfl⟩
theorem ff3_3 : FF RX3 3 3 true := fun q h => by cases h; exact ⟨rfl, rfl⟩
theorem ff3_4 : FF RX3 3 4 true := fun q h => by cases h; exact ⟨rfl, rfl⟩
theorem ff3_5 : FF RX3 3 5 false := fun q h => by cases h; exact ⟨rfl, rfl⟩
theorem ff3_6 : FF RX3 3 6 false := fun q h => by cases h; exact ⟨rfl, rfl⟩
theorem ff3_7 : FF RX3 3 7 true := fun q h => by cases h; exact ⟨rfl, rfl⟩
theorem ff4_0 : FF RX4 4 0 false := fun q h => by cases h; exact ⟨rfl, rfl⟩
theorem ff4_1 : FF RX4 4 1 false := fun q h => by cases h; exact ⟨rfl, rfl⟩
theorem ff5_0 : FF RX5 5 0 true := fun q h => by cases h; exact ⟨rfl, rfl⟩
theorem ff5_1 : FF RX5 5 1 false := fun q h => by cases h; exact ⟨rfl, rfl⟩
theorem ff6_0 : FF RX6 6 0 true := fun q h => by cases h; exact ⟨rfl, rfl⟩
theorem ff6_1 : FF RX6 6 1 true := fun q h => by cases h; exact ⟨rfl, rfl⟩
theorem ff6_2 : FF RX6 6 2 false := fun q h => by cases h; exact ⟨rfl, rfl⟩
theorem ff7_0 : FF RX7 7 0 true := fun q h => by cases h; exact ⟨rfl, rfl⟩
theorem ff7_1 : FF RX7 7 1 false := fun q h => by cases h; exact ⟨rfl, rfl⟩
theorem ff7_2 : FF RX7 7 2 false := fun q h => by cases h; exact ⟨rfl, rfl⟩
theorem ff7_3 : FF RX7 7 3 false := fun q h => by cases h; exact ⟨rfl, rfl⟩
theorem ff7_4 : FF RX7 7 4 false := fun q h => by cases h; exact ⟨rfl, rfl⟩
theorem ff7_5 : FF RX7 7 5 false := fun q h => by cases h; exact ⟨rfl, rfl⟩
theorem ff7_6 : FF RX7 7 6 false := fun q h => by cases h; exact ⟨rfl, rfl⟩
theorem ff7_7 : FF RX7 7 7 false := fun q h => by cases h; exact ⟨rfl, rfl⟩
theorem ff7_8 : FF RX7 7 8 false := fun q h => by cases h; exact ⟨rfl, rfl⟩
theorem ff7_9 : FF RX7 7 9 false := fun q h => by cases h; exact ⟨rfl, rfl⟩
theorem ff8_0 : FF RX8 8 0 true := fun q h => by cases h; exact ⟨rfl, rfl⟩
theorem ff8_1 : FF RX8 8 1 true := fun q h => by cases h; exact ⟨rfl, rfl⟩
theorem ff8_2 : FF RX8 8 2 false := fun q h => by cases h; exact ⟨rfl, rfl⟩
theorem ff8_3 : FF RX8 8 3 false := fun q h => by cases h; exact ⟨rfl, rfl⟩
theorem ff9_0 : FF RX9 9 0 true := fun q h => by cases h; exact ⟨rfl, rfl⟩
theorem ff9_1 : FF RX9 9 1 true := fun q h => by cases h; exact ⟨rfl, rfl⟩
theorem ff9_2 : FF RX9 9 2 true := fun q h => by cases h; exact ⟨rfl, rfl⟩
theorem ff9_3 : FF RX9 9 3 true := fun q h => by cases h; exact ⟨rfl, rfl⟩
theorem ff9_4 : FF RX9 9 4 true := fun q h => by cases h; exact ⟨rfl, rfl⟩
theorem ff9_5 : FF RX9 9 5 true := fun q h => by cases h; exact ⟨rfl, rfl⟩
theorem ff9_6 : FF RX9 9 6 true := fun q h => by cases h; exact ⟨rfl, rfl⟩
theorem ff9_7 : FF RX9 9 7 false := fun q h => by cases h; exact ⟨rfl, rfl⟩
theorem ff9_8 : FF RX9 9 8 false := fun q h => by cases h; exact ⟨rfl, rfl⟩
theorem ff9_9 : FF RX9 9 9 false := fun q h => by cases h; exact ⟨rfl, rfl⟩
theorem ff9_10 : FF RX9 9 10 false := fun q h => by cases h; exact ⟨rfl, rfl⟩
theorem ff9_11 : FF RX9 9 11 false := fun q h => by cases h; exact ⟨rfl, rfl⟩
theorem ff10_0 : FF RX10 10 0 false := fun q h => by cases h; exact ⟨rfl, rfl⟩
theorem ff10_1 : FF RX10 10 1 true := fun q h => by cases h; exact ⟨rfl, rfl⟩
theorem ff10_2 : FF RX10 10 2 false := fun q h => by cases h; exact ⟨rfl, rfl⟩
theorem ff10_3 : FF RX10 10 3 true := fun q h => by cases h; exact ⟨rfl, rfl⟩
theorem ff10_4 : FF RX10 10 4 true := fun q h => by cases h; exact ⟨rfl, rfl⟩
theorem ff10_5 : FF RX10 10 5 true := fun q h => by cases h; exact ⟨rfl, rfl⟩
theorem ff10_6 : FF RX10 10 6 true := fun q h => by cases h; exact ⟨rfl, rfl⟩
theorem ff10_7 : FF RX10 10 7 true := fun q h => by cases h; exact ⟨rfl, rfl⟩
theorem ff10_8 : FF RX10 10 8 true := fun q h => by cases h; exact ⟨rfl, rfl⟩
theorem ff10_9 : FF RX10 10 9 true := fun q h => by cases h; exact ⟨rfl, rfl⟩
theorem ff10_10 : FF RX10 10 10 false := fun q h => by cases h; exact ⟨rfl, rfl⟩
theorem ff10_11 : FF RX10 10 11 false := fun q h => by cases h; exact ⟨rfl, rfl⟩
theorem ff10_12 : FF RX10 10 12 false := fun q h => by cases h; exact ⟨rfl, rfl⟩
theorem ff10_13 : FF RX10 10 13 false := fun q h => by cases h; exact ⟨rfl, rfl⟩
theorem ff10_14 : FF RX10 10 14 true := fun q h => by cases h; exact ⟨rfl, rfl⟩
theorem ff10_15 : FF RX10 10 15 true := fun q h => by cases h; exact ⟨rfl, rfl⟩
theorem ff10_16 : FF RX10 10 16 true := fun q h => by cases h; exact ⟨rfl, rfl⟩
theorem ff10_17 : FF RX10 10 17 true := fun q h => by cases h; exact ⟨rfl, rfl⟩
theorem ff10_18 : FF RX10 10 18 true := fun q h => by cases h; exact ⟨rfl, rfl⟩
theorem ff10_19 : FF RX10 10 19 true := fun q h => by cases h; exact ⟨rfl, rfl⟩
theorem ff10_20 : FF RX10 10 20 false := fun q h => by cases h; exact ⟨rfl, rfl⟩
theorem ff10_21 : FF RX10 10 21 false := fun q h => by cases h; exact ⟨rfl, rfl⟩
theorem ff10_22 : FF RX10 10 22 true := fun q h => by cases h; exact ⟨rfl, rfl⟩
theorem ff10_23 : FF RX10 10 23 true := fun q h => by cases h; exact ⟨rfl, rfl⟩
theorem ff10_24 : FF RX10 10 24 true := fun q h => by cases h; exact ⟨rfl, rfl⟩
theorem ff10_25 : FF RX10 10 25 true := fun q h => by cases h; exact ⟨rfl, rfl⟩
theorem ff10_26 : FF RX10 10 26 false := fun q h => by cases h; exact ⟨rfl, rfl⟩
theorem ff10_27 : FF RX10 10 27 false := fun q h => by cases h; exact ⟨rfl, rfl⟩
theorem ff10_28 : FF RX10 10 28 false := fun q h => by cases h; exact ⟨rfl, rfl⟩
theorem ff10_29 : FF RX10 10 29 true := fun q h => by cases h; exact ⟨rfl, rfl⟩
theorem ff10_30 : FF RX10 10 30 true := fun q h => by cases h; exact ⟨rfl, rfl⟩
theorem ff10_31 : FF RX10 10 31 true := fun q h => by cases h; exact ⟨rfl, rfl⟩
theorem ff10_32 : FF RX10 10 32 true := fun q h => by cases h; exact ⟨rfl, rfl⟩
theorem ff10_33 : FF RX10 10 33 false := fun q h => by cases h; exact ⟨rfl, rfl⟩
theorem mlX0_62 : Cond.methodLink RX0 62 Lib.Math.max.name ∈ WS := (wt3 78 rfl rfl)
theorem mlX0_72 : Cond.methodLink RX0 72 Lib.Math.min.name ∈ WS := (wt3 81 rfl rfl)
theorem mlX1_41 : Cond.methodLink RX1 41 Lib.Math.max.name ∈ WS := (wt3 147 rfl rfl)
theorem mlX1_48 : Cond.methodLink RX1 48 Lib.Math.min.name ∈ WS := (wt3 148 rfl rfl)
theorem mlX3_67 : Cond.methodLink RX3 67 Lib.Math.max.name ∈ WS := (wt3 114 rfl rfl)
theorem mlX4_31 : Cond.methodLink RX4 31 Lib.Math.min.name ∈ WS := (wt3 31 rfl rfl)
theorem cvX0_68 : CVV RX0 68 mX0_distanceTo 1 0 := ⟨(wt3 86 rfl rfl), ⟨nvX0_distanceTo, (wt3 87 rfl rfl), (wt3 88 rfl rfl)⟩, _, rfl, rfl⟩
theorem cvX10_76 : CVS RX10 76 mX10_within 3 := ⟨(wt4 198 rfl rfl), nvX10_within, (wt4 199 rfl rfl)⟩
theorem cvX10_90 : CVV RX10 90 mX10_goes 2 10 := ⟨(wt4 221 rfl rfl), ⟨nvX10_goes, (wt4 223 rfl rfl), (wp2 15 rfl rfl)⟩, _, rfl, rfl⟩
theorem cvX10_94 : CVV RX10 94 mX10_takesAge 2 10 := ⟨(wt4 233 rfl rfl), ⟨nvX10_takesAge, (wt4 235 rfl rfl), (wp3 2 rfl rfl)⟩, _, rfl, rfl⟩
theorem cvX10_98 : CVV RX10 98 mX10_takesKind 1 10 := ⟨(wt4 217 rfl rfl), ⟨nvX10_takesKind, (wt4 219 rfl rfl), (wp2 14 rfl rfl)⟩, _, rfl, rfl⟩
theorem cvX10_102 : CVV RX10 102 mX10_takesName 2 10 := ⟨(wt4 225 rfl rfl), ⟨nvX10_takesName, (wt4 227 rfl rfl), (wp3 0 rfl rfl)⟩, _, rfl, rfl⟩
theorem cvX10_105 : CVV RX10 105 mX10_takesYear 2 10 := ⟨(wt4 229 rfl rfl), ⟨nvX10_takesYear, (wt4 231 rfl rfl), (wp3 1 rfl rfl)⟩, _, rfl, rfl⟩
theorem cvX10_108 : CVV RX10 108 mX10_takesEnd 2 10 := ⟨(wt4 237 rfl rfl), ⟨nvX10_takesEnd, (wt4 239 rfl rfl), (wp3 3 rfl rfl)⟩, _, rfl, rfl⟩
theorem cvX10_111 : CVV RX10 111 mX10_takes 1 10 := ⟨(wt4 213 rfl rfl), ⟨nvX10_takes, (wt4 215 rfl rfl), (wp2 13 rfl rfl)⟩, _, rfl, rfl⟩
theorem cvX10_114 : CVV RX10 114 mX10_read 0 10 := ⟨(wt4 209 rfl rfl), ⟨nvX10_read, (wt4 211 rfl rfl), (wp2 12 rfl rfl)⟩, _, rfl, rfl⟩
theorem cvX10_121 : CVV RX10 121 mX10_ofKind 1 10 := ⟨(wt5 9 rfl rfl), ⟨nvX10_ofKind, (wt5 11 rfl rfl), (wp3 5 rfl rfl)⟩, _, rfl, rfl⟩
theorem cvX10_125 : CVV RX10 125 mX10_newOfKind 1 10 := ⟨(wt5 13 rfl rfl), ⟨nvX10_newOfKind, (wt5 15 rfl rfl), (wp3 6 rfl rfl)⟩, _, rfl, rfl⟩
theorem cvX10_128 : CVV RX10 128 mX10_isRoom 0 10 := ⟨(wt5 5 rfl rfl), ⟨nvX10_isRoom, (wt5 7 rfl rfl), (wp3 4 rfl rfl)⟩, _, rfl, rfl⟩
theorem cvX10_135 : CVS RX10 135 mX10_groupOf 1 := ⟨(wt5 39 rfl rfl), nvX10_groupOf, (wt5 40 rfl rfl)⟩
theorem cvX10_138 : CVS RX10 138 mX10_lesser 2 := ⟨(wt5 33 rfl rfl), nvX10_lesser, (wt5 34 rfl rfl)⟩
theorem cvX10_142 : CVS RX10 142 mX10_changeOf 2 := ⟨(wt5 36 rfl rfl), nvX10_changeOf, (wt5 37 rfl rfl)⟩
theorem cvX10_145 : CVV RX10 145 mX10_distance 2 10 := ⟨(wt5 29 rfl rfl), ⟨nvX10_distance, (wt5 31 rfl rfl), (wp3 9 rfl rfl)⟩, _, rfl, rfl⟩
theorem cvX10_148 : CVS RX10 148 mX10_greater 2 := ⟨(wt5 46 rfl rfl), nvX10_greater, (wt5 47 rfl rfl)⟩
theorem cvX10_151 : CVV RX10 151 mX10_firstBorn 1 10 := ⟨(wt5 65 rfl rfl), ⟨nvX10_firstBorn, (wt5 67 rfl rfl), (wp3 15 rfl rfl)⟩, _, rfl, rfl⟩
theorem cvX10_154 : CVV RX10 154 mX10_lastBorn 1 10 := ⟨(wt5 69 rfl rfl), ⟨nvX10_lastBorn, (wt5 71 rfl rfl), (wp4 0 rfl rfl)⟩, _, rfl, rfl⟩
theorem cvX10_157 : CVV RX10 157 mX10_isParted 2 10 := ⟨(wt5 53 rfl rfl), ⟨nvX10_isParted, (wt5 55 rfl rfl), (wp3 12 rfl rfl)⟩, _, rfl, rfl⟩
theorem cvX10_160 : CVV RX10 160 mX10_isOutOfOrder 2 10 := ⟨(wt5 57 rfl rfl), ⟨nvX10_isOutOfOrder, (wt5 59 rfl rfl), (wp3 13 rfl rfl)⟩, _, rfl, rfl⟩
theorem cvX10_163 : CVV RX10 163 mX10_yearsOf 2 10 := ⟨(wt5 61 rfl rfl), ⟨nvX10_yearsOf, (wt5 63 rfl rfl), (wp3 14 rfl rfl)⟩, _, rfl, rfl⟩
theorem cvX10_166 : CVV RX10 166 mX10_likeness 2 10 := ⟨(wt5 42 rfl rfl), ⟨nvX10_likeness, (wt5 44 rfl rfl), (wp3 10 rfl rfl)⟩, _, rfl, rfl⟩
theorem cvX10_169 : CVV RX10 169 mX10_why 2 10 := ⟨(wt5 49 rfl rfl), ⟨nvX10_why, (wt5 51 rfl rfl), (wp3 11 rfl rfl)⟩, _, rfl, rfl⟩
theorem cvX10_172 : CVV RX10 172 mX10_isFit 2 10 := ⟨(wt5 77 rfl rfl), ⟨nvX10_isFit, (wt5 79 rfl rfl), (wp4 2 rfl rfl)⟩, _, rfl, rfl⟩
theorem cvX10_175 : CVV RX10 175 mX10_worthOf 2 10 := ⟨(wt5 73 rfl rfl), ⟨nvX10_worthOf, (wt5 75 rfl rfl), (wp4 1 rfl rfl)⟩, _, rfl, rfl⟩
theorem cvX10_178 : CVV RX10 178 mX10_isEntry 1 10 := ⟨(wt5 21 rfl rfl), ⟨nvX10_isEntry, (wt5 23 rfl rfl), (wp3 7 rfl rfl)⟩, _, rfl, rfl⟩
theorem cvX10_181 : CVV RX10 181 mX10_twoNow 3 10 := ⟨(wt5 25 rfl rfl), ⟨nvX10_twoNow, (wt5 27 rfl rfl), (wp3 8 rfl rfl)⟩, _, rfl, rfl⟩
theorem cvX10_185 : CVV RX10 185 mX10_fitsNow 1 10 := ⟨(wt5 85 rfl rfl), ⟨nvX10_fitsNow, (wt5 87 rfl rfl), (wp4 3 rfl rfl)⟩, _, rfl, rfl⟩
theorem cvX10_188 : CVV RX10 188 mX10_nearestNow 1 10 := ⟨(wt5 93 rfl rfl), ⟨nvX10_nearestNow, (wt5 95 rfl rfl), (wp4 4 rfl rfl)⟩, _, rfl, rfl⟩
theorem cvX10_197 : CVV RX10 197 mX10_bestWith 3 10 := ⟨(wt5 125 rfl rfl), ⟨nvX10_bestWith, (wt5 127 rfl rfl), (wp4 11 rfl rfl)⟩, _, rfl, rfl⟩
theorem cvX10_200 : CVV RX10 200 mX10_listKinds 0 10 := ⟨(wt5 117 rfl rfl), ⟨nvX10_listKinds, (wt5 119 rfl rfl), (wp4 9 rfl rfl)⟩, _, rfl, rfl⟩
theorem cvX10_203 : CVV RX10 203 mX10_layBest 0 10 := ⟨(wt5 121 rfl rfl), ⟨nvX10_layBest, (wt5 123 rfl rfl), (wp4 10 rfl rfl)⟩, _, rfl, rfl⟩
theorem cvX10_215 : CVV RX10 215 mX10_layPairs 0 10 := ⟨(wt5 113 rfl rfl), ⟨nvX10_layPairs, (wt5 115 rfl rfl), (wp4 8 rfl rfl)⟩, _, rfl, rfl⟩
theorem cvX10_218 : CVV RX10 218 mX10_beginLife 2 10 := ⟨(wt5 129 rfl rfl), ⟨nvX10_beginLife, (wt5 131 rfl rfl), (wp4 12 rfl rfl)⟩, _, rfl, rfl⟩
theorem cvX10_222 : CVV RX10 222 mX10_isOf 2 10 := ⟨(wt5 145 rfl rfl), ⟨nvX10_isOf, (wt5 147 rfl rfl), (wp5 0 rfl rfl)⟩, _, rfl, rfl⟩
theorem cvX10_225 : CVV RX10 225 mX10_canGo 2 10 := ⟨(wt5 141 rfl rfl), ⟨nvX10_canGo, (wt5 143 rfl rfl), (wp4 15 rfl rfl)⟩, _, rfl, rfl⟩
theorem cvX10_228 : CVV RX10 228 mX10_worthAt 2 10 := ⟨(wt5 149 rfl rfl), ⟨nvX10_worthAt, (wt5 151 rfl rfl), (wp5 1 rfl rfl)⟩, _, rfl, rfl⟩
theorem cvX10_231 : CVV RX10 231 mX10_layFirstLives 0 10 := ⟨(wt5 109 rfl rfl), ⟨nvX10_layFirstLives, (wt5 111 rfl rfl), (wp4 7 rfl rfl)⟩, _, rfl, rfl⟩
theorem cvX10_234 : CVV RX10 234 mX10_layWedding 1 10 := ⟨(wt5 133 rfl rfl), ⟨nvX10_layWedding, (wt5 135 rfl rfl), (wp4 13 rfl rfl)⟩, _, rfl, rfl⟩
theorem cvX10_238 : CVV RX10 238 mX10_bestLife 1 10 := ⟨(wt5 137 rfl rfl), ⟨nvX10_bestLife, (wt5 139 rfl rfl), (wp4 14 rfl rfl)⟩, _, rfl, rfl⟩
theorem cvX10_241 : CVV RX10 241 mX10_isInDoubt 2 10 := ⟨(wt5 153 rfl rfl), ⟨nvX10_isInDoubt, (wt5 155 rfl rfl), (wp5 2 rfl rfl)⟩, _, rfl, rfl⟩
theorem cvX10_244 : CVV RX10 244 mX10_isShaky 1 10 := ⟨(wt5 165 rfl rfl), ⟨nvX10_isShaky, (wt5 167 rfl rfl), (wp5 5 rfl rfl)⟩, _, rfl, rfl⟩
theorem cvX10_247 : CVV RX10 247 mX10_entriesOf 1 10 := ⟨(wt5 173 rfl rfl), ⟨nvX10_entriesOf, (wt5 175 rfl rfl), (wp5 7 rfl rfl)⟩, _, rfl, rfl⟩
theorem cvX10_250 : CVV RX10 250 mX10_layLives 0 10 := ⟨(wt5 105 rfl rfl), ⟨nvX10_layLives, (wt5 107 rfl rfl), (wp4 6 rfl rfl)⟩, _, rfl, rfl⟩
theorem cvX10_253 : CVV RX10 253 mX10_doubtful 0 10 := ⟨(wt5 157 rfl rfl), ⟨nvX10_doubtful, (wt5 159 rfl rfl), (wp5 3 rfl rfl)⟩, _, rfl, rfl⟩
theorem cvX10_256 : CVV RX10 256 mX10_shakyMany 0 10 := ⟨(wt5 161 rfl rfl), ⟨nvX10_shakyMany, (wt5 163 rfl rfl), (wp5 4 rfl rfl)⟩, _, rfl, rfl⟩
theorem cvX10_259 : CVV RX10 259 mX10_onlyMany 0 10 := ⟨(wt5 169 rfl rfl), ⟨nvX10_onlyMany, (wt5 171 rfl rfl), (wp5 6 rfl rfl)⟩, _, rfl, rfl⟩
theorem cvX10_262 : CVV RX10 262 mX10_livesNow 1 10 := ⟨(wt5 101 rfl rfl), ⟨nvX10_livesNow, (wt5 103 rfl rfl), (wp4 5 rfl rfl)⟩, _, rfl, rfl⟩
theorem cvX10_266 : CVV RX10 266 mX10_bornOf 2 10 := ⟨(wt5 185 rfl rfl), ⟨nvX10_bornOf, (wt5 187 rfl rfl), (wp5 9 rfl rfl)⟩, _, rfl, rfl⟩
theorem cvX10_270 : CVV RX10 270 mX10_lastYear 1 10 := ⟨(wt5 190 rfl rfl), ⟨nvX10_lastYear, (wt5 192 rfl rfl), (wp5 10 rfl rfl)⟩, _, rfl, rfl⟩
theorem cvX10_273 : CVV RX10 273 mX10_lifeNow 2 10 := ⟨(wt5 181 rfl rfl), ⟨nvX10_lifeNow, (wt5 183 rfl rfl), (wp5 8 rfl rfl)⟩, _, rfl, rfl⟩
theorem cvX10_276 : CVV RX10 276 mX10_weddingAt 2 10 := ⟨(wt5 198 rfl rfl), ⟨nvX10_weddingAt, (wt5 200 rfl rfl), (wp5 11 rfl rfl)⟩, _, rfl, rfl⟩
theorem cvX10_279 : CVV RX10 279 mX10_entryNow 2 10 := ⟨(wt5 218 rfl rfl), ⟨nvX10_entryNow, (wt5 220 rfl rfl), (wp5 13 rfl rfl)⟩, _, rfl, rfl⟩
theorem cvX10_282 : CVV RX10 282 mX10_entryTold 2 10 := ⟨(wt5 214 rfl rfl), ⟨nvX10_entryTold, (wt5 216 rfl rfl), (wp5 12 rfl rfl)⟩, _, rfl, rfl⟩
theorem cvX10_285 : CVS RX10 285 mX10_without 2 := ⟨(wt5 234 rfl rfl), nvX10_without, (wt5 235 rfl rfl)⟩
theorem cvX10_291 : CVV RX10 291 mX10_isAge 2 10 := ⟨(wt6 1 rfl rfl), ⟨nvX10_isAge, (wt6 3 rfl rfl), (wp5 14 rfl rfl)⟩, _, rfl, rfl⟩
theorem cvX10_294 : CVV RX10 294 mX10_partedMany 0 10 := ⟨(wt6 21 rfl rfl), ⟨nvX10_partedMany, (wt6 23 rfl rfl), (wp6 0 rfl rfl)⟩, _, rfl, rfl⟩
theorem cvX10_297 : CVV RX10 297 mX10_howMany 1 10 := ⟨(wt6 17 rfl rfl), ⟨nvX10_howMany, (wt6 19 rfl rfl), (wp5 15 rfl rfl)⟩, _, rfl, rfl⟩
theorem cvX10_306 : CVV RX10 306 mX10_mix 1 10 := ⟨(wt6 34 rfl rfl), ⟨nvX10_mix, (wt6 36 rfl rfl), (wp6 2 rfl rfl)⟩, _, rfl, rfl⟩
theorem cvX10_312 : CVV RX10 312 mX10_mixEntries 0 10 := ⟨(wt6 30 rfl rfl), ⟨nvX10_mixEntries, (wt6 32 rfl rfl), (wp6 1 rfl rfl)⟩, _, rfl, rfl⟩
theorem cvX10_315 : CVV RX10 315 mX10_mixLives 0 10 := ⟨(wt6 39 rfl rfl), ⟨nvX10_mixLives, (wt6 41 rfl rfl), (wp6 3 rfl rfl)⟩, _, rfl, rfl⟩
theorem cvX2_24 : CVNI RX2 24 mX1_init 0 := ⟨by decide +kernel, nvX1_init, (wt2 17 rfl rfl), by decide +kernel, rfl⟩
theorem cvX2_32 : CVV RX2 32 mX2_openByMatch 2 2 := ⟨(wt3 123 rfl rfl), ⟨nvX2_openByMatch, (wt3 125 rfl rfl), (wp2 0 rfl rfl)⟩, _, rfl, rfl⟩
theorem cvX2_39 : CVS RX2 39 mX2_isShaky 4 := ⟨(wt3 149 rfl rfl), nvX2_isShaky, (wt3 150 rfl rfl)⟩
theorem cvX2_59 : CVV RX2 59 mX2_layWedding 4 2 := ⟨(wt3 153 rfl rfl), ⟨nvX2_layWedding, (wt3 155 rfl rfl), (wp2 3 rfl rfl)⟩, _, rfl, rfl⟩
theorem cvX2_64 : CVV RX2 64 mX2_open 0 2 := ⟨(wt3 127 rfl rfl), ⟨nvX2_open, (wt3 129 rfl rfl), (wp2 1 rfl rfl)⟩, _, rfl, rfl⟩
theorem cvX2_68 : CVV RX2 68 mX2_add 3 2 := ⟨(wt3 135 rfl rfl), ⟨nvX2_add, (wt3 137 rfl rfl), (wp2 2 rfl rfl)⟩, _, rfl, rfl⟩
theorem cvX2_77 : CVV RX2 77 mX1_clear 0 1 := ⟨(wt3 131 rfl rfl), ⟨nvX1_clear, (wt3 132 rfl rfl), (wt3 133 rfl rfl)⟩, _, rfl, rfl⟩
theorem cvX2_80 : CVV RX2 80 mX2_has 1 2 := ⟨(wt3 139 rfl rfl), ⟨nvX2_has, (wt3 140 rfl rfl), (wt3 141 rfl rfl)⟩, _, rfl, rfl⟩
theorem cvX2_84 : CVV RX2 84 mX1_add 2 1 := ⟨(wt3 143 rfl rfl), ⟨nvX1_add, (wt3 144 rfl rfl), (wt3 145 rfl rfl)⟩, _, rfl, rfl⟩
theorem cvX2_99 : CVV RX2 99 mX6_fit 2 6 := ⟨(wt3 152 rfl rfl), ⟨nvX6_fit, (wt3 107 rfl rfl), (wt3 108 rfl rfl)⟩, _, rfl, rfl⟩
theorem cvX2_103 : CVS RX2 103 mX2_valueAt 3 := ⟨(wt3 157 rfl rfl), nvX2_valueAt, (wt3 158 rfl rfl)⟩
theorem cvX2_107 : CVV RX2 107 mX2_hasRival 2 2 := ⟨(wt3 173 rfl rfl), ⟨nvX2_hasRival, (wt3 175 rfl rfl), (wp2 4 rfl rfl)⟩, _, rfl, rfl⟩
theorem cvX2_110 : CVV RX2 110 mX1_weddings 0 1 := ⟨(wt3 160 rfl rfl), ⟨nvX1_weddings, (wt3 161 rfl rfl), (wt3 162 rfl rfl)⟩, _, rfl, rfl⟩
theorem cvX2_116 : CVV RX2 116 mX6_fitFirst 3 6 := ⟨(wt3 164 rfl rfl), ⟨nvX6_fitFirst, (wt3 165 rfl rfl), (wt3 166 rfl rfl)⟩, _, rfl, rfl⟩
theorem cvX2_123 : CVV RX2 123 mX6_meanWorth 3 6 := ⟨(wt3 169 rfl rfl), ⟨nvX6_meanWorth, (wt3 170 rfl rfl), (wt3 171 rfl rfl)⟩, _, rfl, rfl⟩
theorem cvX3_26 : CVV RX3 26 mX3_list 1 3 := ⟨(wt3 94 rfl rfl), ⟨nvX3_list, (wt3 96 rfl rfl), (wp1 11 rfl rfl)⟩, _, rfl, rfl⟩
theorem cvX3_37 : CVV RX3 37 mX3_bestFrom 3 3 := ⟨(wt3 98 rfl rfl), ⟨nvX3_bestFrom, (wt3 100 rfl rfl), (wp1 12 rfl rfl)⟩, _, rfl, rfl⟩
theorem cvX3_41 : CVV RX3 41 mX3_choose 1 3 := ⟨(wt3 115 rfl rfl), ⟨nvX3_choose, (wt3 117 rfl rfl), (wp1 15 rfl rfl)⟩, _, rfl, rfl⟩
theorem cvX3_59 : CVV RX3 59 mX3_isFree 4 3 := ⟨(wt3 102 rfl rfl), ⟨nvX3_isFree, (wt3 104 rfl rfl), (wp1 13 rfl rfl)⟩, _, rfl, rfl⟩
theorem cvX3_63 : CVV RX3 63 mX3_worthWith 4 3 := ⟨(wt3 110 rfl rfl), ⟨nvX3_worthWith, (wt3 112 rfl rfl), (wp1 14 rfl rfl)⟩, _, rfl, rfl⟩
theorem cvX3_73 : CVV RX3 73 mX6_fit 2 6 := ⟨(wt3 106 rfl rfl), ⟨nvX6_fit, (wt3 107 rfl rfl), (wt3 108 rfl rfl)⟩, _, rfl, rfl⟩
theorem cvX4_27 : CVS RX4 27 mX4_costOfMaking 2 := ⟨(wt2 216 rfl rfl), nvX4_costOfMaking, (wt2 217 rfl rfl)⟩
theorem cvX4_36 : CVS RX4 36 mX4_soundOf 1 := ⟨(wt2 219 rfl rfl), nvX4_soundOf, (wt2 220 rfl rfl)⟩
theorem cvX6_26 : CVV RX6 26 mX6_settleTwo 4 6 := ⟨(wt3 59 rfl rfl), ⟨nvX6_settleTwo, (wt3 61 rfl rfl), (wp1 10 rfl rfl)⟩, _, rfl, rfl⟩
theorem cvX6_30 : CVV RX6 30 mX6_fit 2 6 := ⟨(wt3 168 rfl rfl), ⟨nvX6_fit, (wt3 107 rfl rfl), (wt3 108 rfl rfl)⟩, _, rfl, rfl⟩
theorem cvX6_38 : CVS RX6 38 mX6_whyNot 3 := ⟨(wt3 63 rfl rfl), nvX6_whyNot, (wt3 64 rfl rfl)⟩
theorem cvX6_42 : CVV RX6 42 mX0_yearsWith 1 0 := ⟨(wt3 74 rfl rfl), ⟨nvX0_yearsWith, (wt3 75 rfl rfl), (wt3 76 rfl rfl)⟩, _, rfl, rfl⟩
theorem cvX6_48 : CVV RX6 48 mX0_likenessTo 1 0 := ⟨(wt3 82 rfl rfl), ⟨nvX0_likenessTo, (wt3 83 rfl rfl), (wt3 84 rfl rfl)⟩, _, rfl, rfl⟩
theorem cvX6_54 : CVV RX6 54 mX0_isPartedFrom 1 0 := ⟨(wt3 66 rfl rfl), ⟨nvX0_isPartedFrom, (wt3 67 rfl rfl), (wt3 68 rfl rfl)⟩, _, rfl, rfl⟩
theorem cvX6_58 : CVV RX6 58 mX0_isInWrongOrderWith 1 0 := ⟨(wt3 70 rfl rfl), ⟨nvX0_isInWrongOrderWith, (wt3 71 rfl rfl), (wt3 72 rfl rfl)⟩, _, rfl, rfl⟩
theorem cvX7_22 : CVV RX7 22 mX7_startEntry 0 7 := ⟨(wt2 144 rfl rfl), ⟨nvX7_startEntry, (wt2 146 rfl rfl), (wp1 0 rfl rfl)⟩, _, rfl, rfl⟩
theorem cvX7_28 : CVV RX7 28 mX7_takesKind 1 7 := ⟨(wt2 152 rfl rfl), ⟨nvX7_takesKind, (wt2 154 rfl rfl), (wp1 1 rfl rfl)⟩, _, rfl, rfl⟩
theorem cvX7_32 : CVV RX7 32 mX7_takesInName 1 7 := ⟨(wt2 156 rfl rfl), ⟨nvX7_takesInName, (wt2 158 rfl rfl), (wp1 2 rfl rfl)⟩, _, rfl, rfl⟩
theorem cvX7_35 : CVV RX7 35 mX7_takesFigureOfYear 1 7 := ⟨(wt2 160 rfl rfl), ⟨nvX7_takesFigureOfYear, (wt2 162 rfl rfl), (wp1 3 rfl rfl)⟩, _, rfl, rfl⟩
theorem cvX7_38 : CVV RX7 38 mX7_takesBehindYear 1 7 := ⟨(wt2 164 rfl rfl), ⟨nvX7_takesBehindYear, (wt2 166 rfl rfl), (wp1 4 rfl rfl)⟩, _, rfl, rfl⟩
theorem cvX7_41 : CVV RX7 41 mX7_takesInAge 1 7 := ⟨(wt2 168 rfl rfl), ⟨nvX7_takesInAge, (wt2 170 rfl rfl), (wp1 5 rfl rfl)⟩, _, rfl, rfl⟩
theorem cvX7_44 : CVV RX7 44 mX7_ageIsWhole 0 7 := ⟨(wt2 172 rfl rfl), ⟨nvX7_ageIsWhole, (wt2 174 rfl rfl), (wp1 6 rfl rfl)⟩, _, rfl, rfl⟩
theorem cvX7_66 : CVV RX7 66 mX7_ageGoesOnWith 1 7 := ⟨(wt2 182 rfl rfl), ⟨nvX7_ageGoesOnWith, (wt2 184 rfl rfl), (wp1 7 rfl rfl)⟩, _, rfl, rfl⟩
theorem cvX7_69 : CVN RX7 69 mX9_leastAge 1 := ⟨by decide +kernel, nvX9_leastAge, (wt2 180 rfl rfl)⟩
theorem cvX7_73 : CVN RX7 73 mX9_mayHaveAge 2 := ⟨by decide +kernel, nvX9_mayHaveAge, (wt2 177 rfl rfl)⟩
theorem cvX8_21 : CVI RX8 21 mX0_init 1 := ⟨(wt1 111 rfl rfl), nvX0_init, (wt1 112 rfl rfl), by decide +kernel, rfl⟩
theorem cvX8_34 : CVV RX8 34 mX0_read 2 0 := ⟨(wt2 208 rfl rfl), ⟨nvX0_read, (wt2 209 rfl rfl), (wt2 210 rfl rfl)⟩, _, rfl, rfl⟩
theorem cvX8_38 : CVV RX8 38 mX4_distance 2 4 := ⟨(wt2 212 rfl rfl), ⟨nvX4_distance, (wt2 213 rfl rfl), (wt2 214 rfl rfl)⟩, _, rfl, rfl⟩
theorem cvX8_59 : CVV RX8 59 mX0_isPartedFrom 1 0 := ⟨(wt3 214 rfl rfl), ⟨nvX0_isPartedFrom, (wt3 67 rfl rfl), (wt3 68 rfl rfl)⟩, _, rfl, rfl⟩
theorem cvX8_63 : CVS RX8 63 mJ6_bitCount_0f7a4 1 := ⟨(wt4 57 rfl rfl), nvJ6_bitCount_0f7a4, (wt4 58 rfl rfl)⟩
theorem cvX8_69 : CVV RX8 69 mX0_settleBorn 1 0 := ⟨(wt3 51 rfl rfl), ⟨nvX0_settleBorn, (wt3 52 rfl rfl), (wt3 53 rfl rfl)⟩, _, rfl, rfl⟩
theorem cvX9_9 : CVNI RX9 9 mX5_init 0 := ⟨by decide +kernel, nvX5_init, (wt1 29 rfl rfl), by decide +kernel, rfl⟩
theorem cvX9_18 : CVNI RX9 18 mX7_init 0 := ⟨by decide +kernel, nvX7_init, (wt1 47 rfl rfl), by decide +kernel, rfl⟩
theorem cvX9_25 : CVNI RX9 25 mX4_init 0 := ⟨by decide +kernel, nvX4_init, (wt1 92 rfl rfl), by decide +kernel, rfl⟩
theorem cvX9_32 : CVI RX9 32 mX8_init 0 := ⟨(wt1 104 rfl rfl), nvX8_init, (wt1 105 rfl rfl), by decide +kernel, rfl⟩
theorem cvX9_39 : CVNI RX9 39 mX6_init 0 := ⟨by decide +kernel, nvX6_init, (wt1 192 rfl rfl), by decide +kernel, rfl⟩
theorem cvX9_46 : CVNI RX9 46 mX3_init 0 := ⟨by decide +kernel, nvX3_init, (wt1 214 rfl rfl), by decide +kernel, rfl⟩
theorem cvX9_53 : CVI RX9 53 mX2_init 0 := ⟨(wt2 9 rfl rfl), nvX2_init, (wt2 10 rfl rfl), by decide +kernel, rfl⟩
theorem cvX9_75 : CVV RX9 75 mX5_put 1 5 := ⟨(wt2 128 rfl rfl), ⟨nvX5_put, (wt2 129 rfl rfl), (wt2 130 rfl rfl)⟩, _, rfl, rfl⟩
theorem cvX9_79 : CVV RX9 79 mX7_start 0 7 := ⟨(wt2 140 rfl rfl), ⟨nvX7_start, (wt2 141 rfl rfl), (wt2 142 rfl rfl)⟩, _, rfl, rfl⟩
theorem cvX9_86 : CVV RX9 86 mX7_takes 1 7 := ⟨(wt2 148 rfl rfl), ⟨nvX7_takes, (wt2 149 rfl rfl), (wt2 150 rfl rfl)⟩, _, rfl, rfl⟩
theorem cvX9_90 : CVV RX9 90 mX9_fault 0 9 := ⟨(wt2 191 rfl rfl), ⟨nvX9_fault, (wt2 137 rfl rfl), (wt2 138 rfl rfl)⟩, _, rfl, rfl⟩
theorem cvX9_94 : CVV RX9 94 mX7_isWhole 0 7 := ⟨(wt2 192 rfl rfl), ⟨nvX7_isWhole, (wt2 193 rfl rfl), (wt2 194 rfl rfl)⟩, _, rfl, rfl⟩
theorem cvX9_98 : CVV RX9 98 mX8_hasRoomFor 1 8 := ⟨(wt2 196 rfl rfl), ⟨nvX8_hasRoomFor, (wt2 197 rfl rfl), (wt2 198 rfl rfl)⟩, _, rfl, rfl⟩
theorem cvX9_105 : CVV RX9 105 mX9_addEntriesOfPage 0 9 := ⟨(wt2 200 rfl rfl), ⟨nvX9_addEntriesOfPage, (wt2 202 rfl rfl), (wp1 8 rfl rfl)⟩, _, rfl, rfl⟩
theorem cvX9_111 : CVV RX9 111 mX8_has 1 8 := ⟨(wt3 39 rfl rfl), ⟨nvX8_has, (wt3 40 rfl rfl), (wt3 41 rfl rfl)⟩, _, rfl, rfl⟩
theorem cvX9_114 : CVV RX9 114 mX9_settle 0 9 := ⟨(wt3 43 rfl rfl), ⟨nvX9_settle, (wt3 45 rfl rfl), (wp1 9 rfl rfl)⟩, _, rfl, rfl⟩
theorem cvX9_117 : CVV RX9 117 mX9_tellEntry 2 9 := ⟨(wt3 177 rfl rfl), ⟨nvX9_tellEntry, (wt3 179 rfl rfl), (wp2 5 rfl rfl)⟩, _, rfl, rfl⟩
theorem cvX9_139 : CVV RX9 139 mX8_remove 1 8 := ⟨(wt3 193 rfl rfl), ⟨nvX8_remove, (wt3 194 rfl rfl), (wt3 195 rfl rfl)⟩, _, rfl, rfl⟩
theorem cvX9_143 : CVS RX9 143 mX9_mayHaveAge 2 := ⟨(wt3 201 rfl rfl), nvX9_mayHaveAge, (wt2 177 rfl rfl)⟩
theorem cvX9_150 : CVV RX9 150 mX9_areTwo 2 9 := ⟨(wt3 206 rfl rfl), ⟨nvX9_areTwo, (wt3 208 rfl rfl), (wp2 6 rfl rfl)⟩, _, rfl, rfl⟩
theorem cvX9_153 : CVV RX9 153 mX8_turnParted 2 8 := ⟨(wt3 210 rfl rfl), ⟨nvX8_turnParted, (wt3 211 rfl rfl), (wt3 212 rfl rfl)⟩, _, rfl, rfl⟩
theorem cvX9_157 : CVV RX9 157 mX9_tellTwo 3 9 := ⟨(wt3 223 rfl rfl), ⟨nvX9_tellTwo, (wt3 225 rfl rfl), (wp2 7 rfl rfl)⟩, _, rfl, rfl⟩
theorem cvX9_161 : CVV RX9 161 mX6_countFitting 1 6 := ⟨(wt3 234 rfl rfl), ⟨nvX6_countFitting, (wt3 235 rfl rfl), (wt3 236 rfl rfl)⟩, _, rfl, rfl⟩
theorem cvX9_165 : CVV RX9 165 mX6_bestFor 1 6 := ⟨(wt4 2 rfl rfl), ⟨nvX6_bestFor, (wt4 3 rfl rfl), (wt4 4 rfl rfl)⟩, _, rfl, rfl⟩
theorem cvX9_168 : CVV RX9 168 mX9_tellLives 1 9 := ⟨(wt4 10 rfl rfl), ⟨nvX9_tellLives, (wt4 12 rfl rfl), (wp2 8 rfl rfl)⟩, _, rfl, rfl⟩
theorem cvX9_171 : CVV RX9 171 mX2_has 1 2 := ⟨(wt4 26 rfl rfl), ⟨nvX2_has, (wt3 140 rfl rfl), (wt3 141 rfl rfl)⟩, _, rfl, rfl⟩
theorem cvX9_176 : CVS RX9 176 mX9_tellLife 2 := ⟨(wt4 27 rfl rfl), nvX9_tellLife, (wt4 28 rfl rfl)⟩
theorem cvX9_180 : CVV RX9 180 mX1_weddings 0 1 := ⟨(wt4 30 rfl rfl), ⟨nvX1_weddings, (wt3 161 rfl rfl), (wt3 162 rfl rfl)⟩, _, rfl, rfl⟩
theorem cvX9_194 : CVV RX9 194 mX6_fitFirst 3 6 := ⟨(wt4 43 rfl rfl), ⟨nvX6_fitFirst, (wt3 165 rfl rfl), (wt3 166 rfl rfl)⟩, _, rfl, rfl⟩
theorem cvX9_198 : CVV RX9 198 mX6_meanWorth 3 6 := ⟨(wt4 44 rfl rfl), ⟨nvX6_meanWorth, (wt3 170 rfl rfl), (wt3 171 rfl rfl)⟩, _, rfl, rfl⟩
theorem cvX9_211 : CVV RX9 211 mX8_countParted 0 8 := ⟨(wt4 53 rfl rfl), ⟨nvX8_countParted, (wt4 54 rfl rfl), (wt4 55 rfl rfl)⟩, _, rfl, rfl⟩
theorem cvX9_216 : CVV RX9 216 mX9_mixEntries 1 9 := ⟨(wt4 68 rfl rfl), ⟨nvX9_mixEntries, (wt4 70 rfl rfl), (wp2 9 rfl rfl)⟩, _, rfl, rfl⟩
theorem cvX9_220 : CVV RX9 220 mX9_mixTwos 1 9 := ⟨(wt4 76 rfl rfl), ⟨nvX9_mixTwos, (wt4 78 rfl rfl), (wp2 10 rfl rfl)⟩, _, rfl, rfl⟩
theorem cvX9_223 : CVV RX9 223 mX9_mixLives 1 9 := ⟨(wt4 80 rfl rfl), ⟨nvX9_mixLives, (wt4 82 rfl rfl), (wp2 11 rfl rfl)⟩, _, rfl, rfl⟩
theorem cvX9_226 : CVS RX9 226 mX9_mixed 2 := ⟨(wt4 72 rfl rfl), nvX9_mixed, (wt4 73 rfl rfl)⟩
theorem cvX9_230 : CVV RX9 230 mX9_count 1 9 := ⟨(wt4 84 rfl rfl), ⟨nvX9_count, (wt4 50 rfl rfl), (wt4 51 rfl rfl)⟩, _, rfl, rfl⟩
theorem cvX9_233 : CVS RX9 233 mX9_leastAge 1 := ⟨(wt2 179 rfl rfl), nvX9_leastAge, (wt2 180 rfl rfl)⟩
theorem cvX9_236 : CVV RX9 236 mX8_add 3 8 := ⟨(wt2 204 rfl rfl), ⟨nvX8_add, (wt2 205 rfl rfl), (wt2 206 rfl rfl)⟩, _, rfl, rfl⟩
theorem cvX9_240 : CVV RX9 240 mX8_settleBorn 1 8 := ⟨(wt3 47 rfl rfl), ⟨nvX8_settleBorn, (wt3 48 rfl rfl), (wt3 49 rfl rfl)⟩, _, rfl, rfl⟩
theorem cvX9_243 : CVV RX9 243 mX6_settle 2 6 := ⟨(wt3 55 rfl rfl), ⟨nvX6_settle, (wt3 56 rfl rfl), (wt3 57 rfl rfl)⟩, _, rfl, rfl⟩
theorem cvX9_246 : CVV RX9 246 mX3_settle 2 3 := ⟨(wt3 90 rfl rfl), ⟨nvX3_settle, (wt3 91 rfl rfl), (wt3 92 rfl rfl)⟩, _, rfl, rfl⟩
theorem cvX9_249 : CVV RX9 249 mX2_settle 4 2 := ⟨(wt3 119 rfl rfl), ⟨nvX2_settle, (wt3 120 rfl rfl), (wt3 121 rfl rfl)⟩, _, rfl, rfl⟩
theorem cvX9_261 : CVV RX9 261 mX0_distanceTo 1 0 := ⟨(wt3 227 rfl rfl), ⟨nvX0_distanceTo, (wt3 87 rfl rfl), (wt3 88 rfl rfl)⟩, _, rfl, rfl⟩
theorem cvX9_265 : CVV RX9 265 mX0_likenessTo 1 0 := ⟨(wt3 228 rfl rfl), ⟨nvX0_likenessTo, (wt3 83 rfl rfl), (wt3 84 rfl rfl)⟩, _, rfl, rfl⟩
theorem cvX9_275 : CVV RX9 275 mX0_yearsWith 1 0 := ⟨(wt3 229 rfl rfl), ⟨nvX0_yearsWith, (wt3 75 rfl rfl), (wt3 76 rfl rfl)⟩, _, rfl, rfl⟩
theorem cvX9_286 : CVV RX9 286 mX2_countShaky 0 2 := ⟨(wt4 14 rfl rfl), ⟨nvX2_countShaky, (wt4 15 rfl rfl), (wt4 16 rfl rfl)⟩, _, rfl, rfl⟩
theorem cvX9_289 : CVV RX9 289 mX2_countSingle 0 2 := ⟨(wt4 18 rfl rfl), ⟨nvX2_countSingle, (wt4 19 rfl rfl), (wt4 20 rfl rfl)⟩, _, rfl, rfl⟩
theorem cvX9_298 : CVV RX9 298 mX1_isBorn 0 1 := ⟨(wt4 31 rfl rfl), ⟨nvX1_isBorn, (wt4 32 rfl rfl), (wt4 33 rfl rfl)⟩, _, rfl, rfl⟩
/-! each instruction -/
theorem dX0_init_0 : decode mX0_init.2.1 0 = .ok (.aload_n 0, 1) := by decide +kernel
theorem dX0_init_1 : decode mX0_init.2.1 1 = .ok (.invokespecial 3, 3) := by decide +kernel
theorem dX0_init_4 : decode mX0_init.2.1 4 = .ok (.aload_n 0, 1) := by decide +kernel
theorem dX0_init_5 : decode mX0_init.2.1 5 = .ok (.bipush 8, 2) := by decide +kernel
theorem dX0_init_7 : decode mX0_init.2.1 7 = .ok (.newarray .int, 2) := by decide +kernel
theorem dX0_init_9 : decode mX0_init.2.1 9 = .ok (.putfield 9, 3) := by decide +kernel
theorem dX0_init_12 : decode mX0_init.2.1 12 = .ok (.aload_n 0, 1) := by decide +kernel
theorem dX0_init_13 : decode mX0_init.2.1 13 = .ok (.bipush 18, 2) := by decide +kernel
theorem dX0_init_15 : decode mX0_init.2.1 15 = .ok (.newarray .int, 2) := by decide +kernel
theorem dX0_init_17 : decode mX0_init.2.1 17 = .ok (.putfield 15, 3) := by decide +kernel
theorem dX0_init_20 : decode mX0_init.2.1 20 = .ok (.aload_n 0, 1) := by decide +kernel
theorem dX0_init_21 : decode mX0_init.2.1 21 = .ok (.iload_n 1, 1) := by decide +kernel
theorem dX0_init_22 : decode mX0_init.2.1 22 = .ok (.putfield 18, 3) := by decide +kernel
theorem dX0_init_25 : decode mX0_init.2.1 25 = .ok (.return_, 1) := by decide +kernel
theorem dX0_read_0 : decode mX0_read.2.1 0 = .ok (.aload_n 0, 1) := by decide +kernel
theorem dX0_read_1 : decode mX0_read.2.1 1 = .ok (.aload_n 2, 1) := by decide +kernel
theorem dX0_read_2 : decode mX0_read.2.1 2 = .ok (.getfield 22, 3) := by decide +kernel
theorem dX0_read_5 : decode mX0_read.2.1 5 = .ok (.putfield 27, 3) := by decide +kernel
theorem dX0_read_8 : decode mX0_read.2.1 8 = .ok (.aload_n 0, 1) := by decide +kernel
theorem dX0_read_9 : decode mX0_read.2.1 9 = .ok (.aload_n 2, 1) := by decide +kernel
theorem dX0_read_10 : decode mX0_read.2.1 10 = .ok (.getfield 28, 3) := by decide +kernel
theorem dX0_read_13 : decode mX0_read.2.1 13 = .ok (.putfield 31, 3) := by decide +kernel
theorem dX0_read_16 : decode mX0_read.2.1 16 = .ok (.aload_n 0, 1) := by decide +kernel
theorem dX0_read_17 : decode mX0_read.2.1 17 = .ok (.aload_n 2, 1) := by decide +kernel
theorem dX0_read_18 : decode mX0_read.2.1 18 = .ok (.getfield 32, 3) := by decide +kernel
theorem dX0_read_21 : decode mX0_read.2.1 21 = .ok (.putfield 35, 3) := by decide +kernel
theorem dX0_read_24 : decode mX0_read.2.1 24 = .ok (.aload_n 0, 1) := by decide +kernel
theorem dX0_read_25 : decode mX0_read.2.1 25 = .ok (.iconst 0, 1) := by decide +kernel
theorem dX0_read_26 : decode mX0_read.2.1 26 = .ok (.putfield 36, 3) := by decide +kernel
theorem dX0_read_29 : decode mX0_read.2.1 29 = .ok (.aload_n 0, 1) := by decide +kernel
theorem dX0_read_30 : decode mX0_read.2.1 30 = .ok (.iconst 0, 1) := by decide +kernel
theorem dX0_read_31 : decode mX0_read.2.1 31 = .ok (.putfield 39, 3) := by decide +kernel
theorem dX0_read_34 : decode mX0_read.2.1 34 = .ok (.iconst 0, 1) := by decide +kernel
theorem dX0_read_35 : decode mX0_read.2.1 35 = .ok (.istore_n 3, 1) := by decide +kernel
theorem dX0_read_36 : decode mX0_read.2.1 36 = .ok (.iload_n 3, 1) := by decide +kernel
theorem dX0_read_37 : decode mX0_read.2.1 37 = .ok (.aload_n 2, 1) := by decide +kernel
theorem dX0_read_38 : decode mX0_read.2.1 38 = .ok (.getfield 42, 3) := by decide +kernel
theorem dX0_read_41 : decode mX0_read.2.1 41 = .ok (.if_icmp .ge 49, 3) := by decide +kernel
theorem dX0_read_44 : decode mX0_read.2.1 44 = .ok (.aload_n 2, 1) := by decide +kernel
theorem dX0_read_45 : decode mX0_read.2.1 45 = .ok (.getfield 45, 3) := by decide +kernel
theorem dX0_read_48 : decode mX0_read.2.1 48 = .ok (.iload_n 3, 1) := by decide +kernel
theorem dX0_read_49 : decode mX0_read.2.1 49 = .ok (.iadd, 1) := by decide +kernel
theorem dX0_read_50 : decode mX0_read.2.1 50 = .ok (.aload_n 1, 1) := by decide +kernel
theorem dX0_read_51 : decode mX0_read.2.1 51 = .ok (.getfield 48, 3) := by decide +kernel
theorem dX0_read_54 : decode mX0_read.2.1 54 = .ok (.if_icmp .ge 36, 3) := by decide +kernel
theorem dX0_read_57 : decode mX0_read.2.1 57 = .ok (.aload_n 0, 1) := by decide +kernel
theorem dX0_read_58 : decode mX0_read.2.1 58 = .ok (.getfield 9, 3) := by decide +kernel
theorem dX0_read_61 : decode mX0_read.2.1 61 = .ok (.iload_n 3, 1) := by decide +kernel
theorem dX0_read_62 : decode mX0_read.2.1 62 = .ok (.aload_n 1, 1) := by decide +kernel
theorem dX0_read_63 : decode mX0_read.2.1 63 = .ok (.getfield 53, 3) := by decide +kernel
theorem dX0_read_66 : decode mX0_read.2.1 66 = .ok (.aload_n 2, 1) := by decide +kernel
theorem dX0_read_67 : decode mX0_read.2.1 67 = .ok (.getfield 45, 3) := by decide +kernel
theorem dX0_read_70 : decode mX0_read.2.1 70 = .ok (.iload_n 3, 1) := by decide +kernel
theorem dX0_read_71 : decode mX0_read.2.1 71 = .ok (.iadd, 1) := by decide +kernel
theorem dX0_read_72 : decode mX0_read.2.1 72 = .ok (.iaload, 1) := by decide +kernel
theorem dX0_read_73 : decode mX0_read.2.1 73 = .ok (.iastore, 1) := by decide +kernel
theorem dX0_read_74 : decode mX0_read.2.1 74 = .ok (.aload_n 0, 1) := by decide +kernel
theorem dX0_read_75 : decode mX0_read.2.1 75 = .ok (.dup, 1) := by decide +kernel
theorem dX0_read_76 : decode mX0_read.2.1 76 = .ok (.getfield 39, 3) := by decide +kernel
theorem dX0_read_79 : decode mX0_read.2.1 79 = .ok (.iconst 1, 1) := by decide +kernel
theorem dX0_read_80 : decode mX0_read.2.1 80 = .ok (.iadd, 1) := by decide +kernel
theorem dX0_read_81 : decode mX0_read.2.1 81 = .ok (.putfield 39, 3) := by decide +kernel
theorem dX0_read_84 : decode mX0_read.2.1 84 = .ok (.iinc 3 1, 3) := by decide +kernel
theorem dX0_read_87 : decode mX0_read.2.1 87 = .ok (.goto (-51), 3) := by decide +kernel
theorem dX0_read_90 : decode mX0_read.2.1 90 = .ok (.return_, 1) := by decide +kernel
theorem dX0_settleBorn_0 : decode mX0_settleBorn.2.1 0 = .ok (.aload_n 0, 1) := by decide +kernel
theorem dX0_settleBorn_1 : decode mX0_settleBorn.2.1 1 = .ok (.getfield 27, 3) := by decide +kernel
theorem dX0_settleBorn_4 : decode mX0_settleBorn.2.1 4 = .ok (.ifCond .ne 22, 3) := by decide +kernel
theorem dX0_settleBorn_7 : decode mX0_settleBorn.2.1 7 = .ok (.aload_n 0, 1) := by decide +kernel
theorem dX0_settleBorn_8 : decode mX0_settleBorn.2.1 8 = .ok (.aload_n 0, 1) := by decide +kernel
theorem dX0_settleBorn_9 : decode mX0_settleBorn.2.1 9 = .ok (.getfield 31, 3) := by decide +kernel
theorem dX0_settleBorn_12 : decode mX0_settleBorn.2.1 12 = .ok (.putfield 56, 3) := by decide +kernel
theorem dX0_settleBorn_15 : decode mX0_settleBorn.2.1 15 = .ok (.aload_n 0, 1) := by decide +kernel
theorem dX0_settleBorn_16 : decode mX0_settleBorn.2.1 16 = .ok (.aload_n 0, 1) := by decide +kernel
theorem dX0_settleBorn_17 : decode mX0_settleBorn.2.1 17 = .ok (.getfield 31, 3) := by decide +kernel
theorem dX0_settleBorn_20 : decode mX0_settleBorn.2.1 20 = .ok (.putfield 59, 3) := by decide +kernel
theorem dX0_settleBorn_23 : decode mX0_settleBorn.2.1 23 = .ok (.goto 98, 3) := by decide +kernel
theorem dX0_settleBorn_26 : decode mX0_settleBorn.2.1 26 = .ok (.aload_n 0, 1) := by decide +kernel
theorem dX0_settleBorn_27 : decode mX0_settleBorn.2.1 27 = .ok (.getfield 35, 3) := by decide +kernel
theorem dX0_settleBorn_30 : decode mX0_settleBorn.2.1 30 = .ok (.iconst (-1), 1) := by decide +kernel
theorem dX0_settleBorn_31 : decode mX0_settleBorn.2.1 31 = .ok (.if_icmp .eq 38, 3) := by decide +kernel
theorem dX0_settleBorn_34 : decode mX0_settleBorn.2.1 34 = .ok (.aload_n 0, 1) := by decide +kernel
theorem dX0_settleBorn_35 : decode mX0_settleBorn.2.1 35 = .ok (.aload_n 0, 1) := by decide +kernel
theorem dX0_settleBorn_36 : decode mX0_settleBorn.2.1 36 = .ok (.getfield 31, 3) := by decide +kernel
theorem dX0_settleBorn_39 : decode mX0_settleBorn.2.1 39 = .ok (.aload_n 0, 1) := by decide +kernel
theorem dX0_settleBorn_40 : decode mX0_settleBorn.2.1 40 = .ok (.getfield 35, 3) := by decide +kernel
theorem dX0_settleBorn_43 : decode mX0_settleBorn.2.1 43 = .ok (.isub, 1) := by decide +kernel
theorem dX0_settleBorn_44 : decode mX0_settleBorn.2.1 44 = .ok (.iconst 1, 1) := by decide +kernel
theorem dX0_settleBorn_45 : decode mX0_settleBorn.2.1 45 = .ok (.isub, 1) := by decide +kernel
theorem dX0_settleBorn_46 : decode mX0_settleBorn.2.1 46 = .ok (.iload_n 1, 1) := by decide +kernel
theorem dX0_settleBorn_47 : decode mX0_settleBorn.2.1 47 = .ok (.isub, 1) := by decide +kernel
theorem dX0_settleBorn_48 : decode mX0_settleBorn.2.1 48 = .ok (.putfield 56, 3) := by decide +kernel
theorem dX0_settleBorn_51 : decode mX0_settleBorn.2.1 51 = .ok (.aload_n 0, 1) := by decide +kernel
theorem dX0_settleBorn_52 : decode mX0_settleBorn.2.1 52 = .ok (.aload_n 0, 1) := by decide +kernel
theorem dX0_settleBorn_53 : decode mX0_settleBorn.2.1 53 = .ok (.getfield 31, 3) := by decide +kernel
theorem dX0_settleBorn_56 : decode mX0_settleBorn.2.1 56 = .ok (.aload_n 0, 1) := by decide +kernel
theorem dX0_settleBorn_57 : decode mX0_settleBorn.2.1 57 = .ok (.getfield 35, 3) := by decide +kernel
theorem dX0_settleBorn_60 : decode mX0_settleBorn.2.1 60 = .ok (.isub, 1) := by decide +kernel
theorem dX0_settleBorn_61 : decode mX0_settleBorn.2.1 61 = .ok (.iload_n 1, 1) := by decide +kernel
theorem dX0_settleBorn_62 : decode mX0_settleBorn.2.1 62 = .ok (.iadd, 1) := by decide +kernel
theorem dX0_settleBorn_63 : decode mX0_settleBorn.2.1 63 = .ok (.putfield 59, 3) := by decide +kernel
theorem dX0_settleBorn_66 : decode mX0_settleBorn.2.1 66 = .ok (.goto 55, 3) := by decide +kernel
theorem dX0_settleBorn_69 : decode mX0_settleBorn.2.1 69 = .ok (.aload_n 0, 1) := by decide +kernel
theorem dX0_settleBorn_70 : decode mX0_settleBorn.2.1 70 = .ok (.getfield 27, 3) := by decide +kernel
theorem dX0_settleBorn_73 : decode mX0_settleBorn.2.1 73 = .ok (.iconst 1, 1) := by decide +kernel
theorem dX0_settleBorn_74 : decode mX0_settleBorn.2.1 74 = .ok (.if_icmp .ne 28, 3) := by decide +kernel
theorem dX0_settleBorn_77 : decode mX0_settleBorn.2.1 77 = .ok (.aload_n 0, 1) := by decide +kernel
theorem dX0_settleBorn_78 : decode mX0_settleBorn.2.1 78 = .ok (.aload_n 0, 1) := by decide +kernel
theorem dX0_settleBorn_79 : decode mX0_settleBorn.2.1 79 = .ok (.getfield 31, 3) := by decide +kernel
theorem dX0_settleBorn_82 : decode mX0_settleBorn.2.1 82 = .ok (.bipush 60, 2) := by decide +kernel
theorem dX0_settleBorn_84 : decode mX0_settleBorn.2.1 84 = .ok (.isub, 1) := by decide +kernel
theorem dX0_settleBorn_85 : decode mX0_settleBorn.2.1 85 = .ok (.putfield 56, 3) := by decide +kernel
theorem dX0_settleBorn_88 : decode mX0_settleBorn.2.1 88 = .ok (.aload_n 0, 1) := by decide +kernel
theorem dX0_settleBorn_89 : decode mX0_settleBorn.2.1 89 = .ok (.aload_n 0, 1) := by decide +kernel
theorem dX0_settleBorn_90 : decode mX0_settleBorn.2.1 90 = .ok (.getfield 31, 3) := by decide +kernel
theorem dX0_settleBorn_93 : decode mX0_settleBorn.2.1 93 = .ok (.bipush 14, 2) := by decide +kernel
theorem dX0_settleBorn_95 : decode mX0_settleBorn.2.1 95 = .ok (.isub, 1) := by decide +kernel
theorem dX0_settleBorn_96 : decode mX0_settleBorn.2.1 96 = .ok (.putfield 59, 3) := by decide +kernel
theorem dX0_settleBorn_99 : decode mX0_settleBorn.2.1 99 = .ok (.goto 22, 3) := by decide +kernel
theorem dX0_settleBorn_102 : decode mX0_settleBorn.2.1 102 = .ok (.aload_n 0, 1) := by decide +kernel
theorem dX0_settleBorn_103 : decode mX0_settleBorn.2.1 103 = .ok (.aload_n 0, 1) := by decide +kernel
theorem dX0_settleBorn_104 : decode mX0_settleBorn.2.1 104 = .ok (.getfield 31, 3) := by decide +kernel
theorem dX0_settleBorn_107 : decode mX0_settleBorn.2.1 107 = .ok (.bipush 100, 2) := by decide +kernel
theorem dX0_settleBorn_109 : decode mX0_settleBorn.2.1 109 = .ok (.isub, 1) := by decide +kernel
theorem dX0_settleBorn_110 : decode mX0_settleBorn.2.1 110 = .ok (.putfield 56, 3) := by decide +kernel
theorem dX0_settleBorn_113 : decode mX0_settleBorn.2.1 113 = .ok (.aload_n 0, 1) := by decide +kernel
theorem dX0_settleBorn_114 : decode mX0_settleBorn.2.1 114 = .ok (.aload_n 0, 1) := by decide +kernel
theorem dX0_settleBorn_115 : decode mX0_settleBorn.2.1 115 = .ok (.getfield 31, 3) := by decide +kernel
theorem dX0_settleBorn_118 : decode mX0_settleBorn.2.1 118 = .ok (.putfield 59, 3) := by decide +kernel
theorem dX0_settleBorn_121 : decode mX0_settleBorn.2.1 121 = .ok (.return_, 1) := by decide +kernel
theorem dX0_isPartedFrom_0 : decode mX0_isPartedFrom.2.1 0 = .ok (.aload_n 0, 1) := by decide +kernel
theorem dX0_isPartedFrom_1 : decode mX0_isPartedFrom.2.1 1 = .ok (.getfield 36, 3) := by decide +kernel
theorem dX0_isPartedFrom_4 : decode mX0_isPartedFrom.2.1 4 = .ok (.iconst 1, 1) := by decide +kernel
theorem dX0_isPartedFrom_5 : decode mX0_isPartedFrom.2.1 5 = .ok (.aload_n 1, 1) := by decide +kernel
theorem dX0_isPartedFrom_6 : decode mX0_isPartedFrom.2.1 6 = .ok (.getfield 18, 3) := by decide +kernel
theorem dX0_isPartedFrom_9 : decode mX0_isPartedFrom.2.1 9 = .ok (.ishl, 1) := by decide +kernel
theorem dX0_isPartedFrom_10 : decode mX0_isPartedFrom.2.1 10 = .ok (.iand, 1) := by decide +kernel
theorem dX0_isPartedFrom_11 : decode mX0_isPartedFrom.2.1 11 = .ok (.ifCond .eq 7, 3) := by decide +kernel
theorem dX0_isPartedFrom_14 : decode mX0_isPartedFrom.2.1 14 = .ok (.iconst 1, 1) := by decide +kernel
theorem dX0_isPartedFrom_15 : decode mX0_isPartedFrom.2.1 15 = .ok (.goto 4, 3) := by decide +kernel
theorem dX0_isPartedFrom_18 : decode mX0_isPartedFrom.2.1 18 = .ok (.iconst 0, 1) := by decide +kernel
theorem dX0_isPartedFrom_19 : decode mX0_isPartedFrom.2.1 19 = .ok (.ireturn, 1) := by decide +kernel
theorem dX0_distanceTo_0 : decode mX0_distanceTo.2.1 0 = .ok (.aload_n 0, 1) := by decide +kernel
theorem dX0_distanceTo_1 : decode mX0_distanceTo.2.1 1 = .ok (.getfield 15, 3) := by decide +kernel
theorem dX0_distanceTo_4 : decode mX0_distanceTo.2.1 4 = .ok (.aload_n 1, 1) := by decide +kernel
theorem dX0_distanceTo_5 : decode mX0_distanceTo.2.1 5 = .ok (.getfield 18, 3) := by decide +kernel
theorem dX0_distanceTo_8 : decode mX0_distanceTo.2.1 8 = .ok (.iaload, 1) := by decide +kernel
theorem dX0_distanceTo_9 : decode mX0_distanceTo.2.1 9 = .ok (.ireturn, 1) := by decide +kernel
theorem dX0_likenessTo_0 : decode mX0_likenessTo.2.1 0 = .ok (.iconst 1, 1) := by decide +kernel
theorem dX0_likenessTo_1 : decode mX0_likenessTo.2.1 1 = .ok (.aload_n 0, 1) := by decide +kernel
theorem dX0_likenessTo_2 : decode mX0_likenessTo.2.1 2 = .ok (.getfield 39, 3) := by decide +kernel
theorem dX0_likenessTo_5 : decode mX0_likenessTo.2.1 5 = .ok (.aload_n 1, 1) := by decide +kernel
theorem dX0_likenessTo_6 : decode mX0_likenessTo.2.1 6 = .ok (.getfield 39, 3) := by decide +kernel
theorem dX0_likenessTo_9 : decode mX0_likenessTo.2.1 9 = .ok (.invokestatic 62, 3) := by decide +kernel
theorem dX0_likenessTo_12 : decode mX0_likenessTo.2.1 12 = .ok (.invokestatic 62, 3) := by decide +kernel
theorem dX0_likenessTo_15 : decode mX0_likenessTo.2.1 15 = .ok (.istore_n 2, 1) := by decide +kernel
theorem dX0_likenessTo_16 : decode mX0_likenessTo.2.1 16 = .ok (.sipush 1000, 3) := by decide +kernel
theorem dX0_likenessTo_19 : decode mX0_likenessTo.2.1 19 = .ok (.sipush 1000, 3) := by decide +kernel
theorem dX0_likenessTo_22 : decode mX0_likenessTo.2.1 22 = .ok (.aload_n 0, 1) := by decide +kernel
theorem dX0_likenessTo_23 : decode mX0_likenessTo.2.1 23 = .ok (.aload_n 1, 1) := by decide +kernel
theorem dX0_likenessTo_24 : decode mX0_likenessTo.2.1 24 = .ok (.invokevirtual 68, 3) := by decide +kernel
theorem dX0_likenessTo_27 : decode mX0_likenessTo.2.1 27 = .ok (.imul, 1) := by decide +kernel
theorem dX0_likenessTo_28 : decode mX0_likenessTo.2.1 28 = .ok (.iconst 2, 1) := by decide +kernel
theorem dX0_likenessTo_29 : decode mX0_likenessTo.2.1 29 = .ok (.iload_n 2, 1) := by decide +kernel
theorem dX0_likenessTo_30 : decode mX0_likenessTo.2.1 30 = .ok (.imul, 1) := by decide +kernel
theorem dX0_likenessTo_31 : decode mX0_likenessTo.2.1 31 = .ok (.idiv, 1) := by decide +kernel
theorem dX0_likenessTo_32 : decode mX0_likenessTo.2.1 32 = .ok (.isub, 1) := by decide +kernel
theorem dX0_likenessTo_33 : decode mX0_likenessTo.2.1 33 = .ok (.ireturn, 1) := by decide +kernel
theorem dX0_yearsWith_0 : decode mX0_yearsWith.2.1 0 = .ok (.aload_n 0, 1) := by decide +kernel
theorem dX0_yearsWith_1 : decode mX0_yearsWith.2.1 1 = .ok (.getfield 56, 3) := by decide +kernel
theorem dX0_yearsWith_4 : decode mX0_yearsWith.2.1 4 = .ok (.aload_n 1, 1) := by decide +kernel
theorem dX0_yearsWith_5 : decode mX0_yearsWith.2.1 5 = .ok (.getfield 56, 3) := by decide +kernel
theorem dX0_yearsWith_8 : decode mX0_yearsWith.2.1 8 = .ok (.invokestatic 62, 3) := by decide +kernel
theorem dX0_yearsWith_11 : decode mX0_yearsWith.2.1 11 = .ok (.istore_n 2, 1) := by decide +kernel
theorem dX0_yearsWith_12 : decode mX0_yearsWith.2.1 12 = .ok (.aload_n 0, 1) := by decide +kernel
theorem dX0_yearsWith_13 : decode mX0_yearsWith.2.1 13 = .ok (.getfield 59, 3) := by decide +kernel
theorem dX0_yearsWith_16 : decode mX0_yearsWith.2.1 16 = .ok (.aload_n 1, 1) := by decide +kernel
theorem dX0_yearsWith_17 : decode mX0_yearsWith.2.1 17 = .ok (.getfield 59, 3) := by decide +kernel
theorem dX0_yearsWith_20 : decode mX0_yearsWith.2.1 20 = .ok (.invokestatic 72, 3) := by decide +kernel
theorem dX0_yearsWith_23 : decode mX0_yearsWith.2.1 23 = .ok (.istore_n 3, 1) := by decide +kernel
theorem dX0_yearsWith_24 : decode mX0_yearsWith.2.1 24 = .ok (.iconst 0, 1) := by decide +kernel
theorem dX0_yearsWith_25 : decode mX0_yearsWith.2.1 25 = .ok (.iload_n 3, 1) := by decide +kernel
theorem dX0_yearsWith_26 : decode mX0_yearsWith.2.1 26 = .ok (.iload_n 2, 1) := by decide +kernel
theorem dX0_yearsWith_27 : decode mX0_yearsWith.2.1 27 = .ok (.isub, 1) := by decide +kernel
theorem dX0_yearsWith_28 : decode mX0_yearsWith.2.1 28 = .ok (.iconst 1, 1) := by decide +kernel
theorem dX0_yearsWith_29 : decode mX0_yearsWith.2.1 29 = .ok (.iadd, 1) := by decide +kernel
theorem dX0_yearsWith_30 : decode mX0_yearsWith.2.1 30 = .ok (.invokestatic 62, 3) := by decide +kernel
theorem dX0_yearsWith_33 : decode mX0_yearsWith.2.1 33 = .ok (.ireturn, 1) := by decide +kernel
theorem dX0_isInWrongOrderWith_0 : decode mX0_isInWrongOrderWith.2.1 0 = .ok (.aload_n 0, 1) := by decide +kernel
theorem dX0_isInWrongOrderWith_1 : decode mX0_isInWrongOrderWith.2.1 1 = .ok (.getfield 27, 3) := by decide +kernel
theorem dX0_isInWrongOrderWith_4 : decode mX0_isInWrongOrderWith.2.1 4 = .ok (.ifCond .ne 14, 3) := by decide +kernel
theorem dX0_isInWrongOrderWith_7 : decode mX0_isInWrongOrderWith.2.1 7 = .ok (.aload_n 0, 1) := by decide +kernel
theorem dX0_isInWrongOrderWith_8 : decode mX0_isInWrongOrderWith.2.1 8 = .ok (.getfield 31, 3) := by decide +kernel
theorem dX0_isInWrongOrderWith_11 : decode mX0_isInWrongOrderWith.2.1 11 = .ok (.aload_n 1, 1) := by decide +kernel
theorem dX0_isInWrongOrderWith_12 : decode mX0_isInWrongOrderWith.2.1 12 = .ok (.getfield 31, 3) := by decide +kernel
theorem dX0_isInWrongOrderWith_15 : decode mX0_isInWrongOrderWith.2.1 15 = .ok (.if_icmp .gt 22, 3) := by decide +kernel
theorem dX0_isInWrongOrderWith_18 : decode mX0_isInWrongOrderWith.2.1 18 = .ok (.aload_n 0, 1) := by decide +kernel
theorem dX0_isInWrongOrderWith_19 : decode mX0_isInWrongOrderWith.2.1 19 = .ok (.getfield 27, 3) := by decide +kernel
theorem dX0_isInWrongOrderWith_22 : decode mX0_isInWrongOrderWith.2.1 22 = .ok (.iconst 2, 1) := by decide +kernel
theorem dX0_isInWrongOrderWith_23 : decode mX0_isInWrongOrderWith.2.1 23 = .ok (.if_icmp .ne 18, 3) := by decide +kernel
theorem dX0_isInWrongOrderWith_26 : decode mX0_isInWrongOrderWith.2.1 26 = .ok (.aload_n 0, 1) := by decide +kernel
theorem dX0_isInWrongOrderWith_27 : decode mX0_isInWrongOrderWith.2.1 27 = .ok (.getfield 31, 3) := by decide +kernel
theorem dX0_isInWrongOrderWith_30 : decode mX0_isInWrongOrderWith.2.1 30 = .ok (.aload_n 1, 1) := by decide +kernel
theorem dX0_isInWrongOrderWith_31 : decode mX0_isInWrongOrderWith.2.1 31 = .ok (.getfield 31, 3) := by decide +kernel
theorem dX0_isInWrongOrderWith_34 : decode mX0_isInWrongOrderWith.2.1 34 = .ok (.if_icmp .ge 7, 3) := by decide +kernel
theorem dX0_isInWrongOrderWith_37 : decode mX0_isInWrongOrderWith.2.1 37 = .ok (.iconst 1, 1) := by decide +kernel
theorem dX0_isInWrongOrderWith_38 : decode mX0_isInWrongOrderWith.2.1 38 = .ok (.goto 4, 3) := by decide +kernel
theorem dX0_isInWrongOrderWith_41 : decode mX0_isInWrongOrderWith.2.1 41 = .ok (.iconst 0, 1) := by decide +kernel
theorem dX0_isInWrongOrderWith_42 : decode mX0_isInWrongOrderWith.2.1 42 = .ok (.ireturn, 1) := by decide +kernel
theorem dX1_init_0 : decode mX1_init.2.1 0 = .ok (.aload_n 0, 1) := by decide +kernel
theorem dX1_init_1 : decode mX1_init.2.1 1 = .ok (.invokespecial 3, 3) := by decide +kernel
theorem dX1_init_4 : decode mX1_init.2.1 4 = .ok (.aload_n 0, 1) := by decide +kernel
theorem dX1_init_5 : decode mX1_init.2.1 5 = .ok (.iconst 5, 1) := by decide +kernel
theorem dX1_init_6 : decode mX1_init.2.1 6 = .ok (.newarray .int, 2) := by decide +kernel
theorem dX1_init_8 : decode mX1_init.2.1 8 = .ok (.putfield 9, 3) := by decide +kernel
theorem dX1_init_11 : decode mX1_init.2.1 11 = .ok (.return_, 1) := by decide +kernel
theorem dX1_clear_0 : decode mX1_clear.2.1 0 = .ok (.aload_n 0, 1) := by decide +kernel
theorem dX1_clear_1 : decode mX1_clear.2.1 1 = .ok (.iconst 0, 1) := by decide +kernel
theorem dX1_clear_2 : decode mX1_clear.2.1 2 = .ok (.putfield 15, 3) := by decide +kernel
theorem dX1_clear_5 : decode mX1_clear.2.1 5 = .ok (.aload_n 0, 1) := by decide +kernel
theorem dX1_clear_6 : decode mX1_clear.2.1 6 = .ok (.iconst 0, 1) := by decide +kernel
theorem dX1_clear_7 : decode mX1_clear.2.1 7 = .ok (.putfield 19, 3) := by decide +kernel
theorem dX1_clear_10 : decode mX1_clear.2.1 10 = .ok (.aload_n 0, 1) := by decide +kernel
theorem dX1_clear_11 : decode mX1_clear.2.1 11 = .ok (.iconst (-1), 1) := by decide +kernel
theorem dX1_clear_12 : decode mX1_clear.2.1 12 = .ok (.putfield 22, 3) := by decide +kernel
theorem dX1_clear_15 : decode mX1_clear.2.1 15 = .ok (.aload_n 0, 1) := by decide +kernel
theorem dX1_clear_16 : decode mX1_clear.2.1 16 = .ok (.iconst (-1), 1) := by decide +kernel
theorem dX1_clear_17 : decode mX1_clear.2.1 17 = .ok (.putfield 25, 3) := by decide +kernel
theorem dX1_clear_20 : decode mX1_clear.2.1 20 = .ok (.aload_n 0, 1) := by decide +kernel
theorem dX1_clear_21 : decode mX1_clear.2.1 21 = .ok (.iconst 0, 1) := by decide +kernel
theorem dX1_clear_22 : decode mX1_clear.2.1 22 = .ok (.putfield 28, 3) := by decide +kernel
theorem dX1_clear_25 : decode mX1_clear.2.1 25 = .ok (.return_, 1) := by decide +kernel
theorem dX1_weddings_0 : decode mX1_weddings.2.1 0 = .ok (.aload_n 0, 1) := by decide +kernel
theorem dX1_weddings_1 : decode mX1_weddings.2.1 1 = .ok (.getfield 15, 3) := by decide +kernel
theorem dX1_weddings_4 : decode mX1_weddings.2.1 4 = .ok (.aload_n 0, 1) := by decide +kernel
theorem dX1_weddings_5 : decode mX1_weddings.2.1 5 = .ok (.getfield 19, 3) := by decide +kernel
theorem dX1_weddings_8 : decode mX1_weddings.2.1 8 = .ok (.isub, 1) := by decide +kernel
theorem dX1_weddings_9 : decode mX1_weddings.2.1 9 = .ok (.ireturn, 1) := by decide +kernel
theorem dX1_isBorn_0 : decode mX1_isBorn.2.1 0 = .ok (.aload_n 0, 1) := by decide +kernel
theorem dX1_isBorn_1 : decode mX1_isBorn.2.1 1 = .ok (.getfield 32, 3) := by decide +kernel
theorem dX1_isBorn_4 : decode mX1_isBorn.2.1 4 = .ok (.aload_n 0, 1) := by decide +kernel
theorem dX1_isBorn_5 : decode mX1_isBorn.2.1 5 = .ok (.getfield 35, 3) := by decide +kernel
theorem dX1_isBorn_8 : decode mX1_isBorn.2.1 8 = .ok (.if_icmp .gt 7, 3) := by decide +kernel
theorem dX1_isBorn_11 : decode mX1_isBorn.2.1 11 = .ok (.iconst 1, 1) := by decide +kernel
theorem dX1_isBorn_12 : decode mX1_isBorn.2.1 12 = .ok (.goto 4, 3) := by decide +kernel
theorem dX1_isBorn_15 : decode mX1_isBorn.2.1 15 = .ok (.iconst 0, 1) := by decide +kernel
theorem dX1_isBorn_16 : decode mX1_isBorn.2.1 16 = .ok (.ireturn, 1) := by decide +kernel
theorem dX1_add_0 : decode mX1_add.2.1 0 = .ok (.aload_n 0, 1) := by decide +kernel
theorem dX1_add_1 : decode mX1_add.2.1 1 = .ok (.getfield 15, 3) := by decide +kernel
theorem dX1_add_4 : decode mX1_add.2.1 4 = .ok (.aload_n 0, 1) := by decide +kernel
theorem dX1_add_5 : decode mX1_add.2.1 5 = .ok (.getfield 9, 3) := by decide +kernel
theorem dX1_add_8 : decode mX1_add.2.1 8 = .ok (.arraylength, 1) := by decide +kernel
theorem dX1_add_9 : decode mX1_add.2.1 9 = .ok (.if_icmp .lt 4, 3) := by decide +kernel
theorem dX1_add_12 : decode mX1_add.2.1 12 = .ok (.return_, 1) := by decide +kernel
theorem dX1_add_13 : decode mX1_add.2.1 13 = .ok (.aload_n 0, 1) := by decide +kernel
theorem dX1_add_14 : decode mX1_add.2.1 14 = .ok (.aload_n 0, 1) := by decide +kernel
theorem dX1_add_15 : decode mX1_add.2.1 15 = .ok (.getfield 15, 3) := by decide +kernel
theorem dX1_add_18 : decode mX1_add.2.1 18 = .ok (.ifCond .ne 10, 3) := by decide +kernel
theorem dX1_add_21 : decode mX1_add.2.1 21 = .ok (.aload_n 2, 1) := by decide +kernel
theorem dX1_add_22 : decode mX1_add.2.1 22 = .ok (.getfield 38, 3) := by decide +kernel
theorem dX1_add_25 : decode mX1_add.2.1 25 = .ok (.goto 14, 3) := by decide +kernel
theorem dX1_add_28 : decode mX1_add.2.1 28 = .ok (.aload_n 0, 1) := by decide +kernel
theorem dX1_add_29 : decode mX1_add.2.1 29 = .ok (.getfield 32, 3) := by decide +kernel
theorem dX1_add_32 : decode mX1_add.2.1 32 = .ok (.aload_n 2, 1) := by decide +kernel
theorem dX1_add_33 : decode mX1_add.2.1 33 = .ok (.getfield 38, 3) := by decide +kernel
theorem dX1_add_36 : decode mX1_add.2.1 36 = .ok (.invokestatic 41, 3) := by decide +kernel
theorem dX1_add_39 : decode mX1_add.2.1 39 = .ok (.putfield 32, 3) := by decide +kernel
theorem dX1_add_42 : decode mX1_add.2.1 42 = .ok (.aload_n 0, 1) := by decide +kernel
theorem dX1_add_43 : decode mX1_add.2.1 43 = .ok (.aload_n 0, 1) := by decide +kernel
theorem dX1_add_44 : decode mX1_add.2.1 44 = .ok (.getfield 15, 3) := by decide +kernel
theorem dX1_add_47 : decode mX1_add.2.1 47 = .ok (.ifCond .ne 10, 3) := by decide +kernel
theorem dX1_add_50 : decode mX1_add.2.1 50 = .ok (.aload_n 2, 1) := by decide +kernel
theorem dX1_add_51 : decode mX1_add.2.1 51 = .ok (.getfield 47, 3) := by decide +kernel
theorem dX1_add_54 : decode mX1_add.2.1 54 = .ok (.goto 14, 3) := by decide +kernel
theorem dX1_add_57 : decode mX1_add.2.1 57 = .ok (.aload_n 0, 1) := by decide +kernel
theorem dX1_add_58 : decode mX1_add.2.1 58 = .ok (.getfield 35, 3) := by decide +kernel
theorem dX1_add_61 : decode mX1_add.2.1 61 = .ok (.aload_n 2, 1) := by decide +kernel
theorem dX1_add_62 : decode mX1_add.2.1 62 = .ok (.getfield 47, 3) := by decide +kernel
theorem dX1_add_65 : decode mX1_add.2.1 65 = .ok (.invokestatic 48, 3) := by decide +kernel
theorem dX1_add_68 : decode mX1_add.2.1 68 = .ok (.putfield 35, 3) := by decide +kernel
theorem dX1_add_71 : decode mX1_add.2.1 71 = .ok (.aload_n 0, 1) := by decide +kernel
theorem dX1_add_72 : decode mX1_add.2.1 72 = .ok (.aload_n 0, 1) := by decide +kernel
theorem dX1_add_73 : decode mX1_add.2.1 73 = .ok (.getfield 15, 3) := by decide +kernel
theorem dX1_add_76 : decode mX1_add.2.1 76 = .ok (.ifCond .ne 10, 3) := by decide +kernel
theorem dX1_add_79 : decode mX1_add.2.1 79 = .ok (.aload_n 2, 1) := by decide +kernel
theorem dX1_add_80 : decode mX1_add.2.1 80 = .ok (.getfield 51, 3) := by decide +kernel
theorem dX1_add_83 : decode mX1_add.2.1 83 = .ok (.goto 14, 3) := by decide +kernel
theorem dX1_add_86 : decode mX1_add.2.1 86 = .ok (.aload_n 0, 1) := by decide +kernel
theorem dX1_add_87 : decode mX1_add.2.1 87 = .ok (.getfield 54, 3) := by decide +kernel
theorem dX1_add_90 : decode mX1_add.2.1 90 = .ok (.aload_n 2, 1) := by decide +kernel
theorem dX1_add_91 : decode mX1_add.2.1 91 = .ok (.getfield 51, 3) := by decide +kernel
theorem dX1_add_94 : decode mX1_add.2.1 94 = .ok (.invokestatic 41, 3) := by decide +kernel
theorem dX1_add_97 : decode mX1_add.2.1 97 = .ok (.putfield 54, 3) := by decide +kernel
theorem dX1_add_100 : decode mX1_add.2.1 100 = .ok (.aload_n 0, 1) := by decide +kernel
theorem dX1_add_101 : decode mX1_add.2.1 101 = .ok (.getfield 9, 3) := by decide +kernel
theorem dX1_add_104 : decode mX1_add.2.1 104 = .ok (.aload_n 0, 1) := by decide +kernel
theorem dX1_add_105 : decode mX1_add.2.1 105 = .ok (.getfield 15, 3) := by decide +kernel
theorem dX1_add_108 : decode mX1_add.2.1 108 = .ok (.iload_n 1, 1) := by decide +kernel
theorem dX1_add_109 : decode mX1_add.2.1 109 = .ok (.iastore, 1) := by decide +kernel
theorem dX1_add_110 : decode mX1_add.2.1 110 = .ok (.aload_n 0, 1) := by decide +kernel
theorem dX1_add_111 : decode mX1_add.2.1 111 = .ok (.dup, 1) := by decide +kernel
theorem dX1_add_112 : decode mX1_add.2.1 112 = .ok (.getfield 15, 3) := by decide +kernel
theorem dX1_add_115 : decode mX1_add.2.1 115 = .ok (.iconst 1, 1) := by decide +kernel
theorem dX1_add_116 : decode mX1_add.2.1 116 = .ok (.iadd, 1) := by decide +kernel
theorem dX1_add_117 : decode mX1_add.2.1 117 = .ok (.putfield 15, 3) := by decide +kernel
theorem dX1_add_120 : decode mX1_add.2.1 120 = .ok (.aload_n 2, 1) := by decide +kernel
theorem dX1_add_121 : decode mX1_add.2.1 121 = .ok (.getfield 57, 3) := by decide +kernel
theorem dX1_add_124 : decode mX1_add.2.1 124 = .ok (.iconst 1, 1) := by decide +kernel
theorem dX1_add_125 : decode mX1_add.2.1 125 = .ok (.if_icmp .ne 4, 3) := by decide +kernel
theorem dX1_add_128 : decode mX1_add.2.1 128 = .ok (.return_, 1) := by decide +kernel
theorem dX1_add_129 : decode mX1_add.2.1 129 = .ok (.aload_n 0, 1) := by decide +kernel
theorem dX1_add_130 : decode mX1_add.2.1 130 = .ok (.dup, 1) := by decide +kernel
theorem dX1_add_131 : decode mX1_add.2.1 131 = .ok (.getfield 19, 3) := by decide +kernel
theorem dX1_add_134 : decode mX1_add.2.1 134 = .ok (.iconst 1, 1) := by decide +kernel
theorem dX1_add_135 : decode mX1_add.2.1 135 = .ok (.iadd, 1) := by decide +kernel
theorem dX1_add_136 : decode mX1_add.2.1 136 = .ok (.putfield 19, 3) := by decide +kernel
theorem dX1_add_139 : decode mX1_add.2.1 139 = .ok (.aload_n 2, 1) := by decide +kernel
theorem dX1_add_140 : decode mX1_add.2.1 140 = .ok (.getfield 57, 3) := by decide +kernel
theorem dX1_add_143 : decode mX1_add.2.1 143 = .ok (.ifCond .ne 11, 3) := by decide +kernel
theorem dX1_add_146 : decode mX1_add.2.1 146 = .ok (.aload_n 0, 1) := by decide +kernel
theorem dX1_add_147 : decode mX1_add.2.1 147 = .ok (.iload_n 1, 1) := by decide +kernel
theorem dX1_add_148 : decode mX1_add.2.1 148 = .ok (.putfield 22, 3) := by decide +kernel
theorem dX1_add_151 : decode mX1_add.2.1 151 = .ok (.goto 8, 3) := by decide +kernel
theorem dX1_add_154 : decode mX1_add.2.1 154 = .ok (.aload_n 0, 1) := by decide +kernel
theorem dX1_add_155 : decode mX1_add.2.1 155 = .ok (.iload_n 1, 1) := by decide +kernel
theorem dX1_add_156 : decode mX1_add.2.1 156 = .ok (.putfield 25, 3) := by decide +kernel
theorem dX1_add_159 : decode mX1_add.2.1 159 = .ok (.return_, 1) := by decide +kernel
theorem dX2_init_0 : decode mX2_init.2.1 0 = .ok (.aload_n 0, 1) := by decide +kernel
theorem dX2_init_1 : decode mX2_init.2.1 1 = .ok (.invokespecial 3, 3) := by decide +kernel
theorem dX2_init_4 : decode mX2_init.2.1 4 = .ok (.aload_n 0, 1) := by decide +kernel
theorem dX2_init_5 : decode mX2_init.2.1 5 = .ok (.bipush 18, 2) := by decide +kernel
theorem dX2_init_7 : decode mX2_init.2.1 7 = .ok (.anewarray 9, 3) := by decide +kernel
theorem dX2_init_10 : decode mX2_init.2.1 10 = .ok (.putfield 11, 3) := by decide +kernel
theorem dX2_init_13 : decode mX2_init.2.1 13 = .ok (.aload_n 0, 1) := by decide +kernel
theorem dX2_init_14 : decode mX2_init.2.1 14 = .ok (.bipush 18, 2) := by decide +kernel
theorem dX2_init_16 : decode mX2_init.2.1 16 = .ok (.newarray .int, 2) := by decide +kernel
theorem dX2_init_18 : decode mX2_init.2.1 18 = .ok (.putfield 17, 3) := by decide +kernel
theorem dX2_init_21 : decode mX2_init.2.1 21 = .ok (.aload_n 0, 1) := by decide +kernel
theorem dX2_init_22 : decode mX2_init.2.1 22 = .ok (.bipush 18, 2) := by decide +kernel
theorem dX2_init_24 : decode mX2_init.2.1 24 = .ok (.newarray .int, 2) := by decide +kernel
theorem dX2_init_26 : decode mX2_init.2.1 26 = .ok (.putfield 21, 3) := by decide +kernel
theorem dX2_init_29 : decode mX2_init.2.1 29 = .ok (.iconst 0, 1) := by decide +kernel
theorem dX2_init_30 : decode mX2_init.2.1 30 = .ok (.istore_n 1, 1) := by decide +kernel
theorem dX2_init_31 : decode mX2_init.2.1 31 = .ok (.iload_n 1, 1) := by decide +kernel
theorem dX2_init_32 : decode mX2_init.2.1 32 = .ok (.bipush 18, 2) := by decide +kernel
theorem dX2_init_34 : decode mX2_init.2.1 34 = .ok (.if_icmp .ge 22, 3) := by decide +kernel
theorem dX2_init_37 : decode mX2_init.2.1 37 = .ok (.aload_n 0, 1) := by decide +kernel
theorem dX2_init_38 : decode mX2_init.2.1 38 = .ok (.getfield 11, 3) := by decide +kernel
theorem dX2_init_41 : decode mX2_init.2.1 41 = .ok (.iload_n 1, 1) := by decide +kernel
theorem dX2_init_42 : decode mX2_init.2.1 42 = .ok (.new 9, 3) := by decide +kernel
theorem dX2_init_45 : decode mX2_init.2.1 45 = .ok (.dup, 1) := by decide +kernel
theorem dX2_init_46 : decode mX2_init.2.1 46 = .ok (.invokespecial 24, 3) := by decide +kernel
theorem dX2_init_49 : decode mX2_init.2.1 49 = .ok (.aastore, 1) := by decide +kernel
theorem dX2_init_50 : decode mX2_init.2.1 50 = .ok (.iinc 1 1, 3) := by decide +kernel
theorem dX2_init_53 : decode mX2_init.2.1 53 = .ok (.goto (-22), 3) := by decide +kernel
theorem dX2_init_56 : decode mX2_init.2.1 56 = .ok (.return_, 1) := by decide +kernel
theorem dX2_settle_0 : decode mX2_settle.2.1 0 = .ok (.aload_n 0, 1) := by decide +kernel
theorem dX2_settle_1 : decode mX2_settle.2.1 1 = .ok (.iconst 0, 1) := by decide +kernel
theorem dX2_settle_2 : decode mX2_settle.2.1 2 = .ok (.putfield 25, 3) := by decide +kernel
theorem dX2_settle_5 : decode mX2_settle.2.1 5 = .ok (.aload_n 0, 1) := by decide +kernel
theorem dX2_settle_6 : decode mX2_settle.2.1 6 = .ok (.iconst 0, 1) := by decide +kernel
theorem dX2_settle_7 : decode mX2_settle.2.1 7 = .ok (.putfield 29, 3) := by decide +kernel
theorem dX2_settle_10 : decode mX2_settle.2.1 10 = .ok (.aload_n 0, 1) := by decide +kernel
theorem dX2_settle_11 : decode mX2_settle.2.1 11 = .ok (.aload_n 1, 1) := by decide +kernel
theorem dX2_settle_12 : decode mX2_settle.2.1 12 = .ok (.aload_n 3, 1) := by decide +kernel
theorem dX2_settle_13 : decode mX2_settle.2.1 13 = .ok (.invokevirtual 32, 3) := by decide +kernel
theorem dX2_settle_16 : decode mX2_settle.2.1 16 = .ok (.aload_n 0, 1) := by decide +kernel
theorem dX2_settle_17 : decode mX2_settle.2.1 17 = .ok (.aload_n 0, 1) := by decide +kernel
theorem dX2_settle_18 : decode mX2_settle.2.1 18 = .ok (.getfield 25, 3) := by decide +kernel
theorem dX2_settle_21 : decode mX2_settle.2.1 21 = .ok (.putfield 36, 3) := by decide +kernel
theorem dX2_settle_24 : decode mX2_settle.2.1 24 = .ok (.iconst 0, 1) := by decide +kernel
theorem dX2_settle_25 : decode mX2_settle.2.1 25 = .ok (.istore 5, 2) := by decide +kernel
theorem dX2_settle_27 : decode mX2_settle.2.1 27 = .ok (.iload 5, 2) := by decide +kernel
theorem dX2_settle_29 : decode mX2_settle.2.1 29 = .ok (.aload_n 0, 1) := by decide +kernel
theorem dX2_settle_30 : decode mX2_settle.2.1 30 = .ok (.getfield 36, 3) := by decide +kernel
theorem dX2_settle_33 : decode mX2_settle.2.1 33 = .ok (.if_icmp .ge 33, 3) := by decide +kernel
theorem dX2_settle_36 : decode mX2_settle.2.1 36 = .ok (.aload_n 0, 1) := by decide +kernel
theorem dX2_settle_37 : decode mX2_settle.2.1 37 = .ok (.getfield 11, 3) := by decide +kernel
theorem dX2_settle_40 : decode mX2_settle.2.1 40 = .ok (.iload 5, 2) := by decide +kernel
theorem dX2_settle_42 : decode mX2_settle.2.1 42 = .ok (.aaload, 1) := by decide +kernel
theorem dX2_settle_43 : decode mX2_settle.2.1 43 = .ok (.aload_n 0, 1) := by decide +kernel
theorem dX2_settle_44 : decode mX2_settle.2.1 44 = .ok (.getfield 11, 3) := by decide +kernel
theorem dX2_settle_47 : decode mX2_settle.2.1 47 = .ok (.iload 5, 2) := by decide +kernel
theorem dX2_settle_49 : decode mX2_settle.2.1 49 = .ok (.aaload, 1) := by decide +kernel
theorem dX2_settle_50 : decode mX2_settle.2.1 50 = .ok (.aload_n 1, 1) := by decide +kernel
theorem dX2_settle_51 : decode mX2_settle.2.1 51 = .ok (.aload_n 2, 1) := by decide +kernel
theorem dX2_settle_52 : decode mX2_settle.2.1 52 = .ok (.iload 4, 2) := by decide +kernel
theorem dX2_settle_54 : decode mX2_settle.2.1 54 = .ok (.invokestatic 39, 3) := by decide +kernel
theorem dX2_settle_57 : decode mX2_settle.2.1 57 = .ok (.putfield 43, 3) := by decide +kernel
theorem dX2_settle_60 : decode mX2_settle.2.1 60 = .ok (.iinc 5 1, 3) := by decide +kernel
theorem dX2_settle_63 : decode mX2_settle.2.1 63 = .ok (.goto (-36), 3) := by decide +kernel
theorem dX2_settle_66 : decode mX2_settle.2.1 66 = .ok (.iconst 0, 1) := by decide +kernel
theorem dX2_settle_67 : decode mX2_settle.2.1 67 = .ok (.istore 5, 2) := by decide +kernel
theorem dX2_settle_69 : decode mX2_settle.2.1 69 = .ok (.iload 5, 2) := by decide +kernel
theorem dX2_settle_71 : decode mX2_settle.2.1 71 = .ok (.aload_n 1, 1) := by decide +kernel
theorem dX2_settle_72 : decode mX2_settle.2.1 72 = .ok (.getfield 47, 3) := by decide +kernel
theorem dX2_settle_75 : decode mX2_settle.2.1 75 = .ok (.if_icmp .ge 33, 3) := by decide +kernel
theorem dX2_settle_78 : decode mX2_settle.2.1 78 = .ok (.aload_n 1, 1) := by decide +kernel
theorem dX2_settle_79 : decode mX2_settle.2.1 79 = .ok (.getfield 50, 3) := by decide +kernel
theorem dX2_settle_82 : decode mX2_settle.2.1 82 = .ok (.iload 5, 2) := by decide +kernel
theorem dX2_settle_84 : decode mX2_settle.2.1 84 = .ok (.aaload, 1) := by decide +kernel
theorem dX2_settle_85 : decode mX2_settle.2.1 85 = .ok (.getfield 54, 3) := by decide +kernel
theorem dX2_settle_88 : decode mX2_settle.2.1 88 = .ok (.iconst 1, 1) := by decide +kernel
theorem dX2_settle_89 : decode mX2_settle.2.1 89 = .ok (.if_icmp .ne 13, 3) := by decide +kernel
theorem dX2_settle_92 : decode mX2_settle.2.1 92 = .ok (.aload_n 0, 1) := by decide +kernel
theorem dX2_settle_93 : decode mX2_settle.2.1 93 = .ok (.iload 5, 2) := by decide +kernel
theorem dX2_settle_95 : decode mX2_settle.2.1 95 = .ok (.aload_n 1, 1) := by decide +kernel
theorem dX2_settle_96 : decode mX2_settle.2.1 96 = .ok (.aload_n 2, 1) := by decide +kernel
theorem dX2_settle_97 : decode mX2_settle.2.1 97 = .ok (.iload 4, 2) := by decide +kernel
theorem dX2_settle_99 : decode mX2_settle.2.1 99 = .ok (.invokevirtual 59, 3) := by decide +kernel
theorem dX2_settle_102 : decode mX2_settle.2.1 102 = .ok (.iinc 5 1, 3) := by decide +kernel
theorem dX2_settle_105 : decode mX2_settle.2.1 105 = .ok (.goto (-36), 3) := by decide +kernel
theorem dX2_settle_108 : decode mX2_settle.2.1 108 = .ok (.return_, 1) := by decide +kernel
theorem dX2_has_0 : decode mX2_has.2.1 0 = .ok (.iload_n 1, 1) := by decide +kernel
theorem dX2_has_1 : decode mX2_has.2.1 1 = .ok (.ifCond .lt 15, 3) := by decide +kernel
theorem dX2_has_4 : decode mX2_has.2.1 4 = .ok (.iload_n 1, 1) := by decide +kernel
theorem dX2_has_5 : decode mX2_has.2.1 5 = .ok (.aload_n 0, 1) := by decide +kernel
theorem dX2_has_6 : decode mX2_has.2.1 6 = .ok (.getfield 25, 3) := by decide +kernel
theorem dX2_has_9 : decode mX2_has.2.1 9 = .ok (.if_icmp .ge 7, 3) := by decide +kernel
theorem dX2_has_12 : decode mX2_has.2.1 12 = .ok (.iconst 1, 1) := by decide +kernel
theorem dX2_has_13 : decode mX2_has.2.1 13 = .ok (.goto 4, 3) := by decide +kernel
theorem dX2_has_16 : decode mX2_has.2.1 16 = .ok (.iconst 0, 1) := by decide +kernel
theorem dX2_has_17 : decode mX2_has.2.1 17 = .ok (.ireturn, 1) := by decide +kernel
theorem dX2_countShaky_0 : decode mX2_countShaky.2.1 0 = .ok (.iconst 0, 1) := by decide +kernel
theorem dX2_countShaky_1 : decode mX2_countShaky.2.1 1 = .ok (.istore_n 1, 1) := by decide +kernel
theorem dX2_countShaky_2 : decode mX2_countShaky.2.1 2 = .ok (.iconst 0, 1) := by decide +kernel
theorem dX2_countShaky_3 : decode mX2_countShaky.2.1 3 = .ok (.istore_n 2, 1) := by decide +kernel
theorem dX2_countShaky_4 : decode mX2_countShaky.2.1 4 = .ok (.iload_n 2, 1) := by decide +kernel
theorem dX2_countShaky_5 : decode mX2_countShaky.2.1 5 = .ok (.aload_n 0, 1) := by decide +kernel
theorem dX2_countShaky_6 : decode mX2_countShaky.2.1 6 = .ok (.getfield 25, 3) := by decide +kernel
theorem dX2_countShaky_9 : decode mX2_countShaky.2.1 9 = .ok (.if_icmp .ge 29, 3) := by decide +kernel
theorem dX2_countShaky_12 : decode mX2_countShaky.2.1 12 = .ok (.iload_n 1, 1) := by decide +kernel
theorem dX2_countShaky_13 : decode mX2_countShaky.2.1 13 = .ok (.aload_n 0, 1) := by decide +kernel
theorem dX2_countShaky_14 : decode mX2_countShaky.2.1 14 = .ok (.getfield 11, 3) := by decide +kernel
theorem dX2_countShaky_17 : decode mX2_countShaky.2.1 17 = .ok (.iload_n 2, 1) := by decide +kernel
theorem dX2_countShaky_18 : decode mX2_countShaky.2.1 18 = .ok (.aaload, 1) := by decide +kernel
theorem dX2_countShaky_19 : decode mX2_countShaky.2.1 19 = .ok (.getfield 43, 3) := by decide +kernel
theorem dX2_countShaky_22 : decode mX2_countShaky.2.1 22 = .ok (.ifCond .eq 7, 3) := by decide +kernel
theorem dX2_countShaky_25 : decode mX2_countShaky.2.1 25 = .ok (.iconst 1, 1) := by decide +kernel
theorem dX2_countShaky_26 : decode mX2_countShaky.2.1 26 = .ok (.goto 4, 3) := by decide +kernel
theorem dX2_countShaky_29 : decode mX2_countShaky.2.1 29 = .ok (.iconst 0, 1) := by decide +kernel
theorem dX2_countShaky_30 : decode mX2_countShaky.2.1 30 = .ok (.iadd, 1) := by decide +kernel
theorem dX2_countShaky_31 : decode mX2_countShaky.2.1 31 = .ok (.istore_n 1, 1) := by decide +kernel
theorem dX2_countShaky_32 : decode mX2_countShaky.2.1 32 = .ok (.iinc 2 1, 3) := by decide +kernel
theorem dX2_countShaky_35 : decode mX2_countShaky.2.1 35 = .ok (.goto (-31), 3) := by decide +kernel
theorem dX2_countShaky_38 : decode mX2_countShaky.2.1 38 = .ok (.iload_n 1, 1) := by decide +kernel
theorem dX2_countShaky_39 : decode mX2_countShaky.2.1 39 = .ok (.ireturn, 1) := by decide +kernel
theorem dX2_countSingle_0 : decode mX2_countSingle.2.1 0 = .ok (.iconst 0, 1) := by decide +kernel
theorem dX2_countSingle_1 : decode mX2_countSingle.2.1 1 = .ok (.istore_n 1, 1) := by decide +kernel
theorem dX2_countSingle_2 : decode mX2_countSingle.2.1 2 = .ok (.iconst 0, 1) := by decide +kernel
theorem dX2_countSingle_3 : decode mX2_countSingle.2.1 3 = .ok (.istore_n 2, 1) := by decide +kernel
theorem dX2_countSingle_4 : decode mX2_countSingle.2.1 4 = .ok (.iload_n 2, 1) := by decide +kernel
theorem dX2_countSingle_5 : decode mX2_countSingle.2.1 5 = .ok (.aload_n 0, 1) := by decide +kernel
theorem dX2_countSingle_6 : decode mX2_countSingle.2.1 6 = .ok (.getfield 25, 3) := by decide +kernel
theorem dX2_countSingle_9 : decode mX2_countSingle.2.1 9 = .ok (.if_icmp .ge 30, 3) := by decide +kernel
theorem dX2_countSingle_12 : decode mX2_countSingle.2.1 12 = .ok (.iload_n 1, 1) := by decide +kernel
theorem dX2_countSingle_13 : decode mX2_countSingle.2.1 13 = .ok (.aload_n 0, 1) := by decide +kernel
theorem dX2_countSingle_14 : decode mX2_countSingle.2.1 14 = .ok (.getfield 11, 3) := by decide +kernel
theorem dX2_countSingle_17 : decode mX2_countSingle.2.1 17 = .ok (.iload_n 2, 1) := by decide +kernel
theorem dX2_countSingle_18 : decode mX2_countSingle.2.1 18 = .ok (.aaload, 1) := by decide +kernel
theorem dX2_countSingle_19 : decode mX2_countSingle.2.1 19 = .ok (.getfield 63, 3) := by decide +kernel
theorem dX2_countSingle_22 : decode mX2_countSingle.2.1 22 = .ok (.iconst 1, 1) := by decide +kernel
theorem dX2_countSingle_23 : decode mX2_countSingle.2.1 23 = .ok (.if_icmp .ne 7, 3) := by decide +kernel
theorem dX2_countSingle_26 : decode mX2_countSingle.2.1 26 = .ok (.iconst 1, 1) := by decide +kernel
theorem dX2_countSingle_27 : decode mX2_countSingle.2.1 27 = .ok (.goto 4, 3) := by decide +kernel
theorem dX2_countSingle_30 : decode mX2_countSingle.2.1 30 = .ok (.iconst 0, 1) := by decide +kernel
theorem dX2_countSingle_31 : decode mX2_countSingle.2.1 31 = .ok (.iadd, 1) := by decide +kernel
theorem dX2_countSingle_32 : decode mX2_countSingle.2.1 32 = .ok (.istore_n 1, 1) := by decide +kernel
theorem dX2_countSingle_33 : decode mX2_countSingle.2.1 33 = .ok (.iinc 2 1, 3) := by decide +kernel
theorem dX2_countSingle_36 : decode mX2_countSingle.2.1 36 = .ok (.goto (-32), 3) := by decide +kernel
theorem dX2_countSingle_39 : decode mX2_countSingle.2.1 39 = .ok (.iload_n 1, 1) := by decide +kernel
theorem dX2_countSingle_40 : decode mX2_countSingle.2.1 40 = .ok (.ireturn, 1) := by decide +kernel
theorem dX2_openByMatch_0 : decode mX2_openByMatch.2.1 0 = .ok (.iconst 0, 1) := by decide +kernel
theorem dX2_openByMatch_1 : decode mX2_openByMatch.2.1 1 = .ok (.istore_n 3, 1) := by decide +kernel
theorem dX2_openByMatch_2 : decode mX2_openByMatch.2.1 2 = .ok (.iload_n 3, 1) := by decide +kernel
theorem dX2_openByMatch_3 : decode mX2_openByMatch.2.1 3 = .ok (.aload_n 1, 1) := by decide +kernel
theorem dX2_openByMatch_4 : decode mX2_openByMatch.2.1 4 = .ok (.getfield 47, 3) := by decide +kernel
theorem dX2_openByMatch_7 : decode mX2_openByMatch.2.1 7 = .ok (.if_icmp .ge 58, 3) := by decide +kernel
theorem dX2_openByMatch_10 : decode mX2_openByMatch.2.1 10 = .ok (.aload_n 1, 1) := by decide +kernel
theorem dX2_openByMatch_11 : decode mX2_openByMatch.2.1 11 = .ok (.getfield 50, 3) := by decide +kernel
theorem dX2_openByMatch_14 : decode mX2_openByMatch.2.1 14 = .ok (.iload_n 3, 1) := by decide +kernel
theorem dX2_openByMatch_15 : decode mX2_openByMatch.2.1 15 = .ok (.aaload, 1) := by decide +kernel
theorem dX2_openByMatch_16 : decode mX2_openByMatch.2.1 16 = .ok (.getfield 54, 3) := by decide +kernel
theorem dX2_openByMatch_19 : decode mX2_openByMatch.2.1 19 = .ok (.ifCond .ne 40, 3) := by decide +kernel
theorem dX2_openByMatch_22 : decode mX2_openByMatch.2.1 22 = .ok (.aload_n 0, 1) := by decide +kernel
theorem dX2_openByMatch_23 : decode mX2_openByMatch.2.1 23 = .ok (.invokevirtual 64, 3) := by decide +kernel
theorem dX2_openByMatch_26 : decode mX2_openByMatch.2.1 26 = .ok (.istore 4, 2) := by decide +kernel
theorem dX2_openByMatch_28 : decode mX2_openByMatch.2.1 28 = .ok (.aload_n 0, 1) := by decide +kernel
theorem dX2_openByMatch_29 : decode mX2_openByMatch.2.1 29 = .ok (.iload_n 3, 1) := by decide +kernel
theorem dX2_openByMatch_30 : decode mX2_openByMatch.2.1 30 = .ok (.iload 4, 2) := by decide +kernel
theorem dX2_openByMatch_32 : decode mX2_openByMatch.2.1 32 = .ok (.aload_n 1, 1) := by decide +kernel
theorem dX2_openByMatch_33 : decode mX2_openByMatch.2.1 33 = .ok (.invokevirtual 68, 3) := by decide +kernel
theorem dX2_openByMatch_36 : decode mX2_openByMatch.2.1 36 = .ok (.aload_n 2, 1) := by decide +kernel
theorem dX2_openByMatch_37 : decode mX2_openByMatch.2.1 37 = .ok (.getfield 72, 3) := by decide +kernel
theorem dX2_openByMatch_40 : decode mX2_openByMatch.2.1 40 = .ok (.iload_n 3, 1) := by decide +kernel
theorem dX2_openByMatch_41 : decode mX2_openByMatch.2.1 41 = .ok (.iaload, 1) := by decide +kernel
theorem dX2_openByMatch_42 : decode mX2_openByMatch.2.1 42 = .ok (.istore 5, 2) := by decide +kernel
theorem dX2_openByMatch_44 : decode mX2_openByMatch.2.1 44 = .ok (.iload 5, 2) := by decide +kernel
theorem dX2_openByMatch_46 : decode mX2_openByMatch.2.1 46 = .ok (.iconst (-1), 1) := by decide +kernel
theorem dX2_openByMatch_47 : decode mX2_openByMatch.2.1 47 = .ok (.if_icmp .eq 12, 3) := by decide +kernel
theorem dX2_openByMatch_50 : decode mX2_openByMatch.2.1 50 = .ok (.aload_n 0, 1) := by decide +kernel
theorem dX2_openByMatch_51 : decode mX2_openByMatch.2.1 51 = .ok (.iload 5, 2) := by decide +kernel
theorem dX2_openByMatch_53 : decode mX2_openByMatch.2.1 53 = .ok (.iload 4, 2) := by decide +kernel
theorem dX2_openByMatch_55 : decode mX2_openByMatch.2.1 55 = .ok (.aload_n 1, 1) := by decide +kernel
theorem dX2_openByMatch_56 : decode mX2_openByMatch.2.1 56 = .ok (.invokevirtual 68, 3) := by decide +kernel
theorem dX2_openByMatch_59 : decode mX2_openByMatch.2.1 59 = .ok (.iinc 3 1, 3) := by decide +kernel
theorem dX2_openByMatch_62 : decode mX2_openByMatch.2.1 62 = .ok (.goto (-60), 3) := by decide +kernel
theorem dX2_openByMatch_65 : decode mX2_openByMatch.2.1 65 = .ok (.iconst 0, 1) := by decide +kernel
theorem dX2_openByMatch_66 : decode mX2_openByMatch.2.1 66 = .ok (.istore_n 3, 1) := by decide +kernel
theorem dX2_openByMatch_67 : decode mX2_openByMatch.2.1 67 = .ok (.iload_n 3, 1) := by decide +kernel
theorem dX2_openByMatch_68 : decode mX2_openByMatch.2.1 68 = .ok (.aload_n 1, 1) := by decide +kernel
theorem dX2_openByMatch_69 : decode mX2_openByMatch.2.1 69 = .ok (.getfield 47, 3) := by decide +kernel
theorem dX2_openByMatch_72 : decode mX2_openByMatch.2.1 72 = .ok (.if_icmp .ge 42, 3) := by decide +kernel
theorem dX2_openByMatch_75 : decode mX2_openByMatch.2.1 75 = .ok (.aload_n 1, 1) := by decide +kernel
theorem dX2_openByMatch_76 : decode mX2_openByMatch.2.1 76 = .ok (.getfield 50, 3) := by decide +kernel
theorem dX2_openByMatch_79 : decode mX2_openByMatch.2.1 79 = .ok (.iload_n 3, 1) := by decide +kernel
theorem dX2_openByMatch_80 : decode mX2_openByMatch.2.1 80 = .ok (.aaload, 1) := by decide +kernel
theorem dX2_openByMatch_81 : decode mX2_openByMatch.2.1 81 = .ok (.getfield 54, 3) := by decide +kernel
theorem dX2_openByMatch_84 : decode mX2_openByMatch.2.1 84 = .ok (.iconst 2, 1) := by decide +kernel
theorem dX2_openByMatch_85 : decode mX2_openByMatch.2.1 85 = .ok (.if_icmp .ne 23, 3) := by decide +kernel
theorem dX2_openByMatch_88 : decode mX2_openByMatch.2.1 88 = .ok (.aload_n 2, 1) := by decide +kernel
theorem dX2_openByMatch_89 : decode mX2_openByMatch.2.1 89 = .ok (.getfield 72, 3) := by decide +kernel
theorem dX2_openByMatch_92 : decode mX2_openByMatch.2.1 92 = .ok (.iload_n 3, 1) := by decide +kernel
theorem dX2_openByMatch_93 : decode mX2_openByMatch.2.1 93 = .ok (.iaload, 1) := by decide +kernel
theorem dX2_openByMatch_94 : decode mX2_openByMatch.2.1 94 = .ok (.iconst (-1), 1) := by decide +kernel
theorem dX2_openByMatch_95 : decode mX2_openByMatch.2.1 95 = .ok (.if_icmp .ne 13, 3) := by decide +kernel
theorem dX2_openByMatch_98 : decode mX2_openByMatch.2.1 98 = .ok (.aload_n 0, 1) := by decide +kernel
theorem dX2_openByMatch_99 : decode mX2_openByMatch.2.1 99 = .ok (.iload_n 3, 1) := by decide +kernel
theorem dX2_openByMatch_100 : decode mX2_openByMatch.2.1 100 = .ok (.aload_n 0, 1) := by decide +kernel
theorem dX2_openByMatch_101 : decode mX2_openByMatch.2.1 101 = .ok (.invokevirtual 64, 3) := by decide +kernel
theorem dX2_openByMatch_104 : decode mX2_openByMatch.2.1 104 = .ok (.aload_n 1, 1) := by decide +kernel
theorem dX2_openByMatch_105 : decode mX2_openByMatch.2.1 105 = .ok (.invokevirtual 68, 3) := by decide +kernel
theorem dX2_openByMatch_108 : decode mX2_openByMatch.2.1 108 = .ok (.iinc 3 1, 3) := by decide +kernel
theorem dX2_openByMatch_111 : decode mX2_openByMatch.2.1 111 = .ok (.goto (-44), 3) := by decide +kernel
theorem dX2_openByMatch_114 : decode mX2_openByMatch.2.1 114 = .ok (.return_, 1) := by decide +kernel
theorem dX2_open_0 : decode mX2_open.2.1 0 = .ok (.aload_n 0, 1) := by decide +kernel
theorem dX2_open_1 : decode mX2_open.2.1 1 = .ok (.getfield 25, 3) := by decide +kernel
theorem dX2_open_4 : decode mX2_open.2.1 4 = .ok (.bipush 18, 2) := by decide +kernel
theorem dX2_open_6 : decode mX2_open.2.1 6 = .ok (.if_icmp .ge 25, 3) := by decide +kernel
theorem dX2_open_9 : decode mX2_open.2.1 9 = .ok (.aload_n 0, 1) := by decide +kernel
theorem dX2_open_10 : decode mX2_open.2.1 10 = .ok (.getfield 11, 3) := by decide +kernel
theorem dX2_open_13 : decode mX2_open.2.1 13 = .ok (.aload_n 0, 1) := by decide +kernel
theorem dX2_open_14 : decode mX2_open.2.1 14 = .ok (.getfield 25, 3) := by decide +kernel
theorem dX2_open_17 : decode mX2_open.2.1 17 = .ok (.aaload, 1) := by decide +kernel
theorem dX2_open_18 : decode mX2_open.2.1 18 = .ok (.invokevirtual 77, 3) := by decide +kernel
theorem dX2_open_21 : decode mX2_open.2.1 21 = .ok (.aload_n 0, 1) := by decide +kernel
theorem dX2_open_22 : decode mX2_open.2.1 22 = .ok (.dup, 1) := by decide +kernel
theorem dX2_open_23 : decode mX2_open.2.1 23 = .ok (.getfield 25, 3) := by decide +kernel
theorem dX2_open_26 : decode mX2_open.2.1 26 = .ok (.iconst 1, 1) := by decide +kernel
theorem dX2_open_27 : decode mX2_open.2.1 27 = .ok (.iadd, 1) := by decide +kernel
theorem dX2_open_28 : decode mX2_open.2.1 28 = .ok (.putfield 25, 3) := by decide +kernel
theorem dX2_open_31 : decode mX2_open.2.1 31 = .ok (.aload_n 0, 1) := by decide +kernel
theorem dX2_open_32 : decode mX2_open.2.1 32 = .ok (.getfield 25, 3) := by decide +kernel
theorem dX2_open_35 : decode mX2_open.2.1 35 = .ok (.iconst 1, 1) := by decide +kernel
theorem dX2_open_36 : decode mX2_open.2.1 36 = .ok (.isub, 1) := by decide +kernel
theorem dX2_open_37 : decode mX2_open.2.1 37 = .ok (.ireturn, 1) := by decide +kernel
theorem dX2_add_0 : decode mX2_add.2.1 0 = .ok (.aload_n 0, 1) := by decide +kernel
theorem dX2_add_1 : decode mX2_add.2.1 1 = .ok (.iload_n 2, 1) := by decide +kernel
theorem dX2_add_2 : decode mX2_add.2.1 2 = .ok (.invokevirtual 80, 3) := by decide +kernel
theorem dX2_add_5 : decode mX2_add.2.1 5 = .ok (.ifCond .eq 26, 3) := by decide +kernel
theorem dX2_add_8 : decode mX2_add.2.1 8 = .ok (.aload_n 0, 1) := by decide +kernel
theorem dX2_add_9 : decode mX2_add.2.1 9 = .ok (.getfield 11, 3) := by decide +kernel
theorem dX2_add_12 : decode mX2_add.2.1 12 = .ok (.iload_n 2, 1) := by decide +kernel
theorem dX2_add_13 : decode mX2_add.2.1 13 = .ok (.aaload, 1) := by decide +kernel
theorem dX2_add_14 : decode mX2_add.2.1 14 = .ok (.iload_n 1, 1) := by decide +kernel
theorem dX2_add_15 : decode mX2_add.2.1 15 = .ok (.aload_n 3, 1) := by decide +kernel
theorem dX2_add_16 : decode mX2_add.2.1 16 = .ok (.getfield 50, 3) := by decide +kernel
theorem dX2_add_19 : decode mX2_add.2.1 19 = .ok (.iload_n 1, 1) := by decide +kernel
theorem dX2_add_20 : decode mX2_add.2.1 20 = .ok (.aaload, 1) := by decide +kernel
theorem dX2_add_21 : decode mX2_add.2.1 21 = .ok (.invokevirtual 84, 3) := by decide +kernel
theorem dX2_add_24 : decode mX2_add.2.1 24 = .ok (.aload_n 0, 1) := by decide +kernel
theorem dX2_add_25 : decode mX2_add.2.1 25 = .ok (.getfield 17, 3) := by decide +kernel
theorem dX2_add_28 : decode mX2_add.2.1 28 = .ok (.iload_n 1, 1) := by decide +kernel
theorem dX2_add_29 : decode mX2_add.2.1 29 = .ok (.iload_n 2, 1) := by decide +kernel
theorem dX2_add_30 : decode mX2_add.2.1 30 = .ok (.iastore, 1) := by decide +kernel
theorem dX2_add_31 : decode mX2_add.2.1 31 = .ok (.return_, 1) := by decide +kernel
theorem dX2_isShaky_0 : decode mX2_isShaky.2.1 0 = .ok (.aload_n 0, 1) := by decide +kernel
theorem dX2_isShaky_1 : decode mX2_isShaky.2.1 1 = .ok (.getfield 87, 3) := by decide +kernel
theorem dX2_isShaky_4 : decode mX2_isShaky.2.1 4 = .ok (.iconst (-1), 1) := by decide +kernel
theorem dX2_isShaky_5 : decode mX2_isShaky.2.1 5 = .ok (.if_icmp .eq 11, 3) := by decide +kernel
theorem dX2_isShaky_8 : decode mX2_isShaky.2.1 8 = .ok (.aload_n 0, 1) := by decide +kernel
theorem dX2_isShaky_9 : decode mX2_isShaky.2.1 9 = .ok (.getfield 90, 3) := by decide +kernel
theorem dX2_isShaky_12 : decode mX2_isShaky.2.1 12 = .ok (.iconst (-1), 1) := by decide +kernel
theorem dX2_isShaky_13 : decode mX2_isShaky.2.1 13 = .ok (.if_icmp .ne 5, 3) := by decide +kernel
theorem dX2_isShaky_16 : decode mX2_isShaky.2.1 16 = .ok (.iconst 0, 1) := by decide +kernel
theorem dX2_isShaky_17 : decode mX2_isShaky.2.1 17 = .ok (.ireturn, 1) := by decide +kernel
theorem dX2_isShaky_18 : decode mX2_isShaky.2.1 18 = .ok (.aload_n 2, 1) := by decide +kernel
theorem dX2_isShaky_19 : decode mX2_isShaky.2.1 19 = .ok (.getfield 93, 3) := by decide +kernel
theorem dX2_isShaky_22 : decode mX2_isShaky.2.1 22 = .ok (.aload_n 0, 1) := by decide +kernel
theorem dX2_isShaky_23 : decode mX2_isShaky.2.1 23 = .ok (.getfield 87, 3) := by decide +kernel
theorem dX2_isShaky_26 : decode mX2_isShaky.2.1 26 = .ok (.aaload, 1) := by decide +kernel
theorem dX2_isShaky_27 : decode mX2_isShaky.2.1 27 = .ok (.aload_n 0, 1) := by decide +kernel
theorem dX2_isShaky_28 : decode mX2_isShaky.2.1 28 = .ok (.getfield 90, 3) := by decide +kernel
theorem dX2_isShaky_31 : decode mX2_isShaky.2.1 31 = .ok (.iaload, 1) := by decide +kernel
theorem dX2_isShaky_32 : decode mX2_isShaky.2.1 32 = .ok (.istore 4, 2) := by decide +kernel
theorem dX2_isShaky_34 : decode mX2_isShaky.2.1 34 = .ok (.iconst 0, 1) := by decide +kernel
theorem dX2_isShaky_35 : decode mX2_isShaky.2.1 35 = .ok (.istore 5, 2) := by decide +kernel
theorem dX2_isShaky_37 : decode mX2_isShaky.2.1 37 = .ok (.iload 5, 2) := by decide +kernel
theorem dX2_isShaky_39 : decode mX2_isShaky.2.1 39 = .ok (.aload_n 1, 1) := by decide +kernel
theorem dX2_isShaky_40 : decode mX2_isShaky.2.1 40 = .ok (.getfield 47, 3) := by decide +kernel
theorem dX2_isShaky_43 : decode mX2_isShaky.2.1 43 = .ok (.if_icmp .ge 115, 3) := by decide +kernel
theorem dX2_isShaky_46 : decode mX2_isShaky.2.1 46 = .ok (.aload_n 1, 1) := by decide +kernel
theorem dX2_isShaky_47 : decode mX2_isShaky.2.1 47 = .ok (.getfield 50, 3) := by decide +kernel
theorem dX2_isShaky_50 : decode mX2_isShaky.2.1 50 = .ok (.iload 5, 2) := by decide +kernel
theorem dX2_isShaky_52 : decode mX2_isShaky.2.1 52 = .ok (.aaload, 1) := by decide +kernel
theorem dX2_isShaky_53 : decode mX2_isShaky.2.1 53 = .ok (.getfield 54, 3) := by decide +kernel
theorem dX2_isShaky_56 : decode mX2_isShaky.2.1 56 = .ok (.istore 6, 2) := by decide +kernel
theorem dX2_isShaky_58 : decode mX2_isShaky.2.1 58 = .ok (.iload 6, 2) := by decide +kernel
theorem dX2_isShaky_60 : decode mX2_isShaky.2.1 60 = .ok (.iconst 2, 1) := by decide +kernel
theorem dX2_isShaky_61 : decode mX2_isShaky.2.1 61 = .ok (.if_icmp .ne 10, 3) := by decide +kernel
theorem dX2_isShaky_64 : decode mX2_isShaky.2.1 64 = .ok (.aload_n 0, 1) := by decide +kernel
theorem dX2_isShaky_65 : decode mX2_isShaky.2.1 65 = .ok (.getfield 87, 3) := by decide +kernel
theorem dX2_isShaky_68 : decode mX2_isShaky.2.1 68 = .ok (.goto 16, 3) := by decide +kernel
theorem dX2_isShaky_71 : decode mX2_isShaky.2.1 71 = .ok (.iload 6, 2) := by decide +kernel
theorem dX2_isShaky_73 : decode mX2_isShaky.2.1 73 = .ok (.ifCond .ne 10, 3) := by decide +kernel
theorem dX2_isShaky_76 : decode mX2_isShaky.2.1 76 = .ok (.aload_n 0, 1) := by decide +kernel
theorem dX2_isShaky_77 : decode mX2_isShaky.2.1 77 = .ok (.getfield 90, 3) := by decide +kernel
theorem dX2_isShaky_80 : decode mX2_isShaky.2.1 80 = .ok (.goto 4, 3) := by decide +kernel
theorem dX2_isShaky_83 : decode mX2_isShaky.2.1 83 = .ok (.iconst (-1), 1) := by decide +kernel
theorem dX2_isShaky_84 : decode mX2_isShaky.2.1 84 = .ok (.istore 7, 2) := by decide +kernel
theorem dX2_isShaky_86 : decode mX2_isShaky.2.1 86 = .ok (.iload 7, 2) := by decide +kernel
theorem dX2_isShaky_88 : decode mX2_isShaky.2.1 88 = .ok (.iconst (-1), 1) := by decide +kernel
theorem dX2_isShaky_89 : decode mX2_isShaky.2.1 89 = .ok (.if_icmp .eq 25, 3) := by decide +kernel
theorem dX2_isShaky_92 : decode mX2_isShaky.2.1 92 = .ok (.iload 5, 2) := by decide +kernel
theorem dX2_isShaky_94 : decode mX2_isShaky.2.1 94 = .ok (.aload_n 0, 1) := by decide +kernel
theorem dX2_isShaky_95 : decode mX2_isShaky.2.1 95 = .ok (.getfield 87, 3) := by decide +kernel
theorem dX2_isShaky_98 : decode mX2_isShaky.2.1 98 = .ok (.if_icmp .eq 16, 3) := by decide +kernel
theorem dX2_isShaky_101 : decode mX2_isShaky.2.1 101 = .ok (.iload 5, 2) := by decide +kernel
theorem dX2_isShaky_103 : decode mX2_isShaky.2.1 103 = .ok (.aload_n 0, 1) := by decide +kernel
theorem dX2_isShaky_104 : decode mX2_isShaky.2.1 104 = .ok (.getfield 90, 3) := by decide +kernel
theorem dX2_isShaky_107 : decode mX2_isShaky.2.1 107 = .ok (.if_icmp .eq 7, 3) := by decide +kernel
theorem dX2_isShaky_110 : decode mX2_isShaky.2.1 110 = .ok (.iconst 1, 1) := by decide +kernel
theorem dX2_isShaky_111 : decode mX2_isShaky.2.1 111 = .ok (.goto 4, 3) := by decide +kernel
theorem dX2_isShaky_114 : decode mX2_isShaky.2.1 114 = .ok (.iconst 0, 1) := by decide +kernel
theorem dX2_isShaky_115 : decode mX2_isShaky.2.1 115 = .ok (.istore 8, 2) := by decide +kernel
theorem dX2_isShaky_117 : decode mX2_isShaky.2.1 117 = .ok (.iload 8, 2) := by decide +kernel
theorem dX2_isShaky_119 : decode mX2_isShaky.2.1 119 = .ok (.ifCond .eq 33, 3) := by decide +kernel
theorem dX2_isShaky_122 : decode mX2_isShaky.2.1 122 = .ok (.aload_n 2, 1) := by decide +kernel
theorem dX2_isShaky_123 : decode mX2_isShaky.2.1 123 = .ok (.iload 7, 2) := by decide +kernel
theorem dX2_isShaky_125 : decode mX2_isShaky.2.1 125 = .ok (.iload 5, 2) := by decide +kernel
theorem dX2_isShaky_127 : decode mX2_isShaky.2.1 127 = .ok (.invokevirtual 99, 3) := by decide +kernel
theorem dX2_isShaky_130 : decode mX2_isShaky.2.1 130 = .ok (.ifCond .eq 22, 3) := by decide +kernel
theorem dX2_isShaky_133 : decode mX2_isShaky.2.1 133 = .ok (.iload 4, 2) := by decide +kernel
theorem dX2_isShaky_135 : decode mX2_isShaky.2.1 135 = .ok (.aload_n 2, 1) := by decide +kernel
theorem dX2_isShaky_136 : decode mX2_isShaky.2.1 136 = .ok (.getfield 93, 3) := by decide +kernel
theorem dX2_isShaky_139 : decode mX2_isShaky.2.1 139 = .ok (.iload 7, 2) := by decide +kernel
theorem dX2_isShaky_141 : decode mX2_isShaky.2.1 141 = .ok (.aaload, 1) := by decide +kernel
theorem dX2_isShaky_142 : decode mX2_isShaky.2.1 142 = .ok (.iload 5, 2) := by decide +kernel
theorem dX2_isShaky_144 : decode mX2_isShaky.2.1 144 = .ok (.iaload, 1) := by decide +kernel
theorem dX2_isShaky_145 : decode mX2_isShaky.2.1 145 = .ok (.isub, 1) := by decide +kernel
theorem dX2_isShaky_146 : decode mX2_isShaky.2.1 146 = .ok (.iload_n 3, 1) := by decide +kernel
theorem dX2_isShaky_147 : decode mX2_isShaky.2.1 147 = .ok (.if_icmp .gt 5, 3) := by decide +kernel
theorem dX2_isShaky_150 : decode mX2_isShaky.2.1 150 = .ok (.iconst 1, 1) := by decide +kernel
theorem dX2_isShaky_151 : decode mX2_isShaky.2.1 151 = .ok (.ireturn, 1) := by decide +kernel
theorem dX2_isShaky_152 : decode mX2_isShaky.2.1 152 = .ok (.iinc 5 1, 3) := by decide +kernel
theorem dX2_isShaky_155 : decode mX2_isShaky.2.1 155 = .ok (.goto (-118), 3) := by decide +kernel
theorem dX2_isShaky_158 : decode mX2_isShaky.2.1 158 = .ok (.iconst 0, 1) := by decide +kernel
theorem dX2_isShaky_159 : decode mX2_isShaky.2.1 159 = .ok (.ireturn, 1) := by decide +kernel
theorem dX2_layWedding_0 : decode mX2_layWedding.2.1 0 = .ok (.iconst (-1), 1) := by decide +kernel
theorem dX2_layWedding_1 : decode mX2_layWedding.2.1 1 = .ok (.istore 5, 2) := by decide +kernel
theorem dX2_layWedding_3 : decode mX2_layWedding.2.1 3 = .ok (.iconst 0, 1) := by decide +kernel
theorem dX2_layWedding_4 : decode mX2_layWedding.2.1 4 = .ok (.istore 6, 2) := by decide +kernel
theorem dX2_layWedding_6 : decode mX2_layWedding.2.1 6 = .ok (.iload 6, 2) := by decide +kernel
theorem dX2_layWedding_8 : decode mX2_layWedding.2.1 8 = .ok (.aload_n 0, 1) := by decide +kernel
theorem dX2_layWedding_9 : decode mX2_layWedding.2.1 9 = .ok (.getfield 25, 3) := by decide +kernel
theorem dX2_layWedding_12 : decode mX2_layWedding.2.1 12 = .ok (.if_icmp .ge 66, 3) := by decide +kernel
theorem dX2_layWedding_15 : decode mX2_layWedding.2.1 15 = .ok (.aload_n 0, 1) := by decide +kernel
theorem dX2_layWedding_16 : decode mX2_layWedding.2.1 16 = .ok (.getfield 21, 3) := by decide +kernel
theorem dX2_layWedding_19 : decode mX2_layWedding.2.1 19 = .ok (.iload 6, 2) := by decide +kernel
theorem dX2_layWedding_21 : decode mX2_layWedding.2.1 21 = .ok (.iload_n 1, 1) := by decide +kernel
theorem dX2_layWedding_22 : decode mX2_layWedding.2.1 22 = .ok (.aload_n 0, 1) := by decide +kernel
theorem dX2_layWedding_23 : decode mX2_layWedding.2.1 23 = .ok (.getfield 11, 3) := by decide +kernel
theorem dX2_layWedding_26 : decode mX2_layWedding.2.1 26 = .ok (.iload 6, 2) := by decide +kernel
theorem dX2_layWedding_28 : decode mX2_layWedding.2.1 28 = .ok (.aaload, 1) := by decide +kernel
theorem dX2_layWedding_29 : decode mX2_layWedding.2.1 29 = .ok (.aload_n 3, 1) := by decide +kernel
theorem dX2_layWedding_30 : decode mX2_layWedding.2.1 30 = .ok (.invokestatic 103, 3) := by decide +kernel
theorem dX2_layWedding_33 : decode mX2_layWedding.2.1 33 = .ok (.iastore, 1) := by decide +kernel
theorem dX2_layWedding_34 : decode mX2_layWedding.2.1 34 = .ok (.aload_n 0, 1) := by decide +kernel
theorem dX2_layWedding_35 : decode mX2_layWedding.2.1 35 = .ok (.getfield 21, 3) := by decide +kernel
theorem dX2_layWedding_38 : decode mX2_layWedding.2.1 38 = .ok (.iload 6, 2) := by decide +kernel
theorem dX2_layWedding_40 : decode mX2_layWedding.2.1 40 = .ok (.iaload, 1) := by decide +kernel
theorem dX2_layWedding_41 : decode mX2_layWedding.2.1 41 = .ok (.iconst (-1), 1) := by decide +kernel
theorem dX2_layWedding_42 : decode mX2_layWedding.2.1 42 = .ok (.if_icmp .eq 30, 3) := by decide +kernel
theorem dX2_layWedding_45 : decode mX2_layWedding.2.1 45 = .ok (.iload 5, 2) := by decide +kernel
theorem dX2_layWedding_47 : decode mX2_layWedding.2.1 47 = .ok (.iconst (-1), 1) := by decide +kernel
theorem dX2_layWedding_48 : decode mX2_layWedding.2.1 48 = .ok (.if_icmp .eq 20, 3) := by decide +kernel
theorem dX2_layWedding_51 : decode mX2_layWedding.2.1 51 = .ok (.aload_n 0, 1) := by decide +kernel
theorem dX2_layWedding_52 : decode mX2_layWedding.2.1 52 = .ok (.getfield 21, 3) := by decide +kernel
theorem dX2_layWedding_55 : decode mX2_layWedding.2.1 55 = .ok (.iload 6, 2) := by decide +kernel
theorem dX2_layWedding_57 : decode mX2_layWedding.2.1 57 = .ok (.iaload, 1) := by decide +kernel
theorem dX2_layWedding_58 : decode mX2_layWedding.2.1 58 = .ok (.aload_n 0, 1) := by decide +kernel
theorem dX2_layWedding_59 : decode mX2_layWedding.2.1 59 = .ok (.getfield 21, 3) := by decide +kernel
theorem dX2_layWedding_62 : decode mX2_layWedding.2.1 62 = .ok (.iload 5, 2) := by decide +kernel
theorem dX2_layWedding_64 : decode mX2_layWedding.2.1 64 = .ok (.iaload, 1) := by decide +kernel
theorem dX2_layWedding_65 : decode mX2_layWedding.2.1 65 = .ok (.if_icmp .le 7, 3) := by decide +kernel
theorem dX2_layWedding_68 : decode mX2_layWedding.2.1 68 = .ok (.iload 6, 2) := by decide +kernel
theorem dX2_layWedding_70 : decode mX2_layWedding.2.1 70 = .ok (.istore 5, 2) := by decide +kernel
theorem dX2_layWedding_72 : decode mX2_layWedding.2.1 72 = .ok (.iinc 6 1, 3) := by decide +kernel
theorem dX2_layWedding_75 : decode mX2_layWedding.2.1 75 = .ok (.goto (-69), 3) := by decide +kernel
theorem dX2_layWedding_78 : decode mX2_layWedding.2.1 78 = .ok (.iload 5, 2) := by decide +kernel
theorem dX2_layWedding_80 : decode mX2_layWedding.2.1 80 = .ok (.iconst (-1), 1) := by decide +kernel
theorem dX2_layWedding_81 : decode mX2_layWedding.2.1 81 = .ok (.if_icmp .ne 16, 3) := by decide +kernel
theorem dX2_layWedding_84 : decode mX2_layWedding.2.1 84 = .ok (.aload_n 0, 1) := by decide +kernel
theorem dX2_layWedding_85 : decode mX2_layWedding.2.1 85 = .ok (.iload_n 1, 1) := by decide +kernel
theorem dX2_layWedding_86 : decode mX2_layWedding.2.1 86 = .ok (.aload_n 0, 1) := by decide +kernel
theorem dX2_layWedding_87 : decode mX2_layWedding.2.1 87 = .ok (.invokevirtual 64, 3) := by decide +kernel
theorem dX2_layWedding_90 : decode mX2_layWedding.2.1 90 = .ok (.aload_n 2, 1) := by decide +kernel
theorem dX2_layWedding_91 : decode mX2_layWedding.2.1 91 = .ok (.invokevirtual 68, 3) := by decide +kernel
theorem dX2_layWedding_94 : decode mX2_layWedding.2.1 94 = .ok (.goto 42, 3) := by decide +kernel
theorem dX2_layWedding_97 : decode mX2_layWedding.2.1 97 = .ok (.aload_n 0, 1) := by decide +kernel
theorem dX2_layWedding_98 : decode mX2_layWedding.2.1 98 = .ok (.iload 5, 2) := by decide +kernel
theorem dX2_layWedding_100 : decode mX2_layWedding.2.1 100 = .ok (.iload 4, 2) := by decide +kernel
theorem dX2_layWedding_102 : decode mX2_layWedding.2.1 102 = .ok (.invokevirtual 107, 3) := by decide +kernel
theorem dX2_layWedding_105 : decode mX2_layWedding.2.1 105 = .ok (.ifCond .eq 23, 3) := by decide +kernel
theorem dX2_layWedding_108 : decode mX2_layWedding.2.1 108 = .ok (.aload_n 0, 1) := by decide +kernel
theorem dX2_layWedding_109 : decode mX2_layWedding.2.1 109 = .ok (.getfield 17, 3) := by decide +kernel
theorem dX2_layWedding_112 : decode mX2_layWedding.2.1 112 = .ok (.iload_n 1, 1) := by decide +kernel
theorem dX2_layWedding_113 : decode mX2_layWedding.2.1 113 = .ok (.iconst (-1), 1) := by decide +kernel
theorem dX2_layWedding_114 : decode mX2_layWedding.2.1 114 = .ok (.iastore, 1) := by decide +kernel
theorem dX2_layWedding_115 : decode mX2_layWedding.2.1 115 = .ok (.aload_n 0, 1) := by decide +kernel
theorem dX2_layWedding_116 : decode mX2_layWedding.2.1 116 = .ok (.dup, 1) := by decide +kernel
theorem dX2_layWedding_117 : decode mX2_layWedding.2.1 117 = .ok (.getfield 29, 3) := by decide +kernel
theorem dX2_layWedding_120 : decode mX2_layWedding.2.1 120 = .ok (.iconst 1, 1) := by decide +kernel
theorem dX2_layWedding_121 : decode mX2_layWedding.2.1 121 = .ok (.iadd, 1) := by decide +kernel
theorem dX2_layWedding_122 : decode mX2_layWedding.2.1 122 = .ok (.putfield 29, 3) := by decide +kernel
theorem dX2_layWedding_125 : decode mX2_layWedding.2.1 125 = .ok (.goto 11, 3) := by decide +kernel
theorem dX2_layWedding_128 : decode mX2_layWedding.2.1 128 = .ok (.aload_n 0, 1) := by decide +kernel
theorem dX2_layWedding_129 : decode mX2_layWedding.2.1 129 = .ok (.iload_n 1, 1) := by decide +kernel
theorem dX2_layWedding_130 : decode mX2_layWedding.2.1 130 = .ok (.iload 5, 2) := by decide +kernel
theorem dX2_layWedding_132 : decode mX2_layWedding.2.1 132 = .ok (.aload_n 2, 1) := by decide +kernel
theorem dX2_layWedding_133 : decode mX2_layWedding.2.1 133 = .ok (.invokevirtual 68, 3) := by decide +kernel
theorem dX2_layWedding_136 : decode mX2_layWedding.2.1 136 = .ok (.return_, 1) := by decide +kernel
theorem dX2_valueAt_0 : decode mX2_valueAt.2.1 0 = .ok (.aload_n 1, 1) := by decide +kernel
theorem dX2_valueAt_1 : decode mX2_valueAt.2.1 1 = .ok (.invokevirtual 110, 3) := by decide +kernel
theorem dX2_valueAt_4 : decode mX2_valueAt.2.1 4 = .ok (.iconst 3, 1) := by decide +kernel
theorem dX2_valueAt_5 : decode mX2_valueAt.2.1 5 = .ok (.if_icmp .ge 19, 3) := by decide +kernel
theorem dX2_valueAt_8 : decode mX2_valueAt.2.1 8 = .ok (.aload_n 2, 1) := by decide +kernel
theorem dX2_valueAt_9 : decode mX2_valueAt.2.1 9 = .ok (.iload_n 0, 1) := by decide +kernel
theorem dX2_valueAt_10 : decode mX2_valueAt.2.1 10 = .ok (.aload_n 1, 1) := by decide +kernel
theorem dX2_valueAt_11 : decode mX2_valueAt.2.1 11 = .ok (.getfield 113, 3) := by decide +kernel
theorem dX2_valueAt_14 : decode mX2_valueAt.2.1 14 = .ok (.aload_n 1, 1) := by decide +kernel
theorem dX2_valueAt_15 : decode mX2_valueAt.2.1 15 = .ok (.getfield 63, 3) := by decide +kernel
theorem dX2_valueAt_18 : decode mX2_valueAt.2.1 18 = .ok (.invokevirtual 116, 3) := by decide +kernel
theorem dX2_valueAt_21 : decode mX2_valueAt.2.1 21 = .ok (.ifCond .ne 5, 3) := by decide +kernel
theorem dX2_valueAt_24 : decode mX2_valueAt.2.1 24 = .ok (.iconst (-1), 1) := by decide +kernel
theorem dX2_valueAt_25 : decode mX2_valueAt.2.1 25 = .ok (.ireturn, 1) := by decide +kernel
theorem dX2_valueAt_26 : decode mX2_valueAt.2.1 26 = .ok (.aload_n 2, 1) := by decide +kernel
theorem dX2_valueAt_27 : decode mX2_valueAt.2.1 27 = .ok (.iload_n 0, 1) := by decide +kernel
theorem dX2_valueAt_28 : decode mX2_valueAt.2.1 28 = .ok (.aload_n 1, 1) := by decide +kernel
theorem dX2_valueAt_29 : decode mX2_valueAt.2.1 29 = .ok (.getfield 113, 3) := by decide +kernel
theorem dX2_valueAt_32 : decode mX2_valueAt.2.1 32 = .ok (.aload_n 1, 1) := by decide +kernel
theorem dX2_valueAt_33 : decode mX2_valueAt.2.1 33 = .ok (.getfield 120, 3) := by decide +kernel
theorem dX2_valueAt_36 : decode mX2_valueAt.2.1 36 = .ok (.ifCond .le 10, 3) := by decide +kernel
theorem dX2_valueAt_39 : decode mX2_valueAt.2.1 39 = .ok (.aload_n 1, 1) := by decide +kernel
theorem dX2_valueAt_40 : decode mX2_valueAt.2.1 40 = .ok (.getfield 120, 3) := by decide +kernel
theorem dX2_valueAt_43 : decode mX2_valueAt.2.1 43 = .ok (.goto 7, 3) := by decide +kernel
theorem dX2_valueAt_46 : decode mX2_valueAt.2.1 46 = .ok (.aload_n 1, 1) := by decide +kernel
theorem dX2_valueAt_47 : decode mX2_valueAt.2.1 47 = .ok (.getfield 63, 3) := by decide +kernel
theorem dX2_valueAt_50 : decode mX2_valueAt.2.1 50 = .ok (.invokevirtual 123, 3) := by decide +kernel
theorem dX2_valueAt_53 : decode mX2_valueAt.2.1 53 = .ok (.ireturn, 1) := by decide +kernel
theorem dX2_hasRival_0 : decode mX2_hasRival.2.1 0 = .ok (.iconst 0, 1) := by decide +kernel
theorem dX2_hasRival_1 : decode mX2_hasRival.2.1 1 = .ok (.istore_n 3, 1) := by decide +kernel
theorem dX2_hasRival_2 : decode mX2_hasRival.2.1 2 = .ok (.iload_n 3, 1) := by decide +kernel
theorem dX2_hasRival_3 : decode mX2_hasRival.2.1 3 = .ok (.aload_n 0, 1) := by decide +kernel
theorem dX2_hasRival_4 : decode mX2_hasRival.2.1 4 = .ok (.getfield 25, 3) := by decide +kernel
theorem dX2_hasRival_7 : decode mX2_hasRival.2.1 7 = .ok (.if_icmp .ge 43, 3) := by decide +kernel
theorem dX2_hasRival_10 : decode mX2_hasRival.2.1 10 = .ok (.iload_n 3, 1) := by decide +kernel
theorem dX2_hasRival_11 : decode mX2_hasRival.2.1 11 = .ok (.iload_n 1, 1) := by decide +kernel
theorem dX2_hasRival_12 : decode mX2_hasRival.2.1 12 = .ok (.if_icmp .eq 32, 3) := by decide +kernel
theorem dX2_hasRival_15 : decode mX2_hasRival.2.1 15 = .ok (.aload_n 0, 1) := by decide +kernel
theorem dX2_hasRival_16 : decode mX2_hasRival.2.1 16 = .ok (.getfield 21, 3) := by decide +kernel
theorem dX2_hasRival_19 : decode mX2_hasRival.2.1 19 = .ok (.iload_n 3, 1) := by decide +kernel
theorem dX2_hasRival_20 : decode mX2_hasRival.2.1 20 = .ok (.iaload, 1) := by decide +kernel
theorem dX2_hasRival_21 : decode mX2_hasRival.2.1 21 = .ok (.iconst (-1), 1) := by decide +kernel
theorem dX2_hasRival_22 : decode mX2_hasRival.2.1 22 = .ok (.if_icmp .eq 22, 3) := by decide +kernel
theorem dX2_hasRival_25 : decode mX2_hasRival.2.1 25 = .ok (.aload_n 0, 1) := by decide +kernel
theorem dX2_hasRival_26 : decode mX2_hasRival.2.1 26 = .ok (.getfield 21, 3) := by decide +kernel
theorem dX2_hasRival_29 : decode mX2_hasRival.2.1 29 = .ok (.iload_n 1, 1) := by decide +kernel
theorem dX2_hasRival_30 : decode mX2_hasRival.2.1 30 = .ok (.iaload, 1) := by decide +kernel
theorem dX2_hasRival_31 : decode mX2_hasRival.2.1 31 = .ok (.aload_n 0, 1) := by decide +kernel
theorem dX2_hasRival_32 : decode mX2_hasRival.2.1 32 = .ok (.getfield 21, 3) := by decide +kernel
theorem dX2_hasRival_35 : decode mX2_hasRival.2.1 35 = .ok (.iload_n 3, 1) := by decide +kernel
theorem dX2_hasRival_36 : decode mX2_hasRival.2.1 36 = .ok (.iaload, 1) := by decide +kernel
theorem dX2_hasRival_37 : decode mX2_hasRival.2.1 37 = .ok (.isub, 1) := by decide +kernel
theorem dX2_hasRival_38 : decode mX2_hasRival.2.1 38 = .ok (.iload_n 2, 1) := by decide +kernel
theorem dX2_hasRival_39 : decode mX2_hasRival.2.1 39 = .ok (.if_icmp .gt 5, 3) := by decide +kernel
theorem dX2_hasRival_42 : decode mX2_hasRival.2.1 42 = .ok (.iconst 1, 1) := by decide +kernel
theorem dX2_hasRival_43 : decode mX2_hasRival.2.1 43 = .ok (.ireturn, 1) := by decide +kernel
theorem dX2_hasRival_44 : decode mX2_hasRival.2.1 44 = .ok (.iinc 3 1, 3) := by decide +kernel
theorem dX2_hasRival_47 : decode mX2_hasRival.2.1 47 = .ok (.goto (-45), 3) := by decide +kernel
theorem dX2_hasRival_50 : decode mX2_hasRival.2.1 50 = .ok (.iconst 0, 1) := by decide +kernel
theorem dX2_hasRival_51 : decode mX2_hasRival.2.1 51 = .ok (.ireturn, 1) := by decide +kernel
theorem dX3_init_0 : decode mX3_init.2.1 0 = .ok (.aload_n 0, 1) := by decide +kernel
theorem dX3_init_1 : decode mX3_init.2.1 1 = .ok (.invokespecial 3, 3) := by decide +kernel
theorem dX3_init_4 : decode mX3_init.2.1 4 = .ok (.aload_n 0, 1) := by decide +kernel
theorem dX3_init_5 : decode mX3_init.2.1 5 = .ok (.bipush 18, 2) := by decide +kernel
theorem dX3_init_7 : decode mX3_init.2.1 7 = .ok (.newarray .int, 2) := by decide +kernel
theorem dX3_init_9 : decode mX3_init.2.1 9 = .ok (.putfield 9, 3) := by decide +kernel
theorem dX3_init_12 : decode mX3_init.2.1 12 = .ok (.aload_n 0, 1) := by decide +kernel
theorem dX3_init_13 : decode mX3_init.2.1 13 = .ok (.bipush 7, 2) := by decide +kernel
theorem dX3_init_15 : decode mX3_init.2.1 15 = .ok (.newarray .int, 2) := by decide +kernel
theorem dX3_init_17 : decode mX3_init.2.1 17 = .ok (.putfield 15, 3) := by decide +kernel
theorem dX3_init_20 : decode mX3_init.2.1 20 = .ok (.aload_n 0, 1) := by decide +kernel
theorem dX3_init_21 : decode mX3_init.2.1 21 = .ok (.bipush 7, 2) := by decide +kernel
theorem dX3_init_23 : decode mX3_init.2.1 23 = .ok (.newarray .int, 2) := by decide +kernel
theorem dX3_init_25 : decode mX3_init.2.1 25 = .ok (.putfield 18, 3) := by decide +kernel
theorem dX3_init_28 : decode mX3_init.2.1 28 = .ok (.aload_n 0, 1) := by decide +kernel
theorem dX3_init_29 : decode mX3_init.2.1 29 = .ok (.bipush 8, 2) := by decide +kernel
theorem dX3_init_31 : decode mX3_init.2.1 31 = .ok (.sipush 128, 3) := by decide +kernel
theorem dX3_init_34 : decode mX3_init.2.1 34 = .ok (.multianewarray 21 2, 4) := by decide +kernel
theorem dX3_init_38 : decode mX3_init.2.1 38 = .ok (.putfield 23, 3) := by decide +kernel
theorem dX3_init_41 : decode mX3_init.2.1 41 = .ok (.return_, 1) := by decide +kernel
theorem dX3_settle_0 : decode mX3_settle.2.1 0 = .ok (.aload_n 0, 1) := by decide +kernel
theorem dX3_settle_1 : decode mX3_settle.2.1 1 = .ok (.aload_n 1, 1) := by decide +kernel
theorem dX3_settle_2 : decode mX3_settle.2.1 2 = .ok (.invokevirtual 26, 3) := by decide +kernel
theorem dX3_settle_5 : decode mX3_settle.2.1 5 = .ok (.aload_n 0, 1) := by decide +kernel
theorem dX3_settle_6 : decode mX3_settle.2.1 6 = .ok (.getfield 30, 3) := by decide +kernel
theorem dX3_settle_9 : decode mX3_settle.2.1 9 = .ok (.iconst 1, 1) := by decide +kernel
theorem dX3_settle_10 : decode mX3_settle.2.1 10 = .ok (.isub, 1) := by decide +kernel
theorem dX3_settle_11 : decode mX3_settle.2.1 11 = .ok (.istore_n 3, 1) := by decide +kernel
theorem dX3_settle_12 : decode mX3_settle.2.1 12 = .ok (.iload_n 3, 1) := by decide +kernel
theorem dX3_settle_13 : decode mX3_settle.2.1 13 = .ok (.ifCond .lt 46, 3) := by decide +kernel
theorem dX3_settle_16 : decode mX3_settle.2.1 16 = .ok (.iconst 0, 1) := by decide +kernel
theorem dX3_settle_17 : decode mX3_settle.2.1 17 = .ok (.istore 4, 2) := by decide +kernel
theorem dX3_settle_19 : decode mX3_settle.2.1 19 = .ok (.iload 4, 2) := by decide +kernel
theorem dX3_settle_21 : decode mX3_settle.2.1 21 = .ok (.iconst 1, 1) := by decide +kernel
theorem dX3_settle_22 : decode mX3_settle.2.1 22 = .ok (.aload_n 0, 1) := by decide +kernel
theorem dX3_settle_23 : decode mX3_settle.2.1 23 = .ok (.getfield 34, 3) := by decide +kernel
theorem dX3_settle_26 : decode mX3_settle.2.1 26 = .ok (.ishl, 1) := by decide +kernel
theorem dX3_settle_27 : decode mX3_settle.2.1 27 = .ok (.if_icmp .ge 26, 3) := by decide +kernel
theorem dX3_settle_30 : decode mX3_settle.2.1 30 = .ok (.aload_n 0, 1) := by decide +kernel
theorem dX3_settle_31 : decode mX3_settle.2.1 31 = .ok (.getfield 23, 3) := by decide +kernel
theorem dX3_settle_34 : decode mX3_settle.2.1 34 = .ok (.iload_n 3, 1) := by decide +kernel
theorem dX3_settle_35 : decode mX3_settle.2.1 35 = .ok (.aaload, 1) := by decide +kernel
theorem dX3_settle_36 : decode mX3_settle.2.1 36 = .ok (.iload 4, 2) := by decide +kernel
theorem dX3_settle_38 : decode mX3_settle.2.1 38 = .ok (.aload_n 0, 1) := by decide +kernel
theorem dX3_settle_39 : decode mX3_settle.2.1 39 = .ok (.iload_n 3, 1) := by decide +kernel
theorem dX3_settle_40 : decode mX3_settle.2.1 40 = .ok (.iload 4, 2) := by decide +kernel
theorem dX3_settle_42 : decode mX3_settle.2.1 42 = .ok (.aload_n 2, 1) := by decide +kernel
theorem dX3_settle_43 : decode mX3_settle.2.1 43 = .ok (.invokevirtual 37, 3) := by decide +kernel
theorem dX3_settle_46 : decode mX3_settle.2.1 46 = .ok (.iastore, 1) := by decide +kernel
theorem dX3_settle_47 : decode mX3_settle.2.1 47 = .ok (.iinc 4 1, 3) := by decide +kernel
theorem dX3_settle_50 : decode mX3_settle.2.1 50 = .ok (.goto (-31), 3) := by decide +kernel
theorem dX3_settle_53 : decode mX3_settle.2.1 53 = .ok (.iinc 3 (-1), 3) := by decide +kernel
theorem dX3_settle_56 : decode mX3_settle.2.1 56 = .ok (.goto (-44), 3) := by decide +kernel
theorem dX3_settle_59 : decode mX3_settle.2.1 59 = .ok (.aload_n 0, 1) := by decide +kernel
theorem dX3_settle_60 : decode mX3_settle.2.1 60 = .ok (.aload_n 2, 1) := by decide +kernel
theorem dX3_settle_61 : decode mX3_settle.2.1 61 = .ok (.invokevirtual 41, 3) := by decide +kernel
theorem dX3_settle_64 : decode mX3_settle.2.1 64 = .ok (.return_, 1) := by decide +kernel
theorem dX3_list_0 : decode mX3_list.2.1 0 = .ok (.aload_n 0, 1) := by decide +kernel
theorem dX3_list_1 : decode mX3_list.2.1 1 = .ok (.iconst 0, 1) := by decide +kernel
theorem dX3_list_2 : decode mX3_list.2.1 2 = .ok (.putfield 30, 3) := by decide +kernel
theorem dX3_list_5 : decode mX3_list.2.1 5 = .ok (.aload_n 0, 1) := by decide +kernel
theorem dX3_list_6 : decode mX3_list.2.1 6 = .ok (.iconst 0, 1) := by decide +kernel
theorem dX3_list_7 : decode mX3_list.2.1 7 = .ok (.putfield 34, 3) := by decide +kernel
theorem dX3_list_10 : decode mX3_list.2.1 10 = .ok (.iconst 0, 1) := by decide +kernel
theorem dX3_list_11 : decode mX3_list.2.1 11 = .ok (.istore_n 2, 1) := by decide +kernel
theorem dX3_list_12 : decode mX3_list.2.1 12 = .ok (.iload_n 2, 1) := by decide +kernel
theorem dX3_list_13 : decode mX3_list.2.1 13 = .ok (.aload_n 1, 1) := by decide +kernel
theorem dX3_list_14 : decode mX3_list.2.1 14 = .ok (.getfield 45, 3) := by decide +kernel
theorem dX3_list_17 : decode mX3_list.2.1 17 = .ok (.if_icmp .ge 96, 3) := by decide +kernel
theorem dX3_list_20 : decode mX3_list.2.1 20 = .ok (.aload_n 0, 1) := by decide +kernel
theorem dX3_list_21 : decode mX3_list.2.1 21 = .ok (.getfield 9, 3) := by decide +kernel
theorem dX3_list_24 : decode mX3_list.2.1 24 = .ok (.iload_n 2, 1) := by decide +kernel
theorem dX3_list_25 : decode mX3_list.2.1 25 = .ok (.iconst (-1), 1) := by decide +kernel
theorem dX3_list_26 : decode mX3_list.2.1 26 = .ok (.iastore, 1) := by decide +kernel
theorem dX3_list_27 : decode mX3_list.2.1 27 = .ok (.aload_n 1, 1) := by decide +kernel
theorem dX3_list_28 : decode mX3_list.2.1 28 = .ok (.getfield 50, 3) := by decide +kernel
theorem dX3_list_31 : decode mX3_list.2.1 31 = .ok (.iload_n 2, 1) := by decide +kernel
theorem dX3_list_32 : decode mX3_list.2.1 32 = .ok (.aaload, 1) := by decide +kernel
theorem dX3_list_33 : decode mX3_list.2.1 33 = .ok (.getfield 54, 3) := by decide +kernel
theorem dX3_list_36 : decode mX3_list.2.1 36 = .ok (.istore_n 3, 1) := by decide +kernel
theorem dX3_list_37 : decode mX3_list.2.1 37 = .ok (.iload_n 3, 1) := by decide +kernel
theorem dX3_list_38 : decode mX3_list.2.1 38 = .ok (.ifCond .ne 35, 3) := by decide +kernel
theorem dX3_list_41 : decode mX3_list.2.1 41 = .ok (.aload_n 0, 1) := by decide +kernel
theorem dX3_list_42 : decode mX3_list.2.1 42 = .ok (.getfield 30, 3) := by decide +kernel
theorem dX3_list_45 : decode mX3_list.2.1 45 = .ok (.bipush 7, 2) := by decide +kernel
theorem dX3_list_47 : decode mX3_list.2.1 47 = .ok (.if_icmp .ge 26, 3) := by decide +kernel
theorem dX3_list_50 : decode mX3_list.2.1 50 = .ok (.aload_n 0, 1) := by decide +kernel
theorem dX3_list_51 : decode mX3_list.2.1 51 = .ok (.getfield 15, 3) := by decide +kernel
theorem dX3_list_54 : decode mX3_list.2.1 54 = .ok (.aload_n 0, 1) := by decide +kernel
theorem dX3_list_55 : decode mX3_list.2.1 55 = .ok (.getfield 30, 3) := by decide +kernel
theorem dX3_list_58 : decode mX3_list.2.1 58 = .ok (.iload_n 2, 1) := by decide +kernel
theorem dX3_list_59 : decode mX3_list.2.1 59 = .ok (.iastore, 1) := by decide +kernel
theorem dX3_list_60 : decode mX3_list.2.1 60 = .ok (.aload_n 0, 1) := by decide +kernel
theorem dX3_list_61 : decode mX3_list.2.1 61 = .ok (.dup, 1) := by decide +kernel
theorem dX3_list_62 : decode mX3_list.2.1 62 = .ok (.getfield 30, 3) := by decide +kernel
theorem dX3_list_65 : decode mX3_list.2.1 65 = .ok (.iconst 1, 1) := by decide +kernel
theorem dX3_list_66 : decode mX3_list.2.1 66 = .ok (.iadd, 1) := by decide +kernel
theorem dX3_list_67 : decode mX3_list.2.1 67 = .ok (.putfield 30, 3) := by decide +kernel
theorem dX3_list_70 : decode mX3_list.2.1 70 = .ok (.goto 37, 3) := by decide +kernel
theorem dX3_list_73 : decode mX3_list.2.1 73 = .ok (.iload_n 3, 1) := by decide +kernel
theorem dX3_list_74 : decode mX3_list.2.1 74 = .ok (.iconst 2, 1) := by decide +kernel
theorem dX3_list_75 : decode mX3_list.2.1 75 = .ok (.if_icmp .ne 32, 3) := by decide +kernel
theorem dX3_list_78 : decode mX3_list.2.1 78 = .ok (.aload_n 0, 1) := by decide +kernel
theorem dX3_list_79 : decode mX3_list.2.1 79 = .ok (.getfield 34, 3) := by decide +kernel
theorem dX3_list_82 : decode mX3_list.2.1 82 = .ok (.bipush 7, 2) := by decide +kernel
theorem dX3_list_84 : decode mX3_list.2.1 84 = .ok (.if_icmp .ge 23, 3) := by decide +kernel
theorem dX3_list_87 : decode mX3_list.2.1 87 = .ok (.aload_n 0, 1) := by decide +kernel
theorem dX3_list_88 : decode mX3_list.2.1 88 = .ok (.getfield 18, 3) := by decide +kernel
theorem dX3_list_91 : decode mX3_list.2.1 91 = .ok (.aload_n 0, 1) := by decide +kernel
theorem dX3_list_92 : decode mX3_list.2.1 92 = .ok (.getfield 34, 3) := by decide +kernel
theorem dX3_list_95 : decode mX3_list.2.1 95 = .ok (.iload_n 2, 1) := by decide +kernel
theorem dX3_list_96 : decode mX3_list.2.1 96 = .ok (.iastore, 1) := by decide +kernel
theorem dX3_list_97 : decode mX3_list.2.1 97 = .ok (.aload_n 0, 1) := by decide +kernel
theorem dX3_list_98 : decode mX3_list.2.1 98 = .ok (.dup, 1) := by decide +kernel
theorem dX3_list_99 : decode mX3_list.2.1 99 = .ok (.getfield 34, 3) := by decide +kernel
theorem dX3_list_102 : decode mX3_list.2.1 102 = .ok (.iconst 1, 1) := by decide +kernel
theorem dX3_list_103 : decode mX3_list.2.1 103 = .ok (.iadd, 1) := by decide +kernel
theorem dX3_list_104 : decode mX3_list.2.1 104 = .ok (.putfield 34, 3) := by decide +kernel
theorem dX3_list_107 : decode mX3_list.2.1 107 = .ok (.iinc 2 1, 3) := by decide +kernel
theorem dX3_list_110 : decode mX3_list.2.1 110 = .ok (.goto (-98), 3) := by decide +kernel
theorem dX3_list_113 : decode mX3_list.2.1 113 = .ok (.iconst 0, 1) := by decide +kernel
theorem dX3_list_114 : decode mX3_list.2.1 114 = .ok (.istore_n 2, 1) := by decide +kernel
theorem dX3_list_115 : decode mX3_list.2.1 115 = .ok (.iload_n 2, 1) := by decide +kernel
theorem dX3_list_116 : decode mX3_list.2.1 116 = .ok (.iconst 1, 1) := by decide +kernel
theorem dX3_list_117 : decode mX3_list.2.1 117 = .ok (.aload_n 0, 1) := by decide +kernel
theorem dX3_list_118 : decode mX3_list.2.1 118 = .ok (.getfield 34, 3) := by decide +kernel
theorem dX3_list_121 : decode mX3_list.2.1 121 = .ok (.ishl, 1) := by decide +kernel
theorem dX3_list_122 : decode mX3_list.2.1 122 = .ok (.if_icmp .ge 21, 3) := by decide +kernel
theorem dX3_list_125 : decode mX3_list.2.1 125 = .ok (.aload_n 0, 1) := by decide +kernel
theorem dX3_list_126 : decode mX3_list.2.1 126 = .ok (.getfield 23, 3) := by decide +kernel
theorem dX3_list_129 : decode mX3_list.2.1 129 = .ok (.aload_n 0, 1) := by decide +kernel
theorem dX3_list_130 : decode mX3_list.2.1 130 = .ok (.getfield 30, 3) := by decide +kernel
theorem dX3_list_133 : decode mX3_list.2.1 133 = .ok (.aaload, 1) := by decide +kernel
theorem dX3_list_134 : decode mX3_list.2.1 134 = .ok (.iload_n 2, 1) := by decide +kernel
theorem dX3_list_135 : decode mX3_list.2.1 135 = .ok (.iconst 0, 1) := by decide +kernel
theorem dX3_list_136 : decode mX3_list.2.1 136 = .ok (.iastore, 1) := by decide +kernel
theorem dX3_list_137 : decode mX3_list.2.1 137 = .ok (.iinc 2 1, 3) := by decide +kernel
theorem dX3_list_140 : decode mX3_list.2.1 140 = .ok (.goto (-25), 3) := by decide +kernel
theorem dX3_list_143 : decode mX3_list.2.1 143 = .ok (.return_, 1) := by decide +kernel
theorem dX3_bestFrom_0 : decode mX3_bestFrom.2.1 0 = .ok (.aload_n 0, 1) := by decide +kernel
theorem dX3_bestFrom_1 : decode mX3_bestFrom.2.1 1 = .ok (.getfield 23, 3) := by decide +kernel
theorem dX3_bestFrom_4 : decode mX3_bestFrom.2.1 4 = .ok (.iload_n 1, 1) := by decide +kernel
theorem dX3_bestFrom_5 : decode mX3_bestFrom.2.1 5 = .ok (.iconst 1, 1) := by decide +kernel
theorem dX3_bestFrom_6 : decode mX3_bestFrom.2.1 6 = .ok (.iadd, 1) := by decide +kernel
theorem dX3_bestFrom_7 : decode mX3_bestFrom.2.1 7 = .ok (.aaload, 1) := by decide +kernel
theorem dX3_bestFrom_8 : decode mX3_bestFrom.2.1 8 = .ok (.iload_n 2, 1) := by decide +kernel
theorem dX3_bestFrom_9 : decode mX3_bestFrom.2.1 9 = .ok (.iaload, 1) := by decide +kernel
theorem dX3_bestFrom_10 : decode mX3_bestFrom.2.1 10 = .ok (.istore 4, 2) := by decide +kernel
theorem dX3_bestFrom_12 : decode mX3_bestFrom.2.1 12 = .ok (.iconst 0, 1) := by decide +kernel
theorem dX3_bestFrom_13 : decode mX3_bestFrom.2.1 13 = .ok (.istore 5, 2) := by decide +kernel
theorem dX3_bestFrom_15 : decode mX3_bestFrom.2.1 15 = .ok (.iload 5, 2) := by decide +kernel
theorem dX3_bestFrom_17 : decode mX3_bestFrom.2.1 17 = .ok (.aload_n 0, 1) := by decide +kernel
theorem dX3_bestFrom_18 : decode mX3_bestFrom.2.1 18 = .ok (.getfield 34, 3) := by decide +kernel
theorem dX3_bestFrom_21 : decode mX3_bestFrom.2.1 21 = .ok (.if_icmp .ge 37, 3) := by decide +kernel
theorem dX3_bestFrom_24 : decode mX3_bestFrom.2.1 24 = .ok (.aload_n 0, 1) := by decide +kernel
theorem dX3_bestFrom_25 : decode mX3_bestFrom.2.1 25 = .ok (.iload_n 1, 1) := by decide +kernel
theorem dX3_bestFrom_26 : decode mX3_bestFrom.2.1 26 = .ok (.iload 5, 2) := by decide +kernel
theorem dX3_bestFrom_28 : decode mX3_bestFrom.2.1 28 = .ok (.iload_n 2, 1) := by decide +kernel
theorem dX3_bestFrom_29 : decode mX3_bestFrom.2.1 29 = .ok (.aload_n 3, 1) := by decide +kernel
theorem dX3_bestFrom_30 : decode mX3_bestFrom.2.1 30 = .ok (.invokevirtual 59, 3) := by decide +kernel
theorem dX3_bestFrom_33 : decode mX3_bestFrom.2.1 33 = .ok (.ifCond .eq 19, 3) := by decide +kernel
theorem dX3_bestFrom_36 : decode mX3_bestFrom.2.1 36 = .ok (.iload 4, 2) := by decide +kernel
theorem dX3_bestFrom_38 : decode mX3_bestFrom.2.1 38 = .ok (.aload_n 0, 1) := by decide +kernel
theorem dX3_bestFrom_39 : decode mX3_bestFrom.2.1 39 = .ok (.iload_n 1, 1) := by decide +kernel
theorem dX3_bestFrom_40 : decode mX3_bestFrom.2.1 40 = .ok (.iload 5, 2) := by decide +kernel
theorem dX3_bestFrom_42 : decode mX3_bestFrom.2.1 42 = .ok (.iload_n 2, 1) := by decide +kernel
theorem dX3_bestFrom_43 : decode mX3_bestFrom.2.1 43 = .ok (.aload_n 3, 1) := by decide +kernel
theorem dX3_bestFrom_44 : decode mX3_bestFrom.2.1 44 = .ok (.invokevirtual 63, 3) := by decide +kernel
theorem dX3_bestFrom_47 : decode mX3_bestFrom.2.1 47 = .ok (.invokestatic 67, 3) := by decide +kernel
theorem dX3_bestFrom_50 : decode mX3_bestFrom.2.1 50 = .ok (.istore 4, 2) := by decide +kernel
theorem dX3_bestFrom_52 : decode mX3_bestFrom.2.1 52 = .ok (.iinc 5 1, 3) := by decide +kernel
theorem dX3_bestFrom_55 : decode mX3_bestFrom.2.1 55 = .ok (.goto (-40), 3) := by decide +kernel
theorem dX3_bestFrom_58 : decode mX3_bestFrom.2.1 58 = .ok (.iload 4, 2) := by decide +kernel
theorem dX3_bestFrom_60 : decode mX3_bestFrom.2.1 60 = .ok (.ireturn, 1) := by decide +kernel
theorem dX3_isFree_0 : decode mX3_isFree.2.1 0 = .ok (.iload_n 3, 1) := by decide +kernel
theorem dX3_isFree_1 : decode mX3_isFree.2.1 1 = .ok (.iconst 1, 1) := by decide +kernel
theorem dX3_isFree_2 : decode mX3_isFree.2.1 2 = .ok (.iload_n 2, 1) := by decide +kernel
theorem dX3_isFree_3 : decode mX3_isFree.2.1 3 = .ok (.ishl, 1) := by decide +kernel
theorem dX3_isFree_4 : decode mX3_isFree.2.1 4 = .ok (.iand, 1) := by decide +kernel
theorem dX3_isFree_5 : decode mX3_isFree.2.1 5 = .ok (.ifCond .ne 27, 3) := by decide +kernel
theorem dX3_isFree_8 : decode mX3_isFree.2.1 8 = .ok (.aload 4, 2) := by decide +kernel
theorem dX3_isFree_10 : decode mX3_isFree.2.1 10 = .ok (.aload_n 0, 1) := by decide +kernel
theorem dX3_isFree_11 : decode mX3_isFree.2.1 11 = .ok (.getfield 15, 3) := by decide +kernel
theorem dX3_isFree_14 : decode mX3_isFree.2.1 14 = .ok (.iload_n 1, 1) := by decide +kernel
theorem dX3_isFree_15 : decode mX3_isFree.2.1 15 = .ok (.iaload, 1) := by decide +kernel
theorem dX3_isFree_16 : decode mX3_isFree.2.1 16 = .ok (.aload_n 0, 1) := by decide +kernel
theorem dX3_isFree_17 : decode mX3_isFree.2.1 17 = .ok (.getfield 18, 3) := by decide +kernel
theorem dX3_isFree_20 : decode mX3_isFree.2.1 20 = .ok (.iload_n 2, 1) := by decide +kernel
theorem dX3_isFree_21 : decode mX3_isFree.2.1 21 = .ok (.iaload, 1) := by decide +kernel
theorem dX3_isFree_22 : decode mX3_isFree.2.1 22 = .ok (.invokevirtual 73, 3) := by decide +kernel
theorem dX3_isFree_25 : decode mX3_isFree.2.1 25 = .ok (.ifCond .eq 7, 3) := by decide +kernel
theorem dX3_isFree_28 : decode mX3_isFree.2.1 28 = .ok (.iconst 1, 1) := by decide +kernel
theorem dX3_isFree_29 : decode mX3_isFree.2.1 29 = .ok (.goto 4, 3) := by decide +kernel
theorem dX3_isFree_32 : decode mX3_isFree.2.1 32 = .ok (.iconst 0, 1) := by decide +kernel
theorem dX3_isFree_33 : decode mX3_isFree.2.1 33 = .ok (.ireturn, 1) := by decide +kernel
theorem dX3_worthWith_0 : decode mX3_worthWith.2.1 0 = .ok (.aload 4, 2) := by decide +kernel
theorem dX3_worthWith_2 : decode mX3_worthWith.2.1 2 = .ok (.getfield 79, 3) := by decide +kernel
theorem dX3_worthWith_5 : decode mX3_worthWith.2.1 5 = .ok (.aload_n 0, 1) := by decide +kernel
theorem dX3_worthWith_6 : decode mX3_worthWith.2.1 6 = .ok (.getfield 15, 3) := by decide +kernel
theorem dX3_worthWith_9 : decode mX3_worthWith.2.1 9 = .ok (.iload_n 1, 1) := by decide +kernel
theorem dX3_worthWith_10 : decode mX3_worthWith.2.1 10 = .ok (.iaload, 1) := by decide +kernel
theorem dX3_worthWith_11 : decode mX3_worthWith.2.1 11 = .ok (.aaload, 1) := by decide +kernel
theorem dX3_worthWith_12 : decode mX3_worthWith.2.1 12 = .ok (.aload_n 0, 1) := by decide +kernel
theorem dX3_worthWith_13 : decode mX3_worthWith.2.1 13 = .ok (.getfield 18, 3) := by decide +kernel
theorem dX3_worthWith_16 : decode mX3_worthWith.2.1 16 = .ok (.iload_n 2, 1) := by decide +kernel
theorem dX3_worthWith_17 : decode mX3_worthWith.2.1 17 = .ok (.iaload, 1) := by decide +kernel
theorem dX3_worthWith_18 : decode mX3_worthWith.2.1 18 = .ok (.iaload, 1) := by decide +kernel
theorem dX3_worthWith_19 : decode mX3_worthWith.2.1 19 = .ok (.aload_n 0, 1) := by decide +kernel
theorem dX3_worthWith_20 : decode mX3_worthWith.2.1 20 = .ok (.getfield 23, 3) := by decide +kernel
theorem dX3_worthWith_23 : decode mX3_worthWith.2.1 23 = .ok (.iload_n 1, 1) := by decide +kernel
theorem dX3_worthWith_24 : decode mX3_worthWith.2.1 24 = .ok (.iconst 1, 1) := by decide +kernel
theorem dX3_worthWith_25 : decode mX3_worthWith.2.1 25 = .ok (.iadd, 1) := by decide +kernel
theorem dX3_worthWith_26 : decode mX3_worthWith.2.1 26 = .ok (.aaload, 1) := by decide +kernel
theorem dX3_worthWith_27 : decode mX3_worthWith.2.1 27 = .ok (.iload_n 3, 1) := by decide +kernel
theorem dX3_worthWith_28 : decode mX3_worthWith.2.1 28 = .ok (.iconst 1, 1) := by decide +kernel
theorem dX3_worthWith_29 : decode mX3_worthWith.2.1 29 = .ok (.iload_n 2, 1) := by decide +kernel
theorem dX3_worthWith_30 : decode mX3_worthWith.2.1 30 = .ok (.ishl, 1) := by decide +kernel
theorem dX3_worthWith_31 : decode mX3_worthWith.2.1 31 = .ok (.ior, 1) := by decide +kernel
theorem dX3_worthWith_32 : decode mX3_worthWith.2.1 32 = .ok (.iaload, 1) := by decide +kernel
theorem dX3_worthWith_33 : decode mX3_worthWith.2.1 33 = .ok (.iadd, 1) := by decide +kernel
theorem dX3_worthWith_34 : decode mX3_worthWith.2.1 34 = .ok (.ireturn, 1) := by decide +kernel
theorem dX3_choose_0 : decode mX3_choose.2.1 0 = .ok (.aload_n 0, 1) := by decide +kernel
theorem dX3_choose_1 : decode mX3_choose.2.1 1 = .ok (.iconst 0, 1) := by decide +kernel
theorem dX3_choose_2 : decode mX3_choose.2.1 2 = .ok (.putfield 82, 3) := by decide +kernel
theorem dX3_choose_5 : decode mX3_choose.2.1 5 = .ok (.aload_n 0, 1) := by decide +kernel
theorem dX3_choose_6 : decode mX3_choose.2.1 6 = .ok (.aload_n 0, 1) := by decide +kernel
theorem dX3_choose_7 : decode mX3_choose.2.1 7 = .ok (.getfield 23, 3) := by decide +kernel
theorem dX3_choose_10 : decode mX3_choose.2.1 10 = .ok (.iconst 0, 1) := by decide +kernel
theorem dX3_choose_11 : decode mX3_choose.2.1 11 = .ok (.aaload, 1) := by decide +kernel
theorem dX3_choose_12 : decode mX3_choose.2.1 12 = .ok (.iconst 0, 1) := by decide +kernel
theorem dX3_choose_13 : decode mX3_choose.2.1 13 = .ok (.iaload, 1) := by decide +kernel
theorem dX3_choose_14 : decode mX3_choose.2.1 14 = .ok (.putfield 85, 3) := by decide +kernel
theorem dX3_choose_17 : decode mX3_choose.2.1 17 = .ok (.iconst 0, 1) := by decide +kernel
theorem dX3_choose_18 : decode mX3_choose.2.1 18 = .ok (.istore_n 2, 1) := by decide +kernel
theorem dX3_choose_19 : decode mX3_choose.2.1 19 = .ok (.iconst 0, 1) := by decide +kernel
theorem dX3_choose_20 : decode mX3_choose.2.1 20 = .ok (.istore_n 3, 1) := by decide +kernel
theorem dX3_choose_21 : decode mX3_choose.2.1 21 = .ok (.iload_n 3, 1) := by decide +kernel
theorem dX3_choose_22 : decode mX3_choose.2.1 22 = .ok (.aload_n 0, 1) := by decide +kernel
theorem dX3_choose_23 : decode mX3_choose.2.1 23 = .ok (.getfield 30, 3) := by decide +kernel
theorem dX3_choose_26 : decode mX3_choose.2.1 26 = .ok (.if_icmp .ge 115, 3) := by decide +kernel
theorem dX3_choose_29 : decode mX3_choose.2.1 29 = .ok (.iconst 0, 1) := by decide +kernel
theorem dX3_choose_30 : decode mX3_choose.2.1 30 = .ok (.istore 4, 2) := by decide +kernel
theorem dX3_choose_32 : decode mX3_choose.2.1 32 = .ok (.iload 4, 2) := by decide +kernel
theorem dX3_choose_34 : decode mX3_choose.2.1 34 = .ok (.aload_n 0, 1) := by decide +kernel
theorem dX3_choose_35 : decode mX3_choose.2.1 35 = .ok (.getfield 34, 3) := by decide +kernel
theorem dX3_choose_38 : decode mX3_choose.2.1 38 = .ok (.if_icmp .ge 97, 3) := by decide +kernel
theorem dX3_choose_41 : decode mX3_choose.2.1 41 = .ok (.aload_n 0, 1) := by decide +kernel
theorem dX3_choose_42 : decode mX3_choose.2.1 42 = .ok (.iload_n 3, 1) := by decide +kernel
theorem dX3_choose_43 : decode mX3_choose.2.1 43 = .ok (.iload 4, 2) := by decide +kernel
theorem dX3_choose_45 : decode mX3_choose.2.1 45 = .ok (.iload_n 2, 1) := by decide +kernel
theorem dX3_choose_46 : decode mX3_choose.2.1 46 = .ok (.aload_n 1, 1) := by decide +kernel
theorem dX3_choose_47 : decode mX3_choose.2.1 47 = .ok (.invokevirtual 59, 3) := by decide +kernel
theorem dX3_choose_50 : decode mX3_choose.2.1 50 = .ok (.ifCond .eq 79, 3) := by decide +kernel
theorem dX3_choose_53 : decode mX3_choose.2.1 53 = .ok (.aload_n 0, 1) := by decide +kernel
theorem dX3_choose_54 : decode mX3_choose.2.1 54 = .ok (.iload_n 3, 1) := by decide +kernel
theorem dX3_choose_55 : decode mX3_choose.2.1 55 = .ok (.iload 4, 2) := by decide +kernel
theorem dX3_choose_57 : decode mX3_choose.2.1 57 = .ok (.iload_n 2, 1) := by decide +kernel
theorem dX3_choose_58 : decode mX3_choose.2.1 58 = .ok (.aload_n 1, 1) := by decide +kernel
theorem dX3_choose_59 : decode mX3_choose.2.1 59 = .ok (.invokevirtual 63, 3) := by decide +kernel
theorem dX3_choose_62 : decode mX3_choose.2.1 62 = .ok (.aload_n 0, 1) := by decide +kernel
theorem dX3_choose_63 : decode mX3_choose.2.1 63 = .ok (.getfield 23, 3) := by decide +kernel
theorem dX3_choose_66 : decode mX3_choose.2.1 66 = .ok (.iload_n 3, 1) := by decide +kernel
theorem dX3_choose_67 : decode mX3_choose.2.1 67 = .ok (.aaload, 1) := by decide +kernel
theorem dX3_choose_68 : decode mX3_choose.2.1 68 = .ok (.iload_n 2, 1) := by decide +kernel
theorem dX3_choose_69 : decode mX3_choose.2.1 69 = .ok (.iaload, 1) := by decide +kernel
theorem dX3_choose_70 : decode mX3_choose.2.1 70 = .ok (.if_icmp .ne 59, 3) := by decide +kernel
theorem dX3_choose_73 : decode mX3_choose.2.1 73 = .ok (.aload_n 0, 1) := by decide +kernel
theorem dX3_choose_74 : decode mX3_choose.2.1 74 = .ok (.getfield 9, 3) := by decide +kernel
theorem dX3_choose_77 : decode mX3_choose.2.1 77 = .ok (.aload_n 0, 1) := by decide +kernel
theorem dX3_choose_78 : decode mX3_choose.2.1 78 = .ok (.getfield 15, 3) := by decide +kernel
theorem dX3_choose_81 : decode mX3_choose.2.1 81 = .ok (.iload_n 3, 1) := by decide +kernel
theorem dX3_choose_82 : decode mX3_choose.2.1 82 = .ok (.iaload, 1) := by decide +kernel
theorem dX3_choose_83 : decode mX3_choose.2.1 83 = .ok (.aload_n 0, 1) := by decide +kernel
theorem dX3_choose_84 : decode mX3_choose.2.1 84 = .ok (.getfield 18, 3) := by decide +kernel
theorem dX3_choose_87 : decode mX3_choose.2.1 87 = .ok (.iload 4, 2) := by decide +kernel
theorem dX3_choose_89 : decode mX3_choose.2.1 89 = .ok (.iaload, 1) := by decide +kernel
theorem dX3_choose_90 : decode mX3_choose.2.1 90 = .ok (.iastore, 1) := by decide +kernel
theorem dX3_choose_91 : decode mX3_choose.2.1 91 = .ok (.aload_n 0, 1) := by decide +kernel
theorem dX3_choose_92 : decode mX3_choose.2.1 92 = .ok (.getfield 9, 3) := by decide +kernel
theorem dX3_choose_95 : decode mX3_choose.2.1 95 = .ok (.aload_n 0, 1) := by decide +kernel
theorem dX3_choose_96 : decode mX3_choose.2.1 96 = .ok (.getfield 18, 3) := by decide +kernel
theorem dX3_choose_99 : decode mX3_choose.2.1 99 = .ok (.iload 4, 2) := by decide +kernel
theorem dX3_choose_101 : decode mX3_choose.2.1 101 = .ok (.iaload, 1) := by decide +kernel
theorem dX3_choose_102 : decode mX3_choose.2.1 102 = .ok (.aload_n 0, 1) := by decide +kernel
theorem dX3_choose_103 : decode mX3_choose.2.1 103 = .ok (.getfield 15, 3) := by decide +kernel
theorem dX3_choose_106 : decode mX3_choose.2.1 106 = .ok (.iload_n 3, 1) := by decide +kernel
theorem dX3_choose_107 : decode mX3_choose.2.1 107 = .ok (.iaload, 1) := by decide +kernel
theorem dX3_choose_108 : decode mX3_choose.2.1 108 = .ok (.iastore, 1) := by decide +kernel
theorem dX3_choose_109 : decode mX3_choose.2.1 109 = .ok (.iload_n 2, 1) := by decide +kernel
theorem dX3_choose_110 : decode mX3_choose.2.1 110 = .ok (.iconst 1, 1) := by decide +kernel
theorem dX3_choose_111 : decode mX3_choose.2.1 111 = .ok (.iload 4, 2) := by decide +kernel
theorem dX3_choose_113 : decode mX3_choose.2.1 113 = .ok (.ishl, 1) := by decide +kernel
theorem dX3_choose_114 : decode mX3_choose.2.1 114 = .ok (.ior, 1) := by decide +kernel
theorem dX3_choose_115 : decode mX3_choose.2.1 115 = .ok (.istore_n 2, 1) := by decide +kernel
theorem dX3_choose_116 : decode mX3_choose.2.1 116 = .ok (.aload_n 0, 1) := by decide +kernel
theorem dX3_choose_117 : decode mX3_choose.2.1 117 = .ok (.dup, 1) := by decide +kernel
theorem dX3_choose_118 : decode mX3_choose.2.1 118 = .ok (.getfield 82, 3) := by decide +kernel
theorem dX3_choose_121 : decode mX3_choose.2.1 121 = .ok (.iconst 1, 1) := by decide +kernel
theorem dX3_choose_122 : decode mX3_choose.2.1 122 = .ok (.iadd, 1) := by decide +kernel
theorem dX3_choose_123 : decode mX3_choose.2.1 123 = .ok (.putfield 82, 3) := by decide +kernel
theorem dX3_choose_126 : decode mX3_choose.2.1 126 = .ok (.goto 9, 3) := by decide +kernel
theorem dX3_choose_129 : decode mX3_choose.2.1 129 = .ok (.iinc 4 1, 3) := by decide +kernel
theorem dX3_choose_132 : decode mX3_choose.2.1 132 = .ok (.goto (-100), 3) := by decide +kernel
theorem dX3_choose_135 : decode mX3_choose.2.1 135 = .ok (.iinc 3 1, 3) := by decide +kernel
theorem dX3_choose_138 : decode mX3_choose.2.1 138 = .ok (.goto (-117), 3) := by decide +kernel
theorem dX3_choose_141 : decode mX3_choose.2.1 141 = .ok (.return_, 1) := by decide +kernel
theorem dX4_init_0 : decode mX4_init.2.1 0 = .ok (.aload_n 0, 1) := by decide +kernel
theorem dX4_init_1 : decode mX4_init.2.1 1 = .ok (.invokespecial 3, 3) := by decide +kernel
theorem dX4_init_4 : decode mX4_init.2.1 4 = .ok (.aload_n 0, 1) := by decide +kernel
theorem dX4_init_5 : decode mX4_init.2.1 5 = .ok (.bipush 9, 2) := by decide +kernel
theorem dX4_init_7 : decode mX4_init.2.1 7 = .ok (.newarray .int, 2) := by decide +kernel
theorem dX4_init_9 : decode mX4_init.2.1 9 = .ok (.putfield 9, 3) := by decide +kernel
theorem dX4_init_12 : decode mX4_init.2.1 12 = .ok (.aload_n 0, 1) := by decide +kernel
theorem dX4_init_13 : decode mX4_init.2.1 13 = .ok (.bipush 9, 2) := by decide +kernel
theorem dX4_init_15 : decode mX4_init.2.1 15 = .ok (.newarray .int, 2) := by decide +kernel
theorem dX4_init_17 : decode mX4_init.2.1 17 = .ok (.putfield 15, 3) := by decide +kernel
theorem dX4_init_20 : decode mX4_init.2.1 20 = .ok (.return_, 1) := by decide +kernel
theorem dX4_distance_0 : decode mX4_distance.2.1 0 = .ok (.iconst 0, 1) := by decide +kernel
theorem dX4_distance_1 : decode mX4_distance.2.1 1 = .ok (.istore_n 3, 1) := by decide +kernel
theorem dX4_distance_2 : decode mX4_distance.2.1 2 = .ok (.iload_n 3, 1) := by decide +kernel
theorem dX4_distance_3 : decode mX4_distance.2.1 3 = .ok (.aload_n 2, 1) := by decide +kernel
theorem dX4_distance_4 : decode mX4_distance.2.1 4 = .ok (.getfield 18, 3) := by decide +kernel
theorem dX4_distance_7 : decode mX4_distance.2.1 7 = .ok (.if_icmp .gt 18, 3) := by decide +kernel
theorem dX4_distance_10 : decode mX4_distance.2.1 10 = .ok (.aload_n 0, 1) := by decide +kernel
theorem dX4_distance_11 : decode mX4_distance.2.1 11 = .ok (.getfield 15, 3) := by decide +kernel
theorem dX4_distance_14 : decode mX4_distance.2.1 14 = .ok (.iload_n 3, 1) := by decide +kernel
theorem dX4_distance_15 : decode mX4_distance.2.1 15 = .ok (.iconst 2, 1) := by decide +kernel
theorem dX4_distance_16 : decode mX4_distance.2.1 16 = .ok (.iload_n 3, 1) := by decide +kernel
theorem dX4_distance_17 : decode mX4_distance.2.1 17 = .ok (.imul, 1) := by decide +kernel
theorem dX4_distance_18 : decode mX4_distance.2.1 18 = .ok (.iastore, 1) := by decide +kernel
theorem dX4_distance_19 : decode mX4_distance.2.1 19 = .ok (.iinc 3 1, 3) := by decide +kernel
theorem dX4_distance_22 : decode mX4_distance.2.1 22 = .ok (.goto (-20), 3) := by decide +kernel
theorem dX4_distance_25 : decode mX4_distance.2.1 25 = .ok (.iconst 1, 1) := by decide +kernel
theorem dX4_distance_26 : decode mX4_distance.2.1 26 = .ok (.istore_n 3, 1) := by decide +kernel
theorem dX4_distance_27 : decode mX4_distance.2.1 27 = .ok (.iload_n 3, 1) := by decide +kernel
theorem dX4_distance_28 : decode mX4_distance.2.1 28 = .ok (.aload_n 1, 1) := by decide +kernel
theorem dX4_distance_29 : decode mX4_distance.2.1 29 = .ok (.getfield 18, 3) := by decide +kernel
theorem dX4_distance_32 : decode mX4_distance.2.1 32 = .ok (.if_icmp .gt 121, 3) := by decide +kernel
theorem dX4_distance_35 : decode mX4_distance.2.1 35 = .ok (.aload_n 0, 1) := by decide +kernel
theorem dX4_distance_36 : decode mX4_distance.2.1 36 = .ok (.getfield 9, 3) := by decide +kernel
theorem dX4_distance_39 : decode mX4_distance.2.1 39 = .ok (.astore 4, 2) := by decide +kernel
theorem dX4_distance_41 : decode mX4_distance.2.1 41 = .ok (.aload_n 0, 1) := by decide +kernel
theorem dX4_distance_42 : decode mX4_distance.2.1 42 = .ok (.aload_n 0, 1) := by decide +kernel
theorem dX4_distance_43 : decode mX4_distance.2.1 43 = .ok (.getfield 15, 3) := by decide +kernel
theorem dX4_distance_46 : decode mX4_distance.2.1 46 = .ok (.putfield 9, 3) := by decide +kernel
theorem dX4_distance_49 : decode mX4_distance.2.1 49 = .ok (.aload_n 0, 1) := by decide +kernel
theorem dX4_distance_50 : decode mX4_distance.2.1 50 = .ok (.aload 4, 2) := by decide +kernel
theorem dX4_distance_52 : decode mX4_distance.2.1 52 = .ok (.putfield 15, 3) := by decide +kernel
theorem dX4_distance_55 : decode mX4_distance.2.1 55 = .ok (.aload_n 0, 1) := by decide +kernel
theorem dX4_distance_56 : decode mX4_distance.2.1 56 = .ok (.getfield 15, 3) := by decide +kernel
theorem dX4_distance_59 : decode mX4_distance.2.1 59 = .ok (.iconst 0, 1) := by decide +kernel
theorem dX4_distance_60 : decode mX4_distance.2.1 60 = .ok (.iconst 2, 1) := by decide +kernel
theorem dX4_distance_61 : decode mX4_distance.2.1 61 = .ok (.iload_n 3, 1) := by decide +kernel
theorem dX4_distance_62 : decode mX4_distance.2.1 62 = .ok (.imul, 1) := by decide +kernel
theorem dX4_distance_63 : decode mX4_distance.2.1 63 = .ok (.iastore, 1) := by decide +kernel
theorem dX4_distance_64 : decode mX4_distance.2.1 64 = .ok (.iconst 1, 1) := by decide +kernel
theorem dX4_distance_65 : decode mX4_distance.2.1 65 = .ok (.istore 5, 2) := by decide +kernel
theorem dX4_distance_67 : decode mX4_distance.2.1 67 = .ok (.iload 5, 2) := by decide +kernel
theorem dX4_distance_69 : decode mX4_distance.2.1 69 = .ok (.aload_n 2, 1) := by decide +kernel
theorem dX4_distance_70 : decode mX4_distance.2.1 70 = .ok (.getfield 18, 3) := by decide +kernel
theorem dX4_distance_73 : decode mX4_distance.2.1 73 = .ok (.if_icmp .gt 74, 3) := by decide +kernel
theorem dX4_distance_76 : decode mX4_distance.2.1 76 = .ok (.aload_n 0, 1) := by decide +kernel
theorem dX4_distance_77 : decode mX4_distance.2.1 77 = .ok (.getfield 9, 3) := by decide +kernel
theorem dX4_distance_80 : decode mX4_distance.2.1 80 = .ok (.iload 5, 2) := by decide +kernel
theorem dX4_distance_82 : decode mX4_distance.2.1 82 = .ok (.iconst 1, 1) := by decide +kernel
theorem dX4_distance_83 : decode mX4_distance.2.1 83 = .ok (.isub, 1) := by decide +kernel
theorem dX4_distance_84 : decode mX4_distance.2.1 84 = .ok (.iaload, 1) := by decide +kernel
theorem dX4_distance_85 : decode mX4_distance.2.1 85 = .ok (.aload_n 1, 1) := by decide +kernel
theorem dX4_distance_86 : decode mX4_distance.2.1 86 = .ok (.getfield 24, 3) := by decide +kernel
theorem dX4_distance_89 : decode mX4_distance.2.1 89 = .ok (.iload_n 3, 1) := by decide +kernel
theorem dX4_distance_90 : decode mX4_distance.2.1 90 = .ok (.iconst 1, 1) := by decide +kernel
theorem dX4_distance_91 : decode mX4_distance.2.1 91 = .ok (.isub, 1) := by decide +kernel
theorem dX4_distance_92 : decode mX4_distance.2.1 92 = .ok (.iaload, 1) := by decide +kernel
theorem dX4_distance_93 : decode mX4_distance.2.1 93 = .ok (.aload_n 2, 1) := by decide +kernel
theorem dX4_distance_94 : decode mX4_distance.2.1 94 = .ok (.getfield 24, 3) := by decide +kernel
theorem dX4_distance_97 : decode mX4_distance.2.1 97 = .ok (.iload 5, 2) := by decide +kernel
theorem dX4_distance_99 : decode mX4_distance.2.1 99 = .ok (.iconst 1, 1) := by decide +kernel
theorem dX4_distance_100 : decode mX4_distance.2.1 100 = .ok (.isub, 1) := by decide +kernel
theorem dX4_distance_101 : decode mX4_distance.2.1 101 = .ok (.iaload, 1) := by decide +kernel
theorem dX4_distance_102 : decode mX4_distance.2.1 102 = .ok (.invokestatic 27, 3) := by decide +kernel
theorem dX4_distance_105 : decode mX4_distance.2.1 105 = .ok (.iadd, 1) := by decide +kernel
theorem dX4_distance_106 : decode mX4_distance.2.1 106 = .ok (.istore 6, 2) := by decide +kernel
theorem dX4_distance_108 : decode mX4_distance.2.1 108 = .ok (.aload_n 0, 1) := by decide +kernel
theorem dX4_distance_109 : decode mX4_distance.2.1 109 = .ok (.getfield 15, 3) := by decide +kernel
theorem dX4_distance_112 : decode mX4_distance.2.1 112 = .ok (.iload 5, 2) := by decide +kernel
theorem dX4_distance_114 : decode mX4_distance.2.1 114 = .ok (.iload 6, 2) := by decide +kernel
theorem dX4_distance_116 : decode mX4_distance.2.1 116 = .ok (.iconst 2, 1) := by decide +kernel
theorem dX4_distance_117 : decode mX4_distance.2.1 117 = .ok (.aload_n 0, 1) := by decide +kernel
theorem dX4_distance_118 : decode mX4_distance.2.1 118 = .ok (.getfield 9, 3) := by decide +kernel
theorem dX4_distance_121 : decode mX4_distance.2.1 121 = .ok (.iload 5, 2) := by decide +kernel
theorem dX4_distance_123 : decode mX4_distance.2.1 123 = .ok (.iaload, 1) := by decide +kernel
theorem dX4_distance_124 : decode mX4_distance.2.1 124 = .ok (.aload_n 0, 1) := by decide +kernel
theorem dX4_distance_125 : decode mX4_distance.2.1 125 = .ok (.getfield 15, 3) := by decide +kernel
theorem dX4_distance_128 : decode mX4_distance.2.1 128 = .ok (.iload 5, 2) := by decide +kernel
theorem dX4_distance_130 : decode mX4_distance.2.1 130 = .ok (.iconst 1, 1) := by decide +kernel
theorem dX4_distance_131 : decode mX4_distance.2.1 131 = .ok (.isub, 1) := by decide +kernel
theorem dX4_distance_132 : decode mX4_distance.2.1 132 = .ok (.iaload, 1) := by decide +kernel
theorem dX4_distance_133 : decode mX4_distance.2.1 133 = .ok (.invokestatic 31, 3) := by decide +kernel
theorem dX4_distance_136 : decode mX4_distance.2.1 136 = .ok (.iadd, 1) := by decide +kernel
theorem dX4_distance_137 : decode mX4_distance.2.1 137 = .ok (.invokestatic 31, 3) := by decide +kernel
theorem dX4_distance_140 : decode mX4_distance.2.1 140 = .ok (.iastore, 1) := by decide +kernel
theorem dX4_distance_141 : decode mX4_distance.2.1 141 = .ok (.iinc 5 1, 3) := by decide +kernel
theorem dX4_distance_144 : decode mX4_distance.2.1 144 = .ok (.goto (-77), 3) := by decide +kernel
theorem dX4_distance_147 : decode mX4_distance.2.1 147 = .ok (.iinc 3 1, 3) := by decide +kernel
theorem dX4_distance_150 : decode mX4_distance.2.1 150 = .ok (.goto (-123), 3) := by decide +kernel
theorem dX4_distance_153 : decode mX4_distance.2.1 153 = .ok (.aload_n 0, 1) := by decide +kernel
theorem dX4_distance_154 : decode mX4_distance.2.1 154 = .ok (.getfield 15, 3) := by decide +kernel
theorem dX4_distance_157 : decode mX4_distance.2.1 157 = .ok (.aload_n 2, 1) := by decide +kernel
theorem dX4_distance_158 : decode mX4_distance.2.1 158 = .ok (.getfield 18, 3) := by decide +kernel
theorem dX4_distance_161 : decode mX4_distance.2.1 161 = .ok (.iaload, 1) := by decide +kernel
theorem dX4_distance_162 : decode mX4_distance.2.1 162 = .ok (.ireturn, 1) := by decide +kernel
theorem dX4_costOfMaking_0 : decode mX4_costOfMaking.2.1 0 = .ok (.iload_n 0, 1) := by decide +kernel
theorem dX4_costOfMaking_1 : decode mX4_costOfMaking.2.1 1 = .ok (.iload_n 1, 1) := by decide +kernel
theorem dX4_costOfMaking_2 : decode mX4_costOfMaking.2.1 2 = .ok (.if_icmp .ne 5, 3) := by decide +kernel
theorem dX4_costOfMaking_5 : decode mX4_costOfMaking.2.1 5 = .ok (.iconst 0, 1) := by decide +kernel
theorem dX4_costOfMaking_6 : decode mX4_costOfMaking.2.1 6 = .ok (.ireturn, 1) := by decide +kernel
theorem dX4_costOfMaking_7 : decode mX4_costOfMaking.2.1 7 = .ok (.iload_n 0, 1) := by decide +kernel
theorem dX4_costOfMaking_8 : decode mX4_costOfMaking.2.1 8 = .ok (.invokestatic 36, 3) := by decide +kernel
theorem dX4_costOfMaking_11 : decode mX4_costOfMaking.2.1 11 = .ok (.iload_n 1, 1) := by decide +kernel
theorem dX4_costOfMaking_12 : decode mX4_costOfMaking.2.1 12 = .ok (.invokestatic 36, 3) := by decide +kernel
theorem dX4_costOfMaking_15 : decode mX4_costOfMaking.2.1 15 = .ok (.if_icmp .ne 7, 3) := by decide +kernel
theorem dX4_costOfMaking_18 : decode mX4_costOfMaking.2.1 18 = .ok (.iconst 1, 1) := by decide +kernel
theorem dX4_costOfMaking_19 : decode mX4_costOfMaking.2.1 19 = .ok (.goto 4, 3) := by decide +kernel
theorem dX4_costOfMaking_22 : decode mX4_costOfMaking.2.1 22 = .ok (.iconst 2, 1) := by decide +kernel
theorem dX4_costOfMaking_23 : decode mX4_costOfMaking.2.1 23 = .ok (.ireturn, 1) := by decide +kernel
theorem dX5_init_0 : decode mX5_init.2.1 0 = .ok (.aload_n 0, 1) := by decide +kernel
theorem dX5_init_1 : decode mX5_init.2.1 1 = .ok (.invokespecial 3, 3) := by decide +kernel
theorem dX5_init_4 : decode mX5_init.2.1 4 = .ok (.aload_n 0, 1) := by decide +kernel
theorem dX5_init_5 : decode mX5_init.2.1 5 = .ok (.bipush 60, 2) := by decide +kernel
theorem dX5_init_7 : decode mX5_init.2.1 7 = .ok (.newarray .int, 2) := by decide +kernel
theorem dX5_init_9 : decode mX5_init.2.1 9 = .ok (.putfield 9, 3) := by decide +kernel
theorem dX5_init_12 : decode mX5_init.2.1 12 = .ok (.return_, 1) := by decide +kernel
theorem dX5_put_0 : decode mX5_put.2.1 0 = .ok (.aload_n 0, 1) := by decide +kernel
theorem dX5_put_1 : decode mX5_put.2.1 1 = .ok (.getfield 15, 3) := by decide +kernel
theorem dX5_put_4 : decode mX5_put.2.1 4 = .ok (.bipush 60, 2) := by decide +kernel
theorem dX5_put_6 : decode mX5_put.2.1 6 = .ok (.if_icmp .ge 23, 3) := by decide +kernel
theorem dX5_put_9 : decode mX5_put.2.1 9 = .ok (.aload_n 0, 1) := by decide +kernel
theorem dX5_put_10 : decode mX5_put.2.1 10 = .ok (.getfield 9, 3) := by decide +kernel
theorem dX5_put_13 : decode mX5_put.2.1 13 = .ok (.aload_n 0, 1) := by decide +kernel
theorem dX5_put_14 : decode mX5_put.2.1 14 = .ok (.getfield 15, 3) := by decide +kernel
theorem dX5_put_17 : decode mX5_put.2.1 17 = .ok (.iload_n 1, 1) := by decide +kernel
theorem dX5_put_18 : decode mX5_put.2.1 18 = .ok (.iastore, 1) := by decide +kernel
theorem dX5_put_19 : decode mX5_put.2.1 19 = .ok (.aload_n 0, 1) := by decide +kernel
theorem dX5_put_20 : decode mX5_put.2.1 20 = .ok (.dup, 1) := by decide +kernel
theorem dX5_put_21 : decode mX5_put.2.1 21 = .ok (.getfield 15, 3) := by decide +kernel
theorem dX5_put_24 : decode mX5_put.2.1 24 = .ok (.iconst 1, 1) := by decide +kernel
theorem dX5_put_25 : decode mX5_put.2.1 25 = .ok (.iadd, 1) := by decide +kernel
theorem dX5_put_26 : decode mX5_put.2.1 26 = .ok (.putfield 15, 3) := by decide +kernel
theorem dX5_put_29 : decode mX5_put.2.1 29 = .ok (.return_, 1) := by decide +kernel
theorem dX6_init_0 : decode mX6_init.2.1 0 = .ok (.aload_n 0, 1) := by decide +kernel
theorem dX6_init_1 : decode mX6_init.2.1 1 = .ok (.invokespecial 3, 3) := by decide +kernel
theorem dX6_init_4 : decode mX6_init.2.1 4 = .ok (.aload_n 0, 1) := by decide +kernel
theorem dX6_init_5 : decode mX6_init.2.1 5 = .ok (.bipush 18, 2) := by decide +kernel
theorem dX6_init_7 : decode mX6_init.2.1 7 = .ok (.bipush 18, 2) := by decide +kernel
theorem dX6_init_9 : decode mX6_init.2.1 9 = .ok (.multianewarray 9 2, 4) := by decide +kernel
theorem dX6_init_13 : decode mX6_init.2.1 13 = .ok (.putfield 11, 3) := by decide +kernel
theorem dX6_init_16 : decode mX6_init.2.1 16 = .ok (.aload_n 0, 1) := by decide +kernel
theorem dX6_init_17 : decode mX6_init.2.1 17 = .ok (.bipush 18, 2) := by decide +kernel
theorem dX6_init_19 : decode mX6_init.2.1 19 = .ok (.bipush 18, 2) := by decide +kernel
theorem dX6_init_21 : decode mX6_init.2.1 21 = .ok (.multianewarray 9 2, 4) := by decide +kernel
theorem dX6_init_25 : decode mX6_init.2.1 25 = .ok (.putfield 16, 3) := by decide +kernel
theorem dX6_init_28 : decode mX6_init.2.1 28 = .ok (.return_, 1) := by decide +kernel
theorem dX6_settle_0 : decode mX6_settle.2.1 0 = .ok (.aload_n 0, 1) := by decide +kernel
theorem dX6_settle_1 : decode mX6_settle.2.1 1 = .ok (.aload_n 1, 1) := by decide +kernel
theorem dX6_settle_2 : decode mX6_settle.2.1 2 = .ok (.getfield 19, 3) := by decide +kernel
theorem dX6_settle_5 : decode mX6_settle.2.1 5 = .ok (.putfield 25, 3) := by decide +kernel
theorem dX6_settle_8 : decode mX6_settle.2.1 8 = .ok (.iconst 0, 1) := by decide +kernel
theorem dX6_settle_9 : decode mX6_settle.2.1 9 = .ok (.istore_n 3, 1) := by decide +kernel
theorem dX6_settle_10 : decode mX6_settle.2.1 10 = .ok (.iload_n 3, 1) := by decide +kernel
theorem dX6_settle_11 : decode mX6_settle.2.1 11 = .ok (.aload_n 0, 1) := by decide +kernel
theorem dX6_settle_12 : decode mX6_settle.2.1 12 = .ok (.getfield 25, 3) := by decide +kernel
theorem dX6_settle_15 : decode mX6_settle.2.1 15 = .ok (.if_icmp .ge 42, 3) := by decide +kernel
theorem dX6_settle_18 : decode mX6_settle.2.1 18 = .ok (.aload_n 0, 1) := by decide +kernel
theorem dX6_settle_19 : decode mX6_settle.2.1 19 = .ok (.getfield 16, 3) := by decide +kernel
theorem dX6_settle_22 : decode mX6_settle.2.1 22 = .ok (.iload_n 3, 1) := by decide +kernel
theorem dX6_settle_23 : decode mX6_settle.2.1 23 = .ok (.aaload, 1) := by decide +kernel
theorem dX6_settle_24 : decode mX6_settle.2.1 24 = .ok (.iload_n 3, 1) := by decide +kernel
theorem dX6_settle_25 : decode mX6_settle.2.1 25 = .ok (.iconst (-1), 1) := by decide +kernel
theorem dX6_settle_26 : decode mX6_settle.2.1 26 = .ok (.iastore, 1) := by decide +kernel
theorem dX6_settle_27 : decode mX6_settle.2.1 27 = .ok (.iconst 0, 1) := by decide +kernel
theorem dX6_settle_28 : decode mX6_settle.2.1 28 = .ok (.istore 4, 2) := by decide +kernel
theorem dX6_settle_30 : decode mX6_settle.2.1 30 = .ok (.iload 4, 2) := by decide +kernel
theorem dX6_settle_32 : decode mX6_settle.2.1 32 = .ok (.iload_n 3, 1) := by decide +kernel
theorem dX6_settle_33 : decode mX6_settle.2.1 33 = .ok (.if_icmp .ge 18, 3) := by decide +kernel
theorem dX6_settle_36 : decode mX6_settle.2.1 36 = .ok (.aload_n 0, 1) := by decide +kernel
theorem dX6_settle_37 : decode mX6_settle.2.1 37 = .ok (.aload_n 1, 1) := by decide +kernel
theorem dX6_settle_38 : decode mX6_settle.2.1 38 = .ok (.iload_n 3, 1) := by decide +kernel
theorem dX6_settle_39 : decode mX6_settle.2.1 39 = .ok (.iload 4, 2) := by decide +kernel
theorem dX6_settle_41 : decode mX6_settle.2.1 41 = .ok (.iload_n 2, 1) := by decide +kernel
theorem dX6_settle_42 : decode mX6_settle.2.1 42 = .ok (.invokevirtual 26, 3) := by decide +kernel
theorem dX6_settle_45 : decode mX6_settle.2.1 45 = .ok (.iinc 4 1, 3) := by decide +kernel
theorem dX6_settle_48 : decode mX6_settle.2.1 48 = .ok (.goto (-18), 3) := by decide +kernel
theorem dX6_settle_51 : decode mX6_settle.2.1 51 = .ok (.iinc 3 1, 3) := by decide +kernel
theorem dX6_settle_54 : decode mX6_settle.2.1 54 = .ok (.goto (-44), 3) := by decide +kernel
theorem dX6_settle_57 : decode mX6_settle.2.1 57 = .ok (.return_, 1) := by decide +kernel
theorem dX6_fit_0 : decode mX6_fit.2.1 0 = .ok (.aload_n 0, 1) := by decide +kernel
theorem dX6_fit_1 : decode mX6_fit.2.1 1 = .ok (.getfield 16, 3) := by decide +kernel
theorem dX6_fit_4 : decode mX6_fit.2.1 4 = .ok (.iload_n 1, 1) := by decide +kernel
theorem dX6_fit_5 : decode mX6_fit.2.1 5 = .ok (.aaload, 1) := by decide +kernel
theorem dX6_fit_6 : decode mX6_fit.2.1 6 = .ok (.iload_n 2, 1) := by decide +kernel
theorem dX6_fit_7 : decode mX6_fit.2.1 7 = .ok (.iaload, 1) := by decide +kernel
theorem dX6_fit_8 : decode mX6_fit.2.1 8 = .ok (.iconst (-1), 1) := by decide +kernel
theorem dX6_fit_9 : decode mX6_fit.2.1 9 = .ok (.if_icmp .eq 7, 3) := by decide +kernel
theorem dX6_fit_12 : decode mX6_fit.2.1 12 = .ok (.iconst 1, 1) := by decide +kernel
theorem dX6_fit_13 : decode mX6_fit.2.1 13 = .ok (.goto 4, 3) := by decide +kernel
theorem dX6_fit_16 : decode mX6_fit.2.1 16 = .ok (.iconst 0, 1) := by decide +kernel
theorem dX6_fit_17 : decode mX6_fit.2.1 17 = .ok (.ireturn, 1) := by decide +kernel
theorem dX6_countFitting_0 : decode mX6_countFitting.2.1 0 = .ok (.iconst 0, 1) := by decide +kernel
theorem dX6_countFitting_1 : decode mX6_countFitting.2.1 1 = .ok (.istore_n 2, 1) := by decide +kernel
theorem dX6_countFitting_2 : decode mX6_countFitting.2.1 2 = .ok (.iconst 0, 1) := by decide +kernel
theorem dX6_countFitting_3 : decode mX6_countFitting.2.1 3 = .ok (.istore_n 3, 1) := by decide +kernel
theorem dX6_countFitting_4 : decode mX6_countFitting.2.1 4 = .ok (.iload_n 3, 1) := by decide +kernel
theorem dX6_countFitting_5 : decode mX6_countFitting.2.1 5 = .ok (.aload_n 0, 1) := by decide +kernel
theorem dX6_countFitting_6 : decode mX6_countFitting.2.1 6 = .ok (.getfield 25, 3) := by decide +kernel
theorem dX6_countFitting_9 : decode mX6_countFitting.2.1 9 = .ok (.if_icmp .ge 26, 3) := by decide +kernel
theorem dX6_countFitting_12 : decode mX6_countFitting.2.1 12 = .ok (.iload_n 2, 1) := by decide +kernel
theorem dX6_countFitting_13 : decode mX6_countFitting.2.1 13 = .ok (.aload_n 0, 1) := by decide +kernel
theorem dX6_countFitting_14 : decode mX6_countFitting.2.1 14 = .ok (.iload_n 1, 1) := by decide +kernel
theorem dX6_countFitting_15 : decode mX6_countFitting.2.1 15 = .ok (.iload_n 3, 1) := by decide +kernel
theorem dX6_countFitting_16 : decode mX6_countFitting.2.1 16 = .ok (.invokevirtual 30, 3) := by decide +kernel
theorem dX6_countFitting_19 : decode mX6_countFitting.2.1 19 = .ok (.ifCond .eq 7, 3) := by decide +kernel
theorem dX6_countFitting_22 : decode mX6_countFitting.2.1 22 = .ok (.iconst 1, 1) := by decide +kernel
theorem dX6_countFitting_23 : decode mX6_countFitting.2.1 23 = .ok (.goto 4, 3) := by decide +kernel
theorem dX6_countFitting_26 : decode mX6_countFitting.2.1 26 = .ok (.iconst 0, 1) := by decide +kernel
theorem dX6_countFitting_27 : decode mX6_countFitting.2.1 27 = .ok (.iadd, 1) := by decide +kernel
theorem dX6_countFitting_28 : decode mX6_countFitting.2.1 28 = .ok (.istore_n 2, 1) := by decide +kernel
theorem dX6_countFitting_29 : decode mX6_countFitting.2.1 29 = .ok (.iinc 3 1, 3) := by decide +kernel
theorem dX6_countFitting_32 : decode mX6_countFitting.2.1 32 = .ok (.goto (-28), 3) := by decide +kernel
theorem dX6_countFitting_35 : decode mX6_countFitting.2.1 35 = .ok (.iload_n 2, 1) := by decide +kernel
theorem dX6_countFitting_36 : decode mX6_countFitting.2.1 36 = .ok (.ireturn, 1) := by decide +kernel
theorem dX6_bestFor_0 : decode mX6_bestFor.2.1 0 = .ok (.iconst (-1), 1) := by decide +kernel
theorem dX6_bestFor_1 : decode mX6_bestFor.2.1 1 = .ok (.istore_n 2, 1) := by decide +kernel
theorem dX6_bestFor_2 : decode mX6_bestFor.2.1 2 = .ok (.iconst 0, 1) := by decide +kernel
theorem dX6_bestFor_3 : decode mX6_bestFor.2.1 3 = .ok (.istore_n 3, 1) := by decide +kernel
theorem dX6_bestFor_4 : decode mX6_bestFor.2.1 4 = .ok (.iload_n 3, 1) := by decide +kernel
theorem dX6_bestFor_5 : decode mX6_bestFor.2.1 5 = .ok (.aload_n 0, 1) := by decide +kernel
theorem dX6_bestFor_6 : decode mX6_bestFor.2.1 6 = .ok (.getfield 25, 3) := by decide +kernel
theorem dX6_bestFor_9 : decode mX6_bestFor.2.1 9 = .ok (.if_icmp .ge 44, 3) := by decide +kernel
theorem dX6_bestFor_12 : decode mX6_bestFor.2.1 12 = .ok (.aload_n 0, 1) := by decide +kernel
theorem dX6_bestFor_13 : decode mX6_bestFor.2.1 13 = .ok (.iload_n 1, 1) := by decide +kernel
theorem dX6_bestFor_14 : decode mX6_bestFor.2.1 14 = .ok (.iload_n 3, 1) := by decide +kernel
theorem dX6_bestFor_15 : decode mX6_bestFor.2.1 15 = .ok (.invokevirtual 30, 3) := by decide +kernel
theorem dX6_bestFor_18 : decode mX6_bestFor.2.1 18 = .ok (.ifCond .eq 29, 3) := by decide +kernel
theorem dX6_bestFor_21 : decode mX6_bestFor.2.1 21 = .ok (.iload_n 2, 1) := by decide +kernel
theorem dX6_bestFor_22 : decode mX6_bestFor.2.1 22 = .ok (.iconst (-1), 1) := by decide +kernel
theorem dX6_bestFor_23 : decode mX6_bestFor.2.1 23 = .ok (.if_icmp .eq 22, 3) := by decide +kernel
theorem dX6_bestFor_26 : decode mX6_bestFor.2.1 26 = .ok (.aload_n 0, 1) := by decide +kernel
theorem dX6_bestFor_27 : decode mX6_bestFor.2.1 27 = .ok (.getfield 16, 3) := by decide +kernel
theorem dX6_bestFor_30 : decode mX6_bestFor.2.1 30 = .ok (.iload_n 1, 1) := by decide +kernel
theorem dX6_bestFor_31 : decode mX6_bestFor.2.1 31 = .ok (.aaload, 1) := by decide +kernel
theorem dX6_bestFor_32 : decode mX6_bestFor.2.1 32 = .ok (.iload_n 3, 1) := by decide +kernel
theorem dX6_bestFor_33 : decode mX6_bestFor.2.1 33 = .ok (.iaload, 1) := by decide +kernel
theorem dX6_bestFor_34 : decode mX6_bestFor.2.1 34 = .ok (.aload_n 0, 1) := by decide +kernel
theorem dX6_bestFor_35 : decode mX6_bestFor.2.1 35 = .ok (.getfield 16, 3) := by decide +kernel
theorem dX6_bestFor_38 : decode mX6_bestFor.2.1 38 = .ok (.iload_n 1, 1) := by decide +kernel
theorem dX6_bestFor_39 : decode mX6_bestFor.2.1 39 = .ok (.aaload, 1) := by decide +kernel
theorem dX6_bestFor_40 : decode mX6_bestFor.2.1 40 = .ok (.iload_n 2, 1) := by decide +kernel
theorem dX6_bestFor_41 : decode mX6_bestFor.2.1 41 = .ok (.iaload, 1) := by decide +kernel
theorem dX6_bestFor_42 : decode mX6_bestFor.2.1 42 = .ok (.if_icmp .le 5, 3) := by decide +kernel
theorem dX6_bestFor_45 : decode mX6_bestFor.2.1 45 = .ok (.iload_n 3, 1) := by decide +kernel
theorem dX6_bestFor_46 : decode mX6_bestFor.2.1 46 = .ok (.istore_n 2, 1) := by decide +kernel
theorem dX6_bestFor_47 : decode mX6_bestFor.2.1 47 = .ok (.iinc 3 1, 3) := by decide +kernel
theorem dX6_bestFor_50 : decode mX6_bestFor.2.1 50 = .ok (.goto (-46), 3) := by decide +kernel
theorem dX6_bestFor_53 : decode mX6_bestFor.2.1 53 = .ok (.iload_n 2, 1) := by decide +kernel
theorem dX6_bestFor_54 : decode mX6_bestFor.2.1 54 = .ok (.ireturn, 1) := by decide +kernel
theorem dX6_fitFirst_0 : decode mX6_fitFirst.2.1 0 = .ok (.iconst 0, 1) := by decide +kernel
theorem dX6_fitFirst_1 : decode mX6_fitFirst.2.1 1 = .ok (.istore 4, 2) := by decide +kernel
theorem dX6_fitFirst_3 : decode mX6_fitFirst.2.1 3 = .ok (.iload 4, 2) := by decide +kernel
theorem dX6_fitFirst_5 : decode mX6_fitFirst.2.1 5 = .ok (.iload_n 3, 1) := by decide +kernel
theorem dX6_fitFirst_6 : decode mX6_fitFirst.2.1 6 = .ok (.if_icmp .ge 23, 3) := by decide +kernel
theorem dX6_fitFirst_9 : decode mX6_fitFirst.2.1 9 = .ok (.aload_n 0, 1) := by decide +kernel
theorem dX6_fitFirst_10 : decode mX6_fitFirst.2.1 10 = .ok (.iload_n 1, 1) := by decide +kernel
theorem dX6_fitFirst_11 : decode mX6_fitFirst.2.1 11 = .ok (.aload_n 2, 1) := by decide +kernel
theorem dX6_fitFirst_12 : decode mX6_fitFirst.2.1 12 = .ok (.iload 4, 2) := by decide +kernel
theorem dX6_fitFirst_14 : decode mX6_fitFirst.2.1 14 = .ok (.iaload, 1) := by decide +kernel
theorem dX6_fitFirst_15 : decode mX6_fitFirst.2.1 15 = .ok (.invokevirtual 30, 3) := by decide +kernel
theorem dX6_fitFirst_18 : decode mX6_fitFirst.2.1 18 = .ok (.ifCond .ne 5, 3) := by decide +kernel
theorem dX6_fitFirst_21 : decode mX6_fitFirst.2.1 21 = .ok (.iconst 0, 1) := by decide +kernel
theorem dX6_fitFirst_22 : decode mX6_fitFirst.2.1 22 = .ok (.ireturn, 1) := by decide +kernel
theorem dX6_fitFirst_23 : decode mX6_fitFirst.2.1 23 = .ok (.iinc 4 1, 3) := by decide +kernel
theorem dX6_fitFirst_26 : decode mX6_fitFirst.2.1 26 = .ok (.goto (-23), 3) := by decide +kernel
theorem dX6_fitFirst_29 : decode mX6_fitFirst.2.1 29 = .ok (.iconst 1, 1) := by decide +kernel
theorem dX6_fitFirst_30 : decode mX6_fitFirst.2.1 30 = .ok (.ireturn, 1) := by decide +kernel
theorem dX6_meanWorth_0 : decode mX6_meanWorth.2.1 0 = .ok (.iload_n 3, 1) := by decide +kernel
theorem dX6_meanWorth_1 : decode mX6_meanWorth.2.1 1 = .ok (.ifCond .gt 5, 3) := by decide +kernel
theorem dX6_meanWorth_4 : decode mX6_meanWorth.2.1 4 = .ok (.iconst (-1), 1) := by decide +kernel
theorem dX6_meanWorth_5 : decode mX6_meanWorth.2.1 5 = .ok (.ireturn, 1) := by decide +kernel
theorem dX6_meanWorth_6 : decode mX6_meanWorth.2.1 6 = .ok (.iconst 0, 1) := by decide +kernel
theorem dX6_meanWorth_7 : decode mX6_meanWorth.2.1 7 = .ok (.istore 4, 2) := by decide +kernel
theorem dX6_meanWorth_9 : decode mX6_meanWorth.2.1 9 = .ok (.iconst 0, 1) := by decide +kernel
theorem dX6_meanWorth_10 : decode mX6_meanWorth.2.1 10 = .ok (.istore 5, 2) := by decide +kernel
theorem dX6_meanWorth_12 : decode mX6_meanWorth.2.1 12 = .ok (.iload 5, 2) := by decide +kernel
theorem dX6_meanWorth_14 : decode mX6_meanWorth.2.1 14 = .ok (.iload_n 3, 1) := by decide +kernel
theorem dX6_meanWorth_15 : decode mX6_meanWorth.2.1 15 = .ok (.if_icmp .ge 25, 3) := by decide +kernel
theorem dX6_meanWorth_18 : decode mX6_meanWorth.2.1 18 = .ok (.iload 4, 2) := by decide +kernel
theorem dX6_meanWorth_20 : decode mX6_meanWorth.2.1 20 = .ok (.aload_n 0, 1) := by decide +kernel
theorem dX6_meanWorth_21 : decode mX6_meanWorth.2.1 21 = .ok (.getfield 16, 3) := by decide +kernel
theorem dX6_meanWorth_24 : decode mX6_meanWorth.2.1 24 = .ok (.iload_n 1, 1) := by decide +kernel
theorem dX6_meanWorth_25 : decode mX6_meanWorth.2.1 25 = .ok (.aaload, 1) := by decide +kernel
theorem dX6_meanWorth_26 : decode mX6_meanWorth.2.1 26 = .ok (.aload_n 2, 1) := by decide +kernel
theorem dX6_meanWorth_27 : decode mX6_meanWorth.2.1 27 = .ok (.iload 5, 2) := by decide +kernel
theorem dX6_meanWorth_29 : decode mX6_meanWorth.2.1 29 = .ok (.iaload, 1) := by decide +kernel
theorem dX6_meanWorth_30 : decode mX6_meanWorth.2.1 30 = .ok (.iaload, 1) := by decide +kernel
theorem dX6_meanWorth_31 : decode mX6_meanWorth.2.1 31 = .ok (.iadd, 1) := by decide +kernel
theorem dX6_meanWorth_32 : decode mX6_meanWorth.2.1 32 = .ok (.istore 4, 2) := by decide +kernel
theorem dX6_meanWorth_34 : decode mX6_meanWorth.2.1 34 = .ok (.iinc 5 1, 3) := by decide +kernel
theorem dX6_meanWorth_37 : decode mX6_meanWorth.2.1 37 = .ok (.goto (-25), 3) := by decide +kernel
theorem dX6_meanWorth_40 : decode mX6_meanWorth.2.1 40 = .ok (.iload 4, 2) := by decide +kernel
theorem dX6_meanWorth_42 : decode mX6_meanWorth.2.1 42 = .ok (.iload_n 3, 1) := by decide +kernel
theorem dX6_meanWorth_43 : decode mX6_meanWorth.2.1 43 = .ok (.idiv, 1) := by decide +kernel
theorem dX6_meanWorth_44 : decode mX6_meanWorth.2.1 44 = .ok (.ireturn, 1) := by decide +kernel
theorem dX6_settleTwo_0 : decode mX6_settleTwo.2.1 0 = .ok (.aload_n 1, 1) := by decide +kernel
theorem dX6_settleTwo_1 : decode mX6_settleTwo.2.1 1 = .ok (.getfield 34, 3) := by decide +kernel
theorem dX6_settleTwo_4 : decode mX6_settleTwo.2.1 4 = .ok (.iload_n 2, 1) := by decide +kernel
theorem dX6_settleTwo_5 : decode mX6_settleTwo.2.1 5 = .ok (.aaload, 1) := by decide +kernel
theorem dX6_settleTwo_6 : decode mX6_settleTwo.2.1 6 = .ok (.astore 5, 2) := by decide +kernel
theorem dX6_settleTwo_8 : decode mX6_settleTwo.2.1 8 = .ok (.aload_n 1, 1) := by decide +kernel
theorem dX6_settleTwo_9 : decode mX6_settleTwo.2.1 9 = .ok (.getfield 34, 3) := by decide +kernel
theorem dX6_settleTwo_12 : decode mX6_settleTwo.2.1 12 = .ok (.iload_n 3, 1) := by decide +kernel
theorem dX6_settleTwo_13 : decode mX6_settleTwo.2.1 13 = .ok (.aaload, 1) := by decide +kernel
theorem dX6_settleTwo_14 : decode mX6_settleTwo.2.1 14 = .ok (.astore 6, 2) := by decide +kernel
theorem dX6_settleTwo_16 : decode mX6_settleTwo.2.1 16 = .ok (.aload 5, 2) := by decide +kernel
theorem dX6_settleTwo_18 : decode mX6_settleTwo.2.1 18 = .ok (.aload 6, 2) := by decide +kernel
theorem dX6_settleTwo_20 : decode mX6_settleTwo.2.1 20 = .ok (.iload 4, 2) := by decide +kernel
theorem dX6_settleTwo_22 : decode mX6_settleTwo.2.1 22 = .ok (.invokestatic 38, 3) := by decide +kernel
theorem dX6_settleTwo_25 : decode mX6_settleTwo.2.1 25 = .ok (.istore 7, 2) := by decide +kernel
theorem dX6_settleTwo_27 : decode mX6_settleTwo.2.1 27 = .ok (.aload 5, 2) := by decide +kernel
theorem dX6_settleTwo_29 : decode mX6_settleTwo.2.1 29 = .ok (.aload 6, 2) := by decide +kernel
theorem dX6_settleTwo_31 : decode mX6_settleTwo.2.1 31 = .ok (.invokevirtual 42, 3) := by decide +kernel
theorem dX6_settleTwo_34 : decode mX6_settleTwo.2.1 34 = .ok (.istore 8, 2) := by decide +kernel
theorem dX6_settleTwo_36 : decode mX6_settleTwo.2.1 36 = .ok (.iload 7, 2) := by decide +kernel
theorem dX6_settleTwo_38 : decode mX6_settleTwo.2.1 38 = .ok (.ifCond .ne 25, 3) := by decide +kernel
theorem dX6_settleTwo_41 : decode mX6_settleTwo.2.1 41 = .ok (.iload 8, 2) := by decide +kernel
theorem dX6_settleTwo_43 : decode mX6_settleTwo.2.1 43 = .ok (.ifCond .le 20, 3) := by decide +kernel
theorem dX6_settleTwo_46 : decode mX6_settleTwo.2.1 46 = .ok (.aload 5, 2) := by decide +kernel
theorem dX6_settleTwo_48 : decode mX6_settleTwo.2.1 48 = .ok (.aload 6, 2) := by decide +kernel
theorem dX6_settleTwo_50 : decode mX6_settleTwo.2.1 50 = .ok (.invokevirtual 48, 3) := by decide +kernel
theorem dX6_settleTwo_53 : decode mX6_settleTwo.2.1 53 = .ok (.sipush 200, 3) := by decide +kernel
theorem dX6_settleTwo_56 : decode mX6_settleTwo.2.1 56 = .ok (.iload 8, 2) := by decide +kernel
theorem dX6_settleTwo_58 : decode mX6_settleTwo.2.1 58 = .ok (.idiv, 1) := by decide +kernel
theorem dX6_settleTwo_59 : decode mX6_settleTwo.2.1 59 = .ok (.iadd, 1) := by decide +kernel
theorem dX6_settleTwo_60 : decode mX6_settleTwo.2.1 60 = .ok (.goto 4, 3) := by decide +kernel
theorem dX6_settleTwo_63 : decode mX6_settleTwo.2.1 63 = .ok (.iconst (-1), 1) := by decide +kernel
theorem dX6_settleTwo_64 : decode mX6_settleTwo.2.1 64 = .ok (.istore 9, 2) := by decide +kernel
theorem dX6_settleTwo_66 : decode mX6_settleTwo.2.1 66 = .ok (.aload_n 0, 1) := by decide +kernel
theorem dX6_settleTwo_67 : decode mX6_settleTwo.2.1 67 = .ok (.getfield 11, 3) := by decide +kernel
theorem dX6_settleTwo_70 : decode mX6_settleTwo.2.1 70 = .ok (.iload_n 2, 1) := by decide +kernel
theorem dX6_settleTwo_71 : decode mX6_settleTwo.2.1 71 = .ok (.aaload, 1) := by decide +kernel
theorem dX6_settleTwo_72 : decode mX6_settleTwo.2.1 72 = .ok (.iload_n 3, 1) := by decide +kernel
theorem dX6_settleTwo_73 : decode mX6_settleTwo.2.1 73 = .ok (.iload 7, 2) := by decide +kernel
theorem dX6_settleTwo_75 : decode mX6_settleTwo.2.1 75 = .ok (.iastore, 1) := by decide +kernel
theorem dX6_settleTwo_76 : decode mX6_settleTwo.2.1 76 = .ok (.aload_n 0, 1) := by decide +kernel
theorem dX6_settleTwo_77 : decode mX6_settleTwo.2.1 77 = .ok (.getfield 11, 3) := by decide +kernel
theorem dX6_settleTwo_80 : decode mX6_settleTwo.2.1 80 = .ok (.iload_n 3, 1) := by decide +kernel
theorem dX6_settleTwo_81 : decode mX6_settleTwo.2.1 81 = .ok (.aaload, 1) := by decide +kernel
theorem dX6_settleTwo_82 : decode mX6_settleTwo.2.1 82 = .ok (.iload_n 2, 1) := by decide +kernel
theorem dX6_settleTwo_83 : decode mX6_settleTwo.2.1 83 = .ok (.iload 7, 2) := by decide +kernel
theorem dX6_settleTwo_85 : decode mX6_settleTwo.2.1 85 = .ok (.iastore, 1) := by decide +kernel
theorem dX6_settleTwo_86 : decode mX6_settleTwo.2.1 86 = .ok (.aload_n 0, 1) := by decide +kernel
theorem dX6_settleTwo_87 : decode mX6_settleTwo.2.1 87 = .ok (.getfield 16, 3) := by decide +kernel
theorem dX6_settleTwo_90 : decode mX6_settleTwo.2.1 90 = .ok (.iload_n 2, 1) := by decide +kernel
theorem dX6_settleTwo_91 : decode mX6_settleTwo.2.1 91 = .ok (.aaload, 1) := by decide +kernel
theorem dX6_settleTwo_92 : decode mX6_settleTwo.2.1 92 = .ok (.iload_n 3, 1) := by decide +kernel
theorem dX6_settleTwo_93 : decode mX6_settleTwo.2.1 93 = .ok (.iload 9, 2) := by decide +kernel
theorem dX6_settleTwo_95 : decode mX6_settleTwo.2.1 95 = .ok (.iastore, 1) := by decide +kernel
theorem dX6_settleTwo_96 : decode mX6_settleTwo.2.1 96 = .ok (.aload_n 0, 1) := by decide +kernel
theorem dX6_settleTwo_97 : decode mX6_settleTwo.2.1 97 = .ok (.getfield 16, 3) := by decide +kernel
theorem dX6_settleTwo_100 : decode mX6_settleTwo.2.1 100 = .ok (.iload_n 3, 1) := by decide +kernel
theorem dX6_settleTwo_101 : decode mX6_settleTwo.2.1 101 = .ok (.aaload, 1) := by decide +kernel
theorem dX6_settleTwo_102 : decode mX6_settleTwo.2.1 102 = .ok (.iload_n 2, 1) := by decide +kernel
theorem dX6_settleTwo_103 : decode mX6_settleTwo.2.1 103 = .ok (.iload 9, 2) := by decide +kernel
theorem dX6_settleTwo_105 : decode mX6_settleTwo.2.1 105 = .ok (.iastore, 1) := by decide +kernel
theorem dX6_settleTwo_106 : decode mX6_settleTwo.2.1 106 = .ok (.return_, 1) := by decide +kernel
theorem dX6_whyNot_0 : decode mX6_whyNot.2.1 0 = .ok (.aload_n 0, 1) := by decide +kernel
theorem dX6_whyNot_1 : decode mX6_whyNot.2.1 1 = .ok (.getfield 51, 3) := by decide +kernel
theorem dX6_whyNot_4 : decode mX6_whyNot.2.1 4 = .ok (.ifCond .ne 12, 3) := by decide +kernel
theorem dX6_whyNot_7 : decode mX6_whyNot.2.1 7 = .ok (.aload_n 1, 1) := by decide +kernel
theorem dX6_whyNot_8 : decode mX6_whyNot.2.1 8 = .ok (.getfield 51, 3) := by decide +kernel
theorem dX6_whyNot_11 : decode mX6_whyNot.2.1 11 = .ok (.ifCond .ne 5, 3) := by decide +kernel
theorem dX6_whyNot_14 : decode mX6_whyNot.2.1 14 = .ok (.iconst 1, 1) := by decide +kernel
theorem dX6_whyNot_15 : decode mX6_whyNot.2.1 15 = .ok (.ireturn, 1) := by decide +kernel
theorem dX6_whyNot_16 : decode mX6_whyNot.2.1 16 = .ok (.aload_n 0, 1) := by decide +kernel
theorem dX6_whyNot_17 : decode mX6_whyNot.2.1 17 = .ok (.getfield 51, 3) := by decide +kernel
theorem dX6_whyNot_20 : decode mX6_whyNot.2.1 20 = .ok (.iconst 2, 1) := by decide +kernel
theorem dX6_whyNot_21 : decode mX6_whyNot.2.1 21 = .ok (.if_icmp .ne 13, 3) := by decide +kernel
theorem dX6_whyNot_24 : decode mX6_whyNot.2.1 24 = .ok (.aload_n 1, 1) := by decide +kernel
theorem dX6_whyNot_25 : decode mX6_whyNot.2.1 25 = .ok (.getfield 51, 3) := by decide +kernel
theorem dX6_whyNot_28 : decode mX6_whyNot.2.1 28 = .ok (.iconst 2, 1) := by decide +kernel
theorem dX6_whyNot_29 : decode mX6_whyNot.2.1 29 = .ok (.if_icmp .ne 5, 3) := by decide +kernel
theorem dX6_whyNot_32 : decode mX6_whyNot.2.1 32 = .ok (.iconst 2, 1) := by decide +kernel
theorem dX6_whyNot_33 : decode mX6_whyNot.2.1 33 = .ok (.ireturn, 1) := by decide +kernel
theorem dX6_whyNot_34 : decode mX6_whyNot.2.1 34 = .ok (.aload_n 0, 1) := by decide +kernel
theorem dX6_whyNot_35 : decode mX6_whyNot.2.1 35 = .ok (.aload_n 1, 1) := by decide +kernel
theorem dX6_whyNot_36 : decode mX6_whyNot.2.1 36 = .ok (.invokevirtual 54, 3) := by decide +kernel
theorem dX6_whyNot_39 : decode mX6_whyNot.2.1 39 = .ok (.ifCond .eq 5, 3) := by decide +kernel
theorem dX6_whyNot_42 : decode mX6_whyNot.2.1 42 = .ok (.iconst 3, 1) := by decide +kernel
theorem dX6_whyNot_43 : decode mX6_whyNot.2.1 43 = .ok (.ireturn, 1) := by decide +kernel
theorem dX6_whyNot_44 : decode mX6_whyNot.2.1 44 = .ok (.aload_n 0, 1) := by decide +kernel
theorem dX6_whyNot_45 : decode mX6_whyNot.2.1 45 = .ok (.aload_n 1, 1) := by decide +kernel
theorem dX6_whyNot_46 : decode mX6_whyNot.2.1 46 = .ok (.invokevirtual 58, 3) := by decide +kernel
theorem dX6_whyNot_49 : decode mX6_whyNot.2.1 49 = .ok (.ifCond .ne 11, 3) := by decide +kernel
theorem dX6_whyNot_52 : decode mX6_whyNot.2.1 52 = .ok (.aload_n 1, 1) := by decide +kernel
theorem dX6_whyNot_53 : decode mX6_whyNot.2.1 53 = .ok (.aload_n 0, 1) := by decide +kernel
theorem dX6_whyNot_54 : decode mX6_whyNot.2.1 54 = .ok (.invokevirtual 58, 3) := by decide +kernel
theorem dX6_whyNot_57 : decode mX6_whyNot.2.1 57 = .ok (.ifCond .eq 5, 3) := by decide +kernel
theorem dX6_whyNot_60 : decode mX6_whyNot.2.1 60 = .ok (.iconst 4, 1) := by decide +kernel
theorem dX6_whyNot_61 : decode mX6_whyNot.2.1 61 = .ok (.ireturn, 1) := by decide +kernel
theorem dX6_whyNot_62 : decode mX6_whyNot.2.1 62 = .ok (.aload_n 0, 1) := by decide +kernel
theorem dX6_whyNot_63 : decode mX6_whyNot.2.1 63 = .ok (.aload_n 1, 1) := by decide +kernel
theorem dX6_whyNot_64 : decode mX6_whyNot.2.1 64 = .ok (.invokevirtual 42, 3) := by decide +kernel
theorem dX6_whyNot_67 : decode mX6_whyNot.2.1 67 = .ok (.ifCond .ne 5, 3) := by decide +kernel
theorem dX6_whyNot_70 : decode mX6_whyNot.2.1 70 = .ok (.iconst 5, 1) := by decide +kernel
theorem dX6_whyNot_71 : decode mX6_whyNot.2.1 71 = .ok (.ireturn, 1) := by decide +kernel
theorem dX6_whyNot_72 : decode mX6_whyNot.2.1 72 = .ok (.aload_n 0, 1) := by decide +kernel
theorem dX6_whyNot_73 : decode mX6_whyNot.2.1 73 = .ok (.aload_n 1, 1) := by decide +kernel
theorem dX6_whyNot_74 : decode mX6_whyNot.2.1 74 = .ok (.invokevirtual 48, 3) := by decide +kernel
theorem dX6_whyNot_77 : decode mX6_whyNot.2.1 77 = .ok (.iload_n 2, 1) := by decide +kernel
theorem dX6_whyNot_78 : decode mX6_whyNot.2.1 78 = .ok (.if_icmp .ge 8, 3) := by decide +kernel
theorem dX6_whyNot_81 : decode mX6_whyNot.2.1 81 = .ok (.bipush 6, 2) := by decide +kernel
theorem dX6_whyNot_83 : decode mX6_whyNot.2.1 83 = .ok (.goto 4, 3) := by decide +kernel
theorem dX6_whyNot_86 : decode mX6_whyNot.2.1 86 = .ok (.iconst 0, 1) := by decide +kernel
theorem dX6_whyNot_87 : decode mX6_whyNot.2.1 87 = .ok (.ireturn, 1) := by decide +kernel
theorem dX7_init_0 : decode mX7_init.2.1 0 = .ok (.aload_n 0, 1) := by decide +kernel
theorem dX7_init_1 : decode mX7_init.2.1 1 = .ok (.invokespecial 3, 3) := by decide +kernel
theorem dX7_init_4 : decode mX7_init.2.1 4 = .ok (.aload_n 0, 1) := by decide +kernel
theorem dX7_init_5 : decode mX7_init.2.1 5 = .ok (.iconst 3, 1) := by decide +kernel
theorem dX7_init_6 : decode mX7_init.2.1 6 = .ok (.newarray .int, 2) := by decide +kernel
theorem dX7_init_8 : decode mX7_init.2.1 8 = .ok (.putfield 9, 3) := by decide +kernel
theorem dX7_init_11 : decode mX7_init.2.1 11 = .ok (.return_, 1) := by decide +kernel
theorem dX7_start_0 : decode mX7_start.2.1 0 = .ok (.iconst 0, 1) := by decide +kernel
theorem dX7_start_1 : decode mX7_start.2.1 1 = .ok (.istore_n 1, 1) := by decide +kernel
theorem dX7_start_2 : decode mX7_start.2.1 2 = .ok (.iload_n 1, 1) := by decide +kernel
theorem dX7_start_3 : decode mX7_start.2.1 3 = .ok (.iconst 3, 1) := by decide +kernel
theorem dX7_start_4 : decode mX7_start.2.1 4 = .ok (.if_icmp .ge 16, 3) := by decide +kernel
theorem dX7_start_7 : decode mX7_start.2.1 7 = .ok (.aload_n 0, 1) := by decide +kernel
theorem dX7_start_8 : decode mX7_start.2.1 8 = .ok (.getfield 9, 3) := by decide +kernel
theorem dX7_start_11 : decode mX7_start.2.1 11 = .ok (.iload_n 1, 1) := by decide +kernel
theorem dX7_start_12 : decode mX7_start.2.1 12 = .ok (.iconst 0, 1) := by decide +kernel
theorem dX7_start_13 : decode mX7_start.2.1 13 = .ok (.iastore, 1) := by decide +kernel
theorem dX7_start_14 : decode mX7_start.2.1 14 = .ok (.iinc 1 1, 3) := by decide +kernel
theorem dX7_start_17 : decode mX7_start.2.1 17 = .ok (.goto (-15), 3) := by decide +kernel
theorem dX7_start_20 : decode mX7_start.2.1 20 = .ok (.aload_n 0, 1) := by decide +kernel
theorem dX7_start_21 : decode mX7_start.2.1 21 = .ok (.iconst 0, 1) := by decide +kernel
theorem dX7_start_22 : decode mX7_start.2.1 22 = .ok (.putfield 15, 3) := by decide +kernel
theorem dX7_start_25 : decode mX7_start.2.1 25 = .ok (.aload_n 0, 1) := by decide +kernel
theorem dX7_start_26 : decode mX7_start.2.1 26 = .ok (.iconst 0, 1) := by decide +kernel
theorem dX7_start_27 : decode mX7_start.2.1 27 = .ok (.putfield 19, 3) := by decide +kernel
theorem dX7_start_30 : decode mX7_start.2.1 30 = .ok (.aload_n 0, 1) := by decide +kernel
theorem dX7_start_31 : decode mX7_start.2.1 31 = .ok (.invokevirtual 22, 3) := by decide +kernel
theorem dX7_start_34 : decode mX7_start.2.1 34 = .ok (.return_, 1) := by decide +kernel
theorem dX7_takes_0 : decode mX7_takes.2.1 0 = .ok (.aload_n 0, 1) := by decide +kernel
theorem dX7_takes_1 : decode mX7_takes.2.1 1 = .ok (.getfield 25, 3) := by decide +kernel
theorem dX7_takes_4 : decode mX7_takes.2.1 4 = .ok (.tableswitch 68 0 3 #[32, 41, 50, 59], 32) := by decide +kernel
theorem dX7_takes_36 : decode mX7_takes.2.1 36 = .ok (.aload_n 0, 1) := by decide +kernel
theorem dX7_takes_37 : decode mX7_takes.2.1 37 = .ok (.iload_n 1, 1) := by decide +kernel
theorem dX7_takes_38 : decode mX7_takes.2.1 38 = .ok (.invokevirtual 28, 3) := by decide +kernel
theorem dX7_takes_41 : decode mX7_takes.2.1 41 = .ok (.istore_n 2, 1) := by decide +kernel
theorem dX7_takes_42 : decode mX7_takes.2.1 42 = .ok (.goto 36, 3) := by decide +kernel
theorem dX7_takes_45 : decode mX7_takes.2.1 45 = .ok (.aload_n 0, 1) := by decide +kernel
theorem dX7_takes_46 : decode mX7_takes.2.1 46 = .ok (.iload_n 1, 1) := by decide +kernel
theorem dX7_takes_47 : decode mX7_takes.2.1 47 = .ok (.invokevirtual 32, 3) := by decide +kernel
theorem dX7_takes_50 : decode mX7_takes.2.1 50 = .ok (.istore_n 2, 1) := by decide +kernel
theorem dX7_takes_51 : decode mX7_takes.2.1 51 = .ok (.goto 27, 3) := by decide +kernel
theorem dX7_takes_54 : decode mX7_takes.2.1 54 = .ok (.aload_n 0, 1) := by decide +kernel
theorem dX7_takes_55 : decode mX7_takes.2.1 55 = .ok (.iload_n 1, 1) := by decide +kernel
theorem dX7_takes_56 : decode mX7_takes.2.1 56 = .ok (.invokevirtual 35, 3) := by decide +kernel
theorem dX7_takes_59 : decode mX7_takes.2.1 59 = .ok (.istore_n 2, 1) := by decide +kernel
theorem dX7_takes_60 : decode mX7_takes.2.1 60 = .ok (.goto 18, 3) := by decide +kernel
theorem dX7_takes_63 : decode mX7_takes.2.1 63 = .ok (.aload_n 0, 1) := by decide +kernel
theorem dX7_takes_64 : decode mX7_takes.2.1 64 = .ok (.iload_n 1, 1) := by decide +kernel
theorem dX7_takes_65 : decode mX7_takes.2.1 65 = .ok (.invokevirtual 38, 3) := by decide +kernel
theorem dX7_takes_68 : decode mX7_takes.2.1 68 = .ok (.istore_n 2, 1) := by decide +kernel
theorem dX7_takes_69 : decode mX7_takes.2.1 69 = .ok (.goto 9, 3) := by decide +kernel
theorem dX7_takes_72 : decode mX7_takes.2.1 72 = .ok (.aload_n 0, 1) := by decide +kernel
theorem dX7_takes_73 : decode mX7_takes.2.1 73 = .ok (.iload_n 1, 1) := by decide +kernel
theorem dX7_takes_74 : decode mX7_takes.2.1 74 = .ok (.invokevirtual 41, 3) := by decide +kernel
theorem dX7_takes_77 : decode mX7_takes.2.1 77 = .ok (.istore_n 2, 1) := by decide +kernel
theorem dX7_takes_78 : decode mX7_takes.2.1 78 = .ok (.iload_n 2, 1) := by decide +kernel
theorem dX7_takes_79 : decode mX7_takes.2.1 79 = .ok (.ifCond .eq 13, 3) := by decide +kernel
theorem dX7_takes_82 : decode mX7_takes.2.1 82 = .ok (.aload_n 0, 1) := by decide +kernel
theorem dX7_takes_83 : decode mX7_takes.2.1 83 = .ok (.dup, 1) := by decide +kernel
theorem dX7_takes_84 : decode mX7_takes.2.1 84 = .ok (.getfield 19, 3) := by decide +kernel
theorem dX7_takes_87 : decode mX7_takes.2.1 87 = .ok (.iconst 1, 1) := by decide +kernel
theorem dX7_takes_88 : decode mX7_takes.2.1 88 = .ok (.iadd, 1) := by decide +kernel
theorem dX7_takes_89 : decode mX7_takes.2.1 89 = .ok (.putfield 19, 3) := by decide +kernel
theorem dX7_takes_92 : decode mX7_takes.2.1 92 = .ok (.iload_n 2, 1) := by decide +kernel
theorem dX7_takes_93 : decode mX7_takes.2.1 93 = .ok (.ireturn, 1) := by decide +kernel
theorem dX7_isWhole_0 : decode mX7_isWhole.2.1 0 = .ok (.aload_n 0, 1) := by decide +kernel
theorem dX7_isWhole_1 : decode mX7_isWhole.2.1 1 = .ok (.getfield 25, 3) := by decide +kernel
theorem dX7_isWhole_4 : decode mX7_isWhole.2.1 4 = .ok (.iconst 3, 1) := by decide +kernel
theorem dX7_isWhole_5 : decode mX7_isWhole.2.1 5 = .ok (.if_icmp .eq 18, 3) := by decide +kernel
theorem dX7_isWhole_8 : decode mX7_isWhole.2.1 8 = .ok (.aload_n 0, 1) := by decide +kernel
theorem dX7_isWhole_9 : decode mX7_isWhole.2.1 9 = .ok (.getfield 25, 3) := by decide +kernel
theorem dX7_isWhole_12 : decode mX7_isWhole.2.1 12 = .ok (.iconst 4, 1) := by decide +kernel
theorem dX7_isWhole_13 : decode mX7_isWhole.2.1 13 = .ok (.if_icmp .ne 14, 3) := by decide +kernel
theorem dX7_isWhole_16 : decode mX7_isWhole.2.1 16 = .ok (.aload_n 0, 1) := by decide +kernel
theorem dX7_isWhole_17 : decode mX7_isWhole.2.1 17 = .ok (.invokevirtual 44, 3) := by decide +kernel
theorem dX7_isWhole_20 : decode mX7_isWhole.2.1 20 = .ok (.ifCond .eq 7, 3) := by decide +kernel
theorem dX7_isWhole_23 : decode mX7_isWhole.2.1 23 = .ok (.iconst 1, 1) := by decide +kernel
theorem dX7_isWhole_24 : decode mX7_isWhole.2.1 24 = .ok (.goto 4, 3) := by decide +kernel
theorem dX7_isWhole_27 : decode mX7_isWhole.2.1 27 = .ok (.iconst 0, 1) := by decide +kernel
theorem dX7_isWhole_28 : decode mX7_isWhole.2.1 28 = .ok (.ireturn, 1) := by decide +kernel
theorem dX7_startEntry_0 : decode mX7_startEntry.2.1 0 = .ok (.aload_n 0, 1) := by decide +kernel
theorem dX7_startEntry_1 : decode mX7_startEntry.2.1 1 = .ok (.iconst 0, 1) := by decide +kernel
theorem dX7_startEntry_2 : decode mX7_startEntry.2.1 2 = .ok (.putfield 25, 3) := by decide +kernel
theorem dX7_startEntry_5 : decode mX7_startEntry.2.1 5 = .ok (.aload_n 0, 1) := by decide +kernel
theorem dX7_startEntry_6 : decode mX7_startEntry.2.1 6 = .ok (.iconst 0, 1) := by decide +kernel
theorem dX7_startEntry_7 : decode mX7_startEntry.2.1 7 = .ok (.putfield 48, 3) := by decide +kernel
theorem dX7_startEntry_10 : decode mX7_startEntry.2.1 10 = .ok (.aload_n 0, 1) := by decide +kernel
theorem dX7_startEntry_11 : decode mX7_startEntry.2.1 11 = .ok (.iconst 0, 1) := by decide +kernel
theorem dX7_startEntry_12 : decode mX7_startEntry.2.1 12 = .ok (.putfield 51, 3) := by decide +kernel
theorem dX7_startEntry_15 : decode mX7_startEntry.2.1 15 = .ok (.aload_n 0, 1) := by decide +kernel
theorem dX7_startEntry_16 : decode mX7_startEntry.2.1 16 = .ok (.iconst (-1), 1) := by decide +kernel
theorem dX7_startEntry_17 : decode mX7_startEntry.2.1 17 = .ok (.putfield 54, 3) := by decide +kernel
theorem dX7_startEntry_20 : decode mX7_startEntry.2.1 20 = .ok (.aload_n 0, 1) := by decide +kernel
theorem dX7_startEntry_21 : decode mX7_startEntry.2.1 21 = .ok (.iconst 0, 1) := by decide +kernel
theorem dX7_startEntry_22 : decode mX7_startEntry.2.1 22 = .ok (.putfield 57, 3) := by decide +kernel
theorem dX7_startEntry_25 : decode mX7_startEntry.2.1 25 = .ok (.return_, 1) := by decide +kernel
theorem dX7_takesKind_0 : decode mX7_takesKind.2.1 0 = .ok (.iload_n 1, 1) := by decide +kernel
theorem dX7_takesKind_1 : decode mX7_takesKind.2.1 1 = .ok (.bipush 98, 2) := by decide +kernel
theorem dX7_takesKind_3 : decode mX7_takesKind.2.1 3 = .ok (.if_icmp .eq 17, 3) := by decide +kernel
theorem dX7_takesKind_6 : decode mX7_takesKind.2.1 6 = .ok (.iload_n 1, 1) := by decide +kernel
theorem dX7_takesKind_7 : decode mX7_takesKind.2.1 7 = .ok (.bipush 119, 2) := by decide +kernel
theorem dX7_takesKind_9 : decode mX7_takesKind.2.1 9 = .ok (.if_icmp .eq 11, 3) := by decide +kernel
theorem dX7_takesKind_12 : decode mX7_takesKind.2.1 12 = .ok (.iload_n 1, 1) := by decide +kernel
theorem dX7_takesKind_13 : decode mX7_takesKind.2.1 13 = .ok (.bipush 100, 2) := by decide +kernel
theorem dX7_takesKind_15 : decode mX7_takesKind.2.1 15 = .ok (.if_icmp .eq 5, 3) := by decide +kernel
theorem dX7_takesKind_18 : decode mX7_takesKind.2.1 18 = .ok (.iconst 0, 1) := by decide +kernel
theorem dX7_takesKind_19 : decode mX7_takesKind.2.1 19 = .ok (.ireturn, 1) := by decide +kernel
theorem dX7_takesKind_20 : decode mX7_takesKind.2.1 20 = .ok (.aload_n 0, 1) := by decide +kernel
theorem dX7_takesKind_21 : decode mX7_takesKind.2.1 21 = .ok (.iload_n 1, 1) := by decide +kernel
theorem dX7_takesKind_22 : decode mX7_takesKind.2.1 22 = .ok (.bipush 98, 2) := by decide +kernel
theorem dX7_takesKind_24 : decode mX7_takesKind.2.1 24 = .ok (.if_icmp .ne 7, 3) := by decide +kernel
theorem dX7_takesKind_27 : decode mX7_takesKind.2.1 27 = .ok (.iconst 0, 1) := by decide +kernel
theorem dX7_takesKind_28 : decode mX7_takesKind.2.1 28 = .ok (.goto 14, 3) := by decide +kernel
theorem dX7_takesKind_31 : decode mX7_takesKind.2.1 31 = .ok (.iload_n 1, 1) := by decide +kernel
theorem dX7_takesKind_32 : decode mX7_takesKind.2.1 32 = .ok (.bipush 119, 2) := by decide +kernel
theorem dX7_takesKind_34 : decode mX7_takesKind.2.1 34 = .ok (.if_icmp .ne 7, 3) := by decide +kernel
theorem dX7_takesKind_37 : decode mX7_takesKind.2.1 37 = .ok (.iconst 1, 1) := by decide +kernel
theorem dX7_takesKind_38 : decode mX7_takesKind.2.1 38 = .ok (.goto 4, 3) := by decide +kernel
theorem dX7_takesKind_41 : decode mX7_takesKind.2.1 41 = .ok (.iconst 2, 1) := by decide +kernel
theorem dX7_takesKind_42 : decode mX7_takesKind.2.1 42 = .ok (.putfield 60, 3) := by decide +kernel
theorem dX7_takesKind_45 : decode mX7_takesKind.2.1 45 = .ok (.aload_n 0, 1) := by decide +kernel
theorem dX7_takesKind_46 : decode mX7_takesKind.2.1 46 = .ok (.getfield 9, 3) := by decide +kernel
theorem dX7_takesKind_49 : decode mX7_takesKind.2.1 49 = .ok (.aload_n 0, 1) := by decide +kernel
theorem dX7_takesKind_50 : decode mX7_takesKind.2.1 50 = .ok (.getfield 60, 3) := by decide +kernel
theorem dX7_takesKind_53 : decode mX7_takesKind.2.1 53 = .ok (.dup2, 1) := by decide +kernel
theorem dX7_takesKind_54 : decode mX7_takesKind.2.1 54 = .ok (.iaload, 1) := by decide +kernel
theorem dX7_takesKind_55 : decode mX7_takesKind.2.1 55 = .ok (.iconst 1, 1) := by decide +kernel
theorem dX7_takesKind_56 : decode mX7_takesKind.2.1 56 = .ok (.iadd, 1) := by decide +kernel
theorem dX7_takesKind_57 : decode mX7_takesKind.2.1 57 = .ok (.iastore, 1) := by decide +kernel
theorem dX7_takesKind_58 : decode mX7_takesKind.2.1 58 = .ok (.aload_n 0, 1) := by decide +kernel
theorem dX7_takesKind_59 : decode mX7_takesKind.2.1 59 = .ok (.dup, 1) := by decide +kernel
theorem dX7_takesKind_60 : decode mX7_takesKind.2.1 60 = .ok (.getfield 15, 3) := by decide +kernel
theorem dX7_takesKind_63 : decode mX7_takesKind.2.1 63 = .ok (.iconst 1, 1) := by decide +kernel
theorem dX7_takesKind_64 : decode mX7_takesKind.2.1 64 = .ok (.iadd, 1) := by decide +kernel
theorem dX7_takesKind_65 : decode mX7_takesKind.2.1 65 = .ok (.putfield 15, 3) := by decide +kernel
theorem dX7_takesKind_68 : decode mX7_takesKind.2.1 68 = .ok (.aload_n 0, 1) := by decide +kernel
theorem dX7_takesKind_69 : decode mX7_takesKind.2.1 69 = .ok (.aload_n 0, 1) := by decide +kernel
theorem dX7_takesKind_70 : decode mX7_takesKind.2.1 70 = .ok (.getfield 19, 3) := by decide +kernel
theorem dX7_takesKind_73 : decode mX7_takesKind.2.1 73 = .ok (.iconst 1, 1) := by decide +kernel
theorem dX7_takesKind_74 : decode mX7_takesKind.2.1 74 = .ok (.iadd, 1) := by decide +kernel
theorem dX7_takesKind_75 : decode mX7_takesKind.2.1 75 = .ok (.putfield 63, 3) := by decide +kernel
theorem dX7_takesKind_78 : decode mX7_takesKind.2.1 78 = .ok (.aload_n 0, 1) := by decide +kernel
theorem dX7_takesKind_79 : decode mX7_takesKind.2.1 79 = .ok (.iconst 1, 1) := by decide +kernel
theorem dX7_takesKind_80 : decode mX7_takesKind.2.1 80 = .ok (.putfield 25, 3) := by decide +kernel
theorem dX7_takesKind_83 : decode mX7_takesKind.2.1 83 = .ok (.iconst 1, 1) := by decide +kernel
theorem dX7_takesKind_84 : decode mX7_takesKind.2.1 84 = .ok (.ireturn, 1) := by decide +kernel
theorem dX7_takesInName_0 : decode mX7_takesInName.2.1 0 = .ok (.iload_n 1, 1) := by decide +kernel
theorem dX7_takesInName_1 : decode mX7_takesInName.2.1 1 = .ok (.bipush 58, 2) := by decide +kernel
theorem dX7_takesInName_3 : decode mX7_takesInName.2.1 3 = .ok (.if_icmp .ne 17, 3) := by decide +kernel
theorem dX7_takesInName_6 : decode mX7_takesInName.2.1 6 = .ok (.aload_n 0, 1) := by decide +kernel
theorem dX7_takesInName_7 : decode mX7_takesInName.2.1 7 = .ok (.getfield 48, 3) := by decide +kernel
theorem dX7_takesInName_10 : decode mX7_takesInName.2.1 10 = .ok (.ifCond .le 10, 3) := by decide +kernel
theorem dX7_takesInName_13 : decode mX7_takesInName.2.1 13 = .ok (.aload_n 0, 1) := by decide +kernel
theorem dX7_takesInName_14 : decode mX7_takesInName.2.1 14 = .ok (.iconst 2, 1) := by decide +kernel
theorem dX7_takesInName_15 : decode mX7_takesInName.2.1 15 = .ok (.putfield 25, 3) := by decide +kernel
theorem dX7_takesInName_18 : decode mX7_takesInName.2.1 18 = .ok (.iconst 1, 1) := by decide +kernel
theorem dX7_takesInName_19 : decode mX7_takesInName.2.1 19 = .ok (.ireturn, 1) := by decide +kernel
theorem dX7_takesInName_20 : decode mX7_takesInName.2.1 20 = .ok (.iload_n 1, 1) := by decide +kernel
theorem dX7_takesInName_21 : decode mX7_takesInName.2.1 21 = .ok (.bipush 97, 2) := by decide +kernel
theorem dX7_takesInName_23 : decode mX7_takesInName.2.1 23 = .ok (.if_icmp .lt 18, 3) := by decide +kernel
theorem dX7_takesInName_26 : decode mX7_takesInName.2.1 26 = .ok (.iload_n 1, 1) := by decide +kernel
theorem dX7_takesInName_27 : decode mX7_takesInName.2.1 27 = .ok (.bipush 122, 2) := by decide +kernel
theorem dX7_takesInName_29 : decode mX7_takesInName.2.1 29 = .ok (.if_icmp .gt 12, 3) := by decide +kernel
theorem dX7_takesInName_32 : decode mX7_takesInName.2.1 32 = .ok (.aload_n 0, 1) := by decide +kernel
theorem dX7_takesInName_33 : decode mX7_takesInName.2.1 33 = .ok (.getfield 48, 3) := by decide +kernel
theorem dX7_takesInName_36 : decode mX7_takesInName.2.1 36 = .ok (.bipush 8, 2) := by decide +kernel
theorem dX7_takesInName_38 : decode mX7_takesInName.2.1 38 = .ok (.if_icmp .ne 5, 3) := by decide +kernel
theorem dX7_takesInName_41 : decode mX7_takesInName.2.1 41 = .ok (.iconst 0, 1) := by decide +kernel
theorem dX7_takesInName_42 : decode mX7_takesInName.2.1 42 = .ok (.ireturn, 1) := by decide +kernel
theorem dX7_takesInName_43 : decode mX7_takesInName.2.1 43 = .ok (.aload_n 0, 1) := by decide +kernel
theorem dX7_takesInName_44 : decode mX7_takesInName.2.1 44 = .ok (.dup, 1) := by decide +kernel
theorem dX7_takesInName_45 : decode mX7_takesInName.2.1 45 = .ok (.getfield 48, 3) := by decide +kernel
theorem dX7_takesInName_48 : decode mX7_takesInName.2.1 48 = .ok (.iconst 1, 1) := by decide +kernel
theorem dX7_takesInName_49 : decode mX7_takesInName.2.1 49 = .ok (.iadd, 1) := by decide +kernel
theorem dX7_takesInName_50 : decode mX7_takesInName.2.1 50 = .ok (.putfield 48, 3) := by decide +kernel
theorem dX7_takesInName_53 : decode mX7_takesInName.2.1 53 = .ok (.iconst 1, 1) := by decide +kernel
theorem dX7_takesInName_54 : decode mX7_takesInName.2.1 54 = .ok (.ireturn, 1) := by decide +kernel
theorem dX7_takesFigureOfYear_0 : decode mX7_takesFigureOfYear.2.1 0 = .ok (.aload_n 0, 1) := by decide +kernel
theorem dX7_takesFigureOfYear_1 : decode mX7_takesFigureOfYear.2.1 1 = .ok (.getfield 57, 3) := by decide +kernel
theorem dX7_takesFigureOfYear_4 : decode mX7_takesFigureOfYear.2.1 4 = .ok (.ifCond .ne 8, 3) := by decide +kernel
theorem dX7_takesFigureOfYear_7 : decode mX7_takesFigureOfYear.2.1 7 = .ok (.bipush 49, 2) := by decide +kernel
theorem dX7_takesFigureOfYear_9 : decode mX7_takesFigureOfYear.2.1 9 = .ok (.goto 18, 3) := by decide +kernel
theorem dX7_takesFigureOfYear_12 : decode mX7_takesFigureOfYear.2.1 12 = .ok (.aload_n 0, 1) := by decide +kernel
theorem dX7_takesFigureOfYear_13 : decode mX7_takesFigureOfYear.2.1 13 = .ok (.getfield 57, 3) := by decide +kernel
theorem dX7_takesFigureOfYear_16 : decode mX7_takesFigureOfYear.2.1 16 = .ok (.iconst 1, 1) := by decide +kernel
theorem dX7_takesFigureOfYear_17 : decode mX7_takesFigureOfYear.2.1 17 = .ok (.if_icmp .ne 8, 3) := by decide +kernel
theorem dX7_takesFigureOfYear_20 : decode mX7_takesFigureOfYear.2.1 20 = .ok (.bipush 54, 2) := by decide +kernel
theorem dX7_takesFigureOfYear_22 : decode mX7_takesFigureOfYear.2.1 22 = .ok (.goto 5, 3) := by decide +kernel
theorem dX7_takesFigureOfYear_25 : decode mX7_takesFigureOfYear.2.1 25 = .ok (.bipush 48, 2) := by decide +kernel
theorem dX7_takesFigureOfYear_27 : decode mX7_takesFigureOfYear.2.1 27 = .ok (.istore_n 2, 1) := by decide +kernel
theorem dX7_takesFigureOfYear_28 : decode mX7_takesFigureOfYear.2.1 28 = .ok (.aload_n 0, 1) := by decide +kernel
theorem dX7_takesFigureOfYear_29 : decode mX7_takesFigureOfYear.2.1 29 = .ok (.getfield 57, 3) := by decide +kernel
theorem dX7_takesFigureOfYear_32 : decode mX7_takesFigureOfYear.2.1 32 = .ok (.ifCond .ne 8, 3) := by decide +kernel
theorem dX7_takesFigureOfYear_35 : decode mX7_takesFigureOfYear.2.1 35 = .ok (.bipush 49, 2) := by decide +kernel
theorem dX7_takesFigureOfYear_37 : decode mX7_takesFigureOfYear.2.1 37 = .ok (.goto 18, 3) := by decide +kernel
theorem dX7_takesFigureOfYear_40 : decode mX7_takesFigureOfYear.2.1 40 = .ok (.aload_n 0, 1) := by decide +kernel
theorem dX7_takesFigureOfYear_41 : decode mX7_takesFigureOfYear.2.1 41 = .ok (.getfield 57, 3) := by decide +kernel
theorem dX7_takesFigureOfYear_44 : decode mX7_takesFigureOfYear.2.1 44 = .ok (.iconst 1, 1) := by decide +kernel
theorem dX7_takesFigureOfYear_45 : decode mX7_takesFigureOfYear.2.1 45 = .ok (.if_icmp .ne 8, 3) := by decide +kernel
theorem dX7_takesFigureOfYear_48 : decode mX7_takesFigureOfYear.2.1 48 = .ok (.bipush 56, 2) := by decide +kernel
theorem dX7_takesFigureOfYear_50 : decode mX7_takesFigureOfYear.2.1 50 = .ok (.goto 5, 3) := by decide +kernel
theorem dX7_takesFigureOfYear_53 : decode mX7_takesFigureOfYear.2.1 53 = .ok (.bipush 57, 2) := by decide +kernel
theorem dX7_takesFigureOfYear_55 : decode mX7_takesFigureOfYear.2.1 55 = .ok (.istore_n 3, 1) := by decide +kernel
theorem dX7_takesFigureOfYear_56 : decode mX7_takesFigureOfYear.2.1 56 = .ok (.iload_n 1, 1) := by decide +kernel
theorem dX7_takesFigureOfYear_57 : decode mX7_takesFigureOfYear.2.1 57 = .ok (.iload_n 2, 1) := by decide +kernel
theorem dX7_takesFigureOfYear_58 : decode mX7_takesFigureOfYear.2.1 58 = .ok (.if_icmp .lt 8, 3) := by decide +kernel
theorem dX7_takesFigureOfYear_61 : decode mX7_takesFigureOfYear.2.1 61 = .ok (.iload_n 1, 1) := by decide +kernel
theorem dX7_takesFigureOfYear_62 : decode mX7_takesFigureOfYear.2.1 62 = .ok (.iload_n 3, 1) := by decide +kernel
theorem dX7_takesFigureOfYear_63 : decode mX7_takesFigureOfYear.2.1 63 = .ok (.if_icmp .le 5, 3) := by decide +kernel
theorem dX7_takesFigureOfYear_66 : decode mX7_takesFigureOfYear.2.1 66 = .ok (.iconst 0, 1) := by decide +kernel
theorem dX7_takesFigureOfYear_67 : decode mX7_takesFigureOfYear.2.1 67 = .ok (.ireturn, 1) := by decide +kernel
theorem dX7_takesFigureOfYear_68 : decode mX7_takesFigureOfYear.2.1 68 = .ok (.aload_n 0, 1) := by decide +kernel
theorem dX7_takesFigureOfYear_69 : decode mX7_takesFigureOfYear.2.1 69 = .ok (.aload_n 0, 1) := by decide +kernel
theorem dX7_takesFigureOfYear_70 : decode mX7_takesFigureOfYear.2.1 70 = .ok (.getfield 51, 3) := by decide +kernel
theorem dX7_takesFigureOfYear_73 : decode mX7_takesFigureOfYear.2.1 73 = .ok (.bipush 10, 2) := by decide +kernel
theorem dX7_takesFigureOfYear_75 : decode mX7_takesFigureOfYear.2.1 75 = .ok (.imul, 1) := by decide +kernel
theorem dX7_takesFigureOfYear_76 : decode mX7_takesFigureOfYear.2.1 76 = .ok (.iload_n 1, 1) := by decide +kernel
theorem dX7_takesFigureOfYear_77 : decode mX7_takesFigureOfYear.2.1 77 = .ok (.bipush 48, 2) := by decide +kernel
theorem dX7_takesFigureOfYear_79 : decode mX7_takesFigureOfYear.2.1 79 = .ok (.isub, 1) := by decide +kernel
theorem dX7_takesFigureOfYear_80 : decode mX7_takesFigureOfYear.2.1 80 = .ok (.iadd, 1) := by decide +kernel
theorem dX7_takesFigureOfYear_81 : decode mX7_takesFigureOfYear.2.1 81 = .ok (.putfield 51, 3) := by decide +kernel
theorem dX7_takesFigureOfYear_84 : decode mX7_takesFigureOfYear.2.1 84 = .ok (.aload_n 0, 1) := by decide +kernel
theorem dX7_takesFigureOfYear_85 : decode mX7_takesFigureOfYear.2.1 85 = .ok (.dup, 1) := by decide +kernel
theorem dX7_takesFigureOfYear_86 : decode mX7_takesFigureOfYear.2.1 86 = .ok (.getfield 57, 3) := by decide +kernel
theorem dX7_takesFigureOfYear_89 : decode mX7_takesFigureOfYear.2.1 89 = .ok (.iconst 1, 1) := by decide +kernel
theorem dX7_takesFigureOfYear_90 : decode mX7_takesFigureOfYear.2.1 90 = .ok (.iadd, 1) := by decide +kernel
theorem dX7_takesFigureOfYear_91 : decode mX7_takesFigureOfYear.2.1 91 = .ok (.putfield 57, 3) := by decide +kernel
theorem dX7_takesFigureOfYear_94 : decode mX7_takesFigureOfYear.2.1 94 = .ok (.aload_n 0, 1) := by decide +kernel
theorem dX7_takesFigureOfYear_95 : decode mX7_takesFigureOfYear.2.1 95 = .ok (.getfield 57, 3) := by decide +kernel
theorem dX7_takesFigureOfYear_98 : decode mX7_takesFigureOfYear.2.1 98 = .ok (.iconst 4, 1) := by decide +kernel
theorem dX7_takesFigureOfYear_99 : decode mX7_takesFigureOfYear.2.1 99 = .ok (.if_icmp .ne 8, 3) := by decide +kernel
theorem dX7_takesFigureOfYear_102 : decode mX7_takesFigureOfYear.2.1 102 = .ok (.aload_n 0, 1) := by decide +kernel
theorem dX7_takesFigureOfYear_103 : decode mX7_takesFigureOfYear.2.1 103 = .ok (.iconst 3, 1) := by decide +kernel
theorem dX7_takesFigureOfYear_104 : decode mX7_takesFigureOfYear.2.1 104 = .ok (.putfield 25, 3) := by decide +kernel
theorem dX7_takesFigureOfYear_107 : decode mX7_takesFigureOfYear.2.1 107 = .ok (.iconst 1, 1) := by decide +kernel
theorem dX7_takesFigureOfYear_108 : decode mX7_takesFigureOfYear.2.1 108 = .ok (.ireturn, 1) := by decide +kernel
theorem dX7_takesBehindYear_0 : decode mX7_takesBehindYear.2.1 0 = .ok (.iload_n 1, 1) := by decide +kernel
theorem dX7_takesBehindYear_1 : decode mX7_takesBehindYear.2.1 1 = .ok (.bipush 59, 2) := by decide +kernel
theorem dX7_takesBehindYear_3 : decode mX7_takesBehindYear.2.1 3 = .ok (.if_icmp .ne 9, 3) := by decide +kernel
theorem dX7_takesBehindYear_6 : decode mX7_takesBehindYear.2.1 6 = .ok (.aload_n 0, 1) := by decide +kernel
theorem dX7_takesBehindYear_7 : decode mX7_takesBehindYear.2.1 7 = .ok (.invokevirtual 22, 3) := by decide +kernel
theorem dX7_takesBehindYear_10 : decode mX7_takesBehindYear.2.1 10 = .ok (.iconst 1, 1) := by decide +kernel
theorem dX7_takesBehindYear_11 : decode mX7_takesBehindYear.2.1 11 = .ok (.ireturn, 1) := by decide +kernel
theorem dX7_takesBehindYear_12 : decode mX7_takesBehindYear.2.1 12 = .ok (.iload_n 1, 1) := by decide +kernel
theorem dX7_takesBehindYear_13 : decode mX7_takesBehindYear.2.1 13 = .ok (.bipush 46, 2) := by decide +kernel
theorem dX7_takesBehindYear_15 : decode mX7_takesBehindYear.2.1 15 = .ok (.if_icmp .ne 10, 3) := by decide +kernel
theorem dX7_takesBehindYear_18 : decode mX7_takesBehindYear.2.1 18 = .ok (.aload_n 0, 1) := by decide +kernel
theorem dX7_takesBehindYear_19 : decode mX7_takesBehindYear.2.1 19 = .ok (.getfield 60, 3) := by decide +kernel
theorem dX7_takesBehindYear_22 : decode mX7_takesBehindYear.2.1 22 = .ok (.ifCond .ne 5, 3) := by decide +kernel
theorem dX7_takesBehindYear_25 : decode mX7_takesBehindYear.2.1 25 = .ok (.iconst 0, 1) := by decide +kernel
theorem dX7_takesBehindYear_26 : decode mX7_takesBehindYear.2.1 26 = .ok (.ireturn, 1) := by decide +kernel
theorem dX7_takesBehindYear_27 : decode mX7_takesBehindYear.2.1 27 = .ok (.aload_n 0, 1) := by decide +kernel
theorem dX7_takesBehindYear_28 : decode mX7_takesBehindYear.2.1 28 = .ok (.iconst 0, 1) := by decide +kernel
theorem dX7_takesBehindYear_29 : decode mX7_takesBehindYear.2.1 29 = .ok (.putfield 54, 3) := by decide +kernel
theorem dX7_takesBehindYear_32 : decode mX7_takesBehindYear.2.1 32 = .ok (.aload_n 0, 1) := by decide +kernel
theorem dX7_takesBehindYear_33 : decode mX7_takesBehindYear.2.1 33 = .ok (.iconst 0, 1) := by decide +kernel
theorem dX7_takesBehindYear_34 : decode mX7_takesBehindYear.2.1 34 = .ok (.putfield 57, 3) := by decide +kernel
theorem dX7_takesBehindYear_37 : decode mX7_takesBehindYear.2.1 37 = .ok (.aload_n 0, 1) := by decide +kernel
theorem dX7_takesBehindYear_38 : decode mX7_takesBehindYear.2.1 38 = .ok (.iconst 4, 1) := by decide +kernel
theorem dX7_takesBehindYear_39 : decode mX7_takesBehindYear.2.1 39 = .ok (.putfield 25, 3) := by decide +kernel
theorem dX7_takesBehindYear_42 : decode mX7_takesBehindYear.2.1 42 = .ok (.iconst 1, 1) := by decide +kernel
theorem dX7_takesBehindYear_43 : decode mX7_takesBehindYear.2.1 43 = .ok (.ireturn, 1) := by decide +kernel
theorem dX7_takesInAge_0 : decode mX7_takesInAge.2.1 0 = .ok (.iload_n 1, 1) := by decide +kernel
theorem dX7_takesInAge_1 : decode mX7_takesInAge.2.1 1 = .ok (.bipush 59, 2) := by decide +kernel
theorem dX7_takesInAge_3 : decode mX7_takesInAge.2.1 3 = .ok (.if_icmp .ne 18, 3) := by decide +kernel
theorem dX7_takesInAge_6 : decode mX7_takesInAge.2.1 6 = .ok (.aload_n 0, 1) := by decide +kernel
theorem dX7_takesInAge_7 : decode mX7_takesInAge.2.1 7 = .ok (.invokevirtual 44, 3) := by decide +kernel
theorem dX7_takesInAge_10 : decode mX7_takesInAge.2.1 10 = .ok (.ifCond .ne 5, 3) := by decide +kernel
theorem dX7_takesInAge_13 : decode mX7_takesInAge.2.1 13 = .ok (.iconst 0, 1) := by decide +kernel
theorem dX7_takesInAge_14 : decode mX7_takesInAge.2.1 14 = .ok (.ireturn, 1) := by decide +kernel
theorem dX7_takesInAge_15 : decode mX7_takesInAge.2.1 15 = .ok (.aload_n 0, 1) := by decide +kernel
theorem dX7_takesInAge_16 : decode mX7_takesInAge.2.1 16 = .ok (.invokevirtual 22, 3) := by decide +kernel
theorem dX7_takesInAge_19 : decode mX7_takesInAge.2.1 19 = .ok (.iconst 1, 1) := by decide +kernel
theorem dX7_takesInAge_20 : decode mX7_takesInAge.2.1 20 = .ok (.ireturn, 1) := by decide +kernel
theorem dX7_takesInAge_21 : decode mX7_takesInAge.2.1 21 = .ok (.iload_n 1, 1) := by decide +kernel
theorem dX7_takesInAge_22 : decode mX7_takesInAge.2.1 22 = .ok (.bipush 48, 2) := by decide +kernel
theorem dX7_takesInAge_24 : decode mX7_takesInAge.2.1 24 = .ok (.if_icmp .lt 20, 3) := by decide +kernel
theorem dX7_takesInAge_27 : decode mX7_takesInAge.2.1 27 = .ok (.iload_n 1, 1) := by decide +kernel
theorem dX7_takesInAge_28 : decode mX7_takesInAge.2.1 28 = .ok (.bipush 57, 2) := by decide +kernel
theorem dX7_takesInAge_30 : decode mX7_takesInAge.2.1 30 = .ok (.if_icmp .gt 14, 3) := by decide +kernel
theorem dX7_takesInAge_33 : decode mX7_takesInAge.2.1 33 = .ok (.aload_n 0, 1) := by decide +kernel
theorem dX7_takesInAge_34 : decode mX7_takesInAge.2.1 34 = .ok (.iload_n 1, 1) := by decide +kernel
theorem dX7_takesInAge_35 : decode mX7_takesInAge.2.1 35 = .ok (.bipush 48, 2) := by decide +kernel
theorem dX7_takesInAge_37 : decode mX7_takesInAge.2.1 37 = .ok (.isub, 1) := by decide +kernel
theorem dX7_takesInAge_38 : decode mX7_takesInAge.2.1 38 = .ok (.invokevirtual 66, 3) := by decide +kernel
theorem dX7_takesInAge_41 : decode mX7_takesInAge.2.1 41 = .ok (.ifCond .ne 5, 3) := by decide +kernel
theorem dX7_takesInAge_44 : decode mX7_takesInAge.2.1 44 = .ok (.iconst 0, 1) := by decide +kernel
theorem dX7_takesInAge_45 : decode mX7_takesInAge.2.1 45 = .ok (.ireturn, 1) := by decide +kernel
theorem dX7_takesInAge_46 : decode mX7_takesInAge.2.1 46 = .ok (.aload_n 0, 1) := by decide +kernel
theorem dX7_takesInAge_47 : decode mX7_takesInAge.2.1 47 = .ok (.aload_n 0, 1) := by decide +kernel
theorem dX7_takesInAge_48 : decode mX7_takesInAge.2.1 48 = .ok (.getfield 54, 3) := by decide +kernel
theorem dX7_takesInAge_51 : decode mX7_takesInAge.2.1 51 = .ok (.bipush 10, 2) := by decide +kernel
theorem dX7_takesInAge_53 : decode mX7_takesInAge.2.1 53 = .ok (.imul, 1) := by decide +kernel
theorem dX7_takesInAge_54 : decode mX7_takesInAge.2.1 54 = .ok (.iload_n 1, 1) := by decide +kernel
theorem dX7_takesInAge_55 : decode mX7_takesInAge.2.1 55 = .ok (.bipush 48, 2) := by decide +kernel
theorem dX7_takesInAge_57 : decode mX7_takesInAge.2.1 57 = .ok (.isub, 1) := by decide +kernel
theorem dX7_takesInAge_58 : decode mX7_takesInAge.2.1 58 = .ok (.iadd, 1) := by decide +kernel
theorem dX7_takesInAge_59 : decode mX7_takesInAge.2.1 59 = .ok (.putfield 54, 3) := by decide +kernel
theorem dX7_takesInAge_62 : decode mX7_takesInAge.2.1 62 = .ok (.aload_n 0, 1) := by decide +kernel
theorem dX7_takesInAge_63 : decode mX7_takesInAge.2.1 63 = .ok (.dup, 1) := by decide +kernel
theorem dX7_takesInAge_64 : decode mX7_takesInAge.2.1 64 = .ok (.getfield 57, 3) := by decide +kernel
theorem dX7_takesInAge_67 : decode mX7_takesInAge.2.1 67 = .ok (.iconst 1, 1) := by decide +kernel
theorem dX7_takesInAge_68 : decode mX7_takesInAge.2.1 68 = .ok (.iadd, 1) := by decide +kernel
theorem dX7_takesInAge_69 : decode mX7_takesInAge.2.1 69 = .ok (.putfield 57, 3) := by decide +kernel
theorem dX7_takesInAge_72 : decode mX7_takesInAge.2.1 72 = .ok (.iconst 1, 1) := by decide +kernel
theorem dX7_takesInAge_73 : decode mX7_takesInAge.2.1 73 = .ok (.ireturn, 1) := by decide +kernel
theorem dX7_ageGoesOnWith_0 : decode mX7_ageGoesOnWith.2.1 0 = .ok (.aload_n 0, 1) := by decide +kernel
theorem dX7_ageGoesOnWith_1 : decode mX7_ageGoesOnWith.2.1 1 = .ok (.getfield 57, 3) := by decide +kernel
theorem dX7_ageGoesOnWith_4 : decode mX7_ageGoesOnWith.2.1 4 = .ok (.ifCond .ne 23, 3) := by decide +kernel
theorem dX7_ageGoesOnWith_7 : decode mX7_ageGoesOnWith.2.1 7 = .ok (.iload_n 1, 1) := by decide +kernel
theorem dX7_ageGoesOnWith_8 : decode mX7_ageGoesOnWith.2.1 8 = .ok (.ifCond .gt 13, 3) := by decide +kernel
theorem dX7_ageGoesOnWith_11 : decode mX7_ageGoesOnWith.2.1 11 = .ok (.aload_n 0, 1) := by decide +kernel
theorem dX7_ageGoesOnWith_12 : decode mX7_ageGoesOnWith.2.1 12 = .ok (.getfield 60, 3) := by decide +kernel
theorem dX7_ageGoesOnWith_15 : decode mX7_ageGoesOnWith.2.1 15 = .ok (.invokestatic 69, 3) := by decide +kernel
theorem dX7_ageGoesOnWith_18 : decode mX7_ageGoesOnWith.2.1 18 = .ok (.ifCond .ne 7, 3) := by decide +kernel
theorem dX7_ageGoesOnWith_21 : decode mX7_ageGoesOnWith.2.1 21 = .ok (.iconst 1, 1) := by decide +kernel
theorem dX7_ageGoesOnWith_22 : decode mX7_ageGoesOnWith.2.1 22 = .ok (.goto 4, 3) := by decide +kernel
theorem dX7_ageGoesOnWith_25 : decode mX7_ageGoesOnWith.2.1 25 = .ok (.iconst 0, 1) := by decide +kernel
theorem dX7_ageGoesOnWith_26 : decode mX7_ageGoesOnWith.2.1 26 = .ok (.ireturn, 1) := by decide +kernel
theorem dX7_ageGoesOnWith_27 : decode mX7_ageGoesOnWith.2.1 27 = .ok (.aload_n 0, 1) := by decide +kernel
theorem dX7_ageGoesOnWith_28 : decode mX7_ageGoesOnWith.2.1 28 = .ok (.getfield 57, 3) := by decide +kernel
theorem dX7_ageGoesOnWith_31 : decode mX7_ageGoesOnWith.2.1 31 = .ok (.iconst 1, 1) := by decide +kernel
theorem dX7_ageGoesOnWith_32 : decode mX7_ageGoesOnWith.2.1 32 = .ok (.if_icmp .ne 33, 3) := by decide +kernel
theorem dX7_ageGoesOnWith_35 : decode mX7_ageGoesOnWith.2.1 35 = .ok (.aload_n 0, 1) := by decide +kernel
theorem dX7_ageGoesOnWith_36 : decode mX7_ageGoesOnWith.2.1 36 = .ok (.getfield 54, 3) := by decide +kernel
theorem dX7_ageGoesOnWith_39 : decode mX7_ageGoesOnWith.2.1 39 = .ok (.ifCond .le 26, 3) := by decide +kernel
theorem dX7_ageGoesOnWith_42 : decode mX7_ageGoesOnWith.2.1 42 = .ok (.aload_n 0, 1) := by decide +kernel
theorem dX7_ageGoesOnWith_43 : decode mX7_ageGoesOnWith.2.1 43 = .ok (.getfield 60, 3) := by decide +kernel
theorem dX7_ageGoesOnWith_46 : decode mX7_ageGoesOnWith.2.1 46 = .ok (.aload_n 0, 1) := by decide +kernel
theorem dX7_ageGoesOnWith_47 : decode mX7_ageGoesOnWith.2.1 47 = .ok (.getfield 54, 3) := by decide +kernel
theorem dX7_ageGoesOnWith_50 : decode mX7_ageGoesOnWith.2.1 50 = .ok (.bipush 10, 2) := by decide +kernel
theorem dX7_ageGoesOnWith_52 : decode mX7_ageGoesOnWith.2.1 52 = .ok (.imul, 1) := by decide +kernel
theorem dX7_ageGoesOnWith_53 : decode mX7_ageGoesOnWith.2.1 53 = .ok (.iload_n 1, 1) := by decide +kernel
theorem dX7_ageGoesOnWith_54 : decode mX7_ageGoesOnWith.2.1 54 = .ok (.iadd, 1) := by decide +kernel
theorem dX7_ageGoesOnWith_55 : decode mX7_ageGoesOnWith.2.1 55 = .ok (.invokestatic 73, 3) := by decide +kernel
theorem dX7_ageGoesOnWith_58 : decode mX7_ageGoesOnWith.2.1 58 = .ok (.ifCond .eq 7, 3) := by decide +kernel
theorem dX7_ageGoesOnWith_61 : decode mX7_ageGoesOnWith.2.1 61 = .ok (.iconst 1, 1) := by decide +kernel
theorem dX7_ageGoesOnWith_62 : decode mX7_ageGoesOnWith.2.1 62 = .ok (.goto 4, 3) := by decide +kernel
theorem dX7_ageGoesOnWith_65 : decode mX7_ageGoesOnWith.2.1 65 = .ok (.iconst 0, 1) := by decide +kernel
theorem dX7_ageGoesOnWith_66 : decode mX7_ageGoesOnWith.2.1 66 = .ok (.ireturn, 1) := by decide +kernel
theorem dX7_ageIsWhole_0 : decode mX7_ageIsWhole.2.1 0 = .ok (.aload_n 0, 1) := by decide +kernel
theorem dX7_ageIsWhole_1 : decode mX7_ageIsWhole.2.1 1 = .ok (.getfield 57, 3) := by decide +kernel
theorem dX7_ageIsWhole_4 : decode mX7_ageIsWhole.2.1 4 = .ok (.ifCond .le 21, 3) := by decide +kernel
theorem dX7_ageIsWhole_7 : decode mX7_ageIsWhole.2.1 7 = .ok (.aload_n 0, 1) := by decide +kernel
theorem dX7_ageIsWhole_8 : decode mX7_ageIsWhole.2.1 8 = .ok (.getfield 60, 3) := by decide +kernel
theorem dX7_ageIsWhole_11 : decode mX7_ageIsWhole.2.1 11 = .ok (.aload_n 0, 1) := by decide +kernel
theorem dX7_ageIsWhole_12 : decode mX7_ageIsWhole.2.1 12 = .ok (.getfield 54, 3) := by decide +kernel
theorem dX7_ageIsWhole_15 : decode mX7_ageIsWhole.2.1 15 = .ok (.invokestatic 73, 3) := by decide +kernel
theorem dX7_ageIsWhole_18 : decode mX7_ageIsWhole.2.1 18 = .ok (.ifCond .eq 7, 3) := by decide +kernel
theorem dX7_ageIsWhole_21 : decode mX7_ageIsWhole.2.1 21 = .ok (.iconst 1, 1) := by decide +kernel
theorem dX7_ageIsWhole_22 : decode mX7_ageIsWhole.2.1 22 = .ok (.goto 4, 3) := by decide +kernel
theorem dX7_ageIsWhole_25 : decode mX7_ageIsWhole.2.1 25 = .ok (.iconst 0, 1) := by decide +kernel
theorem dX7_ageIsWhole_26 : decode mX7_ageIsWhole.2.1 26 = .ok (.ireturn, 1) := by decide +kernel
theorem dX8_init_0 : decode mX8_init.2.1 0 = .ok (.aload_n 0, 1) := by decide +kernel
theorem dX8_init_1 : decode mX8_init.2.1 1 = .ok (.invokespecial 3, 3) := by decide +kernel
theorem dX8_init_4 : decode mX8_init.2.1 4 = .ok (.aload_n 0, 1) := by decide +kernel
theorem dX8_init_5 : decode mX8_init.2.1 5 = .ok (.bipush 18, 2) := by decide +kernel
theorem dX8_init_7 : decode mX8_init.2.1 7 = .ok (.anewarray 9, 3) := by decide +kernel
theorem dX8_init_10 : decode mX8_init.2.1 10 = .ok (.putfield 11, 3) := by decide +kernel
theorem dX8_init_13 : decode mX8_init.2.1 13 = .ok (.aload_n 0, 1) := by decide +kernel
theorem dX8_init_14 : decode mX8_init.2.1 14 = .ok (.iconst 3, 1) := by decide +kernel
theorem dX8_init_15 : decode mX8_init.2.1 15 = .ok (.newarray .int, 2) := by decide +kernel
theorem dX8_init_17 : decode mX8_init.2.1 17 = .ok (.putfield 17, 3) := by decide +kernel
theorem dX8_init_20 : decode mX8_init.2.1 20 = .ok (.iconst 0, 1) := by decide +kernel
theorem dX8_init_21 : decode mX8_init.2.1 21 = .ok (.istore_n 1, 1) := by decide +kernel
theorem dX8_init_22 : decode mX8_init.2.1 22 = .ok (.iload_n 1, 1) := by decide +kernel
theorem dX8_init_23 : decode mX8_init.2.1 23 = .ok (.bipush 18, 2) := by decide +kernel
theorem dX8_init_25 : decode mX8_init.2.1 25 = .ok (.if_icmp .ge 23, 3) := by decide +kernel
theorem dX8_init_28 : decode mX8_init.2.1 28 = .ok (.aload_n 0, 1) := by decide +kernel
theorem dX8_init_29 : decode mX8_init.2.1 29 = .ok (.getfield 11, 3) := by decide +kernel
theorem dX8_init_32 : decode mX8_init.2.1 32 = .ok (.iload_n 1, 1) := by decide +kernel
theorem dX8_init_33 : decode mX8_init.2.1 33 = .ok (.new 9, 3) := by decide +kernel
theorem dX8_init_36 : decode mX8_init.2.1 36 = .ok (.dup, 1) := by decide +kernel
theorem dX8_init_37 : decode mX8_init.2.1 37 = .ok (.iload_n 1, 1) := by decide +kernel
theorem dX8_init_38 : decode mX8_init.2.1 38 = .ok (.invokespecial 21, 3) := by decide +kernel
theorem dX8_init_41 : decode mX8_init.2.1 41 = .ok (.aastore, 1) := by decide +kernel
theorem dX8_init_42 : decode mX8_init.2.1 42 = .ok (.iinc 1 1, 3) := by decide +kernel
theorem dX8_init_45 : decode mX8_init.2.1 45 = .ok (.goto (-23), 3) := by decide +kernel
theorem dX8_init_48 : decode mX8_init.2.1 48 = .ok (.return_, 1) := by decide +kernel
theorem dX8_has_0 : decode mX8_has.2.1 0 = .ok (.iload_n 1, 1) := by decide +kernel
theorem dX8_has_1 : decode mX8_has.2.1 1 = .ok (.ifCond .lt 15, 3) := by decide +kernel
theorem dX8_has_4 : decode mX8_has.2.1 4 = .ok (.iload_n 1, 1) := by decide +kernel
theorem dX8_has_5 : decode mX8_has.2.1 5 = .ok (.aload_n 0, 1) := by decide +kernel
theorem dX8_has_6 : decode mX8_has.2.1 6 = .ok (.getfield 24, 3) := by decide +kernel
theorem dX8_has_9 : decode mX8_has.2.1 9 = .ok (.if_icmp .ge 7, 3) := by decide +kernel
theorem dX8_has_12 : decode mX8_has.2.1 12 = .ok (.iconst 1, 1) := by decide +kernel
theorem dX8_has_13 : decode mX8_has.2.1 13 = .ok (.goto 4, 3) := by decide +kernel
theorem dX8_has_16 : decode mX8_has.2.1 16 = .ok (.iconst 0, 1) := by decide +kernel
theorem dX8_has_17 : decode mX8_has.2.1 17 = .ok (.ireturn, 1) := by decide +kernel
theorem dX8_hasRoomFor_0 : decode mX8_hasRoomFor.2.1 0 = .ok (.aload_n 0, 1) := by decide +kernel
theorem dX8_hasRoomFor_1 : decode mX8_hasRoomFor.2.1 1 = .ok (.getfield 24, 3) := by decide +kernel
theorem dX8_hasRoomFor_4 : decode mX8_hasRoomFor.2.1 4 = .ok (.aload_n 1, 1) := by decide +kernel
theorem dX8_hasRoomFor_5 : decode mX8_hasRoomFor.2.1 5 = .ok (.getfield 28, 3) := by decide +kernel
theorem dX8_hasRoomFor_8 : decode mX8_hasRoomFor.2.1 8 = .ok (.iadd, 1) := by decide +kernel
theorem dX8_hasRoomFor_9 : decode mX8_hasRoomFor.2.1 9 = .ok (.bipush 18, 2) := by decide +kernel
theorem dX8_hasRoomFor_11 : decode mX8_hasRoomFor.2.1 11 = .ok (.if_icmp .gt 7, 3) := by decide +kernel
theorem dX8_hasRoomFor_14 : decode mX8_hasRoomFor.2.1 14 = .ok (.iconst 1, 1) := by decide +kernel
theorem dX8_hasRoomFor_15 : decode mX8_hasRoomFor.2.1 15 = .ok (.goto 4, 3) := by decide +kernel
theorem dX8_hasRoomFor_18 : decode mX8_hasRoomFor.2.1 18 = .ok (.iconst 0, 1) := by decide +kernel
theorem dX8_hasRoomFor_19 : decode mX8_hasRoomFor.2.1 19 = .ok (.istore_n 2, 1) := by decide +kernel
theorem dX8_hasRoomFor_20 : decode mX8_hasRoomFor.2.1 20 = .ok (.iconst 0, 1) := by decide +kernel
theorem dX8_hasRoomFor_21 : decode mX8_hasRoomFor.2.1 21 = .ok (.istore_n 3, 1) := by decide +kernel
theorem dX8_hasRoomFor_22 : decode mX8_hasRoomFor.2.1 22 = .ok (.iload_n 3, 1) := by decide +kernel
theorem dX8_hasRoomFor_23 : decode mX8_hasRoomFor.2.1 23 = .ok (.iconst 3, 1) := by decide +kernel
theorem dX8_hasRoomFor_24 : decode mX8_hasRoomFor.2.1 24 = .ok (.if_icmp .ge 37, 3) := by decide +kernel
theorem dX8_hasRoomFor_27 : decode mX8_hasRoomFor.2.1 27 = .ok (.iload_n 2, 1) := by decide +kernel
theorem dX8_hasRoomFor_28 : decode mX8_hasRoomFor.2.1 28 = .ok (.ifCond .eq 25, 3) := by decide +kernel
theorem dX8_hasRoomFor_31 : decode mX8_hasRoomFor.2.1 31 = .ok (.aload_n 0, 1) := by decide +kernel
theorem dX8_hasRoomFor_32 : decode mX8_hasRoomFor.2.1 32 = .ok (.getfield 17, 3) := by decide +kernel
theorem dX8_hasRoomFor_35 : decode mX8_hasRoomFor.2.1 35 = .ok (.iload_n 3, 1) := by decide +kernel
theorem dX8_hasRoomFor_36 : decode mX8_hasRoomFor.2.1 36 = .ok (.iaload, 1) := by decide +kernel
theorem dX8_hasRoomFor_37 : decode mX8_hasRoomFor.2.1 37 = .ok (.aload_n 1, 1) := by decide +kernel
theorem dX8_hasRoomFor_38 : decode mX8_hasRoomFor.2.1 38 = .ok (.getfield 33, 3) := by decide +kernel
theorem dX8_hasRoomFor_41 : decode mX8_hasRoomFor.2.1 41 = .ok (.iload_n 3, 1) := by decide +kernel
theorem dX8_hasRoomFor_42 : decode mX8_hasRoomFor.2.1 42 = .ok (.iaload, 1) := by decide +kernel
theorem dX8_hasRoomFor_43 : decode mX8_hasRoomFor.2.1 43 = .ok (.iadd, 1) := by decide +kernel
theorem dX8_hasRoomFor_44 : decode mX8_hasRoomFor.2.1 44 = .ok (.bipush 7, 2) := by decide +kernel
theorem dX8_hasRoomFor_46 : decode mX8_hasRoomFor.2.1 46 = .ok (.if_icmp .gt 7, 3) := by decide +kernel
theorem dX8_hasRoomFor_49 : decode mX8_hasRoomFor.2.1 49 = .ok (.iconst 1, 1) := by decide +kernel
theorem dX8_hasRoomFor_50 : decode mX8_hasRoomFor.2.1 50 = .ok (.goto 4, 3) := by decide +kernel
theorem dX8_hasRoomFor_53 : decode mX8_hasRoomFor.2.1 53 = .ok (.iconst 0, 1) := by decide +kernel
theorem dX8_hasRoomFor_54 : decode mX8_hasRoomFor.2.1 54 = .ok (.istore_n 2, 1) := by decide +kernel
theorem dX8_hasRoomFor_55 : decode mX8_hasRoomFor.2.1 55 = .ok (.iinc 3 1, 3) := by decide +kernel
theorem dX8_hasRoomFor_58 : decode mX8_hasRoomFor.2.1 58 = .ok (.goto (-36), 3) := by decide +kernel
theorem dX8_hasRoomFor_61 : decode mX8_hasRoomFor.2.1 61 = .ok (.iload_n 2, 1) := by decide +kernel
theorem dX8_hasRoomFor_62 : decode mX8_hasRoomFor.2.1 62 = .ok (.ireturn, 1) := by decide +kernel
theorem dX8_add_0 : decode mX8_add.2.1 0 = .ok (.aload_n 0, 1) := by decide +kernel
theorem dX8_add_1 : decode mX8_add.2.1 1 = .ok (.getfield 24, 3) := by decide +kernel
theorem dX8_add_4 : decode mX8_add.2.1 4 = .ok (.bipush 18, 2) := by decide +kernel
theorem dX8_add_6 : decode mX8_add.2.1 6 = .ok (.if_icmp .lt 4, 3) := by decide +kernel
theorem dX8_add_9 : decode mX8_add.2.1 9 = .ok (.return_, 1) := by decide +kernel
theorem dX8_add_10 : decode mX8_add.2.1 10 = .ok (.aload_n 0, 1) := by decide +kernel
theorem dX8_add_11 : decode mX8_add.2.1 11 = .ok (.getfield 11, 3) := by decide +kernel
theorem dX8_add_14 : decode mX8_add.2.1 14 = .ok (.aload_n 0, 1) := by decide +kernel
theorem dX8_add_15 : decode mX8_add.2.1 15 = .ok (.getfield 24, 3) := by decide +kernel
theorem dX8_add_18 : decode mX8_add.2.1 18 = .ok (.aaload, 1) := by decide +kernel
theorem dX8_add_19 : decode mX8_add.2.1 19 = .ok (.astore 4, 2) := by decide +kernel
theorem dX8_add_21 : decode mX8_add.2.1 21 = .ok (.aload 4, 2) := by decide +kernel
theorem dX8_add_23 : decode mX8_add.2.1 23 = .ok (.aload_n 1, 1) := by decide +kernel
theorem dX8_add_24 : decode mX8_add.2.1 24 = .ok (.aload_n 2, 1) := by decide +kernel
theorem dX8_add_25 : decode mX8_add.2.1 25 = .ok (.invokevirtual 34, 3) := by decide +kernel
theorem dX8_add_28 : decode mX8_add.2.1 28 = .ok (.iconst 0, 1) := by decide +kernel
theorem dX8_add_29 : decode mX8_add.2.1 29 = .ok (.istore 5, 2) := by decide +kernel
theorem dX8_add_31 : decode mX8_add.2.1 31 = .ok (.iload 5, 2) := by decide +kernel
theorem dX8_add_33 : decode mX8_add.2.1 33 = .ok (.aload_n 0, 1) := by decide +kernel
theorem dX8_add_34 : decode mX8_add.2.1 34 = .ok (.getfield 24, 3) := by decide +kernel
theorem dX8_add_37 : decode mX8_add.2.1 37 = .ok (.if_icmp .ge 54, 3) := by decide +kernel
theorem dX8_add_40 : decode mX8_add.2.1 40 = .ok (.aload_n 0, 1) := by decide +kernel
theorem dX8_add_41 : decode mX8_add.2.1 41 = .ok (.getfield 11, 3) := by decide +kernel
theorem dX8_add_44 : decode mX8_add.2.1 44 = .ok (.iload 5, 2) := by decide +kernel
theorem dX8_add_46 : decode mX8_add.2.1 46 = .ok (.aaload, 1) := by decide +kernel
theorem dX8_add_47 : decode mX8_add.2.1 47 = .ok (.astore 6, 2) := by decide +kernel
theorem dX8_add_49 : decode mX8_add.2.1 49 = .ok (.aload_n 3, 1) := by decide +kernel
theorem dX8_add_50 : decode mX8_add.2.1 50 = .ok (.aload 4, 2) := by decide +kernel
theorem dX8_add_52 : decode mX8_add.2.1 52 = .ok (.aload 6, 2) := by decide +kernel
theorem dX8_add_54 : decode mX8_add.2.1 54 = .ok (.invokevirtual 38, 3) := by decide +kernel
theorem dX8_add_57 : decode mX8_add.2.1 57 = .ok (.istore 7, 2) := by decide +kernel
theorem dX8_add_59 : decode mX8_add.2.1 59 = .ok (.aload 4, 2) := by decide +kernel
theorem dX8_add_61 : decode mX8_add.2.1 61 = .ok (.getfield 44, 3) := by decide +kernel
theorem dX8_add_64 : decode mX8_add.2.1 64 = .ok (.aload 6, 2) := by decide +kernel
theorem dX8_add_66 : decode mX8_add.2.1 66 = .ok (.getfield 47, 3) := by decide +kernel
theorem dX8_add_69 : decode mX8_add.2.1 69 = .ok (.iload 7, 2) := by decide +kernel
theorem dX8_add_71 : decode mX8_add.2.1 71 = .ok (.iastore, 1) := by decide +kernel
theorem dX8_add_72 : decode mX8_add.2.1 72 = .ok (.aload 6, 2) := by decide +kernel
theorem dX8_add_74 : decode mX8_add.2.1 74 = .ok (.getfield 44, 3) := by decide +kernel
theorem dX8_add_77 : decode mX8_add.2.1 77 = .ok (.aload 4, 2) := by decide +kernel
theorem dX8_add_79 : decode mX8_add.2.1 79 = .ok (.getfield 47, 3) := by decide +kernel
theorem dX8_add_82 : decode mX8_add.2.1 82 = .ok (.iload 7, 2) := by decide +kernel
theorem dX8_add_84 : decode mX8_add.2.1 84 = .ok (.iastore, 1) := by decide +kernel
theorem dX8_add_85 : decode mX8_add.2.1 85 = .ok (.iinc 5 1, 3) := by decide +kernel
theorem dX8_add_88 : decode mX8_add.2.1 88 = .ok (.goto (-57), 3) := by decide +kernel
theorem dX8_add_91 : decode mX8_add.2.1 91 = .ok (.aload_n 0, 1) := by decide +kernel
theorem dX8_add_92 : decode mX8_add.2.1 92 = .ok (.getfield 17, 3) := by decide +kernel
theorem dX8_add_95 : decode mX8_add.2.1 95 = .ok (.aload 4, 2) := by decide +kernel
theorem dX8_add_97 : decode mX8_add.2.1 97 = .ok (.getfield 50, 3) := by decide +kernel
theorem dX8_add_100 : decode mX8_add.2.1 100 = .ok (.dup2, 1) := by decide +kernel
theorem dX8_add_101 : decode mX8_add.2.1 101 = .ok (.iaload, 1) := by decide +kernel
theorem dX8_add_102 : decode mX8_add.2.1 102 = .ok (.iconst 1, 1) := by decide +kernel
theorem dX8_add_103 : decode mX8_add.2.1 103 = .ok (.iadd, 1) := by decide +kernel
theorem dX8_add_104 : decode mX8_add.2.1 104 = .ok (.iastore, 1) := by decide +kernel
theorem dX8_add_105 : decode mX8_add.2.1 105 = .ok (.aload_n 0, 1) := by decide +kernel
theorem dX8_add_106 : decode mX8_add.2.1 106 = .ok (.dup, 1) := by decide +kernel
theorem dX8_add_107 : decode mX8_add.2.1 107 = .ok (.getfield 24, 3) := by decide +kernel
theorem dX8_add_110 : decode mX8_add.2.1 110 = .ok (.iconst 1, 1) := by decide +kernel
theorem dX8_add_111 : decode mX8_add.2.1 111 = .ok (.iadd, 1) := by decide +kernel
theorem dX8_add_112 : decode mX8_add.2.1 112 = .ok (.putfield 24, 3) := by decide +kernel
theorem dX8_add_115 : decode mX8_add.2.1 115 = .ok (.return_, 1) := by decide +kernel
theorem dX8_remove_0 : decode mX8_remove.2.1 0 = .ok (.aload_n 0, 1) := by decide +kernel
theorem dX8_remove_1 : decode mX8_remove.2.1 1 = .ok (.getfield 11, 3) := by decide +kernel
theorem dX8_remove_4 : decode mX8_remove.2.1 4 = .ok (.iload_n 1, 1) := by decide +kernel
theorem dX8_remove_5 : decode mX8_remove.2.1 5 = .ok (.aaload, 1) := by decide +kernel
theorem dX8_remove_6 : decode mX8_remove.2.1 6 = .ok (.astore_n 2, 1) := by decide +kernel
theorem dX8_remove_7 : decode mX8_remove.2.1 7 = .ok (.iload_n 1, 1) := by decide +kernel
theorem dX8_remove_8 : decode mX8_remove.2.1 8 = .ok (.iconst 1, 1) := by decide +kernel
theorem dX8_remove_9 : decode mX8_remove.2.1 9 = .ok (.iadd, 1) := by decide +kernel
theorem dX8_remove_10 : decode mX8_remove.2.1 10 = .ok (.istore_n 3, 1) := by decide +kernel
theorem dX8_remove_11 : decode mX8_remove.2.1 11 = .ok (.iload_n 3, 1) := by decide +kernel
theorem dX8_remove_12 : decode mX8_remove.2.1 12 = .ok (.aload_n 0, 1) := by decide +kernel
theorem dX8_remove_13 : decode mX8_remove.2.1 13 = .ok (.getfield 24, 3) := by decide +kernel
theorem dX8_remove_16 : decode mX8_remove.2.1 16 = .ok (.if_icmp .ge 23, 3) := by decide +kernel
theorem dX8_remove_19 : decode mX8_remove.2.1 19 = .ok (.aload_n 0, 1) := by decide +kernel
theorem dX8_remove_20 : decode mX8_remove.2.1 20 = .ok (.getfield 11, 3) := by decide +kernel
theorem dX8_remove_23 : decode mX8_remove.2.1 23 = .ok (.iload_n 3, 1) := by decide +kernel
theorem dX8_remove_24 : decode mX8_remove.2.1 24 = .ok (.iconst 1, 1) := by decide +kernel
theorem dX8_remove_25 : decode mX8_remove.2.1 25 = .ok (.isub, 1) := by decide +kernel
theorem dX8_remove_26 : decode mX8_remove.2.1 26 = .ok (.aload_n 0, 1) := by decide +kernel
theorem dX8_remove_27 : decode mX8_remove.2.1 27 = .ok (.getfield 11, 3) := by decide +kernel
theorem dX8_remove_30 : decode mX8_remove.2.1 30 = .ok (.iload_n 3, 1) := by decide +kernel
theorem dX8_remove_31 : decode mX8_remove.2.1 31 = .ok (.aaload, 1) := by decide +kernel
theorem dX8_remove_32 : decode mX8_remove.2.1 32 = .ok (.aastore, 1) := by decide +kernel
theorem dX8_remove_33 : decode mX8_remove.2.1 33 = .ok (.iinc 3 1, 3) := by decide +kernel
theorem dX8_remove_36 : decode mX8_remove.2.1 36 = .ok (.goto (-25), 3) := by decide +kernel
theorem dX8_remove_39 : decode mX8_remove.2.1 39 = .ok (.aload_n 0, 1) := by decide +kernel
theorem dX8_remove_40 : decode mX8_remove.2.1 40 = .ok (.dup, 1) := by decide +kernel
theorem dX8_remove_41 : decode mX8_remove.2.1 41 = .ok (.getfield 24, 3) := by decide +kernel
theorem dX8_remove_44 : decode mX8_remove.2.1 44 = .ok (.iconst 1, 1) := by decide +kernel
theorem dX8_remove_45 : decode mX8_remove.2.1 45 = .ok (.isub, 1) := by decide +kernel
theorem dX8_remove_46 : decode mX8_remove.2.1 46 = .ok (.putfield 24, 3) := by decide +kernel
theorem dX8_remove_49 : decode mX8_remove.2.1 49 = .ok (.aload_n 0, 1) := by decide +kernel
theorem dX8_remove_50 : decode mX8_remove.2.1 50 = .ok (.getfield 11, 3) := by decide +kernel
theorem dX8_remove_53 : decode mX8_remove.2.1 53 = .ok (.aload_n 0, 1) := by decide +kernel
theorem dX8_remove_54 : decode mX8_remove.2.1 54 = .ok (.getfield 24, 3) := by decide +kernel
theorem dX8_remove_57 : decode mX8_remove.2.1 57 = .ok (.aload_n 2, 1) := by decide +kernel
theorem dX8_remove_58 : decode mX8_remove.2.1 58 = .ok (.aastore, 1) := by decide +kernel
theorem dX8_remove_59 : decode mX8_remove.2.1 59 = .ok (.aload_n 0, 1) := by decide +kernel
theorem dX8_remove_60 : decode mX8_remove.2.1 60 = .ok (.getfield 17, 3) := by decide +kernel
theorem dX8_remove_63 : decode mX8_remove.2.1 63 = .ok (.aload_n 2, 1) := by decide +kernel
theorem dX8_remove_64 : decode mX8_remove.2.1 64 = .ok (.getfield 50, 3) := by decide +kernel
theorem dX8_remove_67 : decode mX8_remove.2.1 67 = .ok (.dup2, 1) := by decide +kernel
theorem dX8_remove_68 : decode mX8_remove.2.1 68 = .ok (.iaload, 1) := by decide +kernel
theorem dX8_remove_69 : decode mX8_remove.2.1 69 = .ok (.iconst 1, 1) := by decide +kernel
theorem dX8_remove_70 : decode mX8_remove.2.1 70 = .ok (.isub, 1) := by decide +kernel
theorem dX8_remove_71 : decode mX8_remove.2.1 71 = .ok (.iastore, 1) := by decide +kernel
theorem dX8_remove_72 : decode mX8_remove.2.1 72 = .ok (.aload_n 0, 1) := by decide +kernel
theorem dX8_remove_73 : decode mX8_remove.2.1 73 = .ok (.dup, 1) := by decide +kernel
theorem dX8_remove_74 : decode mX8_remove.2.1 74 = .ok (.getfield 53, 3) := by decide +kernel
theorem dX8_remove_77 : decode mX8_remove.2.1 77 = .ok (.iconst 1, 1) := by decide +kernel
theorem dX8_remove_78 : decode mX8_remove.2.1 78 = .ok (.iadd, 1) := by decide +kernel
theorem dX8_remove_79 : decode mX8_remove.2.1 79 = .ok (.putfield 53, 3) := by decide +kernel
theorem dX8_remove_82 : decode mX8_remove.2.1 82 = .ok (.iconst 0, 1) := by decide +kernel
theorem dX8_remove_83 : decode mX8_remove.2.1 83 = .ok (.istore_n 3, 1) := by decide +kernel
theorem dX8_remove_84 : decode mX8_remove.2.1 84 = .ok (.iload_n 3, 1) := by decide +kernel
theorem dX8_remove_85 : decode mX8_remove.2.1 85 = .ok (.aload_n 0, 1) := by decide +kernel
theorem dX8_remove_86 : decode mX8_remove.2.1 86 = .ok (.getfield 24, 3) := by decide +kernel
theorem dX8_remove_89 : decode mX8_remove.2.1 89 = .ok (.if_icmp .ge 31, 3) := by decide +kernel
theorem dX8_remove_92 : decode mX8_remove.2.1 92 = .ok (.aload_n 0, 1) := by decide +kernel
theorem dX8_remove_93 : decode mX8_remove.2.1 93 = .ok (.getfield 11, 3) := by decide +kernel
theorem dX8_remove_96 : decode mX8_remove.2.1 96 = .ok (.iload_n 3, 1) := by decide +kernel
theorem dX8_remove_97 : decode mX8_remove.2.1 97 = .ok (.aaload, 1) := by decide +kernel
theorem dX8_remove_98 : decode mX8_remove.2.1 98 = .ok (.dup, 1) := by decide +kernel
theorem dX8_remove_99 : decode mX8_remove.2.1 99 = .ok (.getfield 56, 3) := by decide +kernel
theorem dX8_remove_102 : decode mX8_remove.2.1 102 = .ok (.iconst 1, 1) := by decide +kernel
theorem dX8_remove_103 : decode mX8_remove.2.1 103 = .ok (.aload_n 2, 1) := by decide +kernel
theorem dX8_remove_104 : decode mX8_remove.2.1 104 = .ok (.getfield 47, 3) := by decide +kernel
theorem dX8_remove_107 : decode mX8_remove.2.1 107 = .ok (.ishl, 1) := by decide +kernel
theorem dX8_remove_108 : decode mX8_remove.2.1 108 = .ok (.iconst (-1), 1) := by decide +kernel
theorem dX8_remove_109 : decode mX8_remove.2.1 109 = .ok (.ixor, 1) := by decide +kernel
theorem dX8_remove_110 : decode mX8_remove.2.1 110 = .ok (.iand, 1) := by decide +kernel
theorem dX8_remove_111 : decode mX8_remove.2.1 111 = .ok (.putfield 56, 3) := by decide +kernel
theorem dX8_remove_114 : decode mX8_remove.2.1 114 = .ok (.iinc 3 1, 3) := by decide +kernel
theorem dX8_remove_117 : decode mX8_remove.2.1 117 = .ok (.goto (-33), 3) := by decide +kernel
theorem dX8_remove_120 : decode mX8_remove.2.1 120 = .ok (.return_, 1) := by decide +kernel
theorem dX8_turnParted_0 : decode mX8_turnParted.2.1 0 = .ok (.aload_n 1, 1) := by decide +kernel
theorem dX8_turnParted_1 : decode mX8_turnParted.2.1 1 = .ok (.dup, 1) := by decide +kernel
theorem dX8_turnParted_2 : decode mX8_turnParted.2.1 2 = .ok (.getfield 56, 3) := by decide +kernel
theorem dX8_turnParted_5 : decode mX8_turnParted.2.1 5 = .ok (.iconst 1, 1) := by decide +kernel
theorem dX8_turnParted_6 : decode mX8_turnParted.2.1 6 = .ok (.aload_n 2, 1) := by decide +kernel
theorem dX8_turnParted_7 : decode mX8_turnParted.2.1 7 = .ok (.getfield 47, 3) := by decide +kernel
theorem dX8_turnParted_10 : decode mX8_turnParted.2.1 10 = .ok (.ishl, 1) := by decide +kernel
theorem dX8_turnParted_11 : decode mX8_turnParted.2.1 11 = .ok (.ixor, 1) := by decide +kernel
theorem dX8_turnParted_12 : decode mX8_turnParted.2.1 12 = .ok (.putfield 56, 3) := by decide +kernel
theorem dX8_turnParted_15 : decode mX8_turnParted.2.1 15 = .ok (.aload_n 2, 1) := by decide +kernel
theorem dX8_turnParted_16 : decode mX8_turnParted.2.1 16 = .ok (.dup, 1) := by decide +kernel
theorem dX8_turnParted_17 : decode mX8_turnParted.2.1 17 = .ok (.getfield 56, 3) := by decide +kernel
theorem dX8_turnParted_20 : decode mX8_turnParted.2.1 20 = .ok (.iconst 1, 1) := by decide +kernel
theorem dX8_turnParted_21 : decode mX8_turnParted.2.1 21 = .ok (.aload_n 1, 1) := by decide +kernel
theorem dX8_turnParted_22 : decode mX8_turnParted.2.1 22 = .ok (.getfield 47, 3) := by decide +kernel
theorem dX8_turnParted_25 : decode mX8_turnParted.2.1 25 = .ok (.ishl, 1) := by decide +kernel
theorem dX8_turnParted_26 : decode mX8_turnParted.2.1 26 = .ok (.ixor, 1) := by decide +kernel
theorem dX8_turnParted_27 : decode mX8_turnParted.2.1 27 = .ok (.putfield 56, 3) := by decide +kernel
theorem dX8_turnParted_30 : decode mX8_turnParted.2.1 30 = .ok (.aload_n 1, 1) := by decide +kernel
theorem dX8_turnParted_31 : decode mX8_turnParted.2.1 31 = .ok (.aload_n 2, 1) := by decide +kernel
theorem dX8_turnParted_32 : decode mX8_turnParted.2.1 32 = .ok (.invokevirtual 59, 3) := by decide +kernel
theorem dX8_turnParted_35 : decode mX8_turnParted.2.1 35 = .ok (.ireturn, 1) := by decide +kernel
theorem dX8_countParted_0 : decode mX8_countParted.2.1 0 = .ok (.iconst 0, 1) := by decide +kernel
theorem dX8_countParted_1 : decode mX8_countParted.2.1 1 = .ok (.istore_n 1, 1) := by decide +kernel
theorem dX8_countParted_2 : decode mX8_countParted.2.1 2 = .ok (.iconst 0, 1) := by decide +kernel
theorem dX8_countParted_3 : decode mX8_countParted.2.1 3 = .ok (.istore_n 2, 1) := by decide +kernel
theorem dX8_countParted_4 : decode mX8_countParted.2.1 4 = .ok (.iload_n 2, 1) := by decide +kernel
theorem dX8_countParted_5 : decode mX8_countParted.2.1 5 = .ok (.aload_n 0, 1) := by decide +kernel
theorem dX8_countParted_6 : decode mX8_countParted.2.1 6 = .ok (.getfield 24, 3) := by decide +kernel
theorem dX8_countParted_9 : decode mX8_countParted.2.1 9 = .ok (.if_icmp .ge 24, 3) := by decide +kernel
theorem dX8_countParted_12 : decode mX8_countParted.2.1 12 = .ok (.iload_n 1, 1) := by decide +kernel
theorem dX8_countParted_13 : decode mX8_countParted.2.1 13 = .ok (.aload_n 0, 1) := by decide +kernel
theorem dX8_countParted_14 : decode mX8_countParted.2.1 14 = .ok (.getfield 11, 3) := by decide +kernel
theorem dX8_countParted_17 : decode mX8_countParted.2.1 17 = .ok (.iload_n 2, 1) := by decide +kernel
theorem dX8_countParted_18 : decode mX8_countParted.2.1 18 = .ok (.aaload, 1) := by decide +kernel
theorem dX8_countParted_19 : decode mX8_countParted.2.1 19 = .ok (.getfield 56, 3) := by decide +kernel
theorem dX8_countParted_22 : decode mX8_countParted.2.1 22 = .ok (.invokestatic 63, 3) := by decide +kernel
theorem dX8_countParted_25 : decode mX8_countParted.2.1 25 = .ok (.iadd, 1) := by decide +kernel
theorem dX8_countParted_26 : decode mX8_countParted.2.1 26 = .ok (.istore_n 1, 1) := by decide +kernel
theorem dX8_countParted_27 : decode mX8_countParted.2.1 27 = .ok (.iinc 2 1, 3) := by decide +kernel
theorem dX8_countParted_30 : decode mX8_countParted.2.1 30 = .ok (.goto (-26), 3) := by decide +kernel
theorem dX8_countParted_33 : decode mX8_countParted.2.1 33 = .ok (.iload_n 1, 1) := by decide +kernel
theorem dX8_countParted_34 : decode mX8_countParted.2.1 34 = .ok (.iconst 2, 1) := by decide +kernel
theorem dX8_countParted_35 : decode mX8_countParted.2.1 35 = .ok (.idiv, 1) := by decide +kernel
theorem dX8_countParted_36 : decode mX8_countParted.2.1 36 = .ok (.ireturn, 1) := by decide +kernel
theorem dX8_settleBorn_0 : decode mX8_settleBorn.2.1 0 = .ok (.iconst 0, 1) := by decide +kernel
theorem dX8_settleBorn_1 : decode mX8_settleBorn.2.1 1 = .ok (.istore_n 2, 1) := by decide +kernel
theorem dX8_settleBorn_2 : decode mX8_settleBorn.2.1 2 = .ok (.iload_n 2, 1) := by decide +kernel
theorem dX8_settleBorn_3 : decode mX8_settleBorn.2.1 3 = .ok (.aload_n 0, 1) := by decide +kernel
theorem dX8_settleBorn_4 : decode mX8_settleBorn.2.1 4 = .ok (.getfield 24, 3) := by decide +kernel
theorem dX8_settleBorn_7 : decode mX8_settleBorn.2.1 7 = .ok (.if_icmp .ge 19, 3) := by decide +kernel
theorem dX8_settleBorn_10 : decode mX8_settleBorn.2.1 10 = .ok (.aload_n 0, 1) := by decide +kernel
theorem dX8_settleBorn_11 : decode mX8_settleBorn.2.1 11 = .ok (.getfield 11, 3) := by decide +kernel
theorem dX8_settleBorn_14 : decode mX8_settleBorn.2.1 14 = .ok (.iload_n 2, 1) := by decide +kernel
theorem dX8_settleBorn_15 : decode mX8_settleBorn.2.1 15 = .ok (.aaload, 1) := by decide +kernel
theorem dX8_settleBorn_16 : decode mX8_settleBorn.2.1 16 = .ok (.iload_n 1, 1) := by decide +kernel
theorem dX8_settleBorn_17 : decode mX8_settleBorn.2.1 17 = .ok (.invokevirtual 69, 3) := by decide +kernel
theorem dX8_settleBorn_20 : decode mX8_settleBorn.2.1 20 = .ok (.iinc 2 1, 3) := by decide +kernel
theorem dX8_settleBorn_23 : decode mX8_settleBorn.2.1 23 = .ok (.goto (-21), 3) := by decide +kernel
theorem dX8_settleBorn_26 : decode mX8_settleBorn.2.1 26 = .ok (.return_, 1) := by decide +kernel
theorem dX9_init_0 : decode mX9_init.2.1 0 = .ok (.aload_n 0, 1) := by decide +kernel
theorem dX9_init_1 : decode mX9_init.2.1 1 = .ok (.invokespecial 1, 3) := by decide +kernel
theorem dX9_init_4 : decode mX9_init.2.1 4 = .ok (.aload_n 0, 1) := by decide +kernel
theorem dX9_init_5 : decode mX9_init.2.1 5 = .ok (.new 7, 3) := by decide +kernel
theorem dX9_init_8 : decode mX9_init.2.1 8 = .ok (.dup, 1) := by decide +kernel
theorem dX9_init_9 : decode mX9_init.2.1 9 = .ok (.invokespecial 9, 3) := by decide +kernel
theorem dX9_init_12 : decode mX9_init.2.1 12 = .ok (.putfield 10, 3) := by decide +kernel
theorem dX9_init_15 : decode mX9_init.2.1 15 = .ok (.aload_n 0, 1) := by decide +kernel
theorem dX9_init_16 : decode mX9_init.2.1 16 = .ok (.new 16, 3) := by decide +kernel
theorem dX9_init_19 : decode mX9_init.2.1 19 = .ok (.dup, 1) := by decide +kernel
theorem dX9_init_20 : decode mX9_init.2.1 20 = .ok (.invokespecial 18, 3) := by decide +kernel
theorem dX9_init_23 : decode mX9_init.2.1 23 = .ok (.putfield 19, 3) := by decide +kernel
theorem dX9_init_26 : decode mX9_init.2.1 26 = .ok (.aload_n 0, 1) := by decide +kernel
theorem dX9_init_27 : decode mX9_init.2.1 27 = .ok (.new 23, 3) := by decide +kernel
theorem dX9_init_30 : decode mX9_init.2.1 30 = .ok (.dup, 1) := by decide +kernel
theorem dX9_init_31 : decode mX9_init.2.1 31 = .ok (.invokespecial 25, 3) := by decide +kernel
theorem dX9_init_34 : decode mX9_init.2.1 34 = .ok (.putfield 26, 3) := by decide +kernel
theorem dX9_init_37 : decode mX9_init.2.1 37 = .ok (.aload_n 0, 1) := by decide +kernel
theorem dX9_init_38 : decode mX9_init.2.1 38 = .ok (.new 30, 3) := by decide +kernel
theorem dX9_init_41 : decode mX9_init.2.1 41 = .ok (.dup, 1) := by decide +kernel
theorem dX9_init_42 : decode mX9_init.2.1 42 = .ok (.invokespecial 32, 3) := by decide +kernel
theorem dX9_init_45 : decode mX9_init.2.1 45 = .ok (.putfield 33, 3) := by decide +kernel
theorem dX9_init_48 : decode mX9_init.2.1 48 = .ok (.aload_n 0, 1) := by decide +kernel
theorem dX9_init_49 : decode mX9_init.2.1 49 = .ok (.new 37, 3) := by decide +kernel
theorem dX9_init_52 : decode mX9_init.2.1 52 = .ok (.dup, 1) := by decide +kernel
theorem dX9_init_53 : decode mX9_init.2.1 53 = .ok (.invokespecial 39, 3) := by decide +kernel
theorem dX9_init_56 : decode mX9_init.2.1 56 = .ok (.putfield 40, 3) := by decide +kernel
theorem dX9_init_59 : decode mX9_init.2.1 59 = .ok (.aload_n 0, 1) := by decide +kernel
theorem dX9_init_60 : decode mX9_init.2.1 60 = .ok (.new 44, 3) := by decide +kernel
theorem dX9_init_63 : decode mX9_init.2.1 63 = .ok (.dup, 1) := by decide +kernel
theorem dX9_init_64 : decode mX9_init.2.1 64 = .ok (.invokespecial 46, 3) := by decide +kernel
theorem dX9_init_67 : decode mX9_init.2.1 67 = .ok (.putfield 47, 3) := by decide +kernel
theorem dX9_init_70 : decode mX9_init.2.1 70 = .ok (.aload_n 0, 1) := by decide +kernel
theorem dX9_init_71 : decode mX9_init.2.1 71 = .ok (.new 51, 3) := by decide +kernel
theorem dX9_init_74 : decode mX9_init.2.1 74 = .ok (.dup, 1) := by decide +kernel
theorem dX9_init_75 : decode mX9_init.2.1 75 = .ok (.invokespecial 53, 3) := by decide +kernel
theorem dX9_init_78 : decode mX9_init.2.1 78 = .ok (.putfield 54, 3) := by decide +kernel
theorem dX9_init_81 : decode mX9_init.2.1 81 = .ok (.aload_n 0, 1) := by decide +kernel
theorem dX9_init_82 : decode mX9_init.2.1 82 = .ok (.sipush 600, 3) := by decide +kernel
theorem dX9_init_85 : decode mX9_init.2.1 85 = .ok (.putfield 58, 3) := by decide +kernel
theorem dX9_init_88 : decode mX9_init.2.1 88 = .ok (.aload_n 0, 1) := by decide +kernel
theorem dX9_init_89 : decode mX9_init.2.1 89 = .ok (.iconst 1, 1) := by decide +kernel
theorem dX9_init_90 : decode mX9_init.2.1 90 = .ok (.putfield 62, 3) := by decide +kernel
theorem dX9_init_93 : decode mX9_init.2.1 93 = .ok (.aload_n 0, 1) := by decide +kernel
theorem dX9_init_94 : decode mX9_init.2.1 94 = .ok (.bipush 40, 2) := by decide +kernel
theorem dX9_init_96 : decode mX9_init.2.1 96 = .ok (.putfield 65, 3) := by decide +kernel
theorem dX9_init_99 : decode mX9_init.2.1 99 = .ok (.aload_n 0, 1) := by decide +kernel
theorem dX9_init_100 : decode mX9_init.2.1 100 = .ok (.iconst 1, 1) := by decide +kernel
theorem dX9_init_101 : decode mX9_init.2.1 101 = .ok (.putfield 68, 3) := by decide +kernel
theorem dX9_init_104 : decode mX9_init.2.1 104 = .ok (.return_, 1) := by decide +kernel
theorem dX9_letter_0 : decode mX9_letter.2.1 0 = .ok (.iload_n 1, 1) := by decide +kernel
theorem dX9_letter_1 : decode mX9_letter.2.1 1 = .ok (.bipush 32, 2) := by decide +kernel
theorem dX9_letter_3 : decode mX9_letter.2.1 3 = .ok (.if_icmp .lt 9, 3) := by decide +kernel
theorem dX9_letter_6 : decode mX9_letter.2.1 6 = .ok (.iload_n 1, 1) := by decide +kernel
theorem dX9_letter_7 : decode mX9_letter.2.1 7 = .ok (.bipush 126, 2) := by decide +kernel
theorem dX9_letter_9 : decode mX9_letter.2.1 9 = .ok (.if_icmp .le 6, 3) := by decide +kernel
theorem dX9_letter_12 : decode mX9_letter.2.1 12 = .ok (.bipush (-102), 2) := by decide +kernel
theorem dX9_letter_14 : decode mX9_letter.2.1 14 = .ok (.ireturn, 1) := by decide +kernel
theorem dX9_letter_15 : decode mX9_letter.2.1 15 = .ok (.aload_n 0, 1) := by decide +kernel
theorem dX9_letter_16 : decode mX9_letter.2.1 16 = .ok (.getfield 10, 3) := by decide +kernel
theorem dX9_letter_19 : decode mX9_letter.2.1 19 = .ok (.getfield 72, 3) := by decide +kernel
theorem dX9_letter_22 : decode mX9_letter.2.1 22 = .ok (.bipush 60, 2) := by decide +kernel
theorem dX9_letter_24 : decode mX9_letter.2.1 24 = .ok (.if_icmp .lt 6, 3) := by decide +kernel
theorem dX9_letter_27 : decode mX9_letter.2.1 27 = .ok (.bipush (-104), 2) := by decide +kernel
theorem dX9_letter_29 : decode mX9_letter.2.1 29 = .ok (.ireturn, 1) := by decide +kernel
theorem dX9_letter_30 : decode mX9_letter.2.1 30 = .ok (.aload_n 0, 1) := by decide +kernel
theorem dX9_letter_31 : decode mX9_letter.2.1 31 = .ok (.getfield 10, 3) := by decide +kernel
theorem dX9_letter_34 : decode mX9_letter.2.1 34 = .ok (.iload_n 1, 1) := by decide +kernel
theorem dX9_letter_35 : decode mX9_letter.2.1 35 = .ok (.invokevirtual 75, 3) := by decide +kernel
theorem dX9_letter_38 : decode mX9_letter.2.1 38 = .ok (.aload_n 0, 1) := by decide +kernel
theorem dX9_letter_39 : decode mX9_letter.2.1 39 = .ok (.getfield 10, 3) := by decide +kernel
theorem dX9_letter_42 : decode mX9_letter.2.1 42 = .ok (.getfield 72, 3) := by decide +kernel
theorem dX9_letter_45 : decode mX9_letter.2.1 45 = .ok (.ireturn, 1) := by decide +kernel
theorem dX9_blank_0 : decode mX9_blank.2.1 0 = .ok (.aload_n 0, 1) := by decide +kernel
theorem dX9_blank_1 : decode mX9_blank.2.1 1 = .ok (.getfield 10, 3) := by decide +kernel
theorem dX9_blank_4 : decode mX9_blank.2.1 4 = .ok (.getfield 72, 3) := by decide +kernel
theorem dX9_blank_7 : decode mX9_blank.2.1 7 = .ok (.istore_n 1, 1) := by decide +kernel
theorem dX9_blank_8 : decode mX9_blank.2.1 8 = .ok (.aload_n 0, 1) := by decide +kernel
theorem dX9_blank_9 : decode mX9_blank.2.1 9 = .ok (.getfield 10, 3) := by decide +kernel
theorem dX9_blank_12 : decode mX9_blank.2.1 12 = .ok (.iconst 0, 1) := by decide +kernel
theorem dX9_blank_13 : decode mX9_blank.2.1 13 = .ok (.putfield 72, 3) := by decide +kernel
theorem dX9_blank_16 : decode mX9_blank.2.1 16 = .ok (.iload_n 1, 1) := by decide +kernel
theorem dX9_blank_17 : decode mX9_blank.2.1 17 = .ok (.ireturn, 1) := by decide +kernel
theorem dX9_fault_0 : decode mX9_fault.2.1 0 = .ok (.aload_n 0, 1) := by decide +kernel
theorem dX9_fault_1 : decode mX9_fault.2.1 1 = .ok (.getfield 19, 3) := by decide +kernel
theorem dX9_fault_4 : decode mX9_fault.2.1 4 = .ok (.invokevirtual 79, 3) := by decide +kernel
theorem dX9_fault_7 : decode mX9_fault.2.1 7 = .ok (.iconst 0, 1) := by decide +kernel
theorem dX9_fault_8 : decode mX9_fault.2.1 8 = .ok (.istore_n 1, 1) := by decide +kernel
theorem dX9_fault_9 : decode mX9_fault.2.1 9 = .ok (.iload_n 1, 1) := by decide +kernel
theorem dX9_fault_10 : decode mX9_fault.2.1 10 = .ok (.aload_n 0, 1) := by decide +kernel
theorem dX9_fault_11 : decode mX9_fault.2.1 11 = .ok (.getfield 10, 3) := by decide +kernel
theorem dX9_fault_14 : decode mX9_fault.2.1 14 = .ok (.getfield 72, 3) := by decide +kernel
theorem dX9_fault_17 : decode mX9_fault.2.1 17 = .ok (.if_icmp .ge 30, 3) := by decide +kernel
theorem dX9_fault_20 : decode mX9_fault.2.1 20 = .ok (.aload_n 0, 1) := by decide +kernel
theorem dX9_fault_21 : decode mX9_fault.2.1 21 = .ok (.getfield 19, 3) := by decide +kernel
theorem dX9_fault_24 : decode mX9_fault.2.1 24 = .ok (.aload_n 0, 1) := by decide +kernel
theorem dX9_fault_25 : decode mX9_fault.2.1 25 = .ok (.getfield 10, 3) := by decide +kernel
theorem dX9_fault_28 : decode mX9_fault.2.1 28 = .ok (.getfield 82, 3) := by decide +kernel
theorem dX9_fault_31 : decode mX9_fault.2.1 31 = .ok (.iload_n 1, 1) := by decide +kernel
theorem dX9_fault_32 : decode mX9_fault.2.1 32 = .ok (.iaload, 1) := by decide +kernel
theorem dX9_fault_33 : decode mX9_fault.2.1 33 = .ok (.invokevirtual 86, 3) := by decide +kernel
theorem dX9_fault_36 : decode mX9_fault.2.1 36 = .ok (.ifCond .ne 5, 3) := by decide +kernel
theorem dX9_fault_39 : decode mX9_fault.2.1 39 = .ok (.iload_n 1, 1) := by decide +kernel
theorem dX9_fault_40 : decode mX9_fault.2.1 40 = .ok (.ireturn, 1) := by decide +kernel
theorem dX9_fault_41 : decode mX9_fault.2.1 41 = .ok (.iinc 1 1, 3) := by decide +kernel
theorem dX9_fault_44 : decode mX9_fault.2.1 44 = .ok (.goto (-35), 3) := by decide +kernel
theorem dX9_fault_47 : decode mX9_fault.2.1 47 = .ok (.aload_n 0, 1) := by decide +kernel
theorem dX9_fault_48 : decode mX9_fault.2.1 48 = .ok (.getfield 10, 3) := by decide +kernel
theorem dX9_fault_51 : decode mX9_fault.2.1 51 = .ok (.getfield 72, 3) := by decide +kernel
theorem dX9_fault_54 : decode mX9_fault.2.1 54 = .ok (.ireturn, 1) := by decide +kernel
theorem dX9_enter_0 : decode mX9_enter.2.1 0 = .ok (.aload_n 0, 1) := by decide +kernel
theorem dX9_enter_1 : decode mX9_enter.2.1 1 = .ok (.invokevirtual 90, 3) := by decide +kernel
theorem dX9_enter_4 : decode mX9_enter.2.1 4 = .ok (.aload_n 0, 1) := by decide +kernel
theorem dX9_enter_5 : decode mX9_enter.2.1 5 = .ok (.getfield 10, 3) := by decide +kernel
theorem dX9_enter_8 : decode mX9_enter.2.1 8 = .ok (.getfield 72, 3) := by decide +kernel
theorem dX9_enter_11 : decode mX9_enter.2.1 11 = .ok (.if_icmp .lt 13, 3) := by decide +kernel
theorem dX9_enter_14 : decode mX9_enter.2.1 14 = .ok (.aload_n 0, 1) := by decide +kernel
theorem dX9_enter_15 : decode mX9_enter.2.1 15 = .ok (.getfield 19, 3) := by decide +kernel
theorem dX9_enter_18 : decode mX9_enter.2.1 18 = .ok (.invokevirtual 94, 3) := by decide +kernel
theorem dX9_enter_21 : decode mX9_enter.2.1 21 = .ok (.ifCond .ne 6, 3) := by decide +kernel
theorem dX9_enter_24 : decode mX9_enter.2.1 24 = .ok (.bipush (-103), 2) := by decide +kernel
theorem dX9_enter_26 : decode mX9_enter.2.1 26 = .ok (.ireturn, 1) := by decide +kernel
theorem dX9_enter_27 : decode mX9_enter.2.1 27 = .ok (.aload_n 0, 1) := by decide +kernel
theorem dX9_enter_28 : decode mX9_enter.2.1 28 = .ok (.getfield 33, 3) := by decide +kernel
theorem dX9_enter_31 : decode mX9_enter.2.1 31 = .ok (.aload_n 0, 1) := by decide +kernel
theorem dX9_enter_32 : decode mX9_enter.2.1 32 = .ok (.getfield 19, 3) := by decide +kernel
theorem dX9_enter_35 : decode mX9_enter.2.1 35 = .ok (.invokevirtual 98, 3) := by decide +kernel
theorem dX9_enter_38 : decode mX9_enter.2.1 38 = .ok (.ifCond .ne 6, 3) := by decide +kernel
theorem dX9_enter_41 : decode mX9_enter.2.1 41 = .ok (.bipush (-104), 2) := by decide +kernel
theorem dX9_enter_43 : decode mX9_enter.2.1 43 = .ok (.ireturn, 1) := by decide +kernel
theorem dX9_enter_44 : decode mX9_enter.2.1 44 = .ok (.aload_n 0, 1) := by decide +kernel
theorem dX9_enter_45 : decode mX9_enter.2.1 45 = .ok (.getfield 19, 3) := by decide +kernel
theorem dX9_enter_48 : decode mX9_enter.2.1 48 = .ok (.getfield 102, 3) := by decide +kernel
theorem dX9_enter_51 : decode mX9_enter.2.1 51 = .ok (.istore_n 1, 1) := by decide +kernel
theorem dX9_enter_52 : decode mX9_enter.2.1 52 = .ok (.aload_n 0, 1) := by decide +kernel
theorem dX9_enter_53 : decode mX9_enter.2.1 53 = .ok (.invokevirtual 105, 3) := by decide +kernel
theorem dX9_enter_56 : decode mX9_enter.2.1 56 = .ok (.aload_n 0, 1) := by decide +kernel
theorem dX9_enter_57 : decode mX9_enter.2.1 57 = .ok (.getfield 10, 3) := by decide +kernel
theorem dX9_enter_60 : decode mX9_enter.2.1 60 = .ok (.iconst 0, 1) := by decide +kernel
theorem dX9_enter_61 : decode mX9_enter.2.1 61 = .ok (.putfield 72, 3) := by decide +kernel
theorem dX9_enter_64 : decode mX9_enter.2.1 64 = .ok (.aload_n 0, 1) := by decide +kernel
theorem dX9_enter_65 : decode mX9_enter.2.1 65 = .ok (.dup, 1) := by decide +kernel
theorem dX9_enter_66 : decode mX9_enter.2.1 66 = .ok (.getfield 108, 3) := by decide +kernel
theorem dX9_enter_69 : decode mX9_enter.2.1 69 = .ok (.iconst 1, 1) := by decide +kernel
theorem dX9_enter_70 : decode mX9_enter.2.1 70 = .ok (.iadd, 1) := by decide +kernel
theorem dX9_enter_71 : decode mX9_enter.2.1 71 = .ok (.putfield 108, 3) := by decide +kernel
theorem dX9_enter_74 : decode mX9_enter.2.1 74 = .ok (.aload_n 0, 1) := by decide +kernel
theorem dX9_enter_75 : decode mX9_enter.2.1 75 = .ok (.iconst 1, 1) := by decide +kernel
theorem dX9_enter_76 : decode mX9_enter.2.1 76 = .ok (.putfield 68, 3) := by decide +kernel
theorem dX9_enter_79 : decode mX9_enter.2.1 79 = .ok (.iload_n 1, 1) := by decide +kernel
theorem dX9_enter_80 : decode mX9_enter.2.1 80 = .ok (.ireturn, 1) := by decide +kernel
theorem dX9_entry_0 : decode mX9_entry.2.1 0 = .ok (.aload_n 0, 1) := by decide +kernel
theorem dX9_entry_1 : decode mX9_entry.2.1 1 = .ok (.getfield 33, 3) := by decide +kernel
theorem dX9_entry_4 : decode mX9_entry.2.1 4 = .ok (.iload_n 1, 1) := by decide +kernel
theorem dX9_entry_5 : decode mX9_entry.2.1 5 = .ok (.invokevirtual 111, 3) := by decide +kernel
theorem dX9_entry_8 : decode mX9_entry.2.1 8 = .ok (.ifCond .ne 6, 3) := by decide +kernel
theorem dX9_entry_11 : decode mX9_entry.2.1 11 = .ok (.bipush (-101), 2) := by decide +kernel
theorem dX9_entry_13 : decode mX9_entry.2.1 13 = .ok (.ireturn, 1) := by decide +kernel
theorem dX9_entry_14 : decode mX9_entry.2.1 14 = .ok (.aload_n 0, 1) := by decide +kernel
theorem dX9_entry_15 : decode mX9_entry.2.1 15 = .ok (.invokevirtual 114, 3) := by decide +kernel
theorem dX9_entry_18 : decode mX9_entry.2.1 18 = .ok (.aload_n 0, 1) := by decide +kernel
theorem dX9_entry_19 : decode mX9_entry.2.1 19 = .ok (.iload_n 1, 1) := by decide +kernel
theorem dX9_entry_20 : decode mX9_entry.2.1 20 = .ok (.iload_n 2, 1) := by decide +kernel
theorem dX9_entry_21 : decode mX9_entry.2.1 21 = .ok (.invokevirtual 117, 3) := by decide +kernel
theorem dX9_entry_24 : decode mX9_entry.2.1 24 = .ok (.ireturn, 1) := by decide +kernel
theorem dX9_sign_0 : decode mX9_sign.2.1 0 = .ok (.aload_n 0, 1) := by decide +kernel
theorem dX9_sign_1 : decode mX9_sign.2.1 1 = .ok (.getfield 33, 3) := by decide +kernel
theorem dX9_sign_4 : decode mX9_sign.2.1 4 = .ok (.iload_n 1, 1) := by decide +kernel
theorem dX9_sign_5 : decode mX9_sign.2.1 5 = .ok (.invokevirtual 111, 3) := by decide +kernel
theorem dX9_sign_8 : decode mX9_sign.2.1 8 = .ok (.ifCond .ne 6, 3) := by decide +kernel
theorem dX9_sign_11 : decode mX9_sign.2.1 11 = .ok (.bipush (-101), 2) := by decide +kernel
theorem dX9_sign_13 : decode mX9_sign.2.1 13 = .ok (.ireturn, 1) := by decide +kernel
theorem dX9_sign_14 : decode mX9_sign.2.1 14 = .ok (.aload_n 0, 1) := by decide +kernel
theorem dX9_sign_15 : decode mX9_sign.2.1 15 = .ok (.getfield 33, 3) := by decide +kernel
theorem dX9_sign_18 : decode mX9_sign.2.1 18 = .ok (.getfield 121, 3) := by decide +kernel
theorem dX9_sign_21 : decode mX9_sign.2.1 21 = .ok (.iload_n 1, 1) := by decide +kernel
theorem dX9_sign_22 : decode mX9_sign.2.1 22 = .ok (.aaload, 1) := by decide +kernel
theorem dX9_sign_23 : decode mX9_sign.2.1 23 = .ok (.astore_n 3, 1) := by decide +kernel
theorem dX9_sign_24 : decode mX9_sign.2.1 24 = .ok (.iload_n 2, 1) := by decide +kernel
theorem dX9_sign_25 : decode mX9_sign.2.1 25 = .ok (.ifCond .lt 11, 3) := by decide +kernel
theorem dX9_sign_28 : decode mX9_sign.2.1 28 = .ok (.iload_n 2, 1) := by decide +kernel
theorem dX9_sign_29 : decode mX9_sign.2.1 29 = .ok (.aload_n 3, 1) := by decide +kernel
theorem dX9_sign_30 : decode mX9_sign.2.1 30 = .ok (.getfield 125, 3) := by decide +kernel
theorem dX9_sign_33 : decode mX9_sign.2.1 33 = .ok (.if_icmp .lt 8, 3) := by decide +kernel
theorem dX9_sign_36 : decode mX9_sign.2.1 36 = .ok (.bipush (-101), 2) := by decide +kernel
theorem dX9_sign_38 : decode mX9_sign.2.1 38 = .ok (.goto 9, 3) := by decide +kernel
theorem dX9_sign_41 : decode mX9_sign.2.1 41 = .ok (.aload_n 3, 1) := by decide +kernel
theorem dX9_sign_42 : decode mX9_sign.2.1 42 = .ok (.getfield 130, 3) := by decide +kernel
theorem dX9_sign_45 : decode mX9_sign.2.1 45 = .ok (.iload_n 2, 1) := by decide +kernel
theorem dX9_sign_46 : decode mX9_sign.2.1 46 = .ok (.iaload, 1) := by decide +kernel
theorem dX9_sign_47 : decode mX9_sign.2.1 47 = .ok (.ireturn, 1) := by decide +kernel
theorem dX9_as_0 : decode mX9_as.2.1 0 = .ok (.aload_n 0, 1) := by decide +kernel
theorem dX9_as_1 : decode mX9_as.2.1 1 = .ok (.getfield 33, 3) := by decide +kernel
theorem dX9_as_4 : decode mX9_as.2.1 4 = .ok (.iload_n 1, 1) := by decide +kernel
theorem dX9_as_5 : decode mX9_as.2.1 5 = .ok (.invokevirtual 111, 3) := by decide +kernel
theorem dX9_as_8 : decode mX9_as.2.1 8 = .ok (.ifCond .ne 6, 3) := by decide +kernel
theorem dX9_as_11 : decode mX9_as.2.1 11 = .ok (.bipush (-101), 2) := by decide +kernel
theorem dX9_as_13 : decode mX9_as.2.1 13 = .ok (.ireturn, 1) := by decide +kernel
theorem dX9_as_14 : decode mX9_as.2.1 14 = .ok (.iload_n 2, 1) := by decide +kernel
theorem dX9_as_15 : decode mX9_as.2.1 15 = .ok (.ifCond .lt 8, 3) := by decide +kernel
theorem dX9_as_18 : decode mX9_as.2.1 18 = .ok (.iload_n 2, 1) := by decide +kernel
theorem dX9_as_19 : decode mX9_as.2.1 19 = .ok (.iconst 3, 1) := by decide +kernel
theorem dX9_as_20 : decode mX9_as.2.1 20 = .ok (.if_icmp .lt 6, 3) := by decide +kernel
theorem dX9_as_23 : decode mX9_as.2.1 23 = .ok (.bipush (-102), 2) := by decide +kernel
theorem dX9_as_25 : decode mX9_as.2.1 25 = .ok (.ireturn, 1) := by decide +kernel
theorem dX9_as_26 : decode mX9_as.2.1 26 = .ok (.aload_n 0, 1) := by decide +kernel
theorem dX9_as_27 : decode mX9_as.2.1 27 = .ok (.getfield 33, 3) := by decide +kernel
theorem dX9_as_30 : decode mX9_as.2.1 30 = .ok (.getfield 121, 3) := by decide +kernel
theorem dX9_as_33 : decode mX9_as.2.1 33 = .ok (.iload_n 1, 1) := by decide +kernel
theorem dX9_as_34 : decode mX9_as.2.1 34 = .ok (.aaload, 1) := by decide +kernel
theorem dX9_as_35 : decode mX9_as.2.1 35 = .ok (.astore_n 3, 1) := by decide +kernel
theorem dX9_as_36 : decode mX9_as.2.1 36 = .ok (.aload_n 3, 1) := by decide +kernel
theorem dX9_as_37 : decode mX9_as.2.1 37 = .ok (.getfield 133, 3) := by decide +kernel
theorem dX9_as_40 : decode mX9_as.2.1 40 = .ok (.iload_n 2, 1) := by decide +kernel
theorem dX9_as_41 : decode mX9_as.2.1 41 = .ok (.if_icmp .ne 10, 3) := by decide +kernel
theorem dX9_as_44 : decode mX9_as.2.1 44 = .ok (.aload_n 3, 1) := by decide +kernel
theorem dX9_as_45 : decode mX9_as.2.1 45 = .ok (.getfield 136, 3) := by decide +kernel
theorem dX9_as_48 : decode mX9_as.2.1 48 = .ok (.goto 4, 3) := by decide +kernel
theorem dX9_as_51 : decode mX9_as.2.1 51 = .ok (.iconst (-1), 1) := by decide +kernel
theorem dX9_as_52 : decode mX9_as.2.1 52 = .ok (.ireturn, 1) := by decide +kernel
theorem dX9_strike_0 : decode mX9_strike.2.1 0 = .ok (.aload_n 0, 1) := by decide +kernel
theorem dX9_strike_1 : decode mX9_strike.2.1 1 = .ok (.getfield 33, 3) := by decide +kernel
theorem dX9_strike_4 : decode mX9_strike.2.1 4 = .ok (.iload_n 1, 1) := by decide +kernel
theorem dX9_strike_5 : decode mX9_strike.2.1 5 = .ok (.invokevirtual 111, 3) := by decide +kernel
theorem dX9_strike_8 : decode mX9_strike.2.1 8 = .ok (.ifCond .ne 6, 3) := by decide +kernel
theorem dX9_strike_11 : decode mX9_strike.2.1 11 = .ok (.bipush (-101), 2) := by decide +kernel
theorem dX9_strike_13 : decode mX9_strike.2.1 13 = .ok (.ireturn, 1) := by decide +kernel
theorem dX9_strike_14 : decode mX9_strike.2.1 14 = .ok (.aload_n 0, 1) := by decide +kernel
theorem dX9_strike_15 : decode mX9_strike.2.1 15 = .ok (.getfield 33, 3) := by decide +kernel
theorem dX9_strike_18 : decode mX9_strike.2.1 18 = .ok (.iload_n 1, 1) := by decide +kernel
theorem dX9_strike_19 : decode mX9_strike.2.1 19 = .ok (.invokevirtual 139, 3) := by decide +kernel
theorem dX9_strike_22 : decode mX9_strike.2.1 22 = .ok (.aload_n 0, 1) := by decide +kernel
theorem dX9_strike_23 : decode mX9_strike.2.1 23 = .ok (.iconst 1, 1) := by decide +kernel
theorem dX9_strike_24 : decode mX9_strike.2.1 24 = .ok (.putfield 68, 3) := by decide +kernel
theorem dX9_strike_27 : decode mX9_strike.2.1 27 = .ok (.aload_n 0, 1) := by decide +kernel
theorem dX9_strike_28 : decode mX9_strike.2.1 28 = .ok (.getfield 33, 3) := by decide +kernel
theorem dX9_strike_31 : decode mX9_strike.2.1 31 = .ok (.getfield 142, 3) := by decide +kernel
theorem dX9_strike_34 : decode mX9_strike.2.1 34 = .ok (.ireturn, 1) := by decide +kernel
theorem dX9_age_0 : decode mX9_age.2.1 0 = .ok (.aload_n 0, 1) := by decide +kernel
theorem dX9_age_1 : decode mX9_age.2.1 1 = .ok (.getfield 33, 3) := by decide +kernel
theorem dX9_age_4 : decode mX9_age.2.1 4 = .ok (.iload_n 1, 1) := by decide +kernel
theorem dX9_age_5 : decode mX9_age.2.1 5 = .ok (.invokevirtual 111, 3) := by decide +kernel
theorem dX9_age_8 : decode mX9_age.2.1 8 = .ok (.ifCond .ne 6, 3) := by decide +kernel
theorem dX9_age_11 : decode mX9_age.2.1 11 = .ok (.bipush (-101), 2) := by decide +kernel
theorem dX9_age_13 : decode mX9_age.2.1 13 = .ok (.ireturn, 1) := by decide +kernel
theorem dX9_age_14 : decode mX9_age.2.1 14 = .ok (.aload_n 0, 1) := by decide +kernel
theorem dX9_age_15 : decode mX9_age.2.1 15 = .ok (.getfield 33, 3) := by decide +kernel
theorem dX9_age_18 : decode mX9_age.2.1 18 = .ok (.getfield 121, 3) := by decide +kernel
theorem dX9_age_21 : decode mX9_age.2.1 21 = .ok (.iload_n 1, 1) := by decide +kernel
theorem dX9_age_22 : decode mX9_age.2.1 22 = .ok (.aaload, 1) := by decide +kernel
theorem dX9_age_23 : decode mX9_age.2.1 23 = .ok (.astore_n 3, 1) := by decide +kernel
theorem dX9_age_24 : decode mX9_age.2.1 24 = .ok (.iload_n 2, 1) := by decide +kernel
theorem dX9_age_25 : decode mX9_age.2.1 25 = .ok (.iconst (-1), 1) := by decide +kernel
theorem dX9_age_26 : decode mX9_age.2.1 26 = .ok (.if_icmp .eq 17, 3) := by decide +kernel
theorem dX9_age_29 : decode mX9_age.2.1 29 = .ok (.aload_n 3, 1) := by decide +kernel
theorem dX9_age_30 : decode mX9_age.2.1 30 = .ok (.getfield 133, 3) := by decide +kernel
theorem dX9_age_33 : decode mX9_age.2.1 33 = .ok (.iload_n 2, 1) := by decide +kernel
theorem dX9_age_34 : decode mX9_age.2.1 34 = .ok (.invokestatic 143, 3) := by decide +kernel
theorem dX9_age_37 : decode mX9_age.2.1 37 = .ok (.ifCond .ne 6, 3) := by decide +kernel
theorem dX9_age_40 : decode mX9_age.2.1 40 = .ok (.bipush (-102), 2) := by decide +kernel
theorem dX9_age_42 : decode mX9_age.2.1 42 = .ok (.ireturn, 1) := by decide +kernel
theorem dX9_age_43 : decode mX9_age.2.1 43 = .ok (.aload_n 3, 1) := by decide +kernel
theorem dX9_age_44 : decode mX9_age.2.1 44 = .ok (.getfield 147, 3) := by decide +kernel
theorem dX9_age_47 : decode mX9_age.2.1 47 = .ok (.istore 4, 2) := by decide +kernel
theorem dX9_age_49 : decode mX9_age.2.1 49 = .ok (.aload_n 3, 1) := by decide +kernel
theorem dX9_age_50 : decode mX9_age.2.1 50 = .ok (.iload_n 2, 1) := by decide +kernel
theorem dX9_age_51 : decode mX9_age.2.1 51 = .ok (.putfield 147, 3) := by decide +kernel
theorem dX9_age_54 : decode mX9_age.2.1 54 = .ok (.aload_n 0, 1) := by decide +kernel
theorem dX9_age_55 : decode mX9_age.2.1 55 = .ok (.iconst 1, 1) := by decide +kernel
theorem dX9_age_56 : decode mX9_age.2.1 56 = .ok (.putfield 68, 3) := by decide +kernel
theorem dX9_age_59 : decode mX9_age.2.1 59 = .ok (.iload 4, 2) := by decide +kernel
theorem dX9_age_61 : decode mX9_age.2.1 61 = .ok (.ireturn, 1) := by decide +kernel
theorem dX9_part_0 : decode mX9_part.2.1 0 = .ok (.aload_n 0, 1) := by decide +kernel
theorem dX9_part_1 : decode mX9_part.2.1 1 = .ok (.iload_n 1, 1) := by decide +kernel
theorem dX9_part_2 : decode mX9_part.2.1 2 = .ok (.iload_n 2, 1) := by decide +kernel
theorem dX9_part_3 : decode mX9_part.2.1 3 = .ok (.invokevirtual 150, 3) := by decide +kernel
theorem dX9_part_6 : decode mX9_part.2.1 6 = .ok (.ifCond .ne 6, 3) := by decide +kernel
theorem dX9_part_9 : decode mX9_part.2.1 9 = .ok (.bipush (-101), 2) := by decide +kernel
theorem dX9_part_11 : decode mX9_part.2.1 11 = .ok (.ireturn, 1) := by decide +kernel
theorem dX9_part_12 : decode mX9_part.2.1 12 = .ok (.aload_n 0, 1) := by decide +kernel
theorem dX9_part_13 : decode mX9_part.2.1 13 = .ok (.iconst 1, 1) := by decide +kernel
theorem dX9_part_14 : decode mX9_part.2.1 14 = .ok (.putfield 68, 3) := by decide +kernel
theorem dX9_part_17 : decode mX9_part.2.1 17 = .ok (.aload_n 0, 1) := by decide +kernel
theorem dX9_part_18 : decode mX9_part.2.1 18 = .ok (.getfield 33, 3) := by decide +kernel
theorem dX9_part_21 : decode mX9_part.2.1 21 = .ok (.aload_n 0, 1) := by decide +kernel
theorem dX9_part_22 : decode mX9_part.2.1 22 = .ok (.getfield 33, 3) := by decide +kernel
theorem dX9_part_25 : decode mX9_part.2.1 25 = .ok (.getfield 121, 3) := by decide +kernel
theorem dX9_part_28 : decode mX9_part.2.1 28 = .ok (.iload_n 1, 1) := by decide +kernel
theorem dX9_part_29 : decode mX9_part.2.1 29 = .ok (.aaload, 1) := by decide +kernel
theorem dX9_part_30 : decode mX9_part.2.1 30 = .ok (.aload_n 0, 1) := by decide +kernel
theorem dX9_part_31 : decode mX9_part.2.1 31 = .ok (.getfield 33, 3) := by decide +kernel
theorem dX9_part_34 : decode mX9_part.2.1 34 = .ok (.getfield 121, 3) := by decide +kernel
theorem dX9_part_37 : decode mX9_part.2.1 37 = .ok (.iload_n 2, 1) := by decide +kernel
theorem dX9_part_38 : decode mX9_part.2.1 38 = .ok (.aaload, 1) := by decide +kernel
theorem dX9_part_39 : decode mX9_part.2.1 39 = .ok (.invokevirtual 153, 3) := by decide +kernel
theorem dX9_part_42 : decode mX9_part.2.1 42 = .ok (.ifCond .eq 7, 3) := by decide +kernel
theorem dX9_part_45 : decode mX9_part.2.1 45 = .ok (.iconst 1, 1) := by decide +kernel
theorem dX9_part_46 : decode mX9_part.2.1 46 = .ok (.goto 4, 3) := by decide +kernel
theorem dX9_part_49 : decode mX9_part.2.1 49 = .ok (.iconst 0, 1) := by decide +kernel
theorem dX9_part_50 : decode mX9_part.2.1 50 = .ok (.ireturn, 1) := by decide +kernel
theorem dX9_bound_0 : decode mX9_bound.2.1 0 = .ok (.iload_n 1, 1) := by decide +kernel
theorem dX9_bound_1 : decode mX9_bound.2.1 1 = .ok (.ifCond .lt 8, 3) := by decide +kernel
theorem dX9_bound_4 : decode mX9_bound.2.1 4 = .ok (.iload_n 1, 1) := by decide +kernel
theorem dX9_bound_5 : decode mX9_bound.2.1 5 = .ok (.iconst 2, 1) := by decide +kernel
theorem dX9_bound_6 : decode mX9_bound.2.1 6 = .ok (.if_icmp .le 6, 3) := by decide +kernel
theorem dX9_bound_9 : decode mX9_bound.2.1 9 = .ok (.bipush (-102), 2) := by decide +kernel
theorem dX9_bound_11 : decode mX9_bound.2.1 11 = .ok (.ireturn, 1) := by decide +kernel
theorem dX9_bound_12 : decode mX9_bound.2.1 12 = .ok (.iload_n 1, 1) := by decide +kernel
theorem dX9_bound_13 : decode mX9_bound.2.1 13 = .ok (.ifCond .ne 9, 3) := by decide +kernel
theorem dX9_bound_16 : decode mX9_bound.2.1 16 = .ok (.sipush 1000, 3) := by decide +kernel
theorem dX9_bound_19 : decode mX9_bound.2.1 19 = .ok (.goto 15, 3) := by decide +kernel
theorem dX9_bound_22 : decode mX9_bound.2.1 22 = .ok (.iload_n 1, 1) := by decide +kernel
theorem dX9_bound_23 : decode mX9_bound.2.1 23 = .ok (.iconst 1, 1) := by decide +kernel
theorem dX9_bound_24 : decode mX9_bound.2.1 24 = .ok (.if_icmp .ne 7, 3) := by decide +kernel
theorem dX9_bound_27 : decode mX9_bound.2.1 27 = .ok (.iconst 5, 1) := by decide +kernel
theorem dX9_bound_28 : decode mX9_bound.2.1 28 = .ok (.goto 6, 3) := by decide +kernel
theorem dX9_bound_31 : decode mX9_bound.2.1 31 = .ok (.sipush 500, 3) := by decide +kernel
theorem dX9_bound_34 : decode mX9_bound.2.1 34 = .ok (.istore_n 3, 1) := by decide +kernel
theorem dX9_bound_35 : decode mX9_bound.2.1 35 = .ok (.iload_n 2, 1) := by decide +kernel
theorem dX9_bound_36 : decode mX9_bound.2.1 36 = .ok (.ifCond .lt 8, 3) := by decide +kernel
theorem dX9_bound_39 : decode mX9_bound.2.1 39 = .ok (.iload_n 2, 1) := by decide +kernel
theorem dX9_bound_40 : decode mX9_bound.2.1 40 = .ok (.iload_n 3, 1) := by decide +kernel
theorem dX9_bound_41 : decode mX9_bound.2.1 41 = .ok (.if_icmp .le 6, 3) := by decide +kernel
theorem dX9_bound_44 : decode mX9_bound.2.1 44 = .ok (.bipush (-102), 2) := by decide +kernel
theorem dX9_bound_46 : decode mX9_bound.2.1 46 = .ok (.ireturn, 1) := by decide +kernel
theorem dX9_bound_47 : decode mX9_bound.2.1 47 = .ok (.iload_n 1, 1) := by decide +kernel
theorem dX9_bound_48 : decode mX9_bound.2.1 48 = .ok (.ifCond .ne 10, 3) := by decide +kernel
theorem dX9_bound_51 : decode mX9_bound.2.1 51 = .ok (.aload_n 0, 1) := by decide +kernel
theorem dX9_bound_52 : decode mX9_bound.2.1 52 = .ok (.getfield 58, 3) := by decide +kernel
theorem dX9_bound_55 : decode mX9_bound.2.1 55 = .ok (.goto 19, 3) := by decide +kernel
theorem dX9_bound_58 : decode mX9_bound.2.1 58 = .ok (.iload_n 1, 1) := by decide +kernel
theorem dX9_bound_59 : decode mX9_bound.2.1 59 = .ok (.iconst 1, 1) := by decide +kernel
theorem dX9_bound_60 : decode mX9_bound.2.1 60 = .ok (.if_icmp .ne 10, 3) := by decide +kernel
theorem dX9_bound_63 : decode mX9_bound.2.1 63 = .ok (.aload_n 0, 1) := by decide +kernel
theorem dX9_bound_64 : decode mX9_bound.2.1 64 = .ok (.getfield 62, 3) := by decide +kernel
theorem dX9_bound_67 : decode mX9_bound.2.1 67 = .ok (.goto 7, 3) := by decide +kernel
theorem dX9_bound_70 : decode mX9_bound.2.1 70 = .ok (.aload_n 0, 1) := by decide +kernel
theorem dX9_bound_71 : decode mX9_bound.2.1 71 = .ok (.getfield 65, 3) := by decide +kernel
theorem dX9_bound_74 : decode mX9_bound.2.1 74 = .ok (.istore 4, 2) := by decide +kernel
theorem dX9_bound_76 : decode mX9_bound.2.1 76 = .ok (.iload_n 1, 1) := by decide +kernel
theorem dX9_bound_77 : decode mX9_bound.2.1 77 = .ok (.ifCond .ne 11, 3) := by decide +kernel
theorem dX9_bound_80 : decode mX9_bound.2.1 80 = .ok (.aload_n 0, 1) := by decide +kernel
theorem dX9_bound_81 : decode mX9_bound.2.1 81 = .ok (.iload_n 2, 1) := by decide +kernel
theorem dX9_bound_82 : decode mX9_bound.2.1 82 = .ok (.putfield 58, 3) := by decide +kernel
theorem dX9_bound_85 : decode mX9_bound.2.1 85 = .ok (.goto 21, 3) := by decide +kernel
theorem dX9_bound_88 : decode mX9_bound.2.1 88 = .ok (.iload_n 1, 1) := by decide +kernel
theorem dX9_bound_89 : decode mX9_bound.2.1 89 = .ok (.iconst 1, 1) := by decide +kernel
theorem dX9_bound_90 : decode mX9_bound.2.1 90 = .ok (.if_icmp .ne 11, 3) := by decide +kernel
theorem dX9_bound_93 : decode mX9_bound.2.1 93 = .ok (.aload_n 0, 1) := by decide +kernel
theorem dX9_bound_94 : decode mX9_bound.2.1 94 = .ok (.iload_n 2, 1) := by decide +kernel
theorem dX9_bound_95 : decode mX9_bound.2.1 95 = .ok (.putfield 62, 3) := by decide +kernel
theorem dX9_bound_98 : decode mX9_bound.2.1 98 = .ok (.goto 8, 3) := by decide +kernel
theorem dX9_bound_101 : decode mX9_bound.2.1 101 = .ok (.aload_n 0, 1) := by decide +kernel
theorem dX9_bound_102 : decode mX9_bound.2.1 102 = .ok (.iload_n 2, 1) := by decide +kernel
theorem dX9_bound_103 : decode mX9_bound.2.1 103 = .ok (.putfield 65, 3) := by decide +kernel
theorem dX9_bound_106 : decode mX9_bound.2.1 106 = .ok (.aload_n 0, 1) := by decide +kernel
theorem dX9_bound_107 : decode mX9_bound.2.1 107 = .ok (.iconst 1, 1) := by decide +kernel
theorem dX9_bound_108 : decode mX9_bound.2.1 108 = .ok (.putfield 68, 3) := by decide +kernel
theorem dX9_bound_111 : decode mX9_bound.2.1 111 = .ok (.iload 4, 2) := by decide +kernel
theorem dX9_bound_113 : decode mX9_bound.2.1 113 = .ok (.ireturn, 1) := by decide +kernel
theorem dX9_two_0 : decode mX9_two.2.1 0 = .ok (.aload_n 0, 1) := by decide +kernel
theorem dX9_two_1 : decode mX9_two.2.1 1 = .ok (.iload_n 1, 1) := by decide +kernel
theorem dX9_two_2 : decode mX9_two.2.1 2 = .ok (.iload_n 2, 1) := by decide +kernel
theorem dX9_two_3 : decode mX9_two.2.1 3 = .ok (.invokevirtual 150, 3) := by decide +kernel
theorem dX9_two_6 : decode mX9_two.2.1 6 = .ok (.ifCond .ne 6, 3) := by decide +kernel
theorem dX9_two_9 : decode mX9_two.2.1 9 = .ok (.bipush (-101), 2) := by decide +kernel
theorem dX9_two_11 : decode mX9_two.2.1 11 = .ok (.ireturn, 1) := by decide +kernel
theorem dX9_two_12 : decode mX9_two.2.1 12 = .ok (.aload_n 0, 1) := by decide +kernel
theorem dX9_two_13 : decode mX9_two.2.1 13 = .ok (.invokevirtual 114, 3) := by decide +kernel
theorem dX9_two_16 : decode mX9_two.2.1 16 = .ok (.aload_n 0, 1) := by decide +kernel
theorem dX9_two_17 : decode mX9_two.2.1 17 = .ok (.iload_n 1, 1) := by decide +kernel
theorem dX9_two_18 : decode mX9_two.2.1 18 = .ok (.iload_n 2, 1) := by decide +kernel
theorem dX9_two_19 : decode mX9_two.2.1 19 = .ok (.iload_n 3, 1) := by decide +kernel
theorem dX9_two_20 : decode mX9_two.2.1 20 = .ok (.invokevirtual 157, 3) := by decide +kernel
theorem dX9_two_23 : decode mX9_two.2.1 23 = .ok (.ireturn, 1) := by decide +kernel
theorem dX9_fits_0 : decode mX9_fits.2.1 0 = .ok (.aload_n 0, 1) := by decide +kernel
theorem dX9_fits_1 : decode mX9_fits.2.1 1 = .ok (.getfield 33, 3) := by decide +kernel
theorem dX9_fits_4 : decode mX9_fits.2.1 4 = .ok (.iload_n 1, 1) := by decide +kernel
theorem dX9_fits_5 : decode mX9_fits.2.1 5 = .ok (.invokevirtual 111, 3) := by decide +kernel
theorem dX9_fits_8 : decode mX9_fits.2.1 8 = .ok (.ifCond .ne 6, 3) := by decide +kernel
theorem dX9_fits_11 : decode mX9_fits.2.1 11 = .ok (.bipush (-101), 2) := by decide +kernel
theorem dX9_fits_13 : decode mX9_fits.2.1 13 = .ok (.ireturn, 1) := by decide +kernel
theorem dX9_fits_14 : decode mX9_fits.2.1 14 = .ok (.aload_n 0, 1) := by decide +kernel
theorem dX9_fits_15 : decode mX9_fits.2.1 15 = .ok (.invokevirtual 114, 3) := by decide +kernel
theorem dX9_fits_18 : decode mX9_fits.2.1 18 = .ok (.aload_n 0, 1) := by decide +kernel
theorem dX9_fits_19 : decode mX9_fits.2.1 19 = .ok (.getfield 40, 3) := by decide +kernel
theorem dX9_fits_22 : decode mX9_fits.2.1 22 = .ok (.iload_n 1, 1) := by decide +kernel
theorem dX9_fits_23 : decode mX9_fits.2.1 23 = .ok (.invokevirtual 161, 3) := by decide +kernel
theorem dX9_fits_26 : decode mX9_fits.2.1 26 = .ok (.ireturn, 1) := by decide +kernel
theorem dX9_nearest_0 : decode mX9_nearest.2.1 0 = .ok (.aload_n 0, 1) := by decide +kernel
theorem dX9_nearest_1 : decode mX9_nearest.2.1 1 = .ok (.getfield 33, 3) := by decide +kernel
theorem dX9_nearest_4 : decode mX9_nearest.2.1 4 = .ok (.iload_n 1, 1) := by decide +kernel
theorem dX9_nearest_5 : decode mX9_nearest.2.1 5 = .ok (.invokevirtual 111, 3) := by decide +kernel
theorem dX9_nearest_8 : decode mX9_nearest.2.1 8 = .ok (.ifCond .ne 6, 3) := by decide +kernel
theorem dX9_nearest_11 : decode mX9_nearest.2.1 11 = .ok (.bipush (-101), 2) := by decide +kernel
theorem dX9_nearest_13 : decode mX9_nearest.2.1 13 = .ok (.ireturn, 1) := by decide +kernel
theorem dX9_nearest_14 : decode mX9_nearest.2.1 14 = .ok (.aload_n 0, 1) := by decide +kernel
theorem dX9_nearest_15 : decode mX9_nearest.2.1 15 = .ok (.invokevirtual 114, 3) := by decide +kernel
theorem dX9_nearest_18 : decode mX9_nearest.2.1 18 = .ok (.aload_n 0, 1) := by decide +kernel
theorem dX9_nearest_19 : decode mX9_nearest.2.1 19 = .ok (.getfield 40, 3) := by decide +kernel
theorem dX9_nearest_22 : decode mX9_nearest.2.1 22 = .ok (.iload_n 1, 1) := by decide +kernel
theorem dX9_nearest_23 : decode mX9_nearest.2.1 23 = .ok (.invokevirtual 165, 3) := by decide +kernel
theorem dX9_nearest_26 : decode mX9_nearest.2.1 26 = .ok (.ireturn, 1) := by decide +kernel
theorem dX9_lives_0 : decode mX9_lives.2.1 0 = .ok (.aload_n 0, 1) := by decide +kernel
theorem dX9_lives_1 : decode mX9_lives.2.1 1 = .ok (.invokevirtual 114, 3) := by decide +kernel
theorem dX9_lives_4 : decode mX9_lives.2.1 4 = .ok (.aload_n 0, 1) := by decide +kernel
theorem dX9_lives_5 : decode mX9_lives.2.1 5 = .ok (.iload_n 1, 1) := by decide +kernel
theorem dX9_lives_6 : decode mX9_lives.2.1 6 = .ok (.invokevirtual 168, 3) := by decide +kernel
theorem dX9_lives_9 : decode mX9_lives.2.1 9 = .ok (.ireturn, 1) := by decide +kernel
theorem dX9_life_0 : decode mX9_life.2.1 0 = .ok (.aload_n 0, 1) := by decide +kernel
theorem dX9_life_1 : decode mX9_life.2.1 1 = .ok (.invokevirtual 114, 3) := by decide +kernel
theorem dX9_life_4 : decode mX9_life.2.1 4 = .ok (.aload_n 0, 1) := by decide +kernel
theorem dX9_life_5 : decode mX9_life.2.1 5 = .ok (.getfield 54, 3) := by decide +kernel
theorem dX9_life_8 : decode mX9_life.2.1 8 = .ok (.iload_n 1, 1) := by decide +kernel
theorem dX9_life_9 : decode mX9_life.2.1 9 = .ok (.invokevirtual 171, 3) := by decide +kernel
theorem dX9_life_12 : decode mX9_life.2.1 12 = .ok (.ifCond .eq 19, 3) := by decide +kernel
theorem dX9_life_15 : decode mX9_life.2.1 15 = .ok (.aload_n 0, 1) := by decide +kernel
theorem dX9_life_16 : decode mX9_life.2.1 16 = .ok (.getfield 54, 3) := by decide +kernel
theorem dX9_life_19 : decode mX9_life.2.1 19 = .ok (.getfield 172, 3) := by decide +kernel
theorem dX9_life_22 : decode mX9_life.2.1 22 = .ok (.iload_n 1, 1) := by decide +kernel
theorem dX9_life_23 : decode mX9_life.2.1 23 = .ok (.aaload, 1) := by decide +kernel
theorem dX9_life_24 : decode mX9_life.2.1 24 = .ok (.iload_n 2, 1) := by decide +kernel
theorem dX9_life_25 : decode mX9_life.2.1 25 = .ok (.invokestatic 176, 3) := by decide +kernel
theorem dX9_life_28 : decode mX9_life.2.1 28 = .ok (.goto 5, 3) := by decide +kernel
theorem dX9_life_31 : decode mX9_life.2.1 31 = .ok (.bipush (-101), 2) := by decide +kernel
theorem dX9_life_33 : decode mX9_life.2.1 33 = .ok (.ireturn, 1) := by decide +kernel
theorem dX9_wedding_0 : decode mX9_wedding.2.1 0 = .ok (.aload_n 0, 1) := by decide +kernel
theorem dX9_wedding_1 : decode mX9_wedding.2.1 1 = .ok (.invokevirtual 114, 3) := by decide +kernel
theorem dX9_wedding_4 : decode mX9_wedding.2.1 4 = .ok (.aload_n 0, 1) := by decide +kernel
theorem dX9_wedding_5 : decode mX9_wedding.2.1 5 = .ok (.getfield 54, 3) := by decide +kernel
theorem dX9_wedding_8 : decode mX9_wedding.2.1 8 = .ok (.iload_n 1, 1) := by decide +kernel
theorem dX9_wedding_9 : decode mX9_wedding.2.1 9 = .ok (.invokevirtual 171, 3) := by decide +kernel
theorem dX9_wedding_12 : decode mX9_wedding.2.1 12 = .ok (.ifCond .ne 6, 3) := by decide +kernel
theorem dX9_wedding_15 : decode mX9_wedding.2.1 15 = .ok (.bipush (-101), 2) := by decide +kernel
theorem dX9_wedding_17 : decode mX9_wedding.2.1 17 = .ok (.ireturn, 1) := by decide +kernel
theorem dX9_wedding_18 : decode mX9_wedding.2.1 18 = .ok (.aload_n 0, 1) := by decide +kernel
theorem dX9_wedding_19 : decode mX9_wedding.2.1 19 = .ok (.getfield 54, 3) := by decide +kernel
theorem dX9_wedding_22 : decode mX9_wedding.2.1 22 = .ok (.getfield 172, 3) := by decide +kernel
theorem dX9_wedding_25 : decode mX9_wedding.2.1 25 = .ok (.iload_n 1, 1) := by decide +kernel
theorem dX9_wedding_26 : decode mX9_wedding.2.1 26 = .ok (.aaload, 1) := by decide +kernel
theorem dX9_wedding_27 : decode mX9_wedding.2.1 27 = .ok (.astore_n 3, 1) := by decide +kernel
theorem dX9_wedding_28 : decode mX9_wedding.2.1 28 = .ok (.iload_n 2, 1) := by decide +kernel
theorem dX9_wedding_29 : decode mX9_wedding.2.1 29 = .ok (.ifCond .lt 11, 3) := by decide +kernel
theorem dX9_wedding_32 : decode mX9_wedding.2.1 32 = .ok (.iload_n 2, 1) := by decide +kernel
theorem dX9_wedding_33 : decode mX9_wedding.2.1 33 = .ok (.aload_n 3, 1) := by decide +kernel
theorem dX9_wedding_34 : decode mX9_wedding.2.1 34 = .ok (.invokevirtual 180, 3) := by decide +kernel
theorem dX9_wedding_37 : decode mX9_wedding.2.1 37 = .ok (.if_icmp .lt 8, 3) := by decide +kernel
theorem dX9_wedding_40 : decode mX9_wedding.2.1 40 = .ok (.bipush (-101), 2) := by decide +kernel
theorem dX9_wedding_42 : decode mX9_wedding.2.1 42 = .ok (.goto 14, 3) := by decide +kernel
theorem dX9_wedding_45 : decode mX9_wedding.2.1 45 = .ok (.aload_n 3, 1) := by decide +kernel
theorem dX9_wedding_46 : decode mX9_wedding.2.1 46 = .ok (.getfield 185, 3) := by decide +kernel
theorem dX9_wedding_49 : decode mX9_wedding.2.1 49 = .ok (.aload_n 3, 1) := by decide +kernel
theorem dX9_wedding_50 : decode mX9_wedding.2.1 50 = .ok (.getfield 188, 3) := by decide +kernel
theorem dX9_wedding_53 : decode mX9_wedding.2.1 53 = .ok (.iload_n 2, 1) := by decide +kernel
theorem dX9_wedding_54 : decode mX9_wedding.2.1 54 = .ok (.iadd, 1) := by decide +kernel
theorem dX9_wedding_55 : decode mX9_wedding.2.1 55 = .ok (.iaload, 1) := by decide +kernel
theorem dX9_wedding_56 : decode mX9_wedding.2.1 56 = .ok (.ireturn, 1) := by decide +kernel
theorem dX9_worth_0 : decode mX9_worth.2.1 0 = .ok (.aload_n 0, 1) := by decide +kernel
theorem dX9_worth_1 : decode mX9_worth.2.1 1 = .ok (.getfield 33, 3) := by decide +kernel
theorem dX9_worth_4 : decode mX9_worth.2.1 4 = .ok (.iload_n 1, 1) := by decide +kernel
theorem dX9_worth_5 : decode mX9_worth.2.1 5 = .ok (.invokevirtual 111, 3) := by decide +kernel
theorem dX9_worth_8 : decode mX9_worth.2.1 8 = .ok (.ifCond .eq 19, 3) := by decide +kernel
theorem dX9_worth_11 : decode mX9_worth.2.1 11 = .ok (.aload_n 0, 1) := by decide +kernel
theorem dX9_worth_12 : decode mX9_worth.2.1 12 = .ok (.getfield 33, 3) := by decide +kernel
theorem dX9_worth_15 : decode mX9_worth.2.1 15 = .ok (.getfield 121, 3) := by decide +kernel
theorem dX9_worth_18 : decode mX9_worth.2.1 18 = .ok (.iload_n 1, 1) := by decide +kernel
theorem dX9_worth_19 : decode mX9_worth.2.1 19 = .ok (.aaload, 1) := by decide +kernel
theorem dX9_worth_20 : decode mX9_worth.2.1 20 = .ok (.getfield 133, 3) := by decide +kernel
theorem dX9_worth_23 : decode mX9_worth.2.1 23 = .ok (.iconst 1, 1) := by decide +kernel
theorem dX9_worth_24 : decode mX9_worth.2.1 24 = .ok (.if_icmp .eq 6, 3) := by decide +kernel
theorem dX9_worth_27 : decode mX9_worth.2.1 27 = .ok (.bipush (-101), 2) := by decide +kernel
theorem dX9_worth_29 : decode mX9_worth.2.1 29 = .ok (.ireturn, 1) := by decide +kernel
theorem dX9_worth_30 : decode mX9_worth.2.1 30 = .ok (.aload_n 0, 1) := by decide +kernel
theorem dX9_worth_31 : decode mX9_worth.2.1 31 = .ok (.invokevirtual 114, 3) := by decide +kernel
theorem dX9_worth_34 : decode mX9_worth.2.1 34 = .ok (.aload_n 0, 1) := by decide +kernel
theorem dX9_worth_35 : decode mX9_worth.2.1 35 = .ok (.getfield 54, 3) := by decide +kernel
theorem dX9_worth_38 : decode mX9_worth.2.1 38 = .ok (.iload_n 2, 1) := by decide +kernel
theorem dX9_worth_39 : decode mX9_worth.2.1 39 = .ok (.invokevirtual 171, 3) := by decide +kernel
theorem dX9_worth_42 : decode mX9_worth.2.1 42 = .ok (.ifCond .eq 14, 3) := by decide +kernel
theorem dX9_worth_45 : decode mX9_worth.2.1 45 = .ok (.iload_n 2, 1) := by decide +kernel
theorem dX9_worth_46 : decode mX9_worth.2.1 46 = .ok (.aload_n 0, 1) := by decide +kernel
theorem dX9_worth_47 : decode mX9_worth.2.1 47 = .ok (.getfield 54, 3) := by decide +kernel
theorem dX9_worth_50 : decode mX9_worth.2.1 50 = .ok (.getfield 191, 3) := by decide +kernel
theorem dX9_worth_53 : decode mX9_worth.2.1 53 = .ok (.if_icmp .lt 6, 3) := by decide +kernel
theorem dX9_worth_56 : decode mX9_worth.2.1 56 = .ok (.bipush (-101), 2) := by decide +kernel
theorem dX9_worth_58 : decode mX9_worth.2.1 58 = .ok (.ireturn, 1) := by decide +kernel
theorem dX9_worth_59 : decode mX9_worth.2.1 59 = .ok (.aload_n 0, 1) := by decide +kernel
theorem dX9_worth_60 : decode mX9_worth.2.1 60 = .ok (.getfield 54, 3) := by decide +kernel
theorem dX9_worth_63 : decode mX9_worth.2.1 63 = .ok (.getfield 172, 3) := by decide +kernel
theorem dX9_worth_66 : decode mX9_worth.2.1 66 = .ok (.iload_n 2, 1) := by decide +kernel
theorem dX9_worth_67 : decode mX9_worth.2.1 67 = .ok (.aaload, 1) := by decide +kernel
theorem dX9_worth_68 : decode mX9_worth.2.1 68 = .ok (.astore_n 3, 1) := by decide +kernel
theorem dX9_worth_69 : decode mX9_worth.2.1 69 = .ok (.aload_n 0, 1) := by decide +kernel
theorem dX9_worth_70 : decode mX9_worth.2.1 70 = .ok (.getfield 40, 3) := by decide +kernel
theorem dX9_worth_73 : decode mX9_worth.2.1 73 = .ok (.iload_n 1, 1) := by decide +kernel
theorem dX9_worth_74 : decode mX9_worth.2.1 74 = .ok (.aload_n 3, 1) := by decide +kernel
theorem dX9_worth_75 : decode mX9_worth.2.1 75 = .ok (.getfield 185, 3) := by decide +kernel
theorem dX9_worth_78 : decode mX9_worth.2.1 78 = .ok (.aload_n 3, 1) := by decide +kernel
theorem dX9_worth_79 : decode mX9_worth.2.1 79 = .ok (.getfield 188, 3) := by decide +kernel
theorem dX9_worth_82 : decode mX9_worth.2.1 82 = .ok (.invokevirtual 194, 3) := by decide +kernel
theorem dX9_worth_85 : decode mX9_worth.2.1 85 = .ok (.ifCond .eq 22, 3) := by decide +kernel
theorem dX9_worth_88 : decode mX9_worth.2.1 88 = .ok (.aload_n 0, 1) := by decide +kernel
theorem dX9_worth_89 : decode mX9_worth.2.1 89 = .ok (.getfield 40, 3) := by decide +kernel
theorem dX9_worth_92 : decode mX9_worth.2.1 92 = .ok (.iload_n 1, 1) := by decide +kernel
theorem dX9_worth_93 : decode mX9_worth.2.1 93 = .ok (.aload_n 3, 1) := by decide +kernel
theorem dX9_worth_94 : decode mX9_worth.2.1 94 = .ok (.getfield 185, 3) := by decide +kernel
theorem dX9_worth_97 : decode mX9_worth.2.1 97 = .ok (.aload_n 3, 1) := by decide +kernel
theorem dX9_worth_98 : decode mX9_worth.2.1 98 = .ok (.getfield 188, 3) := by decide +kernel
theorem dX9_worth_101 : decode mX9_worth.2.1 101 = .ok (.invokevirtual 198, 3) := by decide +kernel
theorem dX9_worth_104 : decode mX9_worth.2.1 104 = .ok (.goto 4, 3) := by decide +kernel
theorem dX9_worth_107 : decode mX9_worth.2.1 107 = .ok (.iconst (-1), 1) := by decide +kernel
theorem dX9_worth_108 : decode mX9_worth.2.1 108 = .ok (.ireturn, 1) := by decide +kernel
theorem dX9_mate_0 : decode mX9_mate.2.1 0 = .ok (.aload_n 0, 1) := by decide +kernel
theorem dX9_mate_1 : decode mX9_mate.2.1 1 = .ok (.getfield 33, 3) := by decide +kernel
theorem dX9_mate_4 : decode mX9_mate.2.1 4 = .ok (.iload_n 1, 1) := by decide +kernel
theorem dX9_mate_5 : decode mX9_mate.2.1 5 = .ok (.invokevirtual 111, 3) := by decide +kernel
theorem dX9_mate_8 : decode mX9_mate.2.1 8 = .ok (.ifCond .eq 19, 3) := by decide +kernel
theorem dX9_mate_11 : decode mX9_mate.2.1 11 = .ok (.aload_n 0, 1) := by decide +kernel
theorem dX9_mate_12 : decode mX9_mate.2.1 12 = .ok (.getfield 33, 3) := by decide +kernel
theorem dX9_mate_15 : decode mX9_mate.2.1 15 = .ok (.getfield 121, 3) := by decide +kernel
theorem dX9_mate_18 : decode mX9_mate.2.1 18 = .ok (.iload_n 1, 1) := by decide +kernel
theorem dX9_mate_19 : decode mX9_mate.2.1 19 = .ok (.aaload, 1) := by decide +kernel
theorem dX9_mate_20 : decode mX9_mate.2.1 20 = .ok (.getfield 133, 3) := by decide +kernel
theorem dX9_mate_23 : decode mX9_mate.2.1 23 = .ok (.iconst 1, 1) := by decide +kernel
theorem dX9_mate_24 : decode mX9_mate.2.1 24 = .ok (.if_icmp .ne 6, 3) := by decide +kernel
theorem dX9_mate_27 : decode mX9_mate.2.1 27 = .ok (.bipush (-101), 2) := by decide +kernel
theorem dX9_mate_29 : decode mX9_mate.2.1 29 = .ok (.ireturn, 1) := by decide +kernel
theorem dX9_mate_30 : decode mX9_mate.2.1 30 = .ok (.aload_n 0, 1) := by decide +kernel
theorem dX9_mate_31 : decode mX9_mate.2.1 31 = .ok (.invokevirtual 114, 3) := by decide +kernel
theorem dX9_mate_34 : decode mX9_mate.2.1 34 = .ok (.aload_n 0, 1) := by decide +kernel
theorem dX9_mate_35 : decode mX9_mate.2.1 35 = .ok (.getfield 47, 3) := by decide +kernel
theorem dX9_mate_38 : decode mX9_mate.2.1 38 = .ok (.getfield 202, 3) := by decide +kernel
theorem dX9_mate_41 : decode mX9_mate.2.1 41 = .ok (.iload_n 1, 1) := by decide +kernel
theorem dX9_mate_42 : decode mX9_mate.2.1 42 = .ok (.iaload, 1) := by decide +kernel
theorem dX9_mate_43 : decode mX9_mate.2.1 43 = .ok (.ireturn, 1) := by decide +kernel
theorem dX9_count_0 : decode mX9_count.2.1 0 = .ok (.iload_n 1, 1) := by decide +kernel
theorem dX9_count_1 : decode mX9_count.2.1 1 = .ok (.tableswitch 114 0 7 #[47, 55, 65, 75, 85, 93, 98, 106], 47) := by decide +kernel
theorem dX9_count_48 : decode mX9_count.2.1 48 = .ok (.aload_n 0, 1) := by decide +kernel
theorem dX9_count_49 : decode mX9_count.2.1 49 = .ok (.getfield 33, 3) := by decide +kernel
theorem dX9_count_52 : decode mX9_count.2.1 52 = .ok (.getfield 142, 3) := by decide +kernel
theorem dX9_count_55 : decode mX9_count.2.1 55 = .ok (.ireturn, 1) := by decide +kernel
theorem dX9_count_56 : decode mX9_count.2.1 56 = .ok (.aload_n 0, 1) := by decide +kernel
theorem dX9_count_57 : decode mX9_count.2.1 57 = .ok (.getfield 33, 3) := by decide +kernel
theorem dX9_count_60 : decode mX9_count.2.1 60 = .ok (.getfield 205, 3) := by decide +kernel
theorem dX9_count_63 : decode mX9_count.2.1 63 = .ok (.iconst 0, 1) := by decide +kernel
theorem dX9_count_64 : decode mX9_count.2.1 64 = .ok (.iaload, 1) := by decide +kernel
theorem dX9_count_65 : decode mX9_count.2.1 65 = .ok (.ireturn, 1) := by decide +kernel
theorem dX9_count_66 : decode mX9_count.2.1 66 = .ok (.aload_n 0, 1) := by decide +kernel
theorem dX9_count_67 : decode mX9_count.2.1 67 = .ok (.getfield 33, 3) := by decide +kernel
theorem dX9_count_70 : decode mX9_count.2.1 70 = .ok (.getfield 205, 3) := by decide +kernel
theorem dX9_count_73 : decode mX9_count.2.1 73 = .ok (.iconst 1, 1) := by decide +kernel
theorem dX9_count_74 : decode mX9_count.2.1 74 = .ok (.iaload, 1) := by decide +kernel
theorem dX9_count_75 : decode mX9_count.2.1 75 = .ok (.ireturn, 1) := by decide +kernel
theorem dX9_count_76 : decode mX9_count.2.1 76 = .ok (.aload_n 0, 1) := by decide +kernel
theorem dX9_count_77 : decode mX9_count.2.1 77 = .ok (.getfield 33, 3) := by decide +kernel
theorem dX9_count_80 : decode mX9_count.2.1 80 = .ok (.getfield 205, 3) := by decide +kernel
theorem dX9_count_83 : decode mX9_count.2.1 83 = .ok (.iconst 2, 1) := by decide +kernel
theorem dX9_count_84 : decode mX9_count.2.1 84 = .ok (.iaload, 1) := by decide +kernel
theorem dX9_count_85 : decode mX9_count.2.1 85 = .ok (.ireturn, 1) := by decide +kernel
theorem dX9_count_86 : decode mX9_count.2.1 86 = .ok (.aload_n 0, 1) := by decide +kernel
theorem dX9_count_87 : decode mX9_count.2.1 87 = .ok (.getfield 10, 3) := by decide +kernel
theorem dX9_count_90 : decode mX9_count.2.1 90 = .ok (.getfield 72, 3) := by decide +kernel
theorem dX9_count_93 : decode mX9_count.2.1 93 = .ok (.ireturn, 1) := by decide +kernel
theorem dX9_count_94 : decode mX9_count.2.1 94 = .ok (.aload_n 0, 1) := by decide +kernel
theorem dX9_count_95 : decode mX9_count.2.1 95 = .ok (.getfield 108, 3) := by decide +kernel
theorem dX9_count_98 : decode mX9_count.2.1 98 = .ok (.ireturn, 1) := by decide +kernel
theorem dX9_count_99 : decode mX9_count.2.1 99 = .ok (.aload_n 0, 1) := by decide +kernel
theorem dX9_count_100 : decode mX9_count.2.1 100 = .ok (.getfield 33, 3) := by decide +kernel
theorem dX9_count_103 : decode mX9_count.2.1 103 = .ok (.getfield 208, 3) := by decide +kernel
theorem dX9_count_106 : decode mX9_count.2.1 106 = .ok (.ireturn, 1) := by decide +kernel
theorem dX9_count_107 : decode mX9_count.2.1 107 = .ok (.aload_n 0, 1) := by decide +kernel
theorem dX9_count_108 : decode mX9_count.2.1 108 = .ok (.getfield 33, 3) := by decide +kernel
theorem dX9_count_111 : decode mX9_count.2.1 111 = .ok (.invokevirtual 211, 3) := by decide +kernel
theorem dX9_count_114 : decode mX9_count.2.1 114 = .ok (.ireturn, 1) := by decide +kernel
theorem dX9_count_115 : decode mX9_count.2.1 115 = .ok (.bipush (-102), 2) := by decide +kernel
theorem dX9_count_117 : decode mX9_count.2.1 117 = .ok (.ireturn, 1) := by decide +kernel
theorem dX9_digest_0 : decode mX9_digest.2.1 0 = .ok (.aload_n 0, 1) := by decide +kernel
theorem dX9_digest_1 : decode mX9_digest.2.1 1 = .ok (.invokevirtual 114, 3) := by decide +kernel
theorem dX9_digest_4 : decode mX9_digest.2.1 4 = .ok (.aload_n 0, 1) := by decide +kernel
theorem dX9_digest_5 : decode mX9_digest.2.1 5 = .ok (.ldc2_w 214, 3) := by decide +kernel
theorem dX9_digest_8 : decode mX9_digest.2.1 8 = .ok (.invokevirtual 216, 3) := by decide +kernel
theorem dX9_digest_11 : decode mX9_digest.2.1 11 = .ok (.lstore_n 1, 1) := by decide +kernel
theorem dX9_digest_12 : decode mX9_digest.2.1 12 = .ok (.aload_n 0, 1) := by decide +kernel
theorem dX9_digest_13 : decode mX9_digest.2.1 13 = .ok (.lload_n 1, 1) := by decide +kernel
theorem dX9_digest_14 : decode mX9_digest.2.1 14 = .ok (.invokevirtual 220, 3) := by decide +kernel
theorem dX9_digest_17 : decode mX9_digest.2.1 17 = .ok (.lstore_n 1, 1) := by decide +kernel
theorem dX9_digest_18 : decode mX9_digest.2.1 18 = .ok (.aload_n 0, 1) := by decide +kernel
theorem dX9_digest_19 : decode mX9_digest.2.1 19 = .ok (.lload_n 1, 1) := by decide +kernel
theorem dX9_digest_20 : decode mX9_digest.2.1 20 = .ok (.invokevirtual 223, 3) := by decide +kernel
theorem dX9_digest_23 : decode mX9_digest.2.1 23 = .ok (.lstore_n 1, 1) := by decide +kernel
theorem dX9_digest_24 : decode mX9_digest.2.1 24 = .ok (.iconst 0, 1) := by decide +kernel
theorem dX9_digest_25 : decode mX9_digest.2.1 25 = .ok (.istore_n 3, 1) := by decide +kernel
theorem dX9_digest_26 : decode mX9_digest.2.1 26 = .ok (.iload_n 3, 1) := by decide +kernel
theorem dX9_digest_27 : decode mX9_digest.2.1 27 = .ok (.aload_n 0, 1) := by decide +kernel
theorem dX9_digest_28 : decode mX9_digest.2.1 28 = .ok (.getfield 10, 3) := by decide +kernel
theorem dX9_digest_31 : decode mX9_digest.2.1 31 = .ok (.getfield 72, 3) := by decide +kernel
theorem dX9_digest_34 : decode mX9_digest.2.1 34 = .ok (.if_icmp .ge 24, 3) := by decide +kernel
theorem dX9_digest_37 : decode mX9_digest.2.1 37 = .ok (.lload_n 1, 1) := by decide +kernel
theorem dX9_digest_38 : decode mX9_digest.2.1 38 = .ok (.aload_n 0, 1) := by decide +kernel
theorem dX9_digest_39 : decode mX9_digest.2.1 39 = .ok (.getfield 10, 3) := by decide +kernel
theorem dX9_digest_42 : decode mX9_digest.2.1 42 = .ok (.getfield 82, 3) := by decide +kernel
theorem dX9_digest_45 : decode mX9_digest.2.1 45 = .ok (.iload_n 3, 1) := by decide +kernel
theorem dX9_digest_46 : decode mX9_digest.2.1 46 = .ok (.iaload, 1) := by decide +kernel
theorem dX9_digest_47 : decode mX9_digest.2.1 47 = .ok (.i2l, 1) := by decide +kernel
theorem dX9_digest_48 : decode mX9_digest.2.1 48 = .ok (.invokestatic 226, 3) := by decide +kernel
theorem dX9_digest_51 : decode mX9_digest.2.1 51 = .ok (.lstore_n 1, 1) := by decide +kernel
theorem dX9_digest_52 : decode mX9_digest.2.1 52 = .ok (.iinc 3 1, 3) := by decide +kernel
theorem dX9_digest_55 : decode mX9_digest.2.1 55 = .ok (.goto (-29), 3) := by decide +kernel
theorem dX9_digest_58 : decode mX9_digest.2.1 58 = .ok (.iconst 0, 1) := by decide +kernel
theorem dX9_digest_59 : decode mX9_digest.2.1 59 = .ok (.istore_n 3, 1) := by decide +kernel
theorem dX9_digest_60 : decode mX9_digest.2.1 60 = .ok (.iload_n 3, 1) := by decide +kernel
theorem dX9_digest_61 : decode mX9_digest.2.1 61 = .ok (.bipush 7, 2) := by decide +kernel
theorem dX9_digest_63 : decode mX9_digest.2.1 63 = .ok (.if_icmp .gt 20, 3) := by decide +kernel
theorem dX9_digest_66 : decode mX9_digest.2.1 66 = .ok (.lload_n 1, 1) := by decide +kernel
theorem dX9_digest_67 : decode mX9_digest.2.1 67 = .ok (.aload_n 0, 1) := by decide +kernel
theorem dX9_digest_68 : decode mX9_digest.2.1 68 = .ok (.iload_n 3, 1) := by decide +kernel
theorem dX9_digest_69 : decode mX9_digest.2.1 69 = .ok (.invokevirtual 230, 3) := by decide +kernel
theorem dX9_digest_72 : decode mX9_digest.2.1 72 = .ok (.i2l, 1) := by decide +kernel
theorem dX9_digest_73 : decode mX9_digest.2.1 73 = .ok (.invokestatic 226, 3) := by decide +kernel
theorem dX9_digest_76 : decode mX9_digest.2.1 76 = .ok (.lstore_n 1, 1) := by decide +kernel
theorem dX9_digest_77 : decode mX9_digest.2.1 77 = .ok (.iinc 3 1, 3) := by decide +kernel
theorem dX9_digest_80 : decode mX9_digest.2.1 80 = .ok (.goto (-20), 3) := by decide +kernel
theorem dX9_digest_83 : decode mX9_digest.2.1 83 = .ok (.lload_n 1, 1) := by decide +kernel
theorem dX9_digest_84 : decode mX9_digest.2.1 84 = .ok (.lreturn, 1) := by decide +kernel
theorem dX9_leastAge_0 : decode mX9_leastAge.2.1 0 = .ok (.iload_n 0, 1) := by decide +kernel
theorem dX9_leastAge_1 : decode mX9_leastAge.2.1 1 = .ok (.iconst 1, 1) := by decide +kernel
theorem dX9_leastAge_2 : decode mX9_leastAge.2.1 2 = .ok (.if_icmp .ne 8, 3) := by decide +kernel
theorem dX9_leastAge_5 : decode mX9_leastAge.2.1 5 = .ok (.bipush 14, 2) := by decide +kernel
theorem dX9_leastAge_7 : decode mX9_leastAge.2.1 7 = .ok (.goto 4, 3) := by decide +kernel
theorem dX9_leastAge_10 : decode mX9_leastAge.2.1 10 = .ok (.iconst 0, 1) := by decide +kernel
theorem dX9_leastAge_11 : decode mX9_leastAge.2.1 11 = .ok (.ireturn, 1) := by decide +kernel
theorem dX9_mayHaveAge_0 : decode mX9_mayHaveAge.2.1 0 = .ok (.iload_n 0, 1) := by decide +kernel
theorem dX9_mayHaveAge_1 : decode mX9_mayHaveAge.2.1 1 = .ok (.ifCond .eq 21, 3) := by decide +kernel
theorem dX9_mayHaveAge_4 : decode mX9_mayHaveAge.2.1 4 = .ok (.iload_n 1, 1) := by decide +kernel
theorem dX9_mayHaveAge_5 : decode mX9_mayHaveAge.2.1 5 = .ok (.iload_n 0, 1) := by decide +kernel
theorem dX9_mayHaveAge_6 : decode mX9_mayHaveAge.2.1 6 = .ok (.invokestatic 233, 3) := by decide +kernel
theorem dX9_mayHaveAge_9 : decode mX9_mayHaveAge.2.1 9 = .ok (.if_icmp .lt 13, 3) := by decide +kernel
theorem dX9_mayHaveAge_12 : decode mX9_mayHaveAge.2.1 12 = .ok (.iload_n 1, 1) := by decide +kernel
theorem dX9_mayHaveAge_13 : decode mX9_mayHaveAge.2.1 13 = .ok (.bipush 99, 2) := by decide +kernel
theorem dX9_mayHaveAge_15 : decode mX9_mayHaveAge.2.1 15 = .ok (.if_icmp .gt 7, 3) := by decide +kernel
theorem dX9_mayHaveAge_18 : decode mX9_mayHaveAge.2.1 18 = .ok (.iconst 1, 1) := by decide +kernel
theorem dX9_mayHaveAge_19 : decode mX9_mayHaveAge.2.1 19 = .ok (.goto 4, 3) := by decide +kernel
theorem dX9_mayHaveAge_22 : decode mX9_mayHaveAge.2.1 22 = .ok (.iconst 0, 1) := by decide +kernel
theorem dX9_mayHaveAge_23 : decode mX9_mayHaveAge.2.1 23 = .ok (.ireturn, 1) := by decide +kernel
theorem dX9_areTwo_0 : decode mX9_areTwo.2.1 0 = .ok (.aload_n 0, 1) := by decide +kernel
theorem dX9_areTwo_1 : decode mX9_areTwo.2.1 1 = .ok (.getfield 33, 3) := by decide +kernel
theorem dX9_areTwo_4 : decode mX9_areTwo.2.1 4 = .ok (.iload_n 1, 1) := by decide +kernel
theorem dX9_areTwo_5 : decode mX9_areTwo.2.1 5 = .ok (.invokevirtual 111, 3) := by decide +kernel
theorem dX9_areTwo_8 : decode mX9_areTwo.2.1 8 = .ok (.ifCond .eq 23, 3) := by decide +kernel
theorem dX9_areTwo_11 : decode mX9_areTwo.2.1 11 = .ok (.aload_n 0, 1) := by decide +kernel
theorem dX9_areTwo_12 : decode mX9_areTwo.2.1 12 = .ok (.getfield 33, 3) := by decide +kernel
theorem dX9_areTwo_15 : decode mX9_areTwo.2.1 15 = .ok (.iload_n 2, 1) := by decide +kernel
theorem dX9_areTwo_16 : decode mX9_areTwo.2.1 16 = .ok (.invokevirtual 111, 3) := by decide +kernel
theorem dX9_areTwo_19 : decode mX9_areTwo.2.1 19 = .ok (.ifCond .eq 12, 3) := by decide +kernel
theorem dX9_areTwo_22 : decode mX9_areTwo.2.1 22 = .ok (.iload_n 1, 1) := by decide +kernel
theorem dX9_areTwo_23 : decode mX9_areTwo.2.1 23 = .ok (.iload_n 2, 1) := by decide +kernel
theorem dX9_areTwo_24 : decode mX9_areTwo.2.1 24 = .ok (.if_icmp .eq 7, 3) := by decide +kernel
theorem dX9_areTwo_27 : decode mX9_areTwo.2.1 27 = .ok (.iconst 1, 1) := by decide +kernel
theorem dX9_areTwo_28 : decode mX9_areTwo.2.1 28 = .ok (.goto 4, 3) := by decide +kernel
theorem dX9_areTwo_31 : decode mX9_areTwo.2.1 31 = .ok (.iconst 0, 1) := by decide +kernel
theorem dX9_areTwo_32 : decode mX9_areTwo.2.1 32 = .ok (.ireturn, 1) := by decide +kernel
theorem dX9_addEntriesOfPage_0 : decode mX9_addEntriesOfPage.2.1 0 = .ok (.aload_n 0, 1) := by decide +kernel
theorem dX9_addEntriesOfPage_1 : decode mX9_addEntriesOfPage.2.1 1 = .ok (.getfield 19, 3) := by decide +kernel
theorem dX9_addEntriesOfPage_4 : decode mX9_addEntriesOfPage.2.1 4 = .ok (.invokevirtual 79, 3) := by decide +kernel
theorem dX9_addEntriesOfPage_7 : decode mX9_addEntriesOfPage.2.1 7 = .ok (.iconst 0, 1) := by decide +kernel
theorem dX9_addEntriesOfPage_8 : decode mX9_addEntriesOfPage.2.1 8 = .ok (.istore_n 1, 1) := by decide +kernel
theorem dX9_addEntriesOfPage_9 : decode mX9_addEntriesOfPage.2.1 9 = .ok (.iload_n 1, 1) := by decide +kernel
theorem dX9_addEntriesOfPage_10 : decode mX9_addEntriesOfPage.2.1 10 = .ok (.aload_n 0, 1) := by decide +kernel
theorem dX9_addEntriesOfPage_11 : decode mX9_addEntriesOfPage.2.1 11 = .ok (.getfield 10, 3) := by decide +kernel
theorem dX9_addEntriesOfPage_14 : decode mX9_addEntriesOfPage.2.1 14 = .ok (.getfield 72, 3) := by decide +kernel
theorem dX9_addEntriesOfPage_17 : decode mX9_addEntriesOfPage.2.1 17 = .ok (.if_icmp .ge 59, 3) := by decide +kernel
theorem dX9_addEntriesOfPage_20 : decode mX9_addEntriesOfPage.2.1 20 = .ok (.aload_n 0, 1) := by decide +kernel
theorem dX9_addEntriesOfPage_21 : decode mX9_addEntriesOfPage.2.1 21 = .ok (.getfield 10, 3) := by decide +kernel
theorem dX9_addEntriesOfPage_24 : decode mX9_addEntriesOfPage.2.1 24 = .ok (.getfield 82, 3) := by decide +kernel
theorem dX9_addEntriesOfPage_27 : decode mX9_addEntriesOfPage.2.1 27 = .ok (.iload_n 1, 1) := by decide +kernel
theorem dX9_addEntriesOfPage_28 : decode mX9_addEntriesOfPage.2.1 28 = .ok (.iaload, 1) := by decide +kernel
theorem dX9_addEntriesOfPage_29 : decode mX9_addEntriesOfPage.2.1 29 = .ok (.bipush 59, 2) := by decide +kernel
theorem dX9_addEntriesOfPage_31 : decode mX9_addEntriesOfPage.2.1 31 = .ok (.if_icmp .ne 22, 3) := by decide +kernel
theorem dX9_addEntriesOfPage_34 : decode mX9_addEntriesOfPage.2.1 34 = .ok (.aload_n 0, 1) := by decide +kernel
theorem dX9_addEntriesOfPage_35 : decode mX9_addEntriesOfPage.2.1 35 = .ok (.getfield 33, 3) := by decide +kernel
theorem dX9_addEntriesOfPage_38 : decode mX9_addEntriesOfPage.2.1 38 = .ok (.aload_n 0, 1) := by decide +kernel
theorem dX9_addEntriesOfPage_39 : decode mX9_addEntriesOfPage.2.1 39 = .ok (.getfield 10, 3) := by decide +kernel
theorem dX9_addEntriesOfPage_42 : decode mX9_addEntriesOfPage.2.1 42 = .ok (.aload_n 0, 1) := by decide +kernel
theorem dX9_addEntriesOfPage_43 : decode mX9_addEntriesOfPage.2.1 43 = .ok (.getfield 19, 3) := by decide +kernel
theorem dX9_addEntriesOfPage_46 : decode mX9_addEntriesOfPage.2.1 46 = .ok (.aload_n 0, 1) := by decide +kernel
theorem dX9_addEntriesOfPage_47 : decode mX9_addEntriesOfPage.2.1 47 = .ok (.getfield 26, 3) := by decide +kernel
theorem dX9_addEntriesOfPage_50 : decode mX9_addEntriesOfPage.2.1 50 = .ok (.invokevirtual 236, 3) := by decide +kernel
theorem dX9_addEntriesOfPage_53 : decode mX9_addEntriesOfPage.2.1 53 = .ok (.aload_n 0, 1) := by decide +kernel
theorem dX9_addEntriesOfPage_54 : decode mX9_addEntriesOfPage.2.1 54 = .ok (.getfield 19, 3) := by decide +kernel
theorem dX9_addEntriesOfPage_57 : decode mX9_addEntriesOfPage.2.1 57 = .ok (.aload_n 0, 1) := by decide +kernel
theorem dX9_addEntriesOfPage_58 : decode mX9_addEntriesOfPage.2.1 58 = .ok (.getfield 10, 3) := by decide +kernel
theorem dX9_addEntriesOfPage_61 : decode mX9_addEntriesOfPage.2.1 61 = .ok (.getfield 82, 3) := by decide +kernel
theorem dX9_addEntriesOfPage_64 : decode mX9_addEntriesOfPage.2.1 64 = .ok (.iload_n 1, 1) := by decide +kernel
theorem dX9_addEntriesOfPage_65 : decode mX9_addEntriesOfPage.2.1 65 = .ok (.iaload, 1) := by decide +kernel
theorem dX9_addEntriesOfPage_66 : decode mX9_addEntriesOfPage.2.1 66 = .ok (.invokevirtual 86, 3) := by decide +kernel
theorem dX9_addEntriesOfPage_69 : decode mX9_addEntriesOfPage.2.1 69 = .ok (.pop, 1) := by decide +kernel
theorem dX9_addEntriesOfPage_70 : decode mX9_addEntriesOfPage.2.1 70 = .ok (.iinc 1 1, 3) := by decide +kernel
theorem dX9_addEntriesOfPage_73 : decode mX9_addEntriesOfPage.2.1 73 = .ok (.goto (-64), 3) := by decide +kernel
theorem dX9_addEntriesOfPage_76 : decode mX9_addEntriesOfPage.2.1 76 = .ok (.aload_n 0, 1) := by decide +kernel
theorem dX9_addEntriesOfPage_77 : decode mX9_addEntriesOfPage.2.1 77 = .ok (.getfield 33, 3) := by decide +kernel
theorem dX9_addEntriesOfPage_80 : decode mX9_addEntriesOfPage.2.1 80 = .ok (.aload_n 0, 1) := by decide +kernel
theorem dX9_addEntriesOfPage_81 : decode mX9_addEntriesOfPage.2.1 81 = .ok (.getfield 10, 3) := by decide +kernel
theorem dX9_addEntriesOfPage_84 : decode mX9_addEntriesOfPage.2.1 84 = .ok (.aload_n 0, 1) := by decide +kernel
theorem dX9_addEntriesOfPage_85 : decode mX9_addEntriesOfPage.2.1 85 = .ok (.getfield 19, 3) := by decide +kernel
theorem dX9_addEntriesOfPage_88 : decode mX9_addEntriesOfPage.2.1 88 = .ok (.aload_n 0, 1) := by decide +kernel
theorem dX9_addEntriesOfPage_89 : decode mX9_addEntriesOfPage.2.1 89 = .ok (.getfield 26, 3) := by decide +kernel
theorem dX9_addEntriesOfPage_92 : decode mX9_addEntriesOfPage.2.1 92 = .ok (.invokevirtual 236, 3) := by decide +kernel
theorem dX9_addEntriesOfPage_95 : decode mX9_addEntriesOfPage.2.1 95 = .ok (.return_, 1) := by decide +kernel
theorem dX9_settle_0 : decode mX9_settle.2.1 0 = .ok (.aload_n 0, 1) := by decide +kernel
theorem dX9_settle_1 : decode mX9_settle.2.1 1 = .ok (.getfield 68, 3) := by decide +kernel
theorem dX9_settle_4 : decode mX9_settle.2.1 4 = .ok (.ifCond .ne 4, 3) := by decide +kernel
theorem dX9_settle_7 : decode mX9_settle.2.1 7 = .ok (.return_, 1) := by decide +kernel
theorem dX9_settle_8 : decode mX9_settle.2.1 8 = .ok (.aload_n 0, 1) := by decide +kernel
theorem dX9_settle_9 : decode mX9_settle.2.1 9 = .ok (.getfield 33, 3) := by decide +kernel
theorem dX9_settle_12 : decode mX9_settle.2.1 12 = .ok (.aload_n 0, 1) := by decide +kernel
theorem dX9_settle_13 : decode mX9_settle.2.1 13 = .ok (.getfield 62, 3) := by decide +kernel
theorem dX9_settle_16 : decode mX9_settle.2.1 16 = .ok (.invokevirtual 240, 3) := by decide +kernel
theorem dX9_settle_19 : decode mX9_settle.2.1 19 = .ok (.aload_n 0, 1) := by decide +kernel
theorem dX9_settle_20 : decode mX9_settle.2.1 20 = .ok (.getfield 40, 3) := by decide +kernel
theorem dX9_settle_23 : decode mX9_settle.2.1 23 = .ok (.aload_n 0, 1) := by decide +kernel
theorem dX9_settle_24 : decode mX9_settle.2.1 24 = .ok (.getfield 33, 3) := by decide +kernel
theorem dX9_settle_27 : decode mX9_settle.2.1 27 = .ok (.aload_n 0, 1) := by decide +kernel
theorem dX9_settle_28 : decode mX9_settle.2.1 28 = .ok (.getfield 58, 3) := by decide +kernel
theorem dX9_settle_31 : decode mX9_settle.2.1 31 = .ok (.invokevirtual 243, 3) := by decide +kernel
theorem dX9_settle_34 : decode mX9_settle.2.1 34 = .ok (.aload_n 0, 1) := by decide +kernel
theorem dX9_settle_35 : decode mX9_settle.2.1 35 = .ok (.getfield 47, 3) := by decide +kernel
theorem dX9_settle_38 : decode mX9_settle.2.1 38 = .ok (.aload_n 0, 1) := by decide +kernel
theorem dX9_settle_39 : decode mX9_settle.2.1 39 = .ok (.getfield 33, 3) := by decide +kernel
theorem dX9_settle_42 : decode mX9_settle.2.1 42 = .ok (.aload_n 0, 1) := by decide +kernel
theorem dX9_settle_43 : decode mX9_settle.2.1 43 = .ok (.getfield 40, 3) := by decide +kernel
theorem dX9_settle_46 : decode mX9_settle.2.1 46 = .ok (.invokevirtual 246, 3) := by decide +kernel
theorem dX9_settle_49 : decode mX9_settle.2.1 49 = .ok (.aload_n 0, 1) := by decide +kernel
theorem dX9_settle_50 : decode mX9_settle.2.1 50 = .ok (.getfield 54, 3) := by decide +kernel
theorem dX9_settle_53 : decode mX9_settle.2.1 53 = .ok (.aload_n 0, 1) := by decide +kernel
theorem dX9_settle_54 : decode mX9_settle.2.1 54 = .ok (.getfield 33, 3) := by decide +kernel
theorem dX9_settle_57 : decode mX9_settle.2.1 57 = .ok (.aload_n 0, 1) := by decide +kernel
theorem dX9_settle_58 : decode mX9_settle.2.1 58 = .ok (.getfield 40, 3) := by decide +kernel
theorem dX9_settle_61 : decode mX9_settle.2.1 61 = .ok (.aload_n 0, 1) := by decide +kernel
theorem dX9_settle_62 : decode mX9_settle.2.1 62 = .ok (.getfield 47, 3) := by decide +kernel
theorem dX9_settle_65 : decode mX9_settle.2.1 65 = .ok (.aload_n 0, 1) := by decide +kernel
theorem dX9_settle_66 : decode mX9_settle.2.1 66 = .ok (.getfield 65, 3) := by decide +kernel
theorem dX9_settle_69 : decode mX9_settle.2.1 69 = .ok (.invokevirtual 249, 3) := by decide +kernel
theorem dX9_settle_72 : decode mX9_settle.2.1 72 = .ok (.aload_n 0, 1) := by decide +kernel
theorem dX9_settle_73 : decode mX9_settle.2.1 73 = .ok (.iconst 0, 1) := by decide +kernel
theorem dX9_settle_74 : decode mX9_settle.2.1 74 = .ok (.putfield 68, 3) := by decide +kernel
theorem dX9_settle_77 : decode mX9_settle.2.1 77 = .ok (.return_, 1) := by decide +kernel
theorem dX9_tellEntry_0 : decode mX9_tellEntry.2.1 0 = .ok (.aload_n 0, 1) := by decide +kernel
theorem dX9_tellEntry_1 : decode mX9_tellEntry.2.1 1 = .ok (.getfield 33, 3) := by decide +kernel
theorem dX9_tellEntry_4 : decode mX9_tellEntry.2.1 4 = .ok (.getfield 121, 3) := by decide +kernel
theorem dX9_tellEntry_7 : decode mX9_tellEntry.2.1 7 = .ok (.iload_n 1, 1) := by decide +kernel
theorem dX9_tellEntry_8 : decode mX9_tellEntry.2.1 8 = .ok (.aaload, 1) := by decide +kernel
theorem dX9_tellEntry_9 : decode mX9_tellEntry.2.1 9 = .ok (.astore_n 3, 1) := by decide +kernel
theorem dX9_tellEntry_10 : decode mX9_tellEntry.2.1 10 = .ok (.iload_n 2, 1) := by decide +kernel
theorem dX9_tellEntry_11 : decode mX9_tellEntry.2.1 11 = .ok (.tableswitch 104 0 7 #[45, 50, 55, 60, 65, 70, 75, 85], 45) := by decide +kernel
theorem dX9_tellEntry_56 : decode mX9_tellEntry.2.1 56 = .ok (.aload_n 3, 1) := by decide +kernel
theorem dX9_tellEntry_57 : decode mX9_tellEntry.2.1 57 = .ok (.getfield 133, 3) := by decide +kernel
theorem dX9_tellEntry_60 : decode mX9_tellEntry.2.1 60 = .ok (.ireturn, 1) := by decide +kernel
theorem dX9_tellEntry_61 : decode mX9_tellEntry.2.1 61 = .ok (.aload_n 3, 1) := by decide +kernel
theorem dX9_tellEntry_62 : decode mX9_tellEntry.2.1 62 = .ok (.getfield 136, 3) := by decide +kernel
theorem dX9_tellEntry_65 : decode mX9_tellEntry.2.1 65 = .ok (.ireturn, 1) := by decide +kernel
theorem dX9_tellEntry_66 : decode mX9_tellEntry.2.1 66 = .ok (.aload_n 3, 1) := by decide +kernel
theorem dX9_tellEntry_67 : decode mX9_tellEntry.2.1 67 = .ok (.getfield 147, 3) := by decide +kernel
theorem dX9_tellEntry_70 : decode mX9_tellEntry.2.1 70 = .ok (.ireturn, 1) := by decide +kernel
theorem dX9_tellEntry_71 : decode mX9_tellEntry.2.1 71 = .ok (.aload_n 3, 1) := by decide +kernel
theorem dX9_tellEntry_72 : decode mX9_tellEntry.2.1 72 = .ok (.getfield 125, 3) := by decide +kernel
theorem dX9_tellEntry_75 : decode mX9_tellEntry.2.1 75 = .ok (.ireturn, 1) := by decide +kernel
theorem dX9_tellEntry_76 : decode mX9_tellEntry.2.1 76 = .ok (.aload_n 3, 1) := by decide +kernel
theorem dX9_tellEntry_77 : decode mX9_tellEntry.2.1 77 = .ok (.getfield 252, 3) := by decide +kernel
theorem dX9_tellEntry_80 : decode mX9_tellEntry.2.1 80 = .ok (.ireturn, 1) := by decide +kernel
theorem dX9_tellEntry_81 : decode mX9_tellEntry.2.1 81 = .ok (.aload_n 3, 1) := by decide +kernel
theorem dX9_tellEntry_82 : decode mX9_tellEntry.2.1 82 = .ok (.getfield 255, 3) := by decide +kernel
theorem dX9_tellEntry_85 : decode mX9_tellEntry.2.1 85 = .ok (.ireturn, 1) := by decide +kernel
theorem dX9_tellEntry_86 : decode mX9_tellEntry.2.1 86 = .ok (.aload_n 0, 1) := by decide +kernel
theorem dX9_tellEntry_87 : decode mX9_tellEntry.2.1 87 = .ok (.getfield 54, 3) := by decide +kernel
theorem dX9_tellEntry_90 : decode mX9_tellEntry.2.1 90 = .ok (.getfield 258, 3) := by decide +kernel
theorem dX9_tellEntry_93 : decode mX9_tellEntry.2.1 93 = .ok (.iload_n 1, 1) := by decide +kernel
theorem dX9_tellEntry_94 : decode mX9_tellEntry.2.1 94 = .ok (.iaload, 1) := by decide +kernel
theorem dX9_tellEntry_95 : decode mX9_tellEntry.2.1 95 = .ok (.ireturn, 1) := by decide +kernel
theorem dX9_tellEntry_96 : decode mX9_tellEntry.2.1 96 = .ok (.aload_n 0, 1) := by decide +kernel
theorem dX9_tellEntry_97 : decode mX9_tellEntry.2.1 97 = .ok (.getfield 54, 3) := by decide +kernel
theorem dX9_tellEntry_100 : decode mX9_tellEntry.2.1 100 = .ok (.getfield 258, 3) := by decide +kernel
theorem dX9_tellEntry_103 : decode mX9_tellEntry.2.1 103 = .ok (.iload_n 1, 1) := by decide +kernel
theorem dX9_tellEntry_104 : decode mX9_tellEntry.2.1 104 = .ok (.iaload, 1) := by decide +kernel
theorem dX9_tellEntry_105 : decode mX9_tellEntry.2.1 105 = .ok (.iconst (-1), 1) := by decide +kernel
theorem dX9_tellEntry_106 : decode mX9_tellEntry.2.1 106 = .ok (.if_icmp .ne 7, 3) := by decide +kernel
theorem dX9_tellEntry_109 : decode mX9_tellEntry.2.1 109 = .ok (.iconst 1, 1) := by decide +kernel
theorem dX9_tellEntry_110 : decode mX9_tellEntry.2.1 110 = .ok (.goto 4, 3) := by decide +kernel
theorem dX9_tellEntry_113 : decode mX9_tellEntry.2.1 113 = .ok (.iconst 0, 1) := by decide +kernel
theorem dX9_tellEntry_114 : decode mX9_tellEntry.2.1 114 = .ok (.ireturn, 1) := by decide +kernel
theorem dX9_tellEntry_115 : decode mX9_tellEntry.2.1 115 = .ok (.bipush (-102), 2) := by decide +kernel
theorem dX9_tellEntry_117 : decode mX9_tellEntry.2.1 117 = .ok (.ireturn, 1) := by decide +kernel
theorem dX9_tellTwo_0 : decode mX9_tellTwo.2.1 0 = .ok (.aload_n 0, 1) := by decide +kernel
theorem dX9_tellTwo_1 : decode mX9_tellTwo.2.1 1 = .ok (.getfield 33, 3) := by decide +kernel
theorem dX9_tellTwo_4 : decode mX9_tellTwo.2.1 4 = .ok (.getfield 121, 3) := by decide +kernel
theorem dX9_tellTwo_7 : decode mX9_tellTwo.2.1 7 = .ok (.iload_n 1, 1) := by decide +kernel
theorem dX9_tellTwo_8 : decode mX9_tellTwo.2.1 8 = .ok (.aaload, 1) := by decide +kernel
theorem dX9_tellTwo_9 : decode mX9_tellTwo.2.1 9 = .ok (.astore 4, 2) := by decide +kernel
theorem dX9_tellTwo_11 : decode mX9_tellTwo.2.1 11 = .ok (.aload_n 0, 1) := by decide +kernel
theorem dX9_tellTwo_12 : decode mX9_tellTwo.2.1 12 = .ok (.getfield 33, 3) := by decide +kernel
theorem dX9_tellTwo_15 : decode mX9_tellTwo.2.1 15 = .ok (.getfield 121, 3) := by decide +kernel
theorem dX9_tellTwo_18 : decode mX9_tellTwo.2.1 18 = .ok (.iload_n 2, 1) := by decide +kernel
theorem dX9_tellTwo_19 : decode mX9_tellTwo.2.1 19 = .ok (.aaload, 1) := by decide +kernel
theorem dX9_tellTwo_20 : decode mX9_tellTwo.2.1 20 = .ok (.astore 5, 2) := by decide +kernel
theorem dX9_tellTwo_22 : decode mX9_tellTwo.2.1 22 = .ok (.iload_n 3, 1) := by decide +kernel
theorem dX9_tellTwo_23 : decode mX9_tellTwo.2.1 23 = .ok (.tableswitch 81 0 4 #[33, 41, 49, 61, 73], 33) := by decide +kernel
theorem dX9_tellTwo_56 : decode mX9_tellTwo.2.1 56 = .ok (.aload 4, 2) := by decide +kernel
theorem dX9_tellTwo_58 : decode mX9_tellTwo.2.1 58 = .ok (.aload 5, 2) := by decide +kernel
theorem dX9_tellTwo_60 : decode mX9_tellTwo.2.1 60 = .ok (.invokevirtual 261, 3) := by decide +kernel
theorem dX9_tellTwo_63 : decode mX9_tellTwo.2.1 63 = .ok (.ireturn, 1) := by decide +kernel
theorem dX9_tellTwo_64 : decode mX9_tellTwo.2.1 64 = .ok (.aload 4, 2) := by decide +kernel
theorem dX9_tellTwo_66 : decode mX9_tellTwo.2.1 66 = .ok (.aload 5, 2) := by decide +kernel
theorem dX9_tellTwo_68 : decode mX9_tellTwo.2.1 68 = .ok (.invokevirtual 265, 3) := by decide +kernel
theorem dX9_tellTwo_71 : decode mX9_tellTwo.2.1 71 = .ok (.ireturn, 1) := by decide +kernel
theorem dX9_tellTwo_72 : decode mX9_tellTwo.2.1 72 = .ok (.aload_n 0, 1) := by decide +kernel
theorem dX9_tellTwo_73 : decode mX9_tellTwo.2.1 73 = .ok (.getfield 40, 3) := by decide +kernel
theorem dX9_tellTwo_76 : decode mX9_tellTwo.2.1 76 = .ok (.getfield 268, 3) := by decide +kernel
theorem dX9_tellTwo_79 : decode mX9_tellTwo.2.1 79 = .ok (.iload_n 1, 1) := by decide +kernel
theorem dX9_tellTwo_80 : decode mX9_tellTwo.2.1 80 = .ok (.aaload, 1) := by decide +kernel
theorem dX9_tellTwo_81 : decode mX9_tellTwo.2.1 81 = .ok (.iload_n 2, 1) := by decide +kernel
theorem dX9_tellTwo_82 : decode mX9_tellTwo.2.1 82 = .ok (.iaload, 1) := by decide +kernel
theorem dX9_tellTwo_83 : decode mX9_tellTwo.2.1 83 = .ok (.ireturn, 1) := by decide +kernel
theorem dX9_tellTwo_84 : decode mX9_tellTwo.2.1 84 = .ok (.aload_n 0, 1) := by decide +kernel
theorem dX9_tellTwo_85 : decode mX9_tellTwo.2.1 85 = .ok (.getfield 40, 3) := by decide +kernel
theorem dX9_tellTwo_88 : decode mX9_tellTwo.2.1 88 = .ok (.getfield 272, 3) := by decide +kernel
theorem dX9_tellTwo_91 : decode mX9_tellTwo.2.1 91 = .ok (.iload_n 1, 1) := by decide +kernel
theorem dX9_tellTwo_92 : decode mX9_tellTwo.2.1 92 = .ok (.aaload, 1) := by decide +kernel
theorem dX9_tellTwo_93 : decode mX9_tellTwo.2.1 93 = .ok (.iload_n 2, 1) := by decide +kernel
theorem dX9_tellTwo_94 : decode mX9_tellTwo.2.1 94 = .ok (.iaload, 1) := by decide +kernel
theorem dX9_tellTwo_95 : decode mX9_tellTwo.2.1 95 = .ok (.ireturn, 1) := by decide +kernel
theorem dX9_tellTwo_96 : decode mX9_tellTwo.2.1 96 = .ok (.aload 4, 2) := by decide +kernel
theorem dX9_tellTwo_98 : decode mX9_tellTwo.2.1 98 = .ok (.aload 5, 2) := by decide +kernel
theorem dX9_tellTwo_100 : decode mX9_tellTwo.2.1 100 = .ok (.invokevirtual 275, 3) := by decide +kernel
theorem dX9_tellTwo_103 : decode mX9_tellTwo.2.1 103 = .ok (.ireturn, 1) := by decide +kernel
theorem dX9_tellTwo_104 : decode mX9_tellTwo.2.1 104 = .ok (.bipush (-102), 2) := by decide +kernel
theorem dX9_tellTwo_106 : decode mX9_tellTwo.2.1 106 = .ok (.ireturn, 1) := by decide +kernel
theorem dX9_tellLives_0 : decode mX9_tellLives.2.1 0 = .ok (.iload_n 1, 1) := by decide +kernel
theorem dX9_tellLives_1 : decode mX9_tellLives.2.1 1 = .ok (.tableswitch 87 0 5 #[39, 47, 55, 63, 71, 79], 39) := by decide +kernel
theorem dX9_tellLives_40 : decode mX9_tellLives.2.1 40 = .ok (.aload_n 0, 1) := by decide +kernel
theorem dX9_tellLives_41 : decode mX9_tellLives.2.1 41 = .ok (.getfield 54, 3) := by decide +kernel
theorem dX9_tellLives_44 : decode mX9_tellLives.2.1 44 = .ok (.getfield 278, 3) := by decide +kernel
theorem dX9_tellLives_47 : decode mX9_tellLives.2.1 47 = .ok (.ireturn, 1) := by decide +kernel
theorem dX9_tellLives_48 : decode mX9_tellLives.2.1 48 = .ok (.aload_n 0, 1) := by decide +kernel
theorem dX9_tellLives_49 : decode mX9_tellLives.2.1 49 = .ok (.getfield 47, 3) := by decide +kernel
theorem dX9_tellLives_52 : decode mX9_tellLives.2.1 52 = .ok (.getfield 279, 3) := by decide +kernel
theorem dX9_tellLives_55 : decode mX9_tellLives.2.1 55 = .ok (.ireturn, 1) := by decide +kernel
theorem dX9_tellLives_56 : decode mX9_tellLives.2.1 56 = .ok (.aload_n 0, 1) := by decide +kernel
theorem dX9_tellLives_57 : decode mX9_tellLives.2.1 57 = .ok (.getfield 47, 3) := by decide +kernel
theorem dX9_tellLives_60 : decode mX9_tellLives.2.1 60 = .ok (.getfield 281, 3) := by decide +kernel
theorem dX9_tellLives_63 : decode mX9_tellLives.2.1 63 = .ok (.ireturn, 1) := by decide +kernel
theorem dX9_tellLives_64 : decode mX9_tellLives.2.1 64 = .ok (.aload_n 0, 1) := by decide +kernel
theorem dX9_tellLives_65 : decode mX9_tellLives.2.1 65 = .ok (.getfield 54, 3) := by decide +kernel
theorem dX9_tellLives_68 : decode mX9_tellLives.2.1 68 = .ok (.getfield 283, 3) := by decide +kernel
theorem dX9_tellLives_71 : decode mX9_tellLives.2.1 71 = .ok (.ireturn, 1) := by decide +kernel
theorem dX9_tellLives_72 : decode mX9_tellLives.2.1 72 = .ok (.aload_n 0, 1) := by decide +kernel
theorem dX9_tellLives_73 : decode mX9_tellLives.2.1 73 = .ok (.getfield 54, 3) := by decide +kernel
theorem dX9_tellLives_76 : decode mX9_tellLives.2.1 76 = .ok (.invokevirtual 286, 3) := by decide +kernel
theorem dX9_tellLives_79 : decode mX9_tellLives.2.1 79 = .ok (.ireturn, 1) := by decide +kernel
theorem dX9_tellLives_80 : decode mX9_tellLives.2.1 80 = .ok (.aload_n 0, 1) := by decide +kernel
theorem dX9_tellLives_81 : decode mX9_tellLives.2.1 81 = .ok (.getfield 54, 3) := by decide +kernel
theorem dX9_tellLives_84 : decode mX9_tellLives.2.1 84 = .ok (.invokevirtual 289, 3) := by decide +kernel
theorem dX9_tellLives_87 : decode mX9_tellLives.2.1 87 = .ok (.ireturn, 1) := by decide +kernel
theorem dX9_tellLives_88 : decode mX9_tellLives.2.1 88 = .ok (.bipush (-102), 2) := by decide +kernel
theorem dX9_tellLives_90 : decode mX9_tellLives.2.1 90 = .ok (.ireturn, 1) := by decide +kernel
theorem dX9_tellLife_0 : decode mX9_tellLife.2.1 0 = .ok (.iload_n 1, 1) := by decide +kernel
theorem dX9_tellLife_1 : decode mX9_tellLife.2.1 1 = .ok (.tableswitch 117 0 7 #[47, 52, 57, 62, 78, 94, 107, 112], 47) := by decide +kernel
theorem dX9_tellLife_48 : decode mX9_tellLife.2.1 48 = .ok (.aload_n 0, 1) := by decide +kernel
theorem dX9_tellLife_49 : decode mX9_tellLife.2.1 49 = .ok (.getfield 292, 3) := by decide +kernel
theorem dX9_tellLife_52 : decode mX9_tellLife.2.1 52 = .ok (.ireturn, 1) := by decide +kernel
theorem dX9_tellLife_53 : decode mX9_tellLife.2.1 53 = .ok (.aload_n 0, 1) := by decide +kernel
theorem dX9_tellLife_54 : decode mX9_tellLife.2.1 54 = .ok (.getfield 295, 3) := by decide +kernel
theorem dX9_tellLife_57 : decode mX9_tellLife.2.1 57 = .ok (.ireturn, 1) := by decide +kernel
theorem dX9_tellLife_58 : decode mX9_tellLife.2.1 58 = .ok (.aload_n 0, 1) := by decide +kernel
theorem dX9_tellLife_59 : decode mX9_tellLife.2.1 59 = .ok (.invokevirtual 180, 3) := by decide +kernel
theorem dX9_tellLife_62 : decode mX9_tellLife.2.1 62 = .ok (.ireturn, 1) := by decide +kernel
theorem dX9_tellLife_63 : decode mX9_tellLife.2.1 63 = .ok (.aload_n 0, 1) := by decide +kernel
theorem dX9_tellLife_64 : decode mX9_tellLife.2.1 64 = .ok (.invokevirtual 298, 3) := by decide +kernel
theorem dX9_tellLife_67 : decode mX9_tellLife.2.1 67 = .ok (.ifCond .eq 10, 3) := by decide +kernel
theorem dX9_tellLife_70 : decode mX9_tellLife.2.1 70 = .ok (.aload_n 0, 1) := by decide +kernel
theorem dX9_tellLife_71 : decode mX9_tellLife.2.1 71 = .ok (.getfield 301, 3) := by decide +kernel
theorem dX9_tellLife_74 : decode mX9_tellLife.2.1 74 = .ok (.goto 4, 3) := by decide +kernel
theorem dX9_tellLife_77 : decode mX9_tellLife.2.1 77 = .ok (.iconst (-1), 1) := by decide +kernel
theorem dX9_tellLife_78 : decode mX9_tellLife.2.1 78 = .ok (.ireturn, 1) := by decide +kernel
theorem dX9_tellLife_79 : decode mX9_tellLife.2.1 79 = .ok (.aload_n 0, 1) := by decide +kernel
theorem dX9_tellLife_80 : decode mX9_tellLife.2.1 80 = .ok (.invokevirtual 298, 3) := by decide +kernel
theorem dX9_tellLife_83 : decode mX9_tellLife.2.1 83 = .ok (.ifCond .eq 10, 3) := by decide +kernel
theorem dX9_tellLife_86 : decode mX9_tellLife.2.1 86 = .ok (.aload_n 0, 1) := by decide +kernel
theorem dX9_tellLife_87 : decode mX9_tellLife.2.1 87 = .ok (.getfield 302, 3) := by decide +kernel
theorem dX9_tellLife_90 : decode mX9_tellLife.2.1 90 = .ok (.goto 4, 3) := by decide +kernel
theorem dX9_tellLife_93 : decode mX9_tellLife.2.1 93 = .ok (.iconst (-1), 1) := by decide +kernel
theorem dX9_tellLife_94 : decode mX9_tellLife.2.1 94 = .ok (.ireturn, 1) := by decide +kernel
theorem dX9_tellLife_95 : decode mX9_tellLife.2.1 95 = .ok (.aload_n 0, 1) := by decide +kernel
theorem dX9_tellLife_96 : decode mX9_tellLife.2.1 96 = .ok (.getfield 303, 3) := by decide +kernel
theorem dX9_tellLife_99 : decode mX9_tellLife.2.1 99 = .ok (.ifCond .eq 7, 3) := by decide +kernel
theorem dX9_tellLife_102 : decode mX9_tellLife.2.1 102 = .ok (.iconst 1, 1) := by decide +kernel
theorem dX9_tellLife_103 : decode mX9_tellLife.2.1 103 = .ok (.goto 4, 3) := by decide +kernel
theorem dX9_tellLife_106 : decode mX9_tellLife.2.1 106 = .ok (.iconst 0, 1) := by decide +kernel
theorem dX9_tellLife_107 : decode mX9_tellLife.2.1 107 = .ok (.ireturn, 1) := by decide +kernel
theorem dX9_tellLife_108 : decode mX9_tellLife.2.1 108 = .ok (.aload_n 0, 1) := by decide +kernel
theorem dX9_tellLife_109 : decode mX9_tellLife.2.1 109 = .ok (.getfield 306, 3) := by decide +kernel
theorem dX9_tellLife_112 : decode mX9_tellLife.2.1 112 = .ok (.ireturn, 1) := by decide +kernel
theorem dX9_tellLife_113 : decode mX9_tellLife.2.1 113 = .ok (.aload_n 0, 1) := by decide +kernel
theorem dX9_tellLife_114 : decode mX9_tellLife.2.1 114 = .ok (.getfield 307, 3) := by decide +kernel
theorem dX9_tellLife_117 : decode mX9_tellLife.2.1 117 = .ok (.ireturn, 1) := by decide +kernel
theorem dX9_tellLife_118 : decode mX9_tellLife.2.1 118 = .ok (.bipush (-102), 2) := by decide +kernel
theorem dX9_tellLife_120 : decode mX9_tellLife.2.1 120 = .ok (.ireturn, 1) := by decide +kernel
theorem dX9_mixed_0 : decode mX9_mixed.2.1 0 = .ok (.ldc2_w 310, 3) := by decide +kernel
theorem dX9_mixed_3 : decode mX9_mixed.2.1 3 = .ok (.lload_n 0, 1) := by decide +kernel
theorem dX9_mixed_4 : decode mX9_mixed.2.1 4 = .ok (.lmul, 1) := by decide +kernel
theorem dX9_mixed_5 : decode mX9_mixed.2.1 5 = .ok (.lload_n 2, 1) := by decide +kernel
theorem dX9_mixed_6 : decode mX9_mixed.2.1 6 = .ok (.ladd, 1) := by decide +kernel
theorem dX9_mixed_7 : decode mX9_mixed.2.1 7 = .ok (.lreturn, 1) := by decide +kernel
theorem dX9_mixEntries_0 : decode mX9_mixEntries.2.1 0 = .ok (.lload_n 1, 1) := by decide +kernel
theorem dX9_mixEntries_1 : decode mX9_mixEntries.2.1 1 = .ok (.lstore_n 3, 1) := by decide +kernel
theorem dX9_mixEntries_2 : decode mX9_mixEntries.2.1 2 = .ok (.iconst 0, 1) := by decide +kernel
theorem dX9_mixEntries_3 : decode mX9_mixEntries.2.1 3 = .ok (.istore 5, 2) := by decide +kernel
theorem dX9_mixEntries_5 : decode mX9_mixEntries.2.1 5 = .ok (.iload 5, 2) := by decide +kernel
theorem dX9_mixEntries_7 : decode mX9_mixEntries.2.1 7 = .ok (.aload_n 0, 1) := by decide +kernel
theorem dX9_mixEntries_8 : decode mX9_mixEntries.2.1 8 = .ok (.getfield 33, 3) := by decide +kernel
theorem dX9_mixEntries_11 : decode mX9_mixEntries.2.1 11 = .ok (.getfield 142, 3) := by decide +kernel
theorem dX9_mixEntries_14 : decode mX9_mixEntries.2.1 14 = .ok (.if_icmp .ge 114, 3) := by decide +kernel
theorem dX9_mixEntries_17 : decode mX9_mixEntries.2.1 17 = .ok (.iconst 0, 1) := by decide +kernel
theorem dX9_mixEntries_18 : decode mX9_mixEntries.2.1 18 = .ok (.istore 6, 2) := by decide +kernel
theorem dX9_mixEntries_20 : decode mX9_mixEntries.2.1 20 = .ok (.iload 6, 2) := by decide +kernel
theorem dX9_mixEntries_22 : decode mX9_mixEntries.2.1 22 = .ok (.bipush 7, 2) := by decide +kernel
theorem dX9_mixEntries_24 : decode mX9_mixEntries.2.1 24 = .ok (.if_icmp .gt 23, 3) := by decide +kernel
theorem dX9_mixEntries_27 : decode mX9_mixEntries.2.1 27 = .ok (.lload_n 3, 1) := by decide +kernel
theorem dX9_mixEntries_28 : decode mX9_mixEntries.2.1 28 = .ok (.aload_n 0, 1) := by decide +kernel
theorem dX9_mixEntries_29 : decode mX9_mixEntries.2.1 29 = .ok (.iload 5, 2) := by decide +kernel
theorem dX9_mixEntries_31 : decode mX9_mixEntries.2.1 31 = .ok (.iload 6, 2) := by decide +kernel
theorem dX9_mixEntries_33 : decode mX9_mixEntries.2.1 33 = .ok (.invokevirtual 117, 3) := by decide +kernel
theorem dX9_mixEntries_36 : decode mX9_mixEntries.2.1 36 = .ok (.i2l, 1) := by decide +kernel
theorem dX9_mixEntries_37 : decode mX9_mixEntries.2.1 37 = .ok (.invokestatic 226, 3) := by decide +kernel
theorem dX9_mixEntries_40 : decode mX9_mixEntries.2.1 40 = .ok (.lstore_n 3, 1) := by decide +kernel
theorem dX9_mixEntries_41 : decode mX9_mixEntries.2.1 41 = .ok (.iinc 6 1, 3) := by decide +kernel
theorem dX9_mixEntries_44 : decode mX9_mixEntries.2.1 44 = .ok (.goto (-24), 3) := by decide +kernel
theorem dX9_mixEntries_47 : decode mX9_mixEntries.2.1 47 = .ok (.aload_n 0, 1) := by decide +kernel
theorem dX9_mixEntries_48 : decode mX9_mixEntries.2.1 48 = .ok (.getfield 33, 3) := by decide +kernel
theorem dX9_mixEntries_51 : decode mX9_mixEntries.2.1 51 = .ok (.getfield 121, 3) := by decide +kernel
theorem dX9_mixEntries_54 : decode mX9_mixEntries.2.1 54 = .ok (.iload 5, 2) := by decide +kernel
theorem dX9_mixEntries_56 : decode mX9_mixEntries.2.1 56 = .ok (.aaload, 1) := by decide +kernel
theorem dX9_mixEntries_57 : decode mX9_mixEntries.2.1 57 = .ok (.astore 6, 2) := by decide +kernel
theorem dX9_mixEntries_59 : decode mX9_mixEntries.2.1 59 = .ok (.iconst 0, 1) := by decide +kernel
theorem dX9_mixEntries_60 : decode mX9_mixEntries.2.1 60 = .ok (.istore 7, 2) := by decide +kernel
theorem dX9_mixEntries_62 : decode mX9_mixEntries.2.1 62 = .ok (.iload 7, 2) := by decide +kernel
theorem dX9_mixEntries_64 : decode mX9_mixEntries.2.1 64 = .ok (.aload 6, 2) := by decide +kernel
theorem dX9_mixEntries_66 : decode mX9_mixEntries.2.1 66 = .ok (.getfield 125, 3) := by decide +kernel
theorem dX9_mixEntries_69 : decode mX9_mixEntries.2.1 69 = .ok (.if_icmp .ge 23, 3) := by decide +kernel
theorem dX9_mixEntries_72 : decode mX9_mixEntries.2.1 72 = .ok (.lload_n 3, 1) := by decide +kernel
theorem dX9_mixEntries_73 : decode mX9_mixEntries.2.1 73 = .ok (.aload 6, 2) := by decide +kernel
theorem dX9_mixEntries_75 : decode mX9_mixEntries.2.1 75 = .ok (.getfield 130, 3) := by decide +kernel
theorem dX9_mixEntries_78 : decode mX9_mixEntries.2.1 78 = .ok (.iload 7, 2) := by decide +kernel
theorem dX9_mixEntries_80 : decode mX9_mixEntries.2.1 80 = .ok (.iaload, 1) := by decide +kernel
theorem dX9_mixEntries_81 : decode mX9_mixEntries.2.1 81 = .ok (.i2l, 1) := by decide +kernel
theorem dX9_mixEntries_82 : decode mX9_mixEntries.2.1 82 = .ok (.invokestatic 226, 3) := by decide +kernel
theorem dX9_mixEntries_85 : decode mX9_mixEntries.2.1 85 = .ok (.lstore_n 3, 1) := by decide +kernel
theorem dX9_mixEntries_86 : decode mX9_mixEntries.2.1 86 = .ok (.iinc 7 1, 3) := by decide +kernel
theorem dX9_mixEntries_89 : decode mX9_mixEntries.2.1 89 = .ok (.goto (-27), 3) := by decide +kernel
theorem dX9_mixEntries_92 : decode mX9_mixEntries.2.1 92 = .ok (.lload_n 3, 1) := by decide +kernel
theorem dX9_mixEntries_93 : decode mX9_mixEntries.2.1 93 = .ok (.aload_n 0, 1) := by decide +kernel
theorem dX9_mixEntries_94 : decode mX9_mixEntries.2.1 94 = .ok (.getfield 40, 3) := by decide +kernel
theorem dX9_mixEntries_97 : decode mX9_mixEntries.2.1 97 = .ok (.iload 5, 2) := by decide +kernel
theorem dX9_mixEntries_99 : decode mX9_mixEntries.2.1 99 = .ok (.invokevirtual 161, 3) := by decide +kernel
theorem dX9_mixEntries_102 : decode mX9_mixEntries.2.1 102 = .ok (.i2l, 1) := by decide +kernel
theorem dX9_mixEntries_103 : decode mX9_mixEntries.2.1 103 = .ok (.invokestatic 226, 3) := by decide +kernel
theorem dX9_mixEntries_106 : decode mX9_mixEntries.2.1 106 = .ok (.lstore_n 3, 1) := by decide +kernel
theorem dX9_mixEntries_107 : decode mX9_mixEntries.2.1 107 = .ok (.lload_n 3, 1) := by decide +kernel
theorem dX9_mixEntries_108 : decode mX9_mixEntries.2.1 108 = .ok (.aload_n 0, 1) := by decide +kernel
theorem dX9_mixEntries_109 : decode mX9_mixEntries.2.1 109 = .ok (.getfield 40, 3) := by decide +kernel
theorem dX9_mixEntries_112 : decode mX9_mixEntries.2.1 112 = .ok (.iload 5, 2) := by decide +kernel
theorem dX9_mixEntries_114 : decode mX9_mixEntries.2.1 114 = .ok (.invokevirtual 165, 3) := by decide +kernel
theorem dX9_mixEntries_117 : decode mX9_mixEntries.2.1 117 = .ok (.i2l, 1) := by decide +kernel
theorem dX9_mixEntries_118 : decode mX9_mixEntries.2.1 118 = .ok (.invokestatic 226, 3) := by decide +kernel
theorem dX9_mixEntries_121 : decode mX9_mixEntries.2.1 121 = .ok (.lstore_n 3, 1) := by decide +kernel
theorem dX9_mixEntries_122 : decode mX9_mixEntries.2.1 122 = .ok (.iinc 5 1, 3) := by decide +kernel
theorem dX9_mixEntries_125 : decode mX9_mixEntries.2.1 125 = .ok (.goto (-120), 3) := by decide +kernel
theorem dX9_mixEntries_128 : decode mX9_mixEntries.2.1 128 = .ok (.lload_n 3, 1) := by decide +kernel
theorem dX9_mixEntries_129 : decode mX9_mixEntries.2.1 129 = .ok (.lreturn, 1) := by decide +kernel
theorem dX9_mixTwos_0 : decode mX9_mixTwos.2.1 0 = .ok (.lload_n 1, 1) := by decide +kernel
theorem dX9_mixTwos_1 : decode mX9_mixTwos.2.1 1 = .ok (.lstore_n 3, 1) := by decide +kernel
theorem dX9_mixTwos_2 : decode mX9_mixTwos.2.1 2 = .ok (.iconst 0, 1) := by decide +kernel
theorem dX9_mixTwos_3 : decode mX9_mixTwos.2.1 3 = .ok (.istore 5, 2) := by decide +kernel
theorem dX9_mixTwos_5 : decode mX9_mixTwos.2.1 5 = .ok (.iload 5, 2) := by decide +kernel
theorem dX9_mixTwos_7 : decode mX9_mixTwos.2.1 7 = .ok (.aload_n 0, 1) := by decide +kernel
theorem dX9_mixTwos_8 : decode mX9_mixTwos.2.1 8 = .ok (.getfield 33, 3) := by decide +kernel
theorem dX9_mixTwos_11 : decode mX9_mixTwos.2.1 11 = .ok (.getfield 142, 3) := by decide +kernel
theorem dX9_mixTwos_14 : decode mX9_mixTwos.2.1 14 = .ok (.if_icmp .ge 64, 3) := by decide +kernel
theorem dX9_mixTwos_17 : decode mX9_mixTwos.2.1 17 = .ok (.iload 5, 2) := by decide +kernel
theorem dX9_mixTwos_19 : decode mX9_mixTwos.2.1 19 = .ok (.iconst 1, 1) := by decide +kernel
theorem dX9_mixTwos_20 : decode mX9_mixTwos.2.1 20 = .ok (.iadd, 1) := by decide +kernel
theorem dX9_mixTwos_21 : decode mX9_mixTwos.2.1 21 = .ok (.istore 6, 2) := by decide +kernel
theorem dX9_mixTwos_23 : decode mX9_mixTwos.2.1 23 = .ok (.iload 6, 2) := by decide +kernel
theorem dX9_mixTwos_25 : decode mX9_mixTwos.2.1 25 = .ok (.aload_n 0, 1) := by decide +kernel
theorem dX9_mixTwos_26 : decode mX9_mixTwos.2.1 26 = .ok (.getfield 33, 3) := by decide +kernel
theorem dX9_mixTwos_29 : decode mX9_mixTwos.2.1 29 = .ok (.getfield 142, 3) := by decide +kernel
theorem dX9_mixTwos_32 : decode mX9_mixTwos.2.1 32 = .ok (.if_icmp .ge 40, 3) := by decide +kernel
theorem dX9_mixTwos_35 : decode mX9_mixTwos.2.1 35 = .ok (.iconst 0, 1) := by decide +kernel
theorem dX9_mixTwos_36 : decode mX9_mixTwos.2.1 36 = .ok (.istore 7, 2) := by decide +kernel
theorem dX9_mixTwos_38 : decode mX9_mixTwos.2.1 38 = .ok (.iload 7, 2) := by decide +kernel
theorem dX9_mixTwos_40 : decode mX9_mixTwos.2.1 40 = .ok (.iconst 4, 1) := by decide +kernel
theorem dX9_mixTwos_41 : decode mX9_mixTwos.2.1 41 = .ok (.if_icmp .gt 25, 3) := by decide +kernel
theorem dX9_mixTwos_44 : decode mX9_mixTwos.2.1 44 = .ok (.lload_n 3, 1) := by decide +kernel
theorem dX9_mixTwos_45 : decode mX9_mixTwos.2.1 45 = .ok (.aload_n 0, 1) := by decide +kernel
theorem dX9_mixTwos_46 : decode mX9_mixTwos.2.1 46 = .ok (.iload 5, 2) := by decide +kernel
theorem dX9_mixTwos_48 : decode mX9_mixTwos.2.1 48 = .ok (.iload 6, 2) := by decide +kernel
theorem dX9_mixTwos_50 : decode mX9_mixTwos.2.1 50 = .ok (.iload 7, 2) := by decide +kernel
theorem dX9_mixTwos_52 : decode mX9_mixTwos.2.1 52 = .ok (.invokevirtual 157, 3) := by decide +kernel
theorem dX9_mixTwos_55 : decode mX9_mixTwos.2.1 55 = .ok (.i2l, 1) := by decide +kernel
theorem dX9_mixTwos_56 : decode mX9_mixTwos.2.1 56 = .ok (.invokestatic 226, 3) := by decide +kernel
theorem dX9_mixTwos_59 : decode mX9_mixTwos.2.1 59 = .ok (.lstore_n 3, 1) := by decide +kernel
theorem dX9_mixTwos_60 : decode mX9_mixTwos.2.1 60 = .ok (.iinc 7 1, 3) := by decide +kernel
theorem dX9_mixTwos_63 : decode mX9_mixTwos.2.1 63 = .ok (.goto (-25), 3) := by decide +kernel
theorem dX9_mixTwos_66 : decode mX9_mixTwos.2.1 66 = .ok (.iinc 6 1, 3) := by decide +kernel
theorem dX9_mixTwos_69 : decode mX9_mixTwos.2.1 69 = .ok (.goto (-46), 3) := by decide +kernel
theorem dX9_mixTwos_72 : decode mX9_mixTwos.2.1 72 = .ok (.iinc 5 1, 3) := by decide +kernel
theorem dX9_mixTwos_75 : decode mX9_mixTwos.2.1 75 = .ok (.goto (-70), 3) := by decide +kernel
theorem dX9_mixTwos_78 : decode mX9_mixTwos.2.1 78 = .ok (.lload_n 3, 1) := by decide +kernel
theorem dX9_mixTwos_79 : decode mX9_mixTwos.2.1 79 = .ok (.lreturn, 1) := by decide +kernel
theorem dX9_mixLives_0 : decode mX9_mixLives.2.1 0 = .ok (.lload_n 1, 1) := by decide +kernel
theorem dX9_mixLives_1 : decode mX9_mixLives.2.1 1 = .ok (.lstore_n 3, 1) := by decide +kernel
theorem dX9_mixLives_2 : decode mX9_mixLives.2.1 2 = .ok (.iconst 0, 1) := by decide +kernel
theorem dX9_mixLives_3 : decode mX9_mixLives.2.1 3 = .ok (.istore 5, 2) := by decide +kernel
theorem dX9_mixLives_5 : decode mX9_mixLives.2.1 5 = .ok (.iload 5, 2) := by decide +kernel
theorem dX9_mixLives_7 : decode mX9_mixLives.2.1 7 = .ok (.iconst 5, 1) := by decide +kernel
theorem dX9_mixLives_8 : decode mX9_mixLives.2.1 8 = .ok (.if_icmp .gt 21, 3) := by decide +kernel
theorem dX9_mixLives_11 : decode mX9_mixLives.2.1 11 = .ok (.lload_n 3, 1) := by decide +kernel
theorem dX9_mixLives_12 : decode mX9_mixLives.2.1 12 = .ok (.aload_n 0, 1) := by decide +kernel
theorem dX9_mixLives_13 : decode mX9_mixLives.2.1 13 = .ok (.iload 5, 2) := by decide +kernel
theorem dX9_mixLives_15 : decode mX9_mixLives.2.1 15 = .ok (.invokevirtual 168, 3) := by decide +kernel
theorem dX9_mixLives_18 : decode mX9_mixLives.2.1 18 = .ok (.i2l, 1) := by decide +kernel
theorem dX9_mixLives_19 : decode mX9_mixLives.2.1 19 = .ok (.invokestatic 226, 3) := by decide +kernel
theorem dX9_mixLives_22 : decode mX9_mixLives.2.1 22 = .ok (.lstore_n 3, 1) := by decide +kernel
theorem dX9_mixLives_23 : decode mX9_mixLives.2.1 23 = .ok (.iinc 5 1, 3) := by decide +kernel
theorem dX9_mixLives_26 : decode mX9_mixLives.2.1 26 = .ok (.goto (-21), 3) := by decide +kernel
theorem dX9_mixLives_29 : decode mX9_mixLives.2.1 29 = .ok (.iconst 0, 1) := by decide +kernel
theorem dX9_mixLives_30 : decode mX9_mixLives.2.1 30 = .ok (.istore 5, 2) := by decide +kernel
theorem dX9_mixLives_32 : decode mX9_mixLives.2.1 32 = .ok (.iload 5, 2) := by decide +kernel
theorem dX9_mixLives_34 : decode mX9_mixLives.2.1 34 = .ok (.aload_n 0, 1) := by decide +kernel
theorem dX9_mixLives_35 : decode mX9_mixLives.2.1 35 = .ok (.getfield 54, 3) := by decide +kernel
theorem dX9_mixLives_38 : decode mX9_mixLives.2.1 38 = .ok (.getfield 278, 3) := by decide +kernel
theorem dX9_mixLives_41 : decode mX9_mixLives.2.1 41 = .ok (.if_icmp .ge 87, 3) := by decide +kernel
theorem dX9_mixLives_44 : decode mX9_mixLives.2.1 44 = .ok (.aload_n 0, 1) := by decide +kernel
theorem dX9_mixLives_45 : decode mX9_mixLives.2.1 45 = .ok (.getfield 54, 3) := by decide +kernel
theorem dX9_mixLives_48 : decode mX9_mixLives.2.1 48 = .ok (.getfield 172, 3) := by decide +kernel
theorem dX9_mixLives_51 : decode mX9_mixLives.2.1 51 = .ok (.iload 5, 2) := by decide +kernel
theorem dX9_mixLives_53 : decode mX9_mixLives.2.1 53 = .ok (.aaload, 1) := by decide +kernel
theorem dX9_mixLives_54 : decode mX9_mixLives.2.1 54 = .ok (.astore 6, 2) := by decide +kernel
theorem dX9_mixLives_56 : decode mX9_mixLives.2.1 56 = .ok (.iconst 0, 1) := by decide +kernel
theorem dX9_mixLives_57 : decode mX9_mixLives.2.1 57 = .ok (.istore 7, 2) := by decide +kernel
theorem dX9_mixLives_59 : decode mX9_mixLives.2.1 59 = .ok (.iload 7, 2) := by decide +kernel
theorem dX9_mixLives_61 : decode mX9_mixLives.2.1 61 = .ok (.bipush 7, 2) := by decide +kernel
theorem dX9_mixLives_63 : decode mX9_mixLives.2.1 63 = .ok (.if_icmp .gt 22, 3) := by decide +kernel
theorem dX9_mixLives_66 : decode mX9_mixLives.2.1 66 = .ok (.lload_n 3, 1) := by decide +kernel
theorem dX9_mixLives_67 : decode mX9_mixLives.2.1 67 = .ok (.aload 6, 2) := by decide +kernel
theorem dX9_mixLives_69 : decode mX9_mixLives.2.1 69 = .ok (.iload 7, 2) := by decide +kernel
theorem dX9_mixLives_71 : decode mX9_mixLives.2.1 71 = .ok (.invokestatic 176, 3) := by decide +kernel
theorem dX9_mixLives_74 : decode mX9_mixLives.2.1 74 = .ok (.i2l, 1) := by decide +kernel
theorem dX9_mixLives_75 : decode mX9_mixLives.2.1 75 = .ok (.invokestatic 226, 3) := by decide +kernel
theorem dX9_mixLives_78 : decode mX9_mixLives.2.1 78 = .ok (.lstore_n 3, 1) := by decide +kernel
theorem dX9_mixLives_79 : decode mX9_mixLives.2.1 79 = .ok (.iinc 7 1, 3) := by decide +kernel
theorem dX9_mixLives_82 : decode mX9_mixLives.2.1 82 = .ok (.goto (-23), 3) := by decide +kernel
theorem dX9_mixLives_85 : decode mX9_mixLives.2.1 85 = .ok (.aload 6, 2) := by decide +kernel
theorem dX9_mixLives_87 : decode mX9_mixLives.2.1 87 = .ok (.getfield 188, 3) := by decide +kernel
theorem dX9_mixLives_90 : decode mX9_mixLives.2.1 90 = .ok (.istore 7, 2) := by decide +kernel
theorem dX9_mixLives_92 : decode mX9_mixLives.2.1 92 = .ok (.iload 7, 2) := by decide +kernel
theorem dX9_mixLives_94 : decode mX9_mixLives.2.1 94 = .ok (.aload 6, 2) := by decide +kernel
theorem dX9_mixLives_96 : decode mX9_mixLives.2.1 96 = .ok (.getfield 306, 3) := by decide +kernel
theorem dX9_mixLives_99 : decode mX9_mixLives.2.1 99 = .ok (.if_icmp .ge 23, 3) := by decide +kernel
theorem dX9_mixLives_102 : decode mX9_mixLives.2.1 102 = .ok (.lload_n 3, 1) := by decide +kernel
theorem dX9_mixLives_103 : decode mX9_mixLives.2.1 103 = .ok (.aload 6, 2) := by decide +kernel
theorem dX9_mixLives_105 : decode mX9_mixLives.2.1 105 = .ok (.getfield 185, 3) := by decide +kernel
theorem dX9_mixLives_108 : decode mX9_mixLives.2.1 108 = .ok (.iload 7, 2) := by decide +kernel
theorem dX9_mixLives_110 : decode mX9_mixLives.2.1 110 = .ok (.iaload, 1) := by decide +kernel
theorem dX9_mixLives_111 : decode mX9_mixLives.2.1 111 = .ok (.i2l, 1) := by decide +kernel
theorem dX9_mixLives_112 : decode mX9_mixLives.2.1 112 = .ok (.invokestatic 226, 3) := by decide +kernel
theorem dX9_mixLives_115 : decode mX9_mixLives.2.1 115 = .ok (.lstore_n 3, 1) := by decide +kernel
theorem dX9_mixLives_116 : decode mX9_mixLives.2.1 116 = .ok (.iinc 7 1, 3) := by decide +kernel
theorem dX9_mixLives_119 : decode mX9_mixLives.2.1 119 = .ok (.goto (-27), 3) := by decide +kernel
theorem dX9_mixLives_122 : decode mX9_mixLives.2.1 122 = .ok (.iinc 5 1, 3) := by decide +kernel
theorem dX9_mixLives_125 : decode mX9_mixLives.2.1 125 = .ok (.goto (-93), 3) := by decide +kernel
theorem dX9_mixLives_128 : decode mX9_mixLives.2.1 128 = .ok (.lload_n 3, 1) := by decide +kernel
theorem dX9_mixLives_129 : decode mX9_mixLives.2.1 129 = .ok (.lreturn, 1) := by decide +kernel
theorem dX10_init_0 : decode mX10_init.2.1 0 = .ok (.aload_n 0, 1) := by decide +kernel
theorem dX10_init_1 : decode mX10_init.2.1 1 = .ok (.invokespecial 1, 3) := by decide +kernel
theorem dX10_init_4 : decode mX10_init.2.1 4 = .ok (.aload_n 0, 1) := by decide +kernel
theorem dX10_init_5 : decode mX10_init.2.1 5 = .ok (.bipush 60, 2) := by decide +kernel
theorem dX10_init_7 : decode mX10_init.2.1 7 = .ok (.newarray .int, 2) := by decide +kernel
theorem dX10_init_9 : decode mX10_init.2.1 9 = .ok (.putfield 7, 3) := by decide +kernel
theorem dX10_init_12 : decode mX10_init.2.1 12 = .ok (.aload_n 0, 1) := by decide +kernel
theorem dX10_init_13 : decode mX10_init.2.1 13 = .ok (.bipush 18, 2) := by decide +kernel
theorem dX10_init_15 : decode mX10_init.2.1 15 = .ok (.newarray .int, 2) := by decide +kernel
theorem dX10_init_17 : decode mX10_init.2.1 17 = .ok (.putfield 13, 3) := by decide +kernel
theorem dX10_init_20 : decode mX10_init.2.1 20 = .ok (.aload_n 0, 1) := by decide +kernel
theorem dX10_init_21 : decode mX10_init.2.1 21 = .ok (.bipush 18, 2) := by decide +kernel
theorem dX10_init_23 : decode mX10_init.2.1 23 = .ok (.newarray .int, 2) := by decide +kernel
theorem dX10_init_25 : decode mX10_init.2.1 25 = .ok (.putfield 16, 3) := by decide +kernel
theorem dX10_init_28 : decode mX10_init.2.1 28 = .ok (.aload_n 0, 1) := by decide +kernel
theorem dX10_init_29 : decode mX10_init.2.1 29 = .ok (.bipush 18, 2) := by decide +kernel
theorem dX10_init_31 : decode mX10_init.2.1 31 = .ok (.newarray .int, 2) := by decide +kernel
theorem dX10_init_33 : decode mX10_init.2.1 33 = .ok (.putfield 19, 3) := by decide +kernel
theorem dX10_init_36 : decode mX10_init.2.1 36 = .ok (.aload_n 0, 1) := by decide +kernel
theorem dX10_init_37 : decode mX10_init.2.1 37 = .ok (.bipush 18, 2) := by decide +kernel
theorem dX10_init_39 : decode mX10_init.2.1 39 = .ok (.newarray .int, 2) := by decide +kernel
theorem dX10_init_41 : decode mX10_init.2.1 41 = .ok (.putfield 22, 3) := by decide +kernel
theorem dX10_init_44 : decode mX10_init.2.1 44 = .ok (.aload_n 0, 1) := by decide +kernel
theorem dX10_init_45 : decode mX10_init.2.1 45 = .ok (.sipush 144, 3) := by decide +kernel
theorem dX10_init_48 : decode mX10_init.2.1 48 = .ok (.newarray .int, 2) := by decide +kernel
theorem dX10_init_50 : decode mX10_init.2.1 50 = .ok (.putfield 25, 3) := by decide +kernel
theorem dX10_init_53 : decode mX10_init.2.1 53 = .ok (.aload_n 0, 1) := by decide +kernel
theorem dX10_init_54 : decode mX10_init.2.1 54 = .ok (.bipush 18, 2) := by decide +kernel
theorem dX10_init_56 : decode mX10_init.2.1 56 = .ok (.newarray .int, 2) := by decide +kernel
theorem dX10_init_58 : decode mX10_init.2.1 58 = .ok (.putfield 28, 3) := by decide +kernel
theorem dX10_init_61 : decode mX10_init.2.1 61 = .ok (.aload_n 0, 1) := by decide +kernel
theorem dX10_init_62 : decode mX10_init.2.1 62 = .ok (.iconst 3, 1) := by decide +kernel
theorem dX10_init_63 : decode mX10_init.2.1 63 = .ok (.newarray .int, 2) := by decide +kernel
theorem dX10_init_65 : decode mX10_init.2.1 65 = .ok (.putfield 31, 3) := by decide +kernel
theorem dX10_init_68 : decode mX10_init.2.1 68 = .ok (.aload_n 0, 1) := by decide +kernel
theorem dX10_init_69 : decode mX10_init.2.1 69 = .ok (.bipush 18, 2) := by decide +kernel
theorem dX10_init_71 : decode mX10_init.2.1 71 = .ok (.newarray .int, 2) := by decide +kernel
theorem dX10_init_73 : decode mX10_init.2.1 73 = .ok (.putfield 34, 3) := by decide +kernel
theorem dX10_init_76 : decode mX10_init.2.1 76 = .ok (.aload_n 0, 1) := by decide +kernel
theorem dX10_init_77 : decode mX10_init.2.1 77 = .ok (.bipush 18, 2) := by decide +kernel
theorem dX10_init_79 : decode mX10_init.2.1 79 = .ok (.newarray .int, 2) := by decide +kernel
theorem dX10_init_81 : decode mX10_init.2.1 81 = .ok (.putfield 37, 3) := by decide +kernel
theorem dX10_init_84 : decode mX10_init.2.1 84 = .ok (.aload_n 0, 1) := by decide +kernel
theorem dX10_init_85 : decode mX10_init.2.1 85 = .ok (.bipush 18, 2) := by decide +kernel
theorem dX10_init_87 : decode mX10_init.2.1 87 = .ok (.newarray .int, 2) := by decide +kernel
theorem dX10_init_89 : decode mX10_init.2.1 89 = .ok (.putfield 40, 3) := by decide +kernel
theorem dX10_init_92 : decode mX10_init.2.1 92 = .ok (.aload_n 0, 1) := by decide +kernel
theorem dX10_init_93 : decode mX10_init.2.1 93 = .ok (.bipush 18, 2) := by decide +kernel
theorem dX10_init_95 : decode mX10_init.2.1 95 = .ok (.newarray .int, 2) := by decide +kernel
theorem dX10_init_97 : decode mX10_init.2.1 97 = .ok (.putfield 43, 3) := by decide +kernel
theorem dX10_init_100 : decode mX10_init.2.1 100 = .ok (.aload_n 0, 1) := by decide +kernel
theorem dX10_init_101 : decode mX10_init.2.1 101 = .ok (.sipush 144, 3) := by decide +kernel
theorem dX10_init_104 : decode mX10_init.2.1 104 = .ok (.newarray .int, 2) := by decide +kernel
theorem dX10_init_106 : decode mX10_init.2.1 106 = .ok (.putfield 46, 3) := by decide +kernel
theorem dX10_init_109 : decode mX10_init.2.1 109 = .ok (.aload_n 0, 1) := by decide +kernel
theorem dX10_init_110 : decode mX10_init.2.1 110 = .ok (.bipush 81, 2) := by decide +kernel
theorem dX10_init_112 : decode mX10_init.2.1 112 = .ok (.newarray .int, 2) := by decide +kernel
theorem dX10_init_114 : decode mX10_init.2.1 114 = .ok (.putfield 49, 3) := by decide +kernel
theorem dX10_init_117 : decode mX10_init.2.1 117 = .ok (.aload_n 0, 1) := by decide +kernel
theorem dX10_init_118 : decode mX10_init.2.1 118 = .ok (.bipush 7, 2) := by decide +kernel
theorem dX10_init_120 : decode mX10_init.2.1 120 = .ok (.newarray .int, 2) := by decide +kernel
theorem dX10_init_122 : decode mX10_init.2.1 122 = .ok (.putfield 52, 3) := by decide +kernel
theorem dX10_init_125 : decode mX10_init.2.1 125 = .ok (.aload_n 0, 1) := by decide +kernel
theorem dX10_init_126 : decode mX10_init.2.1 126 = .ok (.bipush 7, 2) := by decide +kernel
theorem dX10_init_128 : decode mX10_init.2.1 128 = .ok (.newarray .int, 2) := by decide +kernel
theorem dX10_init_130 : decode mX10_init.2.1 130 = .ok (.putfield 55, 3) := by decide +kernel
theorem dX10_init_133 : decode mX10_init.2.1 133 = .ok (.aload_n 0, 1) := by decide +kernel
theorem dX10_init_134 : decode mX10_init.2.1 134 = .ok (.sipush 1024, 3) := by decide +kernel
theorem dX10_init_137 : decode mX10_init.2.1 137 = .ok (.newarray .int, 2) := by decide +kernel
theorem dX10_init_139 : decode mX10_init.2.1 139 = .ok (.putfield 58, 3) := by decide +kernel
theorem dX10_init_142 : decode mX10_init.2.1 142 = .ok (.aload_n 0, 1) := by decide +kernel
theorem dX10_init_143 : decode mX10_init.2.1 143 = .ok (.bipush 18, 2) := by decide +kernel
theorem dX10_init_145 : decode mX10_init.2.1 145 = .ok (.newarray .int, 2) := by decide +kernel
theorem dX10_init_147 : decode mX10_init.2.1 147 = .ok (.putfield 61, 3) := by decide +kernel
theorem dX10_init_150 : decode mX10_init.2.1 150 = .ok (.aload_n 0, 1) := by decide +kernel
theorem dX10_init_151 : decode mX10_init.2.1 151 = .ok (.bipush 18, 2) := by decide +kernel
theorem dX10_init_153 : decode mX10_init.2.1 153 = .ok (.newarray .int, 2) := by decide +kernel
theorem dX10_init_155 : decode mX10_init.2.1 155 = .ok (.putfield 64, 3) := by decide +kernel
theorem dX10_init_158 : decode mX10_init.2.1 158 = .ok (.aload_n 0, 1) := by decide +kernel
theorem dX10_init_159 : decode mX10_init.2.1 159 = .ok (.bipush 18, 2) := by decide +kernel
theorem dX10_init_161 : decode mX10_init.2.1 161 = .ok (.newarray .int, 2) := by decide +kernel
theorem dX10_init_163 : decode mX10_init.2.1 163 = .ok (.putfield 67, 3) := by decide +kernel
theorem dX10_init_166 : decode mX10_init.2.1 166 = .ok (.aload_n 0, 1) := by decide +kernel
theorem dX10_init_167 : decode mX10_init.2.1 167 = .ok (.bipush 18, 2) := by decide +kernel
theorem dX10_init_169 : decode mX10_init.2.1 169 = .ok (.newarray .int, 2) := by decide +kernel
theorem dX10_init_171 : decode mX10_init.2.1 171 = .ok (.putfield 70, 3) := by decide +kernel
theorem dX10_init_174 : decode mX10_init.2.1 174 = .ok (.aload_n 0, 1) := by decide +kernel
theorem dX10_init_175 : decode mX10_init.2.1 175 = .ok (.bipush 18, 2) := by decide +kernel
theorem dX10_init_177 : decode mX10_init.2.1 177 = .ok (.newarray .int, 2) := by decide +kernel
theorem dX10_init_179 : decode mX10_init.2.1 179 = .ok (.putfield 73, 3) := by decide +kernel
theorem dX10_init_182 : decode mX10_init.2.1 182 = .ok (.aload_n 0, 1) := by decide +kernel
theorem dX10_init_183 : decode mX10_init.2.1 183 = .ok (.getfield 31, 3) := by decide +kernel
theorem dX10_init_186 : decode mX10_init.2.1 186 = .ok (.iconst 0, 1) := by decide +kernel
theorem dX10_init_187 : decode mX10_init.2.1 187 = .ok (.sipush 600, 3) := by decide +kernel
theorem dX10_init_190 : decode mX10_init.2.1 190 = .ok (.iastore, 1) := by decide +kernel
theorem dX10_init_191 : decode mX10_init.2.1 191 = .ok (.aload_n 0, 1) := by decide +kernel
theorem dX10_init_192 : decode mX10_init.2.1 192 = .ok (.getfield 31, 3) := by decide +kernel
theorem dX10_init_195 : decode mX10_init.2.1 195 = .ok (.iconst 1, 1) := by decide +kernel
theorem dX10_init_196 : decode mX10_init.2.1 196 = .ok (.iconst 1, 1) := by decide +kernel
theorem dX10_init_197 : decode mX10_init.2.1 197 = .ok (.iastore, 1) := by decide +kernel
theorem dX10_init_198 : decode mX10_init.2.1 198 = .ok (.aload_n 0, 1) := by decide +kernel
theorem dX10_init_199 : decode mX10_init.2.1 199 = .ok (.getfield 31, 3) := by decide +kernel
theorem dX10_init_202 : decode mX10_init.2.1 202 = .ok (.iconst 2, 1) := by decide +kernel
theorem dX10_init_203 : decode mX10_init.2.1 203 = .ok (.bipush 40, 2) := by decide +kernel
theorem dX10_init_205 : decode mX10_init.2.1 205 = .ok (.iastore, 1) := by decide +kernel
theorem dX10_init_206 : decode mX10_init.2.1 206 = .ok (.return_, 1) := by decide +kernel
theorem dX10_within_0 : decode mX10_within.2.1 0 = .ok (.iload_n 0, 1) := by decide +kernel
theorem dX10_within_1 : decode mX10_within.2.1 1 = .ok (.iload_n 1, 1) := by decide +kernel
theorem dX10_within_2 : decode mX10_within.2.1 2 = .ok (.if_icmp .lt 12, 3) := by decide +kernel
theorem dX10_within_5 : decode mX10_within.2.1 5 = .ok (.iload_n 0, 1) := by decide +kernel
theorem dX10_within_6 : decode mX10_within.2.1 6 = .ok (.iload_n 2, 1) := by decide +kernel
theorem dX10_within_7 : decode mX10_within.2.1 7 = .ok (.if_icmp .gt 7, 3) := by decide +kernel
theorem dX10_within_10 : decode mX10_within.2.1 10 = .ok (.iconst 1, 1) := by decide +kernel
theorem dX10_within_11 : decode mX10_within.2.1 11 = .ok (.goto 4, 3) := by decide +kernel
theorem dX10_within_14 : decode mX10_within.2.1 14 = .ok (.iconst 0, 1) := by decide +kernel
theorem dX10_within_15 : decode mX10_within.2.1 15 = .ok (.ireturn, 1) := by decide +kernel
theorem dX10_letter_0 : decode mX10_letter.2.1 0 = .ok (.iload_n 1, 1) := by decide +kernel
theorem dX10_letter_1 : decode mX10_letter.2.1 1 = .ok (.bipush 32, 2) := by decide +kernel
theorem dX10_letter_3 : decode mX10_letter.2.1 3 = .ok (.bipush 126, 2) := by decide +kernel
theorem dX10_letter_5 : decode mX10_letter.2.1 5 = .ok (.invokestatic 76, 3) := by decide +kernel
theorem dX10_letter_8 : decode mX10_letter.2.1 8 = .ok (.ifCond .ne 6, 3) := by decide +kernel
theorem dX10_letter_11 : decode mX10_letter.2.1 11 = .ok (.bipush (-102), 2) := by decide +kernel
theorem dX10_letter_13 : decode mX10_letter.2.1 13 = .ok (.ireturn, 1) := by decide +kernel
theorem dX10_letter_14 : decode mX10_letter.2.1 14 = .ok (.aload_n 0, 1) := by decide +kernel
theorem dX10_letter_15 : decode mX10_letter.2.1 15 = .ok (.getfield 80, 3) := by decide +kernel
theorem dX10_letter_18 : decode mX10_letter.2.1 18 = .ok (.bipush 60, 2) := by decide +kernel
theorem dX10_letter_20 : decode mX10_letter.2.1 20 = .ok (.if_icmp .ne 6, 3) := by decide +kernel
theorem dX10_letter_23 : decode mX10_letter.2.1 23 = .ok (.bipush (-104), 2) := by decide +kernel
theorem dX10_letter_25 : decode mX10_letter.2.1 25 = .ok (.ireturn, 1) := by decide +kernel
theorem dX10_letter_26 : decode mX10_letter.2.1 26 = .ok (.aload_n 0, 1) := by decide +kernel
theorem dX10_letter_27 : decode mX10_letter.2.1 27 = .ok (.getfield 7, 3) := by decide +kernel
theorem dX10_letter_30 : decode mX10_letter.2.1 30 = .ok (.aload_n 0, 1) := by decide +kernel
theorem dX10_letter_31 : decode mX10_letter.2.1 31 = .ok (.getfield 80, 3) := by decide +kernel
theorem dX10_letter_34 : decode mX10_letter.2.1 34 = .ok (.iload_n 1, 1) := by decide +kernel
theorem dX10_letter_35 : decode mX10_letter.2.1 35 = .ok (.iastore, 1) := by decide +kernel
theorem dX10_letter_36 : decode mX10_letter.2.1 36 = .ok (.aload_n 0, 1) := by decide +kernel
theorem dX10_letter_37 : decode mX10_letter.2.1 37 = .ok (.dup, 1) := by decide +kernel
theorem dX10_letter_38 : decode mX10_letter.2.1 38 = .ok (.getfield 80, 3) := by decide +kernel
theorem dX10_letter_41 : decode mX10_letter.2.1 41 = .ok (.iconst 1, 1) := by decide +kernel
theorem dX10_letter_42 : decode mX10_letter.2.1 42 = .ok (.iadd, 1) := by decide +kernel
theorem dX10_letter_43 : decode mX10_letter.2.1 43 = .ok (.putfield 80, 3) := by decide +kernel
theorem dX10_letter_46 : decode mX10_letter.2.1 46 = .ok (.aload_n 0, 1) := by decide +kernel
theorem dX10_letter_47 : decode mX10_letter.2.1 47 = .ok (.getfield 80, 3) := by decide +kernel
theorem dX10_letter_50 : decode mX10_letter.2.1 50 = .ok (.ireturn, 1) := by decide +kernel
theorem dX10_blank_0 : decode mX10_blank.2.1 0 = .ok (.aload_n 0, 1) := by decide +kernel
theorem dX10_blank_1 : decode mX10_blank.2.1 1 = .ok (.getfield 80, 3) := by decide +kernel
theorem dX10_blank_4 : decode mX10_blank.2.1 4 = .ok (.istore_n 1, 1) := by decide +kernel
theorem dX10_blank_5 : decode mX10_blank.2.1 5 = .ok (.aload_n 0, 1) := by decide +kernel
theorem dX10_blank_6 : decode mX10_blank.2.1 6 = .ok (.iconst 0, 1) := by decide +kernel
theorem dX10_blank_7 : decode mX10_blank.2.1 7 = .ok (.putfield 80, 3) := by decide +kernel
theorem dX10_blank_10 : decode mX10_blank.2.1 10 = .ok (.iload_n 1, 1) := by decide +kernel
theorem dX10_blank_11 : decode mX10_blank.2.1 11 = .ok (.ireturn, 1) := by decide +kernel
theorem dX10_goes_0 : decode mX10_goes.2.1 0 = .ok (.aload_n 0, 1) := by decide +kernel
theorem dX10_goes_1 : decode mX10_goes.2.1 1 = .ok (.iload_n 1, 1) := by decide +kernel
theorem dX10_goes_2 : decode mX10_goes.2.1 2 = .ok (.ifCond .eq 7, 3) := by decide +kernel
theorem dX10_goes_5 : decode mX10_goes.2.1 5 = .ok (.iload_n 2, 1) := by decide +kernel
theorem dX10_goes_6 : decode mX10_goes.2.1 6 = .ok (.goto 7, 3) := by decide +kernel
theorem dX10_goes_9 : decode mX10_goes.2.1 9 = .ok (.aload_n 0, 1) := by decide +kernel
theorem dX10_goes_10 : decode mX10_goes.2.1 10 = .ok (.getfield 84, 3) := by decide +kernel
theorem dX10_goes_13 : decode mX10_goes.2.1 13 = .ok (.putfield 84, 3) := by decide +kernel
theorem dX10_goes_16 : decode mX10_goes.2.1 16 = .ok (.iload_n 1, 1) := by decide +kernel
theorem dX10_goes_17 : decode mX10_goes.2.1 17 = .ok (.ireturn, 1) := by decide +kernel
theorem dX10_takesKind_0 : decode mX10_takesKind.2.1 0 = .ok (.iload_n 1, 1) := by decide +kernel
theorem dX10_takesKind_1 : decode mX10_takesKind.2.1 1 = .ok (.bipush 98, 2) := by decide +kernel
theorem dX10_takesKind_3 : decode mX10_takesKind.2.1 3 = .ok (.if_icmp .eq 15, 3) := by decide +kernel
theorem dX10_takesKind_6 : decode mX10_takesKind.2.1 6 = .ok (.iload_n 1, 1) := by decide +kernel
theorem dX10_takesKind_7 : decode mX10_takesKind.2.1 7 = .ok (.bipush 119, 2) := by decide +kernel
theorem dX10_takesKind_9 : decode mX10_takesKind.2.1 9 = .ok (.if_icmp .eq 9, 3) := by decide +kernel
theorem dX10_takesKind_12 : decode mX10_takesKind.2.1 12 = .ok (.iload_n 1, 1) := by decide +kernel
theorem dX10_takesKind_13 : decode mX10_takesKind.2.1 13 = .ok (.bipush 100, 2) := by decide +kernel
theorem dX10_takesKind_15 : decode mX10_takesKind.2.1 15 = .ok (.if_icmp .ne 7, 3) := by decide +kernel
theorem dX10_takesKind_18 : decode mX10_takesKind.2.1 18 = .ok (.iconst 1, 1) := by decide +kernel
theorem dX10_takesKind_19 : decode mX10_takesKind.2.1 19 = .ok (.goto 4, 3) := by decide +kernel
theorem dX10_takesKind_22 : decode mX10_takesKind.2.1 22 = .ok (.iconst 0, 1) := by decide +kernel
theorem dX10_takesKind_23 : decode mX10_takesKind.2.1 23 = .ok (.istore_n 2, 1) := by decide +kernel
theorem dX10_takesKind_24 : decode mX10_takesKind.2.1 24 = .ok (.iload_n 2, 1) := by decide +kernel
theorem dX10_takesKind_25 : decode mX10_takesKind.2.1 25 = .ok (.ifCond .eq 73, 3) := by decide +kernel
theorem dX10_takesKind_28 : decode mX10_takesKind.2.1 28 = .ok (.aload_n 0, 1) := by decide +kernel
theorem dX10_takesKind_29 : decode mX10_takesKind.2.1 29 = .ok (.getfield 34, 3) := by decide +kernel
theorem dX10_takesKind_32 : decode mX10_takesKind.2.1 32 = .ok (.aload_n 0, 1) := by decide +kernel
theorem dX10_takesKind_33 : decode mX10_takesKind.2.1 33 = .ok (.getfield 87, 3) := by decide +kernel
theorem dX10_takesKind_36 : decode mX10_takesKind.2.1 36 = .ok (.iload_n 1, 1) := by decide +kernel
theorem dX10_takesKind_37 : decode mX10_takesKind.2.1 37 = .ok (.bipush 98, 2) := by decide +kernel
theorem dX10_takesKind_39 : decode mX10_takesKind.2.1 39 = .ok (.if_icmp .ne 7, 3) := by decide +kernel
theorem dX10_takesKind_42 : decode mX10_takesKind.2.1 42 = .ok (.iconst 0, 1) := by decide +kernel
theorem dX10_takesKind_43 : decode mX10_takesKind.2.1 43 = .ok (.goto 14, 3) := by decide +kernel
theorem dX10_takesKind_46 : decode mX10_takesKind.2.1 46 = .ok (.iload_n 1, 1) := by decide +kernel
theorem dX10_takesKind_47 : decode mX10_takesKind.2.1 47 = .ok (.bipush 119, 2) := by decide +kernel
theorem dX10_takesKind_49 : decode mX10_takesKind.2.1 49 = .ok (.if_icmp .ne 7, 3) := by decide +kernel
theorem dX10_takesKind_52 : decode mX10_takesKind.2.1 52 = .ok (.iconst 1, 1) := by decide +kernel
theorem dX10_takesKind_53 : decode mX10_takesKind.2.1 53 = .ok (.goto 4, 3) := by decide +kernel
theorem dX10_takesKind_56 : decode mX10_takesKind.2.1 56 = .ok (.iconst 2, 1) := by decide +kernel
theorem dX10_takesKind_57 : decode mX10_takesKind.2.1 57 = .ok (.iastore, 1) := by decide +kernel
theorem dX10_takesKind_58 : decode mX10_takesKind.2.1 58 = .ok (.aload_n 0, 1) := by decide +kernel
theorem dX10_takesKind_59 : decode mX10_takesKind.2.1 59 = .ok (.getfield 37, 3) := by decide +kernel
theorem dX10_takesKind_62 : decode mX10_takesKind.2.1 62 = .ok (.aload_n 0, 1) := by decide +kernel
theorem dX10_takesKind_63 : decode mX10_takesKind.2.1 63 = .ok (.getfield 87, 3) := by decide +kernel
theorem dX10_takesKind_66 : decode mX10_takesKind.2.1 66 = .ok (.iconst 0, 1) := by decide +kernel
theorem dX10_takesKind_67 : decode mX10_takesKind.2.1 67 = .ok (.iastore, 1) := by decide +kernel
theorem dX10_takesKind_68 : decode mX10_takesKind.2.1 68 = .ok (.aload_n 0, 1) := by decide +kernel
theorem dX10_takesKind_69 : decode mX10_takesKind.2.1 69 = .ok (.getfield 40, 3) := by decide +kernel
theorem dX10_takesKind_72 : decode mX10_takesKind.2.1 72 = .ok (.aload_n 0, 1) := by decide +kernel
theorem dX10_takesKind_73 : decode mX10_takesKind.2.1 73 = .ok (.getfield 87, 3) := by decide +kernel
theorem dX10_takesKind_76 : decode mX10_takesKind.2.1 76 = .ok (.iconst (-1), 1) := by decide +kernel
theorem dX10_takesKind_77 : decode mX10_takesKind.2.1 77 = .ok (.iastore, 1) := by decide +kernel
theorem dX10_takesKind_78 : decode mX10_takesKind.2.1 78 = .ok (.aload_n 0, 1) := by decide +kernel
theorem dX10_takesKind_79 : decode mX10_takesKind.2.1 79 = .ok (.getfield 43, 3) := by decide +kernel
theorem dX10_takesKind_82 : decode mX10_takesKind.2.1 82 = .ok (.aload_n 0, 1) := by decide +kernel
theorem dX10_takesKind_83 : decode mX10_takesKind.2.1 83 = .ok (.getfield 87, 3) := by decide +kernel
theorem dX10_takesKind_86 : decode mX10_takesKind.2.1 86 = .ok (.iconst 0, 1) := by decide +kernel
theorem dX10_takesKind_87 : decode mX10_takesKind.2.1 87 = .ok (.iastore, 1) := by decide +kernel
theorem dX10_takesKind_88 : decode mX10_takesKind.2.1 88 = .ok (.aload_n 0, 1) := by decide +kernel
theorem dX10_takesKind_89 : decode mX10_takesKind.2.1 89 = .ok (.dup, 1) := by decide +kernel
theorem dX10_takesKind_90 : decode mX10_takesKind.2.1 90 = .ok (.getfield 87, 3) := by decide +kernel
theorem dX10_takesKind_93 : decode mX10_takesKind.2.1 93 = .ok (.iconst 1, 1) := by decide +kernel
theorem dX10_takesKind_94 : decode mX10_takesKind.2.1 94 = .ok (.iadd, 1) := by decide +kernel
theorem dX10_takesKind_95 : decode mX10_takesKind.2.1 95 = .ok (.putfield 87, 3) := by decide +kernel
theorem dX10_takesKind_98 : decode mX10_takesKind.2.1 98 = .ok (.aload_n 0, 1) := by decide +kernel
theorem dX10_takesKind_99 : decode mX10_takesKind.2.1 99 = .ok (.iload_n 2, 1) := by decide +kernel
theorem dX10_takesKind_100 : decode mX10_takesKind.2.1 100 = .ok (.iconst 1, 1) := by decide +kernel
theorem dX10_takesKind_101 : decode mX10_takesKind.2.1 101 = .ok (.invokevirtual 90, 3) := by decide +kernel
theorem dX10_takesKind_104 : decode mX10_takesKind.2.1 104 = .ok (.ireturn, 1) := by decide +kernel
theorem dX10_takesName_0 : decode mX10_takesName.2.1 0 = .ok (.iload_n 1, 1) := by decide +kernel
theorem dX10_takesName_1 : decode mX10_takesName.2.1 1 = .ok (.bipush 58, 2) := by decide +kernel
theorem dX10_takesName_3 : decode mX10_takesName.2.1 3 = .ok (.if_icmp .ne 18, 3) := by decide +kernel
theorem dX10_takesName_6 : decode mX10_takesName.2.1 6 = .ok (.aload_n 0, 1) := by decide +kernel
theorem dX10_takesName_7 : decode mX10_takesName.2.1 7 = .ok (.getfield 84, 3) := by decide +kernel
theorem dX10_takesName_10 : decode mX10_takesName.2.1 10 = .ok (.iconst 2, 1) := by decide +kernel
theorem dX10_takesName_11 : decode mX10_takesName.2.1 11 = .ok (.if_icmp .ne 10, 3) := by decide +kernel
theorem dX10_takesName_14 : decode mX10_takesName.2.1 14 = .ok (.aload_n 0, 1) := by decide +kernel
theorem dX10_takesName_15 : decode mX10_takesName.2.1 15 = .ok (.iconst 1, 1) := by decide +kernel
theorem dX10_takesName_16 : decode mX10_takesName.2.1 16 = .ok (.iconst 3, 1) := by decide +kernel
theorem dX10_takesName_17 : decode mX10_takesName.2.1 17 = .ok (.invokevirtual 90, 3) := by decide +kernel
theorem dX10_takesName_20 : decode mX10_takesName.2.1 20 = .ok (.ireturn, 1) := by decide +kernel
theorem dX10_takesName_21 : decode mX10_takesName.2.1 21 = .ok (.iload_n 1, 1) := by decide +kernel
theorem dX10_takesName_22 : decode mX10_takesName.2.1 22 = .ok (.bipush 97, 2) := by decide +kernel
theorem dX10_takesName_24 : decode mX10_takesName.2.1 24 = .ok (.bipush 122, 2) := by decide +kernel
theorem dX10_takesName_26 : decode mX10_takesName.2.1 26 = .ok (.invokestatic 76, 3) := by decide +kernel
theorem dX10_takesName_29 : decode mX10_takesName.2.1 29 = .ok (.ifCond .eq 18, 3) := by decide +kernel
theorem dX10_takesName_32 : decode mX10_takesName.2.1 32 = .ok (.aload_n 0, 1) := by decide +kernel
theorem dX10_takesName_33 : decode mX10_takesName.2.1 33 = .ok (.getfield 43, 3) := by decide +kernel
theorem dX10_takesName_36 : decode mX10_takesName.2.1 36 = .ok (.iload_n 2, 1) := by decide +kernel
theorem dX10_takesName_37 : decode mX10_takesName.2.1 37 = .ok (.iaload, 1) := by decide +kernel
theorem dX10_takesName_38 : decode mX10_takesName.2.1 38 = .ok (.bipush 8, 2) := by decide +kernel
theorem dX10_takesName_40 : decode mX10_takesName.2.1 40 = .ok (.if_icmp .ge 7, 3) := by decide +kernel
theorem dX10_takesName_43 : decode mX10_takesName.2.1 43 = .ok (.iconst 1, 1) := by decide +kernel
theorem dX10_takesName_44 : decode mX10_takesName.2.1 44 = .ok (.goto 4, 3) := by decide +kernel
theorem dX10_takesName_47 : decode mX10_takesName.2.1 47 = .ok (.iconst 0, 1) := by decide +kernel
theorem dX10_takesName_48 : decode mX10_takesName.2.1 48 = .ok (.istore_n 3, 1) := by decide +kernel
theorem dX10_takesName_49 : decode mX10_takesName.2.1 49 = .ok (.iload_n 3, 1) := by decide +kernel
theorem dX10_takesName_50 : decode mX10_takesName.2.1 50 = .ok (.ifCond .eq 30, 3) := by decide +kernel
theorem dX10_takesName_53 : decode mX10_takesName.2.1 53 = .ok (.aload_n 0, 1) := by decide +kernel
theorem dX10_takesName_54 : decode mX10_takesName.2.1 54 = .ok (.getfield 46, 3) := by decide +kernel
theorem dX10_takesName_57 : decode mX10_takesName.2.1 57 = .ok (.bipush 8, 2) := by decide +kernel
theorem dX10_takesName_59 : decode mX10_takesName.2.1 59 = .ok (.iload_n 2, 1) := by decide +kernel
theorem dX10_takesName_60 : decode mX10_takesName.2.1 60 = .ok (.imul, 1) := by decide +kernel
theorem dX10_takesName_61 : decode mX10_takesName.2.1 61 = .ok (.aload_n 0, 1) := by decide +kernel
theorem dX10_takesName_62 : decode mX10_takesName.2.1 62 = .ok (.getfield 43, 3) := by decide +kernel
theorem dX10_takesName_65 : decode mX10_takesName.2.1 65 = .ok (.iload_n 2, 1) := by decide +kernel
theorem dX10_takesName_66 : decode mX10_takesName.2.1 66 = .ok (.iaload, 1) := by decide +kernel
theorem dX10_takesName_67 : decode mX10_takesName.2.1 67 = .ok (.iadd, 1) := by decide +kernel
theorem dX10_takesName_68 : decode mX10_takesName.2.1 68 = .ok (.iload_n 1, 1) := by decide +kernel
theorem dX10_takesName_69 : decode mX10_takesName.2.1 69 = .ok (.iastore, 1) := by decide +kernel
theorem dX10_takesName_70 : decode mX10_takesName.2.1 70 = .ok (.aload_n 0, 1) := by decide +kernel
theorem dX10_takesName_71 : decode mX10_takesName.2.1 71 = .ok (.getfield 43, 3) := by decide +kernel
theorem dX10_takesName_74 : decode mX10_takesName.2.1 74 = .ok (.iload_n 2, 1) := by decide +kernel
theorem dX10_takesName_75 : decode mX10_takesName.2.1 75 = .ok (.dup2, 1) := by decide +kernel
theorem dX10_takesName_76 : decode mX10_takesName.2.1 76 = .ok (.iaload, 1) := by decide +kernel
theorem dX10_takesName_77 : decode mX10_takesName.2.1 77 = .ok (.iconst 1, 1) := by decide +kernel
theorem dX10_takesName_78 : decode mX10_takesName.2.1 78 = .ok (.iadd, 1) := by decide +kernel
theorem dX10_takesName_79 : decode mX10_takesName.2.1 79 = .ok (.iastore, 1) := by decide +kernel
theorem dX10_takesName_80 : decode mX10_takesName.2.1 80 = .ok (.aload_n 0, 1) := by decide +kernel
theorem dX10_takesName_81 : decode mX10_takesName.2.1 81 = .ok (.iload_n 3, 1) := by decide +kernel
theorem dX10_takesName_82 : decode mX10_takesName.2.1 82 = .ok (.iconst 2, 1) := by decide +kernel
theorem dX10_takesName_83 : decode mX10_takesName.2.1 83 = .ok (.invokevirtual 90, 3) := by decide +kernel
theorem dX10_takesName_86 : decode mX10_takesName.2.1 86 = .ok (.ireturn, 1) := by decide +kernel
theorem dX10_takesYear_0 : decode mX10_takesYear.2.1 0 = .ok (.iload_n 1, 1) := by decide +kernel
theorem dX10_takesYear_1 : decode mX10_takesYear.2.1 1 = .ok (.bipush 48, 2) := by decide +kernel
theorem dX10_takesYear_3 : decode mX10_takesYear.2.1 3 = .ok (.isub, 1) := by decide +kernel
theorem dX10_takesYear_4 : decode mX10_takesYear.2.1 4 = .ok (.istore_n 3, 1) := by decide +kernel
theorem dX10_takesYear_5 : decode mX10_takesYear.2.1 5 = .ok (.aload_n 0, 1) := by decide +kernel
theorem dX10_takesYear_6 : decode mX10_takesYear.2.1 6 = .ok (.getfield 84, 3) := by decide +kernel
theorem dX10_takesYear_9 : decode mX10_takesYear.2.1 9 = .ok (.iconst 3, 1) := by decide +kernel
theorem dX10_takesYear_10 : decode mX10_takesYear.2.1 10 = .ok (.if_icmp .ne 16, 3) := by decide +kernel
theorem dX10_takesYear_13 : decode mX10_takesYear.2.1 13 = .ok (.iload_n 3, 1) := by decide +kernel
theorem dX10_takesYear_14 : decode mX10_takesYear.2.1 14 = .ok (.iconst 1, 1) := by decide +kernel
theorem dX10_takesYear_15 : decode mX10_takesYear.2.1 15 = .ok (.if_icmp .ne 7, 3) := by decide +kernel
theorem dX10_takesYear_18 : decode mX10_takesYear.2.1 18 = .ok (.iconst 1, 1) := by decide +kernel
theorem dX10_takesYear_19 : decode mX10_takesYear.2.1 19 = .ok (.goto 33, 3) := by decide +kernel
theorem dX10_takesYear_22 : decode mX10_takesYear.2.1 22 = .ok (.iconst 0, 1) := by decide +kernel
theorem dX10_takesYear_23 : decode mX10_takesYear.2.1 23 = .ok (.goto 29, 3) := by decide +kernel
theorem dX10_takesYear_26 : decode mX10_takesYear.2.1 26 = .ok (.aload_n 0, 1) := by decide +kernel
theorem dX10_takesYear_27 : decode mX10_takesYear.2.1 27 = .ok (.getfield 84, 3) := by decide +kernel
theorem dX10_takesYear_30 : decode mX10_takesYear.2.1 30 = .ok (.iconst 4, 1) := by decide +kernel
theorem dX10_takesYear_31 : decode mX10_takesYear.2.1 31 = .ok (.if_icmp .ne 14, 3) := by decide +kernel
theorem dX10_takesYear_34 : decode mX10_takesYear.2.1 34 = .ok (.iload_n 3, 1) := by decide +kernel
theorem dX10_takesYear_35 : decode mX10_takesYear.2.1 35 = .ok (.bipush 6, 2) := by decide +kernel
theorem dX10_takesYear_37 : decode mX10_takesYear.2.1 37 = .ok (.bipush 8, 2) := by decide +kernel
theorem dX10_takesYear_39 : decode mX10_takesYear.2.1 39 = .ok (.invokestatic 76, 3) := by decide +kernel
theorem dX10_takesYear_42 : decode mX10_takesYear.2.1 42 = .ok (.goto 10, 3) := by decide +kernel
theorem dX10_takesYear_45 : decode mX10_takesYear.2.1 45 = .ok (.iload_n 3, 1) := by decide +kernel
theorem dX10_takesYear_46 : decode mX10_takesYear.2.1 46 = .ok (.iconst 0, 1) := by decide +kernel
theorem dX10_takesYear_47 : decode mX10_takesYear.2.1 47 = .ok (.bipush 9, 2) := by decide +kernel
theorem dX10_takesYear_49 : decode mX10_takesYear.2.1 49 = .ok (.invokestatic 76, 3) := by decide +kernel
theorem dX10_takesYear_52 : decode mX10_takesYear.2.1 52 = .ok (.istore 4, 2) := by decide +kernel
theorem dX10_takesYear_54 : decode mX10_takesYear.2.1 54 = .ok (.aload_n 0, 1) := by decide +kernel
theorem dX10_takesYear_55 : decode mX10_takesYear.2.1 55 = .ok (.getfield 37, 3) := by decide +kernel
theorem dX10_takesYear_58 : decode mX10_takesYear.2.1 58 = .ok (.iload_n 2, 1) := by decide +kernel
theorem dX10_takesYear_59 : decode mX10_takesYear.2.1 59 = .ok (.bipush 10, 2) := by decide +kernel
theorem dX10_takesYear_61 : decode mX10_takesYear.2.1 61 = .ok (.aload_n 0, 1) := by decide +kernel
theorem dX10_takesYear_62 : decode mX10_takesYear.2.1 62 = .ok (.getfield 37, 3) := by decide +kernel
theorem dX10_takesYear_65 : decode mX10_takesYear.2.1 65 = .ok (.iload_n 2, 1) := by decide +kernel
theorem dX10_takesYear_66 : decode mX10_takesYear.2.1 66 = .ok (.iaload, 1) := by decide +kernel
theorem dX10_takesYear_67 : decode mX10_takesYear.2.1 67 = .ok (.imul, 1) := by decide +kernel
theorem dX10_takesYear_68 : decode mX10_takesYear.2.1 68 = .ok (.iload_n 3, 1) := by decide +kernel
theorem dX10_takesYear_69 : decode mX10_takesYear.2.1 69 = .ok (.iadd, 1) := by decide +kernel
theorem dX10_takesYear_70 : decode mX10_takesYear.2.1 70 = .ok (.iastore, 1) := by decide +kernel
theorem dX10_takesYear_71 : decode mX10_takesYear.2.1 71 = .ok (.aload_n 0, 1) := by decide +kernel
theorem dX10_takesYear_72 : decode mX10_takesYear.2.1 72 = .ok (.iload 4, 2) := by decide +kernel
theorem dX10_takesYear_74 : decode mX10_takesYear.2.1 74 = .ok (.aload_n 0, 1) := by decide +kernel
theorem dX10_takesYear_75 : decode mX10_takesYear.2.1 75 = .ok (.getfield 84, 3) := by decide +kernel
theorem dX10_takesYear_78 : decode mX10_takesYear.2.1 78 = .ok (.iconst 1, 1) := by decide +kernel
theorem dX10_takesYear_79 : decode mX10_takesYear.2.1 79 = .ok (.iadd, 1) := by decide +kernel
theorem dX10_takesYear_80 : decode mX10_takesYear.2.1 80 = .ok (.invokevirtual 90, 3) := by decide +kernel
theorem dX10_takesYear_83 : decode mX10_takesYear.2.1 83 = .ok (.ireturn, 1) := by decide +kernel
theorem dX10_takesAge_0 : decode mX10_takesAge.2.1 0 = .ok (.iload_n 1, 1) := by decide +kernel
theorem dX10_takesAge_1 : decode mX10_takesAge.2.1 1 = .ok (.bipush 48, 2) := by decide +kernel
theorem dX10_takesAge_3 : decode mX10_takesAge.2.1 3 = .ok (.isub, 1) := by decide +kernel
theorem dX10_takesAge_4 : decode mX10_takesAge.2.1 4 = .ok (.istore_n 3, 1) := by decide +kernel
theorem dX10_takesAge_5 : decode mX10_takesAge.2.1 5 = .ok (.aload_n 0, 1) := by decide +kernel
theorem dX10_takesAge_6 : decode mX10_takesAge.2.1 6 = .ok (.getfield 84, 3) := by decide +kernel
theorem dX10_takesAge_9 : decode mX10_takesAge.2.1 9 = .ok (.bipush 8, 2) := by decide +kernel
theorem dX10_takesAge_11 : decode mX10_takesAge.2.1 11 = .ok (.if_icmp .ne 69, 3) := by decide +kernel
theorem dX10_takesAge_14 : decode mX10_takesAge.2.1 14 = .ok (.aload_n 0, 1) := by decide +kernel
theorem dX10_takesAge_15 : decode mX10_takesAge.2.1 15 = .ok (.getfield 40, 3) := by decide +kernel
theorem dX10_takesAge_18 : decode mX10_takesAge.2.1 18 = .ok (.iload_n 2, 1) := by decide +kernel
theorem dX10_takesAge_19 : decode mX10_takesAge.2.1 19 = .ok (.iload_n 3, 1) := by decide +kernel
theorem dX10_takesAge_20 : decode mX10_takesAge.2.1 20 = .ok (.iastore, 1) := by decide +kernel
theorem dX10_takesAge_21 : decode mX10_takesAge.2.1 21 = .ok (.aload_n 0, 1) := by decide +kernel
theorem dX10_takesAge_22 : decode mX10_takesAge.2.1 22 = .ok (.getfield 34, 3) := by decide +kernel
theorem dX10_takesAge_25 : decode mX10_takesAge.2.1 25 = .ok (.iload_n 2, 1) := by decide +kernel
theorem dX10_takesAge_26 : decode mX10_takesAge.2.1 26 = .ok (.iaload, 1) := by decide +kernel
theorem dX10_takesAge_27 : decode mX10_takesAge.2.1 27 = .ok (.iconst 1, 1) := by decide +kernel
theorem dX10_takesAge_28 : decode mX10_takesAge.2.1 28 = .ok (.if_icmp .ne 7, 3) := by decide +kernel
theorem dX10_takesAge_31 : decode mX10_takesAge.2.1 31 = .ok (.iconst 1, 1) := by decide +kernel
theorem dX10_takesAge_32 : decode mX10_takesAge.2.1 32 = .ok (.goto 4, 3) := by decide +kernel
theorem dX10_takesAge_35 : decode mX10_takesAge.2.1 35 = .ok (.iconst 0, 1) := by decide +kernel
theorem dX10_takesAge_36 : decode mX10_takesAge.2.1 36 = .ok (.istore 4, 2) := by decide +kernel
theorem dX10_takesAge_38 : decode mX10_takesAge.2.1 38 = .ok (.aload_n 0, 1) := by decide +kernel
theorem dX10_takesAge_39 : decode mX10_takesAge.2.1 39 = .ok (.iload_n 3, 1) := by decide +kernel
theorem dX10_takesAge_40 : decode mX10_takesAge.2.1 40 = .ok (.iload 4, 2) := by decide +kernel
theorem dX10_takesAge_42 : decode mX10_takesAge.2.1 42 = .ok (.ifCond .eq 7, 3) := by decide +kernel
theorem dX10_takesAge_45 : decode mX10_takesAge.2.1 45 = .ok (.iconst 1, 1) := by decide +kernel
theorem dX10_takesAge_46 : decode mX10_takesAge.2.1 46 = .ok (.goto 4, 3) := by decide +kernel
theorem dX10_takesAge_49 : decode mX10_takesAge.2.1 49 = .ok (.iconst 0, 1) := by decide +kernel
theorem dX10_takesAge_50 : decode mX10_takesAge.2.1 50 = .ok (.bipush 9, 2) := by decide +kernel
theorem dX10_takesAge_52 : decode mX10_takesAge.2.1 52 = .ok (.invokestatic 76, 3) := by decide +kernel
theorem dX10_takesAge_55 : decode mX10_takesAge.2.1 55 = .ok (.iload 4, 2) := by decide +kernel
theorem dX10_takesAge_57 : decode mX10_takesAge.2.1 57 = .ok (.ifCond .eq 8, 3) := by decide +kernel
theorem dX10_takesAge_60 : decode mX10_takesAge.2.1 60 = .ok (.bipush 9, 2) := by decide +kernel
theorem dX10_takesAge_62 : decode mX10_takesAge.2.1 62 = .ok (.goto 14, 3) := by decide +kernel
theorem dX10_takesAge_65 : decode mX10_takesAge.2.1 65 = .ok (.iload_n 3, 1) := by decide +kernel
theorem dX10_takesAge_66 : decode mX10_takesAge.2.1 66 = .ok (.ifCond .ne 8, 3) := by decide +kernel
theorem dX10_takesAge_69 : decode mX10_takesAge.2.1 69 = .ok (.bipush 10, 2) := by decide +kernel
theorem dX10_takesAge_71 : decode mX10_takesAge.2.1 71 = .ok (.goto 5, 3) := by decide +kernel
theorem dX10_takesAge_74 : decode mX10_takesAge.2.1 74 = .ok (.bipush 11, 2) := by decide +kernel
theorem dX10_takesAge_76 : decode mX10_takesAge.2.1 76 = .ok (.invokevirtual 90, 3) := by decide +kernel
theorem dX10_takesAge_79 : decode mX10_takesAge.2.1 79 = .ok (.ireturn, 1) := by decide +kernel
theorem dX10_takesAge_80 : decode mX10_takesAge.2.1 80 = .ok (.bipush 10, 2) := by decide +kernel
theorem dX10_takesAge_82 : decode mX10_takesAge.2.1 82 = .ok (.aload_n 0, 1) := by decide +kernel
theorem dX10_takesAge_83 : decode mX10_takesAge.2.1 83 = .ok (.getfield 40, 3) := by decide +kernel
theorem dX10_takesAge_86 : decode mX10_takesAge.2.1 86 = .ok (.iload_n 2, 1) := by decide +kernel
theorem dX10_takesAge_87 : decode mX10_takesAge.2.1 87 = .ok (.iaload, 1) := by decide +kernel
theorem dX10_takesAge_88 : decode mX10_takesAge.2.1 88 = .ok (.imul, 1) := by decide +kernel
theorem dX10_takesAge_89 : decode mX10_takesAge.2.1 89 = .ok (.iload_n 3, 1) := by decide +kernel
theorem dX10_takesAge_90 : decode mX10_takesAge.2.1 90 = .ok (.iadd, 1) := by decide +kernel
theorem dX10_takesAge_91 : decode mX10_takesAge.2.1 91 = .ok (.istore 4, 2) := by decide +kernel
theorem dX10_takesAge_93 : decode mX10_takesAge.2.1 93 = .ok (.iload_n 3, 1) := by decide +kernel
theorem dX10_takesAge_94 : decode mX10_takesAge.2.1 94 = .ok (.iconst 0, 1) := by decide +kernel
theorem dX10_takesAge_95 : decode mX10_takesAge.2.1 95 = .ok (.bipush 9, 2) := by decide +kernel
theorem dX10_takesAge_97 : decode mX10_takesAge.2.1 97 = .ok (.invokestatic 76, 3) := by decide +kernel
theorem dX10_takesAge_100 : decode mX10_takesAge.2.1 100 = .ok (.ifCond .eq 24, 3) := by decide +kernel
theorem dX10_takesAge_103 : decode mX10_takesAge.2.1 103 = .ok (.aload_n 0, 1) := by decide +kernel
theorem dX10_takesAge_104 : decode mX10_takesAge.2.1 104 = .ok (.getfield 34, 3) := by decide +kernel
theorem dX10_takesAge_107 : decode mX10_takesAge.2.1 107 = .ok (.iload_n 2, 1) := by decide +kernel
theorem dX10_takesAge_108 : decode mX10_takesAge.2.1 108 = .ok (.iaload, 1) := by decide +kernel
theorem dX10_takesAge_109 : decode mX10_takesAge.2.1 109 = .ok (.iconst 2, 1) := by decide +kernel
theorem dX10_takesAge_110 : decode mX10_takesAge.2.1 110 = .ok (.if_icmp .eq 10, 3) := by decide +kernel
theorem dX10_takesAge_113 : decode mX10_takesAge.2.1 113 = .ok (.iload 4, 2) := by decide +kernel
theorem dX10_takesAge_115 : decode mX10_takesAge.2.1 115 = .ok (.bipush 14, 2) := by decide +kernel
theorem dX10_takesAge_117 : decode mX10_takesAge.2.1 117 = .ok (.if_icmp .lt 7, 3) := by decide +kernel
theorem dX10_takesAge_120 : decode mX10_takesAge.2.1 120 = .ok (.iconst 1, 1) := by decide +kernel
theorem dX10_takesAge_121 : decode mX10_takesAge.2.1 121 = .ok (.goto 4, 3) := by decide +kernel
theorem dX10_takesAge_124 : decode mX10_takesAge.2.1 124 = .ok (.iconst 0, 1) := by decide +kernel
theorem dX10_takesAge_125 : decode mX10_takesAge.2.1 125 = .ok (.istore 5, 2) := by decide +kernel
theorem dX10_takesAge_127 : decode mX10_takesAge.2.1 127 = .ok (.aload_n 0, 1) := by decide +kernel
theorem dX10_takesAge_128 : decode mX10_takesAge.2.1 128 = .ok (.getfield 40, 3) := by decide +kernel
theorem dX10_takesAge_131 : decode mX10_takesAge.2.1 131 = .ok (.iload_n 2, 1) := by decide +kernel
theorem dX10_takesAge_132 : decode mX10_takesAge.2.1 132 = .ok (.iload 5, 2) := by decide +kernel
theorem dX10_takesAge_134 : decode mX10_takesAge.2.1 134 = .ok (.ifCond .eq 8, 3) := by decide +kernel
theorem dX10_takesAge_137 : decode mX10_takesAge.2.1 137 = .ok (.iload 4, 2) := by decide +kernel
theorem dX10_takesAge_139 : decode mX10_takesAge.2.1 139 = .ok (.goto 9, 3) := by decide +kernel
theorem dX10_takesAge_142 : decode mX10_takesAge.2.1 142 = .ok (.aload_n 0, 1) := by decide +kernel
theorem dX10_takesAge_143 : decode mX10_takesAge.2.1 143 = .ok (.getfield 40, 3) := by decide +kernel
theorem dX10_takesAge_146 : decode mX10_takesAge.2.1 146 = .ok (.iload_n 2, 1) := by decide +kernel
theorem dX10_takesAge_147 : decode mX10_takesAge.2.1 147 = .ok (.iaload, 1) := by decide +kernel
theorem dX10_takesAge_148 : decode mX10_takesAge.2.1 148 = .ok (.iastore, 1) := by decide +kernel
theorem dX10_takesAge_149 : decode mX10_takesAge.2.1 149 = .ok (.aload_n 0, 1) := by decide +kernel
theorem dX10_takesAge_150 : decode mX10_takesAge.2.1 150 = .ok (.iload 5, 2) := by decide +kernel
theorem dX10_takesAge_152 : decode mX10_takesAge.2.1 152 = .ok (.bipush 10, 2) := by decide +kernel
theorem dX10_takesAge_154 : decode mX10_takesAge.2.1 154 = .ok (.invokevirtual 90, 3) := by decide +kernel
theorem dX10_takesAge_157 : decode mX10_takesAge.2.1 157 = .ok (.ireturn, 1) := by decide +kernel
theorem dX10_takesEnd_0 : decode mX10_takesEnd.2.1 0 = .ok (.iload_n 1, 1) := by decide +kernel
theorem dX10_takesEnd_1 : decode mX10_takesEnd.2.1 1 = .ok (.bipush 59, 2) := by decide +kernel
theorem dX10_takesEnd_3 : decode mX10_takesEnd.2.1 3 = .ok (.if_icmp .ne 10, 3) := by decide +kernel
theorem dX10_takesEnd_6 : decode mX10_takesEnd.2.1 6 = .ok (.aload_n 0, 1) := by decide +kernel
theorem dX10_takesEnd_7 : decode mX10_takesEnd.2.1 7 = .ok (.iconst 1, 1) := by decide +kernel
theorem dX10_takesEnd_8 : decode mX10_takesEnd.2.1 8 = .ok (.iconst 0, 1) := by decide +kernel
theorem dX10_takesEnd_9 : decode mX10_takesEnd.2.1 9 = .ok (.invokevirtual 90, 3) := by decide +kernel
theorem dX10_takesEnd_12 : decode mX10_takesEnd.2.1 12 = .ok (.ireturn, 1) := by decide +kernel
theorem dX10_takesEnd_13 : decode mX10_takesEnd.2.1 13 = .ok (.aload_n 0, 1) := by decide +kernel
theorem dX10_takesEnd_14 : decode mX10_takesEnd.2.1 14 = .ok (.getfield 84, 3) := by decide +kernel
theorem dX10_takesEnd_17 : decode mX10_takesEnd.2.1 17 = .ok (.bipush 7, 2) := by decide +kernel
theorem dX10_takesEnd_19 : decode mX10_takesEnd.2.1 19 = .ok (.if_icmp .ne 30, 3) := by decide +kernel
theorem dX10_takesEnd_22 : decode mX10_takesEnd.2.1 22 = .ok (.aload_n 0, 1) := by decide +kernel
theorem dX10_takesEnd_23 : decode mX10_takesEnd.2.1 23 = .ok (.iload_n 1, 1) := by decide +kernel
theorem dX10_takesEnd_24 : decode mX10_takesEnd.2.1 24 = .ok (.bipush 46, 2) := by decide +kernel
theorem dX10_takesEnd_26 : decode mX10_takesEnd.2.1 26 = .ok (.if_icmp .ne 16, 3) := by decide +kernel
theorem dX10_takesEnd_29 : decode mX10_takesEnd.2.1 29 = .ok (.aload_n 0, 1) := by decide +kernel
theorem dX10_takesEnd_30 : decode mX10_takesEnd.2.1 30 = .ok (.getfield 34, 3) := by decide +kernel
theorem dX10_takesEnd_33 : decode mX10_takesEnd.2.1 33 = .ok (.iload_n 2, 1) := by decide +kernel
theorem dX10_takesEnd_34 : decode mX10_takesEnd.2.1 34 = .ok (.iaload, 1) := by decide +kernel
theorem dX10_takesEnd_35 : decode mX10_takesEnd.2.1 35 = .ok (.ifCond .eq 7, 3) := by decide +kernel
theorem dX10_takesEnd_38 : decode mX10_takesEnd.2.1 38 = .ok (.iconst 1, 1) := by decide +kernel
theorem dX10_takesEnd_39 : decode mX10_takesEnd.2.1 39 = .ok (.goto 4, 3) := by decide +kernel
theorem dX10_takesEnd_42 : decode mX10_takesEnd.2.1 42 = .ok (.iconst 0, 1) := by decide +kernel
theorem dX10_takesEnd_43 : decode mX10_takesEnd.2.1 43 = .ok (.bipush 8, 2) := by decide +kernel
theorem dX10_takesEnd_45 : decode mX10_takesEnd.2.1 45 = .ok (.invokevirtual 90, 3) := by decide +kernel
theorem dX10_takesEnd_48 : decode mX10_takesEnd.2.1 48 = .ok (.ireturn, 1) := by decide +kernel
theorem dX10_takesEnd_49 : decode mX10_takesEnd.2.1 49 = .ok (.aload_n 0, 1) := by decide +kernel
theorem dX10_takesEnd_50 : decode mX10_takesEnd.2.1 50 = .ok (.getfield 84, 3) := by decide +kernel
theorem dX10_takesEnd_53 : decode mX10_takesEnd.2.1 53 = .ok (.bipush 11, 2) := by decide +kernel
theorem dX10_takesEnd_55 : decode mX10_takesEnd.2.1 55 = .ok (.if_icmp .ne 16, 3) := by decide +kernel
theorem dX10_takesEnd_58 : decode mX10_takesEnd.2.1 58 = .ok (.aload_n 0, 1) := by decide +kernel
theorem dX10_takesEnd_59 : decode mX10_takesEnd.2.1 59 = .ok (.iload_n 1, 1) := by decide +kernel
theorem dX10_takesEnd_60 : decode mX10_takesEnd.2.1 60 = .ok (.iload_n 2, 1) := by decide +kernel
theorem dX10_takesEnd_61 : decode mX10_takesEnd.2.1 61 = .ok (.invokevirtual 94, 3) := by decide +kernel
theorem dX10_takesEnd_64 : decode mX10_takesEnd.2.1 64 = .ok (.ifCond .eq 7, 3) := by decide +kernel
theorem dX10_takesEnd_67 : decode mX10_takesEnd.2.1 67 = .ok (.iconst 1, 1) := by decide +kernel
theorem dX10_takesEnd_68 : decode mX10_takesEnd.2.1 68 = .ok (.goto 4, 3) := by decide +kernel
theorem dX10_takesEnd_71 : decode mX10_takesEnd.2.1 71 = .ok (.iconst 0, 1) := by decide +kernel
theorem dX10_takesEnd_72 : decode mX10_takesEnd.2.1 72 = .ok (.ireturn, 1) := by decide +kernel
theorem dX10_takes_0 : decode mX10_takes.2.1 0 = .ok (.aload_n 0, 1) := by decide +kernel
theorem dX10_takes_1 : decode mX10_takes.2.1 1 = .ok (.getfield 87, 3) := by decide +kernel
theorem dX10_takes_4 : decode mX10_takes.2.1 4 = .ok (.iconst 1, 1) := by decide +kernel
theorem dX10_takes_5 : decode mX10_takes.2.1 5 = .ok (.isub, 1) := by decide +kernel
theorem dX10_takes_6 : decode mX10_takes.2.1 6 = .ok (.istore_n 2, 1) := by decide +kernel
theorem dX10_takes_7 : decode mX10_takes.2.1 7 = .ok (.aload_n 0, 1) := by decide +kernel
theorem dX10_takes_8 : decode mX10_takes.2.1 8 = .ok (.getfield 84, 3) := by decide +kernel
theorem dX10_takes_11 : decode mX10_takes.2.1 11 = .ok (.tableswitch 80 0 9 #[53, 59, 59, 66, 66, 66, 66, 80, 73, 73], 53) := by decide +kernel
theorem dX10_takes_64 : decode mX10_takes.2.1 64 = .ok (.aload_n 0, 1) := by decide +kernel
theorem dX10_takes_65 : decode mX10_takes.2.1 65 = .ok (.iload_n 1, 1) := by decide +kernel
theorem dX10_takes_66 : decode mX10_takes.2.1 66 = .ok (.invokevirtual 98, 3) := by decide +kernel
theorem dX10_takes_69 : decode mX10_takes.2.1 69 = .ok (.ireturn, 1) := by decide +kernel
theorem dX10_takes_70 : decode mX10_takes.2.1 70 = .ok (.aload_n 0, 1) := by decide +kernel
theorem dX10_takes_71 : decode mX10_takes.2.1 71 = .ok (.iload_n 1, 1) := by decide +kernel
theorem dX10_takes_72 : decode mX10_takes.2.1 72 = .ok (.iload_n 2, 1) := by decide +kernel
theorem dX10_takes_73 : decode mX10_takes.2.1 73 = .ok (.invokevirtual 102, 3) := by decide +kernel
theorem dX10_takes_76 : decode mX10_takes.2.1 76 = .ok (.ireturn, 1) := by decide +kernel
theorem dX10_takes_77 : decode mX10_takes.2.1 77 = .ok (.aload_n 0, 1) := by decide +kernel
theorem dX10_takes_78 : decode mX10_takes.2.1 78 = .ok (.iload_n 1, 1) := by decide +kernel
theorem dX10_takes_79 : decode mX10_takes.2.1 79 = .ok (.iload_n 2, 1) := by decide +kernel
theorem dX10_takes_80 : decode mX10_takes.2.1 80 = .ok (.invokevirtual 105, 3) := by decide +kernel
theorem dX10_takes_83 : decode mX10_takes.2.1 83 = .ok (.ireturn, 1) := by decide +kernel
theorem dX10_takes_84 : decode mX10_takes.2.1 84 = .ok (.aload_n 0, 1) := by decide +kernel
theorem dX10_takes_85 : decode mX10_takes.2.1 85 = .ok (.iload_n 1, 1) := by decide +kernel
theorem dX10_takes_86 : decode mX10_takes.2.1 86 = .ok (.iload_n 2, 1) := by decide +kernel
theorem dX10_takes_87 : decode mX10_takes.2.1 87 = .ok (.invokevirtual 94, 3) := by decide +kernel
theorem dX10_takes_90 : decode mX10_takes.2.1 90 = .ok (.ireturn, 1) := by decide +kernel
theorem dX10_takes_91 : decode mX10_takes.2.1 91 = .ok (.aload_n 0, 1) := by decide +kernel
theorem dX10_takes_92 : decode mX10_takes.2.1 92 = .ok (.iload_n 1, 1) := by decide +kernel
theorem dX10_takes_93 : decode mX10_takes.2.1 93 = .ok (.iload_n 2, 1) := by decide +kernel
theorem dX10_takes_94 : decode mX10_takes.2.1 94 = .ok (.invokevirtual 108, 3) := by decide +kernel
theorem dX10_takes_97 : decode mX10_takes.2.1 97 = .ok (.ireturn, 1) := by decide +kernel
theorem dX10_read_0 : decode mX10_read.2.1 0 = .ok (.aload_n 0, 1) := by decide +kernel
theorem dX10_read_1 : decode mX10_read.2.1 1 = .ok (.iconst 0, 1) := by decide +kernel
theorem dX10_read_2 : decode mX10_read.2.1 2 = .ok (.putfield 84, 3) := by decide +kernel
theorem dX10_read_5 : decode mX10_read.2.1 5 = .ok (.aload_n 0, 1) := by decide +kernel
theorem dX10_read_6 : decode mX10_read.2.1 6 = .ok (.iconst 0, 1) := by decide +kernel
theorem dX10_read_7 : decode mX10_read.2.1 7 = .ok (.putfield 87, 3) := by decide +kernel
theorem dX10_read_10 : decode mX10_read.2.1 10 = .ok (.iconst 0, 1) := by decide +kernel
theorem dX10_read_11 : decode mX10_read.2.1 11 = .ok (.istore_n 1, 1) := by decide +kernel
theorem dX10_read_12 : decode mX10_read.2.1 12 = .ok (.iload_n 1, 1) := by decide +kernel
theorem dX10_read_13 : decode mX10_read.2.1 13 = .ok (.aload_n 0, 1) := by decide +kernel
theorem dX10_read_14 : decode mX10_read.2.1 14 = .ok (.getfield 80, 3) := by decide +kernel
theorem dX10_read_17 : decode mX10_read.2.1 17 = .ok (.if_icmp .ge 22, 3) := by decide +kernel
theorem dX10_read_20 : decode mX10_read.2.1 20 = .ok (.aload_n 0, 1) := by decide +kernel
theorem dX10_read_21 : decode mX10_read.2.1 21 = .ok (.aload_n 0, 1) := by decide +kernel
theorem dX10_read_22 : decode mX10_read.2.1 22 = .ok (.getfield 7, 3) := by decide +kernel
theorem dX10_read_25 : decode mX10_read.2.1 25 = .ok (.iload_n 1, 1) := by decide +kernel
theorem dX10_read_26 : decode mX10_read.2.1 26 = .ok (.iaload, 1) := by decide +kernel
theorem dX10_read_27 : decode mX10_read.2.1 27 = .ok (.invokevirtual 111, 3) := by decide +kernel
theorem dX10_read_30 : decode mX10_read.2.1 30 = .ok (.ifCond .eq 9, 3) := by decide +kernel
theorem dX10_read_33 : decode mX10_read.2.1 33 = .ok (.iinc 1 1, 3) := by decide +kernel
theorem dX10_read_36 : decode mX10_read.2.1 36 = .ok (.goto (-24), 3) := by decide +kernel
theorem dX10_read_39 : decode mX10_read.2.1 39 = .ok (.iload_n 1, 1) := by decide +kernel
theorem dX10_read_40 : decode mX10_read.2.1 40 = .ok (.ireturn, 1) := by decide +kernel
theorem dX10_fault_0 : decode mX10_fault.2.1 0 = .ok (.aload_n 0, 1) := by decide +kernel
theorem dX10_fault_1 : decode mX10_fault.2.1 1 = .ok (.invokevirtual 114, 3) := by decide +kernel
theorem dX10_fault_4 : decode mX10_fault.2.1 4 = .ok (.ireturn, 1) := by decide +kernel
theorem dX10_ofKind_0 : decode mX10_ofKind.2.1 0 = .ok (.iconst 0, 1) := by decide +kernel
theorem dX10_ofKind_1 : decode mX10_ofKind.2.1 1 = .ok (.istore_n 2, 1) := by decide +kernel
theorem dX10_ofKind_2 : decode mX10_ofKind.2.1 2 = .ok (.iconst 0, 1) := by decide +kernel
theorem dX10_ofKind_3 : decode mX10_ofKind.2.1 3 = .ok (.istore_n 3, 1) := by decide +kernel
theorem dX10_ofKind_4 : decode mX10_ofKind.2.1 4 = .ok (.iload_n 3, 1) := by decide +kernel
theorem dX10_ofKind_5 : decode mX10_ofKind.2.1 5 = .ok (.aload_n 0, 1) := by decide +kernel
theorem dX10_ofKind_6 : decode mX10_ofKind.2.1 6 = .ok (.getfield 118, 3) := by decide +kernel
theorem dX10_ofKind_9 : decode mX10_ofKind.2.1 9 = .ok (.if_icmp .ge 27, 3) := by decide +kernel
theorem dX10_ofKind_12 : decode mX10_ofKind.2.1 12 = .ok (.iload_n 2, 1) := by decide +kernel
theorem dX10_ofKind_13 : decode mX10_ofKind.2.1 13 = .ok (.aload_n 0, 1) := by decide +kernel
theorem dX10_ofKind_14 : decode mX10_ofKind.2.1 14 = .ok (.getfield 13, 3) := by decide +kernel
theorem dX10_ofKind_17 : decode mX10_ofKind.2.1 17 = .ok (.iload_n 3, 1) := by decide +kernel
theorem dX10_ofKind_18 : decode mX10_ofKind.2.1 18 = .ok (.iaload, 1) := by decide +kernel
theorem dX10_ofKind_19 : decode mX10_ofKind.2.1 19 = .ok (.iload_n 1, 1) := by decide +kernel
theorem dX10_ofKind_20 : decode mX10_ofKind.2.1 20 = .ok (.if_icmp .ne 7, 3) := by decide +kernel
theorem dX10_ofKind_23 : decode mX10_ofKind.2.1 23 = .ok (.iconst 1, 1) := by decide +kernel
theorem dX10_ofKind_24 : decode mX10_ofKind.2.1 24 = .ok (.goto 4, 3) := by decide +kernel
theorem dX10_ofKind_27 : decode mX10_ofKind.2.1 27 = .ok (.iconst 0, 1) := by decide +kernel
theorem dX10_ofKind_28 : decode mX10_ofKind.2.1 28 = .ok (.iadd, 1) := by decide +kernel
theorem dX10_ofKind_29 : decode mX10_ofKind.2.1 29 = .ok (.istore_n 2, 1) := by decide +kernel
theorem dX10_ofKind_30 : decode mX10_ofKind.2.1 30 = .ok (.iinc 3 1, 3) := by decide +kernel
theorem dX10_ofKind_33 : decode mX10_ofKind.2.1 33 = .ok (.goto (-29), 3) := by decide +kernel
theorem dX10_ofKind_36 : decode mX10_ofKind.2.1 36 = .ok (.iload_n 2, 1) := by decide +kernel
theorem dX10_ofKind_37 : decode mX10_ofKind.2.1 37 = .ok (.ireturn, 1) := by decide +kernel
theorem dX10_newOfKind_0 : decode mX10_newOfKind.2.1 0 = .ok (.iconst 0, 1) := by decide +kernel
theorem dX10_newOfKind_1 : decode mX10_newOfKind.2.1 1 = .ok (.istore_n 2, 1) := by decide +kernel
theorem dX10_newOfKind_2 : decode mX10_newOfKind.2.1 2 = .ok (.iconst 0, 1) := by decide +kernel
theorem dX10_newOfKind_3 : decode mX10_newOfKind.2.1 3 = .ok (.istore_n 3, 1) := by decide +kernel
theorem dX10_newOfKind_4 : decode mX10_newOfKind.2.1 4 = .ok (.iload_n 3, 1) := by decide +kernel
theorem dX10_newOfKind_5 : decode mX10_newOfKind.2.1 5 = .ok (.aload_n 0, 1) := by decide +kernel
theorem dX10_newOfKind_6 : decode mX10_newOfKind.2.1 6 = .ok (.getfield 87, 3) := by decide +kernel
theorem dX10_newOfKind_9 : decode mX10_newOfKind.2.1 9 = .ok (.if_icmp .ge 27, 3) := by decide +kernel
theorem dX10_newOfKind_12 : decode mX10_newOfKind.2.1 12 = .ok (.iload_n 2, 1) := by decide +kernel
theorem dX10_newOfKind_13 : decode mX10_newOfKind.2.1 13 = .ok (.aload_n 0, 1) := by decide +kernel
theorem dX10_newOfKind_14 : decode mX10_newOfKind.2.1 14 = .ok (.getfield 34, 3) := by decide +kernel
theorem dX10_newOfKind_17 : decode mX10_newOfKind.2.1 17 = .ok (.iload_n 3, 1) := by decide +kernel
theorem dX10_newOfKind_18 : decode mX10_newOfKind.2.1 18 = .ok (.iaload, 1) := by decide +kernel
theorem dX10_newOfKind_19 : decode mX10_newOfKind.2.1 19 = .ok (.iload_n 1, 1) := by decide +kernel
theorem dX10_newOfKind_20 : decode mX10_newOfKind.2.1 20 = .ok (.if_icmp .ne 7, 3) := by decide +kernel
theorem dX10_newOfKind_23 : decode mX10_newOfKind.2.1 23 = .ok (.iconst 1, 1) := by decide +kernel
theorem dX10_newOfKind_24 : decode mX10_newOfKind.2.1 24 = .ok (.goto 4, 3) := by decide +kernel
theorem dX10_newOfKind_27 : decode mX10_newOfKind.2.1 27 = .ok (.iconst 0, 1) := by decide +kernel
theorem dX10_newOfKind_28 : decode mX10_newOfKind.2.1 28 = .ok (.iadd, 1) := by decide +kernel
theorem dX10_newOfKind_29 : decode mX10_newOfKind.2.1 29 = .ok (.istore_n 2, 1) := by decide +kernel
theorem dX10_newOfKind_30 : decode mX10_newOfKind.2.1 30 = .ok (.iinc 3 1, 3) := by decide +kernel
theorem dX10_newOfKind_33 : decode mX10_newOfKind.2.1 33 = .ok (.goto (-29), 3) := by decide +kernel
theorem dX10_newOfKind_36 : decode mX10_newOfKind.2.1 36 = .ok (.iload_n 2, 1) := by decide +kernel
theorem dX10_newOfKind_37 : decode mX10_newOfKind.2.1 37 = .ok (.ireturn, 1) := by decide +kernel
theorem dX10_isRoom_0 : decode mX10_isRoom.2.1 0 = .ok (.aload_n 0, 1) := by decide +kernel
theorem dX10_isRoom_1 : decode mX10_isRoom.2.1 1 = .ok (.getfield 118, 3) := by decide +kernel
theorem dX10_isRoom_4 : decode mX10_isRoom.2.1 4 = .ok (.aload_n 0, 1) := by decide +kernel
theorem dX10_isRoom_5 : decode mX10_isRoom.2.1 5 = .ok (.getfield 87, 3) := by decide +kernel
theorem dX10_isRoom_8 : decode mX10_isRoom.2.1 8 = .ok (.iadd, 1) := by decide +kernel
theorem dX10_isRoom_9 : decode mX10_isRoom.2.1 9 = .ok (.bipush 18, 2) := by decide +kernel
theorem dX10_isRoom_11 : decode mX10_isRoom.2.1 11 = .ok (.if_icmp .gt 7, 3) := by decide +kernel
theorem dX10_isRoom_14 : decode mX10_isRoom.2.1 14 = .ok (.iconst 1, 1) := by decide +kernel
theorem dX10_isRoom_15 : decode mX10_isRoom.2.1 15 = .ok (.goto 4, 3) := by decide +kernel
theorem dX10_isRoom_18 : decode mX10_isRoom.2.1 18 = .ok (.iconst 0, 1) := by decide +kernel
theorem dX10_isRoom_19 : decode mX10_isRoom.2.1 19 = .ok (.istore_n 1, 1) := by decide +kernel
theorem dX10_isRoom_20 : decode mX10_isRoom.2.1 20 = .ok (.iconst 0, 1) := by decide +kernel
theorem dX10_isRoom_21 : decode mX10_isRoom.2.1 21 = .ok (.istore_n 2, 1) := by decide +kernel
theorem dX10_isRoom_22 : decode mX10_isRoom.2.1 22 = .ok (.iload_n 2, 1) := by decide +kernel
theorem dX10_isRoom_23 : decode mX10_isRoom.2.1 23 = .ok (.iconst 3, 1) := by decide +kernel
theorem dX10_isRoom_24 : decode mX10_isRoom.2.1 24 = .ok (.if_icmp .ge 35, 3) := by decide +kernel
theorem dX10_isRoom_27 : decode mX10_isRoom.2.1 27 = .ok (.iload_n 1, 1) := by decide +kernel
theorem dX10_isRoom_28 : decode mX10_isRoom.2.1 28 = .ok (.ifCond .eq 23, 3) := by decide +kernel
theorem dX10_isRoom_31 : decode mX10_isRoom.2.1 31 = .ok (.aload_n 0, 1) := by decide +kernel
theorem dX10_isRoom_32 : decode mX10_isRoom.2.1 32 = .ok (.iload_n 2, 1) := by decide +kernel
theorem dX10_isRoom_33 : decode mX10_isRoom.2.1 33 = .ok (.invokevirtual 121, 3) := by decide +kernel
theorem dX10_isRoom_36 : decode mX10_isRoom.2.1 36 = .ok (.aload_n 0, 1) := by decide +kernel
theorem dX10_isRoom_37 : decode mX10_isRoom.2.1 37 = .ok (.iload_n 2, 1) := by decide +kernel
theorem dX10_isRoom_38 : decode mX10_isRoom.2.1 38 = .ok (.invokevirtual 125, 3) := by decide +kernel
theorem dX10_isRoom_41 : decode mX10_isRoom.2.1 41 = .ok (.iadd, 1) := by decide +kernel
theorem dX10_isRoom_42 : decode mX10_isRoom.2.1 42 = .ok (.bipush 7, 2) := by decide +kernel
theorem dX10_isRoom_44 : decode mX10_isRoom.2.1 44 = .ok (.if_icmp .gt 7, 3) := by decide +kernel
theorem dX10_isRoom_47 : decode mX10_isRoom.2.1 47 = .ok (.iconst 1, 1) := by decide +kernel
theorem dX10_isRoom_48 : decode mX10_isRoom.2.1 48 = .ok (.goto 4, 3) := by decide +kernel
theorem dX10_isRoom_51 : decode mX10_isRoom.2.1 51 = .ok (.iconst 0, 1) := by decide +kernel
theorem dX10_isRoom_52 : decode mX10_isRoom.2.1 52 = .ok (.istore_n 1, 1) := by decide +kernel
theorem dX10_isRoom_53 : decode mX10_isRoom.2.1 53 = .ok (.iinc 2 1, 3) := by decide +kernel
theorem dX10_isRoom_56 : decode mX10_isRoom.2.1 56 = .ok (.goto (-34), 3) := by decide +kernel
theorem dX10_isRoom_59 : decode mX10_isRoom.2.1 59 = .ok (.iload_n 1, 1) := by decide +kernel
theorem dX10_isRoom_60 : decode mX10_isRoom.2.1 60 = .ok (.ireturn, 1) := by decide +kernel
theorem dX10_enter_0 : decode mX10_enter.2.1 0 = .ok (.aload_n 0, 1) := by decide +kernel
theorem dX10_enter_1 : decode mX10_enter.2.1 1 = .ok (.invokevirtual 114, 3) := by decide +kernel
theorem dX10_enter_4 : decode mX10_enter.2.1 4 = .ok (.aload_n 0, 1) := by decide +kernel
theorem dX10_enter_5 : decode mX10_enter.2.1 5 = .ok (.getfield 80, 3) := by decide +kernel
theorem dX10_enter_8 : decode mX10_enter.2.1 8 = .ok (.if_icmp .ne 25, 3) := by decide +kernel
theorem dX10_enter_11 : decode mX10_enter.2.1 11 = .ok (.aload_n 0, 1) := by decide +kernel
theorem dX10_enter_12 : decode mX10_enter.2.1 12 = .ok (.getfield 84, 3) := by decide +kernel
theorem dX10_enter_15 : decode mX10_enter.2.1 15 = .ok (.bipush 7, 2) := by decide +kernel
theorem dX10_enter_17 : decode mX10_enter.2.1 17 = .ok (.if_icmp .eq 12, 3) := by decide +kernel
theorem dX10_enter_20 : decode mX10_enter.2.1 20 = .ok (.aload_n 0, 1) := by decide +kernel
theorem dX10_enter_21 : decode mX10_enter.2.1 21 = .ok (.getfield 84, 3) := by decide +kernel
theorem dX10_enter_24 : decode mX10_enter.2.1 24 = .ok (.bipush 9, 2) := by decide +kernel
theorem dX10_enter_26 : decode mX10_enter.2.1 26 = .ok (.if_icmp .le 7, 3) := by decide +kernel
theorem dX10_enter_29 : decode mX10_enter.2.1 29 = .ok (.iconst 1, 1) := by decide +kernel
theorem dX10_enter_30 : decode mX10_enter.2.1 30 = .ok (.goto 4, 3) := by decide +kernel
theorem dX10_enter_33 : decode mX10_enter.2.1 33 = .ok (.iconst 0, 1) := by decide +kernel
theorem dX10_enter_34 : decode mX10_enter.2.1 34 = .ok (.istore_n 1, 1) := by decide +kernel
theorem dX10_enter_35 : decode mX10_enter.2.1 35 = .ok (.iload_n 1, 1) := by decide +kernel
theorem dX10_enter_36 : decode mX10_enter.2.1 36 = .ok (.ifCond .ne 6, 3) := by decide +kernel
theorem dX10_enter_39 : decode mX10_enter.2.1 39 = .ok (.bipush (-103), 2) := by decide +kernel
theorem dX10_enter_41 : decode mX10_enter.2.1 41 = .ok (.ireturn, 1) := by decide +kernel
theorem dX10_enter_42 : decode mX10_enter.2.1 42 = .ok (.aload_n 0, 1) := by decide +kernel
theorem dX10_enter_43 : decode mX10_enter.2.1 43 = .ok (.invokevirtual 128, 3) := by decide +kernel
theorem dX10_enter_46 : decode mX10_enter.2.1 46 = .ok (.ifCond .ne 6, 3) := by decide +kernel
theorem dX10_enter_49 : decode mX10_enter.2.1 49 = .ok (.bipush (-104), 2) := by decide +kernel
theorem dX10_enter_51 : decode mX10_enter.2.1 51 = .ok (.ireturn, 1) := by decide +kernel
theorem dX10_enter_52 : decode mX10_enter.2.1 52 = .ok (.iconst 0, 1) := by decide +kernel
theorem dX10_enter_53 : decode mX10_enter.2.1 53 = .ok (.istore_n 2, 1) := by decide +kernel
theorem dX10_enter_54 : decode mX10_enter.2.1 54 = .ok (.iload_n 2, 1) := by decide +kernel
theorem dX10_enter_55 : decode mX10_enter.2.1 55 = .ok (.aload_n 0, 1) := by decide +kernel
theorem dX10_enter_56 : decode mX10_enter.2.1 56 = .ok (.getfield 87, 3) := by decide +kernel
theorem dX10_enter_59 : decode mX10_enter.2.1 59 = .ok (.if_icmp .ge 111, 3) := by decide +kernel
theorem dX10_enter_62 : decode mX10_enter.2.1 62 = .ok (.aload_n 0, 1) := by decide +kernel
theorem dX10_enter_63 : decode mX10_enter.2.1 63 = .ok (.getfield 118, 3) := by decide +kernel
theorem dX10_enter_66 : decode mX10_enter.2.1 66 = .ok (.iload_n 2, 1) := by decide +kernel
theorem dX10_enter_67 : decode mX10_enter.2.1 67 = .ok (.iadd, 1) := by decide +kernel
theorem dX10_enter_68 : decode mX10_enter.2.1 68 = .ok (.istore_n 3, 1) := by decide +kernel
theorem dX10_enter_69 : decode mX10_enter.2.1 69 = .ok (.aload_n 0, 1) := by decide +kernel
theorem dX10_enter_70 : decode mX10_enter.2.1 70 = .ok (.getfield 13, 3) := by decide +kernel
theorem dX10_enter_73 : decode mX10_enter.2.1 73 = .ok (.iload_n 3, 1) := by decide +kernel
theorem dX10_enter_74 : decode mX10_enter.2.1 74 = .ok (.aload_n 0, 1) := by decide +kernel
theorem dX10_enter_75 : decode mX10_enter.2.1 75 = .ok (.getfield 34, 3) := by decide +kernel
theorem dX10_enter_78 : decode mX10_enter.2.1 78 = .ok (.iload_n 2, 1) := by decide +kernel
theorem dX10_enter_79 : decode mX10_enter.2.1 79 = .ok (.iaload, 1) := by decide +kernel
theorem dX10_enter_80 : decode mX10_enter.2.1 80 = .ok (.iastore, 1) := by decide +kernel
theorem dX10_enter_81 : decode mX10_enter.2.1 81 = .ok (.aload_n 0, 1) := by decide +kernel
theorem dX10_enter_82 : decode mX10_enter.2.1 82 = .ok (.getfield 16, 3) := by decide +kernel
theorem dX10_enter_85 : decode mX10_enter.2.1 85 = .ok (.iload_n 3, 1) := by decide +kernel
theorem dX10_enter_86 : decode mX10_enter.2.1 86 = .ok (.aload_n 0, 1) := by decide +kernel
theorem dX10_enter_87 : decode mX10_enter.2.1 87 = .ok (.getfield 37, 3) := by decide +kernel
theorem dX10_enter_90 : decode mX10_enter.2.1 90 = .ok (.iload_n 2, 1) := by decide +kernel
theorem dX10_enter_91 : decode mX10_enter.2.1 91 = .ok (.iaload, 1) := by decide +kernel
theorem dX10_enter_92 : decode mX10_enter.2.1 92 = .ok (.iastore, 1) := by decide +kernel
theorem dX10_enter_93 : decode mX10_enter.2.1 93 = .ok (.aload_n 0, 1) := by decide +kernel
theorem dX10_enter_94 : decode mX10_enter.2.1 94 = .ok (.getfield 19, 3) := by decide +kernel
theorem dX10_enter_97 : decode mX10_enter.2.1 97 = .ok (.iload_n 3, 1) := by decide +kernel
theorem dX10_enter_98 : decode mX10_enter.2.1 98 = .ok (.aload_n 0, 1) := by decide +kernel
theorem dX10_enter_99 : decode mX10_enter.2.1 99 = .ok (.getfield 40, 3) := by decide +kernel
theorem dX10_enter_102 : decode mX10_enter.2.1 102 = .ok (.iload_n 2, 1) := by decide +kernel
theorem dX10_enter_103 : decode mX10_enter.2.1 103 = .ok (.iaload, 1) := by decide +kernel
theorem dX10_enter_104 : decode mX10_enter.2.1 104 = .ok (.iastore, 1) := by decide +kernel
theorem dX10_enter_105 : decode mX10_enter.2.1 105 = .ok (.aload_n 0, 1) := by decide +kernel
theorem dX10_enter_106 : decode mX10_enter.2.1 106 = .ok (.getfield 22, 3) := by decide +kernel
theorem dX10_enter_109 : decode mX10_enter.2.1 109 = .ok (.iload_n 3, 1) := by decide +kernel
theorem dX10_enter_110 : decode mX10_enter.2.1 110 = .ok (.aload_n 0, 1) := by decide +kernel
theorem dX10_enter_111 : decode mX10_enter.2.1 111 = .ok (.getfield 43, 3) := by decide +kernel
theorem dX10_enter_114 : decode mX10_enter.2.1 114 = .ok (.iload_n 2, 1) := by decide +kernel
theorem dX10_enter_115 : decode mX10_enter.2.1 115 = .ok (.iaload, 1) := by decide +kernel
theorem dX10_enter_116 : decode mX10_enter.2.1 116 = .ok (.iastore, 1) := by decide +kernel
theorem dX10_enter_117 : decode mX10_enter.2.1 117 = .ok (.aload_n 0, 1) := by decide +kernel
theorem dX10_enter_118 : decode mX10_enter.2.1 118 = .ok (.getfield 28, 3) := by decide +kernel
theorem dX10_enter_121 : decode mX10_enter.2.1 121 = .ok (.iload_n 3, 1) := by decide +kernel
theorem dX10_enter_122 : decode mX10_enter.2.1 122 = .ok (.iconst 0, 1) := by decide +kernel
theorem dX10_enter_123 : decode mX10_enter.2.1 123 = .ok (.iastore, 1) := by decide +kernel
theorem dX10_enter_124 : decode mX10_enter.2.1 124 = .ok (.iconst 0, 1) := by decide +kernel
theorem dX10_enter_125 : decode mX10_enter.2.1 125 = .ok (.istore 4, 2) := by decide +kernel
theorem dX10_enter_127 : decode mX10_enter.2.1 127 = .ok (.iload 4, 2) := by decide +kernel
theorem dX10_enter_129 : decode mX10_enter.2.1 129 = .ok (.bipush 8, 2) := by decide +kernel
theorem dX10_enter_131 : decode mX10_enter.2.1 131 = .ok (.if_icmp .ge 33, 3) := by decide +kernel
theorem dX10_enter_134 : decode mX10_enter.2.1 134 = .ok (.aload_n 0, 1) := by decide +kernel
theorem dX10_enter_135 : decode mX10_enter.2.1 135 = .ok (.getfield 25, 3) := by decide +kernel
theorem dX10_enter_138 : decode mX10_enter.2.1 138 = .ok (.bipush 8, 2) := by decide +kernel
theorem dX10_enter_140 : decode mX10_enter.2.1 140 = .ok (.iload_n 3, 1) := by decide +kernel
theorem dX10_enter_141 : decode mX10_enter.2.1 141 = .ok (.imul, 1) := by decide +kernel
theorem dX10_enter_142 : decode mX10_enter.2.1 142 = .ok (.iload 4, 2) := by decide +kernel
theorem dX10_enter_144 : decode mX10_enter.2.1 144 = .ok (.iadd, 1) := by decide +kernel
theorem dX10_enter_145 : decode mX10_enter.2.1 145 = .ok (.aload_n 0, 1) := by decide +kernel
theorem dX10_enter_146 : decode mX10_enter.2.1 146 = .ok (.getfield 46, 3) := by decide +kernel
theorem dX10_enter_149 : decode mX10_enter.2.1 149 = .ok (.bipush 8, 2) := by decide +kernel
theorem dX10_enter_151 : decode mX10_enter.2.1 151 = .ok (.iload_n 2, 1) := by decide +kernel
theorem dX10_enter_152 : decode mX10_enter.2.1 152 = .ok (.imul, 1) := by decide +kernel
theorem dX10_enter_153 : decode mX10_enter.2.1 153 = .ok (.iload 4, 2) := by decide +kernel
theorem dX10_enter_155 : decode mX10_enter.2.1 155 = .ok (.iadd, 1) := by decide +kernel
theorem dX10_enter_156 : decode mX10_enter.2.1 156 = .ok (.iaload, 1) := by decide +kernel
theorem dX10_enter_157 : decode mX10_enter.2.1 157 = .ok (.iastore, 1) := by decide +kernel
theorem dX10_enter_158 : decode mX10_enter.2.1 158 = .ok (.iinc 4 1, 3) := by decide +kernel
theorem dX10_enter_161 : decode mX10_enter.2.1 161 = .ok (.goto (-34), 3) := by decide +kernel
theorem dX10_enter_164 : decode mX10_enter.2.1 164 = .ok (.iinc 2 1, 3) := by decide +kernel
theorem dX10_enter_167 : decode mX10_enter.2.1 167 = .ok (.goto (-113), 3) := by decide +kernel
theorem dX10_enter_170 : decode mX10_enter.2.1 170 = .ok (.aload_n 0, 1) := by decide +kernel
theorem dX10_enter_171 : decode mX10_enter.2.1 171 = .ok (.dup, 1) := by decide +kernel
theorem dX10_enter_172 : decode mX10_enter.2.1 172 = .ok (.getfield 118, 3) := by decide +kernel
theorem dX10_enter_175 : decode mX10_enter.2.1 175 = .ok (.aload_n 0, 1) := by decide +kernel
theorem dX10_enter_176 : decode mX10_enter.2.1 176 = .ok (.getfield 87, 3) := by decide +kernel
theorem dX10_enter_179 : decode mX10_enter.2.1 179 = .ok (.iadd, 1) := by decide +kernel
theorem dX10_enter_180 : decode mX10_enter.2.1 180 = .ok (.putfield 118, 3) := by decide +kernel
theorem dX10_enter_183 : decode mX10_enter.2.1 183 = .ok (.aload_n 0, 1) := by decide +kernel
theorem dX10_enter_184 : decode mX10_enter.2.1 184 = .ok (.dup, 1) := by decide +kernel
theorem dX10_enter_185 : decode mX10_enter.2.1 185 = .ok (.getfield 132, 3) := by decide +kernel
theorem dX10_enter_188 : decode mX10_enter.2.1 188 = .ok (.iconst 1, 1) := by decide +kernel
theorem dX10_enter_189 : decode mX10_enter.2.1 189 = .ok (.iadd, 1) := by decide +kernel
theorem dX10_enter_190 : decode mX10_enter.2.1 190 = .ok (.putfield 132, 3) := by decide +kernel
theorem dX10_enter_193 : decode mX10_enter.2.1 193 = .ok (.aload_n 0, 1) := by decide +kernel
theorem dX10_enter_194 : decode mX10_enter.2.1 194 = .ok (.iconst 0, 1) := by decide +kernel
theorem dX10_enter_195 : decode mX10_enter.2.1 195 = .ok (.putfield 80, 3) := by decide +kernel
theorem dX10_enter_198 : decode mX10_enter.2.1 198 = .ok (.aload_n 0, 1) := by decide +kernel
theorem dX10_enter_199 : decode mX10_enter.2.1 199 = .ok (.getfield 87, 3) := by decide +kernel
theorem dX10_enter_202 : decode mX10_enter.2.1 202 = .ok (.ireturn, 1) := by decide +kernel
theorem dX10_groupOf_0 : decode mX10_groupOf.2.1 0 = .ok (.iload_n 0, 1) := by decide +kernel
theorem dX10_groupOf_1 : decode mX10_groupOf.2.1 1 = .ok (.tableswitch 141 97 122 #[138, 119, 121, 123, 138, 125, 127, 141, 129, 127, 121, 141, 132, 132, 138, 119, 121, 141, 135, 123, 138, 125, 125, 135, 129, 135], 119) := by decide +kernel
theorem dX10_groupOf_120 : decode mX10_groupOf.2.1 120 = .ok (.iconst 1, 1) := by decide +kernel
theorem dX10_groupOf_121 : decode mX10_groupOf.2.1 121 = .ok (.ireturn, 1) := by decide +kernel
theorem dX10_groupOf_122 : decode mX10_groupOf.2.1 122 = .ok (.iconst 2, 1) := by decide +kernel
theorem dX10_groupOf_123 : decode mX10_groupOf.2.1 123 = .ok (.ireturn, 1) := by decide +kernel
theorem dX10_groupOf_124 : decode mX10_groupOf.2.1 124 = .ok (.iconst 3, 1) := by decide +kernel
theorem dX10_groupOf_125 : decode mX10_groupOf.2.1 125 = .ok (.ireturn, 1) := by decide +kernel
theorem dX10_groupOf_126 : decode mX10_groupOf.2.1 126 = .ok (.iconst 4, 1) := by decide +kernel
theorem dX10_groupOf_127 : decode mX10_groupOf.2.1 127 = .ok (.ireturn, 1) := by decide +kernel
theorem dX10_groupOf_128 : decode mX10_groupOf.2.1 128 = .ok (.iconst 5, 1) := by decide +kernel
theorem dX10_groupOf_129 : decode mX10_groupOf.2.1 129 = .ok (.ireturn, 1) := by decide +kernel
theorem dX10_groupOf_130 : decode mX10_groupOf.2.1 130 = .ok (.bipush 6, 2) := by decide +kernel
theorem dX10_groupOf_132 : decode mX10_groupOf.2.1 132 = .ok (.ireturn, 1) := by decide +kernel
theorem dX10_groupOf_133 : decode mX10_groupOf.2.1 133 = .ok (.bipush 7, 2) := by decide +kernel
theorem dX10_groupOf_135 : decode mX10_groupOf.2.1 135 = .ok (.ireturn, 1) := by decide +kernel
theorem dX10_groupOf_136 : decode mX10_groupOf.2.1 136 = .ok (.bipush 8, 2) := by decide +kernel
theorem dX10_groupOf_138 : decode mX10_groupOf.2.1 138 = .ok (.ireturn, 1) := by decide +kernel
theorem dX10_groupOf_139 : decode mX10_groupOf.2.1 139 = .ok (.bipush 9, 2) := by decide +kernel
theorem dX10_groupOf_141 : decode mX10_groupOf.2.1 141 = .ok (.ireturn, 1) := by decide +kernel
theorem dX10_groupOf_142 : decode mX10_groupOf.2.1 142 = .ok (.iload_n 0, 1) := by decide +kernel
theorem dX10_groupOf_143 : decode mX10_groupOf.2.1 143 = .ok (.ireturn, 1) := by decide +kernel
theorem dX10_changeOf_0 : decode mX10_changeOf.2.1 0 = .ok (.iload_n 0, 1) := by decide +kernel
theorem dX10_changeOf_1 : decode mX10_changeOf.2.1 1 = .ok (.iload_n 1, 1) := by decide +kernel
theorem dX10_changeOf_2 : decode mX10_changeOf.2.1 2 = .ok (.if_icmp .ne 7, 3) := by decide +kernel
theorem dX10_changeOf_5 : decode mX10_changeOf.2.1 5 = .ok (.iconst 0, 1) := by decide +kernel
theorem dX10_changeOf_6 : decode mX10_changeOf.2.1 6 = .ok (.goto 19, 3) := by decide +kernel
theorem dX10_changeOf_9 : decode mX10_changeOf.2.1 9 = .ok (.iload_n 0, 1) := by decide +kernel
theorem dX10_changeOf_10 : decode mX10_changeOf.2.1 10 = .ok (.invokestatic 135, 3) := by decide +kernel
theorem dX10_changeOf_13 : decode mX10_changeOf.2.1 13 = .ok (.iload_n 1, 1) := by decide +kernel
theorem dX10_changeOf_14 : decode mX10_changeOf.2.1 14 = .ok (.invokestatic 135, 3) := by decide +kernel
theorem dX10_changeOf_17 : decode mX10_changeOf.2.1 17 = .ok (.if_icmp .ne 7, 3) := by decide +kernel
theorem dX10_changeOf_20 : decode mX10_changeOf.2.1 20 = .ok (.iconst 1, 1) := by decide +kernel
theorem dX10_changeOf_21 : decode mX10_changeOf.2.1 21 = .ok (.goto 4, 3) := by decide +kernel
theorem dX10_changeOf_24 : decode mX10_changeOf.2.1 24 = .ok (.iconst 2, 1) := by decide +kernel
theorem dX10_changeOf_25 : decode mX10_changeOf.2.1 25 = .ok (.ireturn, 1) := by decide +kernel
theorem dX10_lesser_0 : decode mX10_lesser.2.1 0 = .ok (.iload_n 0, 1) := by decide +kernel
theorem dX10_lesser_1 : decode mX10_lesser.2.1 1 = .ok (.iload_n 1, 1) := by decide +kernel
theorem dX10_lesser_2 : decode mX10_lesser.2.1 2 = .ok (.if_icmp .ge 7, 3) := by decide +kernel
theorem dX10_lesser_5 : decode mX10_lesser.2.1 5 = .ok (.iload_n 0, 1) := by decide +kernel
theorem dX10_lesser_6 : decode mX10_lesser.2.1 6 = .ok (.goto 4, 3) := by decide +kernel
theorem dX10_lesser_9 : decode mX10_lesser.2.1 9 = .ok (.iload_n 1, 1) := by decide +kernel
theorem dX10_lesser_10 : decode mX10_lesser.2.1 10 = .ok (.ireturn, 1) := by decide +kernel
theorem dX10_greater_0 : decode mX10_greater.2.1 0 = .ok (.iload_n 0, 1) := by decide +kernel
theorem dX10_greater_1 : decode mX10_greater.2.1 1 = .ok (.iload_n 1, 1) := by decide +kernel
theorem dX10_greater_2 : decode mX10_greater.2.1 2 = .ok (.if_icmp .le 7, 3) := by decide +kernel
theorem dX10_greater_5 : decode mX10_greater.2.1 5 = .ok (.iload_n 0, 1) := by decide +kernel
theorem dX10_greater_6 : decode mX10_greater.2.1 6 = .ok (.goto 4, 3) := by decide +kernel
theorem dX10_greater_9 : decode mX10_greater.2.1 9 = .ok (.iload_n 1, 1) := by decide +kernel
theorem dX10_greater_10 : decode mX10_greater.2.1 10 = .ok (.ireturn, 1) := by decide +kernel
theorem dX10_distance_0 : decode mX10_distance.2.1 0 = .ok (.iconst 0, 1) := by decide +kernel
theorem dX10_distance_1 : decode mX10_distance.2.1 1 = .ok (.istore_n 3, 1) := by decide +kernel
theorem dX10_distance_2 : decode mX10_distance.2.1 2 = .ok (.iload_n 3, 1) := by decide +kernel
theorem dX10_distance_3 : decode mX10_distance.2.1 3 = .ok (.aload_n 0, 1) := by decide +kernel
theorem dX10_distance_4 : decode mX10_distance.2.1 4 = .ok (.getfield 22, 3) := by decide +kernel
theorem dX10_distance_7 : decode mX10_distance.2.1 7 = .ok (.iload_n 1, 1) := by decide +kernel
theorem dX10_distance_8 : decode mX10_distance.2.1 8 = .ok (.iaload, 1) := by decide +kernel
theorem dX10_distance_9 : decode mX10_distance.2.1 9 = .ok (.if_icmp .gt 168, 3) := by decide +kernel
theorem dX10_distance_12 : decode mX10_distance.2.1 12 = .ok (.iconst 0, 1) := by decide +kernel
theorem dX10_distance_13 : decode mX10_distance.2.1 13 = .ok (.istore 4, 2) := by decide +kernel
theorem dX10_distance_15 : decode mX10_distance.2.1 15 = .ok (.iload 4, 2) := by decide +kernel
theorem dX10_distance_17 : decode mX10_distance.2.1 17 = .ok (.aload_n 0, 1) := by decide +kernel
theorem dX10_distance_18 : decode mX10_distance.2.1 18 = .ok (.getfield 22, 3) := by decide +kernel
theorem dX10_distance_21 : decode mX10_distance.2.1 21 = .ok (.iload_n 2, 1) := by decide +kernel
theorem dX10_distance_22 : decode mX10_distance.2.1 22 = .ok (.iaload, 1) := by decide +kernel
theorem dX10_distance_23 : decode mX10_distance.2.1 23 = .ok (.if_icmp .gt 148, 3) := by decide +kernel
theorem dX10_distance_26 : decode mX10_distance.2.1 26 = .ok (.iload_n 3, 1) := by decide +kernel
theorem dX10_distance_27 : decode mX10_distance.2.1 27 = .ok (.ifCond .ne 10, 3) := by decide +kernel
theorem dX10_distance_30 : decode mX10_distance.2.1 30 = .ok (.iconst 2, 1) := by decide +kernel
theorem dX10_distance_31 : decode mX10_distance.2.1 31 = .ok (.iload 4, 2) := by decide +kernel
theorem dX10_distance_33 : decode mX10_distance.2.1 33 = .ok (.imul, 1) := by decide +kernel
theorem dX10_distance_34 : decode mX10_distance.2.1 34 = .ok (.goto 47, 3) := by decide +kernel
theorem dX10_distance_37 : decode mX10_distance.2.1 37 = .ok (.iload 4, 2) := by decide +kernel
theorem dX10_distance_39 : decode mX10_distance.2.1 39 = .ok (.ifCond .ne 9, 3) := by decide +kernel
theorem dX10_distance_42 : decode mX10_distance.2.1 42 = .ok (.iconst 2, 1) := by decide +kernel
theorem dX10_distance_43 : decode mX10_distance.2.1 43 = .ok (.iload_n 3, 1) := by decide +kernel
theorem dX10_distance_44 : decode mX10_distance.2.1 44 = .ok (.imul, 1) := by decide +kernel
theorem dX10_distance_45 : decode mX10_distance.2.1 45 = .ok (.goto 36, 3) := by decide +kernel
theorem dX10_distance_48 : decode mX10_distance.2.1 48 = .ok (.aload_n 0, 1) := by decide +kernel
theorem dX10_distance_49 : decode mX10_distance.2.1 49 = .ok (.getfield 49, 3) := by decide +kernel
theorem dX10_distance_52 : decode mX10_distance.2.1 52 = .ok (.bipush 9, 2) := by decide +kernel
theorem dX10_distance_54 : decode mX10_distance.2.1 54 = .ok (.iload_n 3, 1) := by decide +kernel
theorem dX10_distance_55 : decode mX10_distance.2.1 55 = .ok (.iconst 1, 1) := by decide +kernel
theorem dX10_distance_56 : decode mX10_distance.2.1 56 = .ok (.isub, 1) := by decide +kernel
theorem dX10_distance_57 : decode mX10_distance.2.1 57 = .ok (.imul, 1) := by decide +kernel
theorem dX10_distance_58 : decode mX10_distance.2.1 58 = .ok (.iload 4, 2) := by decide +kernel
theorem dX10_distance_60 : decode mX10_distance.2.1 60 = .ok (.iadd, 1) := by decide +kernel
theorem dX10_distance_61 : decode mX10_distance.2.1 61 = .ok (.iaload, 1) := by decide +kernel
theorem dX10_distance_62 : decode mX10_distance.2.1 62 = .ok (.aload_n 0, 1) := by decide +kernel
theorem dX10_distance_63 : decode mX10_distance.2.1 63 = .ok (.getfield 49, 3) := by decide +kernel
theorem dX10_distance_66 : decode mX10_distance.2.1 66 = .ok (.bipush 9, 2) := by decide +kernel
theorem dX10_distance_68 : decode mX10_distance.2.1 68 = .ok (.iload_n 3, 1) := by decide +kernel
theorem dX10_distance_69 : decode mX10_distance.2.1 69 = .ok (.imul, 1) := by decide +kernel
theorem dX10_distance_70 : decode mX10_distance.2.1 70 = .ok (.iload 4, 2) := by decide +kernel
theorem dX10_distance_72 : decode mX10_distance.2.1 72 = .ok (.iadd, 1) := by decide +kernel
theorem dX10_distance_73 : decode mX10_distance.2.1 73 = .ok (.iconst 1, 1) := by decide +kernel
theorem dX10_distance_74 : decode mX10_distance.2.1 74 = .ok (.isub, 1) := by decide +kernel
theorem dX10_distance_75 : decode mX10_distance.2.1 75 = .ok (.iaload, 1) := by decide +kernel
theorem dX10_distance_76 : decode mX10_distance.2.1 76 = .ok (.invokestatic 138, 3) := by decide +kernel
theorem dX10_distance_79 : decode mX10_distance.2.1 79 = .ok (.iconst 2, 1) := by decide +kernel
theorem dX10_distance_80 : decode mX10_distance.2.1 80 = .ok (.iadd, 1) := by decide +kernel
theorem dX10_distance_81 : decode mX10_distance.2.1 81 = .ok (.istore 5, 2) := by decide +kernel
theorem dX10_distance_83 : decode mX10_distance.2.1 83 = .ok (.iload_n 3, 1) := by decide +kernel
theorem dX10_distance_84 : decode mX10_distance.2.1 84 = .ok (.ifCond .le 58, 3) := by decide +kernel
theorem dX10_distance_87 : decode mX10_distance.2.1 87 = .ok (.iload 4, 2) := by decide +kernel
theorem dX10_distance_89 : decode mX10_distance.2.1 89 = .ok (.ifCond .le 53, 3) := by decide +kernel
theorem dX10_distance_92 : decode mX10_distance.2.1 92 = .ok (.aload_n 0, 1) := by decide +kernel
theorem dX10_distance_93 : decode mX10_distance.2.1 93 = .ok (.getfield 49, 3) := by decide +kernel
theorem dX10_distance_96 : decode mX10_distance.2.1 96 = .ok (.bipush 9, 2) := by decide +kernel
theorem dX10_distance_98 : decode mX10_distance.2.1 98 = .ok (.iload_n 3, 1) := by decide +kernel
theorem dX10_distance_99 : decode mX10_distance.2.1 99 = .ok (.iconst 1, 1) := by decide +kernel
theorem dX10_distance_100 : decode mX10_distance.2.1 100 = .ok (.isub, 1) := by decide +kernel
theorem dX10_distance_101 : decode mX10_distance.2.1 101 = .ok (.imul, 1) := by decide +kernel
theorem dX10_distance_102 : decode mX10_distance.2.1 102 = .ok (.iload 4, 2) := by decide +kernel
theorem dX10_distance_104 : decode mX10_distance.2.1 104 = .ok (.iadd, 1) := by decide +kernel
theorem dX10_distance_105 : decode mX10_distance.2.1 105 = .ok (.iconst 1, 1) := by decide +kernel
theorem dX10_distance_106 : decode mX10_distance.2.1 106 = .ok (.isub, 1) := by decide +kernel
theorem dX10_distance_107 : decode mX10_distance.2.1 107 = .ok (.iaload, 1) := by decide +kernel
theorem dX10_distance_108 : decode mX10_distance.2.1 108 = .ok (.aload_n 0, 1) := by decide +kernel
theorem dX10_distance_109 : decode mX10_distance.2.1 109 = .ok (.getfield 25, 3) := by decide +kernel
theorem dX10_distance_112 : decode mX10_distance.2.1 112 = .ok (.bipush 8, 2) := by decide +kernel
theorem dX10_distance_114 : decode mX10_distance.2.1 114 = .ok (.iload_n 1, 1) := by decide +kernel
theorem dX10_distance_115 : decode mX10_distance.2.1 115 = .ok (.imul, 1) := by decide +kernel
theorem dX10_distance_116 : decode mX10_distance.2.1 116 = .ok (.iload_n 3, 1) := by decide +kernel
theorem dX10_distance_117 : decode mX10_distance.2.1 117 = .ok (.iadd, 1) := by decide +kernel
theorem dX10_distance_118 : decode mX10_distance.2.1 118 = .ok (.iconst 1, 1) := by decide +kernel
theorem dX10_distance_119 : decode mX10_distance.2.1 119 = .ok (.isub, 1) := by decide +kernel
theorem dX10_distance_120 : decode mX10_distance.2.1 120 = .ok (.iaload, 1) := by decide +kernel
theorem dX10_distance_121 : decode mX10_distance.2.1 121 = .ok (.aload_n 0, 1) := by decide +kernel
theorem dX10_distance_122 : decode mX10_distance.2.1 122 = .ok (.getfield 25, 3) := by decide +kernel
theorem dX10_distance_125 : decode mX10_distance.2.1 125 = .ok (.bipush 8, 2) := by decide +kernel
theorem dX10_distance_127 : decode mX10_distance.2.1 127 = .ok (.iload_n 2, 1) := by decide +kernel
theorem dX10_distance_128 : decode mX10_distance.2.1 128 = .ok (.imul, 1) := by decide +kernel
theorem dX10_distance_129 : decode mX10_distance.2.1 129 = .ok (.iload 4, 2) := by decide +kernel
theorem dX10_distance_131 : decode mX10_distance.2.1 131 = .ok (.iadd, 1) := by decide +kernel
theorem dX10_distance_132 : decode mX10_distance.2.1 132 = .ok (.iconst 1, 1) := by decide +kernel
theorem dX10_distance_133 : decode mX10_distance.2.1 133 = .ok (.isub, 1) := by decide +kernel
theorem dX10_distance_134 : decode mX10_distance.2.1 134 = .ok (.iaload, 1) := by decide +kernel
theorem dX10_distance_135 : decode mX10_distance.2.1 135 = .ok (.invokestatic 142, 3) := by decide +kernel
theorem dX10_distance_138 : decode mX10_distance.2.1 138 = .ok (.iadd, 1) := by decide +kernel
theorem dX10_distance_139 : decode mX10_distance.2.1 139 = .ok (.goto 5, 3) := by decide +kernel
theorem dX10_distance_142 : decode mX10_distance.2.1 142 = .ok (.iload 5, 2) := by decide +kernel
theorem dX10_distance_144 : decode mX10_distance.2.1 144 = .ok (.istore 6, 2) := by decide +kernel
theorem dX10_distance_146 : decode mX10_distance.2.1 146 = .ok (.aload_n 0, 1) := by decide +kernel
theorem dX10_distance_147 : decode mX10_distance.2.1 147 = .ok (.getfield 49, 3) := by decide +kernel
theorem dX10_distance_150 : decode mX10_distance.2.1 150 = .ok (.bipush 9, 2) := by decide +kernel
theorem dX10_distance_152 : decode mX10_distance.2.1 152 = .ok (.iload_n 3, 1) := by decide +kernel
theorem dX10_distance_153 : decode mX10_distance.2.1 153 = .ok (.imul, 1) := by decide +kernel
theorem dX10_distance_154 : decode mX10_distance.2.1 154 = .ok (.iload 4, 2) := by decide +kernel
theorem dX10_distance_156 : decode mX10_distance.2.1 156 = .ok (.iadd, 1) := by decide +kernel
theorem dX10_distance_157 : decode mX10_distance.2.1 157 = .ok (.iload 5, 2) := by decide +kernel
theorem dX10_distance_159 : decode mX10_distance.2.1 159 = .ok (.iload 6, 2) := by decide +kernel
theorem dX10_distance_161 : decode mX10_distance.2.1 161 = .ok (.invokestatic 138, 3) := by decide +kernel
theorem dX10_distance_164 : decode mX10_distance.2.1 164 = .ok (.iastore, 1) := by decide +kernel
theorem dX10_distance_165 : decode mX10_distance.2.1 165 = .ok (.iinc 4 1, 3) := by decide +kernel
theorem dX10_distance_168 : decode mX10_distance.2.1 168 = .ok (.goto (-153), 3) := by decide +kernel
theorem dX10_distance_171 : decode mX10_distance.2.1 171 = .ok (.iinc 3 1, 3) := by decide +kernel
theorem dX10_distance_174 : decode mX10_distance.2.1 174 = .ok (.goto (-172), 3) := by decide +kernel
theorem dX10_distance_177 : decode mX10_distance.2.1 177 = .ok (.aload_n 0, 1) := by decide +kernel
theorem dX10_distance_178 : decode mX10_distance.2.1 178 = .ok (.getfield 49, 3) := by decide +kernel
theorem dX10_distance_181 : decode mX10_distance.2.1 181 = .ok (.bipush 9, 2) := by decide +kernel
theorem dX10_distance_183 : decode mX10_distance.2.1 183 = .ok (.aload_n 0, 1) := by decide +kernel
theorem dX10_distance_184 : decode mX10_distance.2.1 184 = .ok (.getfield 22, 3) := by decide +kernel
theorem dX10_distance_187 : decode mX10_distance.2.1 187 = .ok (.iload_n 1, 1) := by decide +kernel
theorem dX10_distance_188 : decode mX10_distance.2.1 188 = .ok (.iaload, 1) := by decide +kernel
theorem dX10_distance_189 : decode mX10_distance.2.1 189 = .ok (.imul, 1) := by decide +kernel
theorem dX10_distance_190 : decode mX10_distance.2.1 190 = .ok (.aload_n 0, 1) := by decide +kernel
theorem dX10_distance_191 : decode mX10_distance.2.1 191 = .ok (.getfield 22, 3) := by decide +kernel
theorem dX10_distance_194 : decode mX10_distance.2.1 194 = .ok (.iload_n 2, 1) := by decide +kernel
theorem dX10_distance_195 : decode mX10_distance.2.1 195 = .ok (.iaload, 1) := by decide +kernel
theorem dX10_distance_196 : decode mX10_distance.2.1 196 = .ok (.iadd, 1) := by decide +kernel
theorem dX10_distance_197 : decode mX10_distance.2.1 197 = .ok (.iaload, 1) := by decide +kernel
theorem dX10_distance_198 : decode mX10_distance.2.1 198 = .ok (.ireturn, 1) := by decide +kernel
theorem dX10_likeness_0 : decode mX10_likeness.2.1 0 = .ok (.sipush 1000, 3) := by decide +kernel
theorem dX10_likeness_3 : decode mX10_likeness.2.1 3 = .ok (.sipush 1000, 3) := by decide +kernel
theorem dX10_likeness_6 : decode mX10_likeness.2.1 6 = .ok (.aload_n 0, 1) := by decide +kernel
theorem dX10_likeness_7 : decode mX10_likeness.2.1 7 = .ok (.iload_n 1, 1) := by decide +kernel
theorem dX10_likeness_8 : decode mX10_likeness.2.1 8 = .ok (.iload_n 2, 1) := by decide +kernel
theorem dX10_likeness_9 : decode mX10_likeness.2.1 9 = .ok (.invokevirtual 145, 3) := by decide +kernel
theorem dX10_likeness_12 : decode mX10_likeness.2.1 12 = .ok (.imul, 1) := by decide +kernel
theorem dX10_likeness_13 : decode mX10_likeness.2.1 13 = .ok (.iconst 2, 1) := by decide +kernel
theorem dX10_likeness_14 : decode mX10_likeness.2.1 14 = .ok (.aload_n 0, 1) := by decide +kernel
theorem dX10_likeness_15 : decode mX10_likeness.2.1 15 = .ok (.getfield 22, 3) := by decide +kernel
theorem dX10_likeness_18 : decode mX10_likeness.2.1 18 = .ok (.iload_n 1, 1) := by decide +kernel
theorem dX10_likeness_19 : decode mX10_likeness.2.1 19 = .ok (.iaload, 1) := by decide +kernel
theorem dX10_likeness_20 : decode mX10_likeness.2.1 20 = .ok (.aload_n 0, 1) := by decide +kernel
theorem dX10_likeness_21 : decode mX10_likeness.2.1 21 = .ok (.getfield 22, 3) := by decide +kernel
theorem dX10_likeness_24 : decode mX10_likeness.2.1 24 = .ok (.iload_n 2, 1) := by decide +kernel
theorem dX10_likeness_25 : decode mX10_likeness.2.1 25 = .ok (.iaload, 1) := by decide +kernel
theorem dX10_likeness_26 : decode mX10_likeness.2.1 26 = .ok (.invokestatic 148, 3) := by decide +kernel
theorem dX10_likeness_29 : decode mX10_likeness.2.1 29 = .ok (.imul, 1) := by decide +kernel
theorem dX10_likeness_30 : decode mX10_likeness.2.1 30 = .ok (.idiv, 1) := by decide +kernel
theorem dX10_likeness_31 : decode mX10_likeness.2.1 31 = .ok (.isub, 1) := by decide +kernel
theorem dX10_likeness_32 : decode mX10_likeness.2.1 32 = .ok (.ireturn, 1) := by decide +kernel
theorem dX10_firstBorn_0 : decode mX10_firstBorn.2.1 0 = .ok (.aload_n 0, 1) := by decide +kernel
theorem dX10_firstBorn_1 : decode mX10_firstBorn.2.1 1 = .ok (.getfield 13, 3) := by decide +kernel
theorem dX10_firstBorn_4 : decode mX10_firstBorn.2.1 4 = .ok (.iload_n 1, 1) := by decide +kernel
theorem dX10_firstBorn_5 : decode mX10_firstBorn.2.1 5 = .ok (.iaload, 1) := by decide +kernel
theorem dX10_firstBorn_6 : decode mX10_firstBorn.2.1 6 = .ok (.ifCond .ne 10, 3) := by decide +kernel
theorem dX10_firstBorn_9 : decode mX10_firstBorn.2.1 9 = .ok (.aload_n 0, 1) := by decide +kernel
theorem dX10_firstBorn_10 : decode mX10_firstBorn.2.1 10 = .ok (.getfield 16, 3) := by decide +kernel
theorem dX10_firstBorn_13 : decode mX10_firstBorn.2.1 13 = .ok (.iload_n 1, 1) := by decide +kernel
theorem dX10_firstBorn_14 : decode mX10_firstBorn.2.1 14 = .ok (.iaload, 1) := by decide +kernel
theorem dX10_firstBorn_15 : decode mX10_firstBorn.2.1 15 = .ok (.ireturn, 1) := by decide +kernel
theorem dX10_firstBorn_16 : decode mX10_firstBorn.2.1 16 = .ok (.aload_n 0, 1) := by decide +kernel
theorem dX10_firstBorn_17 : decode mX10_firstBorn.2.1 17 = .ok (.getfield 19, 3) := by decide +kernel
theorem dX10_firstBorn_20 : decode mX10_firstBorn.2.1 20 = .ok (.iload_n 1, 1) := by decide +kernel
theorem dX10_firstBorn_21 : decode mX10_firstBorn.2.1 21 = .ok (.iaload, 1) := by decide +kernel
theorem dX10_firstBorn_22 : decode mX10_firstBorn.2.1 22 = .ok (.iconst (-1), 1) := by decide +kernel
theorem dX10_firstBorn_23 : decode mX10_firstBorn.2.1 23 = .ok (.if_icmp .eq 26, 3) := by decide +kernel
theorem dX10_firstBorn_26 : decode mX10_firstBorn.2.1 26 = .ok (.aload_n 0, 1) := by decide +kernel
theorem dX10_firstBorn_27 : decode mX10_firstBorn.2.1 27 = .ok (.getfield 16, 3) := by decide +kernel
theorem dX10_firstBorn_30 : decode mX10_firstBorn.2.1 30 = .ok (.iload_n 1, 1) := by decide +kernel
theorem dX10_firstBorn_31 : decode mX10_firstBorn.2.1 31 = .ok (.iaload, 1) := by decide +kernel
theorem dX10_firstBorn_32 : decode mX10_firstBorn.2.1 32 = .ok (.aload_n 0, 1) := by decide +kernel
theorem dX10_firstBorn_33 : decode mX10_firstBorn.2.1 33 = .ok (.getfield 19, 3) := by decide +kernel
theorem dX10_firstBorn_36 : decode mX10_firstBorn.2.1 36 = .ok (.iload_n 1, 1) := by decide +kernel
theorem dX10_firstBorn_37 : decode mX10_firstBorn.2.1 37 = .ok (.iaload, 1) := by decide +kernel
theorem dX10_firstBorn_38 : decode mX10_firstBorn.2.1 38 = .ok (.isub, 1) := by decide +kernel
theorem dX10_firstBorn_39 : decode mX10_firstBorn.2.1 39 = .ok (.iconst 1, 1) := by decide +kernel
theorem dX10_firstBorn_40 : decode mX10_firstBorn.2.1 40 = .ok (.isub, 1) := by decide +kernel
theorem dX10_firstBorn_41 : decode mX10_firstBorn.2.1 41 = .ok (.aload_n 0, 1) := by decide +kernel
theorem dX10_firstBorn_42 : decode mX10_firstBorn.2.1 42 = .ok (.getfield 31, 3) := by decide +kernel
theorem dX10_firstBorn_45 : decode mX10_firstBorn.2.1 45 = .ok (.iconst 1, 1) := by decide +kernel
theorem dX10_firstBorn_46 : decode mX10_firstBorn.2.1 46 = .ok (.iaload, 1) := by decide +kernel
theorem dX10_firstBorn_47 : decode mX10_firstBorn.2.1 47 = .ok (.isub, 1) := by decide +kernel
theorem dX10_firstBorn_48 : decode mX10_firstBorn.2.1 48 = .ok (.ireturn, 1) := by decide +kernel
theorem dX10_firstBorn_49 : decode mX10_firstBorn.2.1 49 = .ok (.aload_n 0, 1) := by decide +kernel
theorem dX10_firstBorn_50 : decode mX10_firstBorn.2.1 50 = .ok (.getfield 16, 3) := by decide +kernel
theorem dX10_firstBorn_53 : decode mX10_firstBorn.2.1 53 = .ok (.iload_n 1, 1) := by decide +kernel
theorem dX10_firstBorn_54 : decode mX10_firstBorn.2.1 54 = .ok (.iaload, 1) := by decide +kernel
theorem dX10_firstBorn_55 : decode mX10_firstBorn.2.1 55 = .ok (.aload_n 0, 1) := by decide +kernel
theorem dX10_firstBorn_56 : decode mX10_firstBorn.2.1 56 = .ok (.getfield 13, 3) := by decide +kernel
theorem dX10_firstBorn_59 : decode mX10_firstBorn.2.1 59 = .ok (.iload_n 1, 1) := by decide +kernel
theorem dX10_firstBorn_60 : decode mX10_firstBorn.2.1 60 = .ok (.iaload, 1) := by decide +kernel
theorem dX10_firstBorn_61 : decode mX10_firstBorn.2.1 61 = .ok (.iconst 1, 1) := by decide +kernel
theorem dX10_firstBorn_62 : decode mX10_firstBorn.2.1 62 = .ok (.if_icmp .ne 8, 3) := by decide +kernel
theorem dX10_firstBorn_65 : decode mX10_firstBorn.2.1 65 = .ok (.bipush 60, 2) := by decide +kernel
theorem dX10_firstBorn_67 : decode mX10_firstBorn.2.1 67 = .ok (.goto 5, 3) := by decide +kernel
theorem dX10_firstBorn_70 : decode mX10_firstBorn.2.1 70 = .ok (.bipush 100, 2) := by decide +kernel
theorem dX10_firstBorn_72 : decode mX10_firstBorn.2.1 72 = .ok (.isub, 1) := by decide +kernel
theorem dX10_firstBorn_73 : decode mX10_firstBorn.2.1 73 = .ok (.ireturn, 1) := by decide +kernel
theorem dX10_lastBorn_0 : decode mX10_lastBorn.2.1 0 = .ok (.aload_n 0, 1) := by decide +kernel
theorem dX10_lastBorn_1 : decode mX10_lastBorn.2.1 1 = .ok (.getfield 13, 3) := by decide +kernel
theorem dX10_lastBorn_4 : decode mX10_lastBorn.2.1 4 = .ok (.iload_n 1, 1) := by decide +kernel
theorem dX10_lastBorn_5 : decode mX10_lastBorn.2.1 5 = .ok (.iaload, 1) := by decide +kernel
theorem dX10_lastBorn_6 : decode mX10_lastBorn.2.1 6 = .ok (.ifCond .ne 10, 3) := by decide +kernel
theorem dX10_lastBorn_9 : decode mX10_lastBorn.2.1 9 = .ok (.aload_n 0, 1) := by decide +kernel
theorem dX10_lastBorn_10 : decode mX10_lastBorn.2.1 10 = .ok (.getfield 16, 3) := by decide +kernel
theorem dX10_lastBorn_13 : decode mX10_lastBorn.2.1 13 = .ok (.iload_n 1, 1) := by decide +kernel
theorem dX10_lastBorn_14 : decode mX10_lastBorn.2.1 14 = .ok (.iaload, 1) := by decide +kernel
theorem dX10_lastBorn_15 : decode mX10_lastBorn.2.1 15 = .ok (.ireturn, 1) := by decide +kernel
theorem dX10_lastBorn_16 : decode mX10_lastBorn.2.1 16 = .ok (.aload_n 0, 1) := by decide +kernel
theorem dX10_lastBorn_17 : decode mX10_lastBorn.2.1 17 = .ok (.getfield 19, 3) := by decide +kernel
theorem dX10_lastBorn_20 : decode mX10_lastBorn.2.1 20 = .ok (.iload_n 1, 1) := by decide +kernel
theorem dX10_lastBorn_21 : decode mX10_lastBorn.2.1 21 = .ok (.iaload, 1) := by decide +kernel
theorem dX10_lastBorn_22 : decode mX10_lastBorn.2.1 22 = .ok (.iconst (-1), 1) := by decide +kernel
theorem dX10_lastBorn_23 : decode mX10_lastBorn.2.1 23 = .ok (.if_icmp .eq 24, 3) := by decide +kernel
theorem dX10_lastBorn_26 : decode mX10_lastBorn.2.1 26 = .ok (.aload_n 0, 1) := by decide +kernel
theorem dX10_lastBorn_27 : decode mX10_lastBorn.2.1 27 = .ok (.getfield 16, 3) := by decide +kernel
theorem dX10_lastBorn_30 : decode mX10_lastBorn.2.1 30 = .ok (.iload_n 1, 1) := by decide +kernel
theorem dX10_lastBorn_31 : decode mX10_lastBorn.2.1 31 = .ok (.iaload, 1) := by decide +kernel
theorem dX10_lastBorn_32 : decode mX10_lastBorn.2.1 32 = .ok (.aload_n 0, 1) := by decide +kernel
theorem dX10_lastBorn_33 : decode mX10_lastBorn.2.1 33 = .ok (.getfield 19, 3) := by decide +kernel
theorem dX10_lastBorn_36 : decode mX10_lastBorn.2.1 36 = .ok (.iload_n 1, 1) := by decide +kernel
theorem dX10_lastBorn_37 : decode mX10_lastBorn.2.1 37 = .ok (.iaload, 1) := by decide +kernel
theorem dX10_lastBorn_38 : decode mX10_lastBorn.2.1 38 = .ok (.isub, 1) := by decide +kernel
theorem dX10_lastBorn_39 : decode mX10_lastBorn.2.1 39 = .ok (.aload_n 0, 1) := by decide +kernel
theorem dX10_lastBorn_40 : decode mX10_lastBorn.2.1 40 = .ok (.getfield 31, 3) := by decide +kernel
theorem dX10_lastBorn_43 : decode mX10_lastBorn.2.1 43 = .ok (.iconst 1, 1) := by decide +kernel
theorem dX10_lastBorn_44 : decode mX10_lastBorn.2.1 44 = .ok (.iaload, 1) := by decide +kernel
theorem dX10_lastBorn_45 : decode mX10_lastBorn.2.1 45 = .ok (.iadd, 1) := by decide +kernel
theorem dX10_lastBorn_46 : decode mX10_lastBorn.2.1 46 = .ok (.ireturn, 1) := by decide +kernel
theorem dX10_lastBorn_47 : decode mX10_lastBorn.2.1 47 = .ok (.aload_n 0, 1) := by decide +kernel
theorem dX10_lastBorn_48 : decode mX10_lastBorn.2.1 48 = .ok (.getfield 16, 3) := by decide +kernel
theorem dX10_lastBorn_51 : decode mX10_lastBorn.2.1 51 = .ok (.iload_n 1, 1) := by decide +kernel
theorem dX10_lastBorn_52 : decode mX10_lastBorn.2.1 52 = .ok (.iaload, 1) := by decide +kernel
theorem dX10_lastBorn_53 : decode mX10_lastBorn.2.1 53 = .ok (.aload_n 0, 1) := by decide +kernel
theorem dX10_lastBorn_54 : decode mX10_lastBorn.2.1 54 = .ok (.getfield 13, 3) := by decide +kernel
theorem dX10_lastBorn_57 : decode mX10_lastBorn.2.1 57 = .ok (.iload_n 1, 1) := by decide +kernel
theorem dX10_lastBorn_58 : decode mX10_lastBorn.2.1 58 = .ok (.iaload, 1) := by decide +kernel
theorem dX10_lastBorn_59 : decode mX10_lastBorn.2.1 59 = .ok (.iconst 1, 1) := by decide +kernel
theorem dX10_lastBorn_60 : decode mX10_lastBorn.2.1 60 = .ok (.if_icmp .ne 8, 3) := by decide +kernel
theorem dX10_lastBorn_63 : decode mX10_lastBorn.2.1 63 = .ok (.bipush 14, 2) := by decide +kernel
theorem dX10_lastBorn_65 : decode mX10_lastBorn.2.1 65 = .ok (.goto 4, 3) := by decide +kernel
theorem dX10_lastBorn_68 : decode mX10_lastBorn.2.1 68 = .ok (.iconst 0, 1) := by decide +kernel
theorem dX10_lastBorn_69 : decode mX10_lastBorn.2.1 69 = .ok (.isub, 1) := by decide +kernel
theorem dX10_lastBorn_70 : decode mX10_lastBorn.2.1 70 = .ok (.ireturn, 1) := by decide +kernel
theorem dX10_yearsOf_0 : decode mX10_yearsOf.2.1 0 = .ok (.aload_n 0, 1) := by decide +kernel
theorem dX10_yearsOf_1 : decode mX10_yearsOf.2.1 1 = .ok (.iload_n 1, 1) := by decide +kernel
theorem dX10_yearsOf_2 : decode mX10_yearsOf.2.1 2 = .ok (.invokevirtual 151, 3) := by decide +kernel
theorem dX10_yearsOf_5 : decode mX10_yearsOf.2.1 5 = .ok (.aload_n 0, 1) := by decide +kernel
theorem dX10_yearsOf_6 : decode mX10_yearsOf.2.1 6 = .ok (.iload_n 2, 1) := by decide +kernel
theorem dX10_yearsOf_7 : decode mX10_yearsOf.2.1 7 = .ok (.invokevirtual 151, 3) := by decide +kernel
theorem dX10_yearsOf_10 : decode mX10_yearsOf.2.1 10 = .ok (.invokestatic 148, 3) := by decide +kernel
theorem dX10_yearsOf_13 : decode mX10_yearsOf.2.1 13 = .ok (.istore_n 3, 1) := by decide +kernel
theorem dX10_yearsOf_14 : decode mX10_yearsOf.2.1 14 = .ok (.aload_n 0, 1) := by decide +kernel
theorem dX10_yearsOf_15 : decode mX10_yearsOf.2.1 15 = .ok (.iload_n 1, 1) := by decide +kernel
theorem dX10_yearsOf_16 : decode mX10_yearsOf.2.1 16 = .ok (.invokevirtual 154, 3) := by decide +kernel
theorem dX10_yearsOf_19 : decode mX10_yearsOf.2.1 19 = .ok (.aload_n 0, 1) := by decide +kernel
theorem dX10_yearsOf_20 : decode mX10_yearsOf.2.1 20 = .ok (.iload_n 2, 1) := by decide +kernel
theorem dX10_yearsOf_21 : decode mX10_yearsOf.2.1 21 = .ok (.invokevirtual 154, 3) := by decide +kernel
theorem dX10_yearsOf_24 : decode mX10_yearsOf.2.1 24 = .ok (.invokestatic 138, 3) := by decide +kernel
theorem dX10_yearsOf_27 : decode mX10_yearsOf.2.1 27 = .ok (.istore 4, 2) := by decide +kernel
theorem dX10_yearsOf_29 : decode mX10_yearsOf.2.1 29 = .ok (.iload 4, 2) := by decide +kernel
theorem dX10_yearsOf_31 : decode mX10_yearsOf.2.1 31 = .ok (.iload_n 3, 1) := by decide +kernel
theorem dX10_yearsOf_32 : decode mX10_yearsOf.2.1 32 = .ok (.if_icmp .ge 7, 3) := by decide +kernel
theorem dX10_yearsOf_35 : decode mX10_yearsOf.2.1 35 = .ok (.iconst 0, 1) := by decide +kernel
theorem dX10_yearsOf_36 : decode mX10_yearsOf.2.1 36 = .ok (.goto 9, 3) := by decide +kernel
theorem dX10_yearsOf_39 : decode mX10_yearsOf.2.1 39 = .ok (.iload 4, 2) := by decide +kernel
theorem dX10_yearsOf_41 : decode mX10_yearsOf.2.1 41 = .ok (.iload_n 3, 1) := by decide +kernel
theorem dX10_yearsOf_42 : decode mX10_yearsOf.2.1 42 = .ok (.isub, 1) := by decide +kernel
theorem dX10_yearsOf_43 : decode mX10_yearsOf.2.1 43 = .ok (.iconst 1, 1) := by decide +kernel
theorem dX10_yearsOf_44 : decode mX10_yearsOf.2.1 44 = .ok (.iadd, 1) := by decide +kernel
theorem dX10_yearsOf_45 : decode mX10_yearsOf.2.1 45 = .ok (.ireturn, 1) := by decide +kernel
theorem dX10_isParted_0 : decode mX10_isParted.2.1 0 = .ok (.aload_n 0, 1) := by decide +kernel
theorem dX10_isParted_1 : decode mX10_isParted.2.1 1 = .ok (.getfield 28, 3) := by decide +kernel
theorem dX10_isParted_4 : decode mX10_isParted.2.1 4 = .ok (.iload_n 1, 1) := by decide +kernel
theorem dX10_isParted_5 : decode mX10_isParted.2.1 5 = .ok (.iaload, 1) := by decide +kernel
theorem dX10_isParted_6 : decode mX10_isParted.2.1 6 = .ok (.iload_n 2, 1) := by decide +kernel
theorem dX10_isParted_7 : decode mX10_isParted.2.1 7 = .ok (.ishr, 1) := by decide +kernel
theorem dX10_isParted_8 : decode mX10_isParted.2.1 8 = .ok (.iconst 1, 1) := by decide +kernel
theorem dX10_isParted_9 : decode mX10_isParted.2.1 9 = .ok (.iand, 1) := by decide +kernel
theorem dX10_isParted_10 : decode mX10_isParted.2.1 10 = .ok (.iconst 1, 1) := by decide +kernel
theorem dX10_isParted_11 : decode mX10_isParted.2.1 11 = .ok (.if_icmp .ne 7, 3) := by decide +kernel
theorem dX10_isParted_14 : decode mX10_isParted.2.1 14 = .ok (.iconst 1, 1) := by decide +kernel
theorem dX10_isParted_15 : decode mX10_isParted.2.1 15 = .ok (.goto 4, 3) := by decide +kernel
theorem dX10_isParted_18 : decode mX10_isParted.2.1 18 = .ok (.iconst 0, 1) := by decide +kernel
theorem dX10_isParted_19 : decode mX10_isParted.2.1 19 = .ok (.ireturn, 1) := by decide +kernel
theorem dX10_isOutOfOrder_0 : decode mX10_isOutOfOrder.2.1 0 = .ok (.aload_n 0, 1) := by decide +kernel
theorem dX10_isOutOfOrder_1 : decode mX10_isOutOfOrder.2.1 1 = .ok (.getfield 13, 3) := by decide +kernel
theorem dX10_isOutOfOrder_4 : decode mX10_isOutOfOrder.2.1 4 = .ok (.iload_n 1, 1) := by decide +kernel
theorem dX10_isOutOfOrder_5 : decode mX10_isOutOfOrder.2.1 5 = .ok (.iaload, 1) := by decide +kernel
theorem dX10_isOutOfOrder_6 : decode mX10_isOutOfOrder.2.1 6 = .ok (.ifCond .ne 22, 3) := by decide +kernel
theorem dX10_isOutOfOrder_9 : decode mX10_isOutOfOrder.2.1 9 = .ok (.aload_n 0, 1) := by decide +kernel
theorem dX10_isOutOfOrder_10 : decode mX10_isOutOfOrder.2.1 10 = .ok (.getfield 16, 3) := by decide +kernel
theorem dX10_isOutOfOrder_13 : decode mX10_isOutOfOrder.2.1 13 = .ok (.iload_n 1, 1) := by decide +kernel
theorem dX10_isOutOfOrder_14 : decode mX10_isOutOfOrder.2.1 14 = .ok (.iaload, 1) := by decide +kernel
theorem dX10_isOutOfOrder_15 : decode mX10_isOutOfOrder.2.1 15 = .ok (.aload_n 0, 1) := by decide +kernel
theorem dX10_isOutOfOrder_16 : decode mX10_isOutOfOrder.2.1 16 = .ok (.getfield 16, 3) := by decide +kernel
theorem dX10_isOutOfOrder_19 : decode mX10_isOutOfOrder.2.1 19 = .ok (.iload_n 2, 1) := by decide +kernel
theorem dX10_isOutOfOrder_20 : decode mX10_isOutOfOrder.2.1 20 = .ok (.iaload, 1) := by decide +kernel
theorem dX10_isOutOfOrder_21 : decode mX10_isOutOfOrder.2.1 21 = .ok (.if_icmp .le 7, 3) := by decide +kernel
theorem dX10_isOutOfOrder_24 : decode mX10_isOutOfOrder.2.1 24 = .ok (.iconst 1, 1) := by decide +kernel
theorem dX10_isOutOfOrder_25 : decode mX10_isOutOfOrder.2.1 25 = .ok (.goto 4, 3) := by decide +kernel
theorem dX10_isOutOfOrder_28 : decode mX10_isOutOfOrder.2.1 28 = .ok (.iconst 0, 1) := by decide +kernel
theorem dX10_isOutOfOrder_29 : decode mX10_isOutOfOrder.2.1 29 = .ok (.istore_n 3, 1) := by decide +kernel
theorem dX10_isOutOfOrder_30 : decode mX10_isOutOfOrder.2.1 30 = .ok (.aload_n 0, 1) := by decide +kernel
theorem dX10_isOutOfOrder_31 : decode mX10_isOutOfOrder.2.1 31 = .ok (.getfield 13, 3) := by decide +kernel
theorem dX10_isOutOfOrder_34 : decode mX10_isOutOfOrder.2.1 34 = .ok (.iload_n 1, 1) := by decide +kernel
theorem dX10_isOutOfOrder_35 : decode mX10_isOutOfOrder.2.1 35 = .ok (.iaload, 1) := by decide +kernel
theorem dX10_isOutOfOrder_36 : decode mX10_isOutOfOrder.2.1 36 = .ok (.iconst 2, 1) := by decide +kernel
theorem dX10_isOutOfOrder_37 : decode mX10_isOutOfOrder.2.1 37 = .ok (.if_icmp .ne 22, 3) := by decide +kernel
theorem dX10_isOutOfOrder_40 : decode mX10_isOutOfOrder.2.1 40 = .ok (.aload_n 0, 1) := by decide +kernel
theorem dX10_isOutOfOrder_41 : decode mX10_isOutOfOrder.2.1 41 = .ok (.getfield 16, 3) := by decide +kernel
theorem dX10_isOutOfOrder_44 : decode mX10_isOutOfOrder.2.1 44 = .ok (.iload_n 1, 1) := by decide +kernel
theorem dX10_isOutOfOrder_45 : decode mX10_isOutOfOrder.2.1 45 = .ok (.iaload, 1) := by decide +kernel
theorem dX10_isOutOfOrder_46 : decode mX10_isOutOfOrder.2.1 46 = .ok (.aload_n 0, 1) := by decide +kernel
theorem dX10_isOutOfOrder_47 : decode mX10_isOutOfOrder.2.1 47 = .ok (.getfield 16, 3) := by decide +kernel
theorem dX10_isOutOfOrder_50 : decode mX10_isOutOfOrder.2.1 50 = .ok (.iload_n 2, 1) := by decide +kernel
theorem dX10_isOutOfOrder_51 : decode mX10_isOutOfOrder.2.1 51 = .ok (.iaload, 1) := by decide +kernel
theorem dX10_isOutOfOrder_52 : decode mX10_isOutOfOrder.2.1 52 = .ok (.if_icmp .ge 7, 3) := by decide +kernel
theorem dX10_isOutOfOrder_55 : decode mX10_isOutOfOrder.2.1 55 = .ok (.iconst 1, 1) := by decide +kernel
theorem dX10_isOutOfOrder_56 : decode mX10_isOutOfOrder.2.1 56 = .ok (.goto 4, 3) := by decide +kernel
theorem dX10_isOutOfOrder_59 : decode mX10_isOutOfOrder.2.1 59 = .ok (.iconst 0, 1) := by decide +kernel
theorem dX10_isOutOfOrder_60 : decode mX10_isOutOfOrder.2.1 60 = .ok (.istore 4, 2) := by decide +kernel
theorem dX10_isOutOfOrder_62 : decode mX10_isOutOfOrder.2.1 62 = .ok (.iload_n 3, 1) := by decide +kernel
theorem dX10_isOutOfOrder_63 : decode mX10_isOutOfOrder.2.1 63 = .ok (.ifCond .ne 8, 3) := by decide +kernel
theorem dX10_isOutOfOrder_66 : decode mX10_isOutOfOrder.2.1 66 = .ok (.iload 4, 2) := by decide +kernel
theorem dX10_isOutOfOrder_68 : decode mX10_isOutOfOrder.2.1 68 = .ok (.ifCond .eq 7, 3) := by decide +kernel
theorem dX10_isOutOfOrder_71 : decode mX10_isOutOfOrder.2.1 71 = .ok (.iconst 1, 1) := by decide +kernel
theorem dX10_isOutOfOrder_72 : decode mX10_isOutOfOrder.2.1 72 = .ok (.goto 4, 3) := by decide +kernel
theorem dX10_isOutOfOrder_75 : decode mX10_isOutOfOrder.2.1 75 = .ok (.iconst 0, 1) := by decide +kernel
theorem dX10_isOutOfOrder_76 : decode mX10_isOutOfOrder.2.1 76 = .ok (.ireturn, 1) := by decide +kernel
theorem dX10_why_0 : decode mX10_why.2.1 0 = .ok (.aload_n 0, 1) := by decide +kernel
theorem dX10_why_1 : decode mX10_why.2.1 1 = .ok (.getfield 13, 3) := by decide +kernel
theorem dX10_why_4 : decode mX10_why.2.1 4 = .ok (.iload_n 1, 1) := by decide +kernel
theorem dX10_why_5 : decode mX10_why.2.1 5 = .ok (.iaload, 1) := by decide +kernel
theorem dX10_why_6 : decode mX10_why.2.1 6 = .ok (.aload_n 0, 1) := by decide +kernel
theorem dX10_why_7 : decode mX10_why.2.1 7 = .ok (.getfield 13, 3) := by decide +kernel
theorem dX10_why_10 : decode mX10_why.2.1 10 = .ok (.iload_n 2, 1) := by decide +kernel
theorem dX10_why_11 : decode mX10_why.2.1 11 = .ok (.iaload, 1) := by decide +kernel
theorem dX10_why_12 : decode mX10_why.2.1 12 = .ok (.if_icmp .ne 28, 3) := by decide +kernel
theorem dX10_why_15 : decode mX10_why.2.1 15 = .ok (.aload_n 0, 1) := by decide +kernel
theorem dX10_why_16 : decode mX10_why.2.1 16 = .ok (.getfield 13, 3) := by decide +kernel
theorem dX10_why_19 : decode mX10_why.2.1 19 = .ok (.iload_n 1, 1) := by decide +kernel
theorem dX10_why_20 : decode mX10_why.2.1 20 = .ok (.iaload, 1) := by decide +kernel
theorem dX10_why_21 : decode mX10_why.2.1 21 = .ok (.iconst 1, 1) := by decide +kernel
theorem dX10_why_22 : decode mX10_why.2.1 22 = .ok (.if_icmp .eq 18, 3) := by decide +kernel
theorem dX10_why_25 : decode mX10_why.2.1 25 = .ok (.aload_n 0, 1) := by decide +kernel
theorem dX10_why_26 : decode mX10_why.2.1 26 = .ok (.getfield 13, 3) := by decide +kernel
theorem dX10_why_29 : decode mX10_why.2.1 29 = .ok (.iload_n 1, 1) := by decide +kernel
theorem dX10_why_30 : decode mX10_why.2.1 30 = .ok (.iaload, 1) := by decide +kernel
theorem dX10_why_31 : decode mX10_why.2.1 31 = .ok (.ifCond .ne 7, 3) := by decide +kernel
theorem dX10_why_34 : decode mX10_why.2.1 34 = .ok (.iconst 1, 1) := by decide +kernel
theorem dX10_why_35 : decode mX10_why.2.1 35 = .ok (.goto 4, 3) := by decide +kernel
theorem dX10_why_38 : decode mX10_why.2.1 38 = .ok (.iconst 2, 1) := by decide +kernel
theorem dX10_why_39 : decode mX10_why.2.1 39 = .ok (.ireturn, 1) := by decide +kernel
theorem dX10_why_40 : decode mX10_why.2.1 40 = .ok (.aload_n 0, 1) := by decide +kernel
theorem dX10_why_41 : decode mX10_why.2.1 41 = .ok (.iload_n 1, 1) := by decide +kernel
theorem dX10_why_42 : decode mX10_why.2.1 42 = .ok (.iload_n 2, 1) := by decide +kernel
theorem dX10_why_43 : decode mX10_why.2.1 43 = .ok (.invokevirtual 157, 3) := by decide +kernel
theorem dX10_why_46 : decode mX10_why.2.1 46 = .ok (.ifCond .eq 5, 3) := by decide +kernel
theorem dX10_why_49 : decode mX10_why.2.1 49 = .ok (.iconst 3, 1) := by decide +kernel
theorem dX10_why_50 : decode mX10_why.2.1 50 = .ok (.ireturn, 1) := by decide +kernel
theorem dX10_why_51 : decode mX10_why.2.1 51 = .ok (.aload_n 0, 1) := by decide +kernel
theorem dX10_why_52 : decode mX10_why.2.1 52 = .ok (.iload_n 1, 1) := by decide +kernel
theorem dX10_why_53 : decode mX10_why.2.1 53 = .ok (.iload_n 2, 1) := by decide +kernel
theorem dX10_why_54 : decode mX10_why.2.1 54 = .ok (.invokevirtual 160, 3) := by decide +kernel
theorem dX10_why_57 : decode mX10_why.2.1 57 = .ok (.ifCond .ne 12, 3) := by decide +kernel
theorem dX10_why_60 : decode mX10_why.2.1 60 = .ok (.aload_n 0, 1) := by decide +kernel
theorem dX10_why_61 : decode mX10_why.2.1 61 = .ok (.iload_n 2, 1) := by decide +kernel
theorem dX10_why_62 : decode mX10_why.2.1 62 = .ok (.iload_n 1, 1) := by decide +kernel
theorem dX10_why_63 : decode mX10_why.2.1 63 = .ok (.invokevirtual 160, 3) := by decide +kernel
theorem dX10_why_66 : decode mX10_why.2.1 66 = .ok (.ifCond .eq 5, 3) := by decide +kernel
theorem dX10_why_69 : decode mX10_why.2.1 69 = .ok (.iconst 4, 1) := by decide +kernel
theorem dX10_why_70 : decode mX10_why.2.1 70 = .ok (.ireturn, 1) := by decide +kernel
theorem dX10_why_71 : decode mX10_why.2.1 71 = .ok (.aload_n 0, 1) := by decide +kernel
theorem dX10_why_72 : decode mX10_why.2.1 72 = .ok (.iload_n 1, 1) := by decide +kernel
theorem dX10_why_73 : decode mX10_why.2.1 73 = .ok (.iload_n 2, 1) := by decide +kernel
theorem dX10_why_74 : decode mX10_why.2.1 74 = .ok (.invokevirtual 163, 3) := by decide +kernel
theorem dX10_why_77 : decode mX10_why.2.1 77 = .ok (.ifCond .ne 5, 3) := by decide +kernel
theorem dX10_why_80 : decode mX10_why.2.1 80 = .ok (.iconst 5, 1) := by decide +kernel
theorem dX10_why_81 : decode mX10_why.2.1 81 = .ok (.ireturn, 1) := by decide +kernel
theorem dX10_why_82 : decode mX10_why.2.1 82 = .ok (.aload_n 0, 1) := by decide +kernel
theorem dX10_why_83 : decode mX10_why.2.1 83 = .ok (.iload_n 1, 1) := by decide +kernel
theorem dX10_why_84 : decode mX10_why.2.1 84 = .ok (.iload_n 2, 1) := by decide +kernel
theorem dX10_why_85 : decode mX10_why.2.1 85 = .ok (.invokevirtual 166, 3) := by decide +kernel
theorem dX10_why_88 : decode mX10_why.2.1 88 = .ok (.aload_n 0, 1) := by decide +kernel
theorem dX10_why_89 : decode mX10_why.2.1 89 = .ok (.getfield 31, 3) := by decide +kernel
theorem dX10_why_92 : decode mX10_why.2.1 92 = .ok (.iconst 0, 1) := by decide +kernel
theorem dX10_why_93 : decode mX10_why.2.1 93 = .ok (.iaload, 1) := by decide +kernel
theorem dX10_why_94 : decode mX10_why.2.1 94 = .ok (.if_icmp .ge 8, 3) := by decide +kernel
theorem dX10_why_97 : decode mX10_why.2.1 97 = .ok (.bipush 6, 2) := by decide +kernel
theorem dX10_why_99 : decode mX10_why.2.1 99 = .ok (.goto 4, 3) := by decide +kernel
theorem dX10_why_102 : decode mX10_why.2.1 102 = .ok (.iconst 0, 1) := by decide +kernel
theorem dX10_why_103 : decode mX10_why.2.1 103 = .ok (.ireturn, 1) := by decide +kernel
theorem dX10_isFit_0 : decode mX10_isFit.2.1 0 = .ok (.aload_n 0, 1) := by decide +kernel
theorem dX10_isFit_1 : decode mX10_isFit.2.1 1 = .ok (.iload_n 1, 1) := by decide +kernel
theorem dX10_isFit_2 : decode mX10_isFit.2.1 2 = .ok (.iload_n 2, 1) := by decide +kernel
theorem dX10_isFit_3 : decode mX10_isFit.2.1 3 = .ok (.invokevirtual 169, 3) := by decide +kernel
theorem dX10_isFit_6 : decode mX10_isFit.2.1 6 = .ok (.ifCond .ne 7, 3) := by decide +kernel
theorem dX10_isFit_9 : decode mX10_isFit.2.1 9 = .ok (.iconst 1, 1) := by decide +kernel
theorem dX10_isFit_10 : decode mX10_isFit.2.1 10 = .ok (.goto 4, 3) := by decide +kernel
theorem dX10_isFit_13 : decode mX10_isFit.2.1 13 = .ok (.iconst 0, 1) := by decide +kernel
theorem dX10_isFit_14 : decode mX10_isFit.2.1 14 = .ok (.ireturn, 1) := by decide +kernel
theorem dX10_worthOf_0 : decode mX10_worthOf.2.1 0 = .ok (.aload_n 0, 1) := by decide +kernel
theorem dX10_worthOf_1 : decode mX10_worthOf.2.1 1 = .ok (.iload_n 1, 1) := by decide +kernel
theorem dX10_worthOf_2 : decode mX10_worthOf.2.1 2 = .ok (.iload_n 2, 1) := by decide +kernel
theorem dX10_worthOf_3 : decode mX10_worthOf.2.1 3 = .ok (.invokevirtual 172, 3) := by decide +kernel
theorem dX10_worthOf_6 : decode mX10_worthOf.2.1 6 = .ok (.ifCond .eq 23, 3) := by decide +kernel
theorem dX10_worthOf_9 : decode mX10_worthOf.2.1 9 = .ok (.aload_n 0, 1) := by decide +kernel
theorem dX10_worthOf_10 : decode mX10_worthOf.2.1 10 = .ok (.iload_n 1, 1) := by decide +kernel
theorem dX10_worthOf_11 : decode mX10_worthOf.2.1 11 = .ok (.iload_n 2, 1) := by decide +kernel
theorem dX10_worthOf_12 : decode mX10_worthOf.2.1 12 = .ok (.invokevirtual 166, 3) := by decide +kernel
theorem dX10_worthOf_15 : decode mX10_worthOf.2.1 15 = .ok (.sipush 200, 3) := by decide +kernel
theorem dX10_worthOf_18 : decode mX10_worthOf.2.1 18 = .ok (.aload_n 0, 1) := by decide +kernel
theorem dX10_worthOf_19 : decode mX10_worthOf.2.1 19 = .ok (.iload_n 1, 1) := by decide +kernel
theorem dX10_worthOf_20 : decode mX10_worthOf.2.1 20 = .ok (.iload_n 2, 1) := by decide +kernel
theorem dX10_worthOf_21 : decode mX10_worthOf.2.1 21 = .ok (.invokevirtual 163, 3) := by decide +kernel
theorem dX10_worthOf_24 : decode mX10_worthOf.2.1 24 = .ok (.idiv, 1) := by decide +kernel
theorem dX10_worthOf_25 : decode mX10_worthOf.2.1 25 = .ok (.iadd, 1) := by decide +kernel
theorem dX10_worthOf_26 : decode mX10_worthOf.2.1 26 = .ok (.goto 4, 3) := by decide +kernel
theorem dX10_worthOf_29 : decode mX10_worthOf.2.1 29 = .ok (.iconst (-1), 1) := by decide +kernel
theorem dX10_worthOf_30 : decode mX10_worthOf.2.1 30 = .ok (.ireturn, 1) := by decide +kernel
theorem dX10_isEntry_0 : decode mX10_isEntry.2.1 0 = .ok (.iload_n 1, 1) := by decide +kernel
theorem dX10_isEntry_1 : decode mX10_isEntry.2.1 1 = .ok (.iconst 0, 1) := by decide +kernel
theorem dX10_isEntry_2 : decode mX10_isEntry.2.1 2 = .ok (.aload_n 0, 1) := by decide +kernel
theorem dX10_isEntry_3 : decode mX10_isEntry.2.1 3 = .ok (.getfield 118, 3) := by decide +kernel
theorem dX10_isEntry_6 : decode mX10_isEntry.2.1 6 = .ok (.iconst 1, 1) := by decide +kernel
theorem dX10_isEntry_7 : decode mX10_isEntry.2.1 7 = .ok (.isub, 1) := by decide +kernel
theorem dX10_isEntry_8 : decode mX10_isEntry.2.1 8 = .ok (.invokestatic 76, 3) := by decide +kernel
theorem dX10_isEntry_11 : decode mX10_isEntry.2.1 11 = .ok (.ireturn, 1) := by decide +kernel
theorem dX10_twoNow_0 : decode mX10_twoNow.2.1 0 = .ok (.iload_n 3, 1) := by decide +kernel
theorem dX10_twoNow_1 : decode mX10_twoNow.2.1 1 = .ok (.tableswitch 59 0 3 #[31, 38, 45, 52], 31) := by decide +kernel
theorem dX10_twoNow_32 : decode mX10_twoNow.2.1 32 = .ok (.aload_n 0, 1) := by decide +kernel
theorem dX10_twoNow_33 : decode mX10_twoNow.2.1 33 = .ok (.iload_n 1, 1) := by decide +kernel
theorem dX10_twoNow_34 : decode mX10_twoNow.2.1 34 = .ok (.iload_n 2, 1) := by decide +kernel
theorem dX10_twoNow_35 : decode mX10_twoNow.2.1 35 = .ok (.invokevirtual 145, 3) := by decide +kernel
theorem dX10_twoNow_38 : decode mX10_twoNow.2.1 38 = .ok (.ireturn, 1) := by decide +kernel
theorem dX10_twoNow_39 : decode mX10_twoNow.2.1 39 = .ok (.aload_n 0, 1) := by decide +kernel
theorem dX10_twoNow_40 : decode mX10_twoNow.2.1 40 = .ok (.iload_n 1, 1) := by decide +kernel
theorem dX10_twoNow_41 : decode mX10_twoNow.2.1 41 = .ok (.iload_n 2, 1) := by decide +kernel
theorem dX10_twoNow_42 : decode mX10_twoNow.2.1 42 = .ok (.invokevirtual 166, 3) := by decide +kernel
theorem dX10_twoNow_45 : decode mX10_twoNow.2.1 45 = .ok (.ireturn, 1) := by decide +kernel
theorem dX10_twoNow_46 : decode mX10_twoNow.2.1 46 = .ok (.aload_n 0, 1) := by decide +kernel
theorem dX10_twoNow_47 : decode mX10_twoNow.2.1 47 = .ok (.iload_n 1, 1) := by decide +kernel
theorem dX10_twoNow_48 : decode mX10_twoNow.2.1 48 = .ok (.iload_n 2, 1) := by decide +kernel
theorem dX10_twoNow_49 : decode mX10_twoNow.2.1 49 = .ok (.invokevirtual 169, 3) := by decide +kernel
theorem dX10_twoNow_52 : decode mX10_twoNow.2.1 52 = .ok (.ireturn, 1) := by decide +kernel
theorem dX10_twoNow_53 : decode mX10_twoNow.2.1 53 = .ok (.aload_n 0, 1) := by decide +kernel
theorem dX10_twoNow_54 : decode mX10_twoNow.2.1 54 = .ok (.iload_n 1, 1) := by decide +kernel
theorem dX10_twoNow_55 : decode mX10_twoNow.2.1 55 = .ok (.iload_n 2, 1) := by decide +kernel
theorem dX10_twoNow_56 : decode mX10_twoNow.2.1 56 = .ok (.invokevirtual 175, 3) := by decide +kernel
theorem dX10_twoNow_59 : decode mX10_twoNow.2.1 59 = .ok (.ireturn, 1) := by decide +kernel
theorem dX10_twoNow_60 : decode mX10_twoNow.2.1 60 = .ok (.aload_n 0, 1) := by decide +kernel
theorem dX10_twoNow_61 : decode mX10_twoNow.2.1 61 = .ok (.iload_n 1, 1) := by decide +kernel
theorem dX10_twoNow_62 : decode mX10_twoNow.2.1 62 = .ok (.iload_n 2, 1) := by decide +kernel
theorem dX10_twoNow_63 : decode mX10_twoNow.2.1 63 = .ok (.invokevirtual 163, 3) := by decide +kernel
theorem dX10_twoNow_66 : decode mX10_twoNow.2.1 66 = .ok (.ireturn, 1) := by decide +kernel
theorem dX10_two_0 : decode mX10_two.2.1 0 = .ok (.aload_n 0, 1) := by decide +kernel
theorem dX10_two_1 : decode mX10_two.2.1 1 = .ok (.iload_n 1, 1) := by decide +kernel
theorem dX10_two_2 : decode mX10_two.2.1 2 = .ok (.invokevirtual 178, 3) := by decide +kernel
theorem dX10_two_5 : decode mX10_two.2.1 5 = .ok (.ifCond .eq 16, 3) := by decide +kernel
theorem dX10_two_8 : decode mX10_two.2.1 8 = .ok (.aload_n 0, 1) := by decide +kernel
theorem dX10_two_9 : decode mX10_two.2.1 9 = .ok (.iload_n 2, 1) := by decide +kernel
theorem dX10_two_10 : decode mX10_two.2.1 10 = .ok (.invokevirtual 178, 3) := by decide +kernel
theorem dX10_two_13 : decode mX10_two.2.1 13 = .ok (.ifCond .eq 8, 3) := by decide +kernel
theorem dX10_two_16 : decode mX10_two.2.1 16 = .ok (.iload_n 1, 1) := by decide +kernel
theorem dX10_two_17 : decode mX10_two.2.1 17 = .ok (.iload_n 2, 1) := by decide +kernel
theorem dX10_two_18 : decode mX10_two.2.1 18 = .ok (.if_icmp .ne 6, 3) := by decide +kernel
theorem dX10_two_21 : decode mX10_two.2.1 21 = .ok (.bipush (-101), 2) := by decide +kernel
theorem dX10_two_23 : decode mX10_two.2.1 23 = .ok (.ireturn, 1) := by decide +kernel
theorem dX10_two_24 : decode mX10_two.2.1 24 = .ok (.iload_n 3, 1) := by decide +kernel
theorem dX10_two_25 : decode mX10_two.2.1 25 = .ok (.iconst 0, 1) := by decide +kernel
theorem dX10_two_26 : decode mX10_two.2.1 26 = .ok (.iconst 4, 1) := by decide +kernel
theorem dX10_two_27 : decode mX10_two.2.1 27 = .ok (.invokestatic 76, 3) := by decide +kernel
theorem dX10_two_30 : decode mX10_two.2.1 30 = .ok (.ifCond .eq 13, 3) := by decide +kernel
theorem dX10_two_33 : decode mX10_two.2.1 33 = .ok (.aload_n 0, 1) := by decide +kernel
theorem dX10_two_34 : decode mX10_two.2.1 34 = .ok (.iload_n 1, 1) := by decide +kernel
theorem dX10_two_35 : decode mX10_two.2.1 35 = .ok (.iload_n 2, 1) := by decide +kernel
theorem dX10_two_36 : decode mX10_two.2.1 36 = .ok (.iload_n 3, 1) := by decide +kernel
theorem dX10_two_37 : decode mX10_two.2.1 37 = .ok (.invokevirtual 181, 3) := by decide +kernel
theorem dX10_two_40 : decode mX10_two.2.1 40 = .ok (.goto 5, 3) := by decide +kernel
theorem dX10_two_43 : decode mX10_two.2.1 43 = .ok (.bipush (-102), 2) := by decide +kernel
theorem dX10_two_45 : decode mX10_two.2.1 45 = .ok (.ireturn, 1) := by decide +kernel
theorem dX10_fitsNow_0 : decode mX10_fitsNow.2.1 0 = .ok (.iconst 0, 1) := by decide +kernel
theorem dX10_fitsNow_1 : decode mX10_fitsNow.2.1 1 = .ok (.istore_n 2, 1) := by decide +kernel
theorem dX10_fitsNow_2 : decode mX10_fitsNow.2.1 2 = .ok (.iconst 0, 1) := by decide +kernel
theorem dX10_fitsNow_3 : decode mX10_fitsNow.2.1 3 = .ok (.istore_n 3, 1) := by decide +kernel
theorem dX10_fitsNow_4 : decode mX10_fitsNow.2.1 4 = .ok (.iload_n 3, 1) := by decide +kernel
theorem dX10_fitsNow_5 : decode mX10_fitsNow.2.1 5 = .ok (.aload_n 0, 1) := by decide +kernel
theorem dX10_fitsNow_6 : decode mX10_fitsNow.2.1 6 = .ok (.getfield 118, 3) := by decide +kernel
theorem dX10_fitsNow_9 : decode mX10_fitsNow.2.1 9 = .ok (.if_icmp .ge 31, 3) := by decide +kernel
theorem dX10_fitsNow_12 : decode mX10_fitsNow.2.1 12 = .ok (.iload_n 2, 1) := by decide +kernel
theorem dX10_fitsNow_13 : decode mX10_fitsNow.2.1 13 = .ok (.iload_n 3, 1) := by decide +kernel
theorem dX10_fitsNow_14 : decode mX10_fitsNow.2.1 14 = .ok (.iload_n 1, 1) := by decide +kernel
theorem dX10_fitsNow_15 : decode mX10_fitsNow.2.1 15 = .ok (.if_icmp .eq 16, 3) := by decide +kernel
theorem dX10_fitsNow_18 : decode mX10_fitsNow.2.1 18 = .ok (.aload_n 0, 1) := by decide +kernel
theorem dX10_fitsNow_19 : decode mX10_fitsNow.2.1 19 = .ok (.iload_n 1, 1) := by decide +kernel
theorem dX10_fitsNow_20 : decode mX10_fitsNow.2.1 20 = .ok (.iload_n 3, 1) := by decide +kernel
theorem dX10_fitsNow_21 : decode mX10_fitsNow.2.1 21 = .ok (.invokevirtual 172, 3) := by decide +kernel
theorem dX10_fitsNow_24 : decode mX10_fitsNow.2.1 24 = .ok (.ifCond .eq 7, 3) := by decide +kernel
theorem dX10_fitsNow_27 : decode mX10_fitsNow.2.1 27 = .ok (.iconst 1, 1) := by decide +kernel
theorem dX10_fitsNow_28 : decode mX10_fitsNow.2.1 28 = .ok (.goto 4, 3) := by decide +kernel
theorem dX10_fitsNow_31 : decode mX10_fitsNow.2.1 31 = .ok (.iconst 0, 1) := by decide +kernel
theorem dX10_fitsNow_32 : decode mX10_fitsNow.2.1 32 = .ok (.iadd, 1) := by decide +kernel
theorem dX10_fitsNow_33 : decode mX10_fitsNow.2.1 33 = .ok (.istore_n 2, 1) := by decide +kernel
theorem dX10_fitsNow_34 : decode mX10_fitsNow.2.1 34 = .ok (.iinc 3 1, 3) := by decide +kernel
theorem dX10_fitsNow_37 : decode mX10_fitsNow.2.1 37 = .ok (.goto (-33), 3) := by decide +kernel
theorem dX10_fitsNow_40 : decode mX10_fitsNow.2.1 40 = .ok (.iload_n 2, 1) := by decide +kernel
theorem dX10_fitsNow_41 : decode mX10_fitsNow.2.1 41 = .ok (.ireturn, 1) := by decide +kernel
theorem dX10_fits_0 : decode mX10_fits.2.1 0 = .ok (.aload_n 0, 1) := by decide +kernel
theorem dX10_fits_1 : decode mX10_fits.2.1 1 = .ok (.iload_n 1, 1) := by decide +kernel
theorem dX10_fits_2 : decode mX10_fits.2.1 2 = .ok (.invokevirtual 178, 3) := by decide +kernel
theorem dX10_fits_5 : decode mX10_fits.2.1 5 = .ok (.ifCond .eq 11, 3) := by decide +kernel
theorem dX10_fits_8 : decode mX10_fits.2.1 8 = .ok (.aload_n 0, 1) := by decide +kernel
theorem dX10_fits_9 : decode mX10_fits.2.1 9 = .ok (.iload_n 1, 1) := by decide +kernel
theorem dX10_fits_10 : decode mX10_fits.2.1 10 = .ok (.invokevirtual 185, 3) := by decide +kernel
theorem dX10_fits_13 : decode mX10_fits.2.1 13 = .ok (.goto 5, 3) := by decide +kernel
theorem dX10_fits_16 : decode mX10_fits.2.1 16 = .ok (.bipush (-101), 2) := by decide +kernel
theorem dX10_fits_18 : decode mX10_fits.2.1 18 = .ok (.ireturn, 1) := by decide +kernel
theorem dX10_nearestNow_0 : decode mX10_nearestNow.2.1 0 = .ok (.iconst (-1), 1) := by decide +kernel
theorem dX10_nearestNow_1 : decode mX10_nearestNow.2.1 1 = .ok (.istore_n 2, 1) := by decide +kernel
theorem dX10_nearestNow_2 : decode mX10_nearestNow.2.1 2 = .ok (.iconst 0, 1) := by decide +kernel
theorem dX10_nearestNow_3 : decode mX10_nearestNow.2.1 3 = .ok (.istore_n 3, 1) := by decide +kernel
theorem dX10_nearestNow_4 : decode mX10_nearestNow.2.1 4 = .ok (.iload_n 3, 1) := by decide +kernel
theorem dX10_nearestNow_5 : decode mX10_nearestNow.2.1 5 = .ok (.aload_n 0, 1) := by decide +kernel
theorem dX10_nearestNow_6 : decode mX10_nearestNow.2.1 6 = .ok (.getfield 118, 3) := by decide +kernel
theorem dX10_nearestNow_9 : decode mX10_nearestNow.2.1 9 = .ok (.if_icmp .ge 61, 3) := by decide +kernel
theorem dX10_nearestNow_12 : decode mX10_nearestNow.2.1 12 = .ok (.iload_n 3, 1) := by decide +kernel
theorem dX10_nearestNow_13 : decode mX10_nearestNow.2.1 13 = .ok (.iload_n 1, 1) := by decide +kernel
theorem dX10_nearestNow_14 : decode mX10_nearestNow.2.1 14 = .ok (.if_icmp .eq 36, 3) := by decide +kernel
theorem dX10_nearestNow_17 : decode mX10_nearestNow.2.1 17 = .ok (.aload_n 0, 1) := by decide +kernel
theorem dX10_nearestNow_18 : decode mX10_nearestNow.2.1 18 = .ok (.iload_n 1, 1) := by decide +kernel
theorem dX10_nearestNow_19 : decode mX10_nearestNow.2.1 19 = .ok (.iload_n 3, 1) := by decide +kernel
theorem dX10_nearestNow_20 : decode mX10_nearestNow.2.1 20 = .ok (.invokevirtual 172, 3) := by decide +kernel
theorem dX10_nearestNow_23 : decode mX10_nearestNow.2.1 23 = .ok (.ifCond .eq 27, 3) := by decide +kernel
theorem dX10_nearestNow_26 : decode mX10_nearestNow.2.1 26 = .ok (.iload_n 2, 1) := by decide +kernel
theorem dX10_nearestNow_27 : decode mX10_nearestNow.2.1 27 = .ok (.iconst (-1), 1) := by decide +kernel
theorem dX10_nearestNow_28 : decode mX10_nearestNow.2.1 28 = .ok (.if_icmp .eq 18, 3) := by decide +kernel
theorem dX10_nearestNow_31 : decode mX10_nearestNow.2.1 31 = .ok (.aload_n 0, 1) := by decide +kernel
theorem dX10_nearestNow_32 : decode mX10_nearestNow.2.1 32 = .ok (.iload_n 1, 1) := by decide +kernel
theorem dX10_nearestNow_33 : decode mX10_nearestNow.2.1 33 = .ok (.iload_n 3, 1) := by decide +kernel
theorem dX10_nearestNow_34 : decode mX10_nearestNow.2.1 34 = .ok (.invokevirtual 175, 3) := by decide +kernel
theorem dX10_nearestNow_37 : decode mX10_nearestNow.2.1 37 = .ok (.aload_n 0, 1) := by decide +kernel
theorem dX10_nearestNow_38 : decode mX10_nearestNow.2.1 38 = .ok (.iload_n 1, 1) := by decide +kernel
theorem dX10_nearestNow_39 : decode mX10_nearestNow.2.1 39 = .ok (.iload_n 2, 1) := by decide +kernel
theorem dX10_nearestNow_40 : decode mX10_nearestNow.2.1 40 = .ok (.invokevirtual 175, 3) := by decide +kernel
theorem dX10_nearestNow_43 : decode mX10_nearestNow.2.1 43 = .ok (.if_icmp .le 7, 3) := by decide +kernel
theorem dX10_nearestNow_46 : decode mX10_nearestNow.2.1 46 = .ok (.iconst 1, 1) := by decide +kernel
theorem dX10_nearestNow_47 : decode mX10_nearestNow.2.1 47 = .ok (.goto 4, 3) := by decide +kernel
theorem dX10_nearestNow_50 : decode mX10_nearestNow.2.1 50 = .ok (.iconst 0, 1) := by decide +kernel
theorem dX10_nearestNow_51 : decode mX10_nearestNow.2.1 51 = .ok (.istore 4, 2) := by decide +kernel
theorem dX10_nearestNow_53 : decode mX10_nearestNow.2.1 53 = .ok (.iload 4, 2) := by decide +kernel
theorem dX10_nearestNow_55 : decode mX10_nearestNow.2.1 55 = .ok (.ifCond .eq 7, 3) := by decide +kernel
theorem dX10_nearestNow_58 : decode mX10_nearestNow.2.1 58 = .ok (.iload_n 3, 1) := by decide +kernel
theorem dX10_nearestNow_59 : decode mX10_nearestNow.2.1 59 = .ok (.goto 4, 3) := by decide +kernel
theorem dX10_nearestNow_62 : decode mX10_nearestNow.2.1 62 = .ok (.iload_n 2, 1) := by decide +kernel
theorem dX10_nearestNow_63 : decode mX10_nearestNow.2.1 63 = .ok (.istore_n 2, 1) := by decide +kernel
theorem dX10_nearestNow_64 : decode mX10_nearestNow.2.1 64 = .ok (.iinc 3 1, 3) := by decide +kernel
theorem dX10_nearestNow_67 : decode mX10_nearestNow.2.1 67 = .ok (.goto (-63), 3) := by decide +kernel
theorem dX10_nearestNow_70 : decode mX10_nearestNow.2.1 70 = .ok (.iload_n 2, 1) := by decide +kernel
theorem dX10_nearestNow_71 : decode mX10_nearestNow.2.1 71 = .ok (.ireturn, 1) := by decide +kernel
theorem dX10_nearest_0 : decode mX10_nearest.2.1 0 = .ok (.aload_n 0, 1) := by decide +kernel
theorem dX10_nearest_1 : decode mX10_nearest.2.1 1 = .ok (.iload_n 1, 1) := by decide +kernel
theorem dX10_nearest_2 : decode mX10_nearest.2.1 2 = .ok (.invokevirtual 178, 3) := by decide +kernel
theorem dX10_nearest_5 : decode mX10_nearest.2.1 5 = .ok (.ifCond .eq 11, 3) := by decide +kernel
theorem dX10_nearest_8 : decode mX10_nearest.2.1 8 = .ok (.aload_n 0, 1) := by decide +kernel
theorem dX10_nearest_9 : decode mX10_nearest.2.1 9 = .ok (.iload_n 1, 1) := by decide +kernel
theorem dX10_nearest_10 : decode mX10_nearest.2.1 10 = .ok (.invokevirtual 188, 3) := by decide +kernel
theorem dX10_nearest_13 : decode mX10_nearest.2.1 13 = .ok (.goto 5, 3) := by decide +kernel
theorem dX10_nearest_16 : decode mX10_nearest.2.1 16 = .ok (.bipush (-101), 2) := by decide +kernel
theorem dX10_nearest_18 : decode mX10_nearest.2.1 18 = .ok (.ireturn, 1) := by decide +kernel
theorem dX10_listKinds_0 : decode mX10_listKinds.2.1 0 = .ok (.aload_n 0, 1) := by decide +kernel
theorem dX10_listKinds_1 : decode mX10_listKinds.2.1 1 = .ok (.iconst 0, 1) := by decide +kernel
theorem dX10_listKinds_2 : decode mX10_listKinds.2.1 2 = .ok (.putfield 191, 3) := by decide +kernel
theorem dX10_listKinds_5 : decode mX10_listKinds.2.1 5 = .ok (.aload_n 0, 1) := by decide +kernel
theorem dX10_listKinds_6 : decode mX10_listKinds.2.1 6 = .ok (.iconst 0, 1) := by decide +kernel
theorem dX10_listKinds_7 : decode mX10_listKinds.2.1 7 = .ok (.putfield 194, 3) := by decide +kernel
theorem dX10_listKinds_10 : decode mX10_listKinds.2.1 10 = .ok (.iconst 0, 1) := by decide +kernel
theorem dX10_listKinds_11 : decode mX10_listKinds.2.1 11 = .ok (.istore_n 1, 1) := by decide +kernel
theorem dX10_listKinds_12 : decode mX10_listKinds.2.1 12 = .ok (.iload_n 1, 1) := by decide +kernel
theorem dX10_listKinds_13 : decode mX10_listKinds.2.1 13 = .ok (.aload_n 0, 1) := by decide +kernel
theorem dX10_listKinds_14 : decode mX10_listKinds.2.1 14 = .ok (.getfield 118, 3) := by decide +kernel
theorem dX10_listKinds_17 : decode mX10_listKinds.2.1 17 = .ok (.if_icmp .ge 71, 3) := by decide +kernel
theorem dX10_listKinds_20 : decode mX10_listKinds.2.1 20 = .ok (.aload_n 0, 1) := by decide +kernel
theorem dX10_listKinds_21 : decode mX10_listKinds.2.1 21 = .ok (.getfield 13, 3) := by decide +kernel
theorem dX10_listKinds_24 : decode mX10_listKinds.2.1 24 = .ok (.iload_n 1, 1) := by decide +kernel
theorem dX10_listKinds_25 : decode mX10_listKinds.2.1 25 = .ok (.iaload, 1) := by decide +kernel
theorem dX10_listKinds_26 : decode mX10_listKinds.2.1 26 = .ok (.ifCond .ne 26, 3) := by decide +kernel
theorem dX10_listKinds_29 : decode mX10_listKinds.2.1 29 = .ok (.aload_n 0, 1) := by decide +kernel
theorem dX10_listKinds_30 : decode mX10_listKinds.2.1 30 = .ok (.getfield 52, 3) := by decide +kernel
theorem dX10_listKinds_33 : decode mX10_listKinds.2.1 33 = .ok (.aload_n 0, 1) := by decide +kernel
theorem dX10_listKinds_34 : decode mX10_listKinds.2.1 34 = .ok (.getfield 191, 3) := by decide +kernel
theorem dX10_listKinds_37 : decode mX10_listKinds.2.1 37 = .ok (.iload_n 1, 1) := by decide +kernel
theorem dX10_listKinds_38 : decode mX10_listKinds.2.1 38 = .ok (.iastore, 1) := by decide +kernel
theorem dX10_listKinds_39 : decode mX10_listKinds.2.1 39 = .ok (.aload_n 0, 1) := by decide +kernel
theorem dX10_listKinds_40 : decode mX10_listKinds.2.1 40 = .ok (.dup, 1) := by decide +kernel
theorem dX10_listKinds_41 : decode mX10_listKinds.2.1 41 = .ok (.getfield 191, 3) := by decide +kernel
theorem dX10_listKinds_44 : decode mX10_listKinds.2.1 44 = .ok (.iconst 1, 1) := by decide +kernel
theorem dX10_listKinds_45 : decode mX10_listKinds.2.1 45 = .ok (.iadd, 1) := by decide +kernel
theorem dX10_listKinds_46 : decode mX10_listKinds.2.1 46 = .ok (.putfield 191, 3) := by decide +kernel
theorem dX10_listKinds_49 : decode mX10_listKinds.2.1 49 = .ok (.goto 33, 3) := by decide +kernel
theorem dX10_listKinds_52 : decode mX10_listKinds.2.1 52 = .ok (.aload_n 0, 1) := by decide +kernel
theorem dX10_listKinds_53 : decode mX10_listKinds.2.1 53 = .ok (.getfield 13, 3) := by decide +kernel
theorem dX10_listKinds_56 : decode mX10_listKinds.2.1 56 = .ok (.iload_n 1, 1) := by decide +kernel
theorem dX10_listKinds_57 : decode mX10_listKinds.2.1 57 = .ok (.iaload, 1) := by decide +kernel
theorem dX10_listKinds_58 : decode mX10_listKinds.2.1 58 = .ok (.iconst 2, 1) := by decide +kernel
theorem dX10_listKinds_59 : decode mX10_listKinds.2.1 59 = .ok (.if_icmp .ne 23, 3) := by decide +kernel
theorem dX10_listKinds_62 : decode mX10_listKinds.2.1 62 = .ok (.aload_n 0, 1) := by decide +kernel
theorem dX10_listKinds_63 : decode mX10_listKinds.2.1 63 = .ok (.getfield 55, 3) := by decide +kernel
theorem dX10_listKinds_66 : decode mX10_listKinds.2.1 66 = .ok (.aload_n 0, 1) := by decide +kernel
theorem dX10_listKinds_67 : decode mX10_listKinds.2.1 67 = .ok (.getfield 194, 3) := by decide +kernel
theorem dX10_listKinds_70 : decode mX10_listKinds.2.1 70 = .ok (.iload_n 1, 1) := by decide +kernel
theorem dX10_listKinds_71 : decode mX10_listKinds.2.1 71 = .ok (.iastore, 1) := by decide +kernel
theorem dX10_listKinds_72 : decode mX10_listKinds.2.1 72 = .ok (.aload_n 0, 1) := by decide +kernel
theorem dX10_listKinds_73 : decode mX10_listKinds.2.1 73 = .ok (.dup, 1) := by decide +kernel
theorem dX10_listKinds_74 : decode mX10_listKinds.2.1 74 = .ok (.getfield 194, 3) := by decide +kernel
theorem dX10_listKinds_77 : decode mX10_listKinds.2.1 77 = .ok (.iconst 1, 1) := by decide +kernel
theorem dX10_listKinds_78 : decode mX10_listKinds.2.1 78 = .ok (.iadd, 1) := by decide +kernel
theorem dX10_listKinds_79 : decode mX10_listKinds.2.1 79 = .ok (.putfield 194, 3) := by decide +kernel
theorem dX10_listKinds_82 : decode mX10_listKinds.2.1 82 = .ok (.iinc 1 1, 3) := by decide +kernel
theorem dX10_listKinds_85 : decode mX10_listKinds.2.1 85 = .ok (.goto (-73), 3) := by decide +kernel
theorem dX10_listKinds_88 : decode mX10_listKinds.2.1 88 = .ok (.return_, 1) := by decide +kernel
theorem dX10_bestWith_0 : decode mX10_bestWith.2.1 0 = .ok (.iload_n 3, 1) := by decide +kernel
theorem dX10_bestWith_1 : decode mX10_bestWith.2.1 1 = .ok (.iload_n 2, 1) := by decide +kernel
theorem dX10_bestWith_2 : decode mX10_bestWith.2.1 2 = .ok (.ishr, 1) := by decide +kernel
theorem dX10_bestWith_3 : decode mX10_bestWith.2.1 3 = .ok (.iconst 1, 1) := by decide +kernel
theorem dX10_bestWith_4 : decode mX10_bestWith.2.1 4 = .ok (.iand, 1) := by decide +kernel
theorem dX10_bestWith_5 : decode mX10_bestWith.2.1 5 = .ok (.ifCond .ne 26, 3) := by decide +kernel
theorem dX10_bestWith_8 : decode mX10_bestWith.2.1 8 = .ok (.aload_n 0, 1) := by decide +kernel
theorem dX10_bestWith_9 : decode mX10_bestWith.2.1 9 = .ok (.aload_n 0, 1) := by decide +kernel
theorem dX10_bestWith_10 : decode mX10_bestWith.2.1 10 = .ok (.getfield 52, 3) := by decide +kernel
theorem dX10_bestWith_13 : decode mX10_bestWith.2.1 13 = .ok (.iload_n 1, 1) := by decide +kernel
theorem dX10_bestWith_14 : decode mX10_bestWith.2.1 14 = .ok (.iaload, 1) := by decide +kernel
theorem dX10_bestWith_15 : decode mX10_bestWith.2.1 15 = .ok (.aload_n 0, 1) := by decide +kernel
theorem dX10_bestWith_16 : decode mX10_bestWith.2.1 16 = .ok (.getfield 55, 3) := by decide +kernel
theorem dX10_bestWith_19 : decode mX10_bestWith.2.1 19 = .ok (.iload_n 2, 1) := by decide +kernel
theorem dX10_bestWith_20 : decode mX10_bestWith.2.1 20 = .ok (.iaload, 1) := by decide +kernel
theorem dX10_bestWith_21 : decode mX10_bestWith.2.1 21 = .ok (.invokevirtual 172, 3) := by decide +kernel
theorem dX10_bestWith_24 : decode mX10_bestWith.2.1 24 = .ok (.ifCond .eq 7, 3) := by decide +kernel
theorem dX10_bestWith_27 : decode mX10_bestWith.2.1 27 = .ok (.iconst 1, 1) := by decide +kernel
theorem dX10_bestWith_28 : decode mX10_bestWith.2.1 28 = .ok (.goto 4, 3) := by decide +kernel
theorem dX10_bestWith_31 : decode mX10_bestWith.2.1 31 = .ok (.iconst 0, 1) := by decide +kernel
theorem dX10_bestWith_32 : decode mX10_bestWith.2.1 32 = .ok (.istore 4, 2) := by decide +kernel
theorem dX10_bestWith_34 : decode mX10_bestWith.2.1 34 = .ok (.iload 4, 2) := by decide +kernel
theorem dX10_bestWith_36 : decode mX10_bestWith.2.1 36 = .ok (.ifCond .eq 41, 3) := by decide +kernel
theorem dX10_bestWith_39 : decode mX10_bestWith.2.1 39 = .ok (.aload_n 0, 1) := by decide +kernel
theorem dX10_bestWith_40 : decode mX10_bestWith.2.1 40 = .ok (.aload_n 0, 1) := by decide +kernel
theorem dX10_bestWith_41 : decode mX10_bestWith.2.1 41 = .ok (.getfield 52, 3) := by decide +kernel
theorem dX10_bestWith_44 : decode mX10_bestWith.2.1 44 = .ok (.iload_n 1, 1) := by decide +kernel
theorem dX10_bestWith_45 : decode mX10_bestWith.2.1 45 = .ok (.iaload, 1) := by decide +kernel
theorem dX10_bestWith_46 : decode mX10_bestWith.2.1 46 = .ok (.aload_n 0, 1) := by decide +kernel
theorem dX10_bestWith_47 : decode mX10_bestWith.2.1 47 = .ok (.getfield 55, 3) := by decide +kernel
theorem dX10_bestWith_50 : decode mX10_bestWith.2.1 50 = .ok (.iload_n 2, 1) := by decide +kernel
theorem dX10_bestWith_51 : decode mX10_bestWith.2.1 51 = .ok (.iaload, 1) := by decide +kernel
theorem dX10_bestWith_52 : decode mX10_bestWith.2.1 52 = .ok (.invokevirtual 175, 3) := by decide +kernel
theorem dX10_bestWith_55 : decode mX10_bestWith.2.1 55 = .ok (.aload_n 0, 1) := by decide +kernel
theorem dX10_bestWith_56 : decode mX10_bestWith.2.1 56 = .ok (.getfield 58, 3) := by decide +kernel
theorem dX10_bestWith_59 : decode mX10_bestWith.2.1 59 = .ok (.sipush 128, 3) := by decide +kernel
theorem dX10_bestWith_62 : decode mX10_bestWith.2.1 62 = .ok (.iload_n 1, 1) := by decide +kernel
theorem dX10_bestWith_63 : decode mX10_bestWith.2.1 63 = .ok (.iconst 1, 1) := by decide +kernel
theorem dX10_bestWith_64 : decode mX10_bestWith.2.1 64 = .ok (.iadd, 1) := by decide +kernel
theorem dX10_bestWith_65 : decode mX10_bestWith.2.1 65 = .ok (.imul, 1) := by decide +kernel
theorem dX10_bestWith_66 : decode mX10_bestWith.2.1 66 = .ok (.iload_n 3, 1) := by decide +kernel
theorem dX10_bestWith_67 : decode mX10_bestWith.2.1 67 = .ok (.iconst 1, 1) := by decide +kernel
theorem dX10_bestWith_68 : decode mX10_bestWith.2.1 68 = .ok (.iload_n 2, 1) := by decide +kernel
theorem dX10_bestWith_69 : decode mX10_bestWith.2.1 69 = .ok (.ishl, 1) := by decide +kernel
theorem dX10_bestWith_70 : decode mX10_bestWith.2.1 70 = .ok (.ior, 1) := by decide +kernel
theorem dX10_bestWith_71 : decode mX10_bestWith.2.1 71 = .ok (.iadd, 1) := by decide +kernel
theorem dX10_bestWith_72 : decode mX10_bestWith.2.1 72 = .ok (.iaload, 1) := by decide +kernel
theorem dX10_bestWith_73 : decode mX10_bestWith.2.1 73 = .ok (.iadd, 1) := by decide +kernel
theorem dX10_bestWith_74 : decode mX10_bestWith.2.1 74 = .ok (.goto 4, 3) := by decide +kernel
theorem dX10_bestWith_77 : decode mX10_bestWith.2.1 77 = .ok (.iconst (-1), 1) := by decide +kernel
theorem dX10_bestWith_78 : decode mX10_bestWith.2.1 78 = .ok (.ireturn, 1) := by decide +kernel
theorem dX10_layBest_0 : decode mX10_layBest.2.1 0 = .ok (.iconst 0, 1) := by decide +kernel
theorem dX10_layBest_1 : decode mX10_layBest.2.1 1 = .ok (.istore_n 1, 1) := by decide +kernel
theorem dX10_layBest_2 : decode mX10_layBest.2.1 2 = .ok (.iload_n 1, 1) := by decide +kernel
theorem dX10_layBest_3 : decode mX10_layBest.2.1 3 = .ok (.sipush 128, 3) := by decide +kernel
theorem dX10_layBest_6 : decode mX10_layBest.2.1 6 = .ok (.if_icmp .ge 25, 3) := by decide +kernel
theorem dX10_layBest_9 : decode mX10_layBest.2.1 9 = .ok (.aload_n 0, 1) := by decide +kernel
theorem dX10_layBest_10 : decode mX10_layBest.2.1 10 = .ok (.getfield 58, 3) := by decide +kernel
theorem dX10_layBest_13 : decode mX10_layBest.2.1 13 = .ok (.sipush 128, 3) := by decide +kernel
theorem dX10_layBest_16 : decode mX10_layBest.2.1 16 = .ok (.aload_n 0, 1) := by decide +kernel
theorem dX10_layBest_17 : decode mX10_layBest.2.1 17 = .ok (.getfield 191, 3) := by decide +kernel
theorem dX10_layBest_20 : decode mX10_layBest.2.1 20 = .ok (.imul, 1) := by decide +kernel
theorem dX10_layBest_21 : decode mX10_layBest.2.1 21 = .ok (.iload_n 1, 1) := by decide +kernel
theorem dX10_layBest_22 : decode mX10_layBest.2.1 22 = .ok (.iadd, 1) := by decide +kernel
theorem dX10_layBest_23 : decode mX10_layBest.2.1 23 = .ok (.iconst 0, 1) := by decide +kernel
theorem dX10_layBest_24 : decode mX10_layBest.2.1 24 = .ok (.iastore, 1) := by decide +kernel
theorem dX10_layBest_25 : decode mX10_layBest.2.1 25 = .ok (.iinc 1 1, 3) := by decide +kernel
theorem dX10_layBest_28 : decode mX10_layBest.2.1 28 = .ok (.goto (-26), 3) := by decide +kernel
theorem dX10_layBest_31 : decode mX10_layBest.2.1 31 = .ok (.aload_n 0, 1) := by decide +kernel
theorem dX10_layBest_32 : decode mX10_layBest.2.1 32 = .ok (.getfield 191, 3) := by decide +kernel
theorem dX10_layBest_35 : decode mX10_layBest.2.1 35 = .ok (.iconst 1, 1) := by decide +kernel
theorem dX10_layBest_36 : decode mX10_layBest.2.1 36 = .ok (.isub, 1) := by decide +kernel
theorem dX10_layBest_37 : decode mX10_layBest.2.1 37 = .ok (.istore_n 1, 1) := by decide +kernel
theorem dX10_layBest_38 : decode mX10_layBest.2.1 38 = .ok (.iload_n 1, 1) := by decide +kernel
theorem dX10_layBest_39 : decode mX10_layBest.2.1 39 = .ok (.ifCond .lt 86, 3) := by decide +kernel
theorem dX10_layBest_42 : decode mX10_layBest.2.1 42 = .ok (.iconst 0, 1) := by decide +kernel
theorem dX10_layBest_43 : decode mX10_layBest.2.1 43 = .ok (.istore_n 2, 1) := by decide +kernel
theorem dX10_layBest_44 : decode mX10_layBest.2.1 44 = .ok (.iload_n 2, 1) := by decide +kernel
theorem dX10_layBest_45 : decode mX10_layBest.2.1 45 = .ok (.iconst 1, 1) := by decide +kernel
theorem dX10_layBest_46 : decode mX10_layBest.2.1 46 = .ok (.aload_n 0, 1) := by decide +kernel
theorem dX10_layBest_47 : decode mX10_layBest.2.1 47 = .ok (.getfield 194, 3) := by decide +kernel
theorem dX10_layBest_50 : decode mX10_layBest.2.1 50 = .ok (.ishl, 1) := by decide +kernel
theorem dX10_layBest_51 : decode mX10_layBest.2.1 51 = .ok (.if_icmp .ge 68, 3) := by decide +kernel
theorem dX10_layBest_54 : decode mX10_layBest.2.1 54 = .ok (.aload_n 0, 1) := by decide +kernel
theorem dX10_layBest_55 : decode mX10_layBest.2.1 55 = .ok (.getfield 58, 3) := by decide +kernel
theorem dX10_layBest_58 : decode mX10_layBest.2.1 58 = .ok (.sipush 128, 3) := by decide +kernel
theorem dX10_layBest_61 : decode mX10_layBest.2.1 61 = .ok (.iload_n 1, 1) := by decide +kernel
theorem dX10_layBest_62 : decode mX10_layBest.2.1 62 = .ok (.iconst 1, 1) := by decide +kernel
theorem dX10_layBest_63 : decode mX10_layBest.2.1 63 = .ok (.iadd, 1) := by decide +kernel
theorem dX10_layBest_64 : decode mX10_layBest.2.1 64 = .ok (.imul, 1) := by decide +kernel
theorem dX10_layBest_65 : decode mX10_layBest.2.1 65 = .ok (.iload_n 2, 1) := by decide +kernel
theorem dX10_layBest_66 : decode mX10_layBest.2.1 66 = .ok (.iadd, 1) := by decide +kernel
theorem dX10_layBest_67 : decode mX10_layBest.2.1 67 = .ok (.iaload, 1) := by decide +kernel
theorem dX10_layBest_68 : decode mX10_layBest.2.1 68 = .ok (.istore_n 3, 1) := by decide +kernel
theorem dX10_layBest_69 : decode mX10_layBest.2.1 69 = .ok (.iconst 0, 1) := by decide +kernel
theorem dX10_layBest_70 : decode mX10_layBest.2.1 70 = .ok (.istore 4, 2) := by decide +kernel
theorem dX10_layBest_72 : decode mX10_layBest.2.1 72 = .ok (.iload 4, 2) := by decide +kernel
theorem dX10_layBest_74 : decode mX10_layBest.2.1 74 = .ok (.aload_n 0, 1) := by decide +kernel
theorem dX10_layBest_75 : decode mX10_layBest.2.1 75 = .ok (.getfield 194, 3) := by decide +kernel
theorem dX10_layBest_78 : decode mX10_layBest.2.1 78 = .ok (.if_icmp .ge 22, 3) := by decide +kernel
theorem dX10_layBest_81 : decode mX10_layBest.2.1 81 = .ok (.iload_n 3, 1) := by decide +kernel
theorem dX10_layBest_82 : decode mX10_layBest.2.1 82 = .ok (.aload_n 0, 1) := by decide +kernel
theorem dX10_layBest_83 : decode mX10_layBest.2.1 83 = .ok (.iload_n 1, 1) := by decide +kernel
theorem dX10_layBest_84 : decode mX10_layBest.2.1 84 = .ok (.iload 4, 2) := by decide +kernel
theorem dX10_layBest_86 : decode mX10_layBest.2.1 86 = .ok (.iload_n 2, 1) := by decide +kernel
theorem dX10_layBest_87 : decode mX10_layBest.2.1 87 = .ok (.invokevirtual 197, 3) := by decide +kernel
theorem dX10_layBest_90 : decode mX10_layBest.2.1 90 = .ok (.invokestatic 148, 3) := by decide +kernel
theorem dX10_layBest_93 : decode mX10_layBest.2.1 93 = .ok (.istore_n 3, 1) := by decide +kernel
theorem dX10_layBest_94 : decode mX10_layBest.2.1 94 = .ok (.iinc 4 1, 3) := by decide +kernel
theorem dX10_layBest_97 : decode mX10_layBest.2.1 97 = .ok (.goto (-25), 3) := by decide +kernel
theorem dX10_layBest_100 : decode mX10_layBest.2.1 100 = .ok (.aload_n 0, 1) := by decide +kernel
theorem dX10_layBest_101 : decode mX10_layBest.2.1 101 = .ok (.getfield 58, 3) := by decide +kernel
theorem dX10_layBest_104 : decode mX10_layBest.2.1 104 = .ok (.sipush 128, 3) := by decide +kernel
theorem dX10_layBest_107 : decode mX10_layBest.2.1 107 = .ok (.iload_n 1, 1) := by decide +kernel
theorem dX10_layBest_108 : decode mX10_layBest.2.1 108 = .ok (.imul, 1) := by decide +kernel
theorem dX10_layBest_109 : decode mX10_layBest.2.1 109 = .ok (.iload_n 2, 1) := by decide +kernel
theorem dX10_layBest_110 : decode mX10_layBest.2.1 110 = .ok (.iadd, 1) := by decide +kernel
theorem dX10_layBest_111 : decode mX10_layBest.2.1 111 = .ok (.iload_n 3, 1) := by decide +kernel
theorem dX10_layBest_112 : decode mX10_layBest.2.1 112 = .ok (.iastore, 1) := by decide +kernel
theorem dX10_layBest_113 : decode mX10_layBest.2.1 113 = .ok (.iinc 2 1, 3) := by decide +kernel
theorem dX10_layBest_116 : decode mX10_layBest.2.1 116 = .ok (.goto (-72), 3) := by decide +kernel
theorem dX10_layBest_119 : decode mX10_layBest.2.1 119 = .ok (.iinc 1 (-1), 3) := by decide +kernel
theorem dX10_layBest_122 : decode mX10_layBest.2.1 122 = .ok (.goto (-84), 3) := by decide +kernel
theorem dX10_layBest_125 : decode mX10_layBest.2.1 125 = .ok (.return_, 1) := by decide +kernel
theorem dX10_layPairs_0 : decode mX10_layPairs.2.1 0 = .ok (.aload_n 0, 1) := by decide +kernel
theorem dX10_layPairs_1 : decode mX10_layPairs.2.1 1 = .ok (.invokevirtual 200, 3) := by decide +kernel
theorem dX10_layPairs_4 : decode mX10_layPairs.2.1 4 = .ok (.aload_n 0, 1) := by decide +kernel
theorem dX10_layPairs_5 : decode mX10_layPairs.2.1 5 = .ok (.invokevirtual 203, 3) := by decide +kernel
theorem dX10_layPairs_8 : decode mX10_layPairs.2.1 8 = .ok (.aload_n 0, 1) := by decide +kernel
theorem dX10_layPairs_9 : decode mX10_layPairs.2.1 9 = .ok (.iconst 0, 1) := by decide +kernel
theorem dX10_layPairs_10 : decode mX10_layPairs.2.1 10 = .ok (.putfield 206, 3) := by decide +kernel
theorem dX10_layPairs_13 : decode mX10_layPairs.2.1 13 = .ok (.aload_n 0, 1) := by decide +kernel
theorem dX10_layPairs_14 : decode mX10_layPairs.2.1 14 = .ok (.aload_n 0, 1) := by decide +kernel
theorem dX10_layPairs_15 : decode mX10_layPairs.2.1 15 = .ok (.getfield 58, 3) := by decide +kernel
theorem dX10_layPairs_18 : decode mX10_layPairs.2.1 18 = .ok (.iconst 0, 1) := by decide +kernel
theorem dX10_layPairs_19 : decode mX10_layPairs.2.1 19 = .ok (.iaload, 1) := by decide +kernel
theorem dX10_layPairs_20 : decode mX10_layPairs.2.1 20 = .ok (.putfield 209, 3) := by decide +kernel
theorem dX10_layPairs_23 : decode mX10_layPairs.2.1 23 = .ok (.iconst 0, 1) := by decide +kernel
theorem dX10_layPairs_24 : decode mX10_layPairs.2.1 24 = .ok (.istore_n 1, 1) := by decide +kernel
theorem dX10_layPairs_25 : decode mX10_layPairs.2.1 25 = .ok (.iload_n 1, 1) := by decide +kernel
theorem dX10_layPairs_26 : decode mX10_layPairs.2.1 26 = .ok (.aload_n 0, 1) := by decide +kernel
theorem dX10_layPairs_27 : decode mX10_layPairs.2.1 27 = .ok (.getfield 118, 3) := by decide +kernel
theorem dX10_layPairs_30 : decode mX10_layPairs.2.1 30 = .ok (.if_icmp .ge 16, 3) := by decide +kernel
theorem dX10_layPairs_33 : decode mX10_layPairs.2.1 33 = .ok (.aload_n 0, 1) := by decide +kernel
theorem dX10_layPairs_34 : decode mX10_layPairs.2.1 34 = .ok (.getfield 61, 3) := by decide +kernel
theorem dX10_layPairs_37 : decode mX10_layPairs.2.1 37 = .ok (.iload_n 1, 1) := by decide +kernel
theorem dX10_layPairs_38 : decode mX10_layPairs.2.1 38 = .ok (.iconst (-1), 1) := by decide +kernel
theorem dX10_layPairs_39 : decode mX10_layPairs.2.1 39 = .ok (.iastore, 1) := by decide +kernel
theorem dX10_layPairs_40 : decode mX10_layPairs.2.1 40 = .ok (.iinc 1 1, 3) := by decide +kernel
theorem dX10_layPairs_43 : decode mX10_layPairs.2.1 43 = .ok (.goto (-18), 3) := by decide +kernel
theorem dX10_layPairs_46 : decode mX10_layPairs.2.1 46 = .ok (.iconst 0, 1) := by decide +kernel
theorem dX10_layPairs_47 : decode mX10_layPairs.2.1 47 = .ok (.istore_n 1, 1) := by decide +kernel
theorem dX10_layPairs_48 : decode mX10_layPairs.2.1 48 = .ok (.iconst 0, 1) := by decide +kernel
theorem dX10_layPairs_49 : decode mX10_layPairs.2.1 49 = .ok (.istore_n 2, 1) := by decide +kernel
theorem dX10_layPairs_50 : decode mX10_layPairs.2.1 50 = .ok (.iload_n 2, 1) := by decide +kernel
theorem dX10_layPairs_51 : decode mX10_layPairs.2.1 51 = .ok (.aload_n 0, 1) := by decide +kernel
theorem dX10_layPairs_52 : decode mX10_layPairs.2.1 52 = .ok (.getfield 191, 3) := by decide +kernel
theorem dX10_layPairs_55 : decode mX10_layPairs.2.1 55 = .ok (.if_icmp .ge 105, 3) := by decide +kernel
theorem dX10_layPairs_58 : decode mX10_layPairs.2.1 58 = .ok (.iconst 0, 1) := by decide +kernel
theorem dX10_layPairs_59 : decode mX10_layPairs.2.1 59 = .ok (.istore_n 3, 1) := by decide +kernel
theorem dX10_layPairs_60 : decode mX10_layPairs.2.1 60 = .ok (.iload_n 3, 1) := by decide +kernel
theorem dX10_layPairs_61 : decode mX10_layPairs.2.1 61 = .ok (.aload_n 0, 1) := by decide +kernel
theorem dX10_layPairs_62 : decode mX10_layPairs.2.1 62 = .ok (.getfield 194, 3) := by decide +kernel
theorem dX10_layPairs_65 : decode mX10_layPairs.2.1 65 = .ok (.if_icmp .ge 31, 3) := by decide +kernel
theorem dX10_layPairs_68 : decode mX10_layPairs.2.1 68 = .ok (.aload_n 0, 1) := by decide +kernel
theorem dX10_layPairs_69 : decode mX10_layPairs.2.1 69 = .ok (.iload_n 2, 1) := by decide +kernel
theorem dX10_layPairs_70 : decode mX10_layPairs.2.1 70 = .ok (.iload_n 3, 1) := by decide +kernel
theorem dX10_layPairs_71 : decode mX10_layPairs.2.1 71 = .ok (.iload_n 1, 1) := by decide +kernel
theorem dX10_layPairs_72 : decode mX10_layPairs.2.1 72 = .ok (.invokevirtual 197, 3) := by decide +kernel
theorem dX10_layPairs_75 : decode mX10_layPairs.2.1 75 = .ok (.aload_n 0, 1) := by decide +kernel
theorem dX10_layPairs_76 : decode mX10_layPairs.2.1 76 = .ok (.getfield 58, 3) := by decide +kernel
theorem dX10_layPairs_79 : decode mX10_layPairs.2.1 79 = .ok (.sipush 128, 3) := by decide +kernel
theorem dX10_layPairs_82 : decode mX10_layPairs.2.1 82 = .ok (.iload_n 2, 1) := by decide +kernel
theorem dX10_layPairs_83 : decode mX10_layPairs.2.1 83 = .ok (.imul, 1) := by decide +kernel
theorem dX10_layPairs_84 : decode mX10_layPairs.2.1 84 = .ok (.iload_n 1, 1) := by decide +kernel
theorem dX10_layPairs_85 : decode mX10_layPairs.2.1 85 = .ok (.iadd, 1) := by decide +kernel
theorem dX10_layPairs_86 : decode mX10_layPairs.2.1 86 = .ok (.iaload, 1) := by decide +kernel
theorem dX10_layPairs_87 : decode mX10_layPairs.2.1 87 = .ok (.if_icmp .eq 9, 3) := by decide +kernel
theorem dX10_layPairs_90 : decode mX10_layPairs.2.1 90 = .ok (.iinc 3 1, 3) := by decide +kernel
theorem dX10_layPairs_93 : decode mX10_layPairs.2.1 93 = .ok (.goto (-33), 3) := by decide +kernel
theorem dX10_layPairs_96 : decode mX10_layPairs.2.1 96 = .ok (.iload_n 3, 1) := by decide +kernel
theorem dX10_layPairs_97 : decode mX10_layPairs.2.1 97 = .ok (.aload_n 0, 1) := by decide +kernel
theorem dX10_layPairs_98 : decode mX10_layPairs.2.1 98 = .ok (.getfield 194, 3) := by decide +kernel
theorem dX10_layPairs_101 : decode mX10_layPairs.2.1 101 = .ok (.if_icmp .ge 53, 3) := by decide +kernel
theorem dX10_layPairs_104 : decode mX10_layPairs.2.1 104 = .ok (.aload_n 0, 1) := by decide +kernel
theorem dX10_layPairs_105 : decode mX10_layPairs.2.1 105 = .ok (.getfield 61, 3) := by decide +kernel
theorem dX10_layPairs_108 : decode mX10_layPairs.2.1 108 = .ok (.aload_n 0, 1) := by decide +kernel
theorem dX10_layPairs_109 : decode mX10_layPairs.2.1 109 = .ok (.getfield 52, 3) := by decide +kernel
theorem dX10_layPairs_112 : decode mX10_layPairs.2.1 112 = .ok (.iload_n 2, 1) := by decide +kernel
theorem dX10_layPairs_113 : decode mX10_layPairs.2.1 113 = .ok (.iaload, 1) := by decide +kernel
theorem dX10_layPairs_114 : decode mX10_layPairs.2.1 114 = .ok (.aload_n 0, 1) := by decide +kernel
theorem dX10_layPairs_115 : decode mX10_layPairs.2.1 115 = .ok (.getfield 55, 3) := by decide +kernel
theorem dX10_layPairs_118 : decode mX10_layPairs.2.1 118 = .ok (.iload_n 3, 1) := by decide +kernel
theorem dX10_layPairs_119 : decode mX10_layPairs.2.1 119 = .ok (.iaload, 1) := by decide +kernel
theorem dX10_layPairs_120 : decode mX10_layPairs.2.1 120 = .ok (.iastore, 1) := by decide +kernel
theorem dX10_layPairs_121 : decode mX10_layPairs.2.1 121 = .ok (.aload_n 0, 1) := by decide +kernel
theorem dX10_layPairs_122 : decode mX10_layPairs.2.1 122 = .ok (.getfield 61, 3) := by decide +kernel
theorem dX10_layPairs_125 : decode mX10_layPairs.2.1 125 = .ok (.aload_n 0, 1) := by decide +kernel
theorem dX10_layPairs_126 : decode mX10_layPairs.2.1 126 = .ok (.getfield 55, 3) := by decide +kernel
theorem dX10_layPairs_129 : decode mX10_layPairs.2.1 129 = .ok (.iload_n 3, 1) := by decide +kernel
theorem dX10_layPairs_130 : decode mX10_layPairs.2.1 130 = .ok (.iaload, 1) := by decide +kernel
theorem dX10_layPairs_131 : decode mX10_layPairs.2.1 131 = .ok (.aload_n 0, 1) := by decide +kernel
theorem dX10_layPairs_132 : decode mX10_layPairs.2.1 132 = .ok (.getfield 52, 3) := by decide +kernel
theorem dX10_layPairs_135 : decode mX10_layPairs.2.1 135 = .ok (.iload_n 2, 1) := by decide +kernel
theorem dX10_layPairs_136 : decode mX10_layPairs.2.1 136 = .ok (.iaload, 1) := by decide +kernel
theorem dX10_layPairs_137 : decode mX10_layPairs.2.1 137 = .ok (.iastore, 1) := by decide +kernel
theorem dX10_layPairs_138 : decode mX10_layPairs.2.1 138 = .ok (.iload_n 1, 1) := by decide +kernel
theorem dX10_layPairs_139 : decode mX10_layPairs.2.1 139 = .ok (.iconst 1, 1) := by decide +kernel
theorem dX10_layPairs_140 : decode mX10_layPairs.2.1 140 = .ok (.iload_n 3, 1) := by decide +kernel
theorem dX10_layPairs_141 : decode mX10_layPairs.2.1 141 = .ok (.ishl, 1) := by decide +kernel
theorem dX10_layPairs_142 : decode mX10_layPairs.2.1 142 = .ok (.ior, 1) := by decide +kernel
theorem dX10_layPairs_143 : decode mX10_layPairs.2.1 143 = .ok (.istore_n 1, 1) := by decide +kernel
theorem dX10_layPairs_144 : decode mX10_layPairs.2.1 144 = .ok (.aload_n 0, 1) := by decide +kernel
theorem dX10_layPairs_145 : decode mX10_layPairs.2.1 145 = .ok (.dup, 1) := by decide +kernel
theorem dX10_layPairs_146 : decode mX10_layPairs.2.1 146 = .ok (.getfield 206, 3) := by decide +kernel
theorem dX10_layPairs_149 : decode mX10_layPairs.2.1 149 = .ok (.iconst 1, 1) := by decide +kernel
theorem dX10_layPairs_150 : decode mX10_layPairs.2.1 150 = .ok (.iadd, 1) := by decide +kernel
theorem dX10_layPairs_151 : decode mX10_layPairs.2.1 151 = .ok (.putfield 206, 3) := by decide +kernel
theorem dX10_layPairs_154 : decode mX10_layPairs.2.1 154 = .ok (.iinc 2 1, 3) := by decide +kernel
theorem dX10_layPairs_157 : decode mX10_layPairs.2.1 157 = .ok (.goto (-107), 3) := by decide +kernel
theorem dX10_layPairs_160 : decode mX10_layPairs.2.1 160 = .ok (.return_, 1) := by decide +kernel
theorem dX10_beginLife_0 : decode mX10_beginLife.2.1 0 = .ok (.aload_n 0, 1) := by decide +kernel
theorem dX10_beginLife_1 : decode mX10_beginLife.2.1 1 = .ok (.getfield 64, 3) := by decide +kernel
theorem dX10_beginLife_4 : decode mX10_beginLife.2.1 4 = .ok (.aload_n 0, 1) := by decide +kernel
theorem dX10_beginLife_5 : decode mX10_beginLife.2.1 5 = .ok (.getfield 212, 3) := by decide +kernel
theorem dX10_beginLife_8 : decode mX10_beginLife.2.1 8 = .ok (.iload_n 1, 1) := by decide +kernel
theorem dX10_beginLife_9 : decode mX10_beginLife.2.1 9 = .ok (.iastore, 1) := by decide +kernel
theorem dX10_beginLife_10 : decode mX10_beginLife.2.1 10 = .ok (.aload_n 0, 1) := by decide +kernel
theorem dX10_beginLife_11 : decode mX10_beginLife.2.1 11 = .ok (.getfield 67, 3) := by decide +kernel
theorem dX10_beginLife_14 : decode mX10_beginLife.2.1 14 = .ok (.aload_n 0, 1) := by decide +kernel
theorem dX10_beginLife_15 : decode mX10_beginLife.2.1 15 = .ok (.getfield 212, 3) := by decide +kernel
theorem dX10_beginLife_18 : decode mX10_beginLife.2.1 18 = .ok (.iload_n 2, 1) := by decide +kernel
theorem dX10_beginLife_19 : decode mX10_beginLife.2.1 19 = .ok (.iastore, 1) := by decide +kernel
theorem dX10_beginLife_20 : decode mX10_beginLife.2.1 20 = .ok (.aload_n 0, 1) := by decide +kernel
theorem dX10_beginLife_21 : decode mX10_beginLife.2.1 21 = .ok (.getfield 70, 3) := by decide +kernel
theorem dX10_beginLife_24 : decode mX10_beginLife.2.1 24 = .ok (.aload_n 0, 1) := by decide +kernel
theorem dX10_beginLife_25 : decode mX10_beginLife.2.1 25 = .ok (.getfield 212, 3) := by decide +kernel
theorem dX10_beginLife_28 : decode mX10_beginLife.2.1 28 = .ok (.iconst 0, 1) := by decide +kernel
theorem dX10_beginLife_29 : decode mX10_beginLife.2.1 29 = .ok (.iastore, 1) := by decide +kernel
theorem dX10_beginLife_30 : decode mX10_beginLife.2.1 30 = .ok (.iload_n 1, 1) := by decide +kernel
theorem dX10_beginLife_31 : decode mX10_beginLife.2.1 31 = .ok (.iconst (-1), 1) := by decide +kernel
theorem dX10_beginLife_32 : decode mX10_beginLife.2.1 32 = .ok (.if_icmp .eq 13, 3) := by decide +kernel
theorem dX10_beginLife_35 : decode mX10_beginLife.2.1 35 = .ok (.aload_n 0, 1) := by decide +kernel
theorem dX10_beginLife_36 : decode mX10_beginLife.2.1 36 = .ok (.getfield 73, 3) := by decide +kernel
theorem dX10_beginLife_39 : decode mX10_beginLife.2.1 39 = .ok (.iload_n 1, 1) := by decide +kernel
theorem dX10_beginLife_40 : decode mX10_beginLife.2.1 40 = .ok (.aload_n 0, 1) := by decide +kernel
theorem dX10_beginLife_41 : decode mX10_beginLife.2.1 41 = .ok (.getfield 212, 3) := by decide +kernel
theorem dX10_beginLife_44 : decode mX10_beginLife.2.1 44 = .ok (.iastore, 1) := by decide +kernel
theorem dX10_beginLife_45 : decode mX10_beginLife.2.1 45 = .ok (.iload_n 2, 1) := by decide +kernel
theorem dX10_beginLife_46 : decode mX10_beginLife.2.1 46 = .ok (.iconst (-1), 1) := by decide +kernel
theorem dX10_beginLife_47 : decode mX10_beginLife.2.1 47 = .ok (.if_icmp .eq 13, 3) := by decide +kernel
theorem dX10_beginLife_50 : decode mX10_beginLife.2.1 50 = .ok (.aload_n 0, 1) := by decide +kernel
theorem dX10_beginLife_51 : decode mX10_beginLife.2.1 51 = .ok (.getfield 73, 3) := by decide +kernel
theorem dX10_beginLife_54 : decode mX10_beginLife.2.1 54 = .ok (.iload_n 2, 1) := by decide +kernel
theorem dX10_beginLife_55 : decode mX10_beginLife.2.1 55 = .ok (.aload_n 0, 1) := by decide +kernel
theorem dX10_beginLife_56 : decode mX10_beginLife.2.1 56 = .ok (.getfield 212, 3) := by decide +kernel
theorem dX10_beginLife_59 : decode mX10_beginLife.2.1 59 = .ok (.iastore, 1) := by decide +kernel
theorem dX10_beginLife_60 : decode mX10_beginLife.2.1 60 = .ok (.aload_n 0, 1) := by decide +kernel
theorem dX10_beginLife_61 : decode mX10_beginLife.2.1 61 = .ok (.dup, 1) := by decide +kernel
theorem dX10_beginLife_62 : decode mX10_beginLife.2.1 62 = .ok (.getfield 212, 3) := by decide +kernel
theorem dX10_beginLife_65 : decode mX10_beginLife.2.1 65 = .ok (.iconst 1, 1) := by decide +kernel
theorem dX10_beginLife_66 : decode mX10_beginLife.2.1 66 = .ok (.iadd, 1) := by decide +kernel
theorem dX10_beginLife_67 : decode mX10_beginLife.2.1 67 = .ok (.putfield 212, 3) := by decide +kernel
theorem dX10_beginLife_70 : decode mX10_beginLife.2.1 70 = .ok (.return_, 1) := by decide +kernel
theorem dX10_layFirstLives_0 : decode mX10_layFirstLives.2.1 0 = .ok (.aload_n 0, 1) := by decide +kernel
theorem dX10_layFirstLives_1 : decode mX10_layFirstLives.2.1 1 = .ok (.invokevirtual 215, 3) := by decide +kernel
theorem dX10_layFirstLives_4 : decode mX10_layFirstLives.2.1 4 = .ok (.aload_n 0, 1) := by decide +kernel
theorem dX10_layFirstLives_5 : decode mX10_layFirstLives.2.1 5 = .ok (.iconst 0, 1) := by decide +kernel
theorem dX10_layFirstLives_6 : decode mX10_layFirstLives.2.1 6 = .ok (.putfield 212, 3) := by decide +kernel
theorem dX10_layFirstLives_9 : decode mX10_layFirstLives.2.1 9 = .ok (.iconst 0, 1) := by decide +kernel
theorem dX10_layFirstLives_10 : decode mX10_layFirstLives.2.1 10 = .ok (.istore_n 1, 1) := by decide +kernel
theorem dX10_layFirstLives_11 : decode mX10_layFirstLives.2.1 11 = .ok (.iload_n 1, 1) := by decide +kernel
theorem dX10_layFirstLives_12 : decode mX10_layFirstLives.2.1 12 = .ok (.aload_n 0, 1) := by decide +kernel
theorem dX10_layFirstLives_13 : decode mX10_layFirstLives.2.1 13 = .ok (.getfield 191, 3) := by decide +kernel
theorem dX10_layFirstLives_16 : decode mX10_layFirstLives.2.1 16 = .ok (.if_icmp .ge 30, 3) := by decide +kernel
theorem dX10_layFirstLives_19 : decode mX10_layFirstLives.2.1 19 = .ok (.aload_n 0, 1) := by decide +kernel
theorem dX10_layFirstLives_20 : decode mX10_layFirstLives.2.1 20 = .ok (.aload_n 0, 1) := by decide +kernel
theorem dX10_layFirstLives_21 : decode mX10_layFirstLives.2.1 21 = .ok (.getfield 52, 3) := by decide +kernel
theorem dX10_layFirstLives_24 : decode mX10_layFirstLives.2.1 24 = .ok (.iload_n 1, 1) := by decide +kernel
theorem dX10_layFirstLives_25 : decode mX10_layFirstLives.2.1 25 = .ok (.iaload, 1) := by decide +kernel
theorem dX10_layFirstLives_26 : decode mX10_layFirstLives.2.1 26 = .ok (.aload_n 0, 1) := by decide +kernel
theorem dX10_layFirstLives_27 : decode mX10_layFirstLives.2.1 27 = .ok (.getfield 61, 3) := by decide +kernel
theorem dX10_layFirstLives_30 : decode mX10_layFirstLives.2.1 30 = .ok (.aload_n 0, 1) := by decide +kernel
theorem dX10_layFirstLives_31 : decode mX10_layFirstLives.2.1 31 = .ok (.getfield 52, 3) := by decide +kernel
theorem dX10_layFirstLives_34 : decode mX10_layFirstLives.2.1 34 = .ok (.iload_n 1, 1) := by decide +kernel
theorem dX10_layFirstLives_35 : decode mX10_layFirstLives.2.1 35 = .ok (.iaload, 1) := by decide +kernel
theorem dX10_layFirstLives_36 : decode mX10_layFirstLives.2.1 36 = .ok (.iaload, 1) := by decide +kernel
theorem dX10_layFirstLives_37 : decode mX10_layFirstLives.2.1 37 = .ok (.invokevirtual 218, 3) := by decide +kernel
theorem dX10_layFirstLives_40 : decode mX10_layFirstLives.2.1 40 = .ok (.iinc 1 1, 3) := by decide +kernel
theorem dX10_layFirstLives_43 : decode mX10_layFirstLives.2.1 43 = .ok (.goto (-32), 3) := by decide +kernel
theorem dX10_layFirstLives_46 : decode mX10_layFirstLives.2.1 46 = .ok (.iconst 0, 1) := by decide +kernel
theorem dX10_layFirstLives_47 : decode mX10_layFirstLives.2.1 47 = .ok (.istore_n 1, 1) := by decide +kernel
theorem dX10_layFirstLives_48 : decode mX10_layFirstLives.2.1 48 = .ok (.iload_n 1, 1) := by decide +kernel
theorem dX10_layFirstLives_49 : decode mX10_layFirstLives.2.1 49 = .ok (.aload_n 0, 1) := by decide +kernel
theorem dX10_layFirstLives_50 : decode mX10_layFirstLives.2.1 50 = .ok (.getfield 194, 3) := by decide +kernel
theorem dX10_layFirstLives_53 : decode mX10_layFirstLives.2.1 53 = .ok (.if_icmp .ge 35, 3) := by decide +kernel
theorem dX10_layFirstLives_56 : decode mX10_layFirstLives.2.1 56 = .ok (.aload_n 0, 1) := by decide +kernel
theorem dX10_layFirstLives_57 : decode mX10_layFirstLives.2.1 57 = .ok (.getfield 61, 3) := by decide +kernel
theorem dX10_layFirstLives_60 : decode mX10_layFirstLives.2.1 60 = .ok (.aload_n 0, 1) := by decide +kernel
theorem dX10_layFirstLives_61 : decode mX10_layFirstLives.2.1 61 = .ok (.getfield 55, 3) := by decide +kernel
theorem dX10_layFirstLives_64 : decode mX10_layFirstLives.2.1 64 = .ok (.iload_n 1, 1) := by decide +kernel
theorem dX10_layFirstLives_65 : decode mX10_layFirstLives.2.1 65 = .ok (.iaload, 1) := by decide +kernel
theorem dX10_layFirstLives_66 : decode mX10_layFirstLives.2.1 66 = .ok (.iaload, 1) := by decide +kernel
theorem dX10_layFirstLives_67 : decode mX10_layFirstLives.2.1 67 = .ok (.iconst (-1), 1) := by decide +kernel
theorem dX10_layFirstLives_68 : decode mX10_layFirstLives.2.1 68 = .ok (.if_icmp .ne 14, 3) := by decide +kernel
theorem dX10_layFirstLives_71 : decode mX10_layFirstLives.2.1 71 = .ok (.aload_n 0, 1) := by decide +kernel
theorem dX10_layFirstLives_72 : decode mX10_layFirstLives.2.1 72 = .ok (.iconst (-1), 1) := by decide +kernel
theorem dX10_layFirstLives_73 : decode mX10_layFirstLives.2.1 73 = .ok (.aload_n 0, 1) := by decide +kernel
theorem dX10_layFirstLives_74 : decode mX10_layFirstLives.2.1 74 = .ok (.getfield 55, 3) := by decide +kernel
theorem dX10_layFirstLives_77 : decode mX10_layFirstLives.2.1 77 = .ok (.iload_n 1, 1) := by decide +kernel
theorem dX10_layFirstLives_78 : decode mX10_layFirstLives.2.1 78 = .ok (.iaload, 1) := by decide +kernel
theorem dX10_layFirstLives_79 : decode mX10_layFirstLives.2.1 79 = .ok (.invokevirtual 218, 3) := by decide +kernel
theorem dX10_layFirstLives_82 : decode mX10_layFirstLives.2.1 82 = .ok (.iinc 1 1, 3) := by decide +kernel
theorem dX10_layFirstLives_85 : decode mX10_layFirstLives.2.1 85 = .ok (.goto (-37), 3) := by decide +kernel
theorem dX10_layFirstLives_88 : decode mX10_layFirstLives.2.1 88 = .ok (.iconst 0, 1) := by decide +kernel
theorem dX10_layFirstLives_89 : decode mX10_layFirstLives.2.1 89 = .ok (.istore_n 1, 1) := by decide +kernel
theorem dX10_layFirstLives_90 : decode mX10_layFirstLives.2.1 90 = .ok (.iload_n 1, 1) := by decide +kernel
theorem dX10_layFirstLives_91 : decode mX10_layFirstLives.2.1 91 = .ok (.aload_n 0, 1) := by decide +kernel
theorem dX10_layFirstLives_92 : decode mX10_layFirstLives.2.1 92 = .ok (.getfield 118, 3) := by decide +kernel
theorem dX10_layFirstLives_95 : decode mX10_layFirstLives.2.1 95 = .ok (.if_icmp .ge 35, 3) := by decide +kernel
theorem dX10_layFirstLives_98 : decode mX10_layFirstLives.2.1 98 = .ok (.aload_n 0, 1) := by decide +kernel
theorem dX10_layFirstLives_99 : decode mX10_layFirstLives.2.1 99 = .ok (.getfield 73, 3) := by decide +kernel
theorem dX10_layFirstLives_102 : decode mX10_layFirstLives.2.1 102 = .ok (.iload_n 1, 1) := by decide +kernel
theorem dX10_layFirstLives_103 : decode mX10_layFirstLives.2.1 103 = .ok (.aload_n 0, 1) := by decide +kernel
theorem dX10_layFirstLives_104 : decode mX10_layFirstLives.2.1 104 = .ok (.getfield 13, 3) := by decide +kernel
theorem dX10_layFirstLives_107 : decode mX10_layFirstLives.2.1 107 = .ok (.iload_n 1, 1) := by decide +kernel
theorem dX10_layFirstLives_108 : decode mX10_layFirstLives.2.1 108 = .ok (.iaload, 1) := by decide +kernel
theorem dX10_layFirstLives_109 : decode mX10_layFirstLives.2.1 109 = .ok (.iconst 1, 1) := by decide +kernel
theorem dX10_layFirstLives_110 : decode mX10_layFirstLives.2.1 110 = .ok (.if_icmp .ne 7, 3) := by decide +kernel
theorem dX10_layFirstLives_113 : decode mX10_layFirstLives.2.1 113 = .ok (.iconst (-1), 1) := by decide +kernel
theorem dX10_layFirstLives_114 : decode mX10_layFirstLives.2.1 114 = .ok (.goto 9, 3) := by decide +kernel
theorem dX10_layFirstLives_117 : decode mX10_layFirstLives.2.1 117 = .ok (.aload_n 0, 1) := by decide +kernel
theorem dX10_layFirstLives_118 : decode mX10_layFirstLives.2.1 118 = .ok (.getfield 73, 3) := by decide +kernel
theorem dX10_layFirstLives_121 : decode mX10_layFirstLives.2.1 121 = .ok (.iload_n 1, 1) := by decide +kernel
theorem dX10_layFirstLives_122 : decode mX10_layFirstLives.2.1 122 = .ok (.iaload, 1) := by decide +kernel
theorem dX10_layFirstLives_123 : decode mX10_layFirstLives.2.1 123 = .ok (.iastore, 1) := by decide +kernel
theorem dX10_layFirstLives_124 : decode mX10_layFirstLives.2.1 124 = .ok (.iinc 1 1, 3) := by decide +kernel
theorem dX10_layFirstLives_127 : decode mX10_layFirstLives.2.1 127 = .ok (.goto (-37), 3) := by decide +kernel
theorem dX10_layFirstLives_130 : decode mX10_layFirstLives.2.1 130 = .ok (.return_, 1) := by decide +kernel
theorem dX10_isOf_0 : decode mX10_isOf.2.1 0 = .ok (.aload_n 0, 1) := by decide +kernel
theorem dX10_isOf_1 : decode mX10_isOf.2.1 1 = .ok (.getfield 73, 3) := by decide +kernel
theorem dX10_isOf_4 : decode mX10_isOf.2.1 4 = .ok (.iload_n 1, 1) := by decide +kernel
theorem dX10_isOf_5 : decode mX10_isOf.2.1 5 = .ok (.iaload, 1) := by decide +kernel
theorem dX10_isOf_6 : decode mX10_isOf.2.1 6 = .ok (.iload_n 2, 1) := by decide +kernel
theorem dX10_isOf_7 : decode mX10_isOf.2.1 7 = .ok (.if_icmp .ne 7, 3) := by decide +kernel
theorem dX10_isOf_10 : decode mX10_isOf.2.1 10 = .ok (.iconst 1, 1) := by decide +kernel
theorem dX10_isOf_11 : decode mX10_isOf.2.1 11 = .ok (.goto 4, 3) := by decide +kernel
theorem dX10_isOf_14 : decode mX10_isOf.2.1 14 = .ok (.iconst 0, 1) := by decide +kernel
theorem dX10_isOf_15 : decode mX10_isOf.2.1 15 = .ok (.ireturn, 1) := by decide +kernel
theorem dX10_canGo_0 : decode mX10_canGo.2.1 0 = .ok (.aload_n 0, 1) := by decide +kernel
theorem dX10_canGo_1 : decode mX10_canGo.2.1 1 = .ok (.getfield 70, 3) := by decide +kernel
theorem dX10_canGo_4 : decode mX10_canGo.2.1 4 = .ok (.iload_n 2, 1) := by decide +kernel
theorem dX10_canGo_5 : decode mX10_canGo.2.1 5 = .ok (.iaload, 1) := by decide +kernel
theorem dX10_canGo_6 : decode mX10_canGo.2.1 6 = .ok (.iconst 3, 1) := by decide +kernel
theorem dX10_canGo_7 : decode mX10_canGo.2.1 7 = .ok (.if_icmp .ge 7, 3) := by decide +kernel
theorem dX10_canGo_10 : decode mX10_canGo.2.1 10 = .ok (.iconst 1, 1) := by decide +kernel
theorem dX10_canGo_11 : decode mX10_canGo.2.1 11 = .ok (.goto 4, 3) := by decide +kernel
theorem dX10_canGo_14 : decode mX10_canGo.2.1 14 = .ok (.iconst 0, 1) := by decide +kernel
theorem dX10_canGo_15 : decode mX10_canGo.2.1 15 = .ok (.istore_n 3, 1) := by decide +kernel
theorem dX10_canGo_16 : decode mX10_canGo.2.1 16 = .ok (.iconst 0, 1) := by decide +kernel
theorem dX10_canGo_17 : decode mX10_canGo.2.1 17 = .ok (.istore 4, 2) := by decide +kernel
theorem dX10_canGo_19 : decode mX10_canGo.2.1 19 = .ok (.iload 4, 2) := by decide +kernel
theorem dX10_canGo_21 : decode mX10_canGo.2.1 21 = .ok (.aload_n 0, 1) := by decide +kernel
theorem dX10_canGo_22 : decode mX10_canGo.2.1 22 = .ok (.getfield 118, 3) := by decide +kernel
theorem dX10_canGo_25 : decode mX10_canGo.2.1 25 = .ok (.if_icmp .ge 39, 3) := by decide +kernel
theorem dX10_canGo_28 : decode mX10_canGo.2.1 28 = .ok (.iload_n 3, 1) := by decide +kernel
theorem dX10_canGo_29 : decode mX10_canGo.2.1 29 = .ok (.ifCond .eq 27, 3) := by decide +kernel
theorem dX10_canGo_32 : decode mX10_canGo.2.1 32 = .ok (.aload_n 0, 1) := by decide +kernel
theorem dX10_canGo_33 : decode mX10_canGo.2.1 33 = .ok (.iload 4, 2) := by decide +kernel
theorem dX10_canGo_35 : decode mX10_canGo.2.1 35 = .ok (.iload_n 2, 1) := by decide +kernel
theorem dX10_canGo_36 : decode mX10_canGo.2.1 36 = .ok (.invokevirtual 222, 3) := by decide +kernel
theorem dX10_canGo_39 : decode mX10_canGo.2.1 39 = .ok (.ifCond .eq 13, 3) := by decide +kernel
theorem dX10_canGo_42 : decode mX10_canGo.2.1 42 = .ok (.aload_n 0, 1) := by decide +kernel
theorem dX10_canGo_43 : decode mX10_canGo.2.1 43 = .ok (.iload_n 1, 1) := by decide +kernel
theorem dX10_canGo_44 : decode mX10_canGo.2.1 44 = .ok (.iload 4, 2) := by decide +kernel
theorem dX10_canGo_46 : decode mX10_canGo.2.1 46 = .ok (.invokevirtual 172, 3) := by decide +kernel
theorem dX10_canGo_49 : decode mX10_canGo.2.1 49 = .ok (.ifCond .eq 7, 3) := by decide +kernel
theorem dX10_canGo_52 : decode mX10_canGo.2.1 52 = .ok (.iconst 1, 1) := by decide +kernel
theorem dX10_canGo_53 : decode mX10_canGo.2.1 53 = .ok (.goto 4, 3) := by decide +kernel
theorem dX10_canGo_56 : decode mX10_canGo.2.1 56 = .ok (.iconst 0, 1) := by decide +kernel
theorem dX10_canGo_57 : decode mX10_canGo.2.1 57 = .ok (.istore_n 3, 1) := by decide +kernel
theorem dX10_canGo_58 : decode mX10_canGo.2.1 58 = .ok (.iinc 4 1, 3) := by decide +kernel
theorem dX10_canGo_61 : decode mX10_canGo.2.1 61 = .ok (.goto (-42), 3) := by decide +kernel
theorem dX10_canGo_64 : decode mX10_canGo.2.1 64 = .ok (.iload_n 3, 1) := by decide +kernel
theorem dX10_canGo_65 : decode mX10_canGo.2.1 65 = .ok (.ireturn, 1) := by decide +kernel
theorem dX10_worthAt_0 : decode mX10_worthAt.2.1 0 = .ok (.aload_n 0, 1) := by decide +kernel
theorem dX10_worthAt_1 : decode mX10_worthAt.2.1 1 = .ok (.getfield 64, 3) := by decide +kernel
theorem dX10_worthAt_4 : decode mX10_worthAt.2.1 4 = .ok (.iload_n 2, 1) := by decide +kernel
theorem dX10_worthAt_5 : decode mX10_worthAt.2.1 5 = .ok (.iaload, 1) := by decide +kernel
theorem dX10_worthAt_6 : decode mX10_worthAt.2.1 6 = .ok (.iconst (-1), 1) := by decide +kernel
theorem dX10_worthAt_7 : decode mX10_worthAt.2.1 7 = .ok (.if_icmp .ne 17, 3) := by decide +kernel
theorem dX10_worthAt_10 : decode mX10_worthAt.2.1 10 = .ok (.aload_n 0, 1) := by decide +kernel
theorem dX10_worthAt_11 : decode mX10_worthAt.2.1 11 = .ok (.getfield 67, 3) := by decide +kernel
theorem dX10_worthAt_14 : decode mX10_worthAt.2.1 14 = .ok (.iload_n 2, 1) := by decide +kernel
theorem dX10_worthAt_15 : decode mX10_worthAt.2.1 15 = .ok (.iaload, 1) := by decide +kernel
theorem dX10_worthAt_16 : decode mX10_worthAt.2.1 16 = .ok (.iconst (-1), 1) := by decide +kernel
theorem dX10_worthAt_17 : decode mX10_worthAt.2.1 17 = .ok (.if_icmp .ne 7, 3) := by decide +kernel
theorem dX10_worthAt_20 : decode mX10_worthAt.2.1 20 = .ok (.iconst 1, 1) := by decide +kernel
theorem dX10_worthAt_21 : decode mX10_worthAt.2.1 21 = .ok (.goto 4, 3) := by decide +kernel
theorem dX10_worthAt_24 : decode mX10_worthAt.2.1 24 = .ok (.iconst 0, 1) := by decide +kernel
theorem dX10_worthAt_25 : decode mX10_worthAt.2.1 25 = .ok (.istore_n 3, 1) := by decide +kernel
theorem dX10_worthAt_26 : decode mX10_worthAt.2.1 26 = .ok (.iconst 0, 1) := by decide +kernel
theorem dX10_worthAt_27 : decode mX10_worthAt.2.1 27 = .ok (.istore 4, 2) := by decide +kernel
theorem dX10_worthAt_29 : decode mX10_worthAt.2.1 29 = .ok (.iconst 0, 1) := by decide +kernel
theorem dX10_worthAt_30 : decode mX10_worthAt.2.1 30 = .ok (.istore 5, 2) := by decide +kernel
theorem dX10_worthAt_32 : decode mX10_worthAt.2.1 32 = .ok (.iconst 0, 1) := by decide +kernel
theorem dX10_worthAt_33 : decode mX10_worthAt.2.1 33 = .ok (.istore 6, 2) := by decide +kernel
theorem dX10_worthAt_35 : decode mX10_worthAt.2.1 35 = .ok (.iload 6, 2) := by decide +kernel
theorem dX10_worthAt_37 : decode mX10_worthAt.2.1 37 = .ok (.aload_n 0, 1) := by decide +kernel
theorem dX10_worthAt_38 : decode mX10_worthAt.2.1 38 = .ok (.getfield 118, 3) := by decide +kernel
theorem dX10_worthAt_41 : decode mX10_worthAt.2.1 41 = .ok (.if_icmp .ge 49, 3) := by decide +kernel
theorem dX10_worthAt_44 : decode mX10_worthAt.2.1 44 = .ok (.aload_n 0, 1) := by decide +kernel
theorem dX10_worthAt_45 : decode mX10_worthAt.2.1 45 = .ok (.iload 6, 2) := by decide +kernel
theorem dX10_worthAt_47 : decode mX10_worthAt.2.1 47 = .ok (.iload_n 2, 1) := by decide +kernel
theorem dX10_worthAt_48 : decode mX10_worthAt.2.1 48 = .ok (.invokevirtual 222, 3) := by decide +kernel
theorem dX10_worthAt_51 : decode mX10_worthAt.2.1 51 = .ok (.ifCond .eq 33, 3) := by decide +kernel
theorem dX10_worthAt_54 : decode mX10_worthAt.2.1 54 = .ok (.iload_n 3, 1) := by decide +kernel
theorem dX10_worthAt_55 : decode mX10_worthAt.2.1 55 = .ok (.ifCond .ne 14, 3) := by decide +kernel
theorem dX10_worthAt_58 : decode mX10_worthAt.2.1 58 = .ok (.aload_n 0, 1) := by decide +kernel
theorem dX10_worthAt_59 : decode mX10_worthAt.2.1 59 = .ok (.getfield 13, 3) := by decide +kernel
theorem dX10_worthAt_62 : decode mX10_worthAt.2.1 62 = .ok (.iload 6, 2) := by decide +kernel
theorem dX10_worthAt_64 : decode mX10_worthAt.2.1 64 = .ok (.iaload, 1) := by decide +kernel
theorem dX10_worthAt_65 : decode mX10_worthAt.2.1 65 = .ok (.iconst 1, 1) := by decide +kernel
theorem dX10_worthAt_66 : decode mX10_worthAt.2.1 66 = .ok (.if_icmp .eq 18, 3) := by decide +kernel
theorem dX10_worthAt_69 : decode mX10_worthAt.2.1 69 = .ok (.iload 4, 2) := by decide +kernel
theorem dX10_worthAt_71 : decode mX10_worthAt.2.1 71 = .ok (.aload_n 0, 1) := by decide +kernel
theorem dX10_worthAt_72 : decode mX10_worthAt.2.1 72 = .ok (.iload_n 1, 1) := by decide +kernel
theorem dX10_worthAt_73 : decode mX10_worthAt.2.1 73 = .ok (.iload 6, 2) := by decide +kernel
theorem dX10_worthAt_75 : decode mX10_worthAt.2.1 75 = .ok (.invokevirtual 175, 3) := by decide +kernel
theorem dX10_worthAt_78 : decode mX10_worthAt.2.1 78 = .ok (.iadd, 1) := by decide +kernel
theorem dX10_worthAt_79 : decode mX10_worthAt.2.1 79 = .ok (.istore 4, 2) := by decide +kernel
theorem dX10_worthAt_81 : decode mX10_worthAt.2.1 81 = .ok (.iinc 5 1, 3) := by decide +kernel
theorem dX10_worthAt_84 : decode mX10_worthAt.2.1 84 = .ok (.iinc 6 1, 3) := by decide +kernel
theorem dX10_worthAt_87 : decode mX10_worthAt.2.1 87 = .ok (.goto (-52), 3) := by decide +kernel
theorem dX10_worthAt_90 : decode mX10_worthAt.2.1 90 = .ok (.iload 4, 2) := by decide +kernel
theorem dX10_worthAt_92 : decode mX10_worthAt.2.1 92 = .ok (.iload 5, 2) := by decide +kernel
theorem dX10_worthAt_94 : decode mX10_worthAt.2.1 94 = .ok (.idiv, 1) := by decide +kernel
theorem dX10_worthAt_95 : decode mX10_worthAt.2.1 95 = .ok (.ireturn, 1) := by decide +kernel
theorem dX10_bestLife_0 : decode mX10_bestLife.2.1 0 = .ok (.iconst (-1), 1) := by decide +kernel
theorem dX10_bestLife_1 : decode mX10_bestLife.2.1 1 = .ok (.istore_n 2, 1) := by decide +kernel
theorem dX10_bestLife_2 : decode mX10_bestLife.2.1 2 = .ok (.iconst 0, 1) := by decide +kernel
theorem dX10_bestLife_3 : decode mX10_bestLife.2.1 3 = .ok (.istore_n 3, 1) := by decide +kernel
theorem dX10_bestLife_4 : decode mX10_bestLife.2.1 4 = .ok (.iload_n 3, 1) := by decide +kernel
theorem dX10_bestLife_5 : decode mX10_bestLife.2.1 5 = .ok (.aload_n 0, 1) := by decide +kernel
theorem dX10_bestLife_6 : decode mX10_bestLife.2.1 6 = .ok (.getfield 212, 3) := by decide +kernel
theorem dX10_bestLife_9 : decode mX10_bestLife.2.1 9 = .ok (.if_icmp .ge 56, 3) := by decide +kernel
theorem dX10_bestLife_12 : decode mX10_bestLife.2.1 12 = .ok (.aload_n 0, 1) := by decide +kernel
theorem dX10_bestLife_13 : decode mX10_bestLife.2.1 13 = .ok (.iload_n 1, 1) := by decide +kernel
theorem dX10_bestLife_14 : decode mX10_bestLife.2.1 14 = .ok (.iload_n 3, 1) := by decide +kernel
theorem dX10_bestLife_15 : decode mX10_bestLife.2.1 15 = .ok (.invokevirtual 225, 3) := by decide +kernel
theorem dX10_bestLife_18 : decode mX10_bestLife.2.1 18 = .ok (.ifCond .eq 27, 3) := by decide +kernel
theorem dX10_bestLife_21 : decode mX10_bestLife.2.1 21 = .ok (.iload_n 2, 1) := by decide +kernel
theorem dX10_bestLife_22 : decode mX10_bestLife.2.1 22 = .ok (.iconst (-1), 1) := by decide +kernel
theorem dX10_bestLife_23 : decode mX10_bestLife.2.1 23 = .ok (.if_icmp .eq 18, 3) := by decide +kernel
theorem dX10_bestLife_26 : decode mX10_bestLife.2.1 26 = .ok (.aload_n 0, 1) := by decide +kernel
theorem dX10_bestLife_27 : decode mX10_bestLife.2.1 27 = .ok (.iload_n 1, 1) := by decide +kernel
theorem dX10_bestLife_28 : decode mX10_bestLife.2.1 28 = .ok (.iload_n 3, 1) := by decide +kernel
theorem dX10_bestLife_29 : decode mX10_bestLife.2.1 29 = .ok (.invokevirtual 228, 3) := by decide +kernel
theorem dX10_bestLife_32 : decode mX10_bestLife.2.1 32 = .ok (.aload_n 0, 1) := by decide +kernel
theorem dX10_bestLife_33 : decode mX10_bestLife.2.1 33 = .ok (.iload_n 1, 1) := by decide +kernel
theorem dX10_bestLife_34 : decode mX10_bestLife.2.1 34 = .ok (.iload_n 2, 1) := by decide +kernel
theorem dX10_bestLife_35 : decode mX10_bestLife.2.1 35 = .ok (.invokevirtual 228, 3) := by decide +kernel
theorem dX10_bestLife_38 : decode mX10_bestLife.2.1 38 = .ok (.if_icmp .le 7, 3) := by decide +kernel
theorem dX10_bestLife_41 : decode mX10_bestLife.2.1 41 = .ok (.iconst 1, 1) := by decide +kernel
theorem dX10_bestLife_42 : decode mX10_bestLife.2.1 42 = .ok (.goto 4, 3) := by decide +kernel
theorem dX10_bestLife_45 : decode mX10_bestLife.2.1 45 = .ok (.iconst 0, 1) := by decide +kernel
theorem dX10_bestLife_46 : decode mX10_bestLife.2.1 46 = .ok (.istore 4, 2) := by decide +kernel
theorem dX10_bestLife_48 : decode mX10_bestLife.2.1 48 = .ok (.iload 4, 2) := by decide +kernel
theorem dX10_bestLife_50 : decode mX10_bestLife.2.1 50 = .ok (.ifCond .eq 7, 3) := by decide +kernel
theorem dX10_bestLife_53 : decode mX10_bestLife.2.1 53 = .ok (.iload_n 3, 1) := by decide +kernel
theorem dX10_bestLife_54 : decode mX10_bestLife.2.1 54 = .ok (.goto 4, 3) := by decide +kernel
theorem dX10_bestLife_57 : decode mX10_bestLife.2.1 57 = .ok (.iload_n 2, 1) := by decide +kernel
theorem dX10_bestLife_58 : decode mX10_bestLife.2.1 58 = .ok (.istore_n 2, 1) := by decide +kernel
theorem dX10_bestLife_59 : decode mX10_bestLife.2.1 59 = .ok (.iinc 3 1, 3) := by decide +kernel
theorem dX10_bestLife_62 : decode mX10_bestLife.2.1 62 = .ok (.goto (-58), 3) := by decide +kernel
theorem dX10_bestLife_65 : decode mX10_bestLife.2.1 65 = .ok (.iload_n 2, 1) := by decide +kernel
theorem dX10_bestLife_66 : decode mX10_bestLife.2.1 66 = .ok (.ireturn, 1) := by decide +kernel
theorem dX10_isInDoubt_0 : decode mX10_isInDoubt.2.1 0 = .ok (.iconst 0, 1) := by decide +kernel
theorem dX10_isInDoubt_1 : decode mX10_isInDoubt.2.1 1 = .ok (.istore_n 3, 1) := by decide +kernel
theorem dX10_isInDoubt_2 : decode mX10_isInDoubt.2.1 2 = .ok (.iconst 0, 1) := by decide +kernel
theorem dX10_isInDoubt_3 : decode mX10_isInDoubt.2.1 3 = .ok (.istore 4, 2) := by decide +kernel
theorem dX10_isInDoubt_5 : decode mX10_isInDoubt.2.1 5 = .ok (.iload 4, 2) := by decide +kernel
theorem dX10_isInDoubt_7 : decode mX10_isInDoubt.2.1 7 = .ok (.aload_n 0, 1) := by decide +kernel
theorem dX10_isInDoubt_8 : decode mX10_isInDoubt.2.1 8 = .ok (.getfield 212, 3) := by decide +kernel
theorem dX10_isInDoubt_11 : decode mX10_isInDoubt.2.1 11 = .ok (.if_icmp .ge 58, 3) := by decide +kernel
theorem dX10_isInDoubt_14 : decode mX10_isInDoubt.2.1 14 = .ok (.iload_n 3, 1) := by decide +kernel
theorem dX10_isInDoubt_15 : decode mX10_isInDoubt.2.1 15 = .ok (.ifCond .ne 42, 3) := by decide +kernel
theorem dX10_isInDoubt_18 : decode mX10_isInDoubt.2.1 18 = .ok (.iload 4, 2) := by decide +kernel
theorem dX10_isInDoubt_20 : decode mX10_isInDoubt.2.1 20 = .ok (.iload_n 2, 1) := by decide +kernel
theorem dX10_isInDoubt_21 : decode mX10_isInDoubt.2.1 21 = .ok (.if_icmp .eq 40, 3) := by decide +kernel
theorem dX10_isInDoubt_24 : decode mX10_isInDoubt.2.1 24 = .ok (.aload_n 0, 1) := by decide +kernel
theorem dX10_isInDoubt_25 : decode mX10_isInDoubt.2.1 25 = .ok (.iload_n 1, 1) := by decide +kernel
theorem dX10_isInDoubt_26 : decode mX10_isInDoubt.2.1 26 = .ok (.iload 4, 2) := by decide +kernel
theorem dX10_isInDoubt_28 : decode mX10_isInDoubt.2.1 28 = .ok (.invokevirtual 225, 3) := by decide +kernel
theorem dX10_isInDoubt_31 : decode mX10_isInDoubt.2.1 31 = .ok (.ifCond .eq 30, 3) := by decide +kernel
theorem dX10_isInDoubt_34 : decode mX10_isInDoubt.2.1 34 = .ok (.aload_n 0, 1) := by decide +kernel
theorem dX10_isInDoubt_35 : decode mX10_isInDoubt.2.1 35 = .ok (.iload_n 1, 1) := by decide +kernel
theorem dX10_isInDoubt_36 : decode mX10_isInDoubt.2.1 36 = .ok (.iload_n 2, 1) := by decide +kernel
theorem dX10_isInDoubt_37 : decode mX10_isInDoubt.2.1 37 = .ok (.invokevirtual 228, 3) := by decide +kernel
theorem dX10_isInDoubt_40 : decode mX10_isInDoubt.2.1 40 = .ok (.aload_n 0, 1) := by decide +kernel
theorem dX10_isInDoubt_41 : decode mX10_isInDoubt.2.1 41 = .ok (.iload_n 1, 1) := by decide +kernel
theorem dX10_isInDoubt_42 : decode mX10_isInDoubt.2.1 42 = .ok (.iload 4, 2) := by decide +kernel
theorem dX10_isInDoubt_44 : decode mX10_isInDoubt.2.1 44 = .ok (.invokevirtual 228, 3) := by decide +kernel
theorem dX10_isInDoubt_47 : decode mX10_isInDoubt.2.1 47 = .ok (.isub, 1) := by decide +kernel
theorem dX10_isInDoubt_48 : decode mX10_isInDoubt.2.1 48 = .ok (.aload_n 0, 1) := by decide +kernel
theorem dX10_isInDoubt_49 : decode mX10_isInDoubt.2.1 49 = .ok (.getfield 31, 3) := by decide +kernel
theorem dX10_isInDoubt_52 : decode mX10_isInDoubt.2.1 52 = .ok (.iconst 2, 1) := by decide +kernel
theorem dX10_isInDoubt_53 : decode mX10_isInDoubt.2.1 53 = .ok (.iaload, 1) := by decide +kernel
theorem dX10_isInDoubt_54 : decode mX10_isInDoubt.2.1 54 = .ok (.if_icmp .gt 7, 3) := by decide +kernel
theorem dX10_isInDoubt_57 : decode mX10_isInDoubt.2.1 57 = .ok (.iconst 1, 1) := by decide +kernel
theorem dX10_isInDoubt_58 : decode mX10_isInDoubt.2.1 58 = .ok (.goto 4, 3) := by decide +kernel
theorem dX10_isInDoubt_61 : decode mX10_isInDoubt.2.1 61 = .ok (.iconst 0, 1) := by decide +kernel
theorem dX10_isInDoubt_62 : decode mX10_isInDoubt.2.1 62 = .ok (.istore_n 3, 1) := by decide +kernel
theorem dX10_isInDoubt_63 : decode mX10_isInDoubt.2.1 63 = .ok (.iinc 4 1, 3) := by decide +kernel
theorem dX10_isInDoubt_66 : decode mX10_isInDoubt.2.1 66 = .ok (.goto (-61), 3) := by decide +kernel
theorem dX10_isInDoubt_69 : decode mX10_isInDoubt.2.1 69 = .ok (.iload_n 3, 1) := by decide +kernel
theorem dX10_isInDoubt_70 : decode mX10_isInDoubt.2.1 70 = .ok (.ireturn, 1) := by decide +kernel
theorem dX10_layLives_0 : decode mX10_layLives.2.1 0 = .ok (.aload_n 0, 1) := by decide +kernel
theorem dX10_layLives_1 : decode mX10_layLives.2.1 1 = .ok (.invokevirtual 231, 3) := by decide +kernel
theorem dX10_layLives_4 : decode mX10_layLives.2.1 4 = .ok (.iconst 0, 1) := by decide +kernel
theorem dX10_layLives_5 : decode mX10_layLives.2.1 5 = .ok (.istore_n 1, 1) := by decide +kernel
theorem dX10_layLives_6 : decode mX10_layLives.2.1 6 = .ok (.iload_n 1, 1) := by decide +kernel
theorem dX10_layLives_7 : decode mX10_layLives.2.1 7 = .ok (.aload_n 0, 1) := by decide +kernel
theorem dX10_layLives_8 : decode mX10_layLives.2.1 8 = .ok (.getfield 118, 3) := by decide +kernel
theorem dX10_layLives_11 : decode mX10_layLives.2.1 11 = .ok (.if_icmp .ge 24, 3) := by decide +kernel
theorem dX10_layLives_14 : decode mX10_layLives.2.1 14 = .ok (.aload_n 0, 1) := by decide +kernel
theorem dX10_layLives_15 : decode mX10_layLives.2.1 15 = .ok (.getfield 13, 3) := by decide +kernel
theorem dX10_layLives_18 : decode mX10_layLives.2.1 18 = .ok (.iload_n 1, 1) := by decide +kernel
theorem dX10_layLives_19 : decode mX10_layLives.2.1 19 = .ok (.iaload, 1) := by decide +kernel
theorem dX10_layLives_20 : decode mX10_layLives.2.1 20 = .ok (.iconst 1, 1) := by decide +kernel
theorem dX10_layLives_21 : decode mX10_layLives.2.1 21 = .ok (.if_icmp .ne 8, 3) := by decide +kernel
theorem dX10_layLives_24 : decode mX10_layLives.2.1 24 = .ok (.aload_n 0, 1) := by decide +kernel
theorem dX10_layLives_25 : decode mX10_layLives.2.1 25 = .ok (.iload_n 1, 1) := by decide +kernel
theorem dX10_layLives_26 : decode mX10_layLives.2.1 26 = .ok (.invokevirtual 234, 3) := by decide +kernel
theorem dX10_layLives_29 : decode mX10_layLives.2.1 29 = .ok (.iinc 1 1, 3) := by decide +kernel
theorem dX10_layLives_32 : decode mX10_layLives.2.1 32 = .ok (.goto (-26), 3) := by decide +kernel
theorem dX10_layLives_35 : decode mX10_layLives.2.1 35 = .ok (.return_, 1) := by decide +kernel
theorem dX10_layWedding_0 : decode mX10_layWedding.2.1 0 = .ok (.aload_n 0, 1) := by decide +kernel
theorem dX10_layWedding_1 : decode mX10_layWedding.2.1 1 = .ok (.iload_n 1, 1) := by decide +kernel
theorem dX10_layWedding_2 : decode mX10_layWedding.2.1 2 = .ok (.invokevirtual 238, 3) := by decide +kernel
theorem dX10_layWedding_5 : decode mX10_layWedding.2.1 5 = .ok (.istore_n 2, 1) := by decide +kernel
theorem dX10_layWedding_6 : decode mX10_layWedding.2.1 6 = .ok (.iload_n 2, 1) := by decide +kernel
theorem dX10_layWedding_7 : decode mX10_layWedding.2.1 7 = .ok (.iconst (-1), 1) := by decide +kernel
theorem dX10_layWedding_8 : decode mX10_layWedding.2.1 8 = .ok (.if_icmp .ne 34, 3) := by decide +kernel
theorem dX10_layWedding_11 : decode mX10_layWedding.2.1 11 = .ok (.aload_n 0, 1) := by decide +kernel
theorem dX10_layWedding_12 : decode mX10_layWedding.2.1 12 = .ok (.getfield 73, 3) := by decide +kernel
theorem dX10_layWedding_15 : decode mX10_layWedding.2.1 15 = .ok (.iload_n 1, 1) := by decide +kernel
theorem dX10_layWedding_16 : decode mX10_layWedding.2.1 16 = .ok (.aload_n 0, 1) := by decide +kernel
theorem dX10_layWedding_17 : decode mX10_layWedding.2.1 17 = .ok (.getfield 212, 3) := by decide +kernel
theorem dX10_layWedding_20 : decode mX10_layWedding.2.1 20 = .ok (.iastore, 1) := by decide +kernel
theorem dX10_layWedding_21 : decode mX10_layWedding.2.1 21 = .ok (.aload_n 0, 1) := by decide +kernel
theorem dX10_layWedding_22 : decode mX10_layWedding.2.1 22 = .ok (.iconst (-1), 1) := by decide +kernel
theorem dX10_layWedding_23 : decode mX10_layWedding.2.1 23 = .ok (.iconst (-1), 1) := by decide +kernel
theorem dX10_layWedding_24 : decode mX10_layWedding.2.1 24 = .ok (.invokevirtual 218, 3) := by decide +kernel
theorem dX10_layWedding_27 : decode mX10_layWedding.2.1 27 = .ok (.aload_n 0, 1) := by decide +kernel
theorem dX10_layWedding_28 : decode mX10_layWedding.2.1 28 = .ok (.getfield 70, 3) := by decide +kernel
theorem dX10_layWedding_31 : decode mX10_layWedding.2.1 31 = .ok (.aload_n 0, 1) := by decide +kernel
theorem dX10_layWedding_32 : decode mX10_layWedding.2.1 32 = .ok (.getfield 212, 3) := by decide +kernel
theorem dX10_layWedding_35 : decode mX10_layWedding.2.1 35 = .ok (.iconst 1, 1) := by decide +kernel
theorem dX10_layWedding_36 : decode mX10_layWedding.2.1 36 = .ok (.isub, 1) := by decide +kernel
theorem dX10_layWedding_37 : decode mX10_layWedding.2.1 37 = .ok (.iconst 1, 1) := by decide +kernel
theorem dX10_layWedding_38 : decode mX10_layWedding.2.1 38 = .ok (.iastore, 1) := by decide +kernel
theorem dX10_layWedding_39 : decode mX10_layWedding.2.1 39 = .ok (.goto 29, 3) := by decide +kernel
theorem dX10_layWedding_42 : decode mX10_layWedding.2.1 42 = .ok (.aload_n 0, 1) := by decide +kernel
theorem dX10_layWedding_43 : decode mX10_layWedding.2.1 43 = .ok (.iload_n 1, 1) := by decide +kernel
theorem dX10_layWedding_44 : decode mX10_layWedding.2.1 44 = .ok (.iload_n 2, 1) := by decide +kernel
theorem dX10_layWedding_45 : decode mX10_layWedding.2.1 45 = .ok (.invokevirtual 241, 3) := by decide +kernel
theorem dX10_layWedding_48 : decode mX10_layWedding.2.1 48 = .ok (.ifCond .ne 20, 3) := by decide +kernel
theorem dX10_layWedding_51 : decode mX10_layWedding.2.1 51 = .ok (.aload_n 0, 1) := by decide +kernel
theorem dX10_layWedding_52 : decode mX10_layWedding.2.1 52 = .ok (.getfield 73, 3) := by decide +kernel
theorem dX10_layWedding_55 : decode mX10_layWedding.2.1 55 = .ok (.iload_n 1, 1) := by decide +kernel
theorem dX10_layWedding_56 : decode mX10_layWedding.2.1 56 = .ok (.iload_n 2, 1) := by decide +kernel
theorem dX10_layWedding_57 : decode mX10_layWedding.2.1 57 = .ok (.iastore, 1) := by decide +kernel
theorem dX10_layWedding_58 : decode mX10_layWedding.2.1 58 = .ok (.aload_n 0, 1) := by decide +kernel
theorem dX10_layWedding_59 : decode mX10_layWedding.2.1 59 = .ok (.getfield 70, 3) := by decide +kernel
theorem dX10_layWedding_62 : decode mX10_layWedding.2.1 62 = .ok (.iload_n 2, 1) := by decide +kernel
theorem dX10_layWedding_63 : decode mX10_layWedding.2.1 63 = .ok (.dup2, 1) := by decide +kernel
theorem dX10_layWedding_64 : decode mX10_layWedding.2.1 64 = .ok (.iaload, 1) := by decide +kernel
theorem dX10_layWedding_65 : decode mX10_layWedding.2.1 65 = .ok (.iconst 1, 1) := by decide +kernel
theorem dX10_layWedding_66 : decode mX10_layWedding.2.1 66 = .ok (.iadd, 1) := by decide +kernel
theorem dX10_layWedding_67 : decode mX10_layWedding.2.1 67 = .ok (.iastore, 1) := by decide +kernel
theorem dX10_layWedding_68 : decode mX10_layWedding.2.1 68 = .ok (.return_, 1) := by decide +kernel
theorem dX10_isShaky_0 : decode mX10_isShaky.2.1 0 = .ok (.aload_n 0, 1) := by decide +kernel
theorem dX10_isShaky_1 : decode mX10_isShaky.2.1 1 = .ok (.getfield 64, 3) := by decide +kernel
theorem dX10_isShaky_4 : decode mX10_isShaky.2.1 4 = .ok (.iload_n 1, 1) := by decide +kernel
theorem dX10_isShaky_5 : decode mX10_isShaky.2.1 5 = .ok (.iaload, 1) := by decide +kernel
theorem dX10_isShaky_6 : decode mX10_isShaky.2.1 6 = .ok (.istore_n 2, 1) := by decide +kernel
theorem dX10_isShaky_7 : decode mX10_isShaky.2.1 7 = .ok (.aload_n 0, 1) := by decide +kernel
theorem dX10_isShaky_8 : decode mX10_isShaky.2.1 8 = .ok (.getfield 67, 3) := by decide +kernel
theorem dX10_isShaky_11 : decode mX10_isShaky.2.1 11 = .ok (.iload_n 1, 1) := by decide +kernel
theorem dX10_isShaky_12 : decode mX10_isShaky.2.1 12 = .ok (.iaload, 1) := by decide +kernel
theorem dX10_isShaky_13 : decode mX10_isShaky.2.1 13 = .ok (.istore_n 3, 1) := by decide +kernel
theorem dX10_isShaky_14 : decode mX10_isShaky.2.1 14 = .ok (.iload_n 2, 1) := by decide +kernel
theorem dX10_isShaky_15 : decode mX10_isShaky.2.1 15 = .ok (.iconst (-1), 1) := by decide +kernel
theorem dX10_isShaky_16 : decode mX10_isShaky.2.1 16 = .ok (.if_icmp .eq 8, 3) := by decide +kernel
theorem dX10_isShaky_19 : decode mX10_isShaky.2.1 19 = .ok (.iload_n 3, 1) := by decide +kernel
theorem dX10_isShaky_20 : decode mX10_isShaky.2.1 20 = .ok (.iconst (-1), 1) := by decide +kernel
theorem dX10_isShaky_21 : decode mX10_isShaky.2.1 21 = .ok (.if_icmp .ne 5, 3) := by decide +kernel
theorem dX10_isShaky_24 : decode mX10_isShaky.2.1 24 = .ok (.iconst 0, 1) := by decide +kernel
theorem dX10_isShaky_25 : decode mX10_isShaky.2.1 25 = .ok (.ireturn, 1) := by decide +kernel
theorem dX10_isShaky_26 : decode mX10_isShaky.2.1 26 = .ok (.aload_n 0, 1) := by decide +kernel
theorem dX10_isShaky_27 : decode mX10_isShaky.2.1 27 = .ok (.iload_n 2, 1) := by decide +kernel
theorem dX10_isShaky_28 : decode mX10_isShaky.2.1 28 = .ok (.iload_n 3, 1) := by decide +kernel
theorem dX10_isShaky_29 : decode mX10_isShaky.2.1 29 = .ok (.invokevirtual 175, 3) := by decide +kernel
theorem dX10_isShaky_32 : decode mX10_isShaky.2.1 32 = .ok (.aload_n 0, 1) := by decide +kernel
theorem dX10_isShaky_33 : decode mX10_isShaky.2.1 33 = .ok (.getfield 31, 3) := by decide +kernel
theorem dX10_isShaky_36 : decode mX10_isShaky.2.1 36 = .ok (.iconst 2, 1) := by decide +kernel
theorem dX10_isShaky_37 : decode mX10_isShaky.2.1 37 = .ok (.iaload, 1) := by decide +kernel
theorem dX10_isShaky_38 : decode mX10_isShaky.2.1 38 = .ok (.isub, 1) := by decide +kernel
theorem dX10_isShaky_39 : decode mX10_isShaky.2.1 39 = .ok (.istore 4, 2) := by decide +kernel
theorem dX10_isShaky_41 : decode mX10_isShaky.2.1 41 = .ok (.iconst 0, 1) := by decide +kernel
theorem dX10_isShaky_42 : decode mX10_isShaky.2.1 42 = .ok (.istore 5, 2) := by decide +kernel
theorem dX10_isShaky_44 : decode mX10_isShaky.2.1 44 = .ok (.iconst 0, 1) := by decide +kernel
theorem dX10_isShaky_45 : decode mX10_isShaky.2.1 45 = .ok (.istore 6, 2) := by decide +kernel
theorem dX10_isShaky_47 : decode mX10_isShaky.2.1 47 = .ok (.iload 6, 2) := by decide +kernel
theorem dX10_isShaky_49 : decode mX10_isShaky.2.1 49 = .ok (.aload_n 0, 1) := by decide +kernel
theorem dX10_isShaky_50 : decode mX10_isShaky.2.1 50 = .ok (.getfield 118, 3) := by decide +kernel
theorem dX10_isShaky_53 : decode mX10_isShaky.2.1 53 = .ok (.if_icmp .ge 122, 3) := by decide +kernel
theorem dX10_isShaky_56 : decode mX10_isShaky.2.1 56 = .ok (.aload_n 0, 1) := by decide +kernel
theorem dX10_isShaky_57 : decode mX10_isShaky.2.1 57 = .ok (.getfield 13, 3) := by decide +kernel
theorem dX10_isShaky_60 : decode mX10_isShaky.2.1 60 = .ok (.iload 6, 2) := by decide +kernel
theorem dX10_isShaky_62 : decode mX10_isShaky.2.1 62 = .ok (.iaload, 1) := by decide +kernel
theorem dX10_isShaky_63 : decode mX10_isShaky.2.1 63 = .ok (.iconst 2, 1) := by decide +kernel
theorem dX10_isShaky_64 : decode mX10_isShaky.2.1 64 = .ok (.if_icmp .ne 35, 3) := by decide +kernel
theorem dX10_isShaky_67 : decode mX10_isShaky.2.1 67 = .ok (.iload 6, 2) := by decide +kernel
theorem dX10_isShaky_69 : decode mX10_isShaky.2.1 69 = .ok (.iload_n 3, 1) := by decide +kernel
theorem dX10_isShaky_70 : decode mX10_isShaky.2.1 70 = .ok (.if_icmp .eq 29, 3) := by decide +kernel
theorem dX10_isShaky_73 : decode mX10_isShaky.2.1 73 = .ok (.aload_n 0, 1) := by decide +kernel
theorem dX10_isShaky_74 : decode mX10_isShaky.2.1 74 = .ok (.iload_n 2, 1) := by decide +kernel
theorem dX10_isShaky_75 : decode mX10_isShaky.2.1 75 = .ok (.iload 6, 2) := by decide +kernel
theorem dX10_isShaky_77 : decode mX10_isShaky.2.1 77 = .ok (.invokevirtual 172, 3) := by decide +kernel
theorem dX10_isShaky_80 : decode mX10_isShaky.2.1 80 = .ok (.ifCond .eq 19, 3) := by decide +kernel
theorem dX10_isShaky_83 : decode mX10_isShaky.2.1 83 = .ok (.aload_n 0, 1) := by decide +kernel
theorem dX10_isShaky_84 : decode mX10_isShaky.2.1 84 = .ok (.iload_n 2, 1) := by decide +kernel
theorem dX10_isShaky_85 : decode mX10_isShaky.2.1 85 = .ok (.iload 6, 2) := by decide +kernel
theorem dX10_isShaky_87 : decode mX10_isShaky.2.1 87 = .ok (.invokevirtual 175, 3) := by decide +kernel
theorem dX10_isShaky_90 : decode mX10_isShaky.2.1 90 = .ok (.iload 4, 2) := by decide +kernel
theorem dX10_isShaky_92 : decode mX10_isShaky.2.1 92 = .ok (.if_icmp .lt 7, 3) := by decide +kernel
theorem dX10_isShaky_95 : decode mX10_isShaky.2.1 95 = .ok (.iconst 1, 1) := by decide +kernel
theorem dX10_isShaky_96 : decode mX10_isShaky.2.1 96 = .ok (.goto 4, 3) := by decide +kernel
theorem dX10_isShaky_99 : decode mX10_isShaky.2.1 99 = .ok (.iconst 0, 1) := by decide +kernel
theorem dX10_isShaky_100 : decode mX10_isShaky.2.1 100 = .ok (.istore 7, 2) := by decide +kernel
theorem dX10_isShaky_102 : decode mX10_isShaky.2.1 102 = .ok (.aload_n 0, 1) := by decide +kernel
theorem dX10_isShaky_103 : decode mX10_isShaky.2.1 103 = .ok (.getfield 13, 3) := by decide +kernel
theorem dX10_isShaky_106 : decode mX10_isShaky.2.1 106 = .ok (.iload 6, 2) := by decide +kernel
theorem dX10_isShaky_108 : decode mX10_isShaky.2.1 108 = .ok (.iaload, 1) := by decide +kernel
theorem dX10_isShaky_109 : decode mX10_isShaky.2.1 109 = .ok (.ifCond .ne 35, 3) := by decide +kernel
theorem dX10_isShaky_112 : decode mX10_isShaky.2.1 112 = .ok (.iload 6, 2) := by decide +kernel
theorem dX10_isShaky_114 : decode mX10_isShaky.2.1 114 = .ok (.iload_n 2, 1) := by decide +kernel
theorem dX10_isShaky_115 : decode mX10_isShaky.2.1 115 = .ok (.if_icmp .eq 29, 3) := by decide +kernel
theorem dX10_isShaky_118 : decode mX10_isShaky.2.1 118 = .ok (.aload_n 0, 1) := by decide +kernel
theorem dX10_isShaky_119 : decode mX10_isShaky.2.1 119 = .ok (.iload 6, 2) := by decide +kernel
theorem dX10_isShaky_121 : decode mX10_isShaky.2.1 121 = .ok (.iload_n 3, 1) := by decide +kernel
theorem dX10_isShaky_122 : decode mX10_isShaky.2.1 122 = .ok (.invokevirtual 172, 3) := by decide +kernel
theorem dX10_isShaky_125 : decode mX10_isShaky.2.1 125 = .ok (.ifCond .eq 19, 3) := by decide +kernel
theorem dX10_isShaky_128 : decode mX10_isShaky.2.1 128 = .ok (.aload_n 0, 1) := by decide +kernel
theorem dX10_isShaky_129 : decode mX10_isShaky.2.1 129 = .ok (.iload 6, 2) := by decide +kernel
theorem dX10_isShaky_131 : decode mX10_isShaky.2.1 131 = .ok (.iload_n 3, 1) := by decide +kernel
theorem dX10_isShaky_132 : decode mX10_isShaky.2.1 132 = .ok (.invokevirtual 175, 3) := by decide +kernel
theorem dX10_isShaky_135 : decode mX10_isShaky.2.1 135 = .ok (.iload 4, 2) := by decide +kernel
theorem dX10_isShaky_137 : decode mX10_isShaky.2.1 137 = .ok (.if_icmp .lt 7, 3) := by decide +kernel
theorem dX10_isShaky_140 : decode mX10_isShaky.2.1 140 = .ok (.iconst 1, 1) := by decide +kernel
theorem dX10_isShaky_141 : decode mX10_isShaky.2.1 141 = .ok (.goto 4, 3) := by decide +kernel
theorem dX10_isShaky_144 : decode mX10_isShaky.2.1 144 = .ok (.iconst 0, 1) := by decide +kernel
theorem dX10_isShaky_145 : decode mX10_isShaky.2.1 145 = .ok (.istore 8, 2) := by decide +kernel
theorem dX10_isShaky_147 : decode mX10_isShaky.2.1 147 = .ok (.iload 5, 2) := by decide +kernel
theorem dX10_isShaky_149 : decode mX10_isShaky.2.1 149 = .ok (.ifCond .ne 13, 3) := by decide +kernel
theorem dX10_isShaky_152 : decode mX10_isShaky.2.1 152 = .ok (.iload 7, 2) := by decide +kernel
theorem dX10_isShaky_154 : decode mX10_isShaky.2.1 154 = .ok (.ifCond .ne 8, 3) := by decide +kernel
theorem dX10_isShaky_157 : decode mX10_isShaky.2.1 157 = .ok (.iload 8, 2) := by decide +kernel
theorem dX10_isShaky_159 : decode mX10_isShaky.2.1 159 = .ok (.ifCond .eq 7, 3) := by decide +kernel
theorem dX10_isShaky_162 : decode mX10_isShaky.2.1 162 = .ok (.iconst 1, 1) := by decide +kernel
theorem dX10_isShaky_163 : decode mX10_isShaky.2.1 163 = .ok (.goto 4, 3) := by decide +kernel
theorem dX10_isShaky_166 : decode mX10_isShaky.2.1 166 = .ok (.iconst 0, 1) := by decide +kernel
theorem dX10_isShaky_167 : decode mX10_isShaky.2.1 167 = .ok (.istore 5, 2) := by decide +kernel
theorem dX10_isShaky_169 : decode mX10_isShaky.2.1 169 = .ok (.iinc 6 1, 3) := by decide +kernel
theorem dX10_isShaky_172 : decode mX10_isShaky.2.1 172 = .ok (.goto (-125), 3) := by decide +kernel
theorem dX10_isShaky_175 : decode mX10_isShaky.2.1 175 = .ok (.iload 5, 2) := by decide +kernel
theorem dX10_isShaky_177 : decode mX10_isShaky.2.1 177 = .ok (.ireturn, 1) := by decide +kernel
theorem dX10_entriesOf_0 : decode mX10_entriesOf.2.1 0 = .ok (.iconst 0, 1) := by decide +kernel
theorem dX10_entriesOf_1 : decode mX10_entriesOf.2.1 1 = .ok (.istore_n 2, 1) := by decide +kernel
theorem dX10_entriesOf_2 : decode mX10_entriesOf.2.1 2 = .ok (.iconst 0, 1) := by decide +kernel
theorem dX10_entriesOf_3 : decode mX10_entriesOf.2.1 3 = .ok (.istore_n 3, 1) := by decide +kernel
theorem dX10_entriesOf_4 : decode mX10_entriesOf.2.1 4 = .ok (.iload_n 3, 1) := by decide +kernel
theorem dX10_entriesOf_5 : decode mX10_entriesOf.2.1 5 = .ok (.aload_n 0, 1) := by decide +kernel
theorem dX10_entriesOf_6 : decode mX10_entriesOf.2.1 6 = .ok (.getfield 118, 3) := by decide +kernel
theorem dX10_entriesOf_9 : decode mX10_entriesOf.2.1 9 = .ok (.if_icmp .ge 26, 3) := by decide +kernel
theorem dX10_entriesOf_12 : decode mX10_entriesOf.2.1 12 = .ok (.iload_n 2, 1) := by decide +kernel
theorem dX10_entriesOf_13 : decode mX10_entriesOf.2.1 13 = .ok (.aload_n 0, 1) := by decide +kernel
theorem dX10_entriesOf_14 : decode mX10_entriesOf.2.1 14 = .ok (.iload_n 3, 1) := by decide +kernel
theorem dX10_entriesOf_15 : decode mX10_entriesOf.2.1 15 = .ok (.iload_n 1, 1) := by decide +kernel
theorem dX10_entriesOf_16 : decode mX10_entriesOf.2.1 16 = .ok (.invokevirtual 222, 3) := by decide +kernel
theorem dX10_entriesOf_19 : decode mX10_entriesOf.2.1 19 = .ok (.ifCond .eq 7, 3) := by decide +kernel
theorem dX10_entriesOf_22 : decode mX10_entriesOf.2.1 22 = .ok (.iconst 1, 1) := by decide +kernel
theorem dX10_entriesOf_23 : decode mX10_entriesOf.2.1 23 = .ok (.goto 4, 3) := by decide +kernel
theorem dX10_entriesOf_26 : decode mX10_entriesOf.2.1 26 = .ok (.iconst 0, 1) := by decide +kernel
theorem dX10_entriesOf_27 : decode mX10_entriesOf.2.1 27 = .ok (.iadd, 1) := by decide +kernel
theorem dX10_entriesOf_28 : decode mX10_entriesOf.2.1 28 = .ok (.istore_n 2, 1) := by decide +kernel
theorem dX10_entriesOf_29 : decode mX10_entriesOf.2.1 29 = .ok (.iinc 3 1, 3) := by decide +kernel
theorem dX10_entriesOf_32 : decode mX10_entriesOf.2.1 32 = .ok (.goto (-28), 3) := by decide +kernel
theorem dX10_entriesOf_35 : decode mX10_entriesOf.2.1 35 = .ok (.iload_n 2, 1) := by decide +kernel
theorem dX10_entriesOf_36 : decode mX10_entriesOf.2.1 36 = .ok (.ireturn, 1) := by decide +kernel
theorem dX10_doubtful_0 : decode mX10_doubtful.2.1 0 = .ok (.iconst 0, 1) := by decide +kernel
theorem dX10_doubtful_1 : decode mX10_doubtful.2.1 1 = .ok (.istore_n 1, 1) := by decide +kernel
theorem dX10_doubtful_2 : decode mX10_doubtful.2.1 2 = .ok (.iconst 0, 1) := by decide +kernel
theorem dX10_doubtful_3 : decode mX10_doubtful.2.1 3 = .ok (.istore_n 2, 1) := by decide +kernel
theorem dX10_doubtful_4 : decode mX10_doubtful.2.1 4 = .ok (.iload_n 2, 1) := by decide +kernel
theorem dX10_doubtful_5 : decode mX10_doubtful.2.1 5 = .ok (.aload_n 0, 1) := by decide +kernel
theorem dX10_doubtful_6 : decode mX10_doubtful.2.1 6 = .ok (.getfield 118, 3) := by decide +kernel
theorem dX10_doubtful_9 : decode mX10_doubtful.2.1 9 = .ok (.if_icmp .ge 27, 3) := by decide +kernel
theorem dX10_doubtful_12 : decode mX10_doubtful.2.1 12 = .ok (.iload_n 1, 1) := by decide +kernel
theorem dX10_doubtful_13 : decode mX10_doubtful.2.1 13 = .ok (.aload_n 0, 1) := by decide +kernel
theorem dX10_doubtful_14 : decode mX10_doubtful.2.1 14 = .ok (.getfield 73, 3) := by decide +kernel
theorem dX10_doubtful_17 : decode mX10_doubtful.2.1 17 = .ok (.iload_n 2, 1) := by decide +kernel
theorem dX10_doubtful_18 : decode mX10_doubtful.2.1 18 = .ok (.iaload, 1) := by decide +kernel
theorem dX10_doubtful_19 : decode mX10_doubtful.2.1 19 = .ok (.iconst (-1), 1) := by decide +kernel
theorem dX10_doubtful_20 : decode mX10_doubtful.2.1 20 = .ok (.if_icmp .ne 7, 3) := by decide +kernel
theorem dX10_doubtful_23 : decode mX10_doubtful.2.1 23 = .ok (.iconst 1, 1) := by decide +kernel
theorem dX10_doubtful_24 : decode mX10_doubtful.2.1 24 = .ok (.goto 4, 3) := by decide +kernel
theorem dX10_doubtful_27 : decode mX10_doubtful.2.1 27 = .ok (.iconst 0, 1) := by decide +kernel
theorem dX10_doubtful_28 : decode mX10_doubtful.2.1 28 = .ok (.iadd, 1) := by decide +kernel
theorem dX10_doubtful_29 : decode mX10_doubtful.2.1 29 = .ok (.istore_n 1, 1) := by decide +kernel
theorem dX10_doubtful_30 : decode mX10_doubtful.2.1 30 = .ok (.iinc 2 1, 3) := by decide +kernel
theorem dX10_doubtful_33 : decode mX10_doubtful.2.1 33 = .ok (.goto (-29), 3) := by decide +kernel
theorem dX10_doubtful_36 : decode mX10_doubtful.2.1 36 = .ok (.iload_n 1, 1) := by decide +kernel
theorem dX10_doubtful_37 : decode mX10_doubtful.2.1 37 = .ok (.ireturn, 1) := by decide +kernel
theorem dX10_shakyMany_0 : decode mX10_shakyMany.2.1 0 = .ok (.iconst 0, 1) := by decide +kernel
theorem dX10_shakyMany_1 : decode mX10_shakyMany.2.1 1 = .ok (.istore_n 1, 1) := by decide +kernel
theorem dX10_shakyMany_2 : decode mX10_shakyMany.2.1 2 = .ok (.iconst 0, 1) := by decide +kernel
theorem dX10_shakyMany_3 : decode mX10_shakyMany.2.1 3 = .ok (.istore_n 2, 1) := by decide +kernel
theorem dX10_shakyMany_4 : decode mX10_shakyMany.2.1 4 = .ok (.iload_n 2, 1) := by decide +kernel
theorem dX10_shakyMany_5 : decode mX10_shakyMany.2.1 5 = .ok (.aload_n 0, 1) := by decide +kernel
theorem dX10_shakyMany_6 : decode mX10_shakyMany.2.1 6 = .ok (.getfield 212, 3) := by decide +kernel
theorem dX10_shakyMany_9 : decode mX10_shakyMany.2.1 9 = .ok (.if_icmp .ge 25, 3) := by decide +kernel
theorem dX10_shakyMany_12 : decode mX10_shakyMany.2.1 12 = .ok (.iload_n 1, 1) := by decide +kernel
theorem dX10_shakyMany_13 : decode mX10_shakyMany.2.1 13 = .ok (.aload_n 0, 1) := by decide +kernel
theorem dX10_shakyMany_14 : decode mX10_shakyMany.2.1 14 = .ok (.iload_n 2, 1) := by decide +kernel
theorem dX10_shakyMany_15 : decode mX10_shakyMany.2.1 15 = .ok (.invokevirtual 244, 3) := by decide +kernel
theorem dX10_shakyMany_18 : decode mX10_shakyMany.2.1 18 = .ok (.ifCond .eq 7, 3) := by decide +kernel
theorem dX10_shakyMany_21 : decode mX10_shakyMany.2.1 21 = .ok (.iconst 1, 1) := by decide +kernel
theorem dX10_shakyMany_22 : decode mX10_shakyMany.2.1 22 = .ok (.goto 4, 3) := by decide +kernel
theorem dX10_shakyMany_25 : decode mX10_shakyMany.2.1 25 = .ok (.iconst 0, 1) := by decide +kernel
theorem dX10_shakyMany_26 : decode mX10_shakyMany.2.1 26 = .ok (.iadd, 1) := by decide +kernel
theorem dX10_shakyMany_27 : decode mX10_shakyMany.2.1 27 = .ok (.istore_n 1, 1) := by decide +kernel
theorem dX10_shakyMany_28 : decode mX10_shakyMany.2.1 28 = .ok (.iinc 2 1, 3) := by decide +kernel
theorem dX10_shakyMany_31 : decode mX10_shakyMany.2.1 31 = .ok (.goto (-27), 3) := by decide +kernel
theorem dX10_shakyMany_34 : decode mX10_shakyMany.2.1 34 = .ok (.iload_n 1, 1) := by decide +kernel
theorem dX10_shakyMany_35 : decode mX10_shakyMany.2.1 35 = .ok (.ireturn, 1) := by decide +kernel
theorem dX10_onlyMany_0 : decode mX10_onlyMany.2.1 0 = .ok (.iconst 0, 1) := by decide +kernel
theorem dX10_onlyMany_1 : decode mX10_onlyMany.2.1 1 = .ok (.istore_n 1, 1) := by decide +kernel
theorem dX10_onlyMany_2 : decode mX10_onlyMany.2.1 2 = .ok (.iconst 0, 1) := by decide +kernel
theorem dX10_onlyMany_3 : decode mX10_onlyMany.2.1 3 = .ok (.istore_n 2, 1) := by decide +kernel
theorem dX10_onlyMany_4 : decode mX10_onlyMany.2.1 4 = .ok (.iload_n 2, 1) := by decide +kernel
theorem dX10_onlyMany_5 : decode mX10_onlyMany.2.1 5 = .ok (.aload_n 0, 1) := by decide +kernel
theorem dX10_onlyMany_6 : decode mX10_onlyMany.2.1 6 = .ok (.getfield 212, 3) := by decide +kernel
theorem dX10_onlyMany_9 : decode mX10_onlyMany.2.1 9 = .ok (.if_icmp .ge 26, 3) := by decide +kernel
theorem dX10_onlyMany_12 : decode mX10_onlyMany.2.1 12 = .ok (.iload_n 1, 1) := by decide +kernel
theorem dX10_onlyMany_13 : decode mX10_onlyMany.2.1 13 = .ok (.aload_n 0, 1) := by decide +kernel
theorem dX10_onlyMany_14 : decode mX10_onlyMany.2.1 14 = .ok (.iload_n 2, 1) := by decide +kernel
theorem dX10_onlyMany_15 : decode mX10_onlyMany.2.1 15 = .ok (.invokevirtual 247, 3) := by decide +kernel
theorem dX10_onlyMany_18 : decode mX10_onlyMany.2.1 18 = .ok (.iconst 1, 1) := by decide +kernel
theorem dX10_onlyMany_19 : decode mX10_onlyMany.2.1 19 = .ok (.if_icmp .ne 7, 3) := by decide +kernel
theorem dX10_onlyMany_22 : decode mX10_onlyMany.2.1 22 = .ok (.iconst 1, 1) := by decide +kernel
theorem dX10_onlyMany_23 : decode mX10_onlyMany.2.1 23 = .ok (.goto 4, 3) := by decide +kernel
theorem dX10_onlyMany_26 : decode mX10_onlyMany.2.1 26 = .ok (.iconst 0, 1) := by decide +kernel
theorem dX10_onlyMany_27 : decode mX10_onlyMany.2.1 27 = .ok (.iadd, 1) := by decide +kernel
theorem dX10_onlyMany_28 : decode mX10_onlyMany.2.1 28 = .ok (.istore_n 1, 1) := by decide +kernel
theorem dX10_onlyMany_29 : decode mX10_onlyMany.2.1 29 = .ok (.iinc 2 1, 3) := by decide +kernel
theorem dX10_onlyMany_32 : decode mX10_onlyMany.2.1 32 = .ok (.goto (-28), 3) := by decide +kernel
theorem dX10_onlyMany_35 : decode mX10_onlyMany.2.1 35 = .ok (.iload_n 1, 1) := by decide +kernel
theorem dX10_onlyMany_36 : decode mX10_onlyMany.2.1 36 = .ok (.ireturn, 1) := by decide +kernel
theorem dX10_livesNow_0 : decode mX10_livesNow.2.1 0 = .ok (.aload_n 0, 1) := by decide +kernel
theorem dX10_livesNow_1 : decode mX10_livesNow.2.1 1 = .ok (.invokevirtual 250, 3) := by decide +kernel
theorem dX10_livesNow_4 : decode mX10_livesNow.2.1 4 = .ok (.iload_n 1, 1) := by decide +kernel
theorem dX10_livesNow_5 : decode mX10_livesNow.2.1 5 = .ok (.tableswitch 60 0 4 #[35, 40, 45, 50, 55], 35) := by decide +kernel
theorem dX10_livesNow_40 : decode mX10_livesNow.2.1 40 = .ok (.aload_n 0, 1) := by decide +kernel
theorem dX10_livesNow_41 : decode mX10_livesNow.2.1 41 = .ok (.getfield 212, 3) := by decide +kernel
theorem dX10_livesNow_44 : decode mX10_livesNow.2.1 44 = .ok (.ireturn, 1) := by decide +kernel
theorem dX10_livesNow_45 : decode mX10_livesNow.2.1 45 = .ok (.aload_n 0, 1) := by decide +kernel
theorem dX10_livesNow_46 : decode mX10_livesNow.2.1 46 = .ok (.getfield 206, 3) := by decide +kernel
theorem dX10_livesNow_49 : decode mX10_livesNow.2.1 49 = .ok (.ireturn, 1) := by decide +kernel
theorem dX10_livesNow_50 : decode mX10_livesNow.2.1 50 = .ok (.aload_n 0, 1) := by decide +kernel
theorem dX10_livesNow_51 : decode mX10_livesNow.2.1 51 = .ok (.getfield 209, 3) := by decide +kernel
theorem dX10_livesNow_54 : decode mX10_livesNow.2.1 54 = .ok (.ireturn, 1) := by decide +kernel
theorem dX10_livesNow_55 : decode mX10_livesNow.2.1 55 = .ok (.aload_n 0, 1) := by decide +kernel
theorem dX10_livesNow_56 : decode mX10_livesNow.2.1 56 = .ok (.invokevirtual 253, 3) := by decide +kernel
theorem dX10_livesNow_59 : decode mX10_livesNow.2.1 59 = .ok (.ireturn, 1) := by decide +kernel
theorem dX10_livesNow_60 : decode mX10_livesNow.2.1 60 = .ok (.aload_n 0, 1) := by decide +kernel
theorem dX10_livesNow_61 : decode mX10_livesNow.2.1 61 = .ok (.invokevirtual 256, 3) := by decide +kernel
theorem dX10_livesNow_64 : decode mX10_livesNow.2.1 64 = .ok (.ireturn, 1) := by decide +kernel
theorem dX10_livesNow_65 : decode mX10_livesNow.2.1 65 = .ok (.aload_n 0, 1) := by decide +kernel
theorem dX10_livesNow_66 : decode mX10_livesNow.2.1 66 = .ok (.invokevirtual 259, 3) := by decide +kernel
theorem dX10_livesNow_69 : decode mX10_livesNow.2.1 69 = .ok (.ireturn, 1) := by decide +kernel
theorem dX10_lives_0 : decode mX10_lives.2.1 0 = .ok (.iload_n 1, 1) := by decide +kernel
theorem dX10_lives_1 : decode mX10_lives.2.1 1 = .ok (.iconst 0, 1) := by decide +kernel
theorem dX10_lives_2 : decode mX10_lives.2.1 2 = .ok (.iconst 5, 1) := by decide +kernel
theorem dX10_lives_3 : decode mX10_lives.2.1 3 = .ok (.invokestatic 76, 3) := by decide +kernel
theorem dX10_lives_6 : decode mX10_lives.2.1 6 = .ok (.ifCond .eq 11, 3) := by decide +kernel
theorem dX10_lives_9 : decode mX10_lives.2.1 9 = .ok (.aload_n 0, 1) := by decide +kernel
theorem dX10_lives_10 : decode mX10_lives.2.1 10 = .ok (.iload_n 1, 1) := by decide +kernel
theorem dX10_lives_11 : decode mX10_lives.2.1 11 = .ok (.invokevirtual 262, 3) := by decide +kernel
theorem dX10_lives_14 : decode mX10_lives.2.1 14 = .ok (.goto 5, 3) := by decide +kernel
theorem dX10_lives_17 : decode mX10_lives.2.1 17 = .ok (.bipush (-102), 2) := by decide +kernel
theorem dX10_lives_19 : decode mX10_lives.2.1 19 = .ok (.ireturn, 1) := by decide +kernel
theorem dX10_bornOf_0 : decode mX10_bornOf.2.1 0 = .ok (.iconst 0, 1) := by decide +kernel
theorem dX10_bornOf_1 : decode mX10_bornOf.2.1 1 = .ok (.istore_n 3, 1) := by decide +kernel
theorem dX10_bornOf_2 : decode mX10_bornOf.2.1 2 = .ok (.ldc_w 265, 3) := by decide +kernel
theorem dX10_bornOf_5 : decode mX10_bornOf.2.1 5 = .ok (.istore 4, 2) := by decide +kernel
theorem dX10_bornOf_7 : decode mX10_bornOf.2.1 7 = .ok (.iconst 0, 1) := by decide +kernel
theorem dX10_bornOf_8 : decode mX10_bornOf.2.1 8 = .ok (.istore 5, 2) := by decide +kernel
theorem dX10_bornOf_10 : decode mX10_bornOf.2.1 10 = .ok (.iload 5, 2) := by decide +kernel
theorem dX10_bornOf_12 : decode mX10_bornOf.2.1 12 = .ok (.aload_n 0, 1) := by decide +kernel
theorem dX10_bornOf_13 : decode mX10_bornOf.2.1 13 = .ok (.getfield 118, 3) := by decide +kernel
theorem dX10_bornOf_16 : decode mX10_bornOf.2.1 16 = .ok (.if_icmp .ge 43, 3) := by decide +kernel
theorem dX10_bornOf_19 : decode mX10_bornOf.2.1 19 = .ok (.aload_n 0, 1) := by decide +kernel
theorem dX10_bornOf_20 : decode mX10_bornOf.2.1 20 = .ok (.iload 5, 2) := by decide +kernel
theorem dX10_bornOf_22 : decode mX10_bornOf.2.1 22 = .ok (.iload_n 1, 1) := by decide +kernel
theorem dX10_bornOf_23 : decode mX10_bornOf.2.1 23 = .ok (.invokevirtual 222, 3) := by decide +kernel
theorem dX10_bornOf_26 : decode mX10_bornOf.2.1 26 = .ok (.ifCond .eq 27, 3) := by decide +kernel
theorem dX10_bornOf_29 : decode mX10_bornOf.2.1 29 = .ok (.iload_n 3, 1) := by decide +kernel
theorem dX10_bornOf_30 : decode mX10_bornOf.2.1 30 = .ok (.aload_n 0, 1) := by decide +kernel
theorem dX10_bornOf_31 : decode mX10_bornOf.2.1 31 = .ok (.iload 5, 2) := by decide +kernel
theorem dX10_bornOf_33 : decode mX10_bornOf.2.1 33 = .ok (.invokevirtual 151, 3) := by decide +kernel
theorem dX10_bornOf_36 : decode mX10_bornOf.2.1 36 = .ok (.invokestatic 148, 3) := by decide +kernel
theorem dX10_bornOf_39 : decode mX10_bornOf.2.1 39 = .ok (.istore_n 3, 1) := by decide +kernel
theorem dX10_bornOf_40 : decode mX10_bornOf.2.1 40 = .ok (.iload 4, 2) := by decide +kernel
theorem dX10_bornOf_42 : decode mX10_bornOf.2.1 42 = .ok (.aload_n 0, 1) := by decide +kernel
theorem dX10_bornOf_43 : decode mX10_bornOf.2.1 43 = .ok (.iload 5, 2) := by decide +kernel
theorem dX10_bornOf_45 : decode mX10_bornOf.2.1 45 = .ok (.invokevirtual 154, 3) := by decide +kernel
theorem dX10_bornOf_48 : decode mX10_bornOf.2.1 48 = .ok (.invokestatic 138, 3) := by decide +kernel
theorem dX10_bornOf_51 : decode mX10_bornOf.2.1 51 = .ok (.istore 4, 2) := by decide +kernel
theorem dX10_bornOf_53 : decode mX10_bornOf.2.1 53 = .ok (.iinc 5 1, 3) := by decide +kernel
theorem dX10_bornOf_56 : decode mX10_bornOf.2.1 56 = .ok (.goto (-46), 3) := by decide +kernel
theorem dX10_bornOf_59 : decode mX10_bornOf.2.1 59 = .ok (.iload_n 3, 1) := by decide +kernel
theorem dX10_bornOf_60 : decode mX10_bornOf.2.1 60 = .ok (.iload 4, 2) := by decide +kernel
theorem dX10_bornOf_62 : decode mX10_bornOf.2.1 62 = .ok (.if_icmp .le 7, 3) := by decide +kernel
theorem dX10_bornOf_65 : decode mX10_bornOf.2.1 65 = .ok (.iconst (-1), 1) := by decide +kernel
theorem dX10_bornOf_66 : decode mX10_bornOf.2.1 66 = .ok (.goto 13, 3) := by decide +kernel
theorem dX10_bornOf_69 : decode mX10_bornOf.2.1 69 = .ok (.iload_n 2, 1) := by decide +kernel
theorem dX10_bornOf_70 : decode mX10_bornOf.2.1 70 = .ok (.ifCond .eq 7, 3) := by decide +kernel
theorem dX10_bornOf_73 : decode mX10_bornOf.2.1 73 = .ok (.iload_n 3, 1) := by decide +kernel
theorem dX10_bornOf_74 : decode mX10_bornOf.2.1 74 = .ok (.goto 5, 3) := by decide +kernel
theorem dX10_bornOf_77 : decode mX10_bornOf.2.1 77 = .ok (.iload 4, 2) := by decide +kernel
theorem dX10_bornOf_79 : decode mX10_bornOf.2.1 79 = .ok (.ireturn, 1) := by decide +kernel
theorem dX10_lastYear_0 : decode mX10_lastYear.2.1 0 = .ok (.iconst 0, 1) := by decide +kernel
theorem dX10_lastYear_1 : decode mX10_lastYear.2.1 1 = .ok (.istore_n 2, 1) := by decide +kernel
theorem dX10_lastYear_2 : decode mX10_lastYear.2.1 2 = .ok (.iconst 0, 1) := by decide +kernel
theorem dX10_lastYear_3 : decode mX10_lastYear.2.1 3 = .ok (.istore_n 3, 1) := by decide +kernel
theorem dX10_lastYear_4 : decode mX10_lastYear.2.1 4 = .ok (.iload_n 3, 1) := by decide +kernel
theorem dX10_lastYear_5 : decode mX10_lastYear.2.1 5 = .ok (.aload_n 0, 1) := by decide +kernel
theorem dX10_lastYear_6 : decode mX10_lastYear.2.1 6 = .ok (.getfield 118, 3) := by decide +kernel
theorem dX10_lastYear_9 : decode mX10_lastYear.2.1 9 = .ok (.if_icmp .ge 33, 3) := by decide +kernel
theorem dX10_lastYear_12 : decode mX10_lastYear.2.1 12 = .ok (.aload_n 0, 1) := by decide +kernel
theorem dX10_lastYear_13 : decode mX10_lastYear.2.1 13 = .ok (.iload_n 3, 1) := by decide +kernel
theorem dX10_lastYear_14 : decode mX10_lastYear.2.1 14 = .ok (.iload_n 1, 1) := by decide +kernel
theorem dX10_lastYear_15 : decode mX10_lastYear.2.1 15 = .ok (.invokevirtual 222, 3) := by decide +kernel
theorem dX10_lastYear_18 : decode mX10_lastYear.2.1 18 = .ok (.ifCond .eq 16, 3) := by decide +kernel
theorem dX10_lastYear_21 : decode mX10_lastYear.2.1 21 = .ok (.iload_n 2, 1) := by decide +kernel
theorem dX10_lastYear_22 : decode mX10_lastYear.2.1 22 = .ok (.aload_n 0, 1) := by decide +kernel
theorem dX10_lastYear_23 : decode mX10_lastYear.2.1 23 = .ok (.getfield 16, 3) := by decide +kernel
theorem dX10_lastYear_26 : decode mX10_lastYear.2.1 26 = .ok (.iload_n 3, 1) := by decide +kernel
theorem dX10_lastYear_27 : decode mX10_lastYear.2.1 27 = .ok (.iaload, 1) := by decide +kernel
theorem dX10_lastYear_28 : decode mX10_lastYear.2.1 28 = .ok (.invokestatic 148, 3) := by decide +kernel
theorem dX10_lastYear_31 : decode mX10_lastYear.2.1 31 = .ok (.goto 4, 3) := by decide +kernel
theorem dX10_lastYear_34 : decode mX10_lastYear.2.1 34 = .ok (.iload_n 2, 1) := by decide +kernel
theorem dX10_lastYear_35 : decode mX10_lastYear.2.1 35 = .ok (.istore_n 2, 1) := by decide +kernel
theorem dX10_lastYear_36 : decode mX10_lastYear.2.1 36 = .ok (.iinc 3 1, 3) := by decide +kernel
theorem dX10_lastYear_39 : decode mX10_lastYear.2.1 39 = .ok (.goto (-35), 3) := by decide +kernel
theorem dX10_lastYear_42 : decode mX10_lastYear.2.1 42 = .ok (.iload_n 2, 1) := by decide +kernel
theorem dX10_lastYear_43 : decode mX10_lastYear.2.1 43 = .ok (.ireturn, 1) := by decide +kernel
theorem dX10_lifeNow_0 : decode mX10_lifeNow.2.1 0 = .ok (.iload_n 2, 1) := by decide +kernel
theorem dX10_lifeNow_1 : decode mX10_lifeNow.2.1 1 = .ok (.tableswitch 98 0 6 #[43, 50, 57, 64, 71, 78, 92], 43) := by decide +kernel
theorem dX10_lifeNow_44 : decode mX10_lifeNow.2.1 44 = .ok (.aload_n 0, 1) := by decide +kernel
theorem dX10_lifeNow_45 : decode mX10_lifeNow.2.1 45 = .ok (.getfield 64, 3) := by decide +kernel
theorem dX10_lifeNow_48 : decode mX10_lifeNow.2.1 48 = .ok (.iload_n 1, 1) := by decide +kernel
theorem dX10_lifeNow_49 : decode mX10_lifeNow.2.1 49 = .ok (.iaload, 1) := by decide +kernel
theorem dX10_lifeNow_50 : decode mX10_lifeNow.2.1 50 = .ok (.ireturn, 1) := by decide +kernel
theorem dX10_lifeNow_51 : decode mX10_lifeNow.2.1 51 = .ok (.aload_n 0, 1) := by decide +kernel
theorem dX10_lifeNow_52 : decode mX10_lifeNow.2.1 52 = .ok (.getfield 67, 3) := by decide +kernel
theorem dX10_lifeNow_55 : decode mX10_lifeNow.2.1 55 = .ok (.iload_n 1, 1) := by decide +kernel
theorem dX10_lifeNow_56 : decode mX10_lifeNow.2.1 56 = .ok (.iaload, 1) := by decide +kernel
theorem dX10_lifeNow_57 : decode mX10_lifeNow.2.1 57 = .ok (.ireturn, 1) := by decide +kernel
theorem dX10_lifeNow_58 : decode mX10_lifeNow.2.1 58 = .ok (.aload_n 0, 1) := by decide +kernel
theorem dX10_lifeNow_59 : decode mX10_lifeNow.2.1 59 = .ok (.getfield 70, 3) := by decide +kernel
theorem dX10_lifeNow_62 : decode mX10_lifeNow.2.1 62 = .ok (.iload_n 1, 1) := by decide +kernel
theorem dX10_lifeNow_63 : decode mX10_lifeNow.2.1 63 = .ok (.iaload, 1) := by decide +kernel
theorem dX10_lifeNow_64 : decode mX10_lifeNow.2.1 64 = .ok (.ireturn, 1) := by decide +kernel
theorem dX10_lifeNow_65 : decode mX10_lifeNow.2.1 65 = .ok (.aload_n 0, 1) := by decide +kernel
theorem dX10_lifeNow_66 : decode mX10_lifeNow.2.1 66 = .ok (.iload_n 1, 1) := by decide +kernel
theorem dX10_lifeNow_67 : decode mX10_lifeNow.2.1 67 = .ok (.iconst 1, 1) := by decide +kernel
theorem dX10_lifeNow_68 : decode mX10_lifeNow.2.1 68 = .ok (.invokevirtual 266, 3) := by decide +kernel
theorem dX10_lifeNow_71 : decode mX10_lifeNow.2.1 71 = .ok (.ireturn, 1) := by decide +kernel
theorem dX10_lifeNow_72 : decode mX10_lifeNow.2.1 72 = .ok (.aload_n 0, 1) := by decide +kernel
theorem dX10_lifeNow_73 : decode mX10_lifeNow.2.1 73 = .ok (.iload_n 1, 1) := by decide +kernel
theorem dX10_lifeNow_74 : decode mX10_lifeNow.2.1 74 = .ok (.iconst 0, 1) := by decide +kernel
theorem dX10_lifeNow_75 : decode mX10_lifeNow.2.1 75 = .ok (.invokevirtual 266, 3) := by decide +kernel
theorem dX10_lifeNow_78 : decode mX10_lifeNow.2.1 78 = .ok (.ireturn, 1) := by decide +kernel
theorem dX10_lifeNow_79 : decode mX10_lifeNow.2.1 79 = .ok (.aload_n 0, 1) := by decide +kernel
theorem dX10_lifeNow_80 : decode mX10_lifeNow.2.1 80 = .ok (.iload_n 1, 1) := by decide +kernel
theorem dX10_lifeNow_81 : decode mX10_lifeNow.2.1 81 = .ok (.invokevirtual 244, 3) := by decide +kernel
theorem dX10_lifeNow_84 : decode mX10_lifeNow.2.1 84 = .ok (.ifCond .eq 7, 3) := by decide +kernel
theorem dX10_lifeNow_87 : decode mX10_lifeNow.2.1 87 = .ok (.iconst 1, 1) := by decide +kernel
theorem dX10_lifeNow_88 : decode mX10_lifeNow.2.1 88 = .ok (.goto 4, 3) := by decide +kernel
theorem dX10_lifeNow_91 : decode mX10_lifeNow.2.1 91 = .ok (.iconst 0, 1) := by decide +kernel
theorem dX10_lifeNow_92 : decode mX10_lifeNow.2.1 92 = .ok (.ireturn, 1) := by decide +kernel
theorem dX10_lifeNow_93 : decode mX10_lifeNow.2.1 93 = .ok (.aload_n 0, 1) := by decide +kernel
theorem dX10_lifeNow_94 : decode mX10_lifeNow.2.1 94 = .ok (.iload_n 1, 1) := by decide +kernel
theorem dX10_lifeNow_95 : decode mX10_lifeNow.2.1 95 = .ok (.invokevirtual 247, 3) := by decide +kernel
theorem dX10_lifeNow_98 : decode mX10_lifeNow.2.1 98 = .ok (.ireturn, 1) := by decide +kernel
theorem dX10_lifeNow_99 : decode mX10_lifeNow.2.1 99 = .ok (.aload_n 0, 1) := by decide +kernel
theorem dX10_lifeNow_100 : decode mX10_lifeNow.2.1 100 = .ok (.iload_n 1, 1) := by decide +kernel
theorem dX10_lifeNow_101 : decode mX10_lifeNow.2.1 101 = .ok (.invokevirtual 270, 3) := by decide +kernel
theorem dX10_lifeNow_104 : decode mX10_lifeNow.2.1 104 = .ok (.ireturn, 1) := by decide +kernel
theorem dX10_life_0 : decode mX10_life.2.1 0 = .ok (.aload_n 0, 1) := by decide +kernel
theorem dX10_life_1 : decode mX10_life.2.1 1 = .ok (.invokevirtual 250, 3) := by decide +kernel
theorem dX10_life_4 : decode mX10_life.2.1 4 = .ok (.iload_n 1, 1) := by decide +kernel
theorem dX10_life_5 : decode mX10_life.2.1 5 = .ok (.iconst 0, 1) := by decide +kernel
theorem dX10_life_6 : decode mX10_life.2.1 6 = .ok (.aload_n 0, 1) := by decide +kernel
theorem dX10_life_7 : decode mX10_life.2.1 7 = .ok (.getfield 212, 3) := by decide +kernel
theorem dX10_life_10 : decode mX10_life.2.1 10 = .ok (.iconst 1, 1) := by decide +kernel
theorem dX10_life_11 : decode mX10_life.2.1 11 = .ok (.isub, 1) := by decide +kernel
theorem dX10_life_12 : decode mX10_life.2.1 12 = .ok (.invokestatic 76, 3) := by decide +kernel
theorem dX10_life_15 : decode mX10_life.2.1 15 = .ok (.ifCond .ne 8, 3) := by decide +kernel
theorem dX10_life_18 : decode mX10_life.2.1 18 = .ok (.bipush (-101), 2) := by decide +kernel
theorem dX10_life_20 : decode mX10_life.2.1 20 = .ok (.goto 24, 3) := by decide +kernel
theorem dX10_life_23 : decode mX10_life.2.1 23 = .ok (.iload_n 2, 1) := by decide +kernel
theorem dX10_life_24 : decode mX10_life.2.1 24 = .ok (.iconst 0, 1) := by decide +kernel
theorem dX10_life_25 : decode mX10_life.2.1 25 = .ok (.bipush 7, 2) := by decide +kernel
theorem dX10_life_27 : decode mX10_life.2.1 27 = .ok (.invokestatic 76, 3) := by decide +kernel
theorem dX10_life_30 : decode mX10_life.2.1 30 = .ok (.ifCond .eq 12, 3) := by decide +kernel
theorem dX10_life_33 : decode mX10_life.2.1 33 = .ok (.aload_n 0, 1) := by decide +kernel
theorem dX10_life_34 : decode mX10_life.2.1 34 = .ok (.iload_n 1, 1) := by decide +kernel
theorem dX10_life_35 : decode mX10_life.2.1 35 = .ok (.iload_n 2, 1) := by decide +kernel
theorem dX10_life_36 : decode mX10_life.2.1 36 = .ok (.invokevirtual 273, 3) := by decide +kernel
theorem dX10_life_39 : decode mX10_life.2.1 39 = .ok (.goto 5, 3) := by decide +kernel
theorem dX10_life_42 : decode mX10_life.2.1 42 = .ok (.bipush (-102), 2) := by decide +kernel
theorem dX10_life_44 : decode mX10_life.2.1 44 = .ok (.ireturn, 1) := by decide +kernel
theorem dX10_weddingAt_0 : decode mX10_weddingAt.2.1 0 = .ok (.iload_n 2, 1) := by decide +kernel
theorem dX10_weddingAt_1 : decode mX10_weddingAt.2.1 1 = .ok (.istore_n 3, 1) := by decide +kernel
theorem dX10_weddingAt_2 : decode mX10_weddingAt.2.1 2 = .ok (.iconst 0, 1) := by decide +kernel
theorem dX10_weddingAt_3 : decode mX10_weddingAt.2.1 3 = .ok (.istore 4, 2) := by decide +kernel
theorem dX10_weddingAt_5 : decode mX10_weddingAt.2.1 5 = .ok (.iload 4, 2) := by decide +kernel
theorem dX10_weddingAt_7 : decode mX10_weddingAt.2.1 7 = .ok (.aload_n 0, 1) := by decide +kernel
theorem dX10_weddingAt_8 : decode mX10_weddingAt.2.1 8 = .ok (.getfield 118, 3) := by decide +kernel
theorem dX10_weddingAt_11 : decode mX10_weddingAt.2.1 11 = .ok (.if_icmp .ge 44, 3) := by decide +kernel
theorem dX10_weddingAt_14 : decode mX10_weddingAt.2.1 14 = .ok (.iload_n 2, 1) := by decide +kernel
theorem dX10_weddingAt_15 : decode mX10_weddingAt.2.1 15 = .ok (.ifCond .lt 40, 3) := by decide +kernel
theorem dX10_weddingAt_18 : decode mX10_weddingAt.2.1 18 = .ok (.aload_n 0, 1) := by decide +kernel
theorem dX10_weddingAt_19 : decode mX10_weddingAt.2.1 19 = .ok (.getfield 13, 3) := by decide +kernel
theorem dX10_weddingAt_22 : decode mX10_weddingAt.2.1 22 = .ok (.iload 4, 2) := by decide +kernel
theorem dX10_weddingAt_24 : decode mX10_weddingAt.2.1 24 = .ok (.iaload, 1) := by decide +kernel
theorem dX10_weddingAt_25 : decode mX10_weddingAt.2.1 25 = .ok (.iconst 1, 1) := by decide +kernel
theorem dX10_weddingAt_26 : decode mX10_weddingAt.2.1 26 = .ok (.if_icmp .ne 23, 3) := by decide +kernel
theorem dX10_weddingAt_29 : decode mX10_weddingAt.2.1 29 = .ok (.aload_n 0, 1) := by decide +kernel
theorem dX10_weddingAt_30 : decode mX10_weddingAt.2.1 30 = .ok (.iload 4, 2) := by decide +kernel
theorem dX10_weddingAt_32 : decode mX10_weddingAt.2.1 32 = .ok (.iload_n 1, 1) := by decide +kernel
theorem dX10_weddingAt_33 : decode mX10_weddingAt.2.1 33 = .ok (.invokevirtual 222, 3) := by decide +kernel
theorem dX10_weddingAt_36 : decode mX10_weddingAt.2.1 36 = .ok (.ifCond .eq 13, 3) := by decide +kernel
theorem dX10_weddingAt_39 : decode mX10_weddingAt.2.1 39 = .ok (.iload_n 3, 1) := by decide +kernel
theorem dX10_weddingAt_40 : decode mX10_weddingAt.2.1 40 = .ok (.ifCond .ne 6, 3) := by decide +kernel
theorem dX10_weddingAt_43 : decode mX10_weddingAt.2.1 43 = .ok (.iload 4, 2) := by decide +kernel
theorem dX10_weddingAt_45 : decode mX10_weddingAt.2.1 45 = .ok (.ireturn, 1) := by decide +kernel
theorem dX10_weddingAt_46 : decode mX10_weddingAt.2.1 46 = .ok (.iinc 3 (-1), 3) := by decide +kernel
theorem dX10_weddingAt_49 : decode mX10_weddingAt.2.1 49 = .ok (.iinc 4 1, 3) := by decide +kernel
theorem dX10_weddingAt_52 : decode mX10_weddingAt.2.1 52 = .ok (.goto (-47), 3) := by decide +kernel
theorem dX10_weddingAt_55 : decode mX10_weddingAt.2.1 55 = .ok (.bipush (-101), 2) := by decide +kernel
theorem dX10_weddingAt_57 : decode mX10_weddingAt.2.1 57 = .ok (.ireturn, 1) := by decide +kernel
theorem dX10_wedding_0 : decode mX10_wedding.2.1 0 = .ok (.aload_n 0, 1) := by decide +kernel
theorem dX10_wedding_1 : decode mX10_wedding.2.1 1 = .ok (.invokevirtual 250, 3) := by decide +kernel
theorem dX10_wedding_4 : decode mX10_wedding.2.1 4 = .ok (.iload_n 1, 1) := by decide +kernel
theorem dX10_wedding_5 : decode mX10_wedding.2.1 5 = .ok (.iconst 0, 1) := by decide +kernel
theorem dX10_wedding_6 : decode mX10_wedding.2.1 6 = .ok (.aload_n 0, 1) := by decide +kernel
theorem dX10_wedding_7 : decode mX10_wedding.2.1 7 = .ok (.getfield 212, 3) := by decide +kernel
theorem dX10_wedding_10 : decode mX10_wedding.2.1 10 = .ok (.iconst 1, 1) := by decide +kernel
theorem dX10_wedding_11 : decode mX10_wedding.2.1 11 = .ok (.isub, 1) := by decide +kernel
theorem dX10_wedding_12 : decode mX10_wedding.2.1 12 = .ok (.invokestatic 76, 3) := by decide +kernel
theorem dX10_wedding_15 : decode mX10_wedding.2.1 15 = .ok (.ifCond .eq 12, 3) := by decide +kernel
theorem dX10_wedding_18 : decode mX10_wedding.2.1 18 = .ok (.aload_n 0, 1) := by decide +kernel
theorem dX10_wedding_19 : decode mX10_wedding.2.1 19 = .ok (.iload_n 1, 1) := by decide +kernel
theorem dX10_wedding_20 : decode mX10_wedding.2.1 20 = .ok (.iload_n 2, 1) := by decide +kernel
theorem dX10_wedding_21 : decode mX10_wedding.2.1 21 = .ok (.invokevirtual 276, 3) := by decide +kernel
theorem dX10_wedding_24 : decode mX10_wedding.2.1 24 = .ok (.goto 5, 3) := by decide +kernel
theorem dX10_wedding_27 : decode mX10_wedding.2.1 27 = .ok (.bipush (-101), 2) := by decide +kernel
theorem dX10_wedding_29 : decode mX10_wedding.2.1 29 = .ok (.ireturn, 1) := by decide +kernel
theorem dX10_worth_0 : decode mX10_worth.2.1 0 = .ok (.aload_n 0, 1) := by decide +kernel
theorem dX10_worth_1 : decode mX10_worth.2.1 1 = .ok (.invokevirtual 231, 3) := by decide +kernel
theorem dX10_worth_4 : decode mX10_worth.2.1 4 = .ok (.aload_n 0, 1) := by decide +kernel
theorem dX10_worth_5 : decode mX10_worth.2.1 5 = .ok (.iload_n 1, 1) := by decide +kernel
theorem dX10_worth_6 : decode mX10_worth.2.1 6 = .ok (.invokevirtual 178, 3) := by decide +kernel
theorem dX10_worth_9 : decode mX10_worth.2.1 9 = .ok (.ifCond .eq 27, 3) := by decide +kernel
theorem dX10_worth_12 : decode mX10_worth.2.1 12 = .ok (.aload_n 0, 1) := by decide +kernel
theorem dX10_worth_13 : decode mX10_worth.2.1 13 = .ok (.getfield 13, 3) := by decide +kernel
theorem dX10_worth_16 : decode mX10_worth.2.1 16 = .ok (.iload_n 1, 1) := by decide +kernel
theorem dX10_worth_17 : decode mX10_worth.2.1 17 = .ok (.iaload, 1) := by decide +kernel
theorem dX10_worth_18 : decode mX10_worth.2.1 18 = .ok (.iconst 1, 1) := by decide +kernel
theorem dX10_worth_19 : decode mX10_worth.2.1 19 = .ok (.if_icmp .ne 17, 3) := by decide +kernel
theorem dX10_worth_22 : decode mX10_worth.2.1 22 = .ok (.iload_n 2, 1) := by decide +kernel
theorem dX10_worth_23 : decode mX10_worth.2.1 23 = .ok (.iconst 0, 1) := by decide +kernel
theorem dX10_worth_24 : decode mX10_worth.2.1 24 = .ok (.aload_n 0, 1) := by decide +kernel
theorem dX10_worth_25 : decode mX10_worth.2.1 25 = .ok (.getfield 212, 3) := by decide +kernel
theorem dX10_worth_28 : decode mX10_worth.2.1 28 = .ok (.iconst 1, 1) := by decide +kernel
theorem dX10_worth_29 : decode mX10_worth.2.1 29 = .ok (.isub, 1) := by decide +kernel
theorem dX10_worth_30 : decode mX10_worth.2.1 30 = .ok (.invokestatic 76, 3) := by decide +kernel
theorem dX10_worth_33 : decode mX10_worth.2.1 33 = .ok (.ifCond .ne 6, 3) := by decide +kernel
theorem dX10_worth_36 : decode mX10_worth.2.1 36 = .ok (.bipush (-101), 2) := by decide +kernel
theorem dX10_worth_38 : decode mX10_worth.2.1 38 = .ok (.ireturn, 1) := by decide +kernel
theorem dX10_worth_39 : decode mX10_worth.2.1 39 = .ok (.aload_n 0, 1) := by decide +kernel
theorem dX10_worth_40 : decode mX10_worth.2.1 40 = .ok (.iload_n 1, 1) := by decide +kernel
theorem dX10_worth_41 : decode mX10_worth.2.1 41 = .ok (.iload_n 2, 1) := by decide +kernel
theorem dX10_worth_42 : decode mX10_worth.2.1 42 = .ok (.invokevirtual 225, 3) := by decide +kernel
theorem dX10_worth_45 : decode mX10_worth.2.1 45 = .ok (.ifCond .eq 12, 3) := by decide +kernel
theorem dX10_worth_48 : decode mX10_worth.2.1 48 = .ok (.aload_n 0, 1) := by decide +kernel
theorem dX10_worth_49 : decode mX10_worth.2.1 49 = .ok (.iload_n 1, 1) := by decide +kernel
theorem dX10_worth_50 : decode mX10_worth.2.1 50 = .ok (.iload_n 2, 1) := by decide +kernel
theorem dX10_worth_51 : decode mX10_worth.2.1 51 = .ok (.invokevirtual 228, 3) := by decide +kernel
theorem dX10_worth_54 : decode mX10_worth.2.1 54 = .ok (.goto 4, 3) := by decide +kernel
theorem dX10_worth_57 : decode mX10_worth.2.1 57 = .ok (.iconst (-1), 1) := by decide +kernel
theorem dX10_worth_58 : decode mX10_worth.2.1 58 = .ok (.ireturn, 1) := by decide +kernel
theorem dX10_mate_0 : decode mX10_mate.2.1 0 = .ok (.aload_n 0, 1) := by decide +kernel
theorem dX10_mate_1 : decode mX10_mate.2.1 1 = .ok (.iload_n 1, 1) := by decide +kernel
theorem dX10_mate_2 : decode mX10_mate.2.1 2 = .ok (.invokevirtual 178, 3) := by decide +kernel
theorem dX10_mate_5 : decode mX10_mate.2.1 5 = .ok (.ifCond .eq 13, 3) := by decide +kernel
theorem dX10_mate_8 : decode mX10_mate.2.1 8 = .ok (.aload_n 0, 1) := by decide +kernel
theorem dX10_mate_9 : decode mX10_mate.2.1 9 = .ok (.getfield 13, 3) := by decide +kernel
theorem dX10_mate_12 : decode mX10_mate.2.1 12 = .ok (.iload_n 1, 1) := by decide +kernel
theorem dX10_mate_13 : decode mX10_mate.2.1 13 = .ok (.iaload, 1) := by decide +kernel
theorem dX10_mate_14 : decode mX10_mate.2.1 14 = .ok (.iconst 1, 1) := by decide +kernel
theorem dX10_mate_15 : decode mX10_mate.2.1 15 = .ok (.if_icmp .ne 6, 3) := by decide +kernel
theorem dX10_mate_18 : decode mX10_mate.2.1 18 = .ok (.bipush (-101), 2) := by decide +kernel
theorem dX10_mate_20 : decode mX10_mate.2.1 20 = .ok (.ireturn, 1) := by decide +kernel
theorem dX10_mate_21 : decode mX10_mate.2.1 21 = .ok (.aload_n 0, 1) := by decide +kernel
theorem dX10_mate_22 : decode mX10_mate.2.1 22 = .ok (.invokevirtual 215, 3) := by decide +kernel
theorem dX10_mate_25 : decode mX10_mate.2.1 25 = .ok (.aload_n 0, 1) := by decide +kernel
theorem dX10_mate_26 : decode mX10_mate.2.1 26 = .ok (.getfield 61, 3) := by decide +kernel
theorem dX10_mate_29 : decode mX10_mate.2.1 29 = .ok (.iload_n 1, 1) := by decide +kernel
theorem dX10_mate_30 : decode mX10_mate.2.1 30 = .ok (.iaload, 1) := by decide +kernel
theorem dX10_mate_31 : decode mX10_mate.2.1 31 = .ok (.ireturn, 1) := by decide +kernel
theorem dX10_entryNow_0 : decode mX10_entryNow.2.1 0 = .ok (.iload_n 2, 1) := by decide +kernel
theorem dX10_entryNow_1 : decode mX10_entryNow.2.1 1 = .ok (.tableswitch 90 0 6 #[43, 50, 57, 64, 71, 77, 83], 43) := by decide +kernel
theorem dX10_entryNow_44 : decode mX10_entryNow.2.1 44 = .ok (.aload_n 0, 1) := by decide +kernel
theorem dX10_entryNow_45 : decode mX10_entryNow.2.1 45 = .ok (.getfield 13, 3) := by decide +kernel
theorem dX10_entryNow_48 : decode mX10_entryNow.2.1 48 = .ok (.iload_n 1, 1) := by decide +kernel
theorem dX10_entryNow_49 : decode mX10_entryNow.2.1 49 = .ok (.iaload, 1) := by decide +kernel
theorem dX10_entryNow_50 : decode mX10_entryNow.2.1 50 = .ok (.ireturn, 1) := by decide +kernel
theorem dX10_entryNow_51 : decode mX10_entryNow.2.1 51 = .ok (.aload_n 0, 1) := by decide +kernel
theorem dX10_entryNow_52 : decode mX10_entryNow.2.1 52 = .ok (.getfield 16, 3) := by decide +kernel
theorem dX10_entryNow_55 : decode mX10_entryNow.2.1 55 = .ok (.iload_n 1, 1) := by decide +kernel
theorem dX10_entryNow_56 : decode mX10_entryNow.2.1 56 = .ok (.iaload, 1) := by decide +kernel
theorem dX10_entryNow_57 : decode mX10_entryNow.2.1 57 = .ok (.ireturn, 1) := by decide +kernel
theorem dX10_entryNow_58 : decode mX10_entryNow.2.1 58 = .ok (.aload_n 0, 1) := by decide +kernel
theorem dX10_entryNow_59 : decode mX10_entryNow.2.1 59 = .ok (.getfield 19, 3) := by decide +kernel
theorem dX10_entryNow_62 : decode mX10_entryNow.2.1 62 = .ok (.iload_n 1, 1) := by decide +kernel
theorem dX10_entryNow_63 : decode mX10_entryNow.2.1 63 = .ok (.iaload, 1) := by decide +kernel
theorem dX10_entryNow_64 : decode mX10_entryNow.2.1 64 = .ok (.ireturn, 1) := by decide +kernel
theorem dX10_entryNow_65 : decode mX10_entryNow.2.1 65 = .ok (.aload_n 0, 1) := by decide +kernel
theorem dX10_entryNow_66 : decode mX10_entryNow.2.1 66 = .ok (.getfield 22, 3) := by decide +kernel
theorem dX10_entryNow_69 : decode mX10_entryNow.2.1 69 = .ok (.iload_n 1, 1) := by decide +kernel
theorem dX10_entryNow_70 : decode mX10_entryNow.2.1 70 = .ok (.iaload, 1) := by decide +kernel
theorem dX10_entryNow_71 : decode mX10_entryNow.2.1 71 = .ok (.ireturn, 1) := by decide +kernel
theorem dX10_entryNow_72 : decode mX10_entryNow.2.1 72 = .ok (.aload_n 0, 1) := by decide +kernel
theorem dX10_entryNow_73 : decode mX10_entryNow.2.1 73 = .ok (.iload_n 1, 1) := by decide +kernel
theorem dX10_entryNow_74 : decode mX10_entryNow.2.1 74 = .ok (.invokevirtual 151, 3) := by decide +kernel
theorem dX10_entryNow_77 : decode mX10_entryNow.2.1 77 = .ok (.ireturn, 1) := by decide +kernel
theorem dX10_entryNow_78 : decode mX10_entryNow.2.1 78 = .ok (.aload_n 0, 1) := by decide +kernel
theorem dX10_entryNow_79 : decode mX10_entryNow.2.1 79 = .ok (.iload_n 1, 1) := by decide +kernel
theorem dX10_entryNow_80 : decode mX10_entryNow.2.1 80 = .ok (.invokevirtual 154, 3) := by decide +kernel
theorem dX10_entryNow_83 : decode mX10_entryNow.2.1 83 = .ok (.ireturn, 1) := by decide +kernel
theorem dX10_entryNow_84 : decode mX10_entryNow.2.1 84 = .ok (.aload_n 0, 1) := by decide +kernel
theorem dX10_entryNow_85 : decode mX10_entryNow.2.1 85 = .ok (.getfield 73, 3) := by decide +kernel
theorem dX10_entryNow_88 : decode mX10_entryNow.2.1 88 = .ok (.iload_n 1, 1) := by decide +kernel
theorem dX10_entryNow_89 : decode mX10_entryNow.2.1 89 = .ok (.iaload, 1) := by decide +kernel
theorem dX10_entryNow_90 : decode mX10_entryNow.2.1 90 = .ok (.ireturn, 1) := by decide +kernel
theorem dX10_entryNow_91 : decode mX10_entryNow.2.1 91 = .ok (.aload_n 0, 1) := by decide +kernel
theorem dX10_entryNow_92 : decode mX10_entryNow.2.1 92 = .ok (.getfield 73, 3) := by decide +kernel
theorem dX10_entryNow_95 : decode mX10_entryNow.2.1 95 = .ok (.iload_n 1, 1) := by decide +kernel
theorem dX10_entryNow_96 : decode mX10_entryNow.2.1 96 = .ok (.iaload, 1) := by decide +kernel
theorem dX10_entryNow_97 : decode mX10_entryNow.2.1 97 = .ok (.iconst (-1), 1) := by decide +kernel
theorem dX10_entryNow_98 : decode mX10_entryNow.2.1 98 = .ok (.if_icmp .ne 7, 3) := by decide +kernel
theorem dX10_entryNow_101 : decode mX10_entryNow.2.1 101 = .ok (.iconst 1, 1) := by decide +kernel
theorem dX10_entryNow_102 : decode mX10_entryNow.2.1 102 = .ok (.goto 4, 3) := by decide +kernel
theorem dX10_entryNow_105 : decode mX10_entryNow.2.1 105 = .ok (.iconst 0, 1) := by decide +kernel
theorem dX10_entryNow_106 : decode mX10_entryNow.2.1 106 = .ok (.ireturn, 1) := by decide +kernel
theorem dX10_entryTold_0 : decode mX10_entryTold.2.1 0 = .ok (.aload_n 0, 1) := by decide +kernel
theorem dX10_entryTold_1 : decode mX10_entryTold.2.1 1 = .ok (.invokevirtual 250, 3) := by decide +kernel
theorem dX10_entryTold_4 : decode mX10_entryTold.2.1 4 = .ok (.aload_n 0, 1) := by decide +kernel
theorem dX10_entryTold_5 : decode mX10_entryTold.2.1 5 = .ok (.iload_n 1, 1) := by decide +kernel
theorem dX10_entryTold_6 : decode mX10_entryTold.2.1 6 = .ok (.iload_n 2, 1) := by decide +kernel
theorem dX10_entryTold_7 : decode mX10_entryTold.2.1 7 = .ok (.invokevirtual 279, 3) := by decide +kernel
theorem dX10_entryTold_10 : decode mX10_entryTold.2.1 10 = .ok (.ireturn, 1) := by decide +kernel
theorem dX10_entry_0 : decode mX10_entry.2.1 0 = .ok (.aload_n 0, 1) := by decide +kernel
theorem dX10_entry_1 : decode mX10_entry.2.1 1 = .ok (.iload_n 1, 1) := by decide +kernel
theorem dX10_entry_2 : decode mX10_entry.2.1 2 = .ok (.invokevirtual 178, 3) := by decide +kernel
theorem dX10_entry_5 : decode mX10_entry.2.1 5 = .ok (.ifCond .ne 8, 3) := by decide +kernel
theorem dX10_entry_8 : decode mX10_entry.2.1 8 = .ok (.bipush (-101), 2) := by decide +kernel
theorem dX10_entry_10 : decode mX10_entry.2.1 10 = .ok (.goto 24, 3) := by decide +kernel
theorem dX10_entry_13 : decode mX10_entry.2.1 13 = .ok (.iload_n 2, 1) := by decide +kernel
theorem dX10_entry_14 : decode mX10_entry.2.1 14 = .ok (.iconst 0, 1) := by decide +kernel
theorem dX10_entry_15 : decode mX10_entry.2.1 15 = .ok (.bipush 7, 2) := by decide +kernel
theorem dX10_entry_17 : decode mX10_entry.2.1 17 = .ok (.invokestatic 76, 3) := by decide +kernel
theorem dX10_entry_20 : decode mX10_entry.2.1 20 = .ok (.ifCond .eq 12, 3) := by decide +kernel
theorem dX10_entry_23 : decode mX10_entry.2.1 23 = .ok (.aload_n 0, 1) := by decide +kernel
theorem dX10_entry_24 : decode mX10_entry.2.1 24 = .ok (.iload_n 1, 1) := by decide +kernel
theorem dX10_entry_25 : decode mX10_entry.2.1 25 = .ok (.iload_n 2, 1) := by decide +kernel
theorem dX10_entry_26 : decode mX10_entry.2.1 26 = .ok (.invokevirtual 282, 3) := by decide +kernel
theorem dX10_entry_29 : decode mX10_entry.2.1 29 = .ok (.goto 5, 3) := by decide +kernel
theorem dX10_entry_32 : decode mX10_entry.2.1 32 = .ok (.bipush (-102), 2) := by decide +kernel
theorem dX10_entry_34 : decode mX10_entry.2.1 34 = .ok (.ireturn, 1) := by decide +kernel
theorem dX10_sign_0 : decode mX10_sign.2.1 0 = .ok (.aload_n 0, 1) := by decide +kernel
theorem dX10_sign_1 : decode mX10_sign.2.1 1 = .ok (.iload_n 1, 1) := by decide +kernel
theorem dX10_sign_2 : decode mX10_sign.2.1 2 = .ok (.invokevirtual 178, 3) := by decide +kernel
theorem dX10_sign_5 : decode mX10_sign.2.1 5 = .ok (.ifCond .eq 33, 3) := by decide +kernel
theorem dX10_sign_8 : decode mX10_sign.2.1 8 = .ok (.iload_n 2, 1) := by decide +kernel
theorem dX10_sign_9 : decode mX10_sign.2.1 9 = .ok (.iconst 0, 1) := by decide +kernel
theorem dX10_sign_10 : decode mX10_sign.2.1 10 = .ok (.aload_n 0, 1) := by decide +kernel
theorem dX10_sign_11 : decode mX10_sign.2.1 11 = .ok (.getfield 22, 3) := by decide +kernel
theorem dX10_sign_14 : decode mX10_sign.2.1 14 = .ok (.iload_n 1, 1) := by decide +kernel
theorem dX10_sign_15 : decode mX10_sign.2.1 15 = .ok (.iaload, 1) := by decide +kernel
theorem dX10_sign_16 : decode mX10_sign.2.1 16 = .ok (.iconst 1, 1) := by decide +kernel
theorem dX10_sign_17 : decode mX10_sign.2.1 17 = .ok (.isub, 1) := by decide +kernel
theorem dX10_sign_18 : decode mX10_sign.2.1 18 = .ok (.invokestatic 76, 3) := by decide +kernel
theorem dX10_sign_21 : decode mX10_sign.2.1 21 = .ok (.ifCond .eq 17, 3) := by decide +kernel
theorem dX10_sign_24 : decode mX10_sign.2.1 24 = .ok (.aload_n 0, 1) := by decide +kernel
theorem dX10_sign_25 : decode mX10_sign.2.1 25 = .ok (.getfield 25, 3) := by decide +kernel
theorem dX10_sign_28 : decode mX10_sign.2.1 28 = .ok (.bipush 8, 2) := by decide +kernel
theorem dX10_sign_30 : decode mX10_sign.2.1 30 = .ok (.iload_n 1, 1) := by decide +kernel
theorem dX10_sign_31 : decode mX10_sign.2.1 31 = .ok (.imul, 1) := by decide +kernel
theorem dX10_sign_32 : decode mX10_sign.2.1 32 = .ok (.iload_n 2, 1) := by decide +kernel
theorem dX10_sign_33 : decode mX10_sign.2.1 33 = .ok (.iadd, 1) := by decide +kernel
theorem dX10_sign_34 : decode mX10_sign.2.1 34 = .ok (.iaload, 1) := by decide +kernel
theorem dX10_sign_35 : decode mX10_sign.2.1 35 = .ok (.goto 5, 3) := by decide +kernel
theorem dX10_sign_38 : decode mX10_sign.2.1 38 = .ok (.bipush (-101), 2) := by decide +kernel
theorem dX10_sign_40 : decode mX10_sign.2.1 40 = .ok (.ireturn, 1) := by decide +kernel
theorem dX10_as_0 : decode mX10_as.2.1 0 = .ok (.aload_n 0, 1) := by decide +kernel
theorem dX10_as_1 : decode mX10_as.2.1 1 = .ok (.iload_n 1, 1) := by decide +kernel
theorem dX10_as_2 : decode mX10_as.2.1 2 = .ok (.invokevirtual 178, 3) := by decide +kernel
theorem dX10_as_5 : decode mX10_as.2.1 5 = .ok (.ifCond .ne 6, 3) := by decide +kernel
theorem dX10_as_8 : decode mX10_as.2.1 8 = .ok (.bipush (-101), 2) := by decide +kernel
theorem dX10_as_10 : decode mX10_as.2.1 10 = .ok (.ireturn, 1) := by decide +kernel
theorem dX10_as_11 : decode mX10_as.2.1 11 = .ok (.iload_n 2, 1) := by decide +kernel
theorem dX10_as_12 : decode mX10_as.2.1 12 = .ok (.iconst 0, 1) := by decide +kernel
theorem dX10_as_13 : decode mX10_as.2.1 13 = .ok (.iconst 2, 1) := by decide +kernel
theorem dX10_as_14 : decode mX10_as.2.1 14 = .ok (.invokestatic 76, 3) := by decide +kernel
theorem dX10_as_17 : decode mX10_as.2.1 17 = .ok (.ifCond .ne 6, 3) := by decide +kernel
theorem dX10_as_20 : decode mX10_as.2.1 20 = .ok (.bipush (-102), 2) := by decide +kernel
theorem dX10_as_22 : decode mX10_as.2.1 22 = .ok (.ireturn, 1) := by decide +kernel
theorem dX10_as_23 : decode mX10_as.2.1 23 = .ok (.aload_n 0, 1) := by decide +kernel
theorem dX10_as_24 : decode mX10_as.2.1 24 = .ok (.getfield 13, 3) := by decide +kernel
theorem dX10_as_27 : decode mX10_as.2.1 27 = .ok (.iload_n 1, 1) := by decide +kernel
theorem dX10_as_28 : decode mX10_as.2.1 28 = .ok (.iaload, 1) := by decide +kernel
theorem dX10_as_29 : decode mX10_as.2.1 29 = .ok (.iload_n 2, 1) := by decide +kernel
theorem dX10_as_30 : decode mX10_as.2.1 30 = .ok (.if_icmp .ne 12, 3) := by decide +kernel
theorem dX10_as_33 : decode mX10_as.2.1 33 = .ok (.aload_n 0, 1) := by decide +kernel
theorem dX10_as_34 : decode mX10_as.2.1 34 = .ok (.getfield 16, 3) := by decide +kernel
theorem dX10_as_37 : decode mX10_as.2.1 37 = .ok (.iload_n 1, 1) := by decide +kernel
theorem dX10_as_38 : decode mX10_as.2.1 38 = .ok (.iaload, 1) := by decide +kernel
theorem dX10_as_39 : decode mX10_as.2.1 39 = .ok (.goto 4, 3) := by decide +kernel
theorem dX10_as_42 : decode mX10_as.2.1 42 = .ok (.iconst (-1), 1) := by decide +kernel
theorem dX10_as_43 : decode mX10_as.2.1 43 = .ok (.ireturn, 1) := by decide +kernel
theorem dX10_without_0 : decode mX10_without.2.1 0 = .ok (.iload_n 0, 1) := by decide +kernel
theorem dX10_without_1 : decode mX10_without.2.1 1 = .ok (.iconst 1, 1) := by decide +kernel
theorem dX10_without_2 : decode mX10_without.2.1 2 = .ok (.iload_n 1, 1) := by decide +kernel
theorem dX10_without_3 : decode mX10_without.2.1 3 = .ok (.ishl, 1) := by decide +kernel
theorem dX10_without_4 : decode mX10_without.2.1 4 = .ok (.iconst 1, 1) := by decide +kernel
theorem dX10_without_5 : decode mX10_without.2.1 5 = .ok (.isub, 1) := by decide +kernel
theorem dX10_without_6 : decode mX10_without.2.1 6 = .ok (.iand, 1) := by decide +kernel
theorem dX10_without_7 : decode mX10_without.2.1 7 = .ok (.istore_n 2, 1) := by decide +kernel
theorem dX10_without_8 : decode mX10_without.2.1 8 = .ok (.iload_n 2, 1) := by decide +kernel
theorem dX10_without_9 : decode mX10_without.2.1 9 = .ok (.iload_n 0, 1) := by decide +kernel
theorem dX10_without_10 : decode mX10_without.2.1 10 = .ok (.iload_n 1, 1) := by decide +kernel
theorem dX10_without_11 : decode mX10_without.2.1 11 = .ok (.iconst 1, 1) := by decide +kernel
theorem dX10_without_12 : decode mX10_without.2.1 12 = .ok (.iadd, 1) := by decide +kernel
theorem dX10_without_13 : decode mX10_without.2.1 13 = .ok (.ishr, 1) := by decide +kernel
theorem dX10_without_14 : decode mX10_without.2.1 14 = .ok (.iload_n 1, 1) := by decide +kernel
theorem dX10_without_15 : decode mX10_without.2.1 15 = .ok (.ishl, 1) := by decide +kernel
theorem dX10_without_16 : decode mX10_without.2.1 16 = .ok (.ior, 1) := by decide +kernel
theorem dX10_without_17 : decode mX10_without.2.1 17 = .ok (.ireturn, 1) := by decide +kernel
theorem dX10_strike_0 : decode mX10_strike.2.1 0 = .ok (.aload_n 0, 1) := by decide +kernel
theorem dX10_strike_1 : decode mX10_strike.2.1 1 = .ok (.iload_n 1, 1) := by decide +kernel
theorem dX10_strike_2 : decode mX10_strike.2.1 2 = .ok (.invokevirtual 178, 3) := by decide +kernel
theorem dX10_strike_5 : decode mX10_strike.2.1 5 = .ok (.ifCond .ne 6, 3) := by decide +kernel
theorem dX10_strike_8 : decode mX10_strike.2.1 8 = .ok (.bipush (-101), 2) := by decide +kernel
theorem dX10_strike_10 : decode mX10_strike.2.1 10 = .ok (.ireturn, 1) := by decide +kernel
theorem dX10_strike_11 : decode mX10_strike.2.1 11 = .ok (.aload_n 0, 1) := by decide +kernel
theorem dX10_strike_12 : decode mX10_strike.2.1 12 = .ok (.dup, 1) := by decide +kernel
theorem dX10_strike_13 : decode mX10_strike.2.1 13 = .ok (.getfield 118, 3) := by decide +kernel
theorem dX10_strike_16 : decode mX10_strike.2.1 16 = .ok (.iconst 1, 1) := by decide +kernel
theorem dX10_strike_17 : decode mX10_strike.2.1 17 = .ok (.isub, 1) := by decide +kernel
theorem dX10_strike_18 : decode mX10_strike.2.1 18 = .ok (.putfield 118, 3) := by decide +kernel
theorem dX10_strike_21 : decode mX10_strike.2.1 21 = .ok (.iload_n 1, 1) := by decide +kernel
theorem dX10_strike_22 : decode mX10_strike.2.1 22 = .ok (.istore_n 2, 1) := by decide +kernel
theorem dX10_strike_23 : decode mX10_strike.2.1 23 = .ok (.iload_n 2, 1) := by decide +kernel
theorem dX10_strike_24 : decode mX10_strike.2.1 24 = .ok (.aload_n 0, 1) := by decide +kernel
theorem dX10_strike_25 : decode mX10_strike.2.1 25 = .ok (.getfield 118, 3) := by decide +kernel
theorem dX10_strike_28 : decode mX10_strike.2.1 28 = .ok (.if_icmp .ge 117, 3) := by decide +kernel
theorem dX10_strike_31 : decode mX10_strike.2.1 31 = .ok (.aload_n 0, 1) := by decide +kernel
theorem dX10_strike_32 : decode mX10_strike.2.1 32 = .ok (.getfield 13, 3) := by decide +kernel
theorem dX10_strike_35 : decode mX10_strike.2.1 35 = .ok (.iload_n 2, 1) := by decide +kernel
theorem dX10_strike_36 : decode mX10_strike.2.1 36 = .ok (.aload_n 0, 1) := by decide +kernel
theorem dX10_strike_37 : decode mX10_strike.2.1 37 = .ok (.getfield 13, 3) := by decide +kernel
theorem dX10_strike_40 : decode mX10_strike.2.1 40 = .ok (.iload_n 2, 1) := by decide +kernel
theorem dX10_strike_41 : decode mX10_strike.2.1 41 = .ok (.iconst 1, 1) := by decide +kernel
theorem dX10_strike_42 : decode mX10_strike.2.1 42 = .ok (.iadd, 1) := by decide +kernel
theorem dX10_strike_43 : decode mX10_strike.2.1 43 = .ok (.iaload, 1) := by decide +kernel
theorem dX10_strike_44 : decode mX10_strike.2.1 44 = .ok (.iastore, 1) := by decide +kernel
theorem dX10_strike_45 : decode mX10_strike.2.1 45 = .ok (.aload_n 0, 1) := by decide +kernel
theorem dX10_strike_46 : decode mX10_strike.2.1 46 = .ok (.getfield 16, 3) := by decide +kernel
theorem dX10_strike_49 : decode mX10_strike.2.1 49 = .ok (.iload_n 2, 1) := by decide +kernel
theorem dX10_strike_50 : decode mX10_strike.2.1 50 = .ok (.aload_n 0, 1) := by decide +kernel
theorem dX10_strike_51 : decode mX10_strike.2.1 51 = .ok (.getfield 16, 3) := by decide +kernel
theorem dX10_strike_54 : decode mX10_strike.2.1 54 = .ok (.iload_n 2, 1) := by decide +kernel
theorem dX10_strike_55 : decode mX10_strike.2.1 55 = .ok (.iconst 1, 1) := by decide +kernel
theorem dX10_strike_56 : decode mX10_strike.2.1 56 = .ok (.iadd, 1) := by decide +kernel
theorem dX10_strike_57 : decode mX10_strike.2.1 57 = .ok (.iaload, 1) := by decide +kernel
theorem dX10_strike_58 : decode mX10_strike.2.1 58 = .ok (.iastore, 1) := by decide +kernel
theorem dX10_strike_59 : decode mX10_strike.2.1 59 = .ok (.aload_n 0, 1) := by decide +kernel
theorem dX10_strike_60 : decode mX10_strike.2.1 60 = .ok (.getfield 19, 3) := by decide +kernel
theorem dX10_strike_63 : decode mX10_strike.2.1 63 = .ok (.iload_n 2, 1) := by decide +kernel
theorem dX10_strike_64 : decode mX10_strike.2.1 64 = .ok (.aload_n 0, 1) := by decide +kernel
theorem dX10_strike_65 : decode mX10_strike.2.1 65 = .ok (.getfield 19, 3) := by decide +kernel
theorem dX10_strike_68 : decode mX10_strike.2.1 68 = .ok (.iload_n 2, 1) := by decide +kernel
theorem dX10_strike_69 : decode mX10_strike.2.1 69 = .ok (.iconst 1, 1) := by decide +kernel
theorem dX10_strike_70 : decode mX10_strike.2.1 70 = .ok (.iadd, 1) := by decide +kernel
theorem dX10_strike_71 : decode mX10_strike.2.1 71 = .ok (.iaload, 1) := by decide +kernel
theorem dX10_strike_72 : decode mX10_strike.2.1 72 = .ok (.iastore, 1) := by decide +kernel
theorem dX10_strike_73 : decode mX10_strike.2.1 73 = .ok (.aload_n 0, 1) := by decide +kernel
theorem dX10_strike_74 : decode mX10_strike.2.1 74 = .ok (.getfield 22, 3) := by decide +kernel
theorem dX10_strike_77 : decode mX10_strike.2.1 77 = .ok (.iload_n 2, 1) := by decide +kernel
theorem dX10_strike_78 : decode mX10_strike.2.1 78 = .ok (.aload_n 0, 1) := by decide +kernel
theorem dX10_strike_79 : decode mX10_strike.2.1 79 = .ok (.getfield 22, 3) := by decide +kernel
theorem dX10_strike_82 : decode mX10_strike.2.1 82 = .ok (.iload_n 2, 1) := by decide +kernel
theorem dX10_strike_83 : decode mX10_strike.2.1 83 = .ok (.iconst 1, 1) := by decide +kernel
theorem dX10_strike_84 : decode mX10_strike.2.1 84 = .ok (.iadd, 1) := by decide +kernel
theorem dX10_strike_85 : decode mX10_strike.2.1 85 = .ok (.iaload, 1) := by decide +kernel
theorem dX10_strike_86 : decode mX10_strike.2.1 86 = .ok (.iastore, 1) := by decide +kernel
theorem dX10_strike_87 : decode mX10_strike.2.1 87 = .ok (.aload_n 0, 1) := by decide +kernel
theorem dX10_strike_88 : decode mX10_strike.2.1 88 = .ok (.getfield 28, 3) := by decide +kernel
theorem dX10_strike_91 : decode mX10_strike.2.1 91 = .ok (.iload_n 2, 1) := by decide +kernel
theorem dX10_strike_92 : decode mX10_strike.2.1 92 = .ok (.aload_n 0, 1) := by decide +kernel
theorem dX10_strike_93 : decode mX10_strike.2.1 93 = .ok (.getfield 28, 3) := by decide +kernel
theorem dX10_strike_96 : decode mX10_strike.2.1 96 = .ok (.iload_n 2, 1) := by decide +kernel
theorem dX10_strike_97 : decode mX10_strike.2.1 97 = .ok (.iconst 1, 1) := by decide +kernel
theorem dX10_strike_98 : decode mX10_strike.2.1 98 = .ok (.iadd, 1) := by decide +kernel
theorem dX10_strike_99 : decode mX10_strike.2.1 99 = .ok (.iaload, 1) := by decide +kernel
theorem dX10_strike_100 : decode mX10_strike.2.1 100 = .ok (.iastore, 1) := by decide +kernel
theorem dX10_strike_101 : decode mX10_strike.2.1 101 = .ok (.iconst 0, 1) := by decide +kernel
theorem dX10_strike_102 : decode mX10_strike.2.1 102 = .ok (.istore_n 3, 1) := by decide +kernel
theorem dX10_strike_103 : decode mX10_strike.2.1 103 = .ok (.iload_n 3, 1) := by decide +kernel
theorem dX10_strike_104 : decode mX10_strike.2.1 104 = .ok (.bipush 8, 2) := by decide +kernel
theorem dX10_strike_106 : decode mX10_strike.2.1 106 = .ok (.if_icmp .ge 33, 3) := by decide +kernel
theorem dX10_strike_109 : decode mX10_strike.2.1 109 = .ok (.aload_n 0, 1) := by decide +kernel
theorem dX10_strike_110 : decode mX10_strike.2.1 110 = .ok (.getfield 25, 3) := by decide +kernel
theorem dX10_strike_113 : decode mX10_strike.2.1 113 = .ok (.bipush 8, 2) := by decide +kernel
theorem dX10_strike_115 : decode mX10_strike.2.1 115 = .ok (.iload_n 2, 1) := by decide +kernel
theorem dX10_strike_116 : decode mX10_strike.2.1 116 = .ok (.imul, 1) := by decide +kernel
theorem dX10_strike_117 : decode mX10_strike.2.1 117 = .ok (.iload_n 3, 1) := by decide +kernel
theorem dX10_strike_118 : decode mX10_strike.2.1 118 = .ok (.iadd, 1) := by decide +kernel
theorem dX10_strike_119 : decode mX10_strike.2.1 119 = .ok (.aload_n 0, 1) := by decide +kernel
theorem dX10_strike_120 : decode mX10_strike.2.1 120 = .ok (.getfield 25, 3) := by decide +kernel
theorem dX10_strike_123 : decode mX10_strike.2.1 123 = .ok (.bipush 8, 2) := by decide +kernel
theorem dX10_strike_125 : decode mX10_strike.2.1 125 = .ok (.iload_n 2, 1) := by decide +kernel
theorem dX10_strike_126 : decode mX10_strike.2.1 126 = .ok (.iconst 1, 1) := by decide +kernel
theorem dX10_strike_127 : decode mX10_strike.2.1 127 = .ok (.iadd, 1) := by decide +kernel
theorem dX10_strike_128 : decode mX10_strike.2.1 128 = .ok (.imul, 1) := by decide +kernel
theorem dX10_strike_129 : decode mX10_strike.2.1 129 = .ok (.iload_n 3, 1) := by decide +kernel
theorem dX10_strike_130 : decode mX10_strike.2.1 130 = .ok (.iadd, 1) := by decide +kernel
theorem dX10_strike_131 : decode mX10_strike.2.1 131 = .ok (.iaload, 1) := by decide +kernel
theorem dX10_strike_132 : decode mX10_strike.2.1 132 = .ok (.iastore, 1) := by decide +kernel
theorem dX10_strike_133 : decode mX10_strike.2.1 133 = .ok (.iinc 3 1, 3) := by decide +kernel
theorem dX10_strike_136 : decode mX10_strike.2.1 136 = .ok (.goto (-33), 3) := by decide +kernel
theorem dX10_strike_139 : decode mX10_strike.2.1 139 = .ok (.iinc 2 1, 3) := by decide +kernel
theorem dX10_strike_142 : decode mX10_strike.2.1 142 = .ok (.goto (-119), 3) := by decide +kernel
theorem dX10_strike_145 : decode mX10_strike.2.1 145 = .ok (.iconst 0, 1) := by decide +kernel
theorem dX10_strike_146 : decode mX10_strike.2.1 146 = .ok (.istore_n 2, 1) := by decide +kernel
theorem dX10_strike_147 : decode mX10_strike.2.1 147 = .ok (.iload_n 2, 1) := by decide +kernel
theorem dX10_strike_148 : decode mX10_strike.2.1 148 = .ok (.aload_n 0, 1) := by decide +kernel
theorem dX10_strike_149 : decode mX10_strike.2.1 149 = .ok (.getfield 118, 3) := by decide +kernel
theorem dX10_strike_152 : decode mX10_strike.2.1 152 = .ok (.if_icmp .ge 25, 3) := by decide +kernel
theorem dX10_strike_155 : decode mX10_strike.2.1 155 = .ok (.aload_n 0, 1) := by decide +kernel
theorem dX10_strike_156 : decode mX10_strike.2.1 156 = .ok (.getfield 28, 3) := by decide +kernel
theorem dX10_strike_159 : decode mX10_strike.2.1 159 = .ok (.iload_n 2, 1) := by decide +kernel
theorem dX10_strike_160 : decode mX10_strike.2.1 160 = .ok (.aload_n 0, 1) := by decide +kernel
theorem dX10_strike_161 : decode mX10_strike.2.1 161 = .ok (.getfield 28, 3) := by decide +kernel
theorem dX10_strike_164 : decode mX10_strike.2.1 164 = .ok (.iload_n 2, 1) := by decide +kernel
theorem dX10_strike_165 : decode mX10_strike.2.1 165 = .ok (.iaload, 1) := by decide +kernel
theorem dX10_strike_166 : decode mX10_strike.2.1 166 = .ok (.iload_n 1, 1) := by decide +kernel
theorem dX10_strike_167 : decode mX10_strike.2.1 167 = .ok (.invokestatic 285, 3) := by decide +kernel
theorem dX10_strike_170 : decode mX10_strike.2.1 170 = .ok (.iastore, 1) := by decide +kernel
theorem dX10_strike_171 : decode mX10_strike.2.1 171 = .ok (.iinc 2 1, 3) := by decide +kernel
theorem dX10_strike_174 : decode mX10_strike.2.1 174 = .ok (.goto (-27), 3) := by decide +kernel
theorem dX10_strike_177 : decode mX10_strike.2.1 177 = .ok (.aload_n 0, 1) := by decide +kernel
theorem dX10_strike_178 : decode mX10_strike.2.1 178 = .ok (.dup, 1) := by decide +kernel
theorem dX10_strike_179 : decode mX10_strike.2.1 179 = .ok (.getfield 288, 3) := by decide +kernel
theorem dX10_strike_182 : decode mX10_strike.2.1 182 = .ok (.iconst 1, 1) := by decide +kernel
theorem dX10_strike_183 : decode mX10_strike.2.1 183 = .ok (.iadd, 1) := by decide +kernel
theorem dX10_strike_184 : decode mX10_strike.2.1 184 = .ok (.putfield 288, 3) := by decide +kernel
theorem dX10_strike_187 : decode mX10_strike.2.1 187 = .ok (.aload_n 0, 1) := by decide +kernel
theorem dX10_strike_188 : decode mX10_strike.2.1 188 = .ok (.getfield 118, 3) := by decide +kernel
theorem dX10_strike_191 : decode mX10_strike.2.1 191 = .ok (.ireturn, 1) := by decide +kernel
theorem dX10_isAge_0 : decode mX10_isAge.2.1 0 = .ok (.iload_n 2, 1) := by decide +kernel
theorem dX10_isAge_1 : decode mX10_isAge.2.1 1 = .ok (.iconst (-1), 1) := by decide +kernel
theorem dX10_isAge_2 : decode mX10_isAge.2.1 2 = .ok (.if_icmp .eq 34, 3) := by decide +kernel
theorem dX10_isAge_5 : decode mX10_isAge.2.1 5 = .ok (.iload_n 1, 1) := by decide +kernel
theorem dX10_isAge_6 : decode mX10_isAge.2.1 6 = .ok (.iconst 1, 1) := by decide +kernel
theorem dX10_isAge_7 : decode mX10_isAge.2.1 7 = .ok (.if_icmp .ne 14, 3) := by decide +kernel
theorem dX10_isAge_10 : decode mX10_isAge.2.1 10 = .ok (.iload_n 2, 1) := by decide +kernel
theorem dX10_isAge_11 : decode mX10_isAge.2.1 11 = .ok (.bipush 14, 2) := by decide +kernel
theorem dX10_isAge_13 : decode mX10_isAge.2.1 13 = .ok (.bipush 99, 2) := by decide +kernel
theorem dX10_isAge_15 : decode mX10_isAge.2.1 15 = .ok (.invokestatic 76, 3) := by decide +kernel
theorem dX10_isAge_18 : decode mX10_isAge.2.1 18 = .ok (.ifCond .ne 18, 3) := by decide +kernel
theorem dX10_isAge_21 : decode mX10_isAge.2.1 21 = .ok (.iload_n 1, 1) := by decide +kernel
theorem dX10_isAge_22 : decode mX10_isAge.2.1 22 = .ok (.iconst 2, 1) := by decide +kernel
theorem dX10_isAge_23 : decode mX10_isAge.2.1 23 = .ok (.if_icmp .ne 17, 3) := by decide +kernel
theorem dX10_isAge_26 : decode mX10_isAge.2.1 26 = .ok (.iload_n 2, 1) := by decide +kernel
theorem dX10_isAge_27 : decode mX10_isAge.2.1 27 = .ok (.iconst 0, 1) := by decide +kernel
theorem dX10_isAge_28 : decode mX10_isAge.2.1 28 = .ok (.bipush 99, 2) := by decide +kernel
theorem dX10_isAge_30 : decode mX10_isAge.2.1 30 = .ok (.invokestatic 76, 3) := by decide +kernel
theorem dX10_isAge_33 : decode mX10_isAge.2.1 33 = .ok (.ifCond .eq 7, 3) := by decide +kernel
theorem dX10_isAge_36 : decode mX10_isAge.2.1 36 = .ok (.iconst 1, 1) := by decide +kernel
theorem dX10_isAge_37 : decode mX10_isAge.2.1 37 = .ok (.goto 4, 3) := by decide +kernel
theorem dX10_isAge_40 : decode mX10_isAge.2.1 40 = .ok (.iconst 0, 1) := by decide +kernel
theorem dX10_isAge_41 : decode mX10_isAge.2.1 41 = .ok (.ireturn, 1) := by decide +kernel
theorem dX10_age_0 : decode mX10_age.2.1 0 = .ok (.aload_n 0, 1) := by decide +kernel
theorem dX10_age_1 : decode mX10_age.2.1 1 = .ok (.iload_n 1, 1) := by decide +kernel
theorem dX10_age_2 : decode mX10_age.2.1 2 = .ok (.invokevirtual 178, 3) := by decide +kernel
theorem dX10_age_5 : decode mX10_age.2.1 5 = .ok (.ifCond .ne 6, 3) := by decide +kernel
theorem dX10_age_8 : decode mX10_age.2.1 8 = .ok (.bipush (-101), 2) := by decide +kernel
theorem dX10_age_10 : decode mX10_age.2.1 10 = .ok (.ireturn, 1) := by decide +kernel
theorem dX10_age_11 : decode mX10_age.2.1 11 = .ok (.aload_n 0, 1) := by decide +kernel
theorem dX10_age_12 : decode mX10_age.2.1 12 = .ok (.aload_n 0, 1) := by decide +kernel
theorem dX10_age_13 : decode mX10_age.2.1 13 = .ok (.getfield 13, 3) := by decide +kernel
theorem dX10_age_16 : decode mX10_age.2.1 16 = .ok (.iload_n 1, 1) := by decide +kernel
theorem dX10_age_17 : decode mX10_age.2.1 17 = .ok (.iaload, 1) := by decide +kernel
theorem dX10_age_18 : decode mX10_age.2.1 18 = .ok (.iload_n 2, 1) := by decide +kernel
theorem dX10_age_19 : decode mX10_age.2.1 19 = .ok (.invokevirtual 291, 3) := by decide +kernel
theorem dX10_age_22 : decode mX10_age.2.1 22 = .ok (.ifCond .ne 6, 3) := by decide +kernel
theorem dX10_age_25 : decode mX10_age.2.1 25 = .ok (.bipush (-102), 2) := by decide +kernel
theorem dX10_age_27 : decode mX10_age.2.1 27 = .ok (.ireturn, 1) := by decide +kernel
theorem dX10_age_28 : decode mX10_age.2.1 28 = .ok (.aload_n 0, 1) := by decide +kernel
theorem dX10_age_29 : decode mX10_age.2.1 29 = .ok (.getfield 19, 3) := by decide +kernel
theorem dX10_age_32 : decode mX10_age.2.1 32 = .ok (.iload_n 1, 1) := by decide +kernel
theorem dX10_age_33 : decode mX10_age.2.1 33 = .ok (.iaload, 1) := by decide +kernel
theorem dX10_age_34 : decode mX10_age.2.1 34 = .ok (.istore_n 3, 1) := by decide +kernel
theorem dX10_age_35 : decode mX10_age.2.1 35 = .ok (.aload_n 0, 1) := by decide +kernel
theorem dX10_age_36 : decode mX10_age.2.1 36 = .ok (.getfield 19, 3) := by decide +kernel
theorem dX10_age_39 : decode mX10_age.2.1 39 = .ok (.iload_n 1, 1) := by decide +kernel
theorem dX10_age_40 : decode mX10_age.2.1 40 = .ok (.iload_n 2, 1) := by decide +kernel
theorem dX10_age_41 : decode mX10_age.2.1 41 = .ok (.iastore, 1) := by decide +kernel
theorem dX10_age_42 : decode mX10_age.2.1 42 = .ok (.iload_n 3, 1) := by decide +kernel
theorem dX10_age_43 : decode mX10_age.2.1 43 = .ok (.ireturn, 1) := by decide +kernel
theorem dX10_part_0 : decode mX10_part.2.1 0 = .ok (.aload_n 0, 1) := by decide +kernel
theorem dX10_part_1 : decode mX10_part.2.1 1 = .ok (.iload_n 1, 1) := by decide +kernel
theorem dX10_part_2 : decode mX10_part.2.1 2 = .ok (.invokevirtual 178, 3) := by decide +kernel
theorem dX10_part_5 : decode mX10_part.2.1 5 = .ok (.ifCond .eq 16, 3) := by decide +kernel
theorem dX10_part_8 : decode mX10_part.2.1 8 = .ok (.aload_n 0, 1) := by decide +kernel
theorem dX10_part_9 : decode mX10_part.2.1 9 = .ok (.iload_n 2, 1) := by decide +kernel
theorem dX10_part_10 : decode mX10_part.2.1 10 = .ok (.invokevirtual 178, 3) := by decide +kernel
theorem dX10_part_13 : decode mX10_part.2.1 13 = .ok (.ifCond .eq 8, 3) := by decide +kernel
theorem dX10_part_16 : decode mX10_part.2.1 16 = .ok (.iload_n 1, 1) := by decide +kernel
theorem dX10_part_17 : decode mX10_part.2.1 17 = .ok (.iload_n 2, 1) := by decide +kernel
theorem dX10_part_18 : decode mX10_part.2.1 18 = .ok (.if_icmp .ne 6, 3) := by decide +kernel
theorem dX10_part_21 : decode mX10_part.2.1 21 = .ok (.bipush (-101), 2) := by decide +kernel
theorem dX10_part_23 : decode mX10_part.2.1 23 = .ok (.ireturn, 1) := by decide +kernel
theorem dX10_part_24 : decode mX10_part.2.1 24 = .ok (.aload_n 0, 1) := by decide +kernel
theorem dX10_part_25 : decode mX10_part.2.1 25 = .ok (.getfield 28, 3) := by decide +kernel
theorem dX10_part_28 : decode mX10_part.2.1 28 = .ok (.iload_n 1, 1) := by decide +kernel
theorem dX10_part_29 : decode mX10_part.2.1 29 = .ok (.dup2, 1) := by decide +kernel
theorem dX10_part_30 : decode mX10_part.2.1 30 = .ok (.iaload, 1) := by decide +kernel
theorem dX10_part_31 : decode mX10_part.2.1 31 = .ok (.iconst 1, 1) := by decide +kernel
theorem dX10_part_32 : decode mX10_part.2.1 32 = .ok (.iload_n 2, 1) := by decide +kernel
theorem dX10_part_33 : decode mX10_part.2.1 33 = .ok (.ishl, 1) := by decide +kernel
theorem dX10_part_34 : decode mX10_part.2.1 34 = .ok (.ixor, 1) := by decide +kernel
theorem dX10_part_35 : decode mX10_part.2.1 35 = .ok (.iastore, 1) := by decide +kernel
theorem dX10_part_36 : decode mX10_part.2.1 36 = .ok (.aload_n 0, 1) := by decide +kernel
theorem dX10_part_37 : decode mX10_part.2.1 37 = .ok (.getfield 28, 3) := by decide +kernel
theorem dX10_part_40 : decode mX10_part.2.1 40 = .ok (.iload_n 2, 1) := by decide +kernel
theorem dX10_part_41 : decode mX10_part.2.1 41 = .ok (.dup2, 1) := by decide +kernel
theorem dX10_part_42 : decode mX10_part.2.1 42 = .ok (.iaload, 1) := by decide +kernel
theorem dX10_part_43 : decode mX10_part.2.1 43 = .ok (.iconst 1, 1) := by decide +kernel
theorem dX10_part_44 : decode mX10_part.2.1 44 = .ok (.iload_n 1, 1) := by decide +kernel
theorem dX10_part_45 : decode mX10_part.2.1 45 = .ok (.ishl, 1) := by decide +kernel
theorem dX10_part_46 : decode mX10_part.2.1 46 = .ok (.ixor, 1) := by decide +kernel
theorem dX10_part_47 : decode mX10_part.2.1 47 = .ok (.iastore, 1) := by decide +kernel
theorem dX10_part_48 : decode mX10_part.2.1 48 = .ok (.aload_n 0, 1) := by decide +kernel
theorem dX10_part_49 : decode mX10_part.2.1 49 = .ok (.iload_n 1, 1) := by decide +kernel
theorem dX10_part_50 : decode mX10_part.2.1 50 = .ok (.iload_n 2, 1) := by decide +kernel
theorem dX10_part_51 : decode mX10_part.2.1 51 = .ok (.invokevirtual 157, 3) := by decide +kernel
theorem dX10_part_54 : decode mX10_part.2.1 54 = .ok (.ifCond .eq 7, 3) := by decide +kernel
theorem dX10_part_57 : decode mX10_part.2.1 57 = .ok (.iconst 1, 1) := by decide +kernel
theorem dX10_part_58 : decode mX10_part.2.1 58 = .ok (.goto 4, 3) := by decide +kernel
theorem dX10_part_61 : decode mX10_part.2.1 61 = .ok (.iconst 0, 1) := by decide +kernel
theorem dX10_part_62 : decode mX10_part.2.1 62 = .ok (.ireturn, 1) := by decide +kernel
theorem dX10_bound_0 : decode mX10_bound.2.1 0 = .ok (.iload_n 1, 1) := by decide +kernel
theorem dX10_bound_1 : decode mX10_bound.2.1 1 = .ok (.ifCond .ne 14, 3) := by decide +kernel
theorem dX10_bound_4 : decode mX10_bound.2.1 4 = .ok (.iload_n 2, 1) := by decide +kernel
theorem dX10_bound_5 : decode mX10_bound.2.1 5 = .ok (.iconst 0, 1) := by decide +kernel
theorem dX10_bound_6 : decode mX10_bound.2.1 6 = .ok (.sipush 1000, 3) := by decide +kernel
theorem dX10_bound_9 : decode mX10_bound.2.1 9 = .ok (.invokestatic 76, 3) := by decide +kernel
theorem dX10_bound_12 : decode mX10_bound.2.1 12 = .ok (.ifCond .ne 33, 3) := by decide +kernel
theorem dX10_bound_15 : decode mX10_bound.2.1 15 = .ok (.iload_n 1, 1) := by decide +kernel
theorem dX10_bound_16 : decode mX10_bound.2.1 16 = .ok (.iconst 1, 1) := by decide +kernel
theorem dX10_bound_17 : decode mX10_bound.2.1 17 = .ok (.if_icmp .ne 12, 3) := by decide +kernel
theorem dX10_bound_20 : decode mX10_bound.2.1 20 = .ok (.iload_n 2, 1) := by decide +kernel
theorem dX10_bound_21 : decode mX10_bound.2.1 21 = .ok (.iconst 0, 1) := by decide +kernel
theorem dX10_bound_22 : decode mX10_bound.2.1 22 = .ok (.iconst 5, 1) := by decide +kernel
theorem dX10_bound_23 : decode mX10_bound.2.1 23 = .ok (.invokestatic 76, 3) := by decide +kernel
theorem dX10_bound_26 : decode mX10_bound.2.1 26 = .ok (.ifCond .ne 19, 3) := by decide +kernel
theorem dX10_bound_29 : decode mX10_bound.2.1 29 = .ok (.iload_n 1, 1) := by decide +kernel
theorem dX10_bound_30 : decode mX10_bound.2.1 30 = .ok (.iconst 2, 1) := by decide +kernel
theorem dX10_bound_31 : decode mX10_bound.2.1 31 = .ok (.if_icmp .ne 18, 3) := by decide +kernel
theorem dX10_bound_34 : decode mX10_bound.2.1 34 = .ok (.iload_n 2, 1) := by decide +kernel
theorem dX10_bound_35 : decode mX10_bound.2.1 35 = .ok (.iconst 0, 1) := by decide +kernel
theorem dX10_bound_36 : decode mX10_bound.2.1 36 = .ok (.sipush 500, 3) := by decide +kernel
theorem dX10_bound_39 : decode mX10_bound.2.1 39 = .ok (.invokestatic 76, 3) := by decide +kernel
theorem dX10_bound_42 : decode mX10_bound.2.1 42 = .ok (.ifCond .eq 7, 3) := by decide +kernel
theorem dX10_bound_45 : decode mX10_bound.2.1 45 = .ok (.iconst 1, 1) := by decide +kernel
theorem dX10_bound_46 : decode mX10_bound.2.1 46 = .ok (.goto 4, 3) := by decide +kernel
theorem dX10_bound_49 : decode mX10_bound.2.1 49 = .ok (.iconst 0, 1) := by decide +kernel
theorem dX10_bound_50 : decode mX10_bound.2.1 50 = .ok (.istore_n 3, 1) := by decide +kernel
theorem dX10_bound_51 : decode mX10_bound.2.1 51 = .ok (.iload_n 3, 1) := by decide +kernel
theorem dX10_bound_52 : decode mX10_bound.2.1 52 = .ok (.ifCond .ne 6, 3) := by decide +kernel
theorem dX10_bound_55 : decode mX10_bound.2.1 55 = .ok (.bipush (-102), 2) := by decide +kernel
theorem dX10_bound_57 : decode mX10_bound.2.1 57 = .ok (.ireturn, 1) := by decide +kernel
theorem dX10_bound_58 : decode mX10_bound.2.1 58 = .ok (.aload_n 0, 1) := by decide +kernel
theorem dX10_bound_59 : decode mX10_bound.2.1 59 = .ok (.getfield 31, 3) := by decide +kernel
theorem dX10_bound_62 : decode mX10_bound.2.1 62 = .ok (.iload_n 1, 1) := by decide +kernel
theorem dX10_bound_63 : decode mX10_bound.2.1 63 = .ok (.iaload, 1) := by decide +kernel
theorem dX10_bound_64 : decode mX10_bound.2.1 64 = .ok (.istore 4, 2) := by decide +kernel
theorem dX10_bound_66 : decode mX10_bound.2.1 66 = .ok (.aload_n 0, 1) := by decide +kernel
theorem dX10_bound_67 : decode mX10_bound.2.1 67 = .ok (.getfield 31, 3) := by decide +kernel
theorem dX10_bound_70 : decode mX10_bound.2.1 70 = .ok (.iload_n 1, 1) := by decide +kernel
theorem dX10_bound_71 : decode mX10_bound.2.1 71 = .ok (.iload_n 2, 1) := by decide +kernel
theorem dX10_bound_72 : decode mX10_bound.2.1 72 = .ok (.iastore, 1) := by decide +kernel
theorem dX10_bound_73 : decode mX10_bound.2.1 73 = .ok (.iload 4, 2) := by decide +kernel
theorem dX10_bound_75 : decode mX10_bound.2.1 75 = .ok (.ireturn, 1) := by decide +kernel
theorem dX10_partedMany_0 : decode mX10_partedMany.2.1 0 = .ok (.iconst 0, 1) := by decide +kernel
theorem dX10_partedMany_1 : decode mX10_partedMany.2.1 1 = .ok (.istore_n 1, 1) := by decide +kernel
theorem dX10_partedMany_2 : decode mX10_partedMany.2.1 2 = .ok (.iconst 0, 1) := by decide +kernel
theorem dX10_partedMany_3 : decode mX10_partedMany.2.1 3 = .ok (.istore_n 2, 1) := by decide +kernel
theorem dX10_partedMany_4 : decode mX10_partedMany.2.1 4 = .ok (.iload_n 2, 1) := by decide +kernel
theorem dX10_partedMany_5 : decode mX10_partedMany.2.1 5 = .ok (.aload_n 0, 1) := by decide +kernel
theorem dX10_partedMany_6 : decode mX10_partedMany.2.1 6 = .ok (.getfield 118, 3) := by decide +kernel
theorem dX10_partedMany_9 : decode mX10_partedMany.2.1 9 = .ok (.if_icmp .ge 39, 3) := by decide +kernel
theorem dX10_partedMany_12 : decode mX10_partedMany.2.1 12 = .ok (.iconst 0, 1) := by decide +kernel
theorem dX10_partedMany_13 : decode mX10_partedMany.2.1 13 = .ok (.istore_n 3, 1) := by decide +kernel
theorem dX10_partedMany_14 : decode mX10_partedMany.2.1 14 = .ok (.iload_n 3, 1) := by decide +kernel
theorem dX10_partedMany_15 : decode mX10_partedMany.2.1 15 = .ok (.iload_n 2, 1) := by decide +kernel
theorem dX10_partedMany_16 : decode mX10_partedMany.2.1 16 = .ok (.if_icmp .ge 26, 3) := by decide +kernel
theorem dX10_partedMany_19 : decode mX10_partedMany.2.1 19 = .ok (.iload_n 1, 1) := by decide +kernel
theorem dX10_partedMany_20 : decode mX10_partedMany.2.1 20 = .ok (.aload_n 0, 1) := by decide +kernel
theorem dX10_partedMany_21 : decode mX10_partedMany.2.1 21 = .ok (.iload_n 2, 1) := by decide +kernel
theorem dX10_partedMany_22 : decode mX10_partedMany.2.1 22 = .ok (.iload_n 3, 1) := by decide +kernel
theorem dX10_partedMany_23 : decode mX10_partedMany.2.1 23 = .ok (.invokevirtual 157, 3) := by decide +kernel
theorem dX10_partedMany_26 : decode mX10_partedMany.2.1 26 = .ok (.ifCond .eq 7, 3) := by decide +kernel
theorem dX10_partedMany_29 : decode mX10_partedMany.2.1 29 = .ok (.iconst 1, 1) := by decide +kernel
theorem dX10_partedMany_30 : decode mX10_partedMany.2.1 30 = .ok (.goto 4, 3) := by decide +kernel
theorem dX10_partedMany_33 : decode mX10_partedMany.2.1 33 = .ok (.iconst 0, 1) := by decide +kernel
theorem dX10_partedMany_34 : decode mX10_partedMany.2.1 34 = .ok (.iadd, 1) := by decide +kernel
theorem dX10_partedMany_35 : decode mX10_partedMany.2.1 35 = .ok (.istore_n 1, 1) := by decide +kernel
theorem dX10_partedMany_36 : decode mX10_partedMany.2.1 36 = .ok (.iinc 3 1, 3) := by decide +kernel
theorem dX10_partedMany_39 : decode mX10_partedMany.2.1 39 = .ok (.goto (-25), 3) := by decide +kernel
theorem dX10_partedMany_42 : decode mX10_partedMany.2.1 42 = .ok (.iinc 2 1, 3) := by decide +kernel
theorem dX10_partedMany_45 : decode mX10_partedMany.2.1 45 = .ok (.goto (-41), 3) := by decide +kernel
theorem dX10_partedMany_48 : decode mX10_partedMany.2.1 48 = .ok (.iload_n 1, 1) := by decide +kernel
theorem dX10_partedMany_49 : decode mX10_partedMany.2.1 49 = .ok (.ireturn, 1) := by decide +kernel
theorem dX10_howMany_0 : decode mX10_howMany.2.1 0 = .ok (.iload_n 1, 1) := by decide +kernel
theorem dX10_howMany_1 : decode mX10_howMany.2.1 1 = .ok (.tableswitch 80 0 7 #[47, 52, 52, 52, 60, 65, 70, 75], 47) := by decide +kernel
theorem dX10_howMany_48 : decode mX10_howMany.2.1 48 = .ok (.aload_n 0, 1) := by decide +kernel
theorem dX10_howMany_49 : decode mX10_howMany.2.1 49 = .ok (.getfield 118, 3) := by decide +kernel
theorem dX10_howMany_52 : decode mX10_howMany.2.1 52 = .ok (.ireturn, 1) := by decide +kernel
theorem dX10_howMany_53 : decode mX10_howMany.2.1 53 = .ok (.aload_n 0, 1) := by decide +kernel
theorem dX10_howMany_54 : decode mX10_howMany.2.1 54 = .ok (.iload_n 1, 1) := by decide +kernel
theorem dX10_howMany_55 : decode mX10_howMany.2.1 55 = .ok (.iconst 1, 1) := by decide +kernel
theorem dX10_howMany_56 : decode mX10_howMany.2.1 56 = .ok (.isub, 1) := by decide +kernel
theorem dX10_howMany_57 : decode mX10_howMany.2.1 57 = .ok (.invokevirtual 121, 3) := by decide +kernel
theorem dX10_howMany_60 : decode mX10_howMany.2.1 60 = .ok (.ireturn, 1) := by decide +kernel
theorem dX10_howMany_61 : decode mX10_howMany.2.1 61 = .ok (.aload_n 0, 1) := by decide +kernel
theorem dX10_howMany_62 : decode mX10_howMany.2.1 62 = .ok (.getfield 80, 3) := by decide +kernel
theorem dX10_howMany_65 : decode mX10_howMany.2.1 65 = .ok (.ireturn, 1) := by decide +kernel
theorem dX10_howMany_66 : decode mX10_howMany.2.1 66 = .ok (.aload_n 0, 1) := by decide +kernel
theorem dX10_howMany_67 : decode mX10_howMany.2.1 67 = .ok (.getfield 132, 3) := by decide +kernel
theorem dX10_howMany_70 : decode mX10_howMany.2.1 70 = .ok (.ireturn, 1) := by decide +kernel
theorem dX10_howMany_71 : decode mX10_howMany.2.1 71 = .ok (.aload_n 0, 1) := by decide +kernel
theorem dX10_howMany_72 : decode mX10_howMany.2.1 72 = .ok (.getfield 288, 3) := by decide +kernel
theorem dX10_howMany_75 : decode mX10_howMany.2.1 75 = .ok (.ireturn, 1) := by decide +kernel
theorem dX10_howMany_76 : decode mX10_howMany.2.1 76 = .ok (.aload_n 0, 1) := by decide +kernel
theorem dX10_howMany_77 : decode mX10_howMany.2.1 77 = .ok (.invokevirtual 294, 3) := by decide +kernel
theorem dX10_howMany_80 : decode mX10_howMany.2.1 80 = .ok (.ireturn, 1) := by decide +kernel
theorem dX10_howMany_81 : decode mX10_howMany.2.1 81 = .ok (.bipush (-102), 2) := by decide +kernel
theorem dX10_howMany_83 : decode mX10_howMany.2.1 83 = .ok (.ireturn, 1) := by decide +kernel
theorem dX10_count_0 : decode mX10_count.2.1 0 = .ok (.aload_n 0, 1) := by decide +kernel
theorem dX10_count_1 : decode mX10_count.2.1 1 = .ok (.iload_n 1, 1) := by decide +kernel
theorem dX10_count_2 : decode mX10_count.2.1 2 = .ok (.invokevirtual 297, 3) := by decide +kernel
theorem dX10_count_5 : decode mX10_count.2.1 5 = .ok (.ireturn, 1) := by decide +kernel
theorem dX10_mix_0 : decode mX10_mix.2.1 0 = .ok (.aload_n 0, 1) := by decide +kernel
theorem dX10_mix_1 : decode mX10_mix.2.1 1 = .ok (.ldc2_w 300, 3) := by decide +kernel
theorem dX10_mix_4 : decode mX10_mix.2.1 4 = .ok (.aload_n 0, 1) := by decide +kernel
theorem dX10_mix_5 : decode mX10_mix.2.1 5 = .ok (.getfield 302, 3) := by decide +kernel
theorem dX10_mix_8 : decode mX10_mix.2.1 8 = .ok (.lmul, 1) := by decide +kernel
theorem dX10_mix_9 : decode mX10_mix.2.1 9 = .ok (.lload_n 1, 1) := by decide +kernel
theorem dX10_mix_10 : decode mX10_mix.2.1 10 = .ok (.ladd, 1) := by decide +kernel
theorem dX10_mix_11 : decode mX10_mix.2.1 11 = .ok (.putfield 302, 3) := by decide +kernel
theorem dX10_mix_14 : decode mX10_mix.2.1 14 = .ok (.return_, 1) := by decide +kernel
theorem dX10_mixEntries_0 : decode mX10_mixEntries.2.1 0 = .ok (.aload_n 0, 1) := by decide +kernel
theorem dX10_mixEntries_1 : decode mX10_mixEntries.2.1 1 = .ok (.invokevirtual 250, 3) := by decide +kernel
theorem dX10_mixEntries_4 : decode mX10_mixEntries.2.1 4 = .ok (.iconst 0, 1) := by decide +kernel
theorem dX10_mixEntries_5 : decode mX10_mixEntries.2.1 5 = .ok (.istore_n 1, 1) := by decide +kernel
theorem dX10_mixEntries_6 : decode mX10_mixEntries.2.1 6 = .ok (.iload_n 1, 1) := by decide +kernel
theorem dX10_mixEntries_7 : decode mX10_mixEntries.2.1 7 = .ok (.aload_n 0, 1) := by decide +kernel
theorem dX10_mixEntries_8 : decode mX10_mixEntries.2.1 8 = .ok (.getfield 118, 3) := by decide +kernel
theorem dX10_mixEntries_11 : decode mX10_mixEntries.2.1 11 = .ok (.if_icmp .ge 88, 3) := by decide +kernel
theorem dX10_mixEntries_14 : decode mX10_mixEntries.2.1 14 = .ok (.iconst 0, 1) := by decide +kernel
theorem dX10_mixEntries_15 : decode mX10_mixEntries.2.1 15 = .ok (.istore_n 2, 1) := by decide +kernel
theorem dX10_mixEntries_16 : decode mX10_mixEntries.2.1 16 = .ok (.iload_n 2, 1) := by decide +kernel
theorem dX10_mixEntries_17 : decode mX10_mixEntries.2.1 17 = .ok (.bipush 8, 2) := by decide +kernel
theorem dX10_mixEntries_19 : decode mX10_mixEntries.2.1 19 = .ok (.if_icmp .ge 20, 3) := by decide +kernel
theorem dX10_mixEntries_22 : decode mX10_mixEntries.2.1 22 = .ok (.aload_n 0, 1) := by decide +kernel
theorem dX10_mixEntries_23 : decode mX10_mixEntries.2.1 23 = .ok (.aload_n 0, 1) := by decide +kernel
theorem dX10_mixEntries_24 : decode mX10_mixEntries.2.1 24 = .ok (.iload_n 1, 1) := by decide +kernel
theorem dX10_mixEntries_25 : decode mX10_mixEntries.2.1 25 = .ok (.iload_n 2, 1) := by decide +kernel
theorem dX10_mixEntries_26 : decode mX10_mixEntries.2.1 26 = .ok (.invokevirtual 279, 3) := by decide +kernel
theorem dX10_mixEntries_29 : decode mX10_mixEntries.2.1 29 = .ok (.i2l, 1) := by decide +kernel
theorem dX10_mixEntries_30 : decode mX10_mixEntries.2.1 30 = .ok (.invokevirtual 306, 3) := by decide +kernel
theorem dX10_mixEntries_33 : decode mX10_mixEntries.2.1 33 = .ok (.iinc 2 1, 3) := by decide +kernel
theorem dX10_mixEntries_36 : decode mX10_mixEntries.2.1 36 = .ok (.goto (-20), 3) := by decide +kernel
theorem dX10_mixEntries_39 : decode mX10_mixEntries.2.1 39 = .ok (.iconst 0, 1) := by decide +kernel
theorem dX10_mixEntries_40 : decode mX10_mixEntries.2.1 40 = .ok (.istore_n 2, 1) := by decide +kernel
theorem dX10_mixEntries_41 : decode mX10_mixEntries.2.1 41 = .ok (.iload_n 2, 1) := by decide +kernel
theorem dX10_mixEntries_42 : decode mX10_mixEntries.2.1 42 = .ok (.aload_n 0, 1) := by decide +kernel
theorem dX10_mixEntries_43 : decode mX10_mixEntries.2.1 43 = .ok (.getfield 22, 3) := by decide +kernel
theorem dX10_mixEntries_46 : decode mX10_mixEntries.2.1 46 = .ok (.iload_n 1, 1) := by decide +kernel
theorem dX10_mixEntries_47 : decode mX10_mixEntries.2.1 47 = .ok (.iaload, 1) := by decide +kernel
theorem dX10_mixEntries_48 : decode mX10_mixEntries.2.1 48 = .ok (.if_icmp .ge 25, 3) := by decide +kernel
theorem dX10_mixEntries_51 : decode mX10_mixEntries.2.1 51 = .ok (.aload_n 0, 1) := by decide +kernel
theorem dX10_mixEntries_52 : decode mX10_mixEntries.2.1 52 = .ok (.aload_n 0, 1) := by decide +kernel
theorem dX10_mixEntries_53 : decode mX10_mixEntries.2.1 53 = .ok (.getfield 25, 3) := by decide +kernel
theorem dX10_mixEntries_56 : decode mX10_mixEntries.2.1 56 = .ok (.bipush 8, 2) := by decide +kernel
theorem dX10_mixEntries_58 : decode mX10_mixEntries.2.1 58 = .ok (.iload_n 1, 1) := by decide +kernel
theorem dX10_mixEntries_59 : decode mX10_mixEntries.2.1 59 = .ok (.imul, 1) := by decide +kernel
theorem dX10_mixEntries_60 : decode mX10_mixEntries.2.1 60 = .ok (.iload_n 2, 1) := by decide +kernel
theorem dX10_mixEntries_61 : decode mX10_mixEntries.2.1 61 = .ok (.iadd, 1) := by decide +kernel
theorem dX10_mixEntries_62 : decode mX10_mixEntries.2.1 62 = .ok (.iaload, 1) := by decide +kernel
theorem dX10_mixEntries_63 : decode mX10_mixEntries.2.1 63 = .ok (.i2l, 1) := by decide +kernel
theorem dX10_mixEntries_64 : decode mX10_mixEntries.2.1 64 = .ok (.invokevirtual 306, 3) := by decide +kernel
theorem dX10_mixEntries_67 : decode mX10_mixEntries.2.1 67 = .ok (.iinc 2 1, 3) := by decide +kernel
theorem dX10_mixEntries_70 : decode mX10_mixEntries.2.1 70 = .ok (.goto (-29), 3) := by decide +kernel
theorem dX10_mixEntries_73 : decode mX10_mixEntries.2.1 73 = .ok (.aload_n 0, 1) := by decide +kernel
theorem dX10_mixEntries_74 : decode mX10_mixEntries.2.1 74 = .ok (.aload_n 0, 1) := by decide +kernel
theorem dX10_mixEntries_75 : decode mX10_mixEntries.2.1 75 = .ok (.iload_n 1, 1) := by decide +kernel
theorem dX10_mixEntries_76 : decode mX10_mixEntries.2.1 76 = .ok (.invokevirtual 185, 3) := by decide +kernel
theorem dX10_mixEntries_79 : decode mX10_mixEntries.2.1 79 = .ok (.i2l, 1) := by decide +kernel
theorem dX10_mixEntries_80 : decode mX10_mixEntries.2.1 80 = .ok (.invokevirtual 306, 3) := by decide +kernel
theorem dX10_mixEntries_83 : decode mX10_mixEntries.2.1 83 = .ok (.aload_n 0, 1) := by decide +kernel
theorem dX10_mixEntries_84 : decode mX10_mixEntries.2.1 84 = .ok (.aload_n 0, 1) := by decide +kernel
theorem dX10_mixEntries_85 : decode mX10_mixEntries.2.1 85 = .ok (.iload_n 1, 1) := by decide +kernel
theorem dX10_mixEntries_86 : decode mX10_mixEntries.2.1 86 = .ok (.invokevirtual 188, 3) := by decide +kernel
theorem dX10_mixEntries_89 : decode mX10_mixEntries.2.1 89 = .ok (.i2l, 1) := by decide +kernel
theorem dX10_mixEntries_90 : decode mX10_mixEntries.2.1 90 = .ok (.invokevirtual 306, 3) := by decide +kernel
theorem dX10_mixEntries_93 : decode mX10_mixEntries.2.1 93 = .ok (.iinc 1 1, 3) := by decide +kernel
theorem dX10_mixEntries_96 : decode mX10_mixEntries.2.1 96 = .ok (.goto (-90), 3) := by decide +kernel
theorem dX10_mixEntries_99 : decode mX10_mixEntries.2.1 99 = .ok (.iconst 0, 1) := by decide +kernel
theorem dX10_mixEntries_100 : decode mX10_mixEntries.2.1 100 = .ok (.istore_n 1, 1) := by decide +kernel
theorem dX10_mixEntries_101 : decode mX10_mixEntries.2.1 101 = .ok (.iload_n 1, 1) := by decide +kernel
theorem dX10_mixEntries_102 : decode mX10_mixEntries.2.1 102 = .ok (.aload_n 0, 1) := by decide +kernel
theorem dX10_mixEntries_103 : decode mX10_mixEntries.2.1 103 = .ok (.getfield 118, 3) := by decide +kernel
theorem dX10_mixEntries_106 : decode mX10_mixEntries.2.1 106 = .ok (.if_icmp .ge 52, 3) := by decide +kernel
theorem dX10_mixEntries_109 : decode mX10_mixEntries.2.1 109 = .ok (.iload_n 1, 1) := by decide +kernel
theorem dX10_mixEntries_110 : decode mX10_mixEntries.2.1 110 = .ok (.iconst 1, 1) := by decide +kernel
theorem dX10_mixEntries_111 : decode mX10_mixEntries.2.1 111 = .ok (.iadd, 1) := by decide +kernel
theorem dX10_mixEntries_112 : decode mX10_mixEntries.2.1 112 = .ok (.istore_n 2, 1) := by decide +kernel
theorem dX10_mixEntries_113 : decode mX10_mixEntries.2.1 113 = .ok (.iload_n 2, 1) := by decide +kernel
theorem dX10_mixEntries_114 : decode mX10_mixEntries.2.1 114 = .ok (.aload_n 0, 1) := by decide +kernel
theorem dX10_mixEntries_115 : decode mX10_mixEntries.2.1 115 = .ok (.getfield 118, 3) := by decide +kernel
theorem dX10_mixEntries_118 : decode mX10_mixEntries.2.1 118 = .ok (.if_icmp .ge 34, 3) := by decide +kernel
theorem dX10_mixEntries_121 : decode mX10_mixEntries.2.1 121 = .ok (.iconst 0, 1) := by decide +kernel
theorem dX10_mixEntries_122 : decode mX10_mixEntries.2.1 122 = .ok (.istore_n 3, 1) := by decide +kernel
theorem dX10_mixEntries_123 : decode mX10_mixEntries.2.1 123 = .ok (.iload_n 3, 1) := by decide +kernel
theorem dX10_mixEntries_124 : decode mX10_mixEntries.2.1 124 = .ok (.iconst 5, 1) := by decide +kernel
theorem dX10_mixEntries_125 : decode mX10_mixEntries.2.1 125 = .ok (.if_icmp .ge 21, 3) := by decide +kernel
theorem dX10_mixEntries_128 : decode mX10_mixEntries.2.1 128 = .ok (.aload_n 0, 1) := by decide +kernel
theorem dX10_mixEntries_129 : decode mX10_mixEntries.2.1 129 = .ok (.aload_n 0, 1) := by decide +kernel
theorem dX10_mixEntries_130 : decode mX10_mixEntries.2.1 130 = .ok (.iload_n 1, 1) := by decide +kernel
theorem dX10_mixEntries_131 : decode mX10_mixEntries.2.1 131 = .ok (.iload_n 2, 1) := by decide +kernel
theorem dX10_mixEntries_132 : decode mX10_mixEntries.2.1 132 = .ok (.iload_n 3, 1) := by decide +kernel
theorem dX10_mixEntries_133 : decode mX10_mixEntries.2.1 133 = .ok (.invokevirtual 181, 3) := by decide +kernel
theorem dX10_mixEntries_136 : decode mX10_mixEntries.2.1 136 = .ok (.i2l, 1) := by decide +kernel
theorem dX10_mixEntries_137 : decode mX10_mixEntries.2.1 137 = .ok (.invokevirtual 306, 3) := by decide +kernel
theorem dX10_mixEntries_140 : decode mX10_mixEntries.2.1 140 = .ok (.iinc 3 1, 3) := by decide +kernel
theorem dX10_mixEntries_143 : decode mX10_mixEntries.2.1 143 = .ok (.goto (-20), 3) := by decide +kernel
theorem dX10_mixEntries_146 : decode mX10_mixEntries.2.1 146 = .ok (.iinc 2 1, 3) := by decide +kernel
theorem dX10_mixEntries_149 : decode mX10_mixEntries.2.1 149 = .ok (.goto (-36), 3) := by decide +kernel
theorem dX10_mixEntries_152 : decode mX10_mixEntries.2.1 152 = .ok (.iinc 1 1, 3) := by decide +kernel
theorem dX10_mixEntries_155 : decode mX10_mixEntries.2.1 155 = .ok (.goto (-54), 3) := by decide +kernel
theorem dX10_mixEntries_158 : decode mX10_mixEntries.2.1 158 = .ok (.return_, 1) := by decide +kernel
theorem dX10_mixLives_0 : decode mX10_mixLives.2.1 0 = .ok (.iconst 0, 1) := by decide +kernel
theorem dX10_mixLives_1 : decode mX10_mixLives.2.1 1 = .ok (.istore_n 1, 1) := by decide +kernel
theorem dX10_mixLives_2 : decode mX10_mixLives.2.1 2 = .ok (.iload_n 1, 1) := by decide +kernel
theorem dX10_mixLives_3 : decode mX10_mixLives.2.1 3 = .ok (.bipush 6, 2) := by decide +kernel
theorem dX10_mixLives_5 : decode mX10_mixLives.2.1 5 = .ok (.if_icmp .ge 19, 3) := by decide +kernel
theorem dX10_mixLives_8 : decode mX10_mixLives.2.1 8 = .ok (.aload_n 0, 1) := by decide +kernel
theorem dX10_mixLives_9 : decode mX10_mixLives.2.1 9 = .ok (.aload_n 0, 1) := by decide +kernel
theorem dX10_mixLives_10 : decode mX10_mixLives.2.1 10 = .ok (.iload_n 1, 1) := by decide +kernel
theorem dX10_mixLives_11 : decode mX10_mixLives.2.1 11 = .ok (.invokevirtual 262, 3) := by decide +kernel
theorem dX10_mixLives_14 : decode mX10_mixLives.2.1 14 = .ok (.i2l, 1) := by decide +kernel
theorem dX10_mixLives_15 : decode mX10_mixLives.2.1 15 = .ok (.invokevirtual 306, 3) := by decide +kernel
theorem dX10_mixLives_18 : decode mX10_mixLives.2.1 18 = .ok (.iinc 1 1, 3) := by decide +kernel
theorem dX10_mixLives_21 : decode mX10_mixLives.2.1 21 = .ok (.goto (-19), 3) := by decide +kernel
theorem dX10_mixLives_24 : decode mX10_mixLives.2.1 24 = .ok (.iconst 0, 1) := by decide +kernel
theorem dX10_mixLives_25 : decode mX10_mixLives.2.1 25 = .ok (.istore_n 1, 1) := by decide +kernel
theorem dX10_mixLives_26 : decode mX10_mixLives.2.1 26 = .ok (.iload_n 1, 1) := by decide +kernel
theorem dX10_mixLives_27 : decode mX10_mixLives.2.1 27 = .ok (.aload_n 0, 1) := by decide +kernel
theorem dX10_mixLives_28 : decode mX10_mixLives.2.1 28 = .ok (.getfield 212, 3) := by decide +kernel
theorem dX10_mixLives_31 : decode mX10_mixLives.2.1 31 = .ok (.if_icmp .ge 63, 3) := by decide +kernel
theorem dX10_mixLives_34 : decode mX10_mixLives.2.1 34 = .ok (.iconst 0, 1) := by decide +kernel
theorem dX10_mixLives_35 : decode mX10_mixLives.2.1 35 = .ok (.istore_n 2, 1) := by decide +kernel
theorem dX10_mixLives_36 : decode mX10_mixLives.2.1 36 = .ok (.iload_n 2, 1) := by decide +kernel
theorem dX10_mixLives_37 : decode mX10_mixLives.2.1 37 = .ok (.bipush 8, 2) := by decide +kernel
theorem dX10_mixLives_39 : decode mX10_mixLives.2.1 39 = .ok (.if_icmp .ge 20, 3) := by decide +kernel
theorem dX10_mixLives_42 : decode mX10_mixLives.2.1 42 = .ok (.aload_n 0, 1) := by decide +kernel
theorem dX10_mixLives_43 : decode mX10_mixLives.2.1 43 = .ok (.aload_n 0, 1) := by decide +kernel
theorem dX10_mixLives_44 : decode mX10_mixLives.2.1 44 = .ok (.iload_n 1, 1) := by decide +kernel
theorem dX10_mixLives_45 : decode mX10_mixLives.2.1 45 = .ok (.iload_n 2, 1) := by decide +kernel
theorem dX10_mixLives_46 : decode mX10_mixLives.2.1 46 = .ok (.invokevirtual 273, 3) := by decide +kernel
theorem dX10_mixLives_49 : decode mX10_mixLives.2.1 49 = .ok (.i2l, 1) := by decide +kernel
theorem dX10_mixLives_50 : decode mX10_mixLives.2.1 50 = .ok (.invokevirtual 306, 3) := by decide +kernel
theorem dX10_mixLives_53 : decode mX10_mixLives.2.1 53 = .ok (.iinc 2 1, 3) := by decide +kernel
theorem dX10_mixLives_56 : decode mX10_mixLives.2.1 56 = .ok (.goto (-20), 3) := by decide +kernel
theorem dX10_mixLives_59 : decode mX10_mixLives.2.1 59 = .ok (.iconst 0, 1) := by decide +kernel
theorem dX10_mixLives_60 : decode mX10_mixLives.2.1 60 = .ok (.istore_n 2, 1) := by decide +kernel
theorem dX10_mixLives_61 : decode mX10_mixLives.2.1 61 = .ok (.iload_n 2, 1) := by decide +kernel
theorem dX10_mixLives_62 : decode mX10_mixLives.2.1 62 = .ok (.aload_n 0, 1) := by decide +kernel
theorem dX10_mixLives_63 : decode mX10_mixLives.2.1 63 = .ok (.getfield 70, 3) := by decide +kernel
theorem dX10_mixLives_66 : decode mX10_mixLives.2.1 66 = .ok (.iload_n 1, 1) := by decide +kernel
theorem dX10_mixLives_67 : decode mX10_mixLives.2.1 67 = .ok (.iaload, 1) := by decide +kernel
theorem dX10_mixLives_68 : decode mX10_mixLives.2.1 68 = .ok (.if_icmp .ge 20, 3) := by decide +kernel
theorem dX10_mixLives_71 : decode mX10_mixLives.2.1 71 = .ok (.aload_n 0, 1) := by decide +kernel
theorem dX10_mixLives_72 : decode mX10_mixLives.2.1 72 = .ok (.aload_n 0, 1) := by decide +kernel
theorem dX10_mixLives_73 : decode mX10_mixLives.2.1 73 = .ok (.iload_n 1, 1) := by decide +kernel
theorem dX10_mixLives_74 : decode mX10_mixLives.2.1 74 = .ok (.iload_n 2, 1) := by decide +kernel
theorem dX10_mixLives_75 : decode mX10_mixLives.2.1 75 = .ok (.invokevirtual 276, 3) := by decide +kernel
theorem dX10_mixLives_78 : decode mX10_mixLives.2.1 78 = .ok (.i2l, 1) := by decide +kernel
theorem dX10_mixLives_79 : decode mX10_mixLives.2.1 79 = .ok (.invokevirtual 306, 3) := by decide +kernel
theorem dX10_mixLives_82 : decode mX10_mixLives.2.1 82 = .ok (.iinc 2 1, 3) := by decide +kernel
theorem dX10_mixLives_85 : decode mX10_mixLives.2.1 85 = .ok (.goto (-24), 3) := by decide +kernel
theorem dX10_mixLives_88 : decode mX10_mixLives.2.1 88 = .ok (.iinc 1 1, 3) := by decide +kernel
theorem dX10_mixLives_91 : decode mX10_mixLives.2.1 91 = .ok (.goto (-65), 3) := by decide +kernel
theorem dX10_mixLives_94 : decode mX10_mixLives.2.1 94 = .ok (.return_, 1) := by decide +kernel
theorem dX10_digest_0 : decode mX10_digest.2.1 0 = .ok (.aload_n 0, 1) := by decide +kernel
theorem dX10_digest_1 : decode mX10_digest.2.1 1 = .ok (.ldc2_w 310, 3) := by decide +kernel
theorem dX10_digest_4 : decode mX10_digest.2.1 4 = .ok (.putfield 302, 3) := by decide +kernel
theorem dX10_digest_7 : decode mX10_digest.2.1 7 = .ok (.aload_n 0, 1) := by decide +kernel
theorem dX10_digest_8 : decode mX10_digest.2.1 8 = .ok (.invokevirtual 312, 3) := by decide +kernel
theorem dX10_digest_11 : decode mX10_digest.2.1 11 = .ok (.aload_n 0, 1) := by decide +kernel
theorem dX10_digest_12 : decode mX10_digest.2.1 12 = .ok (.invokevirtual 315, 3) := by decide +kernel
theorem dX10_digest_15 : decode mX10_digest.2.1 15 = .ok (.iconst 0, 1) := by decide +kernel
theorem dX10_digest_16 : decode mX10_digest.2.1 16 = .ok (.istore_n 1, 1) := by decide +kernel
theorem dX10_digest_17 : decode mX10_digest.2.1 17 = .ok (.iload_n 1, 1) := by decide +kernel
theorem dX10_digest_18 : decode mX10_digest.2.1 18 = .ok (.aload_n 0, 1) := by decide +kernel
theorem dX10_digest_19 : decode mX10_digest.2.1 19 = .ok (.getfield 80, 3) := by decide +kernel
theorem dX10_digest_22 : decode mX10_digest.2.1 22 = .ok (.if_icmp .ge 20, 3) := by decide +kernel
theorem dX10_digest_25 : decode mX10_digest.2.1 25 = .ok (.aload_n 0, 1) := by decide +kernel
theorem dX10_digest_26 : decode mX10_digest.2.1 26 = .ok (.aload_n 0, 1) := by decide +kernel
theorem dX10_digest_27 : decode mX10_digest.2.1 27 = .ok (.getfield 7, 3) := by decide +kernel
theorem dX10_digest_30 : decode mX10_digest.2.1 30 = .ok (.iload_n 1, 1) := by decide +kernel
theorem dX10_digest_31 : decode mX10_digest.2.1 31 = .ok (.iaload, 1) := by decide +kernel
theorem dX10_digest_32 : decode mX10_digest.2.1 32 = .ok (.i2l, 1) := by decide +kernel
theorem dX10_digest_33 : decode mX10_digest.2.1 33 = .ok (.invokevirtual 306, 3) := by decide +kernel
theorem dX10_digest_36 : decode mX10_digest.2.1 36 = .ok (.iinc 1 1, 3) := by decide +kernel
theorem dX10_digest_39 : decode mX10_digest.2.1 39 = .ok (.goto (-22), 3) := by decide +kernel
theorem dX10_digest_42 : decode mX10_digest.2.1 42 = .ok (.iconst 0, 1) := by decide +kernel
theorem dX10_digest_43 : decode mX10_digest.2.1 43 = .ok (.istore_n 1, 1) := by decide +kernel
theorem dX10_digest_44 : decode mX10_digest.2.1 44 = .ok (.iload_n 1, 1) := by decide +kernel
theorem dX10_digest_45 : decode mX10_digest.2.1 45 = .ok (.bipush 8, 2) := by decide +kernel
theorem dX10_digest_47 : decode mX10_digest.2.1 47 = .ok (.if_icmp .ge 19, 3) := by decide +kernel
theorem dX10_digest_50 : decode mX10_digest.2.1 50 = .ok (.aload_n 0, 1) := by decide +kernel
theorem dX10_digest_51 : decode mX10_digest.2.1 51 = .ok (.aload_n 0, 1) := by decide +kernel
theorem dX10_digest_52 : decode mX10_digest.2.1 52 = .ok (.iload_n 1, 1) := by decide +kernel
theorem dX10_digest_53 : decode mX10_digest.2.1 53 = .ok (.invokevirtual 297, 3) := by decide +kernel
theorem dX10_digest_56 : decode mX10_digest.2.1 56 = .ok (.i2l, 1) := by decide +kernel
theorem dX10_digest_57 : decode mX10_digest.2.1 57 = .ok (.invokevirtual 306, 3) := by decide +kernel
theorem dX10_digest_60 : decode mX10_digest.2.1 60 = .ok (.iinc 1 1, 3) := by decide +kernel
theorem dX10_digest_63 : decode mX10_digest.2.1 63 = .ok (.goto (-19), 3) := by decide +kernel
theorem dX10_digest_66 : decode mX10_digest.2.1 66 = .ok (.aload_n 0, 1) := by decide +kernel
theorem dX10_digest_67 : decode mX10_digest.2.1 67 = .ok (.getfield 302, 3) := by decide +kernel
theorem dX10_digest_70 : decode mX10_digest.2.1 70 = .ok (.lreturn, 1) := by decide +kernel
theorem dJ6_bitCount_0f7a4_0 : decode mJ6_bitCount_0f7a4.2.1 0 = .ok (.iload_n 0, 1) := by decide +kernel
theorem dJ6_bitCount_0f7a4_1 : decode mJ6_bitCount_0f7a4.2.1 1 = .ok (.iload_n 0, 1) := by decide +kernel
theorem dJ6_bitCount_0f7a4_2 : decode mJ6_bitCount_0f7a4.2.1 2 = .ok (.iconst 1, 1) := by decide +kernel
theorem dJ6_bitCount_0f7a4_3 : decode mJ6_bitCount_0f7a4.2.1 3 = .ok (.iushr, 1) := by decide +kernel
theorem dJ6_bitCount_0f7a4_4 : decode mJ6_bitCount_0f7a4.2.1 4 = .ok (.ldc_w 265, 3) := by decide +kernel
theorem dJ6_bitCount_0f7a4_7 : decode mJ6_bitCount_0f7a4.2.1 7 = .ok (.iand, 1) := by decide +kernel
theorem dJ6_bitCount_0f7a4_8 : decode mJ6_bitCount_0f7a4.2.1 8 = .ok (.isub, 1) := by decide +kernel
theorem dJ6_bitCount_0f7a4_9 : decode mJ6_bitCount_0f7a4.2.1 9 = .ok (.istore_n 0, 1) := by decide +kernel
theorem dJ6_bitCount_0f7a4_10 : decode mJ6_bitCount_0f7a4.2.1 10 = .ok (.iload_n 0, 1) := by decide +kernel
theorem dJ6_bitCount_0f7a4_11 : decode mJ6_bitCount_0f7a4.2.1 11 = .ok (.ldc_w 266, 3) := by decide +kernel
theorem dJ6_bitCount_0f7a4_14 : decode mJ6_bitCount_0f7a4.2.1 14 = .ok (.iand, 1) := by decide +kernel
theorem dJ6_bitCount_0f7a4_15 : decode mJ6_bitCount_0f7a4.2.1 15 = .ok (.iload_n 0, 1) := by decide +kernel
theorem dJ6_bitCount_0f7a4_16 : decode mJ6_bitCount_0f7a4.2.1 16 = .ok (.iconst 2, 1) := by decide +kernel
theorem dJ6_bitCount_0f7a4_17 : decode mJ6_bitCount_0f7a4.2.1 17 = .ok (.iushr, 1) := by decide +kernel
theorem dJ6_bitCount_0f7a4_18 : decode mJ6_bitCount_0f7a4.2.1 18 = .ok (.ldc_w 266, 3) := by decide +kernel
theorem dJ6_bitCount_0f7a4_21 : decode mJ6_bitCount_0f7a4.2.1 21 = .ok (.iand, 1) := by decide +kernel
theorem dJ6_bitCount_0f7a4_22 : decode mJ6_bitCount_0f7a4.2.1 22 = .ok (.iadd, 1) := by decide +kernel
theorem dJ6_bitCount_0f7a4_23 : decode mJ6_bitCount_0f7a4.2.1 23 = .ok (.istore_n 0, 1) := by decide +kernel
theorem dJ6_bitCount_0f7a4_24 : decode mJ6_bitCount_0f7a4.2.1 24 = .ok (.iload_n 0, 1) := by decide +kernel
theorem dJ6_bitCount_0f7a4_25 : decode mJ6_bitCount_0f7a4.2.1 25 = .ok (.iload_n 0, 1) := by decide +kernel
theorem dJ6_bitCount_0f7a4_26 : decode mJ6_bitCount_0f7a4.2.1 26 = .ok (.iconst 4, 1) := by decide +kernel
theorem dJ6_bitCount_0f7a4_27 : decode mJ6_bitCount_0f7a4.2.1 27 = .ok (.iushr, 1) := by decide +kernel
theorem dJ6_bitCount_0f7a4_28 : decode mJ6_bitCount_0f7a4.2.1 28 = .ok (.iadd, 1) := by decide +kernel
theorem dJ6_bitCount_0f7a4_29 : decode mJ6_bitCount_0f7a4.2.1 29 = .ok (.ldc_w 267, 3) := by decide +kernel
theorem dJ6_bitCount_0f7a4_32 : decode mJ6_bitCount_0f7a4.2.1 32 = .ok (.iand, 1) := by decide +kernel
theorem dJ6_bitCount_0f7a4_33 : decode mJ6_bitCount_0f7a4.2.1 33 = .ok (.istore_n 0, 1) := by decide +kernel
theorem dJ6_bitCount_0f7a4_34 : decode mJ6_bitCount_0f7a4.2.1 34 = .ok (.iload_n 0, 1) := by decide +kernel
theorem dJ6_bitCount_0f7a4_35 : decode mJ6_bitCount_0f7a4.2.1 35 = .ok (.iload_n 0, 1) := by decide +kernel
theorem dJ6_bitCount_0f7a4_36 : decode mJ6_bitCount_0f7a4.2.1 36 = .ok (.bipush 8, 2) := by decide +kernel
theorem dJ6_bitCount_0f7a4_38 : decode mJ6_bitCount_0f7a4.2.1 38 = .ok (.iushr, 1) := by decide +kernel
theorem dJ6_bitCount_0f7a4_39 : decode mJ6_bitCount_0f7a4.2.1 39 = .ok (.iadd, 1) := by decide +kernel
theorem dJ6_bitCount_0f7a4_40 : decode mJ6_bitCount_0f7a4.2.1 40 = .ok (.istore_n 0, 1) := by decide +kernel
theorem dJ6_bitCount_0f7a4_41 : decode mJ6_bitCount_0f7a4.2.1 41 = .ok (.iload_n 0, 1) := by decide +kernel
theorem dJ6_bitCount_0f7a4_42 : decode mJ6_bitCount_0f7a4.2.1 42 = .ok (.iload_n 0, 1) := by decide +kernel
theorem dJ6_bitCount_0f7a4_43 : decode mJ6_bitCount_0f7a4.2.1 43 = .ok (.bipush 16, 2) := by decide +kernel
theorem dJ6_bitCount_0f7a4_45 : decode mJ6_bitCount_0f7a4.2.1 45 = .ok (.iushr, 1) := by decide +kernel
theorem dJ6_bitCount_0f7a4_46 : decode mJ6_bitCount_0f7a4.2.1 46 = .ok (.iadd, 1) := by decide +kernel
theorem dJ6_bitCount_0f7a4_47 : decode mJ6_bitCount_0f7a4.2.1 47 = .ok (.istore_n 0, 1) := by decide +kernel
theorem dJ6_bitCount_0f7a4_48 : decode mJ6_bitCount_0f7a4.2.1 48 = .ok (.iload_n 0, 1) := by decide +kernel
theorem dJ6_bitCount_0f7a4_49 : decode mJ6_bitCount_0f7a4.2.1 49 = .ok (.bipush 63, 2) := by decide +kernel
theorem dJ6_bitCount_0f7a4_51 : decode mJ6_bitCount_0f7a4.2.1 51 = .ok (.iand, 1) := by decide +kernel
theorem dJ6_bitCount_0f7a4_52 : decode mJ6_bitCount_0f7a4.2.1 52 = .ok (.ireturn, 1) := by decide +kernel

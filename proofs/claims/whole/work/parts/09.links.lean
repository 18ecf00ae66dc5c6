theorem ly_0 : LAY[0]? = some (.inr (.inl (7, [some (some 1), some (some 7), some (some 13), some (some 14), some (some 15), some (some 18), some (some 23), some (some 24), none, none, none]))) := rfl
theorem ly_1 : LAY[1]? = some (.inr (.inl (3, [none, none, none, some (some 2), some (some 3), some (some 4), some (some 5), some (some 6)]))) := rfl
theorem ly_2 : LAY[2]? = some (.inl (0, 30)) := rfl
theorem ly_3 : LAY[3]? = some (.inl (0, 30)) := rfl
theorem ly_4 : LAY[4]? = some (.inl (0, 30)) := rfl
theorem ly_5 : LAY[5]? = some (.inl (0, 30)) := rfl
theorem ly_6 : LAY[6]? = some (.inl (0, 30)) := rfl
theorem ly_7 : LAY[7]? = some (.inr (.inl (5, [some (some 8), none, none, some (some 9), some (some 10), some (some 11), some (some 12)]))) := rfl
theorem ly_8 : LAY[8]? = some (.inr (.inr [some 25, some 28, some 31, some 34, some 37, some 40, some 43, some 46])) := rfl
theorem ly_9 : LAY[9]? = some (.inl (0, 30)) := rfl
theorem ly_10 : LAY[10]? = some (.inl (0, 30)) := rfl
theorem ly_11 : LAY[11]? = some (.inl (0, 30)) := rfl
theorem ly_12 : LAY[12]? = some (.inl (0, 30)) := rfl
theorem ly_13 : LAY[13]? = some (.inr (.inl (6, [none, none, none]))) := rfl
theorem ly_14 : LAY[14]? = some (.inr (.inl (2, [some (some 1), some (some 7), some (some 13), none, none, none, none]))) := rfl
theorem ly_15 : LAY[15]? = some (.inr (.inl (1, [some (some 1), some (some 7), some (some 13), some (some 16), some (some 17)]))) := rfl
theorem ly_16 : LAY[16]? = some (.inl (0, 3480)) := rfl
theorem ly_17 : LAY[17]? = some (.inl (0, 30)) := rfl
theorem ly_18 : LAY[18]? = some (.inr (.inl (4, [some (some 7), some (some 15), none, some (some 19), none, some (some 20), some (some 21), some (some 22)]))) := rfl
theorem ly_19 : LAY[19]? = some (.inl (0, 10)) := rfl
theorem ly_20 : LAY[20]? = some (.inl (0, 10)) := rfl
theorem ly_21 : LAY[21]? = some (.inl (0, 10)) := rfl
theorem ly_22 : LAY[22]? = some (.inl (0, 30)) := rfl
theorem ly_23 : LAY[23]? = some (.inl (0, 30)) := rfl
theorem ly_24 : LAY[24]? = some (.inl (0, 30)) := rfl
theorem ly_25 : LAY[25]? = some (.inr (.inl (0, [none, some (some 26), some (some 27)]))) := rfl
theorem ly_26 : LAY[26]? = some (.inl (0, 8)) := rfl
theorem ly_27 : LAY[27]? = some (.inl (0, 8)) := rfl
theorem ly_28 : LAY[28]? = some (.inr (.inl (0, [none, some (some 29), some (some 30)]))) := rfl
theorem ly_29 : LAY[29]? = some (.inl (0, 8)) := rfl
theorem ly_30 : LAY[30]? = some (.inl (0, 8)) := rfl
theorem ly_31 : LAY[31]? = some (.inr (.inl (0, [none, some (some 32), some (some 33)]))) := rfl
theorem ly_32 : LAY[32]? = some (.inl (0, 8)) := rfl
theorem ly_33 : LAY[33]? = some (.inl (0, 8)) := rfl
theorem ly_34 : LAY[34]? = some (.inr (.inl (0, [none, some (some 35), some (some 36)]))) := rfl
theorem ly_35 : LAY[35]? = some (.inl (0, 8)) := rfl
theorem ly_36 : LAY[36]? = some (.inl (0, 8)) := rfl
theorem ly_37 : LAY[37]? = some (.inr (.inl (0, [none, some (some 38), some (some 39)]))) := rfl
theorem ly_38 : LAY[38]? = some (.inl (0, 8)) := rfl
theorem ly_39 : LAY[39]? = some (.inl (0, 8)) := rfl
theorem ly_40 : LAY[40]? = some (.inr (.inl (0, [none, some (some 41), some (some 42)]))) := rfl
theorem ly_41 : LAY[41]? = some (.inl (0, 8)) := rfl
theorem ly_42 : LAY[42]? = some (.inl (0, 8)) := rfl
theorem ly_43 : LAY[43]? = some (.inr (.inl (0, [none, some (some 44), some (some 45)]))) := rfl
theorem ly_44 : LAY[44]? = some (.inl (0, 8)) := rfl
theorem ly_45 : LAY[45]? = some (.inl (0, 8)) := rfl
theorem ly_46 : LAY[46]? = some (.inr (.inl (0, [none, some (some 47), some (some 48)]))) := rfl
theorem ly_47 : LAY[47]? = some (.inl (0, 8)) := rfl
theorem ly_48 : LAY[48]? = some (.inl (0, 8)) := rfl
theorem ly_49 : LAY[49]? = some (.inr (.inl (8, [none, none, none, none, none, none, some (some 50), some (some 51), some (some 52), some (some 53), some (some 54), some (some 55), some (some 56), some (some 57), some (some 58), some (some 59), some (some 60), none, some (some 61), none, some (some 62), some (some 63), some (some 64), none, none, none, none, none, some (some 65), some (some 66), none, some (some 67)]))) := rfl
theorem ly_50 : LAY[50]? = some (.inl (0, 30)) := rfl
theorem ly_51 : LAY[51]? = some (.inl (0, 30)) := rfl
theorem ly_52 : LAY[52]? = some (.inl (0, 30)) := rfl
theorem ly_53 : LAY[53]? = some (.inl (0, 8)) := rfl
theorem ly_54 : LAY[54]? = some (.inl (0, 64)) := rfl
theorem ly_55 : LAY[55]? = some (.inl (0, 64)) := rfl
theorem ly_56 : LAY[56]? = some (.inl (1, 30)) := rfl
theorem ly_57 : LAY[57]? = some (.inl (0, 30)) := rfl
theorem ly_58 : LAY[58]? = some (.inl (0, 30)) := rfl
theorem ly_59 : LAY[59]? = some (.inl (0, 30)) := rfl
theorem ly_60 : LAY[60]? = some (.inl (1, 30)) := rfl
theorem ly_61 : LAY[61]? = some (.inl (0, 30)) := rfl
theorem ly_62 : LAY[62]? = some (.inl (1, 30)) := rfl
theorem ly_63 : LAY[63]? = some (.inl (1, 30)) := rfl
theorem ly_64 : LAY[64]? = some (.inl (0, 10)) := rfl
theorem ly_65 : LAY[65]? = some (.inl (0, 30)) := rfl
theorem ly_66 : LAY[66]? = some (.inl (0, 30)) := rfl
theorem ly_67 : LAY[67]? = some (.inl (2, 1024)) := rfl
abbrev kX0_addCorner : zM := (yX0_addCorner, cX0_addCorner, 3, (some .int), 1, 22)
abbrev kX0_cornerReached : zM := (yX0_cornerReached, cX0_cornerReached, 7, (some .int), 0, 0)
abbrev kX1_gather : zM := (yX1_gather, cX1_gather, 4, none, 3, 81)
abbrev kX1_gatherOf : zM := (yX1_gatherOf, cX1_gatherOf, 11, none, 2, 51)
abbrev kX1_rowOf : zM := (yX1_rowOf, cX1_rowOf, 2, (some .int), 0, 0)
abbrev kX1_leastDial : zM := (yX1_leastDial, cX1_leastDial, 10, (some .long), 1, 23)
abbrev kX1_areMetAround : zM := (yX1_areMetAround, cX1_areMetAround, 4, (some .boolean), 2, 48)
abbrev kX1_isMet : zM := (yX1_isMet, cX1_isMet, 7, (some .boolean), 1, 22)
abbrev kX2_look : zM := (yX2_look, cX2_look, 2, none, 5, 127)
abbrev kX2_note : zM := (yX2_note, cX2_note, 5, none, 0, 0)
abbrev kX2_lookAtLine : zM := (yX2_lookAtLine, cX2_lookAtLine, 2, none, 4, 106)
abbrev kX2_lookAtFaults : zM := (yX2_lookAtFaults, cX2_lookAtFaults, 7, none, 3, 80)
abbrev kX2_isUnseen : zM := (yX2_isUnseen, cX2_isUnseen, 5, (some .boolean), 2, 51)
abbrev kX2_isOutOfOrder : zM := (yX2_isOutOfOrder, cX2_isOutOfOrder, 8, (some .boolean), 2, 53)
abbrev kX3_isKnot : zM := (yX3_isKnot, cX3_isKnot, 2, (some .boolean), 0, 0)
abbrev kX3_isLine : zM := (yX3_isLine, cX3_isLine, 2, (some .boolean), 0, 0)
abbrev kX3_isOnWay : zM := (yX3_isOnWay, cX3_isOnWay, 3, (some .boolean), 1, 21)
abbrev kX3_isFault : zM := (yX3_isFault, cX3_isFault, 4, (some .boolean), 1, 22)
abbrev kX3_hang : zM := (yX3_hang, cX3_hang, 4, (some .int), 0, 0)
abbrev kX3_sumOf : zM := (yX3_sumOf, cX3_sumOf, 4, (some .long), 0, 0)
abbrev kX3_sixteenForces : zM := (yX3_sixteenForces, cX3_sixteenForces, 1, (some .long), 0, 0)
abbrev kX3_currentByLoads : zM := (yX3_currentByLoads, cX3_currentByLoads, 4, (some .int), 1, 21)
abbrev kX4_gatherLines : zM := (yX4_gatherLines, cX4_gatherLines, 2, (some .boolean), 0, 0)
abbrev kX4_find : zM := (yX4_find, cX4_find, 4, (some .int), 4, 94)
abbrev kX4_lowestThatCanGo : zM := (yX4_lowestThatCanGo, cX4_lowestThatCanGo, 4, (some .int), 3, 71)
abbrev kX5_isThere : zM := (yX5_isThere, cX5_isThere, 2, (some .boolean), 1, 21)
abbrev kX5_place : zM := (yX5_place, cX5_place, 5, none, 0, 0)
abbrev kX5_takeAway : zM := (yX5_takeAway, cX5_takeAway, 2, none, 0, 0)
abbrev kX5_setFailing : zM := (yX5_setFailing, cX5_setFailing, 3, none, 0, 0)
abbrev kX5_lastOf : zM := (yX5_lastOf, cX5_lastOf, 3, (some .int), 1, 21)
abbrev kX5_cornerReached : zM := (yX5_cornerReached, cX5_cornerReached, 6, (some .int), 1, 26)
abbrev kX5_ticksAt : zM := (yX5_ticksAt, cX5_ticksAt, 3, (some .int), 0, 0)
abbrev kX5_waitAt : zM := (yX5_waitAt, cX5_waitAt, 8, (some .int), 1, 26)
abbrev kX5_leastTenthsSeen : zM := (yX5_leastTenthsSeen, cX5_leastTenthsSeen, 2, (some .long), 2, 42)
abbrev kX5_sumOfDials : zM := (yX5_sumOfDials, cX5_sumOfDials, 3, (some .int), 2, 42)
abbrev kX5_keepDialsAsGoal : zM := (yX5_keepDialsAsGoal, cX5_keepDialsAsGoal, 3, (some .int), 2, 42)
abbrev kX6_resistancesAsked : zM := (yX6_resistancesAsked, cX6_resistancesAsked, 1, (some .int), 0, 0)
abbrev kX6_resistanceAsked : zM := (yX6_resistanceAsked, cX6_resistanceAsked, 2, (some .int), 0, 0)
abbrev kX7_source : zM := (yX7_source, cX7_source, 3, (some .boolean), 1, 22)
abbrev kX7_line : zM := (yX7_line, cX7_line, 3, (some .int), 1, 23)
abbrev kX7_load : zM := (yX7_load, cX7_load, 3, (some .boolean), 1, 22)
abbrev kX7_corner : zM := (yX7_corner, cX7_corner, 5, (some .int), 2, 44)
abbrev kX7_breaker : zM := (yX7_breaker, cX7_breaker, 5, (some .boolean), 1, 24)
abbrev kX7_remove : zM := (yX7_remove, cX7_remove, 2, (some .boolean), 2, 42)
abbrev kX7_dial : zM := (yX7_dial, cX7_dial, 3, (some .boolean), 2, 42)
abbrev kX7_fails : zM := (yX7_fails, cX7_fails, 3, (some .boolean), 2, 42)
abbrev kX7_told : zM := (yX7_told, cX7_told, 4, (some .boolean), 1, 22)
abbrev kX7_lineOf : zM := (yX7_lineOf, cX7_lineOf, 3, (some .int), 3, 65)
abbrev kX7_fault : zM := (yX7_fault, cX7_fault, 7, (some .long), 2, 45)
abbrev kX7_waits : zM := (yX7_waits, cX7_waits, 5, (some .int), 2, 53)
abbrev kX7_run : zM := (yX7_run, cX7_run, 5, (some .int), 3, 82)
abbrev kX7_ran : zM := (yX7_ran, cX7_ran, 3, (some .int), 2, 42)
abbrev kX7_right : zM := (yX7_right, cX7_right, 2, (some .int), 6, 148)
abbrev kX7_fit : zM := (yX7_fit, cX7_fit, 1, (some .int), 6, 148)
abbrev kX7_arc : zM := (yX7_arc, cX7_arc, 4, (some .long), 4, 110)
abbrev kX7_worst : zM := (yX7_worst, cX7_worst, 6, (some .long), 5, 137)
abbrev kX7_growth : zM := (yX7_growth, cX7_growth, 4, (some .int), 4, 88)
abbrev kX7_goal : zM := (yX7_goal, cX7_goal, 1, (some .int), 3, 64)
abbrev kX7_change : zM := (yX7_change, cX7_change, 1, (some .int), 6, 148)
abbrev kX7_step : zM := (yX7_step, cX7_step, 2, (some .int), 1, 22)
abbrev kX7_about : zM := (yX7_about, cX7_about, 2, (some .int), 1, 20)
abbrev kX7_isWithin : zM := (yX7_isWithin, cX7_isWithin, 3, (some .boolean), 0, 0)
abbrev kX7_lineOrNone : zM := (yX7_lineOrNone, cX7_lineOrNone, 1, (some .int), 0, 0)
abbrev kX7_holds : zM := (yX7_holds, cX7_holds, 2, (some .boolean), 0, 0)
abbrev kX7_nextOf : zM := (yX7_nextOf, cX7_nextOf, 3, (some .int), 2, 43)
abbrev kX7_breakerOf : zM := (yX7_breakerOf, cX7_breakerOf, 3, (some .int), 2, 42)
abbrev kX7_ableOn : zM := (yX7_ableOn, cX7_ableOn, 2, (some .int), 0, 0)
abbrev kX7_clearTick : zM := (yX7_clearTick, cX7_clearTick, 10, (some .int), 2, 53)
abbrev kX7_openersAt : zM := (yX7_openersAt, cX7_openersAt, 10, (some .int), 2, 53)
abbrev kX7_arcOf : zM := (yX7_arcOf, cX7_arcOf, 9, (some .long), 3, 82)
abbrev kX7_worstOf : zM := (yX7_worstOf, cX7_worstOf, 8, (some .long), 4, 110)
abbrev kX7_growthOf : zM := (yX7_growthOf, cX7_growthOf, 6, (some .long), 3, 63)
abbrev kX7_findLeastDials : zM := (yX7_findLeastDials, cX7_findLeastDials, 4, (some .boolean), 4, 104)
abbrev kX8_isIn : zM := (yX8_isIn, cX8_isIn, 3, (some .boolean), 0, 0)
abbrev kX8_isLine : zM := (yX8_isLine, cX8_isLine, 2, (some .boolean), 1, 22)
abbrev kX8_isBreaker : zM := (yX8_isBreaker, cX8_isBreaker, 2, (some .boolean), 2, 43)
abbrev kX8_isFault : zM := (yX8_isFault, cX8_isFault, 4, (some .boolean), 2, 43)
abbrev kX8_source : zM := (yX8_source, cX8_source, 3, (some .boolean), 1, 22)
abbrev kX8_line : zM := (yX8_line, cX8_line, 3, (some .int), 1, 22)
abbrev kX8_load : zM := (yX8_load, cX8_load, 3, (some .boolean), 1, 22)
abbrev kX8_corner : zM := (yX8_corner, cX8_corner, 5, (some .int), 1, 22)
abbrev kX8_breaker : zM := (yX8_breaker, cX8_breaker, 5, (some .boolean), 2, 43)
abbrev kX8_remove : zM := (yX8_remove, cX8_remove, 2, (some .boolean), 3, 64)
abbrev kX8_dial : zM := (yX8_dial, cX8_dial, 3, (some .boolean), 3, 64)
abbrev kX8_fails : zM := (yX8_fails, cX8_fails, 3, (some .boolean), 3, 64)
abbrev kX8_told : zM := (yX8_told, cX8_told, 4, (some .boolean), 1, 22)
abbrev kX8_isOnWay : zM := (yX8_isOnWay, cX8_isOnWay, 4, (some .boolean), 0, 0)
abbrev kX8_sum : zM := (yX8_sum, cX8_sum, 7, (some .long), 0, 0)
abbrev kX8_waitBy : zM := (yX8_waitBy, cX8_waitBy, 9, (some .int), 0, 0)
abbrev kX8_waitAt : zM := (yX8_waitAt, cX8_waitAt, 5, (some .int), 1, 28)
abbrev kX8_fault : zM := (yX8_fault, cX8_fault, 5, (some .long), 3, 66)
abbrev kX8_waits : zM := (yX8_waits, cX8_waits, 5, (some .int), 3, 66)
abbrev kX8_cleared : zM := (yX8_cleared, cX8_cleared, 7, (some .int), 2, 52)
abbrev kX8_run : zM := (yX8_run, cX8_run, 6, (some .int), 3, 78)
abbrev kX8_ran : zM := (yX8_ran, cX8_ran, 3, (some .int), 1, 22)
abbrev kX8_arc : zM := (yX8_arc, cX8_arc, 5, (some .long), 3, 78)
abbrev kX8_worst : zM := (yX8_worst, cX8_worst, 7, (some .long), 4, 102)
abbrev kX8_keeper : zM := (yX8_keeper, cX8_keeper, 3, (some .int), 0, 0)
abbrev kX8_next : zM := (yX8_next, cX8_next, 3, (some .int), 1, 22)
abbrev kX8_loadOf : zM := (yX8_loadOf, cX8_loadOf, 4, (some .int), 1, 23)
abbrev kX8_lineOf : zM := (yX8_lineOf, cX8_lineOf, 3, (some .int), 2, 46)
abbrev kX8_tells : zM := (yX8_tells, cX8_tells, 5, (some .boolean), 0, 0)
abbrev kX8_tooShort : zM := (yX8_tooShort, cX8_tooShort, 7, (some .int), 2, 52)
abbrev kX8_isLineRight : zM := (yX8_isLineRight, cX8_isLineRight, 5, (some .boolean), 3, 78)
abbrev kX8_isRight : zM := (yX8_isRight, cX8_isRight, 2, (some .boolean), 4, 102)
abbrev kX8_right : zM := (yX8_right, cX8_right, 2, (some .int), 5, 123)
abbrev kX8_raises : zM := (yX8_raises, cX8_raises, 4, (some .int), 3, 78)
abbrev kX8_fit : zM := (yX8_fit, cX8_fit, 4, (some .int), 5, 123)
abbrev kX8_growth : zM := (yX8_growth, cX8_growth, 9, (some .int), 2, 46)
abbrev kX8_goal : zM := (yX8_goal, cX8_goal, 3, (some .int), 0, 0)
abbrev kX8_take : zM := (yX8_take, cX8_take, 3, none, 0, 0)
abbrev kX8_change : zM := (yX8_change, cX8_change, 5, (some .int), 5, 123)
abbrev kX8_step : zM := (yX8_step, cX8_step, 2, (some .int), 1, 22)
abbrev kX8_about : zM := (yX8_about, cX8_about, 4, (some .int), 0, 0)
abbrev kJ6_numberOfLeadingZeros_0f7a4 : zM := (yJ6_numberOfLeadingZeros_0f7a4, cJ6_numberOfLeadingZeros_0f7a4, 2, (some .int), 0, 0)
abbrev kJ6_bitCount_0f7a4 : zM := (yJ6_bitCount_0f7a4, cJ6_bitCount_0f7a4, 1, (some .int), 0, 0)
theorem lu_X0_0 : u_lay RX0 TX0 0 ∈ zTbl := zm1 82 rfl rfl
theorem lu_X0_1 : u_lay RX0 TX0 1 ∈ zTbl := zm1 84 rfl rfl
theorem lu_X0_2 : u_lay RX0 TX0 2 ∈ zTbl := zm1 86 rfl rfl
theorem lu_X0 : ∀ w ∈ u_ws RX0 TX0 3, w ∈ zTbl := by
  intro w hw
  obtain ⟨k, hk, rfl⟩ := List.mem_map.mp hw
  have hk := List.mem_range.mp hk
  match k, hk with
  | 0, _ => exact lu_X0_0
  | 1, _ => exact lu_X0_1
  | 2, _ => exact lu_X0_2
  | k + 3, h => exact absurd h (by omega)
theorem lu_X1_0 : u_lay RX1 TX1 0 ∈ zTbl := zm1 187 rfl rfl
theorem lu_X1_1 : u_lay RX1 TX1 1 ∈ zTbl := zm1 189 rfl rfl
theorem lu_X1_2 : u_lay RX1 TX1 2 ∈ zTbl := zm1 191 rfl rfl
theorem lu_X1_3 : u_lay RX1 TX1 3 ∈ zTbl := zm1 193 rfl rfl
theorem lu_X1_4 : u_lay RX1 TX1 4 ∈ zTbl := zm1 195 rfl rfl
theorem lu_X1 : ∀ w ∈ u_ws RX1 TX1 5, w ∈ zTbl := by
  intro w hw
  obtain ⟨k, hk, rfl⟩ := List.mem_map.mp hw
  have hk := List.mem_range.mp hk
  match k, hk with
  | 0, _ => exact lu_X1_0
  | 1, _ => exact lu_X1_1
  | 2, _ => exact lu_X1_2
  | 3, _ => exact lu_X1_3
  | 4, _ => exact lu_X1_4
  | k + 5, h => exact absurd h (by omega)
theorem lu_X2_0 : u_lay RX2 TX2 0 ∈ zTbl := zm1 161 rfl rfl
theorem lu_X2_1 : u_lay RX2 TX2 1 ∈ zTbl := zm1 163 rfl rfl
theorem lu_X2_2 : u_lay RX2 TX2 2 ∈ zTbl := zm1 165 rfl rfl
theorem lu_X2_3 : u_lay RX2 TX2 3 ∈ zTbl := zm1 167 rfl rfl
theorem lu_X2_4 : u_lay RX2 TX2 4 ∈ zTbl := zm1 169 rfl rfl
theorem lu_X2_5 : u_lay RX2 TX2 5 ∈ zTbl := zm1 171 rfl rfl
theorem lu_X2_6 : u_lay RX2 TX2 6 ∈ zTbl := zm1 173 rfl rfl
theorem lu_X2 : ∀ w ∈ u_ws RX2 TX2 7, w ∈ zTbl := by
  intro w hw
  obtain ⟨k, hk, rfl⟩ := List.mem_map.mp hw
  have hk := List.mem_range.mp hk
  match k, hk with
  | 0, _ => exact lu_X2_0
  | 1, _ => exact lu_X2_1
  | 2, _ => exact lu_X2_2
  | 3, _ => exact lu_X2_3
  | 4, _ => exact lu_X2_4
  | 5, _ => exact lu_X2_5
  | 6, _ => exact lu_X2_6
  | k + 7, h => exact absurd h (by omega)
theorem lu_X3_0 : u_lay RX3 TX3 0 ∈ zTbl := zm1 45 rfl rfl
theorem lu_X3_1 : u_lay RX3 TX3 1 ∈ zTbl := zm1 47 rfl rfl
theorem lu_X3_2 : u_lay RX3 TX3 2 ∈ zTbl := zm1 49 rfl rfl
theorem lu_X3_3 : u_lay RX3 TX3 3 ∈ zTbl := zm1 51 rfl rfl
theorem lu_X3_4 : u_lay RX3 TX3 4 ∈ zTbl := zm1 53 rfl rfl
theorem lu_X3_5 : u_lay RX3 TX3 5 ∈ zTbl := zm1 55 rfl rfl
theorem lu_X3_6 : u_lay RX3 TX3 6 ∈ zTbl := zm1 57 rfl rfl
theorem lu_X3_7 : u_lay RX3 TX3 7 ∈ zTbl := zm1 59 rfl rfl
theorem lu_X3 : ∀ w ∈ u_ws RX3 TX3 8, w ∈ zTbl := by
  intro w hw
  obtain ⟨k, hk, rfl⟩ := List.mem_map.mp hw
  have hk := List.mem_range.mp hk
  match k, hk with
  | 0, _ => exact lu_X3_0
  | 1, _ => exact lu_X3_1
  | 2, _ => exact lu_X3_2
  | 3, _ => exact lu_X3_3
  | 4, _ => exact lu_X3_4
  | 5, _ => exact lu_X3_5
  | 6, _ => exact lu_X3_6
  | 7, _ => exact lu_X3_7
  | k + 8, h => exact absurd h (by omega)
theorem lu_X4_0 : u_lay RX4 TX4 0 ∈ zTbl := zm1 214 rfl rfl
theorem lu_X4_1 : u_lay RX4 TX4 1 ∈ zTbl := zm1 216 rfl rfl
theorem lu_X4_2 : u_lay RX4 TX4 2 ∈ zTbl := zm1 218 rfl rfl
theorem lu_X4_3 : u_lay RX4 TX4 3 ∈ zTbl := zm1 220 rfl rfl
theorem lu_X4_4 : u_lay RX4 TX4 4 ∈ zTbl := zm1 222 rfl rfl
theorem lu_X4_5 : u_lay RX4 TX4 5 ∈ zTbl := zm1 224 rfl rfl
theorem lu_X4_6 : u_lay RX4 TX4 6 ∈ zTbl := zm1 226 rfl rfl
theorem lu_X4_7 : u_lay RX4 TX4 7 ∈ zTbl := zm1 228 rfl rfl
theorem lu_X4 : ∀ w ∈ u_ws RX4 TX4 8, w ∈ zTbl := by
  intro w hw
  obtain ⟨k, hk, rfl⟩ := List.mem_map.mp hw
  have hk := List.mem_range.mp hk
  match k, hk with
  | 0, _ => exact lu_X4_0
  | 1, _ => exact lu_X4_1
  | 2, _ => exact lu_X4_2
  | 3, _ => exact lu_X4_3
  | 4, _ => exact lu_X4_4
  | 5, _ => exact lu_X4_5
  | 6, _ => exact lu_X4_6
  | 7, _ => exact lu_X4_7
  | k + 8, h => exact absurd h (by omega)
theorem lu_X5_0 : u_lay RX5 TX5 0 ∈ zTbl := zm1 105 rfl rfl
theorem lu_X5_1 : u_lay RX5 TX5 1 ∈ zTbl := zm1 107 rfl rfl
theorem lu_X5_2 : u_lay RX5 TX5 2 ∈ zTbl := zm1 109 rfl rfl
theorem lu_X5_3 : u_lay RX5 TX5 3 ∈ zTbl := zm1 111 rfl rfl
theorem lu_X5_4 : u_lay RX5 TX5 4 ∈ zTbl := zm1 113 rfl rfl
theorem lu_X5_5 : u_lay RX5 TX5 5 ∈ zTbl := zm1 115 rfl rfl
theorem lu_X5_6 : u_lay RX5 TX5 6 ∈ zTbl := zm1 117 rfl rfl
theorem lu_X5 : ∀ w ∈ u_ws RX5 TX5 7, w ∈ zTbl := by
  intro w hw
  obtain ⟨k, hk, rfl⟩ := List.mem_map.mp hw
  have hk := List.mem_range.mp hk
  match k, hk with
  | 0, _ => exact lu_X5_0
  | 1, _ => exact lu_X5_1
  | 2, _ => exact lu_X5_2
  | 3, _ => exact lu_X5_3
  | 4, _ => exact lu_X5_4
  | 5, _ => exact lu_X5_5
  | 6, _ => exact lu_X5_6
  | k + 7, h => exact absurd h (by omega)
theorem lu_X6_0 : u_lay RX6 TX6 0 ∈ zTbl := zm1 137 rfl rfl
theorem lu_X6_1 : u_lay RX6 TX6 1 ∈ zTbl := zm1 139 rfl rfl
theorem lu_X6_2 : u_lay RX6 TX6 2 ∈ zTbl := zm1 141 rfl rfl
theorem lu_X6 : ∀ w ∈ u_ws RX6 TX6 3, w ∈ zTbl := by
  intro w hw
  obtain ⟨k, hk, rfl⟩ := List.mem_map.mp hw
  have hk := List.mem_range.mp hk
  match k, hk with
  | 0, _ => exact lu_X6_0
  | 1, _ => exact lu_X6_1
  | 2, _ => exact lu_X6_2
  | k + 3, h => exact absurd h (by omega)
theorem lu_X7_0 : u_lay RX7 TX7 0 ∈ zTbl := zm2 2 rfl rfl
theorem lu_X7_1 : u_lay RX7 TX7 1 ∈ zTbl := zm2 4 rfl rfl
theorem lu_X7_2 : u_lay RX7 TX7 2 ∈ zTbl := zm2 6 rfl rfl
theorem lu_X7_3 : u_lay RX7 TX7 3 ∈ zTbl := zm2 8 rfl rfl
theorem lu_X7_4 : u_lay RX7 TX7 4 ∈ zTbl := zm2 10 rfl rfl
theorem lu_X7_5 : u_lay RX7 TX7 5 ∈ zTbl := zm2 12 rfl rfl
theorem lu_X7_6 : u_lay RX7 TX7 6 ∈ zTbl := zm2 14 rfl rfl
theorem lu_X7_7 : u_lay RX7 TX7 7 ∈ zTbl := zm2 16 rfl rfl
theorem lu_X7_8 : u_lay RX7 TX7 8 ∈ zTbl := zm2 18 rfl rfl
theorem lu_X7_9 : u_lay RX7 TX7 9 ∈ zTbl := zm2 20 rfl rfl
theorem lu_X7_10 : u_lay RX7 TX7 10 ∈ zTbl := zm2 22 rfl rfl
theorem lu_X7 : ∀ w ∈ u_ws RX7 TX7 11, w ∈ zTbl := by
  intro w hw
  obtain ⟨k, hk, rfl⟩ := List.mem_map.mp hw
  have hk := List.mem_range.mp hk
  match k, hk with
  | 0, _ => exact lu_X7_0
  | 1, _ => exact lu_X7_1
  | 2, _ => exact lu_X7_2
  | 3, _ => exact lu_X7_3
  | 4, _ => exact lu_X7_4
  | 5, _ => exact lu_X7_5
  | 6, _ => exact lu_X7_6
  | 7, _ => exact lu_X7_7
  | 8, _ => exact lu_X7_8
  | 9, _ => exact lu_X7_9
  | 10, _ => exact lu_X7_10
  | k + 11, h => exact absurd h (by omega)
theorem lu_X8_0 : u_lay RX8 TX8 0 ∈ zTbl := zm3 166 rfl rfl
theorem lu_X8_1 : u_lay RX8 TX8 1 ∈ zTbl := zm3 168 rfl rfl
theorem lu_X8_2 : u_lay RX8 TX8 2 ∈ zTbl := zm3 170 rfl rfl
theorem lu_X8_3 : u_lay RX8 TX8 3 ∈ zTbl := zm3 172 rfl rfl
theorem lu_X8_4 : u_lay RX8 TX8 4 ∈ zTbl := zm3 174 rfl rfl
theorem lu_X8_5 : u_lay RX8 TX8 5 ∈ zTbl := zm3 176 rfl rfl
theorem lu_X8_6 : u_lay RX8 TX8 6 ∈ zTbl := zm3 178 rfl rfl
theorem lu_X8_7 : u_lay RX8 TX8 7 ∈ zTbl := zm3 180 rfl rfl
theorem lu_X8_8 : u_lay RX8 TX8 8 ∈ zTbl := zm3 182 rfl rfl
theorem lu_X8_9 : u_lay RX8 TX8 9 ∈ zTbl := zm3 184 rfl rfl
theorem lu_X8_10 : u_lay RX8 TX8 10 ∈ zTbl := zm3 186 rfl rfl
theorem lu_X8_11 : u_lay RX8 TX8 11 ∈ zTbl := zm3 188 rfl rfl
theorem lu_X8_12 : u_lay RX8 TX8 12 ∈ zTbl := zm3 190 rfl rfl
theorem lu_X8_13 : u_lay RX8 TX8 13 ∈ zTbl := zm3 192 rfl rfl
theorem lu_X8_14 : u_lay RX8 TX8 14 ∈ zTbl := zm3 194 rfl rfl
theorem lu_X8_15 : u_lay RX8 TX8 15 ∈ zTbl := zm3 196 rfl rfl
theorem lu_X8_16 : u_lay RX8 TX8 16 ∈ zTbl := zm3 198 rfl rfl
theorem lu_X8_17 : u_lay RX8 TX8 17 ∈ zTbl := zm3 200 rfl rfl
theorem lu_X8_18 : u_lay RX8 TX8 18 ∈ zTbl := zm3 202 rfl rfl
theorem lu_X8_19 : u_lay RX8 TX8 19 ∈ zTbl := zm3 204 rfl rfl
theorem lu_X8_20 : u_lay RX8 TX8 20 ∈ zTbl := zm3 206 rfl rfl
theorem lu_X8_21 : u_lay RX8 TX8 21 ∈ zTbl := zm3 208 rfl rfl
theorem lu_X8_22 : u_lay RX8 TX8 22 ∈ zTbl := zm3 210 rfl rfl
theorem lu_X8_23 : u_lay RX8 TX8 23 ∈ zTbl := zm3 212 rfl rfl
theorem lu_X8_24 : u_lay RX8 TX8 24 ∈ zTbl := zm3 214 rfl rfl
theorem lu_X8_25 : u_lay RX8 TX8 25 ∈ zTbl := zm3 216 rfl rfl
theorem lu_X8_26 : u_lay RX8 TX8 26 ∈ zTbl := zm3 218 rfl rfl
theorem lu_X8_27 : u_lay RX8 TX8 27 ∈ zTbl := zm3 220 rfl rfl
theorem lu_X8_28 : u_lay RX8 TX8 28 ∈ zTbl := zm3 222 rfl rfl
theorem lu_X8_29 : u_lay RX8 TX8 29 ∈ zTbl := zm3 224 rfl rfl
theorem lu_X8_30 : u_lay RX8 TX8 30 ∈ zTbl := zm3 226 rfl rfl
theorem lu_X8_31 : u_lay RX8 TX8 31 ∈ zTbl := zm3 228 rfl rfl
theorem lu_X8 : ∀ w ∈ u_ws RX8 TX8 32, w ∈ zTbl := by
  intro w hw
  obtain ⟨k, hk, rfl⟩ := List.mem_map.mp hw
  have hk := List.mem_range.mp hk
  match k, hk with
  | 0, _ => exact lu_X8_0
  | 1, _ => exact lu_X8_1
  | 2, _ => exact lu_X8_2
  | 3, _ => exact lu_X8_3
  | 4, _ => exact lu_X8_4
  | 5, _ => exact lu_X8_5
  | 6, _ => exact lu_X8_6
  | 7, _ => exact lu_X8_7
  | 8, _ => exact lu_X8_8
  | 9, _ => exact lu_X8_9
  | 10, _ => exact lu_X8_10
  | 11, _ => exact lu_X8_11
  | 12, _ => exact lu_X8_12
  | 13, _ => exact lu_X8_13
  | 14, _ => exact lu_X8_14
  | 15, _ => exact lu_X8_15
  | 16, _ => exact lu_X8_16
  | 17, _ => exact lu_X8_17
  | 18, _ => exact lu_X8_18
  | 19, _ => exact lu_X8_19
  | 20, _ => exact lu_X8_20
  | 21, _ => exact lu_X8_21
  | 22, _ => exact lu_X8_22
  | 23, _ => exact lu_X8_23
  | 24, _ => exact lu_X8_24
  | 25, _ => exact lu_X8_25
  | 26, _ => exact lu_X8_26
  | 27, _ => exact lu_X8_27
  | 28, _ => exact lu_X8_28
  | 29, _ => exact lu_X8_29
  | 30, _ => exact lu_X8_30
  | 31, _ => exact lu_X8_31
  | k + 32, h => exact absurd h (by omega)
theorem ll_X1_36 : Cond.methodLink RX1 36 yX6_resistancesAsked ∈ zTbl := zm3 6 rfl rfl
theorem ll_X1_42 : Cond.methodLink RX1 42 yX6_resistanceAsked ∈ zTbl := zm3 7 rfl rfl
theorem ll_X1_46 : Cond.methodLink RX1 46 yX3_sumOf ∈ zTbl := zm3 8 rfl rfl
theorem ll_X1_50 : Cond.methodLink RX1 50 yX1_gatherOf ∈ zTbl := zm3 9 rfl rfl
theorem ll_X1_61 : Cond.methodLink RX1 61 yX3_sixteenForces ∈ zTbl := zm3 14 rfl rfl
theorem ll_X1_65 : Cond.methodLink RX1 65 yX5_cornerReached ∈ zTbl := zm3 15 rfl rfl
theorem ll_X1_71 : Cond.methodLink RX1 71 yX5_ticksAt ∈ zTbl := zm3 16 rfl rfl
theorem ll_X1_75 : Cond.methodLink RX1 75 Lib.Math.max.name ∈ zTbl := zm3 20 rfl rfl
theorem ll_X1_80 : Cond.methodLink RX1 80 yX1_rowOf ∈ zTbl := zm3 23 rfl rfl
theorem ll_X1_86 : Cond.methodLink RX1 86 Lib.MathLoose.max_long.x ∈ zTbl := zm3 33 rfl rfl
theorem ll_X1_92 : Cond.methodLink RX1 92 yX1_isMet ∈ zTbl := zm3 109 rfl rfl
theorem ll_X2_23 : Cond.methodLink RX2 23 yX2_note ∈ zTbl := zm2 196 rfl rfl
theorem ll_X2_36 : Cond.methodLink RX2 36 yX2_lookAtLine ∈ zTbl := zm2 200 rfl rfl
theorem ll_X2_40 : Cond.methodLink RX2 40 yX3_currentByLoads ∈ zTbl := zm2 233 rfl rfl
theorem ll_X2_44 : Cond.methodLink RX2 44 yX5_cornerReached ∈ zTbl := zm2 223 rfl rfl
theorem ll_X2_63 : Cond.methodLink RX2 63 yX5_lastOf ∈ zTbl := zm2 204 rfl rfl
theorem ll_X2_66 : Cond.methodLink RX2 66 yX2_lookAtFaults ∈ zTbl := zm2 205 rfl rfl
theorem ll_X2_70 : Cond.methodLink RX2 70 yX6_resistancesAsked ∈ zTbl := zm2 209 rfl rfl
theorem ll_X2_76 : Cond.methodLink RX2 76 yX6_resistanceAsked ∈ zTbl := zm2 213 rfl rfl
theorem ll_X2_79 : Cond.methodLink RX2 79 yX3_sumOf ∈ zTbl := zm2 217 rfl rfl
theorem ll_X2_83 : Cond.methodLink RX2 83 yX2_isUnseen ∈ zTbl := zm2 218 rfl rfl
theorem ll_X2_87 : Cond.methodLink RX2 87 yX2_isOutOfOrder ∈ zTbl := zm2 227 rfl rfl
theorem ll_X2_90 : Cond.methodLink RX2 90 yX3_sixteenForces ∈ zTbl := zm2 222 rfl rfl
theorem ll_X2_98 : Cond.methodLink RX2 98 yX5_waitAt ∈ zTbl := zm2 232 rfl rfl
theorem ll_X3_37 : Cond.methodLink RX3 37 yX3_isLine ∈ zTbl := zm2 138 rfl rfl
theorem ll_X4_42 : Cond.methodLink RX4 42 arraycopyName ∈ zTbl := zm3 99 rfl rfl
theorem ll_X4_48 : Cond.methodLink RX4 48 yX4_lowestThatCanGo ∈ zTbl := zm3 100 rfl rfl
theorem ll_X4_59 : Cond.methodLink RX4 59 yX1_areMetAround ∈ zTbl := zm3 105 rfl rfl
theorem ll_X5_42 : Cond.methodLink RX5 42 yJ6_numberOfLeadingZeros_0f7a4 ∈ zTbl := zm2 109 rfl rfl
theorem ll_X5_48 : Cond.methodLink RX5 48 yX0_cornerReached ∈ zTbl := zm2 163 rfl rfl
theorem ll_X5_55 : Cond.methodLink RX5 55 yX5_isThere ∈ zTbl := zm3 41 rfl rfl
theorem ll_X7_100 : Cond.methodLink RX7 100 yX3_isLine ∈ zTbl := zm2 61 rfl rfl
theorem ll_X7_103 : Cond.methodLink RX7 103 yX5_place ∈ zTbl := zm2 65 rfl rfl
theorem ll_X7_107 : Cond.methodLink RX7 107 yX5_isThere ∈ zTbl := zm2 73 rfl rfl
theorem ll_X7_110 : Cond.methodLink RX7 110 yX5_takeAway ∈ zTbl := zm2 80 rfl rfl
theorem ll_X7_117 : Cond.methodLink RX7 117 yX5_setFailing ∈ zTbl := zm2 92 rfl rfl
theorem ll_X7_137 : Cond.methodLink RX7 137 yX5_lastOf ∈ zTbl := zm2 105 rfl rfl
theorem ll_X7_141 : Cond.methodLink RX7 141 yX7_lineOrNone ∈ zTbl := zm2 113 rfl rfl
theorem ll_X7_144 : Cond.methodLink RX7 144 yX7_nextOf ∈ zTbl := zm2 116 rfl rfl
theorem ll_X7_147 : Cond.methodLink RX7 147 yX3_currentByLoads ∈ zTbl := zm2 120 rfl rfl
theorem ll_X7_150 : Cond.methodLink RX7 150 yX7_breakerOf ∈ zTbl := zm2 125 rfl rfl
theorem ll_X7_153 : Cond.methodLink RX7 153 yX3_isFault ∈ zTbl := zm2 134 rfl rfl
theorem ll_X7_158 : Cond.methodLink RX7 158 yX3_sumOf ∈ zTbl := zm2 141 rfl rfl
theorem ll_X7_164 : Cond.methodLink RX7 164 yX3_sixteenForces ∈ zTbl := zm2 147 rfl rfl
theorem ll_X7_168 : Cond.methodLink RX7 168 yX3_isOnWay ∈ zTbl := zm2 155 rfl rfl
theorem ll_X7_172 : Cond.methodLink RX7 172 yX5_waitAt ∈ zTbl := zm2 159 rfl rfl
theorem ll_X7_176 : Cond.methodLink RX7 176 yX7_clearTick ∈ zTbl := zm2 172 rfl rfl
theorem ll_X7_180 : Cond.methodLink RX7 180 yX7_openersAt ∈ zTbl := zm2 180 rfl rfl
theorem ll_X7_187 : Cond.methodLink RX7 187 yX2_look ∈ zTbl := zm2 192 rfl rfl
theorem ll_X7_201 : Cond.methodLink RX7 201 yX7_findLeastDials ∈ zTbl := zm2 238 rfl rfl
theorem ll_X7_205 : Cond.methodLink RX7 205 arraycopyName ∈ zTbl := zm3 26 rfl rfl
theorem ll_X7_211 : Cond.methodLink RX7 211 yX5_sumOfDials ∈ zTbl := zm3 37 rfl rfl
theorem ll_X7_215 : Cond.methodLink RX7 215 yX7_arcOf ∈ zTbl := zm3 46 rfl rfl
theorem ll_X7_218 : Cond.methodLink RX7 218 yX7_worstOf ∈ zTbl := zm3 54 rfl rfl
theorem ll_X7_222 : Cond.methodLink RX7 222 Lib.MathLoose.max_long.x ∈ zTbl := zm3 60 rfl rfl
theorem ll_X7_230 : Cond.methodLink RX7 230 yX7_growthOf ∈ zTbl := zm3 66 rfl rfl
theorem ll_X7_233 : Cond.methodLink RX7 233 Lib.MathLoose.min_long.x ∈ zTbl := zm3 76 rfl rfl
theorem ll_X7_239 : Cond.methodLink RX7 239 yX5_keepDialsAsGoal ∈ zTbl := zm3 83 rfl rfl
theorem ll_X7_242 : Cond.methodLink RX7 242 yX4_gatherLines ∈ zTbl := zm3 91 rfl rfl
theorem ll_X7_245 : Cond.methodLink RX7 245 yX1_gather ∈ zTbl := zm3 2 rfl rfl
theorem ll_X7_248 : Cond.methodLink RX7 248 yX4_find ∈ zTbl := zm3 95 rfl rfl
theorem ll_X7_260 : Cond.methodLink RX7 260 yJ6_bitCount_0f7a4 ∈ zTbl := zm3 121 rfl rfl
theorem ll_X7_274 : Cond.methodLink RX7 274 yX7_holds ∈ zTbl := zm2 129 rfl rfl
theorem ll_X7_280 : Cond.methodLink RX7 280 yX7_ableOn ∈ zTbl := zm2 176 rfl rfl
theorem ll_X7_283 : Cond.methodLink RX7 283 yX6_resistancesAsked ∈ zTbl := zm3 58 rfl rfl
theorem ll_X7_286 : Cond.methodLink RX7 286 yX6_resistanceAsked ∈ zTbl := zm3 59 rfl rfl
theorem ll_X7_289 : Cond.methodLink RX7 289 yX5_leastTenthsSeen ∈ zTbl := zm3 70 rfl rfl
theorem ll_X7_294 : Cond.methodLink RX7 294 yX1_leastDial ∈ zTbl := zm3 29 rfl rfl
theorem ll_X7_62 : Cond.methodLink RX7 62 yX7_isWithin ∈ zTbl := zm2 29 rfl rfl
theorem ll_X7_77 : Cond.methodLink RX7 77 yX3_isKnot ∈ zTbl := zm2 36 rfl rfl
theorem ll_X7_84 : Cond.methodLink RX7 84 yX3_hang ∈ zTbl := zm2 40 rfl rfl
theorem ll_X7_95 : Cond.methodLink RX7 95 yX0_addCorner ∈ zTbl := zm2 52 rfl rfl
theorem ll_X8_105 : Cond.methodLink RX8 105 yX8_isOnWay ∈ zTbl := zm4 63 rfl rfl
theorem ll_X8_109 : Cond.methodLink RX8 109 yX8_sum ∈ zTbl := zm4 49 rfl rfl
theorem ll_X8_113 : Cond.methodLink RX8 113 yX8_waitBy ∈ zTbl := zm4 67 rfl rfl
theorem ll_X8_117 : Cond.methodLink RX8 117 yX8_isFault ∈ zTbl := zm4 44 rfl rfl
theorem ll_X8_124 : Cond.methodLink RX8 124 yX8_waitAt ∈ zTbl := zm4 59 rfl rfl
theorem ll_X8_128 : Cond.methodLink RX8 128 yX8_cleared ∈ zTbl := zm4 76 rfl rfl
theorem ll_X8_134 : Cond.methodLink RX8 134 yX8_arc ∈ zTbl := zm4 93 rfl rfl
theorem ll_X8_137 : Cond.methodLink RX8 137 yX8_keeper ∈ zTbl := zm4 98 rfl rfl
theorem ll_X8_141 : Cond.methodLink RX8 141 yX8_next ∈ zTbl := zm4 102 rfl rfl
theorem ll_X8_144 : Cond.methodLink RX8 144 yX8_loadOf ∈ zTbl := zm4 106 rfl rfl
theorem ll_X8_159 : Cond.methodLink RX8 159 yX8_tells ∈ zTbl := zm4 122 rfl rfl
theorem ll_X8_163 : Cond.methodLink RX8 163 yX8_tooShort ∈ zTbl := zm4 126 rfl rfl
theorem ll_X8_166 : Cond.methodLink RX8 166 yX8_isLineRight ∈ zTbl := zm4 118 rfl rfl
theorem ll_X8_169 : Cond.methodLink RX8 169 yX8_isRight ∈ zTbl := zm4 114 rfl rfl
theorem ll_X8_173 : Cond.methodLink RX8 173 yX8_raises ∈ zTbl := zm4 134 rfl rfl
theorem ll_X8_185 : Cond.methodLink RX8 185 yX8_take ∈ zTbl := zm4 151 rfl rfl
theorem ll_X8_83 : Cond.methodLink RX8 83 yX8_isIn ∈ zTbl := zm3 237 rfl rfl
theorem ll_X8_87 : Cond.methodLink RX8 87 yX8_isLine ∈ zTbl := zm4 16 rfl rfl
theorem ll_X8_95 : Cond.methodLink RX8 95 yX8_isBreaker ∈ zTbl := zm4 24 rfl rfl
theorem lc_J6_264 : Cond.constant RJ6 264 (65536 : Int32) ∈ zTbl := zm2 112 rfl rfl
theorem lc_J6_265 : Cond.constant RJ6 265 (1431655765 : Int32) ∈ zTbl := zm3 124 rfl rfl
theorem lc_J6_266 : Cond.constant RJ6 266 (858993459 : Int32) ∈ zTbl := zm3 125 rfl rfl
theorem lc_J6_267 : Cond.constant RJ6 267 (252645135 : Int32) ∈ zTbl := zm3 126 rfl rfl
theorem lc_X7_121 : Cond.constant RX7 121 (100000 : Int32) ∈ zTbl := zm2 100 rfl rfl
theorem lc_X8_22 : Cond.constant RX8 22 (100000 : Int32) ∈ zTbl := zm3 133 rfl rfl
theorem lc_X0_26 : Cond.constantLong RX0 26 (10 : Int64) ∈ zTbl := zm2 167 rfl rfl
theorem lc_X3_49 : Cond.constantLong RX3 49 (16 : Int64) ∈ zTbl := zm2 145 rfl rfl
theorem lc_X5_62 : Cond.constantLong RX5 62 (-1 : Int64) ∈ zTbl := zm3 74 rfl rfl
theorem lc_X7_156 : Cond.constantLong RX7 156 (-1 : Int64) ∈ zTbl := zm2 140 rfl rfl
theorem lc_X7_162 : Cond.constantLong RX7 162 (100 : Int64) ∈ zTbl := zm2 146 rfl rfl
theorem lc_X7_228 : Cond.constantLong RX7 228 (100000 : Int64) ∈ zTbl := zm3 65 rfl rfl
theorem lc_X7_292 : Cond.constantLong RX7 292 (10 : Int64) ∈ zTbl := zm3 75 rfl rfl
theorem lc_X7_298 : Cond.constantLong RX7 298 (40 : Int64) ∈ zTbl := zm3 36 rfl rfl
theorem lc_X8_101 : Cond.constantLong RX8 101 (16 : Int64) ∈ zTbl := zm4 53 rfl rfl
theorem lc_X8_103 : Cond.constantLong RX8 103 (10 : Int64) ∈ zTbl := zm4 71 rfl rfl
theorem lc_X8_120 : Cond.constantLong RX8 120 (-1 : Int64) ∈ zTbl := zm4 48 rfl rfl
theorem lc_X8_122 : Cond.constantLong RX8 122 (1600 : Int64) ∈ zTbl := zm4 54 rfl rfl
theorem lc_X8_132 : Cond.constantLong RX8 132 (256 : Int64) ∈ zTbl := zm4 88 rfl rfl
theorem lc_X8_177 : Cond.constantLong RX8 177 (100 : Int64) ∈ zTbl := zm4 142 rfl rfl
theorem lf_X0_15 : zFL RX0 15 0 2 := ⟨RX0, TX0, 3, rfl, by decide, lu_X0, zm1 80 rfl rfl⟩
theorem lf_X0_18 : zFL RX0 18 0 0 := ⟨RX0, TX0, 3, rfl, by decide, lu_X0, zm1 76 rfl rfl⟩
theorem lf_X0_9 : zFL RX0 9 0 1 := ⟨RX0, TX0, 3, rfl, by decide, lu_X0, zm1 78 rfl rfl⟩
theorem lf_X1_15 : zFL RX1 15 1 4 := ⟨RX1, TX1, 5, rfl, by decide, lu_X1, zm1 186 rfl rfl⟩
theorem lf_X1_18 : zFL RX1 18 1 0 := ⟨RX1, TX1, 5, rfl, by decide, lu_X1, zm1 182 rfl rfl⟩
theorem lf_X1_22 : zFL RX1 22 1 1 := ⟨RX1, TX1, 5, rfl, by decide, lu_X1, zm1 183 rfl rfl⟩
theorem lf_X1_26 : zFL RX1 26 1 2 := ⟨RX1, TX1, 5, rfl, by decide, lu_X1, zm1 184 rfl rfl⟩
theorem lf_X1_30 : zFL RX1 30 3 0 := ⟨RX3, TX3, 8, rfl, by decide, lu_X3, zm1 29 rfl rfl⟩
theorem lf_X1_54 : zFL RX1 54 3 6 := ⟨RX3, TX3, 8, rfl, by decide, lu_X3, zm1 40 rfl rfl⟩
theorem lf_X1_83 : zFL RX1 83 6 0 := ⟨RX6, TX6, 3, rfl, by decide, lu_X6, zm1 128 rfl rfl⟩
theorem lf_X1_89 : zFL RX1 89 6 1 := ⟨RX6, TX6, 3, rfl, by decide, lu_X6, zm1 132 rfl rfl⟩
theorem lf_X1_9 : zFL RX1 9 1 3 := ⟨RX1, TX1, 5, rfl, by decide, lu_X1, zm1 185 rfl rfl⟩
theorem lf_X2_101 : zFL RX2 101 6 1 := ⟨RX6, TX6, 3, rfl, by decide, lu_X6, zm1 133 rfl rfl⟩
theorem lf_X2_104 : zFL RX2 104 6 0 := ⟨RX6, TX6, 3, rfl, by decide, lu_X6, zm1 129 rfl rfl⟩
theorem lf_X2_15 : zFL RX2 15 2 1 := ⟨RX2, TX2, 7, rfl, by decide, lu_X2, zm1 151 rfl rfl⟩
theorem lf_X2_19 : zFL RX2 19 2 2 := ⟨RX2, TX2, 7, rfl, by decide, lu_X2, zm1 152 rfl rfl⟩
theorem lf_X2_27 : zFL RX2 27 3 0 := ⟨RX3, TX3, 8, rfl, by decide, lu_X3, zm1 28 rfl rfl⟩
theorem lf_X2_33 : zFL RX2 33 2 3 := ⟨RX2, TX2, 7, rfl, by decide, lu_X2, zm1 153 rfl rfl⟩
theorem lf_X2_59 : zFL RX2 59 3 6 := ⟨RX3, TX3, 8, rfl, by decide, lu_X3, zm1 41 rfl rfl⟩
theorem lf_X2_9 : zFL RX2 9 2 0 := ⟨RX2, TX2, 7, rfl, by decide, lu_X2, zm1 150 rfl rfl⟩
theorem lf_X3_15 : zFL RX3 15 3 1 := ⟨RX3, TX3, 8, rfl, by decide, lu_X3, zm1 31 rfl rfl⟩
theorem lf_X3_18 : zFL RX3 18 3 2 := ⟨RX3, TX3, 8, rfl, by decide, lu_X3, zm1 33 rfl rfl⟩
theorem lf_X3_21 : zFL RX3 21 3 3 := ⟨RX3, TX3, 8, rfl, by decide, lu_X3, zm1 35 rfl rfl⟩
theorem lf_X3_25 : zFL RX3 25 3 4 := ⟨RX3, TX3, 8, rfl, by decide, lu_X3, zm1 37 rfl rfl⟩
theorem lf_X3_28 : zFL RX3 28 3 5 := ⟨RX3, TX3, 8, rfl, by decide, lu_X3, zm1 38 rfl rfl⟩
theorem lf_X3_31 : zFL RX3 31 3 6 := ⟨RX3, TX3, 8, rfl, by decide, lu_X3, zm1 39 rfl rfl⟩
theorem lf_X3_34 : zFL RX3 34 3 7 := ⟨RX3, TX3, 8, rfl, by decide, lu_X3, zm1 43 rfl rfl⟩
theorem lf_X3_9 : zFL RX3 9 3 0 := ⟨RX3, TX3, 8, rfl, by decide, lu_X3, zm1 27 rfl rfl⟩
theorem lf_X4_15 : zFL RX4 15 4 5 := ⟨RX4, TX4, 8, rfl, by decide, lu_X4, zm1 211 rfl rfl⟩
theorem lf_X4_18 : zFL RX4 18 4 6 := ⟨RX4, TX4, 8, rfl, by decide, lu_X4, zm1 212 rfl rfl⟩
theorem lf_X4_21 : zFL RX4 21 4 7 := ⟨RX4, TX4, 8, rfl, by decide, lu_X4, zm1 213 rfl rfl⟩
theorem lf_X4_24 : zFL RX4 24 4 0 := ⟨RX4, TX4, 8, rfl, by decide, lu_X4, zm1 204 rfl rfl⟩
theorem lf_X4_28 : zFL RX4 28 4 1 := ⟨RX4, TX4, 8, rfl, by decide, lu_X4, zm1 205 rfl rfl⟩
theorem lf_X4_32 : zFL RX4 32 4 4 := ⟨RX4, TX4, 8, rfl, by decide, lu_X4, zm1 210 rfl rfl⟩
theorem lf_X4_36 : zFL RX4 36 5 6 := ⟨RX5, TX5, 7, rfl, by decide, lu_X5, zm1 103 rfl rfl⟩
theorem lf_X4_41 : zFL RX4 41 5 4 := ⟨RX5, TX5, 7, rfl, by decide, lu_X5, zm1 98 rfl rfl⟩
theorem lf_X4_52 : zFL RX4 52 4 2 := ⟨RX4, TX4, 8, rfl, by decide, lu_X4, zm1 206 rfl rfl⟩
theorem lf_X4_9 : zFL RX4 9 4 3 := ⟨RX4, TX4, 8, rfl, by decide, lu_X4, zm1 208 rfl rfl⟩
theorem lf_X5_11 : zFL RX5 11 5 0 := ⟨RX5, TX5, 7, rfl, by decide, lu_X5, zm1 89 rfl rfl⟩
theorem lf_X5_17 : zFL RX5 17 5 3 := ⟨RX5, TX5, 7, rfl, by decide, lu_X5, zm1 95 rfl rfl⟩
theorem lf_X5_21 : zFL RX5 21 5 4 := ⟨RX5, TX5, 7, rfl, by decide, lu_X5, zm1 97 rfl rfl⟩
theorem lf_X5_24 : zFL RX5 24 5 5 := ⟨RX5, TX5, 7, rfl, by decide, lu_X5, zm1 100 rfl rfl⟩
theorem lf_X5_27 : zFL RX5 27 5 6 := ⟨RX5, TX5, 7, rfl, by decide, lu_X5, zm1 102 rfl rfl⟩
theorem lf_X5_31 : zFL RX5 31 5 1 := ⟨RX5, TX5, 7, rfl, by decide, lu_X5, zm1 91 rfl rfl⟩
theorem lf_X5_39 : zFL RX5 39 5 2 := ⟨RX5, TX5, 7, rfl, by decide, lu_X5, zm1 93 rfl rfl⟩
theorem lf_X5_52 : zFL RX5 52 0 2 := ⟨RX0, TX0, 3, rfl, by decide, lu_X0, zm1 81 rfl rfl⟩
theorem lf_X5_59 : zFL RX5 59 0 0 := ⟨RX0, TX0, 3, rfl, by decide, lu_X0, zm1 77 rfl rfl⟩
theorem lf_X5_64 : zFL RX5 64 0 1 := ⟨RX0, TX0, 3, rfl, by decide, lu_X0, zm1 79 rfl rfl⟩
theorem lf_X6_19 : zFL RX6 19 6 2 := ⟨RX6, TX6, 3, rfl, by decide, lu_X6, zm1 135 rfl rfl⟩
theorem lf_X7_10 : zFL RX7 10 7 0 := ⟨RX7, TX7, 11, rfl, by decide, lu_X7, zm1 231 rfl rfl⟩
theorem lf_X7_114 : zFL RX7 114 5 4 := ⟨RX5, TX5, 7, rfl, by decide, lu_X5, zm1 99 rfl rfl⟩
theorem lf_X7_122 : zFL RX7 122 6 0 := ⟨RX6, TX6, 3, rfl, by decide, lu_X6, zm1 130 rfl rfl⟩
theorem lf_X7_125 : zFL RX7 125 6 1 := ⟨RX6, TX6, 3, rfl, by decide, lu_X6, zm1 134 rfl rfl⟩
theorem lf_X7_128 : zFL RX7 128 6 2 := ⟨RX6, TX6, 3, rfl, by decide, lu_X6, zm1 136 rfl rfl⟩
theorem lf_X7_131 : zFL RX7 131 3 3 := ⟨RX3, TX3, 8, rfl, by decide, lu_X3, zm1 36 rfl rfl⟩
theorem lf_X7_134 : zFL RX7 134 3 6 := ⟨RX3, TX3, 8, rfl, by decide, lu_X3, zm1 42 rfl rfl⟩
theorem lf_X7_184 : zFL RX7 184 7 10 := ⟨RX7, TX7, 11, rfl, by decide, lu_X7, zm2 1 rfl rfl⟩
theorem lf_X7_19 : zFL RX7 19 7 1 := ⟨RX7, TX7, 11, rfl, by decide, lu_X7, zm1 232 rfl rfl⟩
theorem lf_X7_190 : zFL RX7 190 2 3 := ⟨RX2, TX2, 7, rfl, by decide, lu_X2, zm1 154 rfl rfl⟩
theorem lf_X7_193 : zFL RX7 193 2 4 := ⟨RX2, TX2, 7, rfl, by decide, lu_X2, zm1 156 rfl rfl⟩
theorem lf_X7_196 : zFL RX7 196 2 5 := ⟨RX2, TX2, 7, rfl, by decide, lu_X2, zm1 158 rfl rfl⟩
theorem lf_X7_198 : zFL RX7 198 2 6 := ⟨RX2, TX2, 7, rfl, by decide, lu_X2, zm1 160 rfl rfl⟩
theorem lf_X7_236 : zFL RX7 236 7 8 := ⟨RX7, TX7, 11, rfl, by decide, lu_X7, zm1 239 rfl rfl⟩
theorem lf_X7_251 : zFL RX7 251 4 2 := ⟨RX4, TX4, 8, rfl, by decide, lu_X4, zm1 207 rfl rfl⟩
theorem lf_X7_254 : zFL RX7 254 4 3 := ⟨RX4, TX4, 8, rfl, by decide, lu_X4, zm1 209 rfl rfl⟩
theorem lf_X7_257 : zFL RX7 257 5 1 := ⟨RX5, TX5, 7, rfl, by decide, lu_X5, zm1 92 rfl rfl⟩
theorem lf_X7_26 : zFL RX7 26 7 2 := ⟨RX7, TX7, 11, rfl, by decide, lu_X7, zm1 233 rfl rfl⟩
theorem lf_X7_265 : zFL RX7 265 5 3 := ⟨RX5, TX5, 7, rfl, by decide, lu_X5, zm1 96 rfl rfl⟩
theorem lf_X7_268 : zFL RX7 268 5 5 := ⟨RX5, TX5, 7, rfl, by decide, lu_X5, zm1 101 rfl rfl⟩
theorem lf_X7_271 : zFL RX7 271 5 2 := ⟨RX5, TX5, 7, rfl, by decide, lu_X5, zm1 94 rfl rfl⟩
theorem lf_X7_277 : zFL RX7 277 5 6 := ⟨RX5, TX5, 7, rfl, by decide, lu_X5, zm1 104 rfl rfl⟩
theorem lf_X7_35 : zFL RX7 35 7 3 := ⟨RX7, TX7, 11, rfl, by decide, lu_X7, zm1 234 rfl rfl⟩
theorem lf_X7_42 : zFL RX7 42 7 4 := ⟨RX7, TX7, 11, rfl, by decide, lu_X7, zm1 235 rfl rfl⟩
theorem lf_X7_51 : zFL RX7 51 7 5 := ⟨RX7, TX7, 11, rfl, by decide, lu_X7, zm1 236 rfl rfl⟩
theorem lf_X7_55 : zFL RX7 55 7 6 := ⟨RX7, TX7, 11, rfl, by decide, lu_X7, zm1 237 rfl rfl⟩
theorem lf_X7_59 : zFL RX7 59 7 7 := ⟨RX7, TX7, 11, rfl, by decide, lu_X7, zm1 238 rfl rfl⟩
theorem lf_X7_66 : zFL RX7 66 3 1 := ⟨RX3, TX3, 8, rfl, by decide, lu_X3, zm1 32 rfl rfl⟩
theorem lf_X7_70 : zFL RX7 70 3 2 := ⟨RX3, TX3, 8, rfl, by decide, lu_X3, zm1 34 rfl rfl⟩
theorem lf_X7_73 : zFL RX7 73 7 9 := ⟨RX7, TX7, 11, rfl, by decide, lu_X7, zm2 0 rfl rfl⟩
theorem lf_X7_81 : zFL RX7 81 3 0 := ⟨RX3, TX3, 8, rfl, by decide, lu_X3, zm1 30 rfl rfl⟩
theorem lf_X7_88 : zFL RX7 88 3 7 := ⟨RX3, TX3, 8, rfl, by decide, lu_X3, zm1 44 rfl rfl⟩
theorem lf_X7_91 : zFL RX7 91 5 0 := ⟨RX5, TX5, 7, rfl, by decide, lu_X5, zm1 90 rfl rfl⟩
theorem lf_X8_13 : zFL RX8 13 8 1 := ⟨RX8, TX8, 32, rfl, by decide, lu_X8, zm3 135 rfl rfl⟩
theorem lf_X8_147 : zFL RX8 147 8 24 := ⟨RX8, TX8, 32, rfl, by decide, lu_X8, zm3 158 rfl rfl⟩
theorem lf_X8_150 : zFL RX8 150 8 25 := ⟨RX8, TX8, 32, rfl, by decide, lu_X8, zm3 159 rfl rfl⟩
theorem lf_X8_153 : zFL RX8 153 8 26 := ⟨RX8, TX8, 32, rfl, by decide, lu_X8, zm3 160 rfl rfl⟩
theorem lf_X8_156 : zFL RX8 156 8 27 := ⟨RX8, TX8, 32, rfl, by decide, lu_X8, zm3 161 rfl rfl⟩
theorem lf_X8_16 : zFL RX8 16 8 2 := ⟨RX8, TX8, 32, rfl, by decide, lu_X8, zm3 136 rfl rfl⟩
theorem lf_X8_179 : zFL RX8 179 8 17 := ⟨RX8, TX8, 32, rfl, by decide, lu_X8, zm3 151 rfl rfl⟩
theorem lf_X8_182 : zFL RX8 182 8 30 := ⟨RX8, TX8, 32, rfl, by decide, lu_X8, zm3 164 rfl rfl⟩
theorem lf_X8_189 : zFL RX8 189 8 23 := ⟨RX8, TX8, 32, rfl, by decide, lu_X8, zm3 157 rfl rfl⟩
theorem lf_X8_19 : zFL RX8 19 8 3 := ⟨RX8, TX8, 32, rfl, by decide, lu_X8, zm3 137 rfl rfl⟩
theorem lf_X8_23 : zFL RX8 23 8 4 := ⟨RX8, TX8, 32, rfl, by decide, lu_X8, zm3 138 rfl rfl⟩
theorem lf_X8_26 : zFL RX8 26 8 6 := ⟨RX8, TX8, 32, rfl, by decide, lu_X8, zm3 140 rfl rfl⟩
theorem lf_X8_30 : zFL RX8 30 8 7 := ⟨RX8, TX8, 32, rfl, by decide, lu_X8, zm3 141 rfl rfl⟩
theorem lf_X8_33 : zFL RX8 33 8 8 := ⟨RX8, TX8, 32, rfl, by decide, lu_X8, zm3 142 rfl rfl⟩
theorem lf_X8_36 : zFL RX8 36 8 9 := ⟨RX8, TX8, 32, rfl, by decide, lu_X8, zm3 143 rfl rfl⟩
theorem lf_X8_39 : zFL RX8 39 8 10 := ⟨RX8, TX8, 32, rfl, by decide, lu_X8, zm3 144 rfl rfl⟩
theorem lf_X8_42 : zFL RX8 42 8 11 := ⟨RX8, TX8, 32, rfl, by decide, lu_X8, zm3 145 rfl rfl⟩
theorem lf_X8_45 : zFL RX8 45 8 12 := ⟨RX8, TX8, 32, rfl, by decide, lu_X8, zm3 146 rfl rfl⟩
theorem lf_X8_49 : zFL RX8 49 8 13 := ⟨RX8, TX8, 32, rfl, by decide, lu_X8, zm3 147 rfl rfl⟩
theorem lf_X8_52 : zFL RX8 52 8 14 := ⟨RX8, TX8, 32, rfl, by decide, lu_X8, zm3 148 rfl rfl⟩
theorem lf_X8_55 : zFL RX8 55 8 15 := ⟨RX8, TX8, 32, rfl, by decide, lu_X8, zm3 149 rfl rfl⟩
theorem lf_X8_58 : zFL RX8 58 8 16 := ⟨RX8, TX8, 32, rfl, by decide, lu_X8, zm3 150 rfl rfl⟩
theorem lf_X8_61 : zFL RX8 61 8 18 := ⟨RX8, TX8, 32, rfl, by decide, lu_X8, zm3 152 rfl rfl⟩
theorem lf_X8_64 : zFL RX8 64 8 20 := ⟨RX8, TX8, 32, rfl, by decide, lu_X8, zm3 154 rfl rfl⟩
theorem lf_X8_67 : zFL RX8 67 8 21 := ⟨RX8, TX8, 32, rfl, by decide, lu_X8, zm3 155 rfl rfl⟩
theorem lf_X8_7 : zFL RX8 7 8 0 := ⟨RX8, TX8, 32, rfl, by decide, lu_X8, zm3 134 rfl rfl⟩
theorem lf_X8_70 : zFL RX8 70 8 22 := ⟨RX8, TX8, 32, rfl, by decide, lu_X8, zm3 156 rfl rfl⟩
theorem lf_X8_73 : zFL RX8 73 8 28 := ⟨RX8, TX8, 32, rfl, by decide, lu_X8, zm3 162 rfl rfl⟩
theorem lf_X8_76 : zFL RX8 76 8 29 := ⟨RX8, TX8, 32, rfl, by decide, lu_X8, zm3 163 rfl rfl⟩
theorem lf_X8_79 : zFL RX8 79 8 31 := ⟨RX8, TX8, 32, rfl, by decide, lu_X8, zm3 165 rfl rfl⟩
theorem lf_X8_91 : zFL RX8 91 8 19 := ⟨RX8, TX8, 32, rfl, by decide, lu_X8, zm3 153 rfl rfl⟩
theorem lf_X8_98 : zFL RX8 98 8 5 := ⟨RX8, TX8, 32, rfl, by decide, lu_X8, zm3 139 rfl rfl⟩
theorem ln_X0_22 : Cond.methodLinkNest RX0 22 yX7_isWithin RX7 ∈ zNest := List.mem_of_getElem? (i := 0) rfl
theorem ln_X1_57 : Cond.methodLinkNest RX1 57 yX7_holds RX7 ∈ zNest := List.mem_of_getElem? (i := 5) rfl
theorem ln_X2_94 : Cond.methodLinkNest RX2 94 yX7_holds RX7 ∈ zNest := List.mem_of_getElem? (i := 4) rfl
theorem ln_X3_41 : Cond.methodLinkNest RX3 41 yX7_holds RX7 ∈ zNest := List.mem_of_getElem? (i := 2) rfl
theorem ln_X3_45 : Cond.methodLinkNest RX3 45 yX7_isWithin RX7 ∈ zNest := List.mem_of_getElem? (i := 3) rfl
theorem ln_X4_55 : Cond.methodLinkNest RX4 55 yX7_holds RX7 ∈ zNest := List.mem_of_getElem? (i := 6) rfl
theorem ln_X5_35 : Cond.methodLinkNest RX5 35 yX7_holds RX7 ∈ zNest := List.mem_of_getElem? (i := 1) rfl
theorem ok_J6_bitCount_0f7a4 : zOkS kJ6_bitCount_0f7a4 1 := ⟨zm3 122 rfl rfl, zm1 10 rfl rfl, zm3 123 rfl rfl, by decide, by decide, by decide +kernel⟩
theorem ok_J6_numberOfLeadingZeros_0f7a4 : zOkS kJ6_numberOfLeadingZeros_0f7a4 1 := ⟨zm2 110 rfl rfl, zm1 10 rfl rfl, zm2 111 rfl rfl, by decide, by decide, by decide +kernel⟩
theorem ok_X0_addCorner : zOkV kX0_addCorner 2 := ⟨zm2 53 rfl rfl, zm2 54 rfl rfl, zm1 4 rfl rfl, zm2 55 rfl rfl, by decide, by decide, by decide +kernel⟩
theorem ok_X0_cornerReached : zOkV kX0_cornerReached 3 := ⟨zm2 164 rfl rfl, zm2 165 rfl rfl, zm1 4 rfl rfl, zm2 166 rfl rfl, by decide, by decide, by decide +kernel⟩
theorem ok_X1_areMetAround : zOkV kX1_areMetAround 2 := ⟨zm3 106 rfl rfl, zm3 107 rfl rfl, zm1 7 rfl rfl, zm3 108 rfl rfl, by decide, by decide, by decide +kernel⟩
theorem ok_X1_gather : zOkV kX1_gather 0 := ⟨zm3 3 rfl rfl, zm3 4 rfl rfl, zm1 7 rfl rfl, zm3 5 rfl rfl, by decide, by decide, by decide +kernel⟩
theorem ok_X1_gatherOf : zOkV kX1_gatherOf 2 := ⟨zm3 11 rfl rfl, zm0 11 rfl rfl, zm1 7 rfl rfl, zm3 12 rfl rfl, by decide, by decide, by decide +kernel⟩
theorem ok_X1_isMet : zOkV kX1_isMet 3 := ⟨zm3 111 rfl rfl, zm0 16 rfl rfl, zm1 7 rfl rfl, zm3 112 rfl rfl, by decide, by decide, by decide +kernel⟩
theorem ok_X1_leastDial : zOkV kX1_leastDial 2 := ⟨zm3 30 rfl rfl, zm3 31 rfl rfl, zm1 7 rfl rfl, zm3 32 rfl rfl, by decide, by decide, by decide +kernel⟩
theorem ok_X1_rowOf : zOkS kX1_rowOf 2 := ⟨zm3 24 rfl rfl, zm1 7 rfl rfl, zm3 25 rfl rfl, by decide, by decide, by decide +kernel⟩
theorem ok_X2_isOutOfOrder : zOkV kX2_isOutOfOrder 2 := ⟨zm2 229 rfl rfl, zm0 9 rfl rfl, zm1 6 rfl rfl, zm2 230 rfl rfl, by decide, by decide, by decide +kernel⟩
theorem ok_X2_isUnseen : zOkV kX2_isUnseen 2 := ⟨zm2 220 rfl rfl, zm0 8 rfl rfl, zm1 6 rfl rfl, zm2 221 rfl rfl, by decide, by decide, by decide +kernel⟩
theorem ok_X2_look : zOkV kX2_look 0 := ⟨zm2 193 rfl rfl, zm2 194 rfl rfl, zm1 6 rfl rfl, zm2 195 rfl rfl, by decide, by decide, by decide +kernel⟩
theorem ok_X2_lookAtFaults : zOkV kX2_lookAtFaults 2 := ⟨zm2 207 rfl rfl, zm0 7 rfl rfl, zm1 6 rfl rfl, zm2 208 rfl rfl, by decide, by decide, by decide +kernel⟩
theorem ok_X2_lookAtLine : zOkV kX2_lookAtLine 1 := ⟨zm2 202 rfl rfl, zm0 6 rfl rfl, zm1 6 rfl rfl, zm2 203 rfl rfl, by decide, by decide, by decide +kernel⟩
theorem ok_X2_note : zOkV kX2_note 4 := ⟨zm2 198 rfl rfl, zm0 5 rfl rfl, zm1 6 rfl rfl, zm2 199 rfl rfl, by decide, by decide, by decide +kernel⟩
theorem ok_X3_currentByLoads : zOkV kX3_currentByLoads 1 := ⟨zm2 121 rfl rfl, zm2 122 rfl rfl, zm1 2 rfl rfl, zm2 123 rfl rfl, by decide, by decide, by decide +kernel⟩
theorem ok_X3_hang : zOkV kX3_hang 2 := ⟨zm2 41 rfl rfl, zm2 42 rfl rfl, zm1 2 rfl rfl, zm2 43 rfl rfl, by decide, by decide, by decide +kernel⟩
theorem ok_X3_isFault : zOkV kX3_isFault 3 := ⟨zm2 135 rfl rfl, zm2 136 rfl rfl, zm1 2 rfl rfl, zm2 137 rfl rfl, by decide, by decide, by decide +kernel⟩
theorem ok_X3_isKnot : zOkV kX3_isKnot 1 := ⟨zm2 37 rfl rfl, zm2 38 rfl rfl, zm1 2 rfl rfl, zm2 39 rfl rfl, by decide, by decide, by decide +kernel⟩
theorem ok_X3_isLine : zOkV kX3_isLine 1 := ⟨zm2 62 rfl rfl, zm2 63 rfl rfl, zm1 2 rfl rfl, zm2 64 rfl rfl, by decide, by decide, by decide +kernel⟩
theorem ok_X3_isOnWay : zOkV kX3_isOnWay 2 := ⟨zm2 156 rfl rfl, zm2 157 rfl rfl, zm1 2 rfl rfl, zm2 158 rfl rfl, by decide, by decide, by decide +kernel⟩
theorem ok_X3_sixteenForces : zOkV kX3_sixteenForces 0 := ⟨zm2 148 rfl rfl, zm2 149 rfl rfl, zm1 2 rfl rfl, zm2 150 rfl rfl, by decide, by decide, by decide +kernel⟩
theorem ok_X3_sumOf : zOkV kX3_sumOf 3 := ⟨zm2 142 rfl rfl, zm2 143 rfl rfl, zm1 2 rfl rfl, zm2 144 rfl rfl, by decide, by decide, by decide +kernel⟩
theorem ok_X4_find : zOkV kX4_find 0 := ⟨zm3 96 rfl rfl, zm3 97 rfl rfl, zm1 8 rfl rfl, zm3 98 rfl rfl, by decide, by decide, by decide +kernel⟩
theorem ok_X4_gatherLines : zOkV kX4_gatherLines 0 := ⟨zm3 92 rfl rfl, zm3 93 rfl rfl, zm1 8 rfl rfl, zm3 94 rfl rfl, by decide, by decide, by decide +kernel⟩
theorem ok_X4_lowestThatCanGo : zOkV kX4_lowestThatCanGo 1 := ⟨zm3 102 rfl rfl, zm0 15 rfl rfl, zm1 8 rfl rfl, zm3 103 rfl rfl, by decide, by decide, by decide +kernel⟩
theorem ok_X5_cornerReached : zOkV kX5_cornerReached 3 := ⟨zm2 224 rfl rfl, zm2 225 rfl rfl, zm1 3 rfl rfl, zm2 226 rfl rfl, by decide, by decide, by decide +kernel⟩
theorem ok_X5_isThere : zOkV kX5_isThere 1 := ⟨zm2 74 rfl rfl, zm2 75 rfl rfl, zm1 3 rfl rfl, zm2 76 rfl rfl, by decide, by decide, by decide +kernel⟩
theorem ok_X5_keepDialsAsGoal : zOkV kX5_keepDialsAsGoal 0 := ⟨zm3 84 rfl rfl, zm3 85 rfl rfl, zm1 3 rfl rfl, zm3 86 rfl rfl, by decide, by decide, by decide +kernel⟩
theorem ok_X5_lastOf : zOkV kX5_lastOf 1 := ⟨zm2 106 rfl rfl, zm2 107 rfl rfl, zm1 3 rfl rfl, zm2 108 rfl rfl, by decide, by decide, by decide +kernel⟩
theorem ok_X5_leastTenthsSeen : zOkV kX5_leastTenthsSeen 1 := ⟨zm3 71 rfl rfl, zm3 72 rfl rfl, zm1 3 rfl rfl, zm3 73 rfl rfl, by decide, by decide, by decide +kernel⟩
theorem ok_X5_place : zOkV kX5_place 4 := ⟨zm2 66 rfl rfl, zm2 67 rfl rfl, zm1 3 rfl rfl, zm2 68 rfl rfl, by decide, by decide, by decide +kernel⟩
theorem ok_X5_setFailing : zOkV kX5_setFailing 2 := ⟨zm2 93 rfl rfl, zm2 94 rfl rfl, zm1 3 rfl rfl, zm2 95 rfl rfl, by decide, by decide, by decide +kernel⟩
theorem ok_X5_sumOfDials : zOkV kX5_sumOfDials 0 := ⟨zm3 38 rfl rfl, zm3 39 rfl rfl, zm1 3 rfl rfl, zm3 40 rfl rfl, by decide, by decide, by decide +kernel⟩
theorem ok_X5_takeAway : zOkV kX5_takeAway 1 := ⟨zm2 81 rfl rfl, zm2 82 rfl rfl, zm1 3 rfl rfl, zm2 83 rfl rfl, by decide, by decide, by decide +kernel⟩
theorem ok_X5_ticksAt : zOkV kX5_ticksAt 2 := ⟨zm3 17 rfl rfl, zm3 18 rfl rfl, zm1 3 rfl rfl, zm3 19 rfl rfl, by decide, by decide, by decide +kernel⟩
theorem ok_X5_waitAt : zOkV kX5_waitAt 3 := ⟨zm2 160 rfl rfl, zm2 161 rfl rfl, zm1 3 rfl rfl, zm2 162 rfl rfl, by decide, by decide, by decide +kernel⟩
theorem ok_X6_resistanceAsked : zOkV kX6_resistanceAsked 1 := ⟨zm2 214 rfl rfl, zm2 215 rfl rfl, zm1 5 rfl rfl, zm2 216 rfl rfl, by decide, by decide, by decide +kernel⟩
theorem ok_X6_resistancesAsked : zOkV kX6_resistancesAsked 0 := ⟨zm2 210 rfl rfl, zm2 211 rfl rfl, zm1 5 rfl rfl, zm2 212 rfl rfl, by decide, by decide, by decide +kernel⟩
theorem ok_X7_ableOn : zOkV kX7_ableOn 1 := ⟨zm2 178 rfl rfl, zm0 3 rfl rfl, zm1 1 rfl rfl, zm2 179 rfl rfl, by decide, by decide, by decide +kernel⟩
theorem ok_X7_about : zOkV kX7_about 1 := ⟨zm3 118 rfl rfl, zm3 119 rfl rfl, zm1 1 rfl rfl, zm3 120 rfl rfl, by decide, by decide, by decide +kernel⟩
theorem ok_X7_arc : zOkV kX7_arc 3 := ⟨zm3 43 rfl rfl, zm3 44 rfl rfl, zm1 1 rfl rfl, zm3 45 rfl rfl, by decide, by decide, by decide +kernel⟩
theorem ok_X7_arcOf : zOkV kX7_arcOf 3 := ⟨zm3 48 rfl rfl, zm0 12 rfl rfl, zm1 1 rfl rfl, zm3 49 rfl rfl, by decide, by decide, by decide +kernel⟩
theorem ok_X7_breaker : zOkV kX7_breaker 4 := ⟨zm2 58 rfl rfl, zm2 59 rfl rfl, zm1 1 rfl rfl, zm2 60 rfl rfl, by decide, by decide, by decide +kernel⟩
theorem ok_X7_breakerOf : zOkV kX7_breakerOf 2 := ⟨zm2 127 rfl rfl, zm0 1 rfl rfl, zm1 1 rfl rfl, zm2 128 rfl rfl, by decide, by decide, by decide +kernel⟩
theorem ok_X7_change : zOkV kX7_change 0 := ⟨zm3 88 rfl rfl, zm3 89 rfl rfl, zm1 1 rfl rfl, zm3 90 rfl rfl, by decide, by decide, by decide +kernel⟩
theorem ok_X7_clearTick : zOkV kX7_clearTick 3 := ⟨zm2 174 rfl rfl, zm0 2 rfl rfl, zm1 1 rfl rfl, zm2 175 rfl rfl, by decide, by decide, by decide +kernel⟩
theorem ok_X7_corner : zOkV kX7_corner 3 := ⟨zm2 49 rfl rfl, zm2 50 rfl rfl, zm1 1 rfl rfl, zm2 51 rfl rfl, by decide, by decide, by decide +kernel⟩
theorem ok_X7_dial : zOkV kX7_dial 2 := ⟨zm2 85 rfl rfl, zm2 86 rfl rfl, zm1 1 rfl rfl, zm2 87 rfl rfl, by decide, by decide, by decide +kernel⟩
theorem ok_X7_fails : zOkV kX7_fails 2 := ⟨zm2 89 rfl rfl, zm2 90 rfl rfl, zm1 1 rfl rfl, zm2 91 rfl rfl, by decide, by decide, by decide +kernel⟩
theorem ok_X7_fault : zOkV kX7_fault 4 := ⟨zm2 131 rfl rfl, zm2 132 rfl rfl, zm1 1 rfl rfl, zm2 133 rfl rfl, by decide, by decide, by decide +kernel⟩
theorem ok_X7_findLeastDials : zOkV kX7_findLeastDials 0 := ⟨zm3 0 rfl rfl, zm0 10 rfl rfl, zm1 1 rfl rfl, zm3 1 rfl rfl, by decide, by decide, by decide +kernel⟩
theorem ok_X7_fit : zOkV kX7_fit 0 := ⟨zm2 235 rfl rfl, zm2 236 rfl rfl, zm1 1 rfl rfl, zm2 237 rfl rfl, by decide, by decide, by decide +kernel⟩
theorem ok_X7_goal : zOkV kX7_goal 0 := ⟨zm3 80 rfl rfl, zm3 81 rfl rfl, zm1 1 rfl rfl, zm3 82 rfl rfl, by decide, by decide, by decide +kernel⟩
theorem ok_X7_growth : zOkV kX7_growth 0 := ⟨zm3 62 rfl rfl, zm3 63 rfl rfl, zm1 1 rfl rfl, zm3 64 rfl rfl, by decide, by decide, by decide +kernel⟩
theorem ok_X7_growthOf : zOkV kX7_growthOf 1 := ⟨zm3 68 rfl rfl, zm0 14 rfl rfl, zm1 1 rfl rfl, zm3 69 rfl rfl, by decide, by decide, by decide +kernel⟩
theorem ok_X7_holds : zOkS kX7_holds 2 := ⟨zm2 78 rfl rfl, zm1 1 rfl rfl, zm2 79 rfl rfl, by decide, by decide, by decide +kernel⟩
theorem ok_X7_isWithin : zOkS kX7_isWithin 3 := ⟨zm2 30 rfl rfl, zm1 1 rfl rfl, zm2 31 rfl rfl, by decide, by decide, by decide +kernel⟩
theorem ok_X7_line : zOkV kX7_line 2 := ⟨zm2 33 rfl rfl, zm2 34 rfl rfl, zm1 1 rfl rfl, zm2 35 rfl rfl, by decide, by decide, by decide +kernel⟩
theorem ok_X7_lineOf : zOkV kX7_lineOf 2 := ⟨zm2 102 rfl rfl, zm2 103 rfl rfl, zm1 1 rfl rfl, zm2 104 rfl rfl, by decide, by decide, by decide +kernel⟩
theorem ok_X7_lineOrNone : zOkS kX7_lineOrNone 1 := ⟨zm2 114 rfl rfl, zm1 1 rfl rfl, zm2 115 rfl rfl, by decide, by decide, by decide +kernel⟩
theorem ok_X7_load : zOkV kX7_load 2 := ⟨zm2 45 rfl rfl, zm2 46 rfl rfl, zm1 1 rfl rfl, zm2 47 rfl rfl, by decide, by decide, by decide +kernel⟩
theorem ok_X7_nextOf : zOkV kX7_nextOf 1 := ⟨zm2 118 rfl rfl, zm0 0 rfl rfl, zm1 1 rfl rfl, zm2 119 rfl rfl, by decide, by decide, by decide +kernel⟩
theorem ok_X7_openersAt : zOkV kX7_openersAt 4 := ⟨zm2 182 rfl rfl, zm0 4 rfl rfl, zm1 1 rfl rfl, zm2 183 rfl rfl, by decide, by decide, by decide +kernel⟩
theorem ok_X7_ran : zOkV kX7_ran 2 := ⟨zm2 185 rfl rfl, zm2 186 rfl rfl, zm1 1 rfl rfl, zm2 187 rfl rfl, by decide, by decide, by decide +kernel⟩
theorem ok_X7_remove : zOkV kX7_remove 1 := ⟨zm2 70 rfl rfl, zm2 71 rfl rfl, zm1 1 rfl rfl, zm2 72 rfl rfl, by decide, by decide, by decide +kernel⟩
theorem ok_X7_right : zOkV kX7_right 1 := ⟨zm2 189 rfl rfl, zm2 190 rfl rfl, zm1 1 rfl rfl, zm2 191 rfl rfl, by decide, by decide, by decide +kernel⟩
theorem ok_X7_run : zOkV kX7_run 3 := ⟨zm2 169 rfl rfl, zm2 170 rfl rfl, zm1 1 rfl rfl, zm2 171 rfl rfl, by decide, by decide, by decide +kernel⟩
theorem ok_X7_source : zOkV kX7_source 2 := ⟨zm2 26 rfl rfl, zm2 27 rfl rfl, zm1 1 rfl rfl, zm2 28 rfl rfl, by decide, by decide, by decide +kernel⟩
theorem ok_X7_step : zOkV kX7_step 1 := ⟨zm3 114 rfl rfl, zm3 115 rfl rfl, zm1 1 rfl rfl, zm3 116 rfl rfl, by decide, by decide, by decide +kernel⟩
theorem ok_X7_told : zOkV kX7_told 3 := ⟨zm2 97 rfl rfl, zm2 98 rfl rfl, zm1 1 rfl rfl, zm2 99 rfl rfl, by decide, by decide, by decide +kernel⟩
theorem ok_X7_waits : zOkV kX7_waits 4 := ⟨zm2 152 rfl rfl, zm2 153 rfl rfl, zm1 1 rfl rfl, zm2 154 rfl rfl, by decide, by decide, by decide +kernel⟩
theorem ok_X7_worst : zOkV kX7_worst 0 := ⟨zm3 51 rfl rfl, zm3 52 rfl rfl, zm1 1 rfl rfl, zm3 53 rfl rfl, by decide, by decide, by decide +kernel⟩
theorem ok_X7_worstOf : zOkV kX7_worstOf 1 := ⟨zm3 56 rfl rfl, zm0 13 rfl rfl, zm1 1 rfl rfl, zm3 57 rfl rfl, by decide, by decide, by decide +kernel⟩
theorem ok_X8_about : zOkV kX8_about 1 := ⟨zm4 160 rfl rfl, zm4 161 rfl rfl, zm1 9 rfl rfl, zm4 162 rfl rfl, by decide, by decide, by decide +kernel⟩
theorem ok_X8_arc : zOkV kX8_arc 3 := ⟨zm4 85 rfl rfl, zm4 86 rfl rfl, zm1 9 rfl rfl, zm4 87 rfl rfl, by decide, by decide, by decide +kernel⟩
theorem ok_X8_breaker : zOkV kX8_breaker 4 := ⟨zm4 13 rfl rfl, zm4 14 rfl rfl, zm1 9 rfl rfl, zm4 15 rfl rfl, by decide, by decide, by decide +kernel⟩
theorem ok_X8_change : zOkV kX8_change 0 := ⟨zm4 148 rfl rfl, zm4 149 rfl rfl, zm1 9 rfl rfl, zm4 150 rfl rfl, by decide, by decide, by decide +kernel⟩
theorem ok_X8_cleared : zOkV kX8_cleared 3 := ⟨zm4 78 rfl rfl, zm0 24 rfl rfl, zm1 9 rfl rfl, zm4 79 rfl rfl, by decide, by decide, by decide +kernel⟩
theorem ok_X8_corner : zOkV kX8_corner 3 := ⟨zm4 9 rfl rfl, zm4 10 rfl rfl, zm1 9 rfl rfl, zm4 11 rfl rfl, by decide, by decide, by decide +kernel⟩
theorem ok_X8_dial : zOkV kX8_dial 2 := ⟨zm4 29 rfl rfl, zm4 30 rfl rfl, zm1 9 rfl rfl, zm4 31 rfl rfl, by decide, by decide, by decide +kernel⟩
theorem ok_X8_fails : zOkV kX8_fails 2 := ⟨zm4 33 rfl rfl, zm4 34 rfl rfl, zm1 9 rfl rfl, zm4 35 rfl rfl, by decide, by decide, by decide +kernel⟩
theorem ok_X8_fault : zOkV kX8_fault 4 := ⟨zm4 41 rfl rfl, zm4 42 rfl rfl, zm1 9 rfl rfl, zm4 43 rfl rfl, by decide, by decide, by decide +kernel⟩
theorem ok_X8_fit : zOkV kX8_fit 0 := ⟨zm4 131 rfl rfl, zm4 132 rfl rfl, zm1 9 rfl rfl, zm4 133 rfl rfl, by decide, by decide, by decide +kernel⟩
theorem ok_X8_goal : zOkV kX8_goal 0 := ⟨zm4 144 rfl rfl, zm4 145 rfl rfl, zm1 9 rfl rfl, zm4 146 rfl rfl, by decide, by decide, by decide +kernel⟩
theorem ok_X8_growth : zOkV kX8_growth 0 := ⟨zm4 139 rfl rfl, zm4 140 rfl rfl, zm1 9 rfl rfl, zm4 141 rfl rfl, by decide, by decide, by decide +kernel⟩
theorem ok_X8_isBreaker : zOkV kX8_isBreaker 1 := ⟨zm4 26 rfl rfl, zm0 18 rfl rfl, zm1 9 rfl rfl, zm4 27 rfl rfl, by decide, by decide, by decide +kernel⟩
theorem ok_X8_isFault : zOkV kX8_isFault 3 := ⟨zm4 46 rfl rfl, zm0 19 rfl rfl, zm1 9 rfl rfl, zm4 47 rfl rfl, by decide, by decide, by decide +kernel⟩
theorem ok_X8_isIn : zOkS kX8_isIn 3 := ⟨zm3 238 rfl rfl, zm1 9 rfl rfl, zm3 239 rfl rfl, by decide, by decide, by decide +kernel⟩
theorem ok_X8_isLine : zOkV kX8_isLine 1 := ⟨zm4 18 rfl rfl, zm0 17 rfl rfl, zm1 9 rfl rfl, zm4 19 rfl rfl, by decide, by decide, by decide +kernel⟩
theorem ok_X8_isLineRight : zOkV kX8_isLineRight 1 := ⟨zm4 120 rfl rfl, zm0 29 rfl rfl, zm1 9 rfl rfl, zm4 121 rfl rfl, by decide, by decide, by decide +kernel⟩
theorem ok_X8_isOnWay : zOkV kX8_isOnWay 2 := ⟨zm4 65 rfl rfl, zm0 22 rfl rfl, zm1 9 rfl rfl, zm4 66 rfl rfl, by decide, by decide, by decide +kernel⟩
theorem ok_X8_isRight : zOkV kX8_isRight 0 := ⟨zm4 116 rfl rfl, zm0 28 rfl rfl, zm1 9 rfl rfl, zm4 117 rfl rfl, by decide, by decide, by decide +kernel⟩
theorem ok_X8_keeper : zOkV kX8_keeper 1 := ⟨zm4 100 rfl rfl, zm0 25 rfl rfl, zm1 9 rfl rfl, zm4 101 rfl rfl, by decide, by decide, by decide +kernel⟩
theorem ok_X8_line : zOkV kX8_line 2 := ⟨zm4 1 rfl rfl, zm4 2 rfl rfl, zm1 9 rfl rfl, zm4 3 rfl rfl, by decide, by decide, by decide +kernel⟩
theorem ok_X8_lineOf : zOkV kX8_lineOf 2 := ⟨zm4 95 rfl rfl, zm4 96 rfl rfl, zm1 9 rfl rfl, zm4 97 rfl rfl, by decide, by decide, by decide +kernel⟩
theorem ok_X8_load : zOkV kX8_load 2 := ⟨zm4 5 rfl rfl, zm4 6 rfl rfl, zm1 9 rfl rfl, zm4 7 rfl rfl, by decide, by decide, by decide +kernel⟩
theorem ok_X8_loadOf : zOkV kX8_loadOf 1 := ⟨zm4 108 rfl rfl, zm0 27 rfl rfl, zm1 9 rfl rfl, zm4 109 rfl rfl, by decide, by decide, by decide +kernel⟩
theorem ok_X8_next : zOkV kX8_next 1 := ⟨zm4 104 rfl rfl, zm0 26 rfl rfl, zm1 9 rfl rfl, zm4 105 rfl rfl, by decide, by decide, by decide +kernel⟩
theorem ok_X8_raises : zOkV kX8_raises 0 := ⟨zm4 136 rfl rfl, zm0 32 rfl rfl, zm1 9 rfl rfl, zm4 137 rfl rfl, by decide, by decide, by decide +kernel⟩
theorem ok_X8_ran : zOkV kX8_ran 2 := ⟨zm4 81 rfl rfl, zm4 82 rfl rfl, zm1 9 rfl rfl, zm4 83 rfl rfl, by decide, by decide, by decide +kernel⟩
theorem ok_X8_remove : zOkV kX8_remove 1 := ⟨zm4 21 rfl rfl, zm4 22 rfl rfl, zm1 9 rfl rfl, zm4 23 rfl rfl, by decide, by decide, by decide +kernel⟩
theorem ok_X8_right : zOkV kX8_right 1 := ⟨zm4 111 rfl rfl, zm4 112 rfl rfl, zm1 9 rfl rfl, zm4 113 rfl rfl, by decide, by decide, by decide +kernel⟩
theorem ok_X8_run : zOkV kX8_run 3 := ⟨zm4 73 rfl rfl, zm4 74 rfl rfl, zm1 9 rfl rfl, zm4 75 rfl rfl, by decide, by decide, by decide +kernel⟩
theorem ok_X8_source : zOkV kX8_source 2 := ⟨zm3 234 rfl rfl, zm3 235 rfl rfl, zm1 9 rfl rfl, zm3 236 rfl rfl, by decide, by decide, by decide +kernel⟩
theorem ok_X8_step : zOkV kX8_step 1 := ⟨zm4 156 rfl rfl, zm4 157 rfl rfl, zm1 9 rfl rfl, zm4 158 rfl rfl, by decide, by decide, by decide +kernel⟩
theorem ok_X8_sum : zOkV kX8_sum 3 := ⟨zm4 51 rfl rfl, zm0 20 rfl rfl, zm1 9 rfl rfl, zm4 52 rfl rfl, by decide, by decide, by decide +kernel⟩
theorem ok_X8_take : zOkV kX8_take 1 := ⟨zm4 153 rfl rfl, zm0 33 rfl rfl, zm1 9 rfl rfl, zm4 154 rfl rfl, by decide, by decide, by decide +kernel⟩
theorem ok_X8_tells : zOkV kX8_tells 4 := ⟨zm4 124 rfl rfl, zm0 30 rfl rfl, zm1 9 rfl rfl, zm4 125 rfl rfl, by decide, by decide, by decide +kernel⟩
theorem ok_X8_told : zOkV kX8_told 3 := ⟨zm4 37 rfl rfl, zm4 38 rfl rfl, zm1 9 rfl rfl, zm4 39 rfl rfl, by decide, by decide, by decide +kernel⟩
theorem ok_X8_tooShort : zOkV kX8_tooShort 3 := ⟨zm4 128 rfl rfl, zm0 31 rfl rfl, zm1 9 rfl rfl, zm4 129 rfl rfl, by decide, by decide, by decide +kernel⟩
theorem ok_X8_waitAt : zOkV kX8_waitAt 4 := ⟨zm4 61 rfl rfl, zm0 21 rfl rfl, zm1 9 rfl rfl, zm4 62 rfl rfl, by decide, by decide, by decide +kernel⟩
theorem ok_X8_waitBy : zOkV kX8_waitBy 3 := ⟨zm4 69 rfl rfl, zm0 23 rfl rfl, zm1 9 rfl rfl, zm4 70 rfl rfl, by decide, by decide, by decide +kernel⟩
theorem ok_X8_waits : zOkV kX8_waits 4 := ⟨zm4 56 rfl rfl, zm4 57 rfl rfl, zm1 9 rfl rfl, zm4 58 rfl rfl, by decide, by decide, by decide +kernel⟩
theorem ok_X8_worst : zOkV kX8_worst 0 := ⟨zm4 90 rfl rfl, zm4 91 rfl rfl, zm1 9 rfl rfl, zm4 92 rfl rfl, by decide, by decide, by decide +kernel⟩
theorem lp_X0_18 : zFP RX0 18 0 0 .int := ⟨RX0, TX0, 3, tyX0, rfl, by decide, lu_X0, zm1 76 rfl rfl, rfl, by decide +kernel, tyX0_ok, nmX0⟩
theorem lp_X2_33 : zFP RX2 33 2 3 .int := ⟨RX2, TX2, 7, tyX2, rfl, by decide, lu_X2, zm1 153 rfl rfl, rfl, by decide +kernel, tyX2_ok, nmX2⟩
theorem lp_X2_50 : zFP RX2 50 2 4 .int := ⟨RX2, TX2, 7, tyX2, rfl, by decide, lu_X2, zm1 155 rfl rfl, rfl, by decide +kernel, tyX2_ok, nmX2⟩
theorem lp_X2_53 : zFP RX2 53 2 5 .int := ⟨RX2, TX2, 7, tyX2, rfl, by decide, lu_X2, zm1 157 rfl rfl, rfl, by decide +kernel, tyX2_ok, nmX2⟩
theorem lp_X2_56 : zFP RX2 56 2 6 .int := ⟨RX2, TX2, 7, tyX2, rfl, by decide, lu_X2, zm1 159 rfl rfl, rfl, by decide +kernel, tyX2_ok, nmX2⟩
theorem lp_X3_9 : zFP RX3 9 3 0 .int := ⟨RX3, TX3, 8, tyX3, rfl, by decide, lu_X3, zm1 27 rfl rfl, rfl, by decide +kernel, tyX3_ok, nmX3⟩
theorem lp_X4_32 : zFP RX4 32 4 4 .int := ⟨RX4, TX4, 8, tyX4, rfl, by decide, lu_X4, zm1 210 rfl rfl, rfl, by decide +kernel, tyX4_ok, nmX4⟩
theorem lp_X4_52 : zFP RX4 52 4 2 .int := ⟨RX4, TX4, 8, tyX4, rfl, by decide, lu_X4, zm1 206 rfl rfl, rfl, by decide +kernel, tyX4_ok, nmX4⟩
theorem lp_X5_31 : zFP RX5 31 5 1 .int := ⟨RX5, TX5, 7, tyX5, rfl, by decide, lu_X5, zm1 91 rfl rfl, rfl, by decide +kernel, tyX5_ok, nmX5⟩
theorem lp_X5_39 : zFP RX5 39 5 2 .int := ⟨RX5, TX5, 7, tyX5, rfl, by decide, lu_X5, zm1 93 rfl rfl, rfl, by decide +kernel, tyX5_ok, nmX5⟩
theorem lp_X7_122 : zFP RX7 122 6 0 .int := ⟨RX6, TX6, 3, tyX6, rfl, by decide, lu_X6, zm1 130 rfl rfl, rfl, by decide +kernel, tyX6_ok, nmX6⟩
theorem lp_X7_125 : zFP RX7 125 6 1 .int := ⟨RX6, TX6, 3, tyX6, rfl, by decide, lu_X6, zm1 134 rfl rfl, rfl, by decide +kernel, tyX6_ok, nmX6⟩
theorem lp_X7_128 : zFP RX7 128 6 2 .int := ⟨RX6, TX6, 3, tyX6, rfl, by decide, lu_X6, zm1 136 rfl rfl, rfl, by decide +kernel, tyX6_ok, nmX6⟩
theorem lp_X7_184 : zFP RX7 184 7 10 .int := ⟨RX7, TX7, 11, tyX7, rfl, by decide, lu_X7, zm2 1 rfl rfl, rfl, by decide +kernel, tyX7_ok, nmX7⟩
theorem lp_X7_236 : zFP RX7 236 7 8 .boolean := ⟨RX7, TX7, 11, tyX7, rfl, by decide, lu_X7, zm1 239 rfl rfl, rfl, by decide +kernel, tyX7_ok, nmX7⟩
theorem lp_X7_66 : zFP RX7 66 3 1 .int := ⟨RX3, TX3, 8, tyX3, rfl, by decide, lu_X3, zm1 32 rfl rfl, rfl, by decide +kernel, tyX3_ok, nmX3⟩
theorem lp_X7_70 : zFP RX7 70 3 2 .int := ⟨RX3, TX3, 8, tyX3, rfl, by decide, lu_X3, zm1 34 rfl rfl, rfl, by decide +kernel, tyX3_ok, nmX3⟩
theorem lp_X7_73 : zFP RX7 73 7 9 .boolean := ⟨RX7, TX7, 11, tyX7, rfl, by decide, lu_X7, zm2 0 rfl rfl, rfl, by decide +kernel, tyX7_ok, nmX7⟩
theorem lp_X8_13 : zFP RX8 13 8 1 .int := ⟨RX8, TX8, 32, tyX8, rfl, by decide, lu_X8, zm3 135 rfl rfl, rfl, by decide +kernel, tyX8_ok, nmX8⟩
theorem lp_X8_147 : zFP RX8 147 8 24 .int := ⟨RX8, TX8, 32, tyX8, rfl, by decide, lu_X8, zm3 158 rfl rfl, rfl, by decide +kernel, tyX8_ok, nmX8⟩
theorem lp_X8_150 : zFP RX8 150 8 25 .int := ⟨RX8, TX8, 32, tyX8, rfl, by decide, lu_X8, zm3 159 rfl rfl, rfl, by decide +kernel, tyX8_ok, nmX8⟩
theorem lp_X8_153 : zFP RX8 153 8 26 .int := ⟨RX8, TX8, 32, tyX8, rfl, by decide, lu_X8, zm3 160 rfl rfl, rfl, by decide +kernel, tyX8_ok, nmX8⟩
theorem lp_X8_156 : zFP RX8 156 8 27 .int := ⟨RX8, TX8, 32, tyX8, rfl, by decide, lu_X8, zm3 161 rfl rfl, rfl, by decide +kernel, tyX8_ok, nmX8⟩
theorem lp_X8_16 : zFP RX8 16 8 2 .int := ⟨RX8, TX8, 32, tyX8, rfl, by decide, lu_X8, zm3 136 rfl rfl, rfl, by decide +kernel, tyX8_ok, nmX8⟩
theorem lp_X8_179 : zFP RX8 179 8 17 .boolean := ⟨RX8, TX8, 32, tyX8, rfl, by decide, lu_X8, zm3 151 rfl rfl, rfl, by decide +kernel, tyX8_ok, nmX8⟩
theorem lp_X8_182 : zFP RX8 182 8 30 .int := ⟨RX8, TX8, 32, tyX8, rfl, by decide, lu_X8, zm3 164 rfl rfl, rfl, by decide +kernel, tyX8_ok, nmX8⟩
theorem lp_X8_189 : zFP RX8 189 8 23 .int := ⟨RX8, TX8, 32, tyX8, rfl, by decide, lu_X8, zm3 157 rfl rfl, rfl, by decide +kernel, tyX8_ok, nmX8⟩
theorem lp_X8_19 : zFP RX8 19 8 3 .int := ⟨RX8, TX8, 32, tyX8, rfl, by decide, lu_X8, zm3 137 rfl rfl, rfl, by decide +kernel, tyX8_ok, nmX8⟩
theorem lp_X8_23 : zFP RX8 23 8 4 .int := ⟨RX8, TX8, 32, tyX8, rfl, by decide, lu_X8, zm3 138 rfl rfl, rfl, by decide +kernel, tyX8_ok, nmX8⟩
theorem lp_X8_7 : zFP RX8 7 8 0 .int := ⟨RX8, TX8, 32, tyX8, rfl, by decide, lu_X8, zm3 134 rfl rfl, rfl, by decide +kernel, tyX8_ok, nmX8⟩
theorem lp_X8_91 : zFP RX8 91 8 19 .boolean := ⟨RX8, TX8, 32, tyX8, rfl, by decide, lu_X8, zm3 153 rfl rfl, rfl, by decide +kernel, tyX8_ok, nmX8⟩
theorem lp_X8_98 : zFP RX8 98 8 5 .int := ⟨RX8, TX8, 32, tyX8, rfl, by decide, lu_X8, zm3 139 rfl rfl, rfl, by decide +kernel, tyX8_ok, nmX8⟩
theorem lw_mmax : Cond.static Lib.Math.max.name ∈ zTbl ∧ Cond.initialized "java/lang/Math" ∈ zTbl ∧ Cond.code Lib.Math.max.name Lib.Math.max.code 2 (some .int) ∈ zTbl := ⟨zm3 21 rfl rfl, zm1 11 rfl rfl, zm3 22 rfl rfl⟩
theorem lw_lmax : Cond.static Lib.MathLoose.max_long.x ∈ zTbl ∧ Cond.initialized "java/lang/Math" ∈ zTbl ∧ Cond.code Lib.MathLoose.max_long.x Lib.MathLoose.max_long.code 4 (some .long) ∈ zTbl := ⟨zm3 34 rfl rfl, zm1 11 rfl rfl, zm3 35 rfl rfl⟩
theorem lw_lmin : Cond.static Lib.MathLoose.min_long.x ∈ zTbl ∧ Cond.initialized "java/lang/Math" ∈ zTbl ∧ Cond.code Lib.MathLoose.min_long.x Lib.MathLoose.min_long.code 4 (some .long) ∈ zTbl := ⟨zm3 77 rfl rfl, zm1 11 rfl rfl, zm3 78 rfl rfl⟩
theorem lw_copy : Cond.native arraycopyName ∈ zTbl ∧ Cond.static arraycopyName ∈ zTbl ∧ Cond.initialized "java/lang/System" ∈ zTbl := ⟨zm3 28 rfl rfl, zm3 27 rfl rfl, zm1 12 rfl rfl⟩

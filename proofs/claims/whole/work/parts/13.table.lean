-- the table of methods: name, code, locals, answer
def mtab : Mtab := [(yX0_ofStone, cX0_ofStone, 3, (some .int)), (yX0_ofGate, cX0_ofGate, 1, (some .int)), (yX0_isGate, cX0_isGate, 1, (some .boolean)), (yX0_stoneOf, cX0_stoneOf, 1, (some .int)), (yX0_columnOf, cX0_columnOf, 1, (some .int)), (yX0_wideOf, cX0_wideOf, 1, (some .int)), (yX1_init, cX1_init, 1, none), (yX1_lay, cX1_lay, 3, none), (yX2_init, cX2_init, 1, none), (yX2_payerIn, cX2_payerIn, 1, (some .int)), (yX2_daysIn, cX2_daysIn, 1, (some .int)), (yX2_later, cX2_later, 1, (some .int)), (yX2_score, cX2_score, 3, (some .int)), (yX2_prepare, cX2_prepare, 5, none), (yX2_outcome, cX2_outcome, 6, (some .int)), (yX2_outcomeByChoice, cX2_outcomeByChoice, 9, (some .int)), (yX2_outcomeByRule, cX2_outcomeByRule, 6, (some .int)), (yX2_actByRule, cX2_actByRule, 9, (some .int)), (yX3_init, cX3_init, 1, none), (yX3_written, cX3_written, 1, (some (.object "TruceWall$Truce"))), (yX3_fineCode, cX3_fineCode, 2, (some (.array .int))), (yX3_readTruce, cX3_readTruce, 4, (some .int)), (yX3_wallLine, cX3_wallLine, 1, none), (yX3_stoneLine, cX3_stoneLine, 4, none), (yX3_gatesLine, cX3_gatesLine, 1, none), (yX3_fineLine, cX3_fineLine, 1, none), (yX3_readE, cX3_readE, 4, none), (yX3_readTest, cX3_readTest, 3, none), (yX3_readSum, cX3_readSum, 4, none), (yX3_readProduct, cX3_readProduct, 3, none), (yX3_readPart, cX3_readPart, 3, none), (yX3_emit, cX3_emit, 2, none), (yX3_wrong, cX3_wrong, 2, none), (yX3_expect, cX3_expect, 2, none), (yX3_expectNumber, cX3_expectNumber, 4, (some .int)), (yX3_expectKind, cX3_expectKind, 2, (some .int)), (yX3_expectName, cX3_expectName, 3, (some .long)), (yX3_step, cX3_step, 2, none), (yX3_stepWord, cX3_stepWord, 3, none), (yX3_knownWord, cX3_knownWord, 6, (some .int)), (yX3_stepNumber, cX3_stepNumber, 2, none), (yX3_isLetter, cX3_isLetter, 1, (some .boolean)), (yX3_isDigit, cX3_isDigit, 1, (some .boolean)), (yX3_isSign, cX3_isSign, 1, (some .boolean)), (yX4_init, cX4_init, 1, none), (yX4_worth, cX4_worth, 9, (some .int)), (yX4_joined, cX4_joined, 3, (some .int)), (yX4_push, cX4_push, 2, none), (yX4_pop, cX4_pop, 1, (some .int)), (yX5_init, cX5_init, 1, none), (yX5_town, cX5_town, 1, (some .int)), (yX5_clear, cX5_clear, 2, none), (yX5_take, cX5_take, 2, none), (yX5_replay, cX5_replay, 4, none), (yX5_perform, cX5_perform, 3, none), (yX5_lodge, cX5_lodge, 11, none), (yX6_init, cX6_init, 2, none), (yX6_heightAt, cX6_heightAt, 4, (some .int)), (yX6_gateAt, cX6_gateAt, 4, (some .int)), (yX6_withPlace, cX6_withPlace, 5, (some .long)), (yX6_power, cX6_power, 4, (some .int)), (yX6_allCandidates, cX6_allCandidates, 7, (some (.array .int))), (yX6_isAsTold, cX6_isAsTold, 5, (some .boolean)), (yX6_twinOf, cX6_twinOf, 2, (some .int)), (yX6_stoneHindrance, cX6_stoneHindrance, 11, (some .int)), (yX6_twinHindrance, cX6_twinHindrance, 5, (some .int)), (yX6_roundStands, cX6_roundStands, 7, (some .boolean)), (yX6_bridgeStands, cX6_bridgeStands, 4, (some .boolean)), (yX6_gateHindrance, cX6_gateHindrance, 5, (some .int)), (yX6_gatesLeft, cX6_gatesLeft, 4, (some .int)), (yX6_withGate, cX6_withGate, 4, (some .long)), (yX6_canDo, cX6_canDo, 6, (some .boolean)), (yX6_gather, cX6_gather, 7, (some .int)), (yX6_after, cX6_after, 10, (some .long)), (yX6_isClosed, cX6_isClosed, 4, (some .boolean)), (yX6_payer, cX6_payer, 4, (some .int)), (yX6_numberOf, cX6_numberOf, 6, (some .int)), (yX6_numberOfLooks, cX6_numberOfLooks, 6, (some .int)), (yX6_wallOf, cX6_wallOf, 8, (some .long)), (yX6_manyNumbers, cX6_manyNumbers, 1, (some .int)), (yX7_init, cX7_init, 1, none), (yX7_spread, cX7_spread, 10, none), (yX7_spreadDay, cX7_spreadDay, 7, (some .boolean)), (yX7_spreadWall, cX7_spreadWall, 10, none), (yX7_unlikeWalls, cX7_unlikeWalls, 5, (some .int)), (yX7_waysTo, cX7_waysTo, 8, (some .int)), (yX8_init, cX8_init, 2, none), (yX8_feed, cX8_feed, 7, (some .int)), (yX8_truce, cX8_truce, 2, (some .int)), (yX8_stone, cX8_stone, 3, (some .int)), (yX8_set, cX8_set, 5, (some .int)), (yX8_leave, cX8_leave, 3, (some .int)), (yX8_fits, cX8_fits, 4, (some .int)), (yX8_undo, cX8_undo, 1, (some .boolean)), (yX8_column, cX8_column, 3, (some .int)), (yX8_act, cX8_act, 4, (some .int)), (yX8_pays, cX8_pays, 1, (some .int)), (yX8_days, cX8_days, 1, (some .int)), (yX8_best, cX8_best, 5, (some .int)), (yX8_holds, cX8_holds, 2, (some .int)), (yX8_mason, cX8_mason, 3, (some .int)), (yX8_reached, cX8_reached, 2, (some .int)), (yX8_histories, cX8_histories, 2, (some .int)), (yX8_lots, cX8_lots, 14, (some .int)), (yX8_mark, cX8_mark, 4, (some .boolean)), (yX8_count, cX8_count, 2, (some .int)), (yX8_takeSigns, cX8_takeSigns, 6, none), (yX8_lookRound, cX8_lookRound, 1, none), (yX8_isOver, cX8_isOver, 1, (some .boolean)), (yX8_gateRefused, cX8_gateRefused, 2, (some .int)), (yX8_outcomeNow, cX8_outcomeNow, 1, (some .int)), (yX8_outcomeBehind, cX8_outcomeBehind, 4, (some .int)), (yX9_init, cX9_init, 1, none), (yX9_thrown, cX9_thrown, 1, (some .int)), (yX9_within, cX9_within, 3, (some .boolean)), (yX9_feed, cX9_feed, 11, (some .int)), (yX9_signAt, cX9_signAt, 2, (some .int)), (yX9_nextToken, cX9_nextToken, 2, none), (yX9_isWord, cX9_isWord, 3, (some .boolean)), (yX9_isSign, cX9_isSign, 2, (some .boolean)), (yX9_fails, cX9_fails, 2, (some .boolean)), (yX9_puts, cX9_puts, 2, none), (yX9_fact, cX9_fact, 1, (some .int)), (yX9_reads, cX9_reads, 6, (some .boolean)), (yX9_opens, cX9_opens, 2, none), (yX9_sums, cX9_sums, 2, none), (yX9_tests, cX9_tests, 3, none), (yX9_worked, cX9_worked, 6, (some .int)), (yX9_isKept, cX9_isKept, 1, (some .boolean)), (yX9_needsNumber, cX9_needsNumber, 3, (some .boolean)), (yX9_ends, cX9_ends, 1, (some .boolean)), (yX9_kindAt, cX9_kindAt, 1, (some .int)), (yX9_readsStone, cX9_readsStone, 3, (some .boolean)), (yX9_readsGates, cX9_readsGates, 1, (some .boolean)), (yX9_readsFine, cX9_readsFine, 1, (some .boolean)), (yX9_readsAll, cX9_readsAll, 2, (some .boolean)), (yX9_moves, cX9_moves, 5, none), (yX9_lays, cX9_lays, 3, none), (yX9_truce, cX9_truce, 1, (some .int)), (yX9_begins, cX9_begins, 1, none), (yX9_nothing, cX9_nothing, 3, none), (yX9_isClosed, cX9_isClosed, 3, (some .boolean)), (yX9_looks, cX9_looks, 3, none), (yX9_isColumn, cX9_isColumn, 2, (some .boolean)), (yX9_otherOf, cX9_otherOf, 2, (some .int)), (yX9_isWide, cX9_isWide, 3, (some .boolean)), (yX9_stands, cX9_stands, 9, (some .boolean)), (yX9_why, cX9_why, 7, (some .int)), (yX9_whyGate, cX9_whyGate, 4, (some .int)), (yX9_nextAct, cX9_nextAct, 5, (some .int)), (yX9_hasAct, cX9_hasAct, 2, (some .boolean)), (yX9_acts, cX9_acts, 4, (some .int)), (yX9_finds, cX9_finds, 5, (some .boolean)), (yX9_sets, cX9_sets, 10, none), (yX9_does, cX9_does, 6, none), (yX9_keeps, cX9_keeps, 2, none), (yX9_stone, cX9_stone, 3, (some .int)), (yX9_set, cX9_set, 5, (some .int)), (yX9_leave, cX9_leave, 3, (some .int)), (yX9_fits, cX9_fits, 4, (some .int)), (yX9_undo, cX9_undo, 2, (some .boolean)), (yX9_column, cX9_column, 3, (some .int)), (yX9_actsNow, cX9_actsNow, 1, (some .int)), (yX9_state, cX9_state, 2, (some .int)), (yX9_act, cX9_act, 3, (some .int)), (yX9_isSmall, cX9_isSmall, 3, (some .boolean)), (yX9_wallOf, cX9_wallOf, 5, (some .int)), (yX9_numberOf, cX9_numberOf, 2, (some .int)), (yX9_laysOut, cX9_laysOut, 6, none), (yX9_copies, cX9_copies, 4, none), (yX9_knows, cX9_knows, 2, none), (yX9_isBetter, cX9_isBetter, 5, (some .boolean)), (yX9_solves, cX9_solves, 9, (some .int)), (yX9_now, cX9_now, 1, (some .int)), (yX9_pays, cX9_pays, 1, (some .int)), (yX9_days, cX9_days, 1, (some .int)), (yX9_behind, cX9_behind, 2, (some .int)), (yX9_best, cX9_best, 4, (some .int)), (yX9_holds, cX9_holds, 3, (some .int)), (yX9_ruled, cX9_ruled, 7, (some .int)), (yX9_masons, cX9_masons, 11, (some .int)), (yX9_mason, cX9_mason, 4, (some .int)), (yX9_goesOn, cX9_goesOn, 5, none), (yX9_reached, cX9_reached, 6, (some .int)), (yX9_histories, cX9_histories, 5, (some .int)), (yX9_draws, cX9_draws, 2, (some .int)), (yX9_lots, cX9_lots, 7, (some .int)), (yX9_mark, cX9_mark, 5, (some .boolean)), (yX9_count, cX9_count, 2, (some .int)), (yJ0_charAt_5068e, cJ0_charAt_5068e, 2, (some .char)), (yJ0_isLatin1_aae02, cJ0_isLatin1_aae02, 1, (some .boolean)), (yJ1_charAt_3b067, cJ1_charAt_3b067, 2, (some .char)), (yJ0_checkIndex_df160, cJ0_checkIndex_df160, 2, none), (yJ3_checkIndex_8e157, cJ3_checkIndex_8e157, 3, (some .int)), (yX8_state, cX8_state, 2, (some .int))]
theorem hm_0 : mtab[0]? = some (yX0_ofStone, cX0_ofStone, 3, (some .int)) := rfl
theorem hm_1 : mtab[1]? = some (yX0_ofGate, cX0_ofGate, 1, (some .int)) := rfl
theorem hm_2 : mtab[2]? = some (yX0_isGate, cX0_isGate, 1, (some .boolean)) := rfl
theorem hm_3 : mtab[3]? = some (yX0_stoneOf, cX0_stoneOf, 1, (some .int)) := rfl
theorem hm_4 : mtab[4]? = some (yX0_columnOf, cX0_columnOf, 1, (some .int)) := rfl
theorem hm_5 : mtab[5]? = some (yX0_wideOf, cX0_wideOf, 1, (some .int)) := rfl
theorem hm_6 : mtab[6]? = some (yX1_init, cX1_init, 1, none) := rfl
theorem hm_7 : mtab[7]? = some (yX1_lay, cX1_lay, 3, none) := rfl
theorem hm_8 : mtab[8]? = some (yX2_init, cX2_init, 1, none) := rfl
theorem hm_9 : mtab[9]? = some (yX2_payerIn, cX2_payerIn, 1, (some .int)) := rfl
theorem hm_10 : mtab[10]? = some (yX2_daysIn, cX2_daysIn, 1, (some .int)) := rfl
theorem hm_11 : mtab[11]? = some (yX2_later, cX2_later, 1, (some .int)) := rfl
theorem hm_12 : mtab[12]? = some (yX2_score, cX2_score, 3, (some .int)) := rfl
theorem hm_13 : mtab[13]? = some (yX2_prepare, cX2_prepare, 5, none) := rfl
theorem hm_14 : mtab[14]? = some (yX2_outcome, cX2_outcome, 6, (some .int)) := rfl
theorem hm_15 : mtab[15]? = some (yX2_outcomeByChoice, cX2_outcomeByChoice, 9, (some .int)) := rfl
theorem hm_16 : mtab[16]? = some (yX2_outcomeByRule, cX2_outcomeByRule, 6, (some .int)) := rfl
theorem hm_17 : mtab[17]? = some (yX2_actByRule, cX2_actByRule, 9, (some .int)) := rfl
theorem hm_18 : mtab[18]? = some (yX3_init, cX3_init, 1, none) := rfl
theorem hm_19 : mtab[19]? = some (yX3_written, cX3_written, 1, (some (.object "TruceWall$Truce"))) := rfl
theorem hm_20 : mtab[20]? = some (yX3_fineCode, cX3_fineCode, 2, (some (.array .int))) := rfl
theorem hm_21 : mtab[21]? = some (yX3_readTruce, cX3_readTruce, 4, (some .int)) := rfl
theorem hm_22 : mtab[22]? = some (yX3_wallLine, cX3_wallLine, 1, none) := rfl
theorem hm_23 : mtab[23]? = some (yX3_stoneLine, cX3_stoneLine, 4, none) := rfl
theorem hm_24 : mtab[24]? = some (yX3_gatesLine, cX3_gatesLine, 1, none) := rfl
theorem hm_25 : mtab[25]? = some (yX3_fineLine, cX3_fineLine, 1, none) := rfl
theorem hm_26 : mtab[26]? = some (yX3_readE, cX3_readE, 4, none) := rfl
theorem hm_27 : mtab[27]? = some (yX3_readTest, cX3_readTest, 3, none) := rfl
theorem hm_28 : mtab[28]? = some (yX3_readSum, cX3_readSum, 4, none) := rfl
theorem hm_29 : mtab[29]? = some (yX3_readProduct, cX3_readProduct, 3, none) := rfl
theorem hm_30 : mtab[30]? = some (yX3_readPart, cX3_readPart, 3, none) := rfl
theorem hm_31 : mtab[31]? = some (yX3_emit, cX3_emit, 2, none) := rfl
theorem hm_32 : mtab[32]? = some (yX3_wrong, cX3_wrong, 2, none) := rfl
theorem hm_33 : mtab[33]? = some (yX3_expect, cX3_expect, 2, none) := rfl
theorem hm_34 : mtab[34]? = some (yX3_expectNumber, cX3_expectNumber, 4, (some .int)) := rfl
theorem hm_35 : mtab[35]? = some (yX3_expectKind, cX3_expectKind, 2, (some .int)) := rfl
theorem hm_36 : mtab[36]? = some (yX3_expectName, cX3_expectName, 3, (some .long)) := rfl
theorem hm_37 : mtab[37]? = some (yX3_step, cX3_step, 2, none) := rfl
theorem hm_38 : mtab[38]? = some (yX3_stepWord, cX3_stepWord, 3, none) := rfl
theorem hm_39 : mtab[39]? = some (yX3_knownWord, cX3_knownWord, 6, (some .int)) := rfl
theorem hm_40 : mtab[40]? = some (yX3_stepNumber, cX3_stepNumber, 2, none) := rfl
theorem hm_41 : mtab[41]? = some (yX3_isLetter, cX3_isLetter, 1, (some .boolean)) := rfl
theorem hm_42 : mtab[42]? = some (yX3_isDigit, cX3_isDigit, 1, (some .boolean)) := rfl
theorem hm_43 : mtab[43]? = some (yX3_isSign, cX3_isSign, 1, (some .boolean)) := rfl
theorem hm_44 : mtab[44]? = some (yX4_init, cX4_init, 1, none) := rfl
theorem hm_45 : mtab[45]? = some (yX4_worth, cX4_worth, 9, (some .int)) := rfl
theorem hm_46 : mtab[46]? = some (yX4_joined, cX4_joined, 3, (some .int)) := rfl
theorem hm_47 : mtab[47]? = some (yX4_push, cX4_push, 2, none) := rfl
theorem hm_48 : mtab[48]? = some (yX4_pop, cX4_pop, 1, (some .int)) := rfl
theorem hm_49 : mtab[49]? = some (yX5_init, cX5_init, 1, none) := rfl
theorem hm_50 : mtab[50]? = some (yX5_town, cX5_town, 1, (some .int)) := rfl
theorem hm_51 : mtab[51]? = some (yX5_clear, cX5_clear, 2, none) := rfl
theorem hm_52 : mtab[52]? = some (yX5_take, cX5_take, 2, none) := rfl
theorem hm_53 : mtab[53]? = some (yX5_replay, cX5_replay, 4, none) := rfl
theorem hm_54 : mtab[54]? = some (yX5_perform, cX5_perform, 3, none) := rfl
theorem hm_55 : mtab[55]? = some (yX5_lodge, cX5_lodge, 11, none) := rfl
theorem hm_56 : mtab[56]? = some (yX6_init, cX6_init, 2, none) := rfl
theorem hm_57 : mtab[57]? = some (yX6_heightAt, cX6_heightAt, 4, (some .int)) := rfl
theorem hm_58 : mtab[58]? = some (yX6_gateAt, cX6_gateAt, 4, (some .int)) := rfl
theorem hm_59 : mtab[59]? = some (yX6_withPlace, cX6_withPlace, 5, (some .long)) := rfl
theorem hm_60 : mtab[60]? = some (yX6_power, cX6_power, 4, (some .int)) := rfl
theorem hm_61 : mtab[61]? = some (yX6_allCandidates, cX6_allCandidates, 7, (some (.array .int))) := rfl
theorem hm_62 : mtab[62]? = some (yX6_isAsTold, cX6_isAsTold, 5, (some .boolean)) := rfl
theorem hm_63 : mtab[63]? = some (yX6_twinOf, cX6_twinOf, 2, (some .int)) := rfl
theorem hm_64 : mtab[64]? = some (yX6_stoneHindrance, cX6_stoneHindrance, 11, (some .int)) := rfl
theorem hm_65 : mtab[65]? = some (yX6_twinHindrance, cX6_twinHindrance, 5, (some .int)) := rfl
theorem hm_66 : mtab[66]? = some (yX6_roundStands, cX6_roundStands, 7, (some .boolean)) := rfl
theorem hm_67 : mtab[67]? = some (yX6_bridgeStands, cX6_bridgeStands, 4, (some .boolean)) := rfl
theorem hm_68 : mtab[68]? = some (yX6_gateHindrance, cX6_gateHindrance, 5, (some .int)) := rfl
theorem hm_69 : mtab[69]? = some (yX6_gatesLeft, cX6_gatesLeft, 4, (some .int)) := rfl
theorem hm_70 : mtab[70]? = some (yX6_withGate, cX6_withGate, 4, (some .long)) := rfl
theorem hm_71 : mtab[71]? = some (yX6_canDo, cX6_canDo, 6, (some .boolean)) := rfl
theorem hm_72 : mtab[72]? = some (yX6_gather, cX6_gather, 7, (some .int)) := rfl
theorem hm_73 : mtab[73]? = some (yX6_after, cX6_after, 10, (some .long)) := rfl
theorem hm_74 : mtab[74]? = some (yX6_isClosed, cX6_isClosed, 4, (some .boolean)) := rfl
theorem hm_75 : mtab[75]? = some (yX6_payer, cX6_payer, 4, (some .int)) := rfl
theorem hm_76 : mtab[76]? = some (yX6_numberOf, cX6_numberOf, 6, (some .int)) := rfl
theorem hm_77 : mtab[77]? = some (yX6_numberOfLooks, cX6_numberOfLooks, 6, (some .int)) := rfl
theorem hm_78 : mtab[78]? = some (yX6_wallOf, cX6_wallOf, 8, (some .long)) := rfl
theorem hm_79 : mtab[79]? = some (yX6_manyNumbers, cX6_manyNumbers, 1, (some .int)) := rfl
theorem hm_80 : mtab[80]? = some (yX7_init, cX7_init, 1, none) := rfl
theorem hm_81 : mtab[81]? = some (yX7_spread, cX7_spread, 10, none) := rfl
theorem hm_82 : mtab[82]? = some (yX7_spreadDay, cX7_spreadDay, 7, (some .boolean)) := rfl
theorem hm_83 : mtab[83]? = some (yX7_spreadWall, cX7_spreadWall, 10, none) := rfl
theorem hm_84 : mtab[84]? = some (yX7_unlikeWalls, cX7_unlikeWalls, 5, (some .int)) := rfl
theorem hm_85 : mtab[85]? = some (yX7_waysTo, cX7_waysTo, 8, (some .int)) := rfl
theorem hm_86 : mtab[86]? = some (yX8_init, cX8_init, 2, none) := rfl
theorem hm_87 : mtab[87]? = some (yX8_feed, cX8_feed, 7, (some .int)) := rfl
theorem hm_88 : mtab[88]? = some (yX8_truce, cX8_truce, 2, (some .int)) := rfl
theorem hm_89 : mtab[89]? = some (yX8_stone, cX8_stone, 3, (some .int)) := rfl
theorem hm_90 : mtab[90]? = some (yX8_set, cX8_set, 5, (some .int)) := rfl
theorem hm_91 : mtab[91]? = some (yX8_leave, cX8_leave, 3, (some .int)) := rfl
theorem hm_92 : mtab[92]? = some (yX8_fits, cX8_fits, 4, (some .int)) := rfl
theorem hm_93 : mtab[93]? = some (yX8_undo, cX8_undo, 1, (some .boolean)) := rfl
theorem hm_94 : mtab[94]? = some (yX8_column, cX8_column, 3, (some .int)) := rfl
theorem hm_95 : mtab[95]? = some (yX8_act, cX8_act, 4, (some .int)) := rfl
theorem hm_96 : mtab[96]? = some (yX8_pays, cX8_pays, 1, (some .int)) := rfl
theorem hm_97 : mtab[97]? = some (yX8_days, cX8_days, 1, (some .int)) := rfl
theorem hm_98 : mtab[98]? = some (yX8_best, cX8_best, 5, (some .int)) := rfl
theorem hm_99 : mtab[99]? = some (yX8_holds, cX8_holds, 2, (some .int)) := rfl
theorem hm_100 : mtab[100]? = some (yX8_mason, cX8_mason, 3, (some .int)) := rfl
theorem hm_101 : mtab[101]? = some (yX8_reached, cX8_reached, 2, (some .int)) := rfl
theorem hm_102 : mtab[102]? = some (yX8_histories, cX8_histories, 2, (some .int)) := rfl
theorem hm_103 : mtab[103]? = some (yX8_lots, cX8_lots, 14, (some .int)) := rfl
theorem hm_104 : mtab[104]? = some (yX8_mark, cX8_mark, 4, (some .boolean)) := rfl
theorem hm_105 : mtab[105]? = some (yX8_count, cX8_count, 2, (some .int)) := rfl
theorem hm_106 : mtab[106]? = some (yX8_takeSigns, cX8_takeSigns, 6, none) := rfl
theorem hm_107 : mtab[107]? = some (yX8_lookRound, cX8_lookRound, 1, none) := rfl
theorem hm_108 : mtab[108]? = some (yX8_isOver, cX8_isOver, 1, (some .boolean)) := rfl
theorem hm_109 : mtab[109]? = some (yX8_gateRefused, cX8_gateRefused, 2, (some .int)) := rfl
theorem hm_110 : mtab[110]? = some (yX8_outcomeNow, cX8_outcomeNow, 1, (some .int)) := rfl
theorem hm_111 : mtab[111]? = some (yX8_outcomeBehind, cX8_outcomeBehind, 4, (some .int)) := rfl
theorem hm_112 : mtab[112]? = some (yX9_init, cX9_init, 1, none) := rfl
theorem hm_113 : mtab[113]? = some (yX9_thrown, cX9_thrown, 1, (some .int)) := rfl
theorem hm_114 : mtab[114]? = some (yX9_within, cX9_within, 3, (some .boolean)) := rfl
theorem hm_115 : mtab[115]? = some (yX9_feed, cX9_feed, 11, (some .int)) := rfl
theorem hm_116 : mtab[116]? = some (yX9_signAt, cX9_signAt, 2, (some .int)) := rfl
theorem hm_117 : mtab[117]? = some (yX9_nextToken, cX9_nextToken, 2, none) := rfl
theorem hm_118 : mtab[118]? = some (yX9_isWord, cX9_isWord, 3, (some .boolean)) := rfl
theorem hm_119 : mtab[119]? = some (yX9_isSign, cX9_isSign, 2, (some .boolean)) := rfl
theorem hm_120 : mtab[120]? = some (yX9_fails, cX9_fails, 2, (some .boolean)) := rfl
theorem hm_121 : mtab[121]? = some (yX9_puts, cX9_puts, 2, none) := rfl
theorem hm_122 : mtab[122]? = some (yX9_fact, cX9_fact, 1, (some .int)) := rfl
theorem hm_123 : mtab[123]? = some (yX9_reads, cX9_reads, 6, (some .boolean)) := rfl
theorem hm_124 : mtab[124]? = some (yX9_opens, cX9_opens, 2, none) := rfl
theorem hm_125 : mtab[125]? = some (yX9_sums, cX9_sums, 2, none) := rfl
theorem hm_126 : mtab[126]? = some (yX9_tests, cX9_tests, 3, none) := rfl
theorem hm_127 : mtab[127]? = some (yX9_worked, cX9_worked, 6, (some .int)) := rfl
theorem hm_128 : mtab[128]? = some (yX9_isKept, cX9_isKept, 1, (some .boolean)) := rfl
theorem hm_129 : mtab[129]? = some (yX9_needsNumber, cX9_needsNumber, 3, (some .boolean)) := rfl
theorem hm_130 : mtab[130]? = some (yX9_ends, cX9_ends, 1, (some .boolean)) := rfl
theorem hm_131 : mtab[131]? = some (yX9_kindAt, cX9_kindAt, 1, (some .int)) := rfl
theorem hm_132 : mtab[132]? = some (yX9_readsStone, cX9_readsStone, 3, (some .boolean)) := rfl
theorem hm_133 : mtab[133]? = some (yX9_readsGates, cX9_readsGates, 1, (some .boolean)) := rfl
theorem hm_134 : mtab[134]? = some (yX9_readsFine, cX9_readsFine, 1, (some .boolean)) := rfl
theorem hm_135 : mtab[135]? = some (yX9_readsAll, cX9_readsAll, 2, (some .boolean)) := rfl
theorem hm_136 : mtab[136]? = some (yX9_moves, cX9_moves, 5, none) := rfl
theorem hm_137 : mtab[137]? = some (yX9_lays, cX9_lays, 3, none) := rfl
theorem hm_138 : mtab[138]? = some (yX9_truce, cX9_truce, 1, (some .int)) := rfl
theorem hm_139 : mtab[139]? = some (yX9_begins, cX9_begins, 1, none) := rfl
theorem hm_140 : mtab[140]? = some (yX9_nothing, cX9_nothing, 3, none) := rfl
theorem hm_141 : mtab[141]? = some (yX9_isClosed, cX9_isClosed, 3, (some .boolean)) := rfl
theorem hm_142 : mtab[142]? = some (yX9_looks, cX9_looks, 3, none) := rfl
theorem hm_143 : mtab[143]? = some (yX9_isColumn, cX9_isColumn, 2, (some .boolean)) := rfl
theorem hm_144 : mtab[144]? = some (yX9_otherOf, cX9_otherOf, 2, (some .int)) := rfl
theorem hm_145 : mtab[145]? = some (yX9_isWide, cX9_isWide, 3, (some .boolean)) := rfl
theorem hm_146 : mtab[146]? = some (yX9_stands, cX9_stands, 9, (some .boolean)) := rfl
theorem hm_147 : mtab[147]? = some (yX9_why, cX9_why, 7, (some .int)) := rfl
theorem hm_148 : mtab[148]? = some (yX9_whyGate, cX9_whyGate, 4, (some .int)) := rfl
theorem hm_149 : mtab[149]? = some (yX9_nextAct, cX9_nextAct, 5, (some .int)) := rfl
theorem hm_150 : mtab[150]? = some (yX9_hasAct, cX9_hasAct, 2, (some .boolean)) := rfl
theorem hm_151 : mtab[151]? = some (yX9_acts, cX9_acts, 4, (some .int)) := rfl
theorem hm_152 : mtab[152]? = some (yX9_finds, cX9_finds, 5, (some .boolean)) := rfl
theorem hm_153 : mtab[153]? = some (yX9_sets, cX9_sets, 10, none) := rfl
theorem hm_154 : mtab[154]? = some (yX9_does, cX9_does, 6, none) := rfl
theorem hm_155 : mtab[155]? = some (yX9_keeps, cX9_keeps, 2, none) := rfl
theorem hm_156 : mtab[156]? = some (yX9_stone, cX9_stone, 3, (some .int)) := rfl
theorem hm_157 : mtab[157]? = some (yX9_set, cX9_set, 5, (some .int)) := rfl
theorem hm_158 : mtab[158]? = some (yX9_leave, cX9_leave, 3, (some .int)) := rfl
theorem hm_159 : mtab[159]? = some (yX9_fits, cX9_fits, 4, (some .int)) := rfl
theorem hm_160 : mtab[160]? = some (yX9_undo, cX9_undo, 2, (some .boolean)) := rfl
theorem hm_161 : mtab[161]? = some (yX9_column, cX9_column, 3, (some .int)) := rfl
theorem hm_162 : mtab[162]? = some (yX9_actsNow, cX9_actsNow, 1, (some .int)) := rfl
theorem hm_163 : mtab[163]? = some (yX9_state, cX9_state, 2, (some .int)) := rfl
theorem hm_164 : mtab[164]? = some (yX9_act, cX9_act, 3, (some .int)) := rfl
theorem hm_165 : mtab[165]? = some (yX9_isSmall, cX9_isSmall, 3, (some .boolean)) := rfl
theorem hm_166 : mtab[166]? = some (yX9_wallOf, cX9_wallOf, 5, (some .int)) := rfl
theorem hm_167 : mtab[167]? = some (yX9_numberOf, cX9_numberOf, 2, (some .int)) := rfl
theorem hm_168 : mtab[168]? = some (yX9_laysOut, cX9_laysOut, 6, none) := rfl
theorem hm_169 : mtab[169]? = some (yX9_copies, cX9_copies, 4, none) := rfl
theorem hm_170 : mtab[170]? = some (yX9_knows, cX9_knows, 2, none) := rfl
theorem hm_171 : mtab[171]? = some (yX9_isBetter, cX9_isBetter, 5, (some .boolean)) := rfl
theorem hm_172 : mtab[172]? = some (yX9_solves, cX9_solves, 9, (some .int)) := rfl
theorem hm_173 : mtab[173]? = some (yX9_now, cX9_now, 1, (some .int)) := rfl
theorem hm_174 : mtab[174]? = some (yX9_pays, cX9_pays, 1, (some .int)) := rfl
theorem hm_175 : mtab[175]? = some (yX9_days, cX9_days, 1, (some .int)) := rfl
theorem hm_176 : mtab[176]? = some (yX9_behind, cX9_behind, 2, (some .int)) := rfl
theorem hm_177 : mtab[177]? = some (yX9_best, cX9_best, 4, (some .int)) := rfl
theorem hm_178 : mtab[178]? = some (yX9_holds, cX9_holds, 3, (some .int)) := rfl
theorem hm_179 : mtab[179]? = some (yX9_ruled, cX9_ruled, 7, (some .int)) := rfl
theorem hm_180 : mtab[180]? = some (yX9_masons, cX9_masons, 11, (some .int)) := rfl
theorem hm_181 : mtab[181]? = some (yX9_mason, cX9_mason, 4, (some .int)) := rfl
theorem hm_182 : mtab[182]? = some (yX9_goesOn, cX9_goesOn, 5, none) := rfl
theorem hm_183 : mtab[183]? = some (yX9_reached, cX9_reached, 6, (some .int)) := rfl
theorem hm_184 : mtab[184]? = some (yX9_histories, cX9_histories, 5, (some .int)) := rfl
theorem hm_185 : mtab[185]? = some (yX9_draws, cX9_draws, 2, (some .int)) := rfl
theorem hm_186 : mtab[186]? = some (yX9_lots, cX9_lots, 7, (some .int)) := rfl
theorem hm_187 : mtab[187]? = some (yX9_mark, cX9_mark, 5, (some .boolean)) := rfl
theorem hm_188 : mtab[188]? = some (yX9_count, cX9_count, 2, (some .int)) := rfl
theorem hm_189 : mtab[189]? = some (yJ0_charAt_5068e, cJ0_charAt_5068e, 2, (some .char)) := rfl
theorem hm_190 : mtab[190]? = some (yJ0_isLatin1_aae02, cJ0_isLatin1_aae02, 1, (some .boolean)) := rfl
theorem hm_191 : mtab[191]? = some (yJ1_charAt_3b067, cJ1_charAt_3b067, 2, (some .char)) := rfl
theorem hm_192 : mtab[192]? = some (yJ0_checkIndex_df160, cJ0_checkIndex_df160, 2, none) := rfl
theorem hm_193 : mtab[193]? = some (yJ3_checkIndex_8e157, cJ3_checkIndex_8e157, 3, (some .int)) := rfl
theorem hm_194 : mtab[194]? = some (yX8_state, cX8_state, 2, (some .int)) := rfl
/-- X0_ofStone -/
abbrev i_X0_ofStone : Nat := 0
/-- X0_ofGate -/
abbrev i_X0_ofGate : Nat := 1
/-- X0_isGate -/
abbrev i_X0_isGate : Nat := 2
/-- X0_stoneOf -/
abbrev i_X0_stoneOf : Nat := 3
/-- X0_columnOf -/
abbrev i_X0_columnOf : Nat := 4
/-- X0_wideOf -/
abbrev i_X0_wideOf : Nat := 5
/-- X1_init -/
abbrev i_X1_init : Nat := 6
/-- X1_lay -/
abbrev i_X1_lay : Nat := 7
/-- X2_init -/
abbrev i_X2_init : Nat := 8
/-- X2_payerIn -/
abbrev i_X2_payerIn : Nat := 9
/-- X2_daysIn -/
abbrev i_X2_daysIn : Nat := 10
/-- X2_later -/
abbrev i_X2_later : Nat := 11
/-- X2_score -/
abbrev i_X2_score : Nat := 12
/-- X2_prepare -/
abbrev i_X2_prepare : Nat := 13
/-- X2_outcome -/
abbrev i_X2_outcome : Nat := 14
/-- X2_outcomeByChoice -/
abbrev i_X2_outcomeByChoice : Nat := 15
/-- X2_outcomeByRule -/
abbrev i_X2_outcomeByRule : Nat := 16
/-- X2_actByRule -/
abbrev i_X2_actByRule : Nat := 17
/-- X3_init -/
abbrev i_X3_init : Nat := 18
/-- X3_written -/
abbrev i_X3_written : Nat := 19
/-- X3_fineCode -/
abbrev i_X3_fineCode : Nat := 20
/-- X3_readTruce -/
abbrev i_X3_readTruce : Nat := 21
/-- X3_wallLine -/
abbrev i_X3_wallLine : Nat := 22
/-- X3_stoneLine -/
abbrev i_X3_stoneLine : Nat := 23
/-- X3_gatesLine -/
abbrev i_X3_gatesLine : Nat := 24
/-- X3_fineLine -/
abbrev i_X3_fineLine : Nat := 25
/-- X3_readE -/
abbrev i_X3_readE : Nat := 26
/-- X3_readTest -/
abbrev i_X3_readTest : Nat := 27
/-- X3_readSum -/
abbrev i_X3_readSum : Nat := 28
/-- X3_readProduct -/
abbrev i_X3_readProduct : Nat := 29
/-- X3_readPart -/
abbrev i_X3_readPart : Nat := 30
/-- X3_emit -/
abbrev i_X3_emit : Nat := 31
/-- X3_wrong -/
abbrev i_X3_wrong : Nat := 32
/-- X3_expect -/
abbrev i_X3_expect : Nat := 33
/-- X3_expectNumber -/
abbrev i_X3_expectNumber : Nat := 34
/-- X3_expectKind -/
abbrev i_X3_expectKind : Nat := 35
/-- X3_expectName -/
abbrev i_X3_expectName : Nat := 36
/-- X3_step -/
abbrev i_X3_step : Nat := 37
/-- X3_stepWord -/
abbrev i_X3_stepWord : Nat := 38
/-- X3_knownWord -/
abbrev i_X3_knownWord : Nat := 39
/-- X3_stepNumber -/
abbrev i_X3_stepNumber : Nat := 40
/-- X3_isLetter -/
abbrev i_X3_isLetter : Nat := 41
/-- X3_isDigit -/
abbrev i_X3_isDigit : Nat := 42
/-- X3_isSign -/
abbrev i_X3_isSign : Nat := 43
/-- X4_init -/
abbrev i_X4_init : Nat := 44
/-- X4_worth -/
abbrev i_X4_worth : Nat := 45
/-- X4_joined -/
abbrev i_X4_joined : Nat := 46
/-- X4_push -/
abbrev i_X4_push : Nat := 47
/-- X4_pop -/
abbrev i_X4_pop : Nat := 48
/-- X5_init -/
abbrev i_X5_init : Nat := 49
/-- X5_town -/
abbrev i_X5_town : Nat := 50
/-- X5_clear -/
abbrev i_X5_clear : Nat := 51
/-- X5_take -/
abbrev i_X5_take : Nat := 52
/-- X5_replay -/
abbrev i_X5_replay : Nat := 53
/-- X5_perform -/
abbrev i_X5_perform : Nat := 54
/-- X5_lodge -/
abbrev i_X5_lodge : Nat := 55
/-- X6_init -/
abbrev i_X6_init : Nat := 56
/-- X6_heightAt -/
abbrev i_X6_heightAt : Nat := 57
/-- X6_gateAt -/
abbrev i_X6_gateAt : Nat := 58
/-- X6_withPlace -/
abbrev i_X6_withPlace : Nat := 59
/-- X6_power -/
abbrev i_X6_power : Nat := 60
/-- X6_allCandidates -/
abbrev i_X6_allCandidates : Nat := 61
/-- X6_isAsTold -/
abbrev i_X6_isAsTold : Nat := 62
/-- X6_twinOf -/
abbrev i_X6_twinOf : Nat := 63
/-- X6_stoneHindrance -/
abbrev i_X6_stoneHindrance : Nat := 64
/-- X6_twinHindrance -/
abbrev i_X6_twinHindrance : Nat := 65
/-- X6_roundStands -/
abbrev i_X6_roundStands : Nat := 66
/-- X6_bridgeStands -/
abbrev i_X6_bridgeStands : Nat := 67
/-- X6_gateHindrance -/
abbrev i_X6_gateHindrance : Nat := 68
/-- X6_gatesLeft -/
abbrev i_X6_gatesLeft : Nat := 69
/-- X6_withGate -/
abbrev i_X6_withGate : Nat := 70
/-- X6_canDo -/
abbrev i_X6_canDo : Nat := 71
/-- X6_gather -/
abbrev i_X6_gather : Nat := 72
/-- X6_after -/
abbrev i_X6_after : Nat := 73
/-- X6_isClosed -/
abbrev i_X6_isClosed : Nat := 74
/-- X6_payer -/
abbrev i_X6_payer : Nat := 75
/-- X6_numberOf -/
abbrev i_X6_numberOf : Nat := 76
/-- X6_numberOfLooks -/
abbrev i_X6_numberOfLooks : Nat := 77
/-- X6_wallOf -/
abbrev i_X6_wallOf : Nat := 78
/-- X6_manyNumbers -/
abbrev i_X6_manyNumbers : Nat := 79
/-- X7_init -/
abbrev i_X7_init : Nat := 80
/-- X7_spread -/
abbrev i_X7_spread : Nat := 81
/-- X7_spreadDay -/
abbrev i_X7_spreadDay : Nat := 82
/-- X7_spreadWall -/
abbrev i_X7_spreadWall : Nat := 83
/-- X7_unlikeWalls -/
abbrev i_X7_unlikeWalls : Nat := 84
/-- X7_waysTo -/
abbrev i_X7_waysTo : Nat := 85
/-- X8_init -/
abbrev i_X8_init : Nat := 86
/-- X8_feed -/
abbrev i_X8_feed : Nat := 87
/-- X8_truce -/
abbrev i_X8_truce : Nat := 88
/-- X8_stone -/
abbrev i_X8_stone : Nat := 89
/-- X8_set -/
abbrev i_X8_set : Nat := 90
/-- X8_leave -/
abbrev i_X8_leave : Nat := 91
/-- X8_fits -/
abbrev i_X8_fits : Nat := 92
/-- X8_undo -/
abbrev i_X8_undo : Nat := 93
/-- X8_column -/
abbrev i_X8_column : Nat := 94
/-- X8_act -/
abbrev i_X8_act : Nat := 95
/-- X8_pays -/
abbrev i_X8_pays : Nat := 96
/-- X8_days -/
abbrev i_X8_days : Nat := 97
/-- X8_best -/
abbrev i_X8_best : Nat := 98
/-- X8_holds -/
abbrev i_X8_holds : Nat := 99
/-- X8_mason -/
abbrev i_X8_mason : Nat := 100
/-- X8_reached -/
abbrev i_X8_reached : Nat := 101
/-- X8_histories -/
abbrev i_X8_histories : Nat := 102
/-- X8_lots -/
abbrev i_X8_lots : Nat := 103
/-- X8_mark -/
abbrev i_X8_mark : Nat := 104
/-- X8_count -/
abbrev i_X8_count : Nat := 105
/-- X8_takeSigns -/
abbrev i_X8_takeSigns : Nat := 106
/-- X8_lookRound -/
abbrev i_X8_lookRound : Nat := 107
/-- X8_isOver -/
abbrev i_X8_isOver : Nat := 108
/-- X8_gateRefused -/
abbrev i_X8_gateRefused : Nat := 109
/-- X8_outcomeNow -/
abbrev i_X8_outcomeNow : Nat := 110
/-- X8_outcomeBehind -/
abbrev i_X8_outcomeBehind : Nat := 111
/-- X9_init -/
abbrev i_X9_init : Nat := 112
/-- X9_thrown -/
abbrev i_X9_thrown : Nat := 113
/-- X9_within -/
abbrev i_X9_within : Nat := 114
/-- X9_feed -/
abbrev i_X9_feed : Nat := 115
/-- X9_signAt -/
abbrev i_X9_signAt : Nat := 116
/-- X9_nextToken -/
abbrev i_X9_nextToken : Nat := 117
/-- X9_isWord -/
abbrev i_X9_isWord : Nat := 118
/-- X9_isSign -/
abbrev i_X9_isSign : Nat := 119
/-- X9_fails -/
abbrev i_X9_fails : Nat := 120
/-- X9_puts -/
abbrev i_X9_puts : Nat := 121
/-- X9_fact -/
abbrev i_X9_fact : Nat := 122
/-- X9_reads -/
abbrev i_X9_reads : Nat := 123
/-- X9_opens -/
abbrev i_X9_opens : Nat := 124
/-- X9_sums -/
abbrev i_X9_sums : Nat := 125
/-- X9_tests -/
abbrev i_X9_tests : Nat := 126
/-- X9_worked -/
abbrev i_X9_worked : Nat := 127
/-- X9_isKept -/
abbrev i_X9_isKept : Nat := 128
/-- X9_needsNumber -/
abbrev i_X9_needsNumber : Nat := 129
/-- X9_ends -/
abbrev i_X9_ends : Nat := 130
/-- X9_kindAt -/
abbrev i_X9_kindAt : Nat := 131
/-- X9_readsStone -/
abbrev i_X9_readsStone : Nat := 132
/-- X9_readsGates -/
abbrev i_X9_readsGates : Nat := 133
/-- X9_readsFine -/
abbrev i_X9_readsFine : Nat := 134
/-- X9_readsAll -/
abbrev i_X9_readsAll : Nat := 135
/-- X9_moves -/
abbrev i_X9_moves : Nat := 136
/-- X9_lays -/
abbrev i_X9_lays : Nat := 137
/-- X9_truce -/
abbrev i_X9_truce : Nat := 138
/-- X9_begins -/
abbrev i_X9_begins : Nat := 139
/-- X9_nothing -/
abbrev i_X9_nothing : Nat := 140
/-- X9_isClosed -/
abbrev i_X9_isClosed : Nat := 141
/-- X9_looks -/
abbrev i_X9_looks : Nat := 142
/-- X9_isColumn -/
abbrev i_X9_isColumn : Nat := 143
/-- X9_otherOf -/
abbrev i_X9_otherOf : Nat := 144
/-- X9_isWide -/
abbrev i_X9_isWide : Nat := 145
/-- X9_stands -/
abbrev i_X9_stands : Nat := 146
/-- X9_why -/
abbrev i_X9_why : Nat := 147
/-- X9_whyGate -/
abbrev i_X9_whyGate : Nat := 148
/-- X9_nextAct -/
abbrev i_X9_nextAct : Nat := 149
/-- X9_hasAct -/
abbrev i_X9_hasAct : Nat := 150
/-- X9_acts -/
abbrev i_X9_acts : Nat := 151
/-- X9_finds -/
abbrev i_X9_finds : Nat := 152
/-- X9_sets -/
abbrev i_X9_sets : Nat := 153
/-- X9_does -/
abbrev i_X9_does : Nat := 154
/-- X9_keeps -/
abbrev i_X9_keeps : Nat := 155
/-- X9_stone -/
abbrev i_X9_stone : Nat := 156
/-- X9_set -/
abbrev i_X9_set : Nat := 157
/-- X9_leave -/
abbrev i_X9_leave : Nat := 158
/-- X9_fits -/
abbrev i_X9_fits : Nat := 159
/-- X9_undo -/
abbrev i_X9_undo : Nat := 160
/-- X9_column -/
abbrev i_X9_column : Nat := 161
/-- X9_actsNow -/
abbrev i_X9_actsNow : Nat := 162
/-- X9_state -/
abbrev i_X9_state : Nat := 163
/-- X9_act -/
abbrev i_X9_act : Nat := 164
/-- X9_isSmall -/
abbrev i_X9_isSmall : Nat := 165
/-- X9_wallOf -/
abbrev i_X9_wallOf : Nat := 166
/-- X9_numberOf -/
abbrev i_X9_numberOf : Nat := 167
/-- X9_laysOut -/
abbrev i_X9_laysOut : Nat := 168
/-- X9_copies -/
abbrev i_X9_copies : Nat := 169
/-- X9_knows -/
abbrev i_X9_knows : Nat := 170
/-- X9_isBetter -/
abbrev i_X9_isBetter : Nat := 171
/-- X9_solves -/
abbrev i_X9_solves : Nat := 172
/-- X9_now -/
abbrev i_X9_now : Nat := 173
/-- X9_pays -/
abbrev i_X9_pays : Nat := 174
/-- X9_days -/
abbrev i_X9_days : Nat := 175
/-- X9_behind -/
abbrev i_X9_behind : Nat := 176
/-- X9_best -/
abbrev i_X9_best : Nat := 177
/-- X9_holds -/
abbrev i_X9_holds : Nat := 178
/-- X9_ruled -/
abbrev i_X9_ruled : Nat := 179
/-- X9_masons -/
abbrev i_X9_masons : Nat := 180
/-- X9_mason -/
abbrev i_X9_mason : Nat := 181
/-- X9_goesOn -/
abbrev i_X9_goesOn : Nat := 182
/-- X9_reached -/
abbrev i_X9_reached : Nat := 183
/-- X9_histories -/
abbrev i_X9_histories : Nat := 184
/-- X9_draws -/
abbrev i_X9_draws : Nat := 185
/-- X9_lots -/
abbrev i_X9_lots : Nat := 186
/-- X9_mark -/
abbrev i_X9_mark : Nat := 187
/-- X9_count -/
abbrev i_X9_count : Nat := 188
/-- J0_charAt_5068e -/
abbrev i_J0_charAt_5068e : Nat := 189
/-- J0_isLatin1_aae02 -/
abbrev i_J0_isLatin1_aae02 : Nat := 190
/-- J1_charAt_3b067 -/
abbrev i_J1_charAt_3b067 : Nat := 191
/-- J0_checkIndex_df160 -/
abbrev i_J0_checkIndex_df160 : Nat := 192
/-- J3_checkIndex_8e157 -/
abbrev i_J3_checkIndex_8e157 : Nat := 193
/-- X8_state -/
abbrev i_X8_state : Nat := 194
theorem rd_le {X : Cx} {d m : Nat} (h : Rd X d 45) (hm : m ≤ 45) : Rd X d m := ⟨h.1, by have := h.2; omega⟩
theorem ck_0 : CK 0 RX1 TX1 := ⟨rfl, by decide, fun w hw => List.mem_filter.mpr ⟨(by decide +kernel : ∀ w ∈ u_ws RX1 TX1 (nC 0), w ∈ lw_tbl) w hw, (by decide +kernel : ∀ w ∈ u_ws RX1 TX1 (nC 0), goodWord w = true) w hw⟩, tyX1_ok, nmX1⟩
theorem nd_0 : ∀ (base j : Nat), j < nC 0 → defaultValue (tyC 0 j) = fv base (nw (fun _ _ => 0, fun _ _ => 0, fun _ _ => 0, fun _ => (0, 0), 0, 0) 0 (nC 0)) 1 (tyC 0 j) j := by
  intro base j hj
  have hj : j < 3 := hj
  match j, hj with
  | 0, _ => exact rfl
  | 1, _ => exact rfl
  | 2, _ => exact rfl
  | j + 3, hj => exact absurd hj (by omega)
theorem ck_1 : CK 1 RX2 TX2 := ⟨rfl, by decide, fun w hw => List.mem_filter.mpr ⟨(by decide +kernel : ∀ w ∈ u_ws RX2 TX2 (nC 1), w ∈ lw_tbl) w hw, (by decide +kernel : ∀ w ∈ u_ws RX2 TX2 (nC 1), goodWord w = true) w hw⟩, tyX2_ok, nmX2⟩
theorem nd_1 : ∀ (base j : Nat), j < nC 1 → defaultValue (tyC 1 j) = fv base (nw (fun _ _ => 0, fun _ _ => 0, fun _ _ => 0, fun _ => (0, 0), 0, 0) 1 (nC 1)) 1 (tyC 1 j) j := by
  intro base j hj
  have hj : j < 4 := hj
  match j, hj with
  | 0, _ => exact rfl
  | 1, _ => exact rfl
  | 2, _ => exact rfl
  | 3, _ => exact rfl
  | j + 4, hj => exact absurd hj (by omega)
theorem ck_2 : CK 2 RX3 TX3 := ⟨rfl, by decide, fun w hw => List.mem_filter.mpr ⟨(by decide +kernel : ∀ w ∈ u_ws RX3 TX3 (nC 2), w ∈ lw_tbl) w hw, (by decide +kernel : ∀ w ∈ u_ws RX3 TX3 (nC 2), goodWord w = true) w hw⟩, tyX3_ok, nmX3⟩
theorem nd_2 : ∀ (base j : Nat), j < nC 2 → defaultValue (tyC 2 j) = fv base (nw (fun _ _ => 0, fun _ _ => 0, fun _ _ => 0, fun _ => (0, 0), 0, 0) 2 (nC 2)) 1 (tyC 2 j) j := by
  intro base j hj
  have hj : j < 19 := hj
  match j, hj with
  | 0, _ => exact rfl
  | 1, _ => exact rfl
  | 2, _ => exact rfl
  | 3, _ => exact rfl
  | 4, _ => exact rfl
  | 5, _ => exact rfl
  | 6, _ => exact rfl
  | 7, _ => exact rfl
  | 8, _ => exact rfl
  | 9, _ => exact rfl
  | 10, _ => exact rfl
  | 11, _ => exact rfl
  | 12, _ => exact rfl
  | 13, _ => exact rfl
  | 14, _ => exact rfl
  | 15, _ => exact rfl
  | 16, _ => exact rfl
  | 17, _ => exact rfl
  | 18, _ => exact rfl
  | j + 19, hj => exact absurd hj (by omega)
theorem ck_3 : CK 3 RX4 TX4 := ⟨rfl, by decide, fun w hw => List.mem_filter.mpr ⟨(by decide +kernel : ∀ w ∈ u_ws RX4 TX4 (nC 3), w ∈ lw_tbl) w hw, (by decide +kernel : ∀ w ∈ u_ws RX4 TX4 (nC 3), goodWord w = true) w hw⟩, tyX4_ok, nmX4⟩
theorem nd_3 : ∀ (base j : Nat), j < nC 3 → defaultValue (tyC 3 j) = fv base (nw (fun _ _ => 0, fun _ _ => 0, fun _ _ => 0, fun _ => (0, 0), 0, 0) 3 (nC 3)) 1 (tyC 3 j) j := by
  intro base j hj
  have hj : j < 2 := hj
  match j, hj with
  | 0, _ => exact rfl
  | 1, _ => exact rfl
  | j + 2, hj => exact absurd hj (by omega)
theorem ck_4 : CK 4 RX5 TX5 := ⟨rfl, by decide, fun w hw => List.mem_filter.mpr ⟨(by decide +kernel : ∀ w ∈ u_ws RX5 TX5 (nC 4), w ∈ lw_tbl) w hw, (by decide +kernel : ∀ w ∈ u_ws RX5 TX5 (nC 4), goodWord w = true) w hw⟩, tyX5_ok, nmX5⟩
theorem nd_4 : ∀ (base j : Nat), j < nC 4 → defaultValue (tyC 4 j) = fv base (nw (fun _ _ => 0, fun _ _ => 0, fun _ _ => 0, fun _ => (0, 0), 0, 0) 4 (nC 4)) 1 (tyC 4 j) j := by
  intro base j hj
  have hj : j < 8 := hj
  match j, hj with
  | 0, _ => exact rfl
  | 1, _ => exact rfl
  | 2, _ => exact rfl
  | 3, _ => exact rfl
  | 4, _ => exact rfl
  | 5, _ => exact rfl
  | 6, _ => exact rfl
  | 7, _ => exact rfl
  | j + 8, hj => exact absurd hj (by omega)
theorem ck_5 : CK 5 RX6 TX6 := ⟨rfl, by decide, fun w hw => List.mem_filter.mpr ⟨(by decide +kernel : ∀ w ∈ u_ws RX6 TX6 (nC 5), w ∈ lw_tbl) w hw, (by decide +kernel : ∀ w ∈ u_ws RX6 TX6 (nC 5), goodWord w = true) w hw⟩, tyX6_ok, nmX6⟩
theorem nd_5 : ∀ (base j : Nat), j < nC 5 → defaultValue (tyC 5 j) = fv base (nw (fun _ _ => 0, fun _ _ => 0, fun _ _ => 0, fun _ => (0, 0), 0, 0) 5 (nC 5)) 1 (tyC 5 j) j := by
  intro base j hj
  have hj : j < 9 := hj
  match j, hj with
  | 0, _ => exact rfl
  | 1, _ => exact rfl
  | 2, _ => exact rfl
  | 3, _ => exact rfl
  | 4, _ => exact rfl
  | 5, _ => exact rfl
  | 6, _ => exact rfl
  | 7, _ => exact rfl
  | 8, _ => exact rfl
  | j + 9, hj => exact absurd hj (by omega)
theorem ck_6 : CK 6 RX7 TX7 := ⟨rfl, by decide, fun w hw => List.mem_filter.mpr ⟨(by decide +kernel : ∀ w ∈ u_ws RX7 TX7 (nC 6), w ∈ lw_tbl) w hw, (by decide +kernel : ∀ w ∈ u_ws RX7 TX7 (nC 6), goodWord w = true) w hw⟩, tyX7_ok, nmX7⟩
theorem nd_6 : ∀ (base j : Nat), j < nC 6 → defaultValue (tyC 6 j) = fv base (nw (fun _ _ => 0, fun _ _ => 0, fun _ _ => 0, fun _ => (0, 0), 0, 0) 6 (nC 6)) 1 (tyC 6 j) j := by
  intro base j hj
  have hj : j < 1 := hj
  match j, hj with
  | 0, _ => exact rfl
  | j + 1, hj => exact absurd hj (by omega)
theorem ck_7 : CK 7 RX8 TX8 := ⟨rfl, by decide, fun w hw => List.mem_filter.mpr ⟨(by decide +kernel : ∀ w ∈ u_ws RX8 TX8 (nC 7), w ∈ lw_tbl) w hw, (by decide +kernel : ∀ w ∈ u_ws RX8 TX8 (nC 7), goodWord w = true) w hw⟩, tyX8_ok, nmX8⟩
theorem nd_7 : ∀ (base j : Nat), j < nC 7 → defaultValue (tyC 7 j) = fv base (nw (fun _ _ => 0, fun _ _ => 0, fun _ _ => 0, fun _ => (0, 0), 0, 0) 7 (nC 7)) 1 (tyC 7 j) j := by
  intro base j hj
  have hj : j < 12 := hj
  match j, hj with
  | 0, _ => exact rfl
  | 1, _ => exact rfl
  | 2, _ => exact rfl
  | 3, _ => exact rfl
  | 4, _ => exact rfl
  | 5, _ => exact rfl
  | 6, _ => exact rfl
  | 7, _ => exact rfl
  | 8, _ => exact rfl
  | 9, _ => exact rfl
  | 10, _ => exact rfl
  | 11, _ => exact rfl
  | j + 12, hj => exact absurd hj (by omega)
theorem ck_8 : CK 8 RX9 TX9 := ⟨rfl, by decide, fun w hw => List.mem_filter.mpr ⟨(by decide +kernel : ∀ w ∈ u_ws RX9 TX9 (nC 8), w ∈ lw_tbl) w hw, (by decide +kernel : ∀ w ∈ u_ws RX9 TX9 (nC 8), goodWord w = true) w hw⟩, tyX9_ok, nmX9⟩
theorem nd_8 : ∀ (base j : Nat), j < nC 8 → defaultValue (tyC 8 j) = fv base (nw (fun _ _ => 0, fun _ _ => 0, fun _ _ => 0, fun _ => (0, 0), 0, 0) 8 (nC 8)) 1 (tyC 8 j) j := by
  intro base j hj
  have hj : j < 52 := hj
  match j, hj with
  | 0, _ => exact rfl
  | 1, _ => exact rfl
  | 2, _ => exact rfl
  | 3, _ => exact rfl
  | 4, _ => exact rfl
  | 5, _ => exact rfl
  | 6, _ => exact rfl
  | 7, _ => exact rfl
  | 8, _ => exact rfl
  | 9, _ => exact rfl
  | 10, _ => exact rfl
  | 11, _ => exact rfl
  | 12, _ => exact rfl
  | 13, _ => exact rfl
  | 14, _ => exact rfl
  | 15, _ => exact rfl
  | 16, _ => exact rfl
  | 17, _ => exact rfl
  | 18, _ => exact rfl
  | 19, _ => exact rfl
  | 20, _ => exact rfl
  | 21, _ => exact rfl
  | 22, _ => exact rfl
  | 23, _ => exact rfl
  | 24, _ => exact rfl
  | 25, _ => exact rfl
  | 26, _ => exact rfl
  | 27, _ => exact rfl
  | 28, _ => exact rfl
  | 29, _ => exact rfl
  | 30, _ => exact rfl
  | 31, _ => exact rfl
  | 32, _ => exact rfl
  | 33, _ => exact rfl
  | 34, _ => exact rfl
  | 35, _ => exact rfl
  | 36, _ => exact rfl
  | 37, _ => exact rfl
  | 38, _ => exact rfl
  | 39, _ => exact rfl
  | 40, _ => exact rfl
  | 41, _ => exact rfl
  | 42, _ => exact rfl
  | 43, _ => exact rfl
  | 44, _ => exact rfl
  | 45, _ => exact rfl
  | 46, _ => exact rfl
  | 47, _ => exact rfl
  | 48, _ => exact rfl
  | 49, _ => exact rfl
  | 50, _ => exact rfl
  | 51, _ => exact rfl
  | j + 52, hj => exact absurd hj (by omega)

theorem tk0 : ∀ q ∈ tt0, sok tm (RL, yL_law, cL_law, 7, (some .boolean), 50, 5000) q = true := fun q h => (fun h => (List.mem_append.mp h).elim (tk0_0 q) (fun h => (List.mem_append.mp h).elim (tk0_1 q) (fun h => (List.mem_append.mp h).elim (tk0_2 q) (fun h => (List.mem_append.mp h).elim (tk0_3 q) (fun h => (List.mem_append.mp h).elim (tk0_4 q) (fun h => (List.mem_append.mp h).elim (tk0_5 q) (fun h => (List.mem_append.mp h).elim (tk0_6 q) (fun h => (List.mem_append.mp h).elim (tk0_7 q) (fun h => (List.mem_append.mp h).elim (tk0_8 q) (fun h => (List.mem_append.mp h).elim (tk0_9 q) (fun h => (List.mem_append.mp h).elim (tk0_10 q) (fun h => (List.mem_append.mp h).elim (tk0_11 q) (fun h => (List.mem_append.mp h).elim (tk0_12 q) (fun h => (List.mem_append.mp h).elim (tk0_13 q) (fun h => (List.mem_append.mp h).elim (tk0_14 q) (fun h => (List.mem_append.mp h).elim (tk0_15 q) (fun h => (List.mem_append.mp h).elim (tk0_16 q) (fun h => (List.mem_append.mp h).elim (tk0_17 q) (fun h => (List.mem_append.mp h).elim (tk0_18 q) (fun h => (List.mem_append.mp h).elim (tk0_19 q) (fun h => (List.mem_append.mp h).elim (tk0_20 q) (fun h => (List.mem_append.mp h).elim (tk0_21 q) (fun h => (List.mem_append.mp h).elim (tk0_22 q) (tk0_23 q)))))))))))))))))))))))) h
theorem tk1 : ∀ q ∈ tt1, sok tm (RX9, yX9_linesTold, cX9_linesTold, 3, (some .int), 0, 0) q = true := tk1_0
theorem tk2 : ∀ q ∈ tt2, sok tm (RX9, yX9_placesTold, cX9_placesTold, 3, (some .int), 0, 0) q = true := tk2_0
theorem tk3 : ∀ q ∈ tt3, sok tm (RX1, yX1_toldNumber, cX1_toldNumber, 5, (some .int), 0, 0) q = true := tk3_0
theorem tk4 : ∀ q ∈ tt4, sok tm (RX2, yX2_toldNumber, cX2_toldNumber, 3, (some .int), 0, 0) q = true := tk4_0
theorem tk5 : ∀ q ∈ tt5, sok tm (RX9, yX9_cutsTold, cX9_cutsTold, 3, (some .int), 0, 0) q = true := tk5_0
theorem tk6 : ∀ q ∈ tt6, sok tm (RX9, yX9_count, cX9_count, 2, (some .int), 0, 0) q = true := tk6_0
theorem tk7 : ∀ q ∈ tt7, sok tm (RX1, yX1_layFrom, cX1_layFrom, 6, (some .int), 0, 0) q = true := fun q h => (fun h => (List.mem_append.mp h).elim (tk7_0 q) (tk7_1 q)) h
theorem tk8 : ∀ q ∈ tt8, sok tm (RX1, yX1_isSuited, cX1_isSuited, 5, (some .boolean), 0, 0) q = true := fun q h => (fun h => (List.mem_append.mp h).elim (tk8_0 q) (tk8_1 q)) h
theorem tk9 : ∀ q ∈ tt9, sok tm (RX1, yX1_layAll, cX1_layAll, 2, none, 0, 0) q = true := tk9_0
theorem tk10 : ∀ q ∈ tt10, sok tm (RX9, yX9_back, cX9_back, 2, (some .int), 0, 0) q = true := tk10_0
theorem tk11 : ∀ q ∈ tt11, sok tm (RX9, yX9_isBelow, cX9_isBelow, 2, (some .boolean), 0, 0) q = true := tk11_0
theorem tk12 : ∀ q ∈ tt12, sok tm (RX1, yX1_sureBlocks, cX1_sureBlocks, 3, (some .int), 0, 0) q = true := tk12_0
theorem tk13 : ∀ q ∈ tt13, sok tm (RJ6, yJ6_bitCount_0f7a4, cJ6_bitCount_0f7a4, 1, (some .int), 0, 0) q = true := fun q h => (fun h => (List.mem_append.mp h).elim (tk13_0 q) (tk13_1 q)) h
theorem tk14 : ∀ q ∈ tt14, sok tm (RX9, yX9_ways, cX9_ways, 2, (some .int), 0, 0) q = true := tk14_0
theorem tk15 : ∀ q ∈ tt15, sok tm (RX9, yX9_block, cX9_block, 7, (some .boolean), 0, 0) q = true := fun q h => (fun h => (List.mem_append.mp h).elim (tk15_0 q) (tk15_1 q)) h
theorem tk16 : ∀ q ∈ tt16, sok tm (RX1, yX1_tell, cX1_tell, 5, none, 0, 0) q = true := tk16_0
theorem tk17 : ∀ q ∈ tt17, sok tm (RX8, yX8_isErasedBy, cX8_isErasedBy, 4, (some .boolean), 0, 0) q = true := tk17_0
theorem tk18 : ∀ q ∈ tt18, sok tm (RX9, yX9_isErasure, cX9_isErasure, 1, (some .boolean), 0, 0) q = true := tk18_0
theorem tk19 : ∀ q ∈ tt19, sok tm (RX9, yX9_highestDone, cX9_highestDone, 5, (some .int), 0, 0) q = true := tk19_0
theorem tk20 : ∀ q ∈ tt20, sok tm (RX9, yX9_sortsDone, cX9_sortsDone, 5, (some .int), 0, 0) q = true := tk20_0
theorem tk21 : ∀ q ∈ tt21, sok tm (RX9, yX9_lowestLeft, cX9_lowestLeft, 4, (some .int), 0, 0) q = true := tk21_0
theorem tk22 : ∀ q ∈ tt22, sok tm (RX8, yX8_bears, cX8_bears, 2, (some .boolean), 0, 0) q = true := tk22_0
theorem tk23 : ∀ q ∈ tt23, sok tm (RX9, yX9_sortsLeft, cX9_sortsLeft, 4, (some .int), 0, 0) q = true := tk23_0
theorem tk24 : ∀ q ∈ tt24, sok tm (RX9, yX9_far, cX9_far, 4, (some .int), 0, 0) q = true := tk24_0
theorem tk25 : ∀ q ∈ tt25, sok tm (RX2, yX2_isTold, cX2_isTold, 2, (some .boolean), 0, 0) q = true := tk25_0
theorem tk26 : ∀ q ∈ tt26, sok tm (RX5, yX5_evaluate, cX5_evaluate, 8, (some .int), 0, 0) q = true := fun q h => (fun h => (List.mem_append.mp h).elim (tk26_0 q) (fun h => (List.mem_append.mp h).elim (tk26_1 q) (tk26_2 q))) h
theorem tk27 : ∀ q ∈ tt27, sok tm (RX5, yX5_join, cX5_join, 3, (some .int), 0, 0) q = true := fun q h => (fun h => (List.mem_append.mp h).elim (tk27_0 q) (tk27_1 q)) h
theorem tk28 : ∀ q ∈ tt28, sok tm (RX5, yX5_fact, cX5_fact, 4, (some .int), 0, 0) q = true := fun q h => (fun h => (List.mem_append.mp h).elim (tk28_0 q) (tk28_1 q)) h
theorem tk29 : ∀ q ∈ tt29, sok tm (RX5, yX5_standingAt, cX5_standingAt, 2, (some .int), 0, 0) q = true := tk29_0
theorem tk30 : ∀ q ∈ tt30, sok tm (RX2, yX2_areAlike, cX2_areAlike, 9, (some .boolean), 0, 0) q = true := fun q h => (fun h => (List.mem_append.mp h).elim (tk30_0 q) (fun h => (List.mem_append.mp h).elim (tk30_1 q) (tk30_2 q))) h
theorem tk31 : ∀ q ∈ tt31, sok tm (RX5, yX5_obey, cX5_obey, 6, none, 0, 0) q = true := fun q h => (fun h => (List.mem_append.mp h).elim (tk31_0 q) (tk31_1 q)) h
theorem tk32 : ∀ q ∈ tt32, sok tm (RX5, yX5_canDo, cX5_canDo, 6, (some .boolean), 0, 0) q = true := fun q h => (fun h => (List.mem_append.mp h).elim (tk32_0 q) (tk32_1 q)) h
theorem tk33 : ∀ q ∈ tt33, sok tm (RX5, yX5_isBelowTop, cX5_isBelowTop, 3, (some .boolean), 0, 0) q = true := tk33_0
theorem tk34 : ∀ q ∈ tt34, sok tm (RX5, yX5_work, cX5_work, 5, none, 0, 0) q = true := tk34_0
theorem tk35 : ∀ q ∈ tt35, sok tm (RX5, yX5_add, cX5_add, 6, none, 0, 0) q = true := tk35_0
theorem tk36 : ∀ q ∈ tt36, sok tm (RX5, yX5_isAgainst, cX5_isAgainst, 3, (some .boolean), 0, 0) q = true := tk36_0
theorem tk37 : ∀ q ∈ tt37, sok tm (RX5, yX5_findMissed, cX5_findMissed, 5, (some .int), 0, 0) q = true := tk37_0
theorem tk38 : ∀ q ∈ tt38, sok tm (RX5, yX5_perform, cX5_perform, 3, none, 0, 0) q = true := fun q h => (fun h => (List.mem_append.mp h).elim (tk38_0 q) (tk38_1 q)) h
theorem tk39 : ∀ q ∈ tt39, sok tm (RX5, yX5_begin, cX5_begin, 3, none, 0, 0) q = true := tk39_0
theorem tk40 : ∀ q ∈ tt40, sok tm (RX9, yX9_missed, cX9_missed, 2, (some .int), 0, 0) q = true := tk40_0
theorem tk41 : ∀ q ∈ tt41, sok tm (RX5, yX5_cutsTogether, cX5_cutsTogether, 3, (some .int), 0, 0) q = true := tk41_0
theorem tk42 : ∀ q ∈ tt42, sok tm (RX5, yX5_isAsTold, cX5_isAsTold, 6, (some .boolean), 0, 0) q = true := fun q h => (fun h => (List.mem_append.mp h).elim (tk42_0 q) (tk42_1 q)) h
theorem tk43 : ∀ q ∈ tt43, sok tm (RX5, yX5_agreeing, cX5_agreeing, 3, (some .int), 0, 0) q = true := tk43_0
theorem tk44 : ∀ q ∈ tt44, sok tm (RX9, yX9_agrees, cX9_agrees, 2, (some .int), 0, 0) q = true := tk44_0
theorem tk45 : ∀ q ∈ tt45, sok tm (RX9, yX9_made, cX9_made, 5, (some .int), 0, 0) q = true := fun q h => (fun h => (List.mem_append.mp h).elim (tk45_0 q) (tk45_1 q)) h
theorem tk46 : ∀ q ∈ tt46, sok tm (RX9, yX9_isPlace, cX9_isPlace, 2, (some .boolean), 0, 0) q = true := tk46_0
theorem tk47 : ∀ q ∈ tt47, sok tm (RX9, yX9_ran, cX9_ran, 3, (some .int), 0, 0) q = true := tk47_0
theorem tk48 : ∀ q ∈ tt48, sok tm (RX9, yX9_works, cX9_works, 4, (some .boolean), 0, 0) q = true := tk48_0
theorem tk49 : ∀ q ∈ tt49, sok tm (RX5, yX5_forget, cX5_forget, 1, none, 0, 0) q = true := tk49_0
theorem tk50 : ∀ q ∈ tt50, sok tm (RX4, yX4_takeNumber, cX4_takeNumber, 1, none, 0, 0) q = true := fun q h => (fun h => (List.mem_append.mp h).elim (tk50_0 q) (tk50_1 q)) h
theorem tk51 : ∀ q ∈ tt51, sok tm (RX9, yX9_isDigit, cX9_isDigit, 1, (some .boolean), 0, 0) q = true := tk51_0
theorem tk52 : ∀ q ∈ tt52, sok tm (RX4, yX4_isWordOfCell, cX4_isWordOfCell, 4, (some .boolean), 0, 0) q = true := tk52_0
theorem tk53 : ∀ q ∈ tt53, sok tm (RX4, yX4_takeWord, cX4_takeWord, 2, none, 0, 0) q = true := fun q h => (fun h => (List.mem_append.mp h).elim (tk53_0 q) (tk53_1 q)) h
theorem tk54 : ∀ q ∈ tt54, sok tm (RX9, yX9_isLetter, cX9_isLetter, 1, (some .boolean), 0, 0) q = true := tk54_0
theorem tk55 : ∀ q ∈ tt55, sok tm (RX4, yX4_advance, cX4_advance, 1, none, 0, 0) q = true := fun q h => (fun h => (List.mem_append.mp h).elim (tk55_0 q) (tk55_1 q)) h
theorem tk56 : ∀ q ∈ tt56, sok tm (RX9, yX9_isBlank, cX9_isBlank, 1, (some .boolean), 0, 0) q = true := tk56_0
theorem tk57 : ∀ q ∈ tt57, sok tm (RX4, yX4_kindOfSign, cX4_kindOfSign, 1, (some .int), 0, 0) q = true := tk57_0
theorem tk58 : ∀ q ∈ tt58, sok tm (RX4, yX4_endPart, cX4_endPart, 2, none, 0, 0) q = true := tk58_0
theorem tk59 : ∀ q ∈ tt59, sok tm (RX3, yX3_addCode, cX3_addCode, 2, none, 0, 0) q = true := tk59_0
theorem tk60 : ∀ q ∈ tt60, sok tm (RX4, yX4_release, cX4_release, 3, none, 0, 0) q = true := tk60_0
theorem tk61 : ∀ q ∈ tt61, sok tm (RX4, yX4_rankOf, cX4_rankOf, 1, (some .int), 0, 0) q = true := tk61_0
theorem tk62 : ∀ q ∈ tt62, sok tm (RX4, yX4_readWhen, cX4_readWhen, 3, (some .boolean), 0, 0) q = true := fun q h => (fun h => (List.mem_append.mp h).elim (tk62_0 q) (tk62_1 q)) h
theorem tk63 : ∀ q ∈ tt63, sok tm (RX4, yX4_takeJoint, cX4_takeJoint, 2, (some .boolean), 0, 0) q = true := fun q h => (fun h => (List.mem_append.mp h).elim (tk63_0 q) (tk63_1 q)) h
theorem tk64 : ∀ q ∈ tt64, sok tm (RX4, yX4_hold, cX4_hold, 2, none, 0, 0) q = true := tk64_0
theorem tk65 : ∀ q ∈ tt65, sok tm (RX4, yX4_close, cX4_close, 1, (some .boolean), 0, 0) q = true := tk65_0
theorem tk66 : ∀ q ∈ tt66, sok tm (RX4, yX4_refuse, cX4_refuse, 2, (some .boolean), 0, 0) q = true := tk66_0
theorem tk67 : ∀ q ∈ tt67, sok tm (RX4, yX4_takePart, cX4_takePart, 3, (some .boolean), 0, 0) q = true := fun q h => (fun h => (List.mem_append.mp h).elim (tk67_0 q) (tk67_1 q)) h
theorem tk68 : ∀ q ∈ tt68, sok tm (RX4, yX4_readLine, cX4_readLine, 2, (some .boolean), 0, 0) q = true := fun q h => (fun h => (List.mem_append.mp h).elim (tk68_0 q) (tk68_1 q)) h
theorem tk69 : ∀ q ∈ tt69, sok tm (RX4, yX4_readTarget, cX4_readTarget, 2, (some .boolean), 0, 0) q = true := tk69_0
theorem tk70 : ∀ q ∈ tt70, sok tm (RX4, yX4_read, cX4_read, 3, (some .int), 0, 0) q = true := tk70_0
theorem tk71 : ∀ q ∈ tt71, sok tm (RX3, yX3_clear, cX3_clear, 1, none, 0, 0) q = true := tk71_0
theorem tk72 : ∀ q ∈ tt72, sok tm (RX9, yX9_order, cX9_order, 3, (some .int), 1, 1000) q = true := tk72_0
theorem tk73 : ∀ q ∈ tt73, sok tm (RX6, yX6_weigh, cX6_weigh, 10, none, 0, 0) q = true := fun q h => (fun h => (List.mem_append.mp h).elim (tk73_0 q) (fun h => (List.mem_append.mp h).elim (tk73_1 q) (tk73_2 q))) h
theorem tk74 : ∀ q ∈ tt74, sok tm (RX6, yX6_addStep, cX6_addStep, 5, none, 0, 0) q = true := tk74_0
theorem tk75 : ∀ q ∈ tt75, sok tm (RX6, yX6_raise, cX6_raise, 3, none, 0, 0) q = true := tk75_0
theorem tk76 : ∀ q ∈ tt76, sok tm (RX6, yX6_gather, cX6_gather, 4, none, 0, 0) q = true := fun q h => (fun h => (List.mem_append.mp h).elim (tk76_0 q) (tk76_1 q)) h
theorem tk77 : ∀ q ∈ tt77, sok tm (RX6, yX6_pushBehind, cX6_pushBehind, 5, (some .boolean), 0, 0) q = true := fun q h => (fun h => (List.mem_append.mp h).elim (tk77_0 q) (tk77_1 q)) h
theorem tk78 : ∀ q ∈ tt78, sok tm (RX6, yX6_isPossible, cX6_isPossible, 4, (some .boolean), 0, 0) q = true := fun q h => (fun h => (List.mem_append.mp h).elim (tk78_0 q) (tk78_1 q)) h
theorem tk79 : ∀ q ∈ tt79, sok tm (RX6, yX6_doubtfulOne, cX6_doubtfulOne, 2, (some .int), 0, 0) q = true := tk79_0
theorem tk80 : ∀ q ∈ tt80, sok tm (RX6, yX6_isPossibleWithout, cX6_isPossibleWithout, 3, (some .boolean), 0, 0) q = true := tk80_0
theorem tk81 : ∀ q ∈ tt81, sok tm (RX6, yX6_doubtfulTwo, cX6_doubtfulTwo, 3, (some .int), 0, 0) q = true := tk81_0
theorem tk82 : ∀ q ∈ tt82, sok tm (RX2, yX2_leastReign, cX2_leastReign, 4, (some .int), 0, 0) q = true := tk82_0
theorem tk83 : ∀ q ∈ tt83, sok tm (RX2, yX2_hasTraces, cX2_hasTraces, 7, (some .boolean), 0, 0) q = true := fun q h => (fun h => (List.mem_append.mp h).elim (tk83_0 q) (tk83_1 q)) h
theorem tk84 : ∀ q ∈ tt84, sok tm (RX2, yX2_isFitting, cX2_isFitting, 8, (some .boolean), 0, 0) q = true := fun q h => (fun h => (List.mem_append.mp h).elim (tk84_0 q) (tk84_1 q)) h
theorem tk85 : ∀ q ∈ tt85, sok tm (RX2, yX2_isFirstFitting, cX2_isFirstFitting, 4, (some .boolean), 0, 0) q = true := fun q h => (fun h => (List.mem_append.mp h).elim (tk85_0 q) (tk85_1 q)) h
theorem tk86 : ∀ q ∈ tt86, sok tm (RX2, yX2_fitting, cX2_fitting, 6, (some .int), 0, 0) q = true := tk86_0
theorem tk87 : ∀ q ∈ tt87, sok tm (RX6, yX6_findLeastReigns, cX6_findLeastReigns, 4, none, 0, 0) q = true := fun q h => (fun h => (List.mem_append.mp h).elim (tk87_0 q) (tk87_1 q)) h
theorem tk88 : ∀ q ∈ tt88, sok tm (RX6, yX6_gatherAll, cX6_gatherAll, 1, none, 0, 0) q = true := tk88_0
theorem tk89 : ∀ q ∈ tt89, sok tm (RX9, yX9_doubt, cX9_doubt, 1, (some .int), 0, 0) q = true := tk89_0
theorem tk90 : ∀ q ∈ tt90, sok tm (RX6, yX6_doubtful, cX6_doubtful, 2, (some .int), 0, 0) q = true := tk90_0
theorem tk91 : ∀ q ∈ tt91, sok tm (RX6, yX6_forget, cX6_forget, 1, none, 0, 0) q = true := tk91_0
theorem tk92 : ∀ q ∈ tt92, sok tm (RX6, yX6_mostOf, cX6_mostOf, 4, (some .int), 0, 0) q = true := tk92_0
theorem tk93 : ∀ q ∈ tt93, sok tm (RX6, yX6_handToDate, cX6_handToDate, 4, (some .int), 0, 0) q = true := fun q h => (fun h => (List.mem_append.mp h).elim (tk93_0 q) (tk93_1 q)) h
theorem tk94 : ∀ q ∈ tt94, sok tm (RX6, yX6_isBusy, cX6_isBusy, 2, (some .boolean), 0, 0) q = true := tk94_0
theorem tk95 : ∀ q ∈ tt95, sok tm (RX6, yX6_lowest, cX6_lowest, 5, (some .int), 0, 0) q = true := tk95_0
theorem tk96 : ∀ q ∈ tt96, sok tm (RX6, yX6_highest, cX6_highest, 5, (some .int), 0, 0) q = true := tk96_0
theorem tk97 : ∀ q ∈ tt97, sok tm (RX6, yX6_countFrom, cX6_countFrom, 7, (some .int), 0, 0) q = true := fun q h => (fun h => (List.mem_append.mp h).elim (tk97_0 q) (tk97_1 q)) h
theorem tk98 : ∀ q ∈ tt98, sok tm (RX6, yX6_tally, cX6_tally, 2, none, 0, 0) q = true := tk98_0
theorem tk99 : ∀ q ∈ tt99, sok tm (RX9, yX9_next, cX9_next, 3, (some .int), 0, 0) q = true := tk99_0
theorem tk100 : ∀ q ∈ tt100, sok tm (RX6, yX6_standing, cX6_standing, 6, (some .int), 0, 0) q = true := fun q h => (fun h => (List.mem_append.mp h).elim (tk100_0 q) (tk100_1 q)) h
theorem tk101 : ∀ q ∈ tt101, sok tm (RX6, yX6_mayHaveStood, cX6_mayHaveStood, 5, (some .boolean), 0, 0) q = true := fun q h => (fun h => (List.mem_append.mp h).elim (tk101_0 q) (tk101_1 q)) h
theorem tk102 : ∀ q ∈ tt102, sok tm (RX9, yX9_stood, cX9_stood, 3, (some .int), 0, 0) q = true := tk102_0
theorem tk103 : ∀ q ∈ tt103, sok tm (RX9, yX9_isNameCut, cX9_isNameCut, 3, (some .boolean), 0, 0) q = true := tk103_0
theorem tk104 : ∀ q ∈ tt104, sok tm (RX9, yX9_isCut, cX9_isCut, 3, (some .boolean), 0, 0) q = true := tk104_0
theorem tk105 : ∀ q ∈ tt105, sok tm (RX6, yX6_isPossibleWith, cX6_isPossibleWith, 8, (some .boolean), 0, 0) q = true := fun q h => (fun h => (List.mem_append.mp h).elim (tk105_0 q) (tk105_1 q)) h
theorem tk106 : ∀ q ∈ tt106, sok tm (RX6, yX6_relations, cX6_relations, 4, (some .int), 0, 0) q = true := tk106_0
theorem tk107 : ∀ q ∈ tt107, sok tm (RX9, yX9_between, cX9_between, 3, (some .int), 0, 0) q = true := tk107_0
theorem tk108 : ∀ q ∈ tt108, sok tm (RX9, yX9_isBusyHand, cX9_isBusyHand, 2, (some .boolean), 0, 0) q = true := tk108_0
theorem tk109 : ∀ q ∈ tt109, sok tm (RX9, yX9_odds, cX9_odds, 3, (some .int), 0, 0) q = true := tk109_0
theorem tk110 : ∀ q ∈ tt110, sok tm (RX6, yX6_seekFrom, cX6_seekFrom, 5, (some .boolean), 0, 0) q = true := fun q h => (fun h => (List.mem_append.mp h).elim (tk110_0 q) (tk110_1 q)) h
theorem tk111 : ∀ q ∈ tt111, sok tm (RX6, yX6_skipLast, cX6_skipLast, 5, (some .boolean), 0, 0) q = true := tk111_0
theorem tk112 : ∀ q ∈ tt112, sok tm (RX9, yX9_story, cX9_story, 3, (some .int), 0, 0) q = true := tk112_0
theorem tk113 : ∀ q ∈ tt113, sok tm (RX6, yX6_seek, cX6_seek, 2, (some .boolean), 0, 0) q = true := tk113_0
theorem tk114 : ∀ q ∈ tt114, sok tm (RX6, yX6_sureHands, cX6_sureHands, 3, (some .int), 0, 0) q = true := tk114_0
theorem tk115 : ∀ q ∈ tt115, sok tm (RX9, yX9_stories, cX9_stories, 2, (some .int), 0, 0) q = true := tk115_0
theorem tk116 : ∀ q ∈ tt116, sok tm (RX9, yX9_dated, cX9_dated, 3, (some .boolean), 0, 0) q = true := tk116_0
theorem tk117 : ∀ q ∈ tt117, sok tm (RX9, yX9_crowded, cX9_crowded, 4, (some .int), 0, 0) q = true := tk117_0
theorem tk118 : ∀ q ∈ tt118, sok tm (RX9, yX9_fits, cX9_fits, 3, (some .int), 0, 0) q = true := tk118_0
theorem tk119 : ∀ q ∈ tt119, sok tm (RX10, yX10_layer, cX10_layer, 5, (some .int), 0, 0) q = true := fun q h => (fun h => (List.mem_append.mp h).elim (tk119_0 q) (tk119_1 q)) h
theorem tk120 : ∀ q ∈ tt120, sok tm (RX10, yX10_isCut, cX10_isCut, 3, (some .boolean), 0, 0) q = true := tk120_0
theorem tk121 : ∀ q ∈ tt121, sok tm (RX10, yX10_isPlace, cX10_isPlace, 2, (some .boolean), 0, 0) q = true := tk121_0
theorem tk122 : ∀ q ∈ tt122, sok tm (RX10, yX10_within, cX10_within, 3, (some .boolean), 0, 0) q = true := tk122_0
theorem tk123 : ∀ q ∈ tt123, sok tm (RX7, yX7_isText, cX7_isText, 3, (some .boolean), 0, 0) q = true := fun q h => (fun h => (List.mem_append.mp h).elim (tk123_0 q) (tk123_1 q)) h
theorem tk124 : ∀ q ∈ tt124, sok tm (RX8, yX8_tellTraces, cX8_tellTraces, 4, none, 0, 0) q = true := tk124_0
theorem tk125 : ∀ q ∈ tt125, sok tm (RX7, yX7_trim, cX7_trim, 1, none, 0, 0) q = true := fun q h => (fun h => (List.mem_append.mp h).elim (tk125_0 q) (tk125_1 q)) h
theorem tk126 : ∀ q ∈ tt126, sok tm (RX9, yX9_traces, cX9_traces, 4, (some .int), 0, 0) q = true := tk126_0
theorem tk127 : ∀ q ∈ tt127, sok tm (RX9, yX9_tellTraces, cX9_tellTraces, 3, (some .int), 0, 0) q = true := tk127_0
theorem tk128 : ∀ q ∈ tt128, sok tm (RX9, yX9_forgetFindings, cX9_forgetFindings, 1, none, 0, 0) q = true := tk128_0
theorem tk129 : ∀ q ∈ tt129, sok tm (RX8, yX8_hasOutOver, cX8_hasOutOver, 2, (some .boolean), 0, 0) q = true := tk129_0
theorem tk130 : ∀ q ∈ tt130, sok tm (RX9, yX9_clean, cX9_clean, 2, (some .boolean), 0, 0) q = true := tk130_0
theorem tk131 : ∀ q ∈ tt131, sok tm (RX8, yX8_removeTop, cX8_removeTop, 1, none, 0, 0) q = true := tk131_0
theorem tk132 : ∀ q ∈ tt132, sok tm (RX9, yX9_cut, cX9_cut, 8, (some .int), 0, 0) q = true := fun q h => (fun h => (List.mem_append.mp h).elim (tk132_0 q) (tk132_1 q)) h
theorem tk133 : ∀ q ∈ tt133, sok tm (RX8, yX8_canLie, cX8_canLie, 4, (some .boolean), 0, 0) q = true := fun q h => (fun h => (List.mem_append.mp h).elim (tk133_0 q) (tk133_1 q)) h
theorem tk134 : ∀ q ∈ tt134, sok tm (RX8, yX8_canBeMended, cX8_canBeMended, 3, (some .boolean), 0, 0) q = true := tk134_0
theorem tk135 : ∀ q ∈ tt135, sok tm (RX8, yX8_add, cX8_add, 4, none, 0, 0) q = true := tk135_0
theorem tk136 : ∀ q ∈ tt136, sok tm (RX9, yX9_place, cX9_place, 7, (some .boolean), 0, 0) q = true := fun q h => (fun h => (List.mem_append.mp h).elim (tk136_0 q) (tk136_1 q)) h
theorem tk137 : ∀ q ∈ tt137, sok tm (RX8, yX8_tell, cX8_tell, 5, none, 0, 0) q = true := tk137_0
theorem tk138 : ∀ q ∈ tt138, sok tm (RX9, yX9_alike, cX9_alike, 3, (some .int), 0, 0) q = true := tk138_0
theorem tk139 : ∀ q ∈ tt139, sok tm (RX9, yX9_known, cX9_known, 3, (some .int), 0, 0) q = true := tk139_0
theorem tk140 : ∀ q ∈ tt140, sok tm (RX2, yX2_isWord, cX2_isWord, 4, (some .boolean), 0, 0) q = true := fun q h => (fun h => (List.mem_append.mp h).elim (tk140_0 q) (tk140_1 q)) h
theorem tk141 : ∀ q ∈ tt141, sok tm (RX2, yX2_isOthers, cX2_isOthers, 4, (some .boolean), 0, 0) q = true := tk141_0
theorem tk142 : ∀ q ∈ tt142, sok tm (RX2, yX2_tell, cX2_tell, 5, none, 0, 0) q = true := fun q h => (fun h => (List.mem_append.mp h).elim (tk142_0 q) (tk142_1 q)) h
theorem tk143 : ∀ q ∈ tt143, sok tm (RX2, yX2_widthOf, cX2_widthOf, 1, (some .int), 0, 0) q = true := tk143_0
theorem tk144 : ∀ q ∈ tt144, sok tm (RX9, yX9_name, cX9_name, 5, (some .int), 0, 0) q = true := tk144_0
theorem tk145 : ∀ q ∈ tt145, sok tm (RX9, yX9_tellName, cX9_tellName, 4, (some .int), 0, 0) q = true := fun q h => (fun h => (List.mem_append.mp h).elim (tk145_0 q) (tk145_1 q)) h
theorem tk146 : ∀ q ∈ tt146, sok tm (RX7, yX7_take, cX7_take, 4, none, 0, 0) q = true := tk146_0
theorem tk147 : ∀ q ∈ tt147, sok tm (RX7, yX7_addSign, cX7_addSign, 3, none, 0, 0) q = true := tk147_0
theorem tk148 : ∀ q ∈ tt148, sok tm (RX9, yX9_feed, cX9_feed, 7, (some .int), 0, 0) q = true := tk148_0
theorem tk149 : ∀ q ∈ tt149, sok tm (RX10, yX10_count, cX10_count, 4, (some .int), 0, 0) q = true := fun q h => (fun h => (List.mem_append.mp h).elim (tk149_0 q) (fun h => (List.mem_append.mp h).elim (tk149_1 q) (tk149_2 q))) h
theorem tk150 : ∀ q ∈ tt150, sok tm (RX10, yX10_fills, cX10_fills, 4, none, 0, 0) q = true := fun q h => (fun h => (List.mem_append.mp h).elim (tk150_0 q) (fun h => (List.mem_append.mp h).elim (tk150_1 q) (tk150_2 q))) h
theorem tk151 : ∀ q ∈ tt151, sok tm (RX10, yX10_doesLie, cX10_doesLie, 6, (some .boolean), 0, 0) q = true := fun q h => (fun h => (List.mem_append.mp h).elim (tk151_0 q) (tk151_1 q)) h
theorem tk152 : ∀ q ∈ tt152, sok tm (RX10, yX10_findWays, cX10_findWays, 2, none, 0, 0) q = true := tk152_0
theorem tk153 : ∀ q ∈ tt153, sok tm (RX10, yX10_back, cX10_back, 2, (some .int), 0, 0) q = true := tk153_0
theorem tk154 : ∀ q ∈ tt154, sok tm (RX10, yX10_ways, cX10_ways, 5, (some .int), 0, 0) q = true := fun q h => (fun h => (List.mem_append.mp h).elim (tk154_0 q) (tk154_1 q)) h
theorem tk155 : ∀ q ∈ tt155, sok tm (RX10, yX10_block, cX10_block, 8, (some .boolean), 0, 0) q = true := fun q h => (fun h => (List.mem_append.mp h).elim (tk155_0 q) (tk155_1 q)) h
theorem tk156 : ∀ q ∈ tt156, sok tm (RX10, yX10_far, cX10_far, 11, (some .int), 0, 0) q = true := fun q h => (fun h => (List.mem_append.mp h).elim (tk156_0 q) (fun h => (List.mem_append.mp h).elim (tk156_1 q) (fun h => (List.mem_append.mp h).elim (tk156_2 q) (fun h => (List.mem_append.mp h).elim (tk156_3 q) (tk156_4 q))))) h
theorem tk157 : ∀ q ∈ tt157, sok tm (RX10, yX10_isName, cX10_isName, 2, (some .boolean), 0, 0) q = true := tk157_0
theorem tk158 : ∀ q ∈ tt158, sok tm (RX10, yX10_names, cX10_names, 1, (some .boolean), 0, 0) q = true := tk158_0
theorem tk159 : ∀ q ∈ tt159, sok tm (RX10, yX10_worth, cX10_worth, 5, (some .int), 0, 0) q = true := fun q h => (fun h => (List.mem_append.mp h).elim (tk159_0 q) (fun h => (List.mem_append.mp h).elim (tk159_1 q) (tk159_2 q))) h
theorem tk160 : ∀ q ∈ tt160, sok tm (RX10, yX10_both, cX10_both, 3, (some .int), 0, 0) q = true := fun q h => (fun h => (List.mem_append.mp h).elim (tk160_0 q) (tk160_1 q)) h
theorem tk161 : ∀ q ∈ tt161, sok tm (RX10, yX10_width, cX10_width, 4, (some .int), 0, 0) q = true := tk161_0
theorem tk162 : ∀ q ∈ tt162, sok tm (RX10, yX10_widthOf, cX10_widthOf, 2, (some .int), 0, 0) q = true := tk162_0
theorem tk163 : ∀ q ∈ tt163, sok tm (RX10, yX10_isWithout, cX10_isWithout, 6, (some .boolean), 0, 0) q = true := fun q h => (fun h => (List.mem_append.mp h).elim (tk163_0 q) (tk163_1 q)) h
theorem tk164 : ∀ q ∈ tt164, sok tm (RX10, yX10_areAlike, cX10_areAlike, 7, (some .boolean), 0, 0) q = true := fun q h => (fun h => (List.mem_append.mp h).elim (tk164_0 q) (fun h => (List.mem_append.mp h).elim (tk164_1 q) (tk164_2 q))) h
theorem tk165 : ∀ q ∈ tt165, sok tm (RX10, yX10_does, cX10_does, 5, none, 0, 0) q = true := fun q h => (fun h => (List.mem_append.mp h).elim (tk165_0 q) (fun h => (List.mem_append.mp h).elim (tk165_1 q) (tk165_2 q))) h
theorem tk166 : ∀ q ∈ tt166, sok tm (RX10, yX10_findFacts, cX10_findFacts, 3, none, 0, 0) q = true := fun q h => (fun h => (List.mem_append.mp h).elim (tk166_0 q) (tk166_1 q)) h
theorem tk167 : ∀ q ∈ tt167, sok tm (RX10, yX10_standing, cX10_standing, 2, (some .int), 0, 0) q = true := tk167_0
theorem tk168 : ∀ q ∈ tt168, sok tm (RX10, yX10_canDo, cX10_canDo, 6, (some .boolean), 0, 0) q = true := fun q h => (fun h => (List.mem_append.mp h).elim (tk168_0 q) (fun h => (List.mem_append.mp h).elim (tk168_1 q) (tk168_2 q))) h
theorem tk169 : ∀ q ∈ tt169, sok tm (RX10, yX10_lays, cX10_lays, 6, none, 0, 0) q = true := tk169_0
theorem tk170 : ∀ q ∈ tt170, sok tm (RX10, yX10_runs, cX10_runs, 4, none, 0, 0) q = true := fun q h => (fun h => (List.mem_append.mp h).elim (tk170_0 q) (tk170_1 q)) h
theorem tk171 : ∀ q ∈ tt171, sok tm (RX10, yX10_missed, cX10_missed, 6, (some .int), 0, 0) q = true := fun q h => (fun h => (List.mem_append.mp h).elim (tk171_0 q) (tk171_1 q)) h
theorem tk172 : ∀ q ∈ tt172, sok tm (RX10, yX10_doesAgree, cX10_doesAgree, 5, (some .boolean), 0, 0) q = true := fun q h => (fun h => (List.mem_append.mp h).elim (tk172_0 q) (tk172_1 q)) h
theorem tk173 : ∀ q ∈ tt173, sok tm (RX10, yX10_agrees, cX10_agrees, 5, (some .int), 0, 0) q = true := fun q h => (fun h => (List.mem_append.mp h).elim (tk173_0 q) (tk173_1 q)) h
theorem tk174 : ∀ q ∈ tt174, sok tm (RX10, yX10_made, cX10_made, 5, (some .int), 0, 0) q = true := fun q h => (fun h => (List.mem_append.mp h).elim (tk174_0 q) (tk174_1 q)) h
theorem tk175 : ∀ q ∈ tt175, sok tm (RX10, yX10_ran, cX10_ran, 3, (some .int), 0, 0) q = true := tk175_0
theorem tk176 : ∀ q ∈ tt176, sok tm (RX10, yX10_works, cX10_works, 4, (some .boolean), 0, 0) q = true := tk176_0
theorem tk177 : ∀ q ∈ tt177, sok tm (RX10, yX10_cutAll, cX10_cutAll, 7, none, 0, 0) q = true := fun q h => (fun h => (List.mem_append.mp h).elim (tk177_0 q) (fun h => (List.mem_append.mp h).elim (tk177_1 q) (fun h => (List.mem_append.mp h).elim (tk177_2 q) (fun h => (List.mem_append.mp h).elim (tk177_3 q) (tk177_4 q))))) h
theorem tk178 : ∀ q ∈ tt178, sok tm (RX10, yX10_isLetter, cX10_isLetter, 1, (some .boolean), 0, 0) q = true := tk178_0
theorem tk179 : ∀ q ∈ tt179, sok tm (RX10, yX10_isDigit, cX10_isDigit, 1, (some .boolean), 0, 0) q = true := tk179_0
theorem tk180 : ∀ q ∈ tt180, sok tm (RX10, yX10_isSignOf, cX10_isSignOf, 1, (some .boolean), 0, 0) q = true := tk180_0
theorem tk181 : ∀ q ∈ tt181, sok tm (RX10, yX10_rank, cX10_rank, 1, (some .int), 0, 0) q = true := tk181_0
theorem tk182 : ∀ q ∈ tt182, sok tm (RX10, yX10_takePart, cX10_takePart, 4, none, 0, 0) q = true := fun q h => (fun h => (List.mem_append.mp h).elim (tk182_0 q) (fun h => (List.mem_append.mp h).elim (tk182_1 q) (tk182_2 q))) h
theorem tk183 : ∀ q ∈ tt183, sok tm (RX10, yX10_isWord, cX10_isWord, 2, (some .boolean), 0, 0) q = true := tk183_0
theorem tk184 : ∀ q ∈ tt184, sok tm (RX10, yX10_wrong, cX10_wrong, 2, none, 0, 0) q = true := tk184_0
theorem tk185 : ∀ q ∈ tt185, sok tm (RX10, yX10_isSign, cX10_isSign, 2, (some .boolean), 0, 0) q = true := tk185_0
theorem tk186 : ∀ q ∈ tt186, sok tm (RX10, yX10_products, cX10_products, 2, none, 0, 0) q = true := tk186_0
theorem tk187 : ∀ q ∈ tt187, sok tm (RX10, yX10_hasSign, cX10_hasSign, 3, (some .boolean), 0, 0) q = true := tk187_0
theorem tk188 : ∀ q ∈ tt188, sok tm (RX10, yX10_sums, cX10_sums, 3, none, 0, 0) q = true := tk188_0
theorem tk189 : ∀ q ∈ tt189, sok tm (RX10, yX10_test, cX10_test, 3, none, 0, 0) q = true := tk189_0
theorem tk190 : ∀ q ∈ tt190, sok tm (RX10, yX10_all, cX10_all, 3, none, 0, 0) q = true := tk190_0
theorem tk191 : ∀ q ∈ tt191, sok tm (RX10, yX10_emit, cX10_emit, 3, none, 0, 0) q = true := tk191_0
theorem tk192 : ∀ q ∈ tt192, sok tm (RX10, yX10_takeSign, cX10_takeSign, 2, none, 0, 0) q = true := tk192_0
theorem tk193 : ∀ q ∈ tt193, sok tm (RX10, yX10_hasWord, cX10_hasWord, 3, (some .boolean), 0, 0) q = true := tk193_0
theorem tk194 : ∀ q ∈ tt194, sok tm (RX10, yX10_readLine, cX10_readLine, 3, none, 0, 0) q = true := fun q h => (fun h => (List.mem_append.mp h).elim (tk194_0 q) (fun h => (List.mem_append.mp h).elim (tk194_1 q) (fun h => (List.mem_append.mp h).elim (tk194_2 q) (tk194_3 q)))) h
theorem tk195 : ∀ q ∈ tt195, sok tm (RX10, yX10_takeWord, cX10_takeWord, 2, none, 0, 0) q = true := tk195_0
theorem tk196 : ∀ q ∈ tt196, sok tm (RX10, yX10_order, cX10_order, 3, (some .int), 0, 0) q = true := fun q h => (fun h => (List.mem_append.mp h).elim (tk196_0 q) (fun h => (List.mem_append.mp h).elim (tk196_1 q) (fun h => (List.mem_append.mp h).elim (tk196_2 q) (tk196_3 q)))) h
theorem tk197 : ∀ q ∈ tt197, sok tm (RX10, yX10_reignIn, cX10_reignIn, 5, (some .int), 0, 0) q = true := tk197_0
theorem tk198 : ∀ q ∈ tt198, sok tm (RX10, yX10_countOf, cX10_countOf, 5, (some .int), 0, 0) q = true := tk198_0
theorem tk199 : ∀ q ∈ tt199, sok tm (RX10, yX10_tells, cX10_tells, 5, none, 0, 0) q = true := fun q h => (fun h => (List.mem_append.mp h).elim (tk199_0 q) (fun h => (List.mem_append.mp h).elim (tk199_1 q) (tk199_2 q))) h
theorem tk200 : ∀ q ∈ tt200, sok tm (RX10, yX10_doesFit, cX10_doesFit, 7, (some .boolean), 0, 0) q = true := fun q h => (fun h => (List.mem_append.mp h).elim (tk200_0 q) (fun h => (List.mem_append.mp h).elim (tk200_1 q) (fun h => (List.mem_append.mp h).elim (tk200_2 q) (fun h => (List.mem_append.mp h).elim (tk200_3 q) (tk200_4 q))))) h
theorem tk201 : ∀ q ∈ tt201, sok tm (RX10, yX10_isThere, cX10_isThere, 7, (some .boolean), 0, 0) q = true := tk201_0
theorem tk202 : ∀ q ∈ tt202, sok tm (RX10, yX10_lets, cX10_lets, 7, (some .boolean), 0, 0) q = true := fun q h => (fun h => (List.mem_append.mp h).elim (tk202_0 q) (fun h => (List.mem_append.mp h).elim (tk202_1 q) (fun h => (List.mem_append.mp h).elim (tk202_2 q) (tk202_3 q)))) h
theorem tk203 : ∀ q ∈ tt203, sok tm (RX10, yX10_letsAll, cX10_letsAll, 3, (some .boolean), 0, 0) q = true := tk203_0
theorem tk204 : ∀ q ∈ tt204, sok tm (RX10, yX10_cutsOf, cX10_cutsOf, 2, (some .int), 0, 0) q = true := tk204_0
theorem tk205 : ∀ q ∈ tt205, sok tm (RX10, yX10_beginsStories, cX10_beginsStories, 4, none, 0, 0) q = true := fun q h => (fun h => (List.mem_append.mp h).elim (tk205_0 q) (tk205_1 q)) h
theorem tk206 : ∀ q ∈ tt206, sok tm (RX10, yX10_next, cX10_next, 7, (some .int), 0, 0) q = true := fun q h => (fun h => (List.mem_append.mp h).elim (tk206_0 q) (fun h => (List.mem_append.mp h).elim (tk206_1 q) (tk206_2 q))) h
theorem tk207 : ∀ q ∈ tt207, sok tm (RX10, yX10_findStories, cX10_findStories, 1, none, 0, 0) q = true := tk207_0
theorem tk208 : ∀ q ∈ tt208, sok tm (RX10, yX10_stood, cX10_stood, 9, (some .int), 0, 0) q = true := fun q h => (fun h => (List.mem_append.mp h).elim (tk208_0 q) (fun h => (List.mem_append.mp h).elim (tk208_1 q) (tk208_2 q))) h
theorem tk209 : ∀ q ∈ tt209, sok tm (RX10, yX10_isNaming, cX10_isNaming, 3, (some .boolean), 0, 0) q = true := tk209_0
theorem tk210 : ∀ q ∈ tt210, sok tm (RX10, yX10_between, cX10_between, 6, (some .int), 0, 0) q = true := fun q h => (fun h => (List.mem_append.mp h).elim (tk210_0 q) (tk210_1 q)) h
theorem tk211 : ∀ q ∈ tt211, sok tm (RX10, yX10_isHand, cX10_isHand, 2, (some .boolean), 0, 0) q = true := tk211_0
theorem tk212 : ∀ q ∈ tt212, sok tm (RX10, yX10_odds, cX10_odds, 3, (some .int), 0, 0) q = true := tk212_0
theorem tk213 : ∀ q ∈ tt213, sok tm (RX10, yX10_story, cX10_story, 3, (some .int), 0, 0) q = true := tk213_0
theorem tk214 : ∀ q ∈ tt214, sok tm (RX10, yX10_stories, cX10_stories, 6, (some .int), 0, 0) q = true := fun q h => (fun h => (List.mem_append.mp h).elim (tk214_0 q) (tk214_1 q)) h
theorem tk215 : ∀ q ∈ tt215, sok tm (RX10, yX10_dated, cX10_dated, 3, (some .boolean), 0, 0) q = true := tk215_0
theorem tk216 : ∀ q ∈ tt216, sok tm (RX10, yX10_crowded, cX10_crowded, 3, (some .int), 0, 0) q = true := tk216_0
theorem tk217 : ∀ q ∈ tt217, sok tm (RX10, yX10_fits, cX10_fits, 5, (some .int), 0, 0) q = true := tk217_0
theorem tk218 : ∀ q ∈ tt218, sok tm (RX10, yX10_areLetters, cX10_areLetters, 4, (some .boolean), 0, 0) q = true := fun q h => (fun h => (List.mem_append.mp h).elim (tk218_0 q) (tk218_1 q)) h
theorem tk219 : ∀ q ∈ tt219, sok tm (RX10, yX10_bares, cX10_bares, 1, none, 0, 0) q = true := fun q h => (fun h => (List.mem_append.mp h).elim (tk219_0 q) (tk219_1 q)) h
theorem tk220 : ∀ q ∈ tt220, sok tm (RX10, yX10_isBlank, cX10_isBlank, 2, (some .boolean), 0, 0) q = true := tk220_0
theorem tk221 : ∀ q ∈ tt221, sok tm (RX10, yX10_traces, cX10_traces, 5, (some .int), 0, 0) q = true := fun q h => (fun h => (List.mem_append.mp h).elim (tk221_0 q) (fun h => (List.mem_append.mp h).elim (tk221_1 q) (tk221_2 q))) h
theorem tk222 : ∀ q ∈ tt222, sok tm (RX10, yX10_clean, cX10_clean, 2, (some .boolean), 0, 0) q = true := fun q h => (fun h => (List.mem_append.mp h).elim (tk222_0 q) (tk222_1 q)) h
theorem tk223 : ∀ q ∈ tt223, sok tm (RX10, yX10_cut, cX10_cut, 7, (some .int), 0, 0) q = true := fun q h => (fun h => (List.mem_append.mp h).elim (tk223_0 q) (fun h => (List.mem_append.mp h).elim (tk223_1 q) (tk223_2 q))) h
theorem tk224 : ∀ q ∈ tt224, sok tm (RX10, yX10_lies, cX10_lies, 4, (some .boolean), 0, 0) q = true := fun q h => (fun h => (List.mem_append.mp h).elim (tk224_0 q) (tk224_1 q)) h
theorem tk225 : ∀ q ∈ tt225, sok tm (RX10, yX10_place, cX10_place, 6, (some .boolean), 0, 0) q = true := fun q h => (fun h => (List.mem_append.mp h).elim (tk225_0 q) (tk225_1 q)) h
theorem tk226 : ∀ q ∈ tt226, sok tm (RX10, yX10_alike, cX10_alike, 3, (some .int), 0, 0) q = true := tk226_0
theorem tk227 : ∀ q ∈ tt227, sok tm (RX10, yX10_known, cX10_known, 3, (some .int), 0, 0) q = true := fun q h => (fun h => (List.mem_append.mp h).elim (tk227_0 q) (tk227_1 q)) h
theorem tk228 : ∀ q ∈ tt228, sok tm (RX10, yX10_isTaped, cX10_isTaped, 4, (some .boolean), 0, 0) q = true := fun q h => (fun h => (List.mem_append.mp h).elim (tk228_0 q) (tk228_1 q)) h
theorem tk229 : ∀ q ∈ tt229, sok tm (RX10, yX10_name, cX10_name, 5, (some .int), 0, 0) q = true := fun q h => (fun h => (List.mem_append.mp h).elim (tk229_0 q) (fun h => (List.mem_append.mp h).elim (tk229_1 q) (tk229_2 q))) h
theorem tk230 : ∀ q ∈ tt230, sok tm (RX10, yX10_lay, cX10_lay, 5, none, 0, 0) q = true := tk230_0
theorem tk231 : ∀ q ∈ tt231, sok tm (RX10, yX10_feed, cX10_feed, 7, (some .int), 0, 0) q = true := tk231_0
theorem tk232 : ∀ q ∈ tt232, sok tm (RX10, yX10_doubt, cX10_doubt, 4, (some .int), 0, 0) q = true := fun q h => (fun h => (List.mem_append.mp h).elim (tk232_0 q) (fun h => (List.mem_append.mp h).elim (tk232_1 q) (tk232_2 q))) h
theorem tk233 : ∀ q ∈ tt233, sok tm (RX10, yX10_hasStory, cX10_hasStory, 2, (some .boolean), 0, 0) q = true := tk233_0
theorem tk234 : ∀ q ∈ tt234, sok tm (RX3, yX3_copy, cX3_copy, 2, none, 1, 1000) q = true := fun q h => absurd h List.not_mem_nil
theorem ttab : sTab tm tc := by
  intro k me tb h1 h2
  match k, h1, h2 with
  | 0, h1, h2 => cases h1; cases h2; exact tk0
  | 1, h1, h2 => cases h1; cases h2; exact tk1
  | 2, h1, h2 => cases h1; cases h2; exact tk2
  | 3, h1, h2 => cases h1; cases h2; exact tk3
  | 4, h1, h2 => cases h1; cases h2; exact tk4
  | 5, h1, h2 => cases h1; cases h2; exact tk5
  | 6, h1, h2 => cases h1; cases h2; exact tk6
  | 7, h1, h2 => cases h1; cases h2; exact tk7
  | 8, h1, h2 => cases h1; cases h2; exact tk8
  | 9, h1, h2 => cases h1; cases h2; exact tk9
  | 10, h1, h2 => cases h1; cases h2; exact tk10
  | 11, h1, h2 => cases h1; cases h2; exact tk11
  | 12, h1, h2 => cases h1; cases h2; exact tk12
  | 13, h1, h2 => cases h1; cases h2; exact tk13
  | 14, h1, h2 => cases h1; cases h2; exact tk14
  | 15, h1, h2 => cases h1; cases h2; exact tk15
  | 16, h1, h2 => cases h1; cases h2; exact tk16
  | 17, h1, h2 => cases h1; cases h2; exact tk17
  | 18, h1, h2 => cases h1; cases h2; exact tk18
  | 19, h1, h2 => cases h1; cases h2; exact tk19
  | 20, h1, h2 => cases h1; cases h2; exact tk20
  | 21, h1, h2 => cases h1; cases h2; exact tk21
  | 22, h1, h2 => cases h1; cases h2; exact tk22
  | 23, h1, h2 => cases h1; cases h2; exact tk23
  | 24, h1, h2 => cases h1; cases h2; exact tk24
  | 25, h1, h2 => cases h1; cases h2; exact tk25
  | 26, h1, h2 => cases h1; cases h2; exact tk26
  | 27, h1, h2 => cases h1; cases h2; exact tk27
  | 28, h1, h2 => cases h1; cases h2; exact tk28
  | 29, h1, h2 => cases h1; cases h2; exact tk29
  | 30, h1, h2 => cases h1; cases h2; exact tk30
  | 31, h1, h2 => cases h1; cases h2; exact tk31
  | 32, h1, h2 => cases h1; cases h2; exact tk32
  | 33, h1, h2 => cases h1; cases h2; exact tk33
  | 34, h1, h2 => cases h1; cases h2; exact tk34
  | 35, h1, h2 => cases h1; cases h2; exact tk35
  | 36, h1, h2 => cases h1; cases h2; exact tk36
  | 37, h1, h2 => cases h1; cases h2; exact tk37
  | 38, h1, h2 => cases h1; cases h2; exact tk38
  | 39, h1, h2 => cases h1; cases h2; exact tk39
  | 40, h1, h2 => cases h1; cases h2; exact tk40
  | 41, h1, h2 => cases h1; cases h2; exact tk41
  | 42, h1, h2 => cases h1; cases h2; exact tk42
  | 43, h1, h2 => cases h1; cases h2; exact tk43
  | 44, h1, h2 => cases h1; cases h2; exact tk44
  | 45, h1, h2 => cases h1; cases h2; exact tk45
  | 46, h1, h2 => cases h1; cases h2; exact tk46
  | 47, h1, h2 => cases h1; cases h2; exact tk47
  | 48, h1, h2 => cases h1; cases h2; exact tk48
  | 49, h1, h2 => cases h1; cases h2; exact tk49
  | 50, h1, h2 => cases h1; cases h2; exact tk50
  | 51, h1, h2 => cases h1; cases h2; exact tk51
  | 52, h1, h2 => cases h1; cases h2; exact tk52
  | 53, h1, h2 => cases h1; cases h2; exact tk53
  | 54, h1, h2 => cases h1; cases h2; exact tk54
  | 55, h1, h2 => cases h1; cases h2; exact tk55
  | 56, h1, h2 => cases h1; cases h2; exact tk56
  | 57, h1, h2 => cases h1; cases h2; exact tk57
  | 58, h1, h2 => cases h1; cases h2; exact tk58
  | 59, h1, h2 => cases h1; cases h2; exact tk59
  | 60, h1, h2 => cases h1; cases h2; exact tk60
  | 61, h1, h2 => cases h1; cases h2; exact tk61
  | 62, h1, h2 => cases h1; cases h2; exact tk62
  | 63, h1, h2 => cases h1; cases h2; exact tk63
  | 64, h1, h2 => cases h1; cases h2; exact tk64
  | 65, h1, h2 => cases h1; cases h2; exact tk65
  | 66, h1, h2 => cases h1; cases h2; exact tk66
  | 67, h1, h2 => cases h1; cases h2; exact tk67
  | 68, h1, h2 => cases h1; cases h2; exact tk68
  | 69, h1, h2 => cases h1; cases h2; exact tk69
  | 70, h1, h2 => cases h1; cases h2; exact tk70
  | 71, h1, h2 => cases h1; cases h2; exact tk71
  | 72, h1, h2 => cases h1; cases h2; exact tk72
  | 73, h1, h2 => cases h1; cases h2; exact tk73
  | 74, h1, h2 => cases h1; cases h2; exact tk74
  | 75, h1, h2 => cases h1; cases h2; exact tk75
  | 76, h1, h2 => cases h1; cases h2; exact tk76
  | 77, h1, h2 => cases h1; cases h2; exact tk77
  | 78, h1, h2 => cases h1; cases h2; exact tk78
  | 79, h1, h2 => cases h1; cases h2; exact tk79
  | 80, h1, h2 => cases h1; cases h2; exact tk80
  | 81, h1, h2 => cases h1; cases h2; exact tk81
  | 82, h1, h2 => cases h1; cases h2; exact tk82
  | 83, h1, h2 => cases h1; cases h2; exact tk83
  | 84, h1, h2 => cases h1; cases h2; exact tk84
  | 85, h1, h2 => cases h1; cases h2; exact tk85
  | 86, h1, h2 => cases h1; cases h2; exact tk86
  | 87, h1, h2 => cases h1; cases h2; exact tk87
  | 88, h1, h2 => cases h1; cases h2; exact tk88
  | 89, h1, h2 => cases h1; cases h2; exact tk89
  | 90, h1, h2 => cases h1; cases h2; exact tk90
  | 91, h1, h2 => cases h1; cases h2; exact tk91
  | 92, h1, h2 => cases h1; cases h2; exact tk92
  | 93, h1, h2 => cases h1; cases h2; exact tk93
  | 94, h1, h2 => cases h1; cases h2; exact tk94
  | 95, h1, h2 => cases h1; cases h2; exact tk95
  | 96, h1, h2 => cases h1; cases h2; exact tk96
  | 97, h1, h2 => cases h1; cases h2; exact tk97
  | 98, h1, h2 => cases h1; cases h2; exact tk98
  | 99, h1, h2 => cases h1; cases h2; exact tk99
  | 100, h1, h2 => cases h1; cases h2; exact tk100
  | 101, h1, h2 => cases h1; cases h2; exact tk101
  | 102, h1, h2 => cases h1; cases h2; exact tk102
  | 103, h1, h2 => cases h1; cases h2; exact tk103
  | 104, h1, h2 => cases h1; cases h2; exact tk104
  | 105, h1, h2 => cases h1; cases h2; exact tk105
  | 106, h1, h2 => cases h1; cases h2; exact tk106
  | 107, h1, h2 => cases h1; cases h2; exact tk107
  | 108, h1, h2 => cases h1; cases h2; exact tk108
  | 109, h1, h2 => cases h1; cases h2; exact tk109
  | 110, h1, h2 => cases h1; cases h2; exact tk110
  | 111, h1, h2 => cases h1; cases h2; exact tk111
  | 112, h1, h2 => cases h1; cases h2; exact tk112
  | 113, h1, h2 => cases h1; cases h2; exact tk113
  | 114, h1, h2 => cases h1; cases h2; exact tk114
  | 115, h1, h2 => cases h1; cases h2; exact tk115
  | 116, h1, h2 => cases h1; cases h2; exact tk116
  | 117, h1, h2 => cases h1; cases h2; exact tk117
  | 118, h1, h2 => cases h1; cases h2; exact tk118
  | 119, h1, h2 => cases h1; cases h2; exact tk119
  | 120, h1, h2 => cases h1; cases h2; exact tk120
  | 121, h1, h2 => cases h1; cases h2; exact tk121
  | 122, h1, h2 => cases h1; cases h2; exact tk122
  | 123, h1, h2 => cases h1; cases h2; exact tk123
  | 124, h1, h2 => cases h1; cases h2; exact tk124
  | 125, h1, h2 => cases h1; cases h2; exact tk125
  | 126, h1, h2 => cases h1; cases h2; exact tk126
  | 127, h1, h2 => cases h1; cases h2; exact tk127
  | 128, h1, h2 => cases h1; cases h2; exact tk128
  | 129, h1, h2 => cases h1; cases h2; exact tk129
  | 130, h1, h2 => cases h1; cases h2; exact tk130
  | 131, h1, h2 => cases h1; cases h2; exact tk131
  | 132, h1, h2 => cases h1; cases h2; exact tk132
  | 133, h1, h2 => cases h1; cases h2; exact tk133
  | 134, h1, h2 => cases h1; cases h2; exact tk134
  | 135, h1, h2 => cases h1; cases h2; exact tk135
  | 136, h1, h2 => cases h1; cases h2; exact tk136
  | 137, h1, h2 => cases h1; cases h2; exact tk137
  | 138, h1, h2 => cases h1; cases h2; exact tk138
  | 139, h1, h2 => cases h1; cases h2; exact tk139
  | 140, h1, h2 => cases h1; cases h2; exact tk140
  | 141, h1, h2 => cases h1; cases h2; exact tk141
  | 142, h1, h2 => cases h1; cases h2; exact tk142
  | 143, h1, h2 => cases h1; cases h2; exact tk143
  | 144, h1, h2 => cases h1; cases h2; exact tk144
  | 145, h1, h2 => cases h1; cases h2; exact tk145
  | 146, h1, h2 => cases h1; cases h2; exact tk146
  | 147, h1, h2 => cases h1; cases h2; exact tk147
  | 148, h1, h2 => cases h1; cases h2; exact tk148
  | 149, h1, h2 => cases h1; cases h2; exact tk149
  | 150, h1, h2 => cases h1; cases h2; exact tk150
  | 151, h1, h2 => cases h1; cases h2; exact tk151
  | 152, h1, h2 => cases h1; cases h2; exact tk152
  | 153, h1, h2 => cases h1; cases h2; exact tk153
  | 154, h1, h2 => cases h1; cases h2; exact tk154
  | 155, h1, h2 => cases h1; cases h2; exact tk155
  | 156, h1, h2 => cases h1; cases h2; exact tk156
  | 157, h1, h2 => cases h1; cases h2; exact tk157
  | 158, h1, h2 => cases h1; cases h2; exact tk158
  | 159, h1, h2 => cases h1; cases h2; exact tk159
  | 160, h1, h2 => cases h1; cases h2; exact tk160
  | 161, h1, h2 => cases h1; cases h2; exact tk161
  | 162, h1, h2 => cases h1; cases h2; exact tk162
  | 163, h1, h2 => cases h1; cases h2; exact tk163
  | 164, h1, h2 => cases h1; cases h2; exact tk164
  | 165, h1, h2 => cases h1; cases h2; exact tk165
  | 166, h1, h2 => cases h1; cases h2; exact tk166
  | 167, h1, h2 => cases h1; cases h2; exact tk167
  | 168, h1, h2 => cases h1; cases h2; exact tk168
  | 169, h1, h2 => cases h1; cases h2; exact tk169
  | 170, h1, h2 => cases h1; cases h2; exact tk170
  | 171, h1, h2 => cases h1; cases h2; exact tk171
  | 172, h1, h2 => cases h1; cases h2; exact tk172
  | 173, h1, h2 => cases h1; cases h2; exact tk173
  | 174, h1, h2 => cases h1; cases h2; exact tk174
  | 175, h1, h2 => cases h1; cases h2; exact tk175
  | 176, h1, h2 => cases h1; cases h2; exact tk176
  | 177, h1, h2 => cases h1; cases h2; exact tk177
  | 178, h1, h2 => cases h1; cases h2; exact tk178
  | 179, h1, h2 => cases h1; cases h2; exact tk179
  | 180, h1, h2 => cases h1; cases h2; exact tk180
  | 181, h1, h2 => cases h1; cases h2; exact tk181
  | 182, h1, h2 => cases h1; cases h2; exact tk182
  | 183, h1, h2 => cases h1; cases h2; exact tk183
  | 184, h1, h2 => cases h1; cases h2; exact tk184
  | 185, h1, h2 => cases h1; cases h2; exact tk185
  | 186, h1, h2 => cases h1; cases h2; exact tk186
  | 187, h1, h2 => cases h1; cases h2; exact tk187
  | 188, h1, h2 => cases h1; cases h2; exact tk188
  | 189, h1, h2 => cases h1; cases h2; exact tk189
  | 190, h1, h2 => cases h1; cases h2; exact tk190
  | 191, h1, h2 => cases h1; cases h2; exact tk191
  | 192, h1, h2 => cases h1; cases h2; exact tk192
  | 193, h1, h2 => cases h1; cases h2; exact tk193
  | 194, h1, h2 => cases h1; cases h2; exact tk194
  | 195, h1, h2 => cases h1; cases h2; exact tk195
  | 196, h1, h2 => cases h1; cases h2; exact tk196
  | 197, h1, h2 => cases h1; cases h2; exact tk197
  | 198, h1, h2 => cases h1; cases h2; exact tk198
  | 199, h1, h2 => cases h1; cases h2; exact tk199
  | 200, h1, h2 => cases h1; cases h2; exact tk200
  | 201, h1, h2 => cases h1; cases h2; exact tk201
  | 202, h1, h2 => cases h1; cases h2; exact tk202
  | 203, h1, h2 => cases h1; cases h2; exact tk203
  | 204, h1, h2 => cases h1; cases h2; exact tk204
  | 205, h1, h2 => cases h1; cases h2; exact tk205
  | 206, h1, h2 => cases h1; cases h2; exact tk206
  | 207, h1, h2 => cases h1; cases h2; exact tk207
  | 208, h1, h2 => cases h1; cases h2; exact tk208
  | 209, h1, h2 => cases h1; cases h2; exact tk209
  | 210, h1, h2 => cases h1; cases h2; exact tk210
  | 211, h1, h2 => cases h1; cases h2; exact tk211
  | 212, h1, h2 => cases h1; cases h2; exact tk212
  | 213, h1, h2 => cases h1; cases h2; exact tk213
  | 214, h1, h2 => cases h1; cases h2; exact tk214
  | 215, h1, h2 => cases h1; cases h2; exact tk215
  | 216, h1, h2 => cases h1; cases h2; exact tk216
  | 217, h1, h2 => cases h1; cases h2; exact tk217
  | 218, h1, h2 => cases h1; cases h2; exact tk218
  | 219, h1, h2 => cases h1; cases h2; exact tk219
  | 220, h1, h2 => cases h1; cases h2; exact tk220
  | 221, h1, h2 => cases h1; cases h2; exact tk221
  | 222, h1, h2 => cases h1; cases h2; exact tk222
  | 223, h1, h2 => cases h1; cases h2; exact tk223
  | 224, h1, h2 => cases h1; cases h2; exact tk224
  | 225, h1, h2 => cases h1; cases h2; exact tk225
  | 226, h1, h2 => cases h1; cases h2; exact tk226
  | 227, h1, h2 => cases h1; cases h2; exact tk227
  | 228, h1, h2 => cases h1; cases h2; exact tk228
  | 229, h1, h2 => cases h1; cases h2; exact tk229
  | 230, h1, h2 => cases h1; cases h2; exact tk230
  | 231, h1, h2 => cases h1; cases h2; exact tk231
  | 232, h1, h2 => cases h1; cases h2; exact tk232
  | 233, h1, h2 => cases h1; cases h2; exact tk233
  | 234, h1, h2 => cases h1; cases h2; exact tk234
  | n + 235, h1, h2 => cases h1

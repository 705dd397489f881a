theorem zk0 : ∀ q ∈ zt0, zok zzm (RL, yL_law, cL_law, 7, (some .boolean), 600000, 7300000) q = true := fun q h => (fun h => (List.mem_append.mp h).elim (zk0_0 q) (fun h => (List.mem_append.mp h).elim (zk0_1 q) (fun h => (List.mem_append.mp h).elim (zk0_2 q) (fun h => (List.mem_append.mp h).elim (zk0_3 q) (fun h => (List.mem_append.mp h).elim (zk0_4 q) (fun h => (List.mem_append.mp h).elim (zk0_5 q) (fun h => (List.mem_append.mp h).elim (zk0_6 q) (fun h => (List.mem_append.mp h).elim (zk0_7 q) (fun h => (List.mem_append.mp h).elim (zk0_8 q) (fun h => (List.mem_append.mp h).elim (zk0_9 q) (fun h => (List.mem_append.mp h).elim (zk0_10 q) (fun h => (List.mem_append.mp h).elim (zk0_11 q) (fun h => (List.mem_append.mp h).elim (zk0_12 q) (fun h => (List.mem_append.mp h).elim (zk0_13 q) (fun h => (List.mem_append.mp h).elim (zk0_14 q) (fun h => (List.mem_append.mp h).elim (zk0_15 q) (fun h => (List.mem_append.mp h).elim (zk0_16 q) (fun h => (List.mem_append.mp h).elim (zk0_17 q) (fun h => (List.mem_append.mp h).elim (zk0_18 q) (zk0_19 q)))))))))))))))))))) h
theorem zk1 : ∀ q ∈ zt1, zok zzm (RX9, yX9_init, cX9_init, 2, none, 154, 10257) q = true := fun q h => (fun h => (List.mem_append.mp h).elim (zk1_0 q) (fun h => (List.mem_append.mp h).elim (zk1_1 q) (zk1_2 q))) h
theorem zk2 : ∀ q ∈ zt2, zok zzm (RX7, yX7_init, cX7_init, 1, none, 1, 1000) q = true := zk2_0
theorem zk3 : ∀ q ∈ zt3, zok zzm (RX2, yX2_init, cX2_init, 1, none, 6, 104) q = true := zk3_0
theorem zk4 : ∀ q ∈ zt4, zok zzm (RX8, yX8_init, cX8_init, 1, none, 5, 72) q = true := fun q h => (fun h => (List.mem_append.mp h).elim (zk4_0 q) (zk4_1 q)) h
theorem zk5 : ∀ q ∈ zt5, zok zzm (RX6, yX6_init, cX6_init, 4, none, 9, 186) q = true := fun q h => (fun h => (List.mem_append.mp h).elim (zk5_0 q) (zk5_1 q)) h
theorem zk6 : ∀ q ∈ zt6, zok zzm (RX3, yX3_init, cX3_init, 2, none, 5, 1048) q = true := zk6_0
theorem zk7 : ∀ q ∈ zt7, zok zzm (RX4, yX4_init, cX4_init, 3, none, 7, 1119) q = true := fun q h => (fun h => (List.mem_append.mp h).elim (zk7_0 q) (zk7_1 q)) h
theorem zk8 : ∀ q ∈ zt8, zok zzm (RX5, yX5_init, cX5_init, 5, none, 9, 382) q = true := fun q h => (fun h => (List.mem_append.mp h).elim (zk8_0 q) (zk8_1 q)) h
theorem zk9 : ∀ q ∈ zt9, zok zzm (RX1, yX1_init, cX1_init, 1, none, 5, 54) q = true := zk9_0
theorem zk10 : ∀ q ∈ zt10, zok zzm (RX10, yX10_init, cX10_init, 2, none, 45, 68793) q = true := fun q h => (fun h => (List.mem_append.mp h).elim (zk10_0 q) (fun h => (List.mem_append.mp h).elim (zk10_1 q) (fun h => (List.mem_append.mp h).elim (zk10_2 q) (fun h => (List.mem_append.mp h).elim (zk10_3 q) (fun h => (List.mem_append.mp h).elim (zk10_4 q) (fun h => (List.mem_append.mp h).elim (zk10_5 q) (zk10_6 q))))))) h
theorem zk11 : ∀ q ∈ zt11, zok zzm (RX9, yX9_name, cX9_name, 5, (some .int), 0, 0) q = true := zk11_0
theorem zk12 : ∀ q ∈ zt12, zok zzm (RX9, yX9_tellName, cX9_tellName, 4, (some .int), 0, 0) q = true := zk12_0
theorem zk13 : ∀ q ∈ zt13, zok zzm (RX9, yX9_isBelow, cX9_isBelow, 2, (some .boolean), 0, 0) q = true := zk13_0
theorem zk14 : ∀ q ∈ zt14, zok zzm (RX10, yX10_name, cX10_name, 5, (some .int), 0, 0) q = true := zk14_0
theorem zk15 : ∀ q ∈ zt15, zok zzm (RX10, yX10_bares, cX10_bares, 1, none, 0, 0) q = true := zk15_0
theorem zk16 : ∀ q ∈ zt16, zok zzm (RX10, yX10_within, cX10_within, 3, (some .boolean), 0, 0) q = true := zk16_0
theorem zk17 : ∀ q ∈ zt17, zok zzm (RX7, yX7_trim, cX7_trim, 1, none, 0, 0) q = true := zk17_0
theorem zk18 : ∀ q ∈ zt18, zok zzm (RX7, yX7_isText, cX7_isText, 3, (some .boolean), 0, 0) q = true := zk18_0
theorem zk19 : ∀ q ∈ zt19, zok zzm (RX10, yX10_areLetters, cX10_areLetters, 4, (some .boolean), 0, 0) q = true := zk19_0
theorem zk20 : ∀ q ∈ zt20, zok zzm (RX9, yX9_known, cX9_known, 3, (some .int), 0, 0) q = true := zk20_0
theorem zk21 : ∀ q ∈ zt21, zok zzm (RX2, yX2_isTold, cX2_isTold, 2, (some .boolean), 0, 0) q = true := zk21_0
theorem zk22 : ∀ q ∈ zt22, zok zzm (RX10, yX10_known, cX10_known, 3, (some .int), 0, 0) q = true := zk22_0
theorem zk23 : ∀ q ∈ zt23, zok zzm (RX10, yX10_isName, cX10_isName, 2, (some .boolean), 0, 0) q = true := zk23_0
theorem zk24 : ∀ q ∈ zt24, zok zzm (RX9, yX9_alike, cX9_alike, 3, (some .int), 0, 0) q = true := zk24_0
theorem zk25 : ∀ q ∈ zt25, zok zzm (RX10, yX10_alike, cX10_alike, 3, (some .int), 0, 0) q = true := zk25_0
theorem zk26 : ∀ q ∈ zt26, zok zzm (RX9, yX9_place, cX9_place, 7, (some .boolean), 0, 0) q = true := fun q h => (fun h => (List.mem_append.mp h).elim (zk26_0 q) (zk26_1 q)) h
theorem zk27 : ∀ q ∈ zt27, zok zzm (RX10, yX10_place, cX10_place, 6, (some .boolean), 0, 0) q = true := fun q h => (fun h => (List.mem_append.mp h).elim (zk27_0 q) (zk27_1 q)) h
theorem zk28 : ∀ q ∈ zt28, zok zzm (RX8, yX8_tell, cX8_tell, 5, none, 0, 0) q = true := zk28_0
theorem zk29 : ∀ q ∈ zt29, zok zzm (RX9, yX9_forgetFindings, cX9_forgetFindings, 1, none, 0, 0) q = true := zk29_0
theorem zk30 : ∀ q ∈ zt30, zok zzm (RX6, yX6_forget, cX6_forget, 1, none, 0, 0) q = true := zk30_0
theorem zk31 : ∀ q ∈ zt31, zok zzm (RX5, yX5_forget, cX5_forget, 1, none, 0, 0) q = true := zk31_0
theorem zk32 : ∀ q ∈ zt32, zok zzm (RX9, yX9_cut, cX9_cut, 8, (some .int), 0, 0) q = true := zk32_0
theorem zk33 : ∀ q ∈ zt33, zok zzm (RX9, yX9_isPlace, cX9_isPlace, 2, (some .boolean), 0, 0) q = true := zk33_0
theorem zk34 : ∀ q ∈ zt34, zok zzm (RX10, yX10_cut, cX10_cut, 7, (some .int), 0, 0) q = true := zk34_0
theorem zk35 : ∀ q ∈ zt35, zok zzm (RX10, yX10_isPlace, cX10_isPlace, 2, (some .boolean), 0, 0) q = true := zk35_0
theorem zk36 : ∀ q ∈ zt36, zok zzm (RX9, yX9_clean, cX9_clean, 2, (some .boolean), 0, 0) q = true := zk36_0
theorem zk37 : ∀ q ∈ zt37, zok zzm (RX10, yX10_clean, cX10_clean, 2, (some .boolean), 0, 0) q = true := zk37_0
theorem zk38 : ∀ q ∈ zt38, zok zzm (RX9, yX9_traces, cX9_traces, 4, (some .int), 0, 0) q = true := zk38_0
theorem zk39 : ∀ q ∈ zt39, zok zzm (RX9, yX9_tellTraces, cX9_tellTraces, 3, (some .int), 0, 0) q = true := zk39_0
theorem zk40 : ∀ q ∈ zt40, zok zzm (RX9, yX9_isNameCut, cX9_isNameCut, 3, (some .boolean), 0, 0) q = true := zk40_0
theorem zk41 : ∀ q ∈ zt41, zok zzm (RX9, yX9_isCut, cX9_isCut, 3, (some .boolean), 0, 0) q = true := zk41_0
theorem zk42 : ∀ q ∈ zt42, zok zzm (RX10, yX10_traces, cX10_traces, 5, (some .int), 0, 0) q = true := zk42_0
theorem zk43 : ∀ q ∈ zt43, zok zzm (RX10, yX10_isNaming, cX10_isNaming, 3, (some .boolean), 0, 0) q = true := zk43_0
theorem zk44 : ∀ q ∈ zt44, zok zzm (RX10, yX10_isCut, cX10_isCut, 3, (some .boolean), 0, 0) q = true := zk44_0
theorem zk45 : ∀ q ∈ zt45, zok zzm (RX9, yX9_fits, cX9_fits, 3, (some .int), 0, 0) q = true := zk45_0
theorem zk46 : ∀ q ∈ zt46, zok zzm (RX10, yX10_fits, cX10_fits, 5, (some .int), 0, 0) q = true := zk46_0
theorem zk47 : ∀ q ∈ zt47, zok zzm (RX9, yX9_crowded, cX9_crowded, 4, (some .int), 0, 0) q = true := zk47_0
theorem zk48 : ∀ q ∈ zt48, zok zzm (RX10, yX10_crowded, cX10_crowded, 3, (some .int), 0, 0) q = true := zk48_0
theorem zk49 : ∀ q ∈ zt49, zok zzm (RX9, yX9_dated, cX9_dated, 3, (some .boolean), 0, 0) q = true := zk49_0
theorem zk50 : ∀ q ∈ zt50, zok zzm (RX10, yX10_dated, cX10_dated, 3, (some .boolean), 0, 0) q = true := zk50_0
theorem zk51 : ∀ q ∈ zt51, zok zzm (RX9, yX9_stories, cX9_stories, 2, (some .int), 0, 0) q = true := zk51_0
theorem zk52 : ∀ q ∈ zt52, zok zzm (RX10, yX10_stories, cX10_stories, 6, (some .int), 0, 0) q = true := fun q h => (fun h => (List.mem_append.mp h).elim (zk52_0 q) (zk52_1 q)) h
theorem zk53 : ∀ q ∈ zt53, zok zzm (RX10, yX10_findStories, cX10_findStories, 1, none, 0, 0) q = true := zk53_0
theorem zk54 : ∀ q ∈ zt54, zok zzm (RX10, yX10_beginsStories, cX10_beginsStories, 4, none, 0, 0) q = true := zk54_0
theorem zk55 : ∀ q ∈ zt55, zok zzm (RX10, yX10_cutsOf, cX10_cutsOf, 2, (some .int), 0, 0) q = true := zk55_0
theorem zk56 : ∀ q ∈ zt56, zok zzm (RX10, yX10_tells, cX10_tells, 5, none, 0, 0) q = true := fun q h => (fun h => (List.mem_append.mp h).elim (zk56_0 q) (zk56_1 q)) h
theorem zk57 : ∀ q ∈ zt57, zok zzm (RX6, yX6_gatherAll, cX6_gatherAll, 1, none, 0, 0) q = true := zk57_0
theorem zk58 : ∀ q ∈ zt58, zok zzm (RX6, yX6_findLeastReigns, cX6_findLeastReigns, 4, none, 0, 0) q = true := zk58_0
theorem zk59 : ∀ q ∈ zt59, zok zzm (RX6, yX6_gather, cX6_gather, 4, none, 0, 0) q = true := fun q h => (fun h => (List.mem_append.mp h).elim (zk59_0 q) (zk59_1 q)) h
theorem zk60 : ∀ q ∈ zt60, zok zzm (RX6, yX6_weigh, cX6_weigh, 10, none, 0, 0) q = true := zk60_0
theorem zk61 : ∀ q ∈ zt61, zok zzm (RX6, yX6_tally, cX6_tally, 2, none, 0, 0) q = true := zk61_0
theorem zk62 : ∀ q ∈ zt62, zok zzm (RX6, yX6_isPossible, cX6_isPossible, 4, (some .boolean), 0, 0) q = true := zk62_0
theorem zk63 : ∀ q ∈ zt63, zok zzm (RX6, yX6_pushBehind, cX6_pushBehind, 5, (some .boolean), 0, 0) q = true := zk63_0
theorem zk64 : ∀ q ∈ zt64, zok zzm (RX6, yX6_countFrom, cX6_countFrom, 7, (some .int), 0, 0) q = true := zk64_0
theorem zk65 : ∀ q ∈ zt65, zok zzm (RX6, yX6_isBusy, cX6_isBusy, 2, (some .boolean), 0, 0) q = true := zk65_0
theorem zk66 : ∀ q ∈ zt66, zok zzm (RX6, yX6_sureHands, cX6_sureHands, 3, (some .int), 0, 0) q = true := zk66_0
theorem zk67 : ∀ q ∈ zt67, zok zzm (RX10, yX10_countOf, cX10_countOf, 5, (some .int), 0, 0) q = true := zk67_0
theorem zk68 : ∀ q ∈ zt68, zok zzm (RX10, yX10_reignIn, cX10_reignIn, 5, (some .int), 0, 0) q = true := zk68_0
theorem zk69 : ∀ q ∈ zt69, zok zzm (RX9, yX9_story, cX9_story, 3, (some .int), 0, 0) q = true := zk69_0
theorem zk70 : ∀ q ∈ zt70, zok zzm (RX9, yX9_isBusyHand, cX9_isBusyHand, 2, (some .boolean), 0, 0) q = true := zk70_0
theorem zk71 : ∀ q ∈ zt71, zok zzm (RX10, yX10_story, cX10_story, 3, (some .int), 0, 0) q = true := zk71_0
theorem zk72 : ∀ q ∈ zt72, zok zzm (RX10, yX10_isHand, cX10_isHand, 2, (some .boolean), 0, 0) q = true := zk72_0
theorem zk73 : ∀ q ∈ zt73, zok zzm (RX9, yX9_odds, cX9_odds, 3, (some .int), 0, 0) q = true := zk73_0
theorem zk74 : ∀ q ∈ zt74, zok zzm (RX10, yX10_odds, cX10_odds, 3, (some .int), 0, 0) q = true := zk74_0
theorem zk75 : ∀ q ∈ zt75, zok zzm (RX9, yX9_between, cX9_between, 3, (some .int), 0, 0) q = true := zk75_0
theorem zk76 : ∀ q ∈ zt76, zok zzm (RX10, yX10_between, cX10_between, 6, (some .int), 0, 0) q = true := zk76_0
theorem zk77 : ∀ q ∈ zt77, zok zzm (RX9, yX9_stood, cX9_stood, 3, (some .int), 0, 0) q = true := zk77_0
theorem zk78 : ∀ q ∈ zt78, zok zzm (RX10, yX10_stood, cX10_stood, 9, (some .int), 0, 0) q = true := zk78_0
theorem zk79 : ∀ q ∈ zt79, zok zzm (RX9, yX9_next, cX9_next, 3, (some .int), 0, 0) q = true := zk79_0
theorem zk80 : ∀ q ∈ zt80, zok zzm (RX10, yX10_next, cX10_next, 7, (some .int), 0, 0) q = true := fun q h => (fun h => (List.mem_append.mp h).elim (zk80_0 q) (zk80_1 q)) h
theorem zk81 : ∀ q ∈ zt81, zok zzm (RX6, yX6_handToDate, cX6_handToDate, 4, (some .int), 0, 0) q = true := zk81_0
theorem zk82 : ∀ q ∈ zt82, zok zzm (RX9, yX9_doubt, cX9_doubt, 1, (some .int), 0, 0) q = true := zk82_0
theorem zk83 : ∀ q ∈ zt83, zok zzm (RX6, yX6_doubtful, cX6_doubtful, 2, (some .int), 0, 0) q = true := zk83_0
theorem zk84 : ∀ q ∈ zt84, zok zzm (RX10, yX10_doubt, cX10_doubt, 4, (some .int), 0, 0) q = true := zk84_0
theorem zk85 : ∀ q ∈ zt85, zok zzm (RX9, yX9_order, cX9_order, 3, (some .int), 0, 0) q = true := zk85_0
theorem zk86 : ∀ q ∈ zt86, zok zzm (RX10, yX10_order, cX10_order, 3, (some .int), 0, 0) q = true := fun q h => (fun h => (List.mem_append.mp h).elim (zk86_0 q) (zk86_1 q)) h
theorem zk87 : ∀ q ∈ zt87, zok zzm (RX4, yX4_read, cX4_read, 3, (some .int), 0, 0) q = true := zk87_0
theorem zk88 : ∀ q ∈ zt88, zok zzm (RX3, yX3_clear, cX3_clear, 1, none, 0, 0) q = true := zk88_0
theorem zk89 : ∀ q ∈ zt89, zok zzm (RX4, yX4_advance, cX4_advance, 1, none, 0, 0) q = true := zk89_0
theorem zk90 : ∀ q ∈ zt90, zok zzm (RX3, yX3_copy, cX3_copy, 2, none, 0, 0) q = true := fun q h => (fun h => (List.mem_append.mp h).elim (zk90_0 q) (zk90_1 q)) h
theorem zk91 : ∀ q ∈ zt91, zok zzm (RX10, yX10_cutAll, cX10_cutAll, 7, none, 0, 0) q = true := zk91_0
theorem zk92 : ∀ q ∈ zt92, zok zzm (RX9, yX9_works, cX9_works, 4, (some .boolean), 0, 0) q = true := zk92_0
theorem zk93 : ∀ q ∈ zt93, zok zzm (RX10, yX10_works, cX10_works, 4, (some .boolean), 0, 0) q = true := zk93_0
theorem zk94 : ∀ q ∈ zt94, zok zzm (RX9, yX9_ran, cX9_ran, 3, (some .int), 0, 0) q = true := zk94_0
theorem zk95 : ∀ q ∈ zt95, zok zzm (RX10, yX10_ran, cX10_ran, 3, (some .int), 0, 0) q = true := zk95_0
theorem zk96 : ∀ q ∈ zt96, zok zzm (RX9, yX9_made, cX9_made, 5, (some .int), 0, 0) q = true := zk96_0
theorem zk97 : ∀ q ∈ zt97, zok zzm (RX10, yX10_made, cX10_made, 5, (some .int), 0, 0) q = true := zk97_0
theorem zk98 : ∀ q ∈ zt98, zok zzm (RX9, yX9_agrees, cX9_agrees, 2, (some .int), 0, 0) q = true := zk98_0
theorem zk99 : ∀ q ∈ zt99, zok zzm (RX10, yX10_agrees, cX10_agrees, 5, (some .int), 0, 0) q = true := fun q h => (fun h => (List.mem_append.mp h).elim (zk99_0 q) (zk99_1 q)) h
theorem zk100 : ∀ q ∈ zt100, zok zzm (RX10, yX10_runs, cX10_runs, 4, none, 0, 0) q = true := zk100_0
theorem zk101 : ∀ q ∈ zt101, zok zzm (RX10, yX10_does, cX10_does, 5, none, 0, 0) q = true := zk101_0
theorem zk102 : ∀ q ∈ zt102, zok zzm (RX5, yX5_perform, cX5_perform, 3, none, 0, 0) q = true := fun q h => (fun h => (List.mem_append.mp h).elim (zk102_0 q) (zk102_1 q)) h
theorem zk103 : ∀ q ∈ zt103, zok zzm (RX5, yX5_begin, cX5_begin, 3, none, 0, 0) q = true := zk103_0
theorem zk104 : ∀ q ∈ zt104, zok zzm (RX5, yX5_obey, cX5_obey, 6, none, 0, 0) q = true := zk104_0
theorem zk105 : ∀ q ∈ zt105, zok zzm (RX5, yX5_findMissed, cX5_findMissed, 5, (some .int), 0, 0) q = true := zk105_0
theorem zk106 : ∀ q ∈ zt106, zok zzm (RX5, yX5_standingAt, cX5_standingAt, 2, (some .int), 0, 0) q = true := zk106_0
theorem zk107 : ∀ q ∈ zt107, zok zzm (RX5, yX5_cutsTogether, cX5_cutsTogether, 3, (some .int), 0, 0) q = true := zk107_0
theorem zk108 : ∀ q ∈ zt108, zok zzm (RX5, yX5_agreeing, cX5_agreeing, 3, (some .int), 0, 0) q = true := zk108_0
theorem zk109 : ∀ q ∈ zt109, zok zzm (RX9, yX9_missed, cX9_missed, 2, (some .int), 0, 0) q = true := zk109_0
theorem zk110 : ∀ q ∈ zt110, zok zzm (RX10, yX10_missed, cX10_missed, 6, (some .int), 0, 0) q = true := zk110_0
theorem zk111 : ∀ q ∈ zt111, zok zzm (RX9, yX9_far, cX9_far, 4, (some .int), 0, 0) q = true := zk111_0
theorem zk112 : ∀ q ∈ zt112, zok zzm (RX10, yX10_far, cX10_far, 11, (some .int), 0, 0) q = true := zk112_0
theorem zk113 : ∀ q ∈ zt113, zok zzm (RX9, yX9_block, cX9_block, 7, (some .boolean), 0, 0) q = true := fun q h => (fun h => (List.mem_append.mp h).elim (zk113_0 q) (zk113_1 q)) h
theorem zk114 : ∀ q ∈ zt114, zok zzm (RX10, yX10_block, cX10_block, 8, (some .boolean), 0, 0) q = true := fun q h => (fun h => (List.mem_append.mp h).elim (zk114_0 q) (zk114_1 q)) h
theorem zk115 : ∀ q ∈ zt115, zok zzm (RX1, yX1_tell, cX1_tell, 5, none, 0, 0) q = true := zk115_0
theorem zk116 : ∀ q ∈ zt116, zok zzm (RX9, yX9_ways, cX9_ways, 2, (some .int), 0, 0) q = true := zk116_0
theorem zk117 : ∀ q ∈ zt117, zok zzm (RX10, yX10_ways, cX10_ways, 5, (some .int), 0, 0) q = true := zk117_0
theorem zk118 : ∀ q ∈ zt118, zok zzm (RX1, yX1_layAll, cX1_layAll, 2, none, 0, 0) q = true := zk118_0
theorem zk119 : ∀ q ∈ zt119, zok zzm (RX1, yX1_layFrom, cX1_layFrom, 6, (some .int), 0, 0) q = true := zk119_0
theorem zk120 : ∀ q ∈ zt120, zok zzm (RX1, yX1_sureBlocks, cX1_sureBlocks, 3, (some .int), 0, 0) q = true := zk120_0
theorem zk121 : ∀ q ∈ zt121, zok zzm (RX10, yX10_findWays, cX10_findWays, 2, none, 0, 0) q = true := zk121_0
theorem zk122 : ∀ q ∈ zt122, zok zzm (RX10, yX10_fills, cX10_fills, 4, none, 0, 0) q = true := fun q h => (fun h => (List.mem_append.mp h).elim (zk122_0 q) (zk122_1 q)) h
theorem zk123 : ∀ q ∈ zt123, zok zzm (RX9, yX9_back, cX9_back, 2, (some .int), 0, 0) q = true := zk123_0
theorem zk124 : ∀ q ∈ zt124, zok zzm (RX10, yX10_back, cX10_back, 2, (some .int), 0, 0) q = true := zk124_0
theorem zk125 : ∀ q ∈ zt125, zok zzm (RX9, yX9_count, cX9_count, 2, (some .int), 0, 0) q = true := zk125_0
theorem zk126 : ∀ q ∈ zt126, zok zzm (RX10, yX10_count, cX10_count, 4, (some .int), 0, 0) q = true := fun q h => (fun h => (List.mem_append.mp h).elim (zk126_0 q) (fun h => (List.mem_append.mp h).elim (zk126_1 q) (zk126_2 q))) h
theorem zk127 : ∀ q ∈ zt127, zok zzm (RX1, yX1_toldNumber, cX1_toldNumber, 5, (some .int), 0, 0) q = true := zk127_0
theorem zk128 : ∀ q ∈ zt128, zok zzm (RX9, yX9_linesTold, cX9_linesTold, 3, (some .int), 0, 0) q = true := zk128_0
theorem zk129 : ∀ q ∈ zt129, zok zzm (RX9, yX9_cutsTold, cX9_cutsTold, 3, (some .int), 0, 0) q = true := zk129_0
theorem zk130 : ∀ q ∈ zt130, zok zzm (RX9, yX9_placesTold, cX9_placesTold, 3, (some .int), 0, 0) q = true := zk130_0
theorem zk131 : ∀ q ∈ zt131, zok zzm (RX2, yX2_toldNumber, cX2_toldNumber, 3, (some .int), 0, 0) q = true := zk131_0
theorem zztab : zTab zzm zzc := by
  intro k me tb h1 h2
  match k, h1, h2 with
  | 0, h1, h2 => cases h1; cases h2; exact zk0
  | 1, h1, h2 => cases h1; cases h2; exact zk1
  | 2, h1, h2 => cases h1; cases h2; exact zk2
  | 3, h1, h2 => cases h1; cases h2; exact zk3
  | 4, h1, h2 => cases h1; cases h2; exact zk4
  | 5, h1, h2 => cases h1; cases h2; exact zk5
  | 6, h1, h2 => cases h1; cases h2; exact zk6
  | 7, h1, h2 => cases h1; cases h2; exact zk7
  | 8, h1, h2 => cases h1; cases h2; exact zk8
  | 9, h1, h2 => cases h1; cases h2; exact zk9
  | 10, h1, h2 => cases h1; cases h2; exact zk10
  | 11, h1, h2 => cases h1; cases h2; exact zk11
  | 12, h1, h2 => cases h1; cases h2; exact zk12
  | 13, h1, h2 => cases h1; cases h2; exact zk13
  | 14, h1, h2 => cases h1; cases h2; exact zk14
  | 15, h1, h2 => cases h1; cases h2; exact zk15
  | 16, h1, h2 => cases h1; cases h2; exact zk16
  | 17, h1, h2 => cases h1; cases h2; exact zk17
  | 18, h1, h2 => cases h1; cases h2; exact zk18
  | 19, h1, h2 => cases h1; cases h2; exact zk19
  | 20, h1, h2 => cases h1; cases h2; exact zk20
  | 21, h1, h2 => cases h1; cases h2; exact zk21
  | 22, h1, h2 => cases h1; cases h2; exact zk22
  | 23, h1, h2 => cases h1; cases h2; exact zk23
  | 24, h1, h2 => cases h1; cases h2; exact zk24
  | 25, h1, h2 => cases h1; cases h2; exact zk25
  | 26, h1, h2 => cases h1; cases h2; exact zk26
  | 27, h1, h2 => cases h1; cases h2; exact zk27
  | 28, h1, h2 => cases h1; cases h2; exact zk28
  | 29, h1, h2 => cases h1; cases h2; exact zk29
  | 30, h1, h2 => cases h1; cases h2; exact zk30
  | 31, h1, h2 => cases h1; cases h2; exact zk31
  | 32, h1, h2 => cases h1; cases h2; exact zk32
  | 33, h1, h2 => cases h1; cases h2; exact zk33
  | 34, h1, h2 => cases h1; cases h2; exact zk34
  | 35, h1, h2 => cases h1; cases h2; exact zk35
  | 36, h1, h2 => cases h1; cases h2; exact zk36
  | 37, h1, h2 => cases h1; cases h2; exact zk37
  | 38, h1, h2 => cases h1; cases h2; exact zk38
  | 39, h1, h2 => cases h1; cases h2; exact zk39
  | 40, h1, h2 => cases h1; cases h2; exact zk40
  | 41, h1, h2 => cases h1; cases h2; exact zk41
  | 42, h1, h2 => cases h1; cases h2; exact zk42
  | 43, h1, h2 => cases h1; cases h2; exact zk43
  | 44, h1, h2 => cases h1; cases h2; exact zk44
  | 45, h1, h2 => cases h1; cases h2; exact zk45
  | 46, h1, h2 => cases h1; cases h2; exact zk46
  | 47, h1, h2 => cases h1; cases h2; exact zk47
  | 48, h1, h2 => cases h1; cases h2; exact zk48
  | 49, h1, h2 => cases h1; cases h2; exact zk49
  | 50, h1, h2 => cases h1; cases h2; exact zk50
  | 51, h1, h2 => cases h1; cases h2; exact zk51
  | 52, h1, h2 => cases h1; cases h2; exact zk52
  | 53, h1, h2 => cases h1; cases h2; exact zk53
  | 54, h1, h2 => cases h1; cases h2; exact zk54
  | 55, h1, h2 => cases h1; cases h2; exact zk55
  | 56, h1, h2 => cases h1; cases h2; exact zk56
  | 57, h1, h2 => cases h1; cases h2; exact zk57
  | 58, h1, h2 => cases h1; cases h2; exact zk58
  | 59, h1, h2 => cases h1; cases h2; exact zk59
  | 60, h1, h2 => cases h1; cases h2; exact zk60
  | 61, h1, h2 => cases h1; cases h2; exact zk61
  | 62, h1, h2 => cases h1; cases h2; exact zk62
  | 63, h1, h2 => cases h1; cases h2; exact zk63
  | 64, h1, h2 => cases h1; cases h2; exact zk64
  | 65, h1, h2 => cases h1; cases h2; exact zk65
  | 66, h1, h2 => cases h1; cases h2; exact zk66
  | 67, h1, h2 => cases h1; cases h2; exact zk67
  | 68, h1, h2 => cases h1; cases h2; exact zk68
  | 69, h1, h2 => cases h1; cases h2; exact zk69
  | 70, h1, h2 => cases h1; cases h2; exact zk70
  | 71, h1, h2 => cases h1; cases h2; exact zk71
  | 72, h1, h2 => cases h1; cases h2; exact zk72
  | 73, h1, h2 => cases h1; cases h2; exact zk73
  | 74, h1, h2 => cases h1; cases h2; exact zk74
  | 75, h1, h2 => cases h1; cases h2; exact zk75
  | 76, h1, h2 => cases h1; cases h2; exact zk76
  | 77, h1, h2 => cases h1; cases h2; exact zk77
  | 78, h1, h2 => cases h1; cases h2; exact zk78
  | 79, h1, h2 => cases h1; cases h2; exact zk79
  | 80, h1, h2 => cases h1; cases h2; exact zk80
  | 81, h1, h2 => cases h1; cases h2; exact zk81
  | 82, h1, h2 => cases h1; cases h2; exact zk82
  | 83, h1, h2 => cases h1; cases h2; exact zk83
  | 84, h1, h2 => cases h1; cases h2; exact zk84
  | 85, h1, h2 => cases h1; cases h2; exact zk85
  | 86, h1, h2 => cases h1; cases h2; exact zk86
  | 87, h1, h2 => cases h1; cases h2; exact zk87
  | 88, h1, h2 => cases h1; cases h2; exact zk88
  | 89, h1, h2 => cases h1; cases h2; exact zk89
  | 90, h1, h2 => cases h1; cases h2; exact zk90
  | 91, h1, h2 => cases h1; cases h2; exact zk91
  | 92, h1, h2 => cases h1; cases h2; exact zk92
  | 93, h1, h2 => cases h1; cases h2; exact zk93
  | 94, h1, h2 => cases h1; cases h2; exact zk94
  | 95, h1, h2 => cases h1; cases h2; exact zk95
  | 96, h1, h2 => cases h1; cases h2; exact zk96
  | 97, h1, h2 => cases h1; cases h2; exact zk97
  | 98, h1, h2 => cases h1; cases h2; exact zk98
  | 99, h1, h2 => cases h1; cases h2; exact zk99
  | 100, h1, h2 => cases h1; cases h2; exact zk100
  | 101, h1, h2 => cases h1; cases h2; exact zk101
  | 102, h1, h2 => cases h1; cases h2; exact zk102
  | 103, h1, h2 => cases h1; cases h2; exact zk103
  | 104, h1, h2 => cases h1; cases h2; exact zk104
  | 105, h1, h2 => cases h1; cases h2; exact zk105
  | 106, h1, h2 => cases h1; cases h2; exact zk106
  | 107, h1, h2 => cases h1; cases h2; exact zk107
  | 108, h1, h2 => cases h1; cases h2; exact zk108
  | 109, h1, h2 => cases h1; cases h2; exact zk109
  | 110, h1, h2 => cases h1; cases h2; exact zk110
  | 111, h1, h2 => cases h1; cases h2; exact zk111
  | 112, h1, h2 => cases h1; cases h2; exact zk112
  | 113, h1, h2 => cases h1; cases h2; exact zk113
  | 114, h1, h2 => cases h1; cases h2; exact zk114
  | 115, h1, h2 => cases h1; cases h2; exact zk115
  | 116, h1, h2 => cases h1; cases h2; exact zk116
  | 117, h1, h2 => cases h1; cases h2; exact zk117
  | 118, h1, h2 => cases h1; cases h2; exact zk118
  | 119, h1, h2 => cases h1; cases h2; exact zk119
  | 120, h1, h2 => cases h1; cases h2; exact zk120
  | 121, h1, h2 => cases h1; cases h2; exact zk121
  | 122, h1, h2 => cases h1; cases h2; exact zk122
  | 123, h1, h2 => cases h1; cases h2; exact zk123
  | 124, h1, h2 => cases h1; cases h2; exact zk124
  | 125, h1, h2 => cases h1; cases h2; exact zk125
  | 126, h1, h2 => cases h1; cases h2; exact zk126
  | 127, h1, h2 => cases h1; cases h2; exact zk127
  | 128, h1, h2 => cases h1; cases h2; exact zk128
  | 129, h1, h2 => cases h1; cases h2; exact zk129
  | 130, h1, h2 => cases h1; cases h2; exact zk130
  | 131, h1, h2 => cases h1; cases h2; exact zk131
  | n + 132, h1, h2 => cases h1

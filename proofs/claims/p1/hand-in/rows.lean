section
-- ===== PART A: goes FIRST, ahead of the names: the tables' words, and 'selects' of the private methods out of them =====
/-- a private method of a class that the tables say can be made, by its rows of tables_1 -/
def lw_okq (q : MethodName × Nat) : Prop := (q.1.cls ≠ "java/lang/invoke/MethodHandle" ∧ q.1.cls ≠ "java/lang/invoke/VarHandle") ∧ Cond.instantiable q.1.cls q.2 ∈ tables_1 ∧ Cond.privateMethod q.1 ∈ tables_1 ∧ Cond.instanceMethod q.1 ∈ tables_1
theorem lw_p0 : lw_okq (⟨"NamesUnder$Tape", "addSign", "(I)V"⟩, 4) := ⟨⟨by decide +kernel, by decide +kernel⟩, List.mem_of_getElem? (i := 31) (by decide +kernel), List.mem_of_getElem? (i := 442) (by decide +kernel), List.mem_of_getElem? (i := 443) (by decide +kernel)⟩
theorem lw_p1 : lw_okq (⟨"NamesUnder", "tellName", "(IIZ)I"⟩, 9) := ⟨⟨by decide +kernel, by decide +kernel⟩, List.mem_of_getElem? (i := 23) (by decide +kernel), List.mem_of_getElem? (i := 450) (by decide +kernel), List.mem_of_getElem? (i := 451) (by decide +kernel)⟩
theorem lw_p2 : lw_okq (⟨"NamesUnder$NameList", "isWord", "(ILNamesUnder$Tape;)Z"⟩, 6) := ⟨⟨by decide +kernel, by decide +kernel⟩, List.mem_of_getElem? (i := 60) (by decide +kernel), List.mem_of_getElem? (i := 475) (by decide +kernel), List.mem_of_getElem? (i := 476) (by decide +kernel)⟩
theorem lw_p3 : lw_okq (⟨"NamesUnder", "forgetFindings", "()V"⟩, 9) := ⟨⟨by decide +kernel, by decide +kernel⟩, List.mem_of_getElem? (i := 23) (by decide +kernel), List.mem_of_getElem? (i := 486) (by decide +kernel), List.mem_of_getElem? (i := 487) (by decide +kernel)⟩
theorem lw_p4 : lw_okq (⟨"NamesUnder", "isPlace", "(I)Z"⟩, 9) := ⟨⟨by decide +kernel, by decide +kernel⟩, List.mem_of_getElem? (i := 23) (by decide +kernel), List.mem_of_getElem? (i := 531) (by decide +kernel), List.mem_of_getElem? (i := 532) (by decide +kernel)⟩
theorem lw_p5 : lw_okq (⟨"NamesUnder$Wall", "canBeMended", "(I)Z"⟩, 11) := ⟨⟨by decide +kernel, by decide +kernel⟩, List.mem_of_getElem? (i := 94) (by decide +kernel), List.mem_of_getElem? (i := 543) (by decide +kernel), List.mem_of_getElem? (i := 544) (by decide +kernel)⟩
theorem lw_p6 : lw_okq (⟨"NamesUnder", "tellTraces", "(II)I"⟩, 9) := ⟨⟨by decide +kernel, by decide +kernel⟩, List.mem_of_getElem? (i := 23) (by decide +kernel), List.mem_of_getElem? (i := 563) (by decide +kernel), List.mem_of_getElem? (i := 564) (by decide +kernel)⟩
theorem lw_p7 : lw_okq (⟨"NamesUnder", "isNameCut", "(II)Z"⟩, 9) := ⟨⟨by decide +kernel, by decide +kernel⟩, List.mem_of_getElem? (i := 23) (by decide +kernel), List.mem_of_getElem? (i := 567) (by decide +kernel), List.mem_of_getElem? (i := 568) (by decide +kernel)⟩
theorem lw_p8 : lw_okq (⟨"NamesUnder", "isCut", "(II)Z"⟩, 9) := ⟨⟨by decide +kernel, by decide +kernel⟩, List.mem_of_getElem? (i := 23) (by decide +kernel), List.mem_of_getElem? (i := 571) (by decide +kernel), List.mem_of_getElem? (i := 572) (by decide +kernel)⟩
theorem lw_p9 : lw_okq (⟨"NamesUnder$NameList", "isFitting", "(ILNamesUnder$Wall;IZ)Z"⟩, 6) := ⟨⟨by decide +kernel, by decide +kernel⟩, List.mem_of_getElem? (i := 60) (by decide +kernel), List.mem_of_getElem? (i := 591) (by decide +kernel), List.mem_of_getElem? (i := 592) (by decide +kernel)⟩
theorem lw_p10 : lw_okq (⟨"NamesUnder$NameList", "hasTraces", "(ILNamesUnder$Wall;I)Z"⟩, 6) := ⟨⟨by decide +kernel, by decide +kernel⟩, List.mem_of_getElem? (i := 60) (by decide +kernel), List.mem_of_getElem? (i := 595) (by decide +kernel), List.mem_of_getElem? (i := 596) (by decide +kernel)⟩
theorem lw_p11 : lw_okq (⟨"NamesUnder$NameList", "isFirstFitting", "(ILNamesUnder$Wall;)Z"⟩, 6) := ⟨⟨by decide +kernel, by decide +kernel⟩, List.mem_of_getElem? (i := 60) (by decide +kernel), List.mem_of_getElem? (i := 599) (by decide +kernel), List.mem_of_getElem? (i := 600) (by decide +kernel)⟩
theorem lw_p12 : lw_okq (⟨"NamesUnder$StoryBook", "findLeastReigns", "()V"⟩, 19) := ⟨⟨by decide +kernel, by decide +kernel⟩, List.mem_of_getElem? (i := 158) (by decide +kernel), List.mem_of_getElem? (i := 623) (by decide +kernel), List.mem_of_getElem? (i := 624) (by decide +kernel)⟩
theorem lw_p13 : lw_okq (⟨"NamesUnder$StoryBook", "gather", "(II)V"⟩, 19) := ⟨⟨by decide +kernel, by decide +kernel⟩, List.mem_of_getElem? (i := 158) (by decide +kernel), List.mem_of_getElem? (i := 633) (by decide +kernel), List.mem_of_getElem? (i := 634) (by decide +kernel)⟩
theorem lw_p14 : lw_okq (⟨"NamesUnder$StoryBook", "weigh", "(IZ)V"⟩, 19) := ⟨⟨by decide +kernel, by decide +kernel⟩, List.mem_of_getElem? (i := 158) (by decide +kernel), List.mem_of_getElem? (i := 637) (by decide +kernel), List.mem_of_getElem? (i := 638) (by decide +kernel)⟩
theorem lw_p15 : lw_okq (⟨"NamesUnder$StoryBook", "addStep", "(III)V"⟩, 19) := ⟨⟨by decide +kernel, by decide +kernel⟩, List.mem_of_getElem? (i := 158) (by decide +kernel), List.mem_of_getElem? (i := 641) (by decide +kernel), List.mem_of_getElem? (i := 642) (by decide +kernel)⟩
def lw_privs_1 : List (MethodName × Nat) := [(⟨"NamesUnder$Tape", "addSign", "(I)V"⟩, 4), (⟨"NamesUnder", "tellName", "(IIZ)I"⟩, 9), (⟨"NamesUnder$NameList", "isWord", "(ILNamesUnder$Tape;)Z"⟩, 6), (⟨"NamesUnder", "forgetFindings", "()V"⟩, 9), (⟨"NamesUnder", "isPlace", "(I)Z"⟩, 9), (⟨"NamesUnder$Wall", "canBeMended", "(I)Z"⟩, 11), (⟨"NamesUnder", "tellTraces", "(II)I"⟩, 9), (⟨"NamesUnder", "isNameCut", "(II)Z"⟩, 9), (⟨"NamesUnder", "isCut", "(II)Z"⟩, 9), (⟨"NamesUnder$NameList", "isFitting", "(ILNamesUnder$Wall;IZ)Z"⟩, 6), (⟨"NamesUnder$NameList", "hasTraces", "(ILNamesUnder$Wall;I)Z"⟩, 6), (⟨"NamesUnder$NameList", "isFirstFitting", "(ILNamesUnder$Wall;)Z"⟩, 6), (⟨"NamesUnder$StoryBook", "findLeastReigns", "()V"⟩, 19), (⟨"NamesUnder$StoryBook", "gather", "(II)V"⟩, 19), (⟨"NamesUnder$StoryBook", "weigh", "(IZ)V"⟩, 19), (⟨"NamesUnder$StoryBook", "addStep", "(III)V"⟩, 19)]
theorem lw_r1 : ∀ q ∈ lw_privs_1, lw_okq q := List.forall_mem_cons.mpr ⟨lw_p0, List.forall_mem_cons.mpr ⟨lw_p1, List.forall_mem_cons.mpr ⟨lw_p2, List.forall_mem_cons.mpr ⟨lw_p3, List.forall_mem_cons.mpr ⟨lw_p4, List.forall_mem_cons.mpr ⟨lw_p5, List.forall_mem_cons.mpr ⟨lw_p6, List.forall_mem_cons.mpr ⟨lw_p7, List.forall_mem_cons.mpr ⟨lw_p8, List.forall_mem_cons.mpr ⟨lw_p9, List.forall_mem_cons.mpr ⟨lw_p10, List.forall_mem_cons.mpr ⟨lw_p11, List.forall_mem_cons.mpr ⟨lw_p12, List.forall_mem_cons.mpr ⟨lw_p13, List.forall_mem_cons.mpr ⟨lw_p14, List.forall_mem_cons.mpr ⟨lw_p15, fun _ h => absurd h List.not_mem_nil⟩⟩⟩⟩⟩⟩⟩⟩⟩⟩⟩⟩⟩⟩⟩⟩
theorem lw_p16 : lw_okq (⟨"NamesUnder$StoryBook", "raise", "(II)V"⟩, 19) := ⟨⟨by decide +kernel, by decide +kernel⟩, List.mem_of_getElem? (i := 158) (by decide +kernel), List.mem_of_getElem? (i := 646) (by decide +kernel), List.mem_of_getElem? (i := 647) (by decide +kernel)⟩
theorem lw_p17 : lw_okq (⟨"NamesUnder$StoryBook", "isPossible", "()Z"⟩, 19) := ⟨⟨by decide +kernel, by decide +kernel⟩, List.mem_of_getElem? (i := 158) (by decide +kernel), List.mem_of_getElem? (i := 650) (by decide +kernel), List.mem_of_getElem? (i := 651) (by decide +kernel)⟩
theorem lw_p18 : lw_okq (⟨"NamesUnder$StoryBook", "pushBehind", "()Z"⟩, 19) := ⟨⟨by decide +kernel, by decide +kernel⟩, List.mem_of_getElem? (i := 158) (by decide +kernel), List.mem_of_getElem? (i := 657) (by decide +kernel), List.mem_of_getElem? (i := 658) (by decide +kernel)⟩
theorem lw_p19 : lw_okq (⟨"NamesUnder$StoryBook", "countFrom", "(I)I"⟩, 19) := ⟨⟨by decide +kernel, by decide +kernel⟩, List.mem_of_getElem? (i := 158) (by decide +kernel), List.mem_of_getElem? (i := 661) (by decide +kernel), List.mem_of_getElem? (i := 662) (by decide +kernel)⟩
theorem lw_p20 : lw_okq (⟨"NamesUnder$StoryBook", "highest", "(I)I"⟩, 19) := ⟨⟨by decide +kernel, by decide +kernel⟩, List.mem_of_getElem? (i := 158) (by decide +kernel), List.mem_of_getElem? (i := 669) (by decide +kernel), List.mem_of_getElem? (i := 670) (by decide +kernel)⟩
theorem lw_p21 : lw_okq (⟨"NamesUnder$StoryBook", "lowest", "(I)I"⟩, 19) := ⟨⟨by decide +kernel, by decide +kernel⟩, List.mem_of_getElem? (i := 158) (by decide +kernel), List.mem_of_getElem? (i := 674) (by decide +kernel), List.mem_of_getElem? (i := 675) (by decide +kernel)⟩
theorem lw_p22 : lw_okq (⟨"NamesUnder", "isBusyHand", "(I)Z"⟩, 9) := ⟨⟨by decide +kernel, by decide +kernel⟩, List.mem_of_getElem? (i := 23) (by decide +kernel), List.mem_of_getElem? (i := 691) (by decide +kernel), List.mem_of_getElem? (i := 692) (by decide +kernel)⟩
theorem lw_p23 : lw_okq (⟨"NamesUnder$StoryBook", "seekFrom", "(I)Z"⟩, 19) := ⟨⟨by decide +kernel, by decide +kernel⟩, List.mem_of_getElem? (i := 158) (by decide +kernel), List.mem_of_getElem? (i := 700) (by decide +kernel), List.mem_of_getElem? (i := 701) (by decide +kernel)⟩
theorem lw_p24 : lw_okq (⟨"NamesUnder$StoryBook", "skipLast", "(III)Z"⟩, 19) := ⟨⟨by decide +kernel, by decide +kernel⟩, List.mem_of_getElem? (i := 158) (by decide +kernel), List.mem_of_getElem? (i := 704) (by decide +kernel), List.mem_of_getElem? (i := 705) (by decide +kernel)⟩
theorem lw_p25 : lw_okq (⟨"NamesUnder$StoryBook", "isPossibleWith", "(IIII)Z"⟩, 19) := ⟨⟨by decide +kernel, by decide +kernel⟩, List.mem_of_getElem? (i := 158) (by decide +kernel), List.mem_of_getElem? (i := 720) (by decide +kernel), List.mem_of_getElem? (i := 721) (by decide +kernel)⟩
theorem lw_p26 : lw_okq (⟨"NamesUnder$StoryBook", "mayHaveStood", "(LNamesUnder$Wall;II)Z"⟩, 19) := ⟨⟨by decide +kernel, by decide +kernel⟩, List.mem_of_getElem? (i := 158) (by decide +kernel), List.mem_of_getElem? (i := 732) (by decide +kernel), List.mem_of_getElem? (i := 733) (by decide +kernel)⟩
theorem lw_p27 : lw_okq (⟨"NamesUnder$StoryBook", "doubtfulOne", "()I"⟩, 19) := ⟨⟨by decide +kernel, by decide +kernel⟩, List.mem_of_getElem? (i := 158) (by decide +kernel), List.mem_of_getElem? (i := 753) (by decide +kernel), List.mem_of_getElem? (i := 754) (by decide +kernel)⟩
theorem lw_p28 : lw_okq (⟨"NamesUnder$StoryBook", "isPossibleWithout", "(II)Z"⟩, 19) := ⟨⟨by decide +kernel, by decide +kernel⟩, List.mem_of_getElem? (i := 158) (by decide +kernel), List.mem_of_getElem? (i := 757) (by decide +kernel), List.mem_of_getElem? (i := 758) (by decide +kernel)⟩
theorem lw_p29 : lw_okq (⟨"NamesUnder$StoryBook", "doubtfulTwo", "()I"⟩, 19) := ⟨⟨by decide +kernel, by decide +kernel⟩, List.mem_of_getElem? (i := 158) (by decide +kernel), List.mem_of_getElem? (i := 761) (by decide +kernel), List.mem_of_getElem? (i := 762) (by decide +kernel)⟩
theorem lw_p30 : lw_okq (⟨"NamesUnder$OrderReader", "advance", "()V"⟩, 12) := ⟨⟨by decide +kernel, by decide +kernel⟩, List.mem_of_getElem? (i := 271) (by decide +kernel), List.mem_of_getElem? (i := 778) (by decide +kernel), List.mem_of_getElem? (i := 779) (by decide +kernel)⟩
theorem lw_p31 : lw_okq (⟨"NamesUnder$OrderReader", "takeWord", "()V"⟩, 12) := ⟨⟨by decide +kernel, by decide +kernel⟩, List.mem_of_getElem? (i := 271) (by decide +kernel), List.mem_of_getElem? (i := 784) (by decide +kernel), List.mem_of_getElem? (i := 785) (by decide +kernel)⟩
def lw_privs_2 : List (MethodName × Nat) := [(⟨"NamesUnder$StoryBook", "raise", "(II)V"⟩, 19), (⟨"NamesUnder$StoryBook", "isPossible", "()Z"⟩, 19), (⟨"NamesUnder$StoryBook", "pushBehind", "()Z"⟩, 19), (⟨"NamesUnder$StoryBook", "countFrom", "(I)I"⟩, 19), (⟨"NamesUnder$StoryBook", "highest", "(I)I"⟩, 19), (⟨"NamesUnder$StoryBook", "lowest", "(I)I"⟩, 19), (⟨"NamesUnder", "isBusyHand", "(I)Z"⟩, 9), (⟨"NamesUnder$StoryBook", "seekFrom", "(I)Z"⟩, 19), (⟨"NamesUnder$StoryBook", "skipLast", "(III)Z"⟩, 19), (⟨"NamesUnder$StoryBook", "isPossibleWith", "(IIII)Z"⟩, 19), (⟨"NamesUnder$StoryBook", "mayHaveStood", "(LNamesUnder$Wall;II)Z"⟩, 19), (⟨"NamesUnder$StoryBook", "doubtfulOne", "()I"⟩, 19), (⟨"NamesUnder$StoryBook", "isPossibleWithout", "(II)Z"⟩, 19), (⟨"NamesUnder$StoryBook", "doubtfulTwo", "()I"⟩, 19), (⟨"NamesUnder$OrderReader", "advance", "()V"⟩, 12), (⟨"NamesUnder$OrderReader", "takeWord", "()V"⟩, 12)]
theorem lw_r2 : ∀ q ∈ lw_privs_2, lw_okq q := List.forall_mem_cons.mpr ⟨lw_p16, List.forall_mem_cons.mpr ⟨lw_p17, List.forall_mem_cons.mpr ⟨lw_p18, List.forall_mem_cons.mpr ⟨lw_p19, List.forall_mem_cons.mpr ⟨lw_p20, List.forall_mem_cons.mpr ⟨lw_p21, List.forall_mem_cons.mpr ⟨lw_p22, List.forall_mem_cons.mpr ⟨lw_p23, List.forall_mem_cons.mpr ⟨lw_p24, List.forall_mem_cons.mpr ⟨lw_p25, List.forall_mem_cons.mpr ⟨lw_p26, List.forall_mem_cons.mpr ⟨lw_p27, List.forall_mem_cons.mpr ⟨lw_p28, List.forall_mem_cons.mpr ⟨lw_p29, List.forall_mem_cons.mpr ⟨lw_p30, List.forall_mem_cons.mpr ⟨lw_p31, fun _ h => absurd h List.not_mem_nil⟩⟩⟩⟩⟩⟩⟩⟩⟩⟩⟩⟩⟩⟩⟩⟩
theorem lw_p32 : lw_okq (⟨"NamesUnder$OrderReader", "isWordOfCell", "(I)Z"⟩, 12) := ⟨⟨by decide +kernel, by decide +kernel⟩, List.mem_of_getElem? (i := 271) (by decide +kernel), List.mem_of_getElem? (i := 788) (by decide +kernel), List.mem_of_getElem? (i := 789) (by decide +kernel)⟩
theorem lw_p33 : lw_okq (⟨"NamesUnder$OrderReader", "takeNumber", "()V"⟩, 12) := ⟨⟨by decide +kernel, by decide +kernel⟩, List.mem_of_getElem? (i := 271) (by decide +kernel), List.mem_of_getElem? (i := 836) (by decide +kernel), List.mem_of_getElem? (i := 837) (by decide +kernel)⟩
theorem lw_p34 : lw_okq (⟨"NamesUnder$OrderReader", "readLine", "(I)Z"⟩, 12) := ⟨⟨by decide +kernel, by decide +kernel⟩, List.mem_of_getElem? (i := 271) (by decide +kernel), List.mem_of_getElem? (i := 843) (by decide +kernel), List.mem_of_getElem? (i := 844) (by decide +kernel)⟩
theorem lw_p35 : lw_okq (⟨"NamesUnder$OrderReader", "refuse", "(I)Z"⟩, 12) := ⟨⟨by decide +kernel, by decide +kernel⟩, List.mem_of_getElem? (i := 271) (by decide +kernel), List.mem_of_getElem? (i := 847) (by decide +kernel), List.mem_of_getElem? (i := 848) (by decide +kernel)⟩
theorem lw_p36 : lw_okq (⟨"NamesUnder$OrderReader", "readTarget", "(I)Z"⟩, 12) := ⟨⟨by decide +kernel, by decide +kernel⟩, List.mem_of_getElem? (i := 271) (by decide +kernel), List.mem_of_getElem? (i := 851) (by decide +kernel), List.mem_of_getElem? (i := 852) (by decide +kernel)⟩
theorem lw_p37 : lw_okq (⟨"NamesUnder$OrderReader", "readWhen", "()Z"⟩, 12) := ⟨⟨by decide +kernel, by decide +kernel⟩, List.mem_of_getElem? (i := 271) (by decide +kernel), List.mem_of_getElem? (i := 856) (by decide +kernel), List.mem_of_getElem? (i := 857) (by decide +kernel)⟩
theorem lw_p38 : lw_okq (⟨"NamesUnder$OrderReader", "takePart", "()Z"⟩, 12) := ⟨⟨by decide +kernel, by decide +kernel⟩, List.mem_of_getElem? (i := 271) (by decide +kernel), List.mem_of_getElem? (i := 860) (by decide +kernel), List.mem_of_getElem? (i := 861) (by decide +kernel)⟩
theorem lw_p39 : lw_okq (⟨"NamesUnder$OrderReader", "endPart", "()V"⟩, 12) := ⟨⟨by decide +kernel, by decide +kernel⟩, List.mem_of_getElem? (i := 271) (by decide +kernel), List.mem_of_getElem? (i := 868) (by decide +kernel), List.mem_of_getElem? (i := 869) (by decide +kernel)⟩
theorem lw_p40 : lw_okq (⟨"NamesUnder$OrderReader", "hold", "(I)V"⟩, 12) := ⟨⟨by decide +kernel, by decide +kernel⟩, List.mem_of_getElem? (i := 271) (by decide +kernel), List.mem_of_getElem? (i := 872) (by decide +kernel), List.mem_of_getElem? (i := 873) (by decide +kernel)⟩
theorem lw_p41 : lw_okq (⟨"NamesUnder$OrderReader", "takeJoint", "()Z"⟩, 12) := ⟨⟨by decide +kernel, by decide +kernel⟩, List.mem_of_getElem? (i := 271) (by decide +kernel), List.mem_of_getElem? (i := 876) (by decide +kernel), List.mem_of_getElem? (i := 877) (by decide +kernel)⟩
theorem lw_p42 : lw_okq (⟨"NamesUnder$OrderReader", "close", "()Z"⟩, 12) := ⟨⟨by decide +kernel, by decide +kernel⟩, List.mem_of_getElem? (i := 271) (by decide +kernel), List.mem_of_getElem? (i := 880) (by decide +kernel), List.mem_of_getElem? (i := 881) (by decide +kernel)⟩
theorem lw_p43 : lw_okq (⟨"NamesUnder$OrderReader", "release", "(I)V"⟩, 12) := ⟨⟨by decide +kernel, by decide +kernel⟩, List.mem_of_getElem? (i := 271) (by decide +kernel), List.mem_of_getElem? (i := 884) (by decide +kernel), List.mem_of_getElem? (i := 885) (by decide +kernel)⟩
theorem lw_p44 : lw_okq (⟨"NamesUnder$Run", "begin", "(I)V"⟩, 14) := ⟨⟨by decide +kernel, by decide +kernel⟩, List.mem_of_getElem? (i := 317) (by decide +kernel), List.mem_of_getElem? (i := 909) (by decide +kernel), List.mem_of_getElem? (i := 910) (by decide +kernel)⟩
theorem lw_p45 : lw_okq (⟨"NamesUnder$Run", "add", "(IIII)V"⟩, 14) := ⟨⟨by decide +kernel, by decide +kernel⟩, List.mem_of_getElem? (i := 317) (by decide +kernel), List.mem_of_getElem? (i := 913) (by decide +kernel), List.mem_of_getElem? (i := 914) (by decide +kernel)⟩
theorem lw_p46 : lw_okq (⟨"NamesUnder$Run", "obey", "(II)V"⟩, 14) := ⟨⟨by decide +kernel, by decide +kernel⟩, List.mem_of_getElem? (i := 317) (by decide +kernel), List.mem_of_getElem? (i := 917) (by decide +kernel), List.mem_of_getElem? (i := 918) (by decide +kernel)⟩
theorem lw_p47 : lw_okq (⟨"NamesUnder$Run", "canDo", "(IIII)Z"⟩, 14) := ⟨⟨by decide +kernel, by decide +kernel⟩, List.mem_of_getElem? (i := 317) (by decide +kernel), List.mem_of_getElem? (i := 921) (by decide +kernel), List.mem_of_getElem? (i := 922) (by decide +kernel)⟩
def lw_privs_3 : List (MethodName × Nat) := [(⟨"NamesUnder$OrderReader", "isWordOfCell", "(I)Z"⟩, 12), (⟨"NamesUnder$OrderReader", "takeNumber", "()V"⟩, 12), (⟨"NamesUnder$OrderReader", "readLine", "(I)Z"⟩, 12), (⟨"NamesUnder$OrderReader", "refuse", "(I)Z"⟩, 12), (⟨"NamesUnder$OrderReader", "readTarget", "(I)Z"⟩, 12), (⟨"NamesUnder$OrderReader", "readWhen", "()Z"⟩, 12), (⟨"NamesUnder$OrderReader", "takePart", "()Z"⟩, 12), (⟨"NamesUnder$OrderReader", "endPart", "()V"⟩, 12), (⟨"NamesUnder$OrderReader", "hold", "(I)V"⟩, 12), (⟨"NamesUnder$OrderReader", "takeJoint", "()Z"⟩, 12), (⟨"NamesUnder$OrderReader", "close", "()Z"⟩, 12), (⟨"NamesUnder$OrderReader", "release", "(I)V"⟩, 12), (⟨"NamesUnder$Run", "begin", "(I)V"⟩, 14), (⟨"NamesUnder$Run", "add", "(IIII)V"⟩, 14), (⟨"NamesUnder$Run", "obey", "(II)V"⟩, 14), (⟨"NamesUnder$Run", "canDo", "(IIII)Z"⟩, 14)]
theorem lw_r3 : ∀ q ∈ lw_privs_3, lw_okq q := List.forall_mem_cons.mpr ⟨lw_p32, List.forall_mem_cons.mpr ⟨lw_p33, List.forall_mem_cons.mpr ⟨lw_p34, List.forall_mem_cons.mpr ⟨lw_p35, List.forall_mem_cons.mpr ⟨lw_p36, List.forall_mem_cons.mpr ⟨lw_p37, List.forall_mem_cons.mpr ⟨lw_p38, List.forall_mem_cons.mpr ⟨lw_p39, List.forall_mem_cons.mpr ⟨lw_p40, List.forall_mem_cons.mpr ⟨lw_p41, List.forall_mem_cons.mpr ⟨lw_p42, List.forall_mem_cons.mpr ⟨lw_p43, List.forall_mem_cons.mpr ⟨lw_p44, List.forall_mem_cons.mpr ⟨lw_p45, List.forall_mem_cons.mpr ⟨lw_p46, List.forall_mem_cons.mpr ⟨lw_p47, fun _ h => absurd h List.not_mem_nil⟩⟩⟩⟩⟩⟩⟩⟩⟩⟩⟩⟩⟩⟩⟩⟩
theorem lw_p48 : lw_okq (⟨"NamesUnder$Run", "standingAt", "(I)I"⟩, 14) := ⟨⟨by decide +kernel, by decide +kernel⟩, List.mem_of_getElem? (i := 317) (by decide +kernel), List.mem_of_getElem? (i := 925) (by decide +kernel), List.mem_of_getElem? (i := 926) (by decide +kernel)⟩
theorem lw_p49 : lw_okq (⟨"NamesUnder$Run", "isBelowTop", "(II)Z"⟩, 14) := ⟨⟨by decide +kernel, by decide +kernel⟩, List.mem_of_getElem? (i := 317) (by decide +kernel), List.mem_of_getElem? (i := 931) (by decide +kernel), List.mem_of_getElem? (i := 932) (by decide +kernel)⟩
theorem lw_p50 : lw_okq (⟨"NamesUnder$Run", "evaluate", "(LNamesUnder$Order;II)I"⟩, 14) := ⟨⟨by decide +kernel, by decide +kernel⟩, List.mem_of_getElem? (i := 317) (by decide +kernel), List.mem_of_getElem? (i := 935) (by decide +kernel), List.mem_of_getElem? (i := 936) (by decide +kernel)⟩
theorem lw_p51 : lw_okq (⟨"NamesUnder$Run", "fact", "(II)I"⟩, 14) := ⟨⟨by decide +kernel, by decide +kernel⟩, List.mem_of_getElem? (i := 317) (by decide +kernel), List.mem_of_getElem? (i := 939) (by decide +kernel), List.mem_of_getElem? (i := 940) (by decide +kernel)⟩
theorem lw_p52 : lw_okq (⟨"NamesUnder$Run", "work", "(IIII)V"⟩, 14) := ⟨⟨by decide +kernel, by decide +kernel⟩, List.mem_of_getElem? (i := 317) (by decide +kernel), List.mem_of_getElem? (i := 946) (by decide +kernel), List.mem_of_getElem? (i := 947) (by decide +kernel)⟩
theorem lw_p53 : lw_okq (⟨"NamesUnder$Run", "findMissed", "(I)I"⟩, 14) := ⟨⟨by decide +kernel, by decide +kernel⟩, List.mem_of_getElem? (i := 317) (by decide +kernel), List.mem_of_getElem? (i := 950) (by decide +kernel), List.mem_of_getElem? (i := 951) (by decide +kernel)⟩
theorem lw_p54 : lw_okq (⟨"NamesUnder$Run", "isAsTold", "(I)Z"⟩, 14) := ⟨⟨by decide +kernel, by decide +kernel⟩, List.mem_of_getElem? (i := 317) (by decide +kernel), List.mem_of_getElem? (i := 969) (by decide +kernel), List.mem_of_getElem? (i := 970) (by decide +kernel)⟩
theorem lw_p55 : lw_okq (⟨"NamesUnder", "highestDone", "(II)I"⟩, 9) := ⟨⟨by decide +kernel, by decide +kernel⟩, List.mem_of_getElem? (i := 23) (by decide +kernel), List.mem_of_getElem? (i := 985) (by decide +kernel), List.mem_of_getElem? (i := 986) (by decide +kernel)⟩
theorem lw_p56 : lw_okq (⟨"NamesUnder", "lowestLeft", "(I)I"⟩, 9) := ⟨⟨by decide +kernel, by decide +kernel⟩, List.mem_of_getElem? (i := 23) (by decide +kernel), List.mem_of_getElem? (i := 994) (by decide +kernel), List.mem_of_getElem? (i := 995) (by decide +kernel)⟩
theorem lw_p57 : lw_okq (⟨"NamesUnder", "sortsDone", "(II)I"⟩, 9) := ⟨⟨by decide +kernel, by decide +kernel⟩, List.mem_of_getElem? (i := 23) (by decide +kernel), List.mem_of_getElem? (i := 1002) (by decide +kernel), List.mem_of_getElem? (i := 1003) (by decide +kernel)⟩
theorem lw_p58 : lw_okq (⟨"NamesUnder", "sortsLeft", "(I)I"⟩, 9) := ⟨⟨by decide +kernel, by decide +kernel⟩, List.mem_of_getElem? (i := 23) (by decide +kernel), List.mem_of_getElem? (i := 1006) (by decide +kernel), List.mem_of_getElem? (i := 1007) (by decide +kernel)⟩
theorem lw_p59 : lw_okq (⟨"NamesUnder$Masonry", "layFrom", "(II)I"⟩, 7) := ⟨⟨by decide +kernel, by decide +kernel⟩, List.mem_of_getElem? (i := 375) (by decide +kernel), List.mem_of_getElem? (i := 1026) (by decide +kernel), List.mem_of_getElem? (i := 1027) (by decide +kernel)⟩
theorem lw_p60 : lw_okq (⟨"NamesUnder$Masonry", "isSuited", "(II)Z"⟩, 7) := ⟨⟨by decide +kernel, by decide +kernel⟩, List.mem_of_getElem? (i := 375) (by decide +kernel), List.mem_of_getElem? (i := 1030) (by decide +kernel), List.mem_of_getElem? (i := 1031) (by decide +kernel)⟩
theorem lw_p61 : lw_okq (⟨"NamesUnder", "placesTold", "()I"⟩, 9) := ⟨⟨by decide +kernel, by decide +kernel⟩, List.mem_of_getElem? (i := 23) (by decide +kernel), List.mem_of_getElem? (i := 1056) (by decide +kernel), List.mem_of_getElem? (i := 1057) (by decide +kernel)⟩
theorem lw_p62 : lw_okq (⟨"NamesUnder", "cutsTold", "()I"⟩, 9) := ⟨⟨by decide +kernel, by decide +kernel⟩, List.mem_of_getElem? (i := 23) (by decide +kernel), List.mem_of_getElem? (i := 1060) (by decide +kernel), List.mem_of_getElem? (i := 1061) (by decide +kernel)⟩
theorem lw_p63 : lw_okq (⟨"NamesUnder", "linesTold", "()I"⟩, 9) := ⟨⟨by decide +kernel, by decide +kernel⟩, List.mem_of_getElem? (i := 23) (by decide +kernel), List.mem_of_getElem? (i := 1064) (by decide +kernel), List.mem_of_getElem? (i := 1065) (by decide +kernel)⟩
def lw_privs_4 : List (MethodName × Nat) := [(⟨"NamesUnder$Run", "standingAt", "(I)I"⟩, 14), (⟨"NamesUnder$Run", "isBelowTop", "(II)Z"⟩, 14), (⟨"NamesUnder$Run", "evaluate", "(LNamesUnder$Order;II)I"⟩, 14), (⟨"NamesUnder$Run", "fact", "(II)I"⟩, 14), (⟨"NamesUnder$Run", "work", "(IIII)V"⟩, 14), (⟨"NamesUnder$Run", "findMissed", "(I)I"⟩, 14), (⟨"NamesUnder$Run", "isAsTold", "(I)Z"⟩, 14), (⟨"NamesUnder", "highestDone", "(II)I"⟩, 9), (⟨"NamesUnder", "lowestLeft", "(I)I"⟩, 9), (⟨"NamesUnder", "sortsDone", "(II)I"⟩, 9), (⟨"NamesUnder", "sortsLeft", "(I)I"⟩, 9), (⟨"NamesUnder$Masonry", "layFrom", "(II)I"⟩, 7), (⟨"NamesUnder$Masonry", "isSuited", "(II)Z"⟩, 7), (⟨"NamesUnder", "placesTold", "()I"⟩, 9), (⟨"NamesUnder", "cutsTold", "()I"⟩, 9), (⟨"NamesUnder", "linesTold", "()I"⟩, 9)]
theorem lw_r4 : ∀ q ∈ lw_privs_4, lw_okq q := List.forall_mem_cons.mpr ⟨lw_p48, List.forall_mem_cons.mpr ⟨lw_p49, List.forall_mem_cons.mpr ⟨lw_p50, List.forall_mem_cons.mpr ⟨lw_p51, List.forall_mem_cons.mpr ⟨lw_p52, List.forall_mem_cons.mpr ⟨lw_p53, List.forall_mem_cons.mpr ⟨lw_p54, List.forall_mem_cons.mpr ⟨lw_p55, List.forall_mem_cons.mpr ⟨lw_p56, List.forall_mem_cons.mpr ⟨lw_p57, List.forall_mem_cons.mpr ⟨lw_p58, List.forall_mem_cons.mpr ⟨lw_p59, List.forall_mem_cons.mpr ⟨lw_p60, List.forall_mem_cons.mpr ⟨lw_p61, List.forall_mem_cons.mpr ⟨lw_p62, List.forall_mem_cons.mpr ⟨lw_p63, fun _ h => absurd h List.not_mem_nil⟩⟩⟩⟩⟩⟩⟩⟩⟩⟩⟩⟩⟩⟩⟩⟩
theorem lw_p64 : lw_okq (⟨"java/lang/Throwable", "fillInStackTrace", "(I)Ljava/lang/Throwable;"⟩, 6) := ⟨⟨by decide +kernel, by decide +kernel⟩, List.mem_of_getElem? (i := 1116) (by decide +kernel), List.mem_of_getElem? (i := 1114) (by decide +kernel), List.mem_of_getElem? (i := 1115) (by decide +kernel)⟩
theorem lw_p65 : lw_okq (⟨"NamesUnderModel", "lay", "(J)V"⟩, 58) := ⟨⟨by decide +kernel, by decide +kernel⟩, List.mem_of_getElem? (i := 1155) (by decide +kernel), List.mem_of_getElem? (i := 1153) (by decide +kernel), List.mem_of_getElem? (i := 1154) (by decide +kernel)⟩
theorem lw_p66 : lw_okq (⟨"NamesUnderModel", "bares", "()V"⟩, 58) := ⟨⟨by decide +kernel, by decide +kernel⟩, List.mem_of_getElem? (i := 1155) (by decide +kernel), List.mem_of_getElem? (i := 1359) (by decide +kernel), List.mem_of_getElem? (i := 1360) (by decide +kernel)⟩
theorem lw_p67 : lw_okq (⟨"NamesUnderModel", "isBlank", "(I)Z"⟩, 58) := ⟨⟨by decide +kernel, by decide +kernel⟩, List.mem_of_getElem? (i := 1155) (by decide +kernel), List.mem_of_getElem? (i := 1363) (by decide +kernel), List.mem_of_getElem? (i := 1364) (by decide +kernel)⟩
theorem lw_p68 : lw_okq (⟨"NamesUnderModel", "areLetters", "(Z)Z"⟩, 58) := ⟨⟨by decide +kernel, by decide +kernel⟩, List.mem_of_getElem? (i := 1155) (by decide +kernel), List.mem_of_getElem? (i := 1370) (by decide +kernel), List.mem_of_getElem? (i := 1371) (by decide +kernel)⟩
theorem lw_p69 : lw_okq (⟨"NamesUnderModel", "isTaped", "(I)Z"⟩, 58) := ⟨⟨by decide +kernel, by decide +kernel⟩, List.mem_of_getElem? (i := 1155) (by decide +kernel), List.mem_of_getElem? (i := 1377) (by decide +kernel), List.mem_of_getElem? (i := 1378) (by decide +kernel)⟩
theorem lw_p70 : lw_okq (⟨"NamesUnderModel", "isName", "(I)Z"⟩, 58) := ⟨⟨by decide +kernel, by decide +kernel⟩, List.mem_of_getElem? (i := 1155) (by decide +kernel), List.mem_of_getElem? (i := 1385) (by decide +kernel), List.mem_of_getElem? (i := 1386) (by decide +kernel)⟩
theorem lw_p71 : lw_okq (⟨"NamesUnderModel", "width", "(I)I"⟩, 58) := ⟨⟨by decide +kernel, by decide +kernel⟩, List.mem_of_getElem? (i := 1155) (by decide +kernel), List.mem_of_getElem? (i := 1389) (by decide +kernel), List.mem_of_getElem? (i := 1390) (by decide +kernel)⟩
theorem lw_p72 : lw_okq (⟨"NamesUnderModel", "areAlike", "(II)Z"⟩, 58) := ⟨⟨by decide +kernel, by decide +kernel⟩, List.mem_of_getElem? (i := 1155) (by decide +kernel), List.mem_of_getElem? (i := 1400) (by decide +kernel), List.mem_of_getElem? (i := 1401) (by decide +kernel)⟩
theorem lw_p73 : lw_okq (⟨"NamesUnderModel", "isWithout", "(III)Z"⟩, 58) := ⟨⟨by decide +kernel, by decide +kernel⟩, List.mem_of_getElem? (i := 1155) (by decide +kernel), List.mem_of_getElem? (i := 1404) (by decide +kernel), List.mem_of_getElem? (i := 1405) (by decide +kernel)⟩
theorem lw_p74 : lw_okq (⟨"NamesUnderModel", "isPlace", "(I)Z"⟩, 58) := ⟨⟨by decide +kernel, by decide +kernel⟩, List.mem_of_getElem? (i := 1155) (by decide +kernel), List.mem_of_getElem? (i := 1416) (by decide +kernel), List.mem_of_getElem? (i := 1417) (by decide +kernel)⟩
theorem lw_p75 : lw_okq (⟨"NamesUnderModel", "lies", "(II)Z"⟩, 58) := ⟨⟨by decide +kernel, by decide +kernel⟩, List.mem_of_getElem? (i := 1155) (by decide +kernel), List.mem_of_getElem? (i := 1423) (by decide +kernel), List.mem_of_getElem? (i := 1424) (by decide +kernel)⟩
theorem lw_p76 : lw_okq (⟨"NamesUnderModel", "isNaming", "(II)Z"⟩, 58) := ⟨⟨by decide +kernel, by decide +kernel⟩, List.mem_of_getElem? (i := 1155) (by decide +kernel), List.mem_of_getElem? (i := 1435) (by decide +kernel), List.mem_of_getElem? (i := 1436) (by decide +kernel)⟩
theorem lw_p77 : lw_okq (⟨"NamesUnderModel", "isCut", "(II)Z"⟩, 58) := ⟨⟨by decide +kernel, by decide +kernel⟩, List.mem_of_getElem? (i := 1155) (by decide +kernel), List.mem_of_getElem? (i := 1439) (by decide +kernel), List.mem_of_getElem? (i := 1440) (by decide +kernel)⟩
theorem lw_p78 : lw_okq (⟨"NamesUnderModel", "doesFit", "(III)Z"⟩, 58) := ⟨⟨by decide +kernel, by decide +kernel⟩, List.mem_of_getElem? (i := 1155) (by decide +kernel), List.mem_of_getElem? (i := 1451) (by decide +kernel), List.mem_of_getElem? (i := 1452) (by decide +kernel)⟩
theorem lw_p79 : lw_okq (⟨"NamesUnderModel", "findStories", "()V"⟩, 58) := ⟨⟨by decide +kernel, by decide +kernel⟩, List.mem_of_getElem? (i := 1155) (by decide +kernel), List.mem_of_getElem? (i := 1467) (by decide +kernel), List.mem_of_getElem? (i := 1468) (by decide +kernel)⟩
def lw_privs_5 : List (MethodName × Nat) := [(⟨"java/lang/Throwable", "fillInStackTrace", "(I)Ljava/lang/Throwable;"⟩, 6), (⟨"NamesUnderModel", "lay", "(J)V"⟩, 58), (⟨"NamesUnderModel", "bares", "()V"⟩, 58), (⟨"NamesUnderModel", "isBlank", "(I)Z"⟩, 58), (⟨"NamesUnderModel", "areLetters", "(Z)Z"⟩, 58), (⟨"NamesUnderModel", "isTaped", "(I)Z"⟩, 58), (⟨"NamesUnderModel", "isName", "(I)Z"⟩, 58), (⟨"NamesUnderModel", "width", "(I)I"⟩, 58), (⟨"NamesUnderModel", "areAlike", "(II)Z"⟩, 58), (⟨"NamesUnderModel", "isWithout", "(III)Z"⟩, 58), (⟨"NamesUnderModel", "isPlace", "(I)Z"⟩, 58), (⟨"NamesUnderModel", "lies", "(II)Z"⟩, 58), (⟨"NamesUnderModel", "isNaming", "(II)Z"⟩, 58), (⟨"NamesUnderModel", "isCut", "(II)Z"⟩, 58), (⟨"NamesUnderModel", "doesFit", "(III)Z"⟩, 58), (⟨"NamesUnderModel", "findStories", "()V"⟩, 58)]
theorem lw_r5 : ∀ q ∈ lw_privs_5, lw_okq q := List.forall_mem_cons.mpr ⟨lw_p64, List.forall_mem_cons.mpr ⟨lw_p65, List.forall_mem_cons.mpr ⟨lw_p66, List.forall_mem_cons.mpr ⟨lw_p67, List.forall_mem_cons.mpr ⟨lw_p68, List.forall_mem_cons.mpr ⟨lw_p69, List.forall_mem_cons.mpr ⟨lw_p70, List.forall_mem_cons.mpr ⟨lw_p71, List.forall_mem_cons.mpr ⟨lw_p72, List.forall_mem_cons.mpr ⟨lw_p73, List.forall_mem_cons.mpr ⟨lw_p74, List.forall_mem_cons.mpr ⟨lw_p75, List.forall_mem_cons.mpr ⟨lw_p76, List.forall_mem_cons.mpr ⟨lw_p77, List.forall_mem_cons.mpr ⟨lw_p78, List.forall_mem_cons.mpr ⟨lw_p79, fun _ h => absurd h List.not_mem_nil⟩⟩⟩⟩⟩⟩⟩⟩⟩⟩⟩⟩⟩⟩⟩⟩
theorem lw_p80 : lw_okq (⟨"NamesUnderModel", "beginsStories", "(I)V"⟩, 58) := ⟨⟨by decide +kernel, by decide +kernel⟩, List.mem_of_getElem? (i := 1155) (by decide +kernel), List.mem_of_getElem? (i := 1471) (by decide +kernel), List.mem_of_getElem? (i := 1472) (by decide +kernel)⟩
theorem lw_p81 : lw_okq (⟨"NamesUnderModel", "cutsOf", "(I)I"⟩, 58) := ⟨⟨by decide +kernel, by decide +kernel⟩, List.mem_of_getElem? (i := 1155) (by decide +kernel), List.mem_of_getElem? (i := 1475) (by decide +kernel), List.mem_of_getElem? (i := 1476) (by decide +kernel)⟩
theorem lw_p82 : lw_okq (⟨"NamesUnderModel", "tells", "(IZ)V"⟩, 58) := ⟨⟨by decide +kernel, by decide +kernel⟩, List.mem_of_getElem? (i := 1155) (by decide +kernel), List.mem_of_getElem? (i := 1479) (by decide +kernel), List.mem_of_getElem? (i := 1480) (by decide +kernel)⟩
theorem lw_p83 : lw_okq (⟨"NamesUnderModel", "letsAll", "()Z"⟩, 58) := ⟨⟨by decide +kernel, by decide +kernel⟩, List.mem_of_getElem? (i := 1155) (by decide +kernel), List.mem_of_getElem? (i := 1483) (by decide +kernel), List.mem_of_getElem? (i := 1484) (by decide +kernel)⟩
theorem lw_p84 : lw_okq (⟨"NamesUnderModel", "lets", "(II)Z"⟩, 58) := ⟨⟨by decide +kernel, by decide +kernel⟩, List.mem_of_getElem? (i := 1155) (by decide +kernel), List.mem_of_getElem? (i := 1487) (by decide +kernel), List.mem_of_getElem? (i := 1488) (by decide +kernel)⟩
theorem lw_p85 : lw_okq (⟨"NamesUnderModel", "isThere", "(IIII)Z"⟩, 58) := ⟨⟨by decide +kernel, by decide +kernel⟩, List.mem_of_getElem? (i := 1155) (by decide +kernel), List.mem_of_getElem? (i := 1491) (by decide +kernel), List.mem_of_getElem? (i := 1492) (by decide +kernel)⟩
theorem lw_p86 : lw_okq (⟨"NamesUnderModel", "countOf", "(II)I"⟩, 58) := ⟨⟨by decide +kernel, by decide +kernel⟩, List.mem_of_getElem? (i := 1155) (by decide +kernel), List.mem_of_getElem? (i := 1495) (by decide +kernel), List.mem_of_getElem? (i := 1496) (by decide +kernel)⟩
theorem lw_p87 : lw_okq (⟨"NamesUnderModel", "reignIn", "(II)I"⟩, 58) := ⟨⟨by decide +kernel, by decide +kernel⟩, List.mem_of_getElem? (i := 1155) (by decide +kernel), List.mem_of_getElem? (i := 1499) (by decide +kernel), List.mem_of_getElem? (i := 1500) (by decide +kernel)⟩
theorem lw_p88 : lw_okq (⟨"NamesUnderModel", "isHand", "(I)Z"⟩, 58) := ⟨⟨by decide +kernel, by decide +kernel⟩, List.mem_of_getElem? (i := 1155) (by decide +kernel), List.mem_of_getElem? (i := 1507) (by decide +kernel), List.mem_of_getElem? (i := 1508) (by decide +kernel)⟩
theorem lw_p89 : lw_okq (⟨"NamesUnderModel", "hasStory", "(I)Z"⟩, 58) := ⟨⟨by decide +kernel, by decide +kernel⟩, List.mem_of_getElem? (i := 1155) (by decide +kernel), List.mem_of_getElem? (i := 1531) (by decide +kernel), List.mem_of_getElem? (i := 1532) (by decide +kernel)⟩
theorem lw_p90 : lw_okq (⟨"NamesUnderModel", "cutAll", "()V"⟩, 58) := ⟨⟨by decide +kernel, by decide +kernel⟩, List.mem_of_getElem? (i := 1155) (by decide +kernel), List.mem_of_getElem? (i := 1539) (by decide +kernel), List.mem_of_getElem? (i := 1540) (by decide +kernel)⟩
theorem lw_p91 : lw_okq (⟨"NamesUnderModel", "readLine", "()V"⟩, 58) := ⟨⟨by decide +kernel, by decide +kernel⟩, List.mem_of_getElem? (i := 1155) (by decide +kernel), List.mem_of_getElem? (i := 1555) (by decide +kernel), List.mem_of_getElem? (i := 1556) (by decide +kernel)⟩
theorem lw_p92 : lw_okq (⟨"NamesUnderModel", "isWord", "(I)Z"⟩, 58) := ⟨⟨by decide +kernel, by decide +kernel⟩, List.mem_of_getElem? (i := 1155) (by decide +kernel), List.mem_of_getElem? (i := 1559) (by decide +kernel), List.mem_of_getElem? (i := 1560) (by decide +kernel)⟩
theorem lw_p93 : lw_okq (⟨"NamesUnderModel", "wrong", "(I)V"⟩, 58) := ⟨⟨by decide +kernel, by decide +kernel⟩, List.mem_of_getElem? (i := 1155) (by decide +kernel), List.mem_of_getElem? (i := 1563) (by decide +kernel), List.mem_of_getElem? (i := 1564) (by decide +kernel)⟩
theorem lw_p94 : lw_okq (⟨"NamesUnderModel", "takeWord", "(I)V"⟩, 58) := ⟨⟨by decide +kernel, by decide +kernel⟩, List.mem_of_getElem? (i := 1155) (by decide +kernel), List.mem_of_getElem? (i := 1568) (by decide +kernel), List.mem_of_getElem? (i := 1569) (by decide +kernel)⟩
theorem lw_p95 : lw_okq (⟨"NamesUnderModel", "hasWord", "(I)Z"⟩, 58) := ⟨⟨by decide +kernel, by decide +kernel⟩, List.mem_of_getElem? (i := 1155) (by decide +kernel), List.mem_of_getElem? (i := 1572) (by decide +kernel), List.mem_of_getElem? (i := 1573) (by decide +kernel)⟩
def lw_privs_6 : List (MethodName × Nat) := [(⟨"NamesUnderModel", "beginsStories", "(I)V"⟩, 58), (⟨"NamesUnderModel", "cutsOf", "(I)I"⟩, 58), (⟨"NamesUnderModel", "tells", "(IZ)V"⟩, 58), (⟨"NamesUnderModel", "letsAll", "()Z"⟩, 58), (⟨"NamesUnderModel", "lets", "(II)Z"⟩, 58), (⟨"NamesUnderModel", "isThere", "(IIII)Z"⟩, 58), (⟨"NamesUnderModel", "countOf", "(II)I"⟩, 58), (⟨"NamesUnderModel", "reignIn", "(II)I"⟩, 58), (⟨"NamesUnderModel", "isHand", "(I)Z"⟩, 58), (⟨"NamesUnderModel", "hasStory", "(I)Z"⟩, 58), (⟨"NamesUnderModel", "cutAll", "()V"⟩, 58), (⟨"NamesUnderModel", "readLine", "()V"⟩, 58), (⟨"NamesUnderModel", "isWord", "(I)Z"⟩, 58), (⟨"NamesUnderModel", "wrong", "(I)V"⟩, 58), (⟨"NamesUnderModel", "takeWord", "(I)V"⟩, 58), (⟨"NamesUnderModel", "hasWord", "(I)Z"⟩, 58)]
theorem lw_r6 : ∀ q ∈ lw_privs_6, lw_okq q := List.forall_mem_cons.mpr ⟨lw_p80, List.forall_mem_cons.mpr ⟨lw_p81, List.forall_mem_cons.mpr ⟨lw_p82, List.forall_mem_cons.mpr ⟨lw_p83, List.forall_mem_cons.mpr ⟨lw_p84, List.forall_mem_cons.mpr ⟨lw_p85, List.forall_mem_cons.mpr ⟨lw_p86, List.forall_mem_cons.mpr ⟨lw_p87, List.forall_mem_cons.mpr ⟨lw_p88, List.forall_mem_cons.mpr ⟨lw_p89, List.forall_mem_cons.mpr ⟨lw_p90, List.forall_mem_cons.mpr ⟨lw_p91, List.forall_mem_cons.mpr ⟨lw_p92, List.forall_mem_cons.mpr ⟨lw_p93, List.forall_mem_cons.mpr ⟨lw_p94, List.forall_mem_cons.mpr ⟨lw_p95, fun _ h => absurd h List.not_mem_nil⟩⟩⟩⟩⟩⟩⟩⟩⟩⟩⟩⟩⟩⟩⟩⟩
theorem lw_p96 : lw_okq (⟨"NamesUnderModel", "all", "(I)V"⟩, 58) := ⟨⟨by decide +kernel, by decide +kernel⟩, List.mem_of_getElem? (i := 1155) (by decide +kernel), List.mem_of_getElem? (i := 1576) (by decide +kernel), List.mem_of_getElem? (i := 1577) (by decide +kernel)⟩
theorem lw_p97 : lw_okq (⟨"NamesUnderModel", "test", "(I)V"⟩, 58) := ⟨⟨by decide +kernel, by decide +kernel⟩, List.mem_of_getElem? (i := 1155) (by decide +kernel), List.mem_of_getElem? (i := 1580) (by decide +kernel), List.mem_of_getElem? (i := 1581) (by decide +kernel)⟩
theorem lw_p98 : lw_okq (⟨"NamesUnderModel", "sums", "(I)V"⟩, 58) := ⟨⟨by decide +kernel, by decide +kernel⟩, List.mem_of_getElem? (i := 1155) (by decide +kernel), List.mem_of_getElem? (i := 1584) (by decide +kernel), List.mem_of_getElem? (i := 1585) (by decide +kernel)⟩
theorem lw_p99 : lw_okq (⟨"NamesUnderModel", "products", "(I)V"⟩, 58) := ⟨⟨by decide +kernel, by decide +kernel⟩, List.mem_of_getElem? (i := 1155) (by decide +kernel), List.mem_of_getElem? (i := 1588) (by decide +kernel), List.mem_of_getElem? (i := 1589) (by decide +kernel)⟩
theorem lw_p100 : lw_okq (⟨"NamesUnderModel", "takePart", "(I)V"⟩, 58) := ⟨⟨by decide +kernel, by decide +kernel⟩, List.mem_of_getElem? (i := 1155) (by decide +kernel), List.mem_of_getElem? (i := 1592) (by decide +kernel), List.mem_of_getElem? (i := 1593) (by decide +kernel)⟩
theorem lw_p101 : lw_okq (⟨"NamesUnderModel", "isSign", "(I)Z"⟩, 58) := ⟨⟨by decide +kernel, by decide +kernel⟩, List.mem_of_getElem? (i := 1155) (by decide +kernel), List.mem_of_getElem? (i := 1596) (by decide +kernel), List.mem_of_getElem? (i := 1597) (by decide +kernel)⟩
theorem lw_p102 : lw_okq (⟨"NamesUnderModel", "emit", "(II)V"⟩, 58) := ⟨⟨by decide +kernel, by decide +kernel⟩, List.mem_of_getElem? (i := 1155) (by decide +kernel), List.mem_of_getElem? (i := 1600) (by decide +kernel), List.mem_of_getElem? (i := 1601) (by decide +kernel)⟩
theorem lw_p103 : lw_okq (⟨"NamesUnderModel", "hasSign", "(I)Z"⟩, 58) := ⟨⟨by decide +kernel, by decide +kernel⟩, List.mem_of_getElem? (i := 1155) (by decide +kernel), List.mem_of_getElem? (i := 1604) (by decide +kernel), List.mem_of_getElem? (i := 1605) (by decide +kernel)⟩
theorem lw_p104 : lw_okq (⟨"NamesUnderModel", "takeSign", "(I)V"⟩, 58) := ⟨⟨by decide +kernel, by decide +kernel⟩, List.mem_of_getElem? (i := 1155) (by decide +kernel), List.mem_of_getElem? (i := 1608) (by decide +kernel), List.mem_of_getElem? (i := 1609) (by decide +kernel)⟩
theorem lw_p105 : lw_okq (⟨"NamesUnderModel", "runs", "(I)V"⟩, 58) := ⟨⟨by decide +kernel, by decide +kernel⟩, List.mem_of_getElem? (i := 1155) (by decide +kernel), List.mem_of_getElem? (i := 1620) (by decide +kernel), List.mem_of_getElem? (i := 1621) (by decide +kernel)⟩
theorem lw_p106 : lw_okq (⟨"NamesUnderModel", "lays", "(IIII)V"⟩, 58) := ⟨⟨by decide +kernel, by decide +kernel⟩, List.mem_of_getElem? (i := 1155) (by decide +kernel), List.mem_of_getElem? (i := 1624) (by decide +kernel), List.mem_of_getElem? (i := 1625) (by decide +kernel)⟩
theorem lw_p107 : lw_okq (⟨"NamesUnderModel", "does", "(II)V"⟩, 58) := ⟨⟨by decide +kernel, by decide +kernel⟩, List.mem_of_getElem? (i := 1155) (by decide +kernel), List.mem_of_getElem? (i := 1628) (by decide +kernel), List.mem_of_getElem? (i := 1629) (by decide +kernel)⟩
theorem lw_p108 : lw_okq (⟨"NamesUnderModel", "findFacts", "(I)V"⟩, 58) := ⟨⟨by decide +kernel, by decide +kernel⟩, List.mem_of_getElem? (i := 1155) (by decide +kernel), List.mem_of_getElem? (i := 1632) (by decide +kernel), List.mem_of_getElem? (i := 1633) (by decide +kernel)⟩
theorem lw_p109 : lw_okq (⟨"NamesUnderModel", "standing", "(I)I"⟩, 58) := ⟨⟨by decide +kernel, by decide +kernel⟩, List.mem_of_getElem? (i := 1155) (by decide +kernel), List.mem_of_getElem? (i := 1636) (by decide +kernel), List.mem_of_getElem? (i := 1637) (by decide +kernel)⟩
theorem lw_p110 : lw_okq (⟨"NamesUnderModel", "canDo", "(III)Z"⟩, 58) := ⟨⟨by decide +kernel, by decide +kernel⟩, List.mem_of_getElem? (i := 1155) (by decide +kernel), List.mem_of_getElem? (i := 1640) (by decide +kernel), List.mem_of_getElem? (i := 1641) (by decide +kernel)⟩
theorem lw_p111 : lw_okq (⟨"NamesUnderModel", "worth", "(I)I"⟩, 58) := ⟨⟨by decide +kernel, by decide +kernel⟩, List.mem_of_getElem? (i := 1155) (by decide +kernel), List.mem_of_getElem? (i := 1644) (by decide +kernel), List.mem_of_getElem? (i := 1645) (by decide +kernel)⟩
def lw_privs_7 : List (MethodName × Nat) := [(⟨"NamesUnderModel", "all", "(I)V"⟩, 58), (⟨"NamesUnderModel", "test", "(I)V"⟩, 58), (⟨"NamesUnderModel", "sums", "(I)V"⟩, 58), (⟨"NamesUnderModel", "products", "(I)V"⟩, 58), (⟨"NamesUnderModel", "takePart", "(I)V"⟩, 58), (⟨"NamesUnderModel", "isSign", "(I)Z"⟩, 58), (⟨"NamesUnderModel", "emit", "(II)V"⟩, 58), (⟨"NamesUnderModel", "hasSign", "(I)Z"⟩, 58), (⟨"NamesUnderModel", "takeSign", "(I)V"⟩, 58), (⟨"NamesUnderModel", "runs", "(I)V"⟩, 58), (⟨"NamesUnderModel", "lays", "(IIII)V"⟩, 58), (⟨"NamesUnderModel", "does", "(II)V"⟩, 58), (⟨"NamesUnderModel", "findFacts", "(I)V"⟩, 58), (⟨"NamesUnderModel", "standing", "(I)I"⟩, 58), (⟨"NamesUnderModel", "canDo", "(III)Z"⟩, 58), (⟨"NamesUnderModel", "worth", "(I)I"⟩, 58)]
theorem lw_r7 : ∀ q ∈ lw_privs_7, lw_okq q := List.forall_mem_cons.mpr ⟨lw_p96, List.forall_mem_cons.mpr ⟨lw_p97, List.forall_mem_cons.mpr ⟨lw_p98, List.forall_mem_cons.mpr ⟨lw_p99, List.forall_mem_cons.mpr ⟨lw_p100, List.forall_mem_cons.mpr ⟨lw_p101, List.forall_mem_cons.mpr ⟨lw_p102, List.forall_mem_cons.mpr ⟨lw_p103, List.forall_mem_cons.mpr ⟨lw_p104, List.forall_mem_cons.mpr ⟨lw_p105, List.forall_mem_cons.mpr ⟨lw_p106, List.forall_mem_cons.mpr ⟨lw_p107, List.forall_mem_cons.mpr ⟨lw_p108, List.forall_mem_cons.mpr ⟨lw_p109, List.forall_mem_cons.mpr ⟨lw_p110, List.forall_mem_cons.mpr ⟨lw_p111, fun _ h => absurd h List.not_mem_nil⟩⟩⟩⟩⟩⟩⟩⟩⟩⟩⟩⟩⟩⟩⟩⟩
theorem lw_p112 : lw_okq (⟨"NamesUnderModel", "doesAgree", "(I)Z"⟩, 58) := ⟨⟨by decide +kernel, by decide +kernel⟩, List.mem_of_getElem? (i := 1155) (by decide +kernel), List.mem_of_getElem? (i := 1659) (by decide +kernel), List.mem_of_getElem? (i := 1660) (by decide +kernel)⟩
theorem lw_p113 : lw_okq (⟨"NamesUnderModel", "findWays", "()V"⟩, 58) := ⟨⟨by decide +kernel, by decide +kernel⟩, List.mem_of_getElem? (i := 1155) (by decide +kernel), List.mem_of_getElem? (i := 1679) (by decide +kernel), List.mem_of_getElem? (i := 1680) (by decide +kernel)⟩
theorem lw_p114 : lw_okq (⟨"NamesUnderModel", "fills", "(II)V"⟩, 58) := ⟨⟨by decide +kernel, by decide +kernel⟩, List.mem_of_getElem? (i := 1155) (by decide +kernel), List.mem_of_getElem? (i := 1683) (by decide +kernel), List.mem_of_getElem? (i := 1684) (by decide +kernel)⟩
theorem lw_p115 : lw_okq (⟨"NamesUnderModel", "doesLie", "(II)Z"⟩, 58) := ⟨⟨by decide +kernel, by decide +kernel⟩, List.mem_of_getElem? (i := 1155) (by decide +kernel), List.mem_of_getElem? (i := 1687) (by decide +kernel), List.mem_of_getElem? (i := 1688) (by decide +kernel)⟩
def lw_privs_8 : List (MethodName × Nat) := [(⟨"NamesUnderModel", "doesAgree", "(I)Z"⟩, 58), (⟨"NamesUnderModel", "findWays", "()V"⟩, 58), (⟨"NamesUnderModel", "fills", "(II)V"⟩, 58), (⟨"NamesUnderModel", "doesLie", "(II)Z"⟩, 58)]
theorem lw_r8 : ∀ q ∈ lw_privs_8, lw_okq q := List.forall_mem_cons.mpr ⟨lw_p112, List.forall_mem_cons.mpr ⟨lw_p113, List.forall_mem_cons.mpr ⟨lw_p114, List.forall_mem_cons.mpr ⟨lw_p115, fun _ h => absurd h List.not_mem_nil⟩⟩⟩⟩
def lw_privs : List (MethodName × Nat) := lw_privs_1 ++ (lw_privs_2 ++ (lw_privs_3 ++ (lw_privs_4 ++ (lw_privs_5 ++ (lw_privs_6 ++ (lw_privs_7 ++ (lw_privs_8)))))))
def lw_tbl : List Cond := k2_sels lw_privs ++ tables_1
theorem lw_privs_ok : ∀ q ∈ lw_privs, lw_okq q := by
  show ∀ q ∈ lw_privs_1 ++ (lw_privs_2 ++ (lw_privs_3 ++ (lw_privs_4 ++ (lw_privs_5 ++ (lw_privs_6 ++ (lw_privs_7 ++ (lw_privs_8))))))), lw_okq q
  exact List.forall_mem_append.mpr ⟨lw_r1, List.forall_mem_append.mpr ⟨lw_r2, List.forall_mem_append.mpr ⟨lw_r3, List.forall_mem_append.mpr ⟨lw_r4, List.forall_mem_append.mpr ⟨lw_r5, List.forall_mem_append.mpr ⟨lw_r6, List.forall_mem_append.mpr ⟨lw_r7, lw_r8⟩⟩⟩⟩⟩⟩⟩
end
section
/-! ===== BEGIN printed: names, fields, word lists, decode rows ===== -/
def RX0 : String := "NamesUnder$Kind"
def TX0 : u_T := fun k => match k with
  | _ => ("", "", "", false)
def tyX0 : Nat → FieldType := fun k => match k with
  | _ => .int
abbrev wsX00 : List Cond := u_ws RX0 TX0 0
theorem nmX0 : ∀ a, a < 0 → ∀ b, b < 0 → a ≠ b → (TX0 a).2.1 ≠ (TX0 b).2.1 := by decide +kernel
theorem tyX0_ok : ∀ k, k < 0 → parseFieldDescriptor (TX0 k).2.2.1 = some (tyX0 k) := by decide +kernel
def RX1 : String := "NamesUnder$Masonry"
def TX1 : u_T := fun k => match k with
  | 0 => ("NamesUnder$Masonry", "told", "[Z", true)
  | 1 => ("NamesUnder$Masonry", "left", "[I", true)
  | 2 => ("NamesUnder$Masonry", "right", "[I", true)
  | 3 => ("NamesUnder$Masonry", "course", "[I", true)
  | 4 => ("NamesUnder$Masonry", "lies", "[I", true)
  | 5 => ("NamesUnder$Masonry", "total", "I", false)
  | _ => ("NamesUnder$Masonry", "fresh", "Z", false)
def tyX1 : Nat → FieldType := fun k => match k with
  | 0 => .array .boolean
  | 1 => .array .int
  | 2 => .array .int
  | 3 => .array .int
  | 4 => .array .int
  | 5 => .int
  | _ => .boolean
abbrev wsX10 : List Cond := u_ws RX1 TX1 7
theorem nmX1 : ∀ a, a < 7 → ∀ b, b < 7 → a ≠ b → (TX1 a).2.1 ≠ (TX1 b).2.1 := by decide +kernel
theorem tyX1_ok : ∀ k, k < 7 → parseFieldDescriptor (TX1 k).2.2.1 = some (tyX1 k) := by decide +kernel
abbrev cX1_init : ByteArray := prog_3_method_1_code
def yX1_init : MethodName := ⟨RX1, "<init>", "()V"⟩
abbrev cX1_tell : ByteArray := prog_3_method_2_code
def yX1_tell : MethodName := ⟨RX1, "tell", "(IIII)V"⟩
abbrev cX1_toldNumber : ByteArray := prog_3_method_3_code
def yX1_toldNumber : MethodName := ⟨RX1, "toldNumber", "(II)I"⟩
abbrev cX1_layAll : ByteArray := prog_3_method_4_code
def yX1_layAll : MethodName := ⟨RX1, "layAll", "()V"⟩
abbrev cX1_layFrom : ByteArray := prog_3_method_5_code
def yX1_layFrom : MethodName := ⟨RX1, "layFrom", "(II)I"⟩
abbrev cX1_isSuited : ByteArray := prog_3_method_6_code
def yX1_isSuited : MethodName := ⟨RX1, "isSuited", "(II)Z"⟩
abbrev cX1_sureBlocks : ByteArray := prog_3_method_7_code
def yX1_sureBlocks : MethodName := ⟨RX1, "sureBlocks", "()I"⟩
def RX2 : String := "NamesUnder$NameList"
def TX2 : u_T := fun k => match k with
  | 0 => ("NamesUnder$NameList", "told", "[Z", true)
  | 1 => ("NamesUnder$NameList", "she", "[Z", true)
  | 2 => ("NamesUnder$NameList", "reign", "[I", true)
  | 3 => ("NamesUnder$NameList", "size", "[I", true)
  | 4 => ("NamesUnder$NameList", "width", "[I", true)
  | _ => ("NamesUnder$NameList", "letters", "[C", true)
def tyX2 : Nat → FieldType := fun k => match k with
  | 0 => .array .boolean
  | 1 => .array .boolean
  | 2 => .array .int
  | 3 => .array .int
  | 4 => .array .int
  | _ => .array .char
abbrev wsX20 : List Cond := u_ws RX2 TX2 6
theorem nmX2 : ∀ a, a < 6 → ∀ b, b < 6 → a ≠ b → (TX2 a).2.1 ≠ (TX2 b).2.1 := by decide +kernel
theorem tyX2_ok : ∀ k, k < 6 → parseFieldDescriptor (TX2 k).2.2.1 = some (tyX2 k) := by decide +kernel
abbrev cX2_init : ByteArray := prog_4_method_1_code
def yX2_init : MethodName := ⟨RX2, "<init>", "()V"⟩
abbrev cX2_isTold : ByteArray := prog_4_method_2_code
def yX2_isTold : MethodName := ⟨RX2, "isTold", "(I)Z"⟩
abbrev cX2_toldNumber : ByteArray := prog_4_method_3_code
def yX2_toldNumber : MethodName := ⟨RX2, "toldNumber", "()I"⟩
abbrev cX2_isOthers : ByteArray := prog_4_method_4_code
def yX2_isOthers : MethodName := ⟨RX2, "isOthers", "(ILNamesUnder$Tape;)Z"⟩
abbrev cX2_isWord : ByteArray := prog_4_method_5_code
def yX2_isWord : MethodName := ⟨RX2, "isWord", "(ILNamesUnder$Tape;)Z"⟩
abbrev cX2_tell : ByteArray := prog_4_method_6_code
def yX2_tell : MethodName := ⟨RX2, "tell", "(ILNamesUnder$Tape;)V"⟩
abbrev cX2_widthOf : ByteArray := prog_4_method_7_code
def yX2_widthOf : MethodName := ⟨RX2, "widthOf", "(I)I"⟩
abbrev cX2_areAlike : ByteArray := prog_4_method_8_code
def yX2_areAlike : MethodName := ⟨RX2, "areAlike", "(II)Z"⟩
abbrev cX2_fitting : ByteArray := prog_4_method_9_code
def yX2_fitting : MethodName := ⟨RX2, "fitting", "(LNamesUnder$Wall;IZ)I"⟩
abbrev cX2_isFitting : ByteArray := prog_4_method_10_code
def yX2_isFitting : MethodName := ⟨RX2, "isFitting", "(ILNamesUnder$Wall;IZ)Z"⟩
abbrev cX2_hasTraces : ByteArray := prog_4_method_11_code
def yX2_hasTraces : MethodName := ⟨RX2, "hasTraces", "(ILNamesUnder$Wall;I)Z"⟩
abbrev cX2_isFirstFitting : ByteArray := prog_4_method_12_code
def yX2_isFirstFitting : MethodName := ⟨RX2, "isFirstFitting", "(ILNamesUnder$Wall;)Z"⟩
abbrev cX2_leastReign : ByteArray := prog_4_method_13_code
def yX2_leastReign : MethodName := ⟨RX2, "leastReign", "(I)I"⟩
def RX3 : String := "NamesUnder$Order"
def TX3 : u_T := fun k => match k with
  | 0 => ("NamesUnder$Order", "lines", "I", false)
  | 1 => ("NamesUnder$Order", "codeSize", "I", false)
  | 2 => ("NamesUnder$Order", "doing", "[I", true)
  | 3 => ("NamesUnder$Order", "target", "[I", true)
  | 4 => ("NamesUnder$Order", "from", "[I", true)
  | 5 => ("NamesUnder$Order", "upto", "[I", true)
  | _ => ("NamesUnder$Order", "code", "[I", false)
def tyX3 : Nat → FieldType := fun k => match k with
  | 0 => .int
  | 1 => .int
  | 2 => .array .int
  | 3 => .array .int
  | 4 => .array .int
  | 5 => .array .int
  | _ => .array .int
abbrev wsX30 : List Cond := u_ws RX3 TX3 7
theorem nmX3 : ∀ a, a < 7 → ∀ b, b < 7 → a ≠ b → (TX3 a).2.1 ≠ (TX3 b).2.1 := by decide +kernel
theorem tyX3_ok : ∀ k, k < 7 → parseFieldDescriptor (TX3 k).2.2.1 = some (tyX3 k) := by decide +kernel
abbrev cX3_init : ByteArray := prog_5_method_1_code
def yX3_init : MethodName := ⟨RX3, "<init>", "(I)V"⟩
abbrev cX3_clear : ByteArray := prog_5_method_2_code
def yX3_clear : MethodName := ⟨RX3, "clear", "()V"⟩
abbrev cX3_addCode : ByteArray := prog_5_method_3_code
def yX3_addCode : MethodName := ⟨RX3, "addCode", "(I)V"⟩
abbrev cX3_copy : ByteArray := prog_5_method_4_code
def yX3_copy : MethodName := ⟨RX3, "copy", "(LNamesUnder$Order;)V"⟩
def RX4 : String := "NamesUnder$OrderReader"
def TX4 : u_T := fun k => match k with
  | 0 => ("NamesUnder$OrderReader", "tape", "LNamesUnder$Tape;", true)
  | 1 => ("NamesUnder$OrderReader", "names", "LNamesUnder$NameList;", true)
  | 2 => ("NamesUnder$OrderReader", "sheet", "LNamesUnder$Order;", true)
  | 3 => ("NamesUnder$OrderReader", "at", "I", false)
  | 4 => ("NamesUnder$OrderReader", "kind", "I", false)
  | 5 => ("NamesUnder$OrderReader", "start", "I", false)
  | 6 => ("NamesUnder$OrderReader", "value", "I", false)
  | 7 => ("NamesUnder$OrderReader", "fault", "I", false)
  | 8 => ("NamesUnder$OrderReader", "held", "[I", true)
  | 9 => ("NamesUnder$OrderReader", "waiting", "I", false)
  | 10 => ("NamesUnder$OrderReader", "within", "I", false)
  | _ => ("NamesUnder$OrderReader", "partNext", "Z", false)
def tyX4 : Nat → FieldType := fun k => match k with
  | 0 => .object "NamesUnder$Tape"
  | 1 => .object "NamesUnder$NameList"
  | 2 => .object "NamesUnder$Order"
  | 3 => .int
  | 4 => .int
  | 5 => .int
  | 6 => .int
  | 7 => .int
  | 8 => .array .int
  | 9 => .int
  | 10 => .int
  | _ => .boolean
abbrev wsX40 : List Cond := u_ws RX4 TX4 12
theorem nmX4 : ∀ a, a < 12 → ∀ b, b < 12 → a ≠ b → (TX4 a).2.1 ≠ (TX4 b).2.1 := by decide +kernel
theorem tyX4_ok : ∀ k, k < 12 → parseFieldDescriptor (TX4 k).2.2.1 = some (tyX4 k) := by decide +kernel
abbrev cX4_init : ByteArray := prog_6_method_1_code
def yX4_init : MethodName := ⟨RX4, "<init>", "(LNamesUnder$Tape;LNamesUnder$NameList;)V"⟩
abbrev cX4_read : ByteArray := prog_6_method_2_code
def yX4_read : MethodName := ⟨RX4, "read", "()I"⟩
abbrev cX4_refuse : ByteArray := prog_6_method_3_code
def yX4_refuse : MethodName := ⟨RX4, "refuse", "(I)Z"⟩
abbrev cX4_readLine : ByteArray := prog_6_method_4_code
def yX4_readLine : MethodName := ⟨RX4, "readLine", "(I)Z"⟩
abbrev cX4_readTarget : ByteArray := prog_6_method_5_code
def yX4_readTarget : MethodName := ⟨RX4, "readTarget", "(I)Z"⟩
abbrev cX4_readWhen : ByteArray := prog_6_method_6_code
def yX4_readWhen : MethodName := ⟨RX4, "readWhen", "()Z"⟩
abbrev cX4_takePart : ByteArray := prog_6_method_7_code
def yX4_takePart : MethodName := ⟨RX4, "takePart", "()Z"⟩
abbrev cX4_takeJoint : ByteArray := prog_6_method_8_code
def yX4_takeJoint : MethodName := ⟨RX4, "takeJoint", "()Z"⟩
abbrev cX4_close : ByteArray := prog_6_method_9_code
def yX4_close : MethodName := ⟨RX4, "close", "()Z"⟩
abbrev cX4_endPart : ByteArray := prog_6_method_10_code
def yX4_endPart : MethodName := ⟨RX4, "endPart", "()V"⟩
abbrev cX4_hold : ByteArray := prog_6_method_11_code
def yX4_hold : MethodName := ⟨RX4, "hold", "(I)V"⟩
abbrev cX4_release : ByteArray := prog_6_method_12_code
def yX4_release : MethodName := ⟨RX4, "release", "(I)V"⟩
abbrev cX4_rankOf : ByteArray := prog_6_method_13_code
def yX4_rankOf : MethodName := ⟨RX4, "rankOf", "(I)I"⟩
abbrev cX4_advance : ByteArray := prog_6_method_14_code
def yX4_advance : MethodName := ⟨RX4, "advance", "()V"⟩
abbrev cX4_takeWord : ByteArray := prog_6_method_15_code
def yX4_takeWord : MethodName := ⟨RX4, "takeWord", "()V"⟩
abbrev cX4_isWordOfCell : ByteArray := prog_6_method_16_code
def yX4_isWordOfCell : MethodName := ⟨RX4, "isWordOfCell", "(I)Z"⟩
abbrev cX4_takeNumber : ByteArray := prog_6_method_17_code
def yX4_takeNumber : MethodName := ⟨RX4, "takeNumber", "()V"⟩
abbrev cX4_kindOfSign : ByteArray := prog_6_method_18_code
def yX4_kindOfSign : MethodName := ⟨RX4, "kindOfSign", "(I)I"⟩
def RX5 : String := "NamesUnder$Run"
def TX5 : u_T := fun k => match k with
  | 0 => ("NamesUnder$Run", "names", "LNamesUnder$NameList;", true)
  | 1 => ("NamesUnder$Run", "walls", "[LNamesUnder$Wall;", true)
  | 2 => ("NamesUnder$Run", "orders", "[LNamesUnder$Order;", true)
  | 3 => ("NamesUnder$Run", "ladder", "[I", true)
  | 4 => ("NamesUnder$Run", "reads", "[Z", true)
  | 5 => ("NamesUnder$Run", "size", "[I", true)
  | 6 => ("NamesUnder$Run", "hand", "[I", true)
  | 7 => ("NamesUnder$Run", "doing", "[I", true)
  | 8 => ("NamesUnder$Run", "name", "[I", true)
  | 9 => ("NamesUnder$Run", "sizeBehind", "[I", true)
  | 10 => ("NamesUnder$Run", "missedBy", "[I", true)
  | 11 => ("NamesUnder$Run", "stack", "[I", true)
  | 12 => ("NamesUnder$Run", "slips", "I", false)
  | _ => ("NamesUnder$Run", "fresh", "Z", false)
def tyX5 : Nat → FieldType := fun k => match k with
  | 0 => .object "NamesUnder$NameList"
  | 1 => .array (.object "NamesUnder$Wall")
  | 2 => .array (.object "NamesUnder$Order")
  | 3 => .array .int
  | 4 => .array .boolean
  | 5 => .array .int
  | 6 => .array .int
  | 7 => .array .int
  | 8 => .array .int
  | 9 => .array .int
  | 10 => .array .int
  | 11 => .array .int
  | 12 => .int
  | _ => .boolean
abbrev wsX50 : List Cond := u_ws RX5 TX5 14
theorem nmX5 : ∀ a, a < 14 → ∀ b, b < 14 → a ≠ b → (TX5 a).2.1 ≠ (TX5 b).2.1 := by decide +kernel
theorem tyX5_ok : ∀ k, k < 14 → parseFieldDescriptor (TX5 k).2.2.1 = some (tyX5 k) := by decide +kernel
abbrev cX5_init : ByteArray := prog_7_method_1_code
def yX5_init : MethodName := ⟨RX5, "<init>", "(LNamesUnder$NameList;[LNamesUnder$Wall;[LNamesUnder$Order;)V"⟩
abbrev cX5_forget : ByteArray := prog_7_method_2_code
def yX5_forget : MethodName := ⟨RX5, "forget", "()V"⟩
abbrev cX5_perform : ByteArray := prog_7_method_3_code
def yX5_perform : MethodName := ⟨RX5, "perform", "()V"⟩
abbrev cX5_begin : ByteArray := prog_7_method_4_code
def yX5_begin : MethodName := ⟨RX5, "begin", "(I)V"⟩
abbrev cX5_add : ByteArray := prog_7_method_5_code
def yX5_add : MethodName := ⟨RX5, "add", "(IIII)V"⟩
abbrev cX5_obey : ByteArray := prog_7_method_6_code
def yX5_obey : MethodName := ⟨RX5, "obey", "(II)V"⟩
abbrev cX5_standingAt : ByteArray := prog_7_method_7_code
def yX5_standingAt : MethodName := ⟨RX5, "standingAt", "(I)I"⟩
abbrev cX5_canDo : ByteArray := prog_7_method_8_code
def yX5_canDo : MethodName := ⟨RX5, "canDo", "(IIII)Z"⟩
abbrev cX5_isBelowTop : ByteArray := prog_7_method_9_code
def yX5_isBelowTop : MethodName := ⟨RX5, "isBelowTop", "(II)Z"⟩
abbrev cX5_work : ByteArray := prog_7_method_10_code
def yX5_work : MethodName := ⟨RX5, "work", "(IIII)V"⟩
abbrev cX5_findMissed : ByteArray := prog_7_method_11_code
def yX5_findMissed : MethodName := ⟨RX5, "findMissed", "(I)I"⟩
abbrev cX5_isAgainst : ByteArray := prog_7_method_12_code
def yX5_isAgainst : MethodName := ⟨RX5, "isAgainst", "(LNamesUnder$Order;I)Z"⟩
abbrev cX5_evaluate : ByteArray := prog_7_method_13_code
def yX5_evaluate : MethodName := ⟨RX5, "evaluate", "(LNamesUnder$Order;II)I"⟩
abbrev cX5_fact : ByteArray := prog_7_method_14_code
def yX5_fact : MethodName := ⟨RX5, "fact", "(II)I"⟩
abbrev cX5_join : ByteArray := prog_7_method_15_code
def yX5_join : MethodName := ⟨RX5, "join", "(III)I"⟩
abbrev cX5_agreeing : ByteArray := prog_7_method_16_code
def yX5_agreeing : MethodName := ⟨RX5, "agreeing", "()I"⟩
abbrev cX5_isAsTold : ByteArray := prog_7_method_17_code
def yX5_isAsTold : MethodName := ⟨RX5, "isAsTold", "(I)Z"⟩
abbrev cX5_cutsTogether : ByteArray := prog_7_method_18_code
def yX5_cutsTogether : MethodName := ⟨RX5, "cutsTogether", "()I"⟩
def RX6 : String := "NamesUnder$StoryBook"
def TX6 : u_T := fun k => match k with
  | 0 => ("NamesUnder$StoryBook", "names", "LNamesUnder$NameList;", true)
  | 1 => ("NamesUnder$StoryBook", "walls", "[LNamesUnder$Wall;", true)
  | 2 => ("NamesUnder$StoryBook", "dates", "[I", true)
  | 3 => ("NamesUnder$StoryBook", "hands", "I", false)
  | 4 => ("NamesUnder$StoryBook", "barred", "Z", false)
  | 5 => ("NamesUnder$StoryBook", "floor", "[I", true)
  | 6 => ("NamesUnder$StoryBook", "ceiling", "[I", true)
  | 7 => ("NamesUnder$StoryBook", "step", "[I", true)
  | 8 => ("NamesUnder$StoryBook", "leastReign", "[I", true)
  | 9 => ("NamesUnder$StoryBook", "leastReignBare", "[I", true)
  | 10 => ("NamesUnder$StoryBook", "earliest", "[I", true)
  | 11 => ("NamesUnder$StoryBook", "keptFloor", "[I", true)
  | 12 => ("NamesUnder$StoryBook", "reignOf", "[I", true)
  | 13 => ("NamesUnder$StoryBook", "chances", "[I", true)
  | 14 => ("NamesUnder$StoryBook", "total", "I", false)
  | 15 => ("NamesUnder$StoryBook", "gathered", "Z", false)
  | 16 => ("NamesUnder$StoryBook", "tallied", "Z", false)
  | 17 => ("NamesUnder$StoryBook", "shown", "I", false)
  | _ => ("NamesUnder$StoryBook", "toSkip", "I", false)
def tyX6 : Nat → FieldType := fun k => match k with
  | 0 => .object "NamesUnder$NameList"
  | 1 => .array (.object "NamesUnder$Wall")
  | 2 => .array .int
  | 3 => .int
  | 4 => .boolean
  | 5 => .array .int
  | 6 => .array .int
  | 7 => .array .int
  | 8 => .array .int
  | 9 => .array .int
  | 10 => .array .int
  | 11 => .array .int
  | 12 => .array .int
  | 13 => .array .int
  | 14 => .int
  | 15 => .boolean
  | 16 => .boolean
  | 17 => .int
  | _ => .int
abbrev wsX60 : List Cond := u_ws RX6 TX6 19
theorem nmX6 : ∀ a, a < 19 → ∀ b, b < 19 → a ≠ b → (TX6 a).2.1 ≠ (TX6 b).2.1 := by decide +kernel
theorem tyX6_ok : ∀ k, k < 19 → parseFieldDescriptor (TX6 k).2.2.1 = some (tyX6 k) := by decide +kernel
abbrev cX6_init : ByteArray := prog_8_method_1_code
def yX6_init : MethodName := ⟨RX6, "<init>", "(LNamesUnder$NameList;[LNamesUnder$Wall;[I)V"⟩
abbrev cX6_forget : ByteArray := prog_8_method_2_code
def yX6_forget : MethodName := ⟨RX6, "forget", "()V"⟩
abbrev cX6_isBusy : ByteArray := prog_8_method_3_code
def yX6_isBusy : MethodName := ⟨RX6, "isBusy", "(I)Z"⟩
abbrev cX6_gatherAll : ByteArray := prog_8_method_4_code
def yX6_gatherAll : MethodName := ⟨RX6, "gatherAll", "()V"⟩
abbrev cX6_findLeastReigns : ByteArray := prog_8_method_5_code
def yX6_findLeastReigns : MethodName := ⟨RX6, "findLeastReigns", "()V"⟩
abbrev cX6_gather : ByteArray := prog_8_method_6_code
def yX6_gather : MethodName := ⟨RX6, "gather", "(II)V"⟩
abbrev cX6_weigh : ByteArray := prog_8_method_7_code
def yX6_weigh : MethodName := ⟨RX6, "weigh", "(IZ)V"⟩
abbrev cX6_addStep : ByteArray := prog_8_method_8_code
def yX6_addStep : MethodName := ⟨RX6, "addStep", "(III)V"⟩
abbrev cX6_raise : ByteArray := prog_8_method_9_code
def yX6_raise : MethodName := ⟨RX6, "raise", "(II)V"⟩
abbrev cX6_isPossible : ByteArray := prog_8_method_10_code
def yX6_isPossible : MethodName := ⟨RX6, "isPossible", "()Z"⟩
abbrev cX6_pushBehind : ByteArray := prog_8_method_11_code
def yX6_pushBehind : MethodName := ⟨RX6, "pushBehind", "()Z"⟩
abbrev cX6_tally : ByteArray := prog_8_method_12_code
def yX6_tally : MethodName := ⟨RX6, "tally", "()V"⟩
abbrev cX6_countFrom : ByteArray := prog_8_method_13_code
def yX6_countFrom : MethodName := ⟨RX6, "countFrom", "(I)I"⟩
abbrev cX6_lowest : ByteArray := prog_8_method_14_code
def yX6_lowest : MethodName := ⟨RX6, "lowest", "(I)I"⟩
abbrev cX6_highest : ByteArray := prog_8_method_15_code
def yX6_highest : MethodName := ⟨RX6, "highest", "(I)I"⟩
abbrev cX6_seek : ByteArray := prog_8_method_16_code
def yX6_seek : MethodName := ⟨RX6, "seek", "(I)Z"⟩
abbrev cX6_seekFrom : ByteArray := prog_8_method_17_code
def yX6_seekFrom : MethodName := ⟨RX6, "seekFrom", "(I)Z"⟩
abbrev cX6_skipLast : ByteArray := prog_8_method_18_code
def yX6_skipLast : MethodName := ⟨RX6, "skipLast", "(III)Z"⟩
abbrev cX6_sureHands : ByteArray := prog_8_method_19_code
def yX6_sureHands : MethodName := ⟨RX6, "sureHands", "()I"⟩
abbrev cX6_mostOf : ByteArray := prog_8_method_20_code
def yX6_mostOf : MethodName := ⟨RX6, "mostOf", "(I)I"⟩
abbrev cX6_handToDate : ByteArray := prog_8_method_21_code
def yX6_handToDate : MethodName := ⟨RX6, "handToDate", "()I"⟩
abbrev cX6_relations : ByteArray := prog_8_method_22_code
def yX6_relations : MethodName := ⟨RX6, "relations", "(II)I"⟩
abbrev cX6_isPossibleWith : ByteArray := prog_8_method_23_code
def yX6_isPossibleWith : MethodName := ⟨RX6, "isPossibleWith", "(IIII)Z"⟩
abbrev cX6_standing : ByteArray := prog_8_method_24_code
def yX6_standing : MethodName := ⟨RX6, "standing", "(LNamesUnder$Wall;I)I"⟩
abbrev cX6_mayHaveStood : ByteArray := prog_8_method_25_code
def yX6_mayHaveStood : MethodName := ⟨RX6, "mayHaveStood", "(LNamesUnder$Wall;II)Z"⟩
abbrev cX6_doubtful : ByteArray := prog_8_method_26_code
def yX6_doubtful : MethodName := ⟨RX6, "doubtful", "()I"⟩
abbrev cX6_doubtfulOne : ByteArray := prog_8_method_27_code
def yX6_doubtfulOne : MethodName := ⟨RX6, "doubtfulOne", "()I"⟩
abbrev cX6_doubtfulTwo : ByteArray := prog_8_method_28_code
def yX6_doubtfulTwo : MethodName := ⟨RX6, "doubtfulTwo", "()I"⟩
abbrev cX6_isPossibleWithout : ByteArray := prog_8_method_29_code
def yX6_isPossibleWithout : MethodName := ⟨RX6, "isPossibleWithout", "(II)Z"⟩
def RX7 : String := "NamesUnder$Tape"
def TX7 : u_T := fun k => match k with
  | 0 => ("NamesUnder$Tape", "signs", "[C", true)
  | 1 => ("NamesUnder$Tape", "length", "I", false)
  | 2 => ("NamesUnder$Tape", "from", "I", false)
  | _ => ("NamesUnder$Tape", "upto", "I", false)
def tyX7 : Nat → FieldType := fun k => match k with
  | 0 => .array .char
  | 1 => .int
  | 2 => .int
  | _ => .int
abbrev wsX70 : List Cond := u_ws RX7 TX7 4
theorem nmX7 : ∀ a, a < 4 → ∀ b, b < 4 → a ≠ b → (TX7 a).2.1 ≠ (TX7 b).2.1 := by decide +kernel
theorem tyX7_ok : ∀ k, k < 4 → parseFieldDescriptor (TX7 k).2.2.1 = some (tyX7 k) := by decide +kernel
abbrev cX7_init : ByteArray := prog_9_method_1_code
def yX7_init : MethodName := ⟨RX7, "<init>", "()V"⟩
abbrev cX7_take : ByteArray := prog_9_method_2_code
def yX7_take : MethodName := ⟨RX7, "take", "(J)V"⟩
abbrev cX7_addSign : ByteArray := prog_9_method_3_code
def yX7_addSign : MethodName := ⟨RX7, "addSign", "(I)V"⟩
abbrev cX7_trim : ByteArray := prog_9_method_4_code
def yX7_trim : MethodName := ⟨RX7, "trim", "()V"⟩
abbrev cX7_isText : ByteArray := prog_9_method_5_code
def yX7_isText : MethodName := ⟨RX7, "isText", "(Z)Z"⟩
def RX8 : String := "NamesUnder$Wall"
def TX8 : u_T := fun k => match k with
  | 0 => ("NamesUnder$Wall", "told", "Z", false)
  | 1 => ("NamesUnder$Wall", "space", "I", false)
  | 2 => ("NamesUnder$Wall", "height", "I", false)
  | 3 => ("NamesUnder$Wall", "sort", "I", false)
  | 4 => ("NamesUnder$Wall", "grammar", "I", false)
  | 5 => ("NamesUnder$Wall", "size", "I", false)
  | 6 => ("NamesUnder$Wall", "hand", "[I", true)
  | 7 => ("NamesUnder$Wall", "doing", "[I", true)
  | 8 => ("NamesUnder$Wall", "name", "[I", true)
  | 9 => ("NamesUnder$Wall", "traceSize", "[I", true)
  | _ => ("NamesUnder$Wall", "trace", "[C", true)
def tyX8 : Nat → FieldType := fun k => match k with
  | 0 => .boolean
  | 1 => .int
  | 2 => .int
  | 3 => .int
  | 4 => .int
  | 5 => .int
  | 6 => .array .int
  | 7 => .array .int
  | 8 => .array .int
  | 9 => .array .int
  | _ => .array .char
abbrev wsX80 : List Cond := u_ws RX8 TX8 11
theorem nmX8 : ∀ a, a < 11 → ∀ b, b < 11 → a ≠ b → (TX8 a).2.1 ≠ (TX8 b).2.1 := by decide +kernel
theorem tyX8_ok : ∀ k, k < 11 → parseFieldDescriptor (TX8 k).2.2.1 = some (tyX8 k) := by decide +kernel
abbrev cX8_init : ByteArray := prog_10_method_1_code
def yX8_init : MethodName := ⟨RX8, "<init>", "()V"⟩
abbrev cX8_tell : ByteArray := prog_10_method_2_code
def yX8_tell : MethodName := ⟨RX8, "tell", "(IIII)V"⟩
abbrev cX8_canLie : ByteArray := prog_10_method_3_code
def yX8_canLie : MethodName := ⟨RX8, "canLie", "(II)Z"⟩
abbrev cX8_canBeMended : ByteArray := prog_10_method_4_code
def yX8_canBeMended : MethodName := ⟨RX8, "canBeMended", "(I)Z"⟩
abbrev cX8_add : ByteArray := prog_10_method_5_code
def yX8_add : MethodName := ⟨RX8, "add", "(III)V"⟩
abbrev cX8_removeTop : ByteArray := prog_10_method_6_code
def yX8_removeTop : MethodName := ⟨RX8, "removeTop", "()V"⟩
abbrev cX8_hasOutOver : ByteArray := prog_10_method_7_code
def yX8_hasOutOver : MethodName := ⟨RX8, "hasOutOver", "(I)Z"⟩
abbrev cX8_tellTraces : ByteArray := prog_10_method_8_code
def yX8_tellTraces : MethodName := ⟨RX8, "tellTraces", "(ILNamesUnder$Tape;)V"⟩
abbrev cX8_isErasedBy : ByteArray := prog_10_method_9_code
def yX8_isErasedBy : MethodName := ⟨RX8, "isErasedBy", "(II)Z"⟩
abbrev cX8_bears : ByteArray := prog_10_method_10_code
def yX8_bears : MethodName := ⟨RX8, "bears", "(I)Z"⟩
def RX9 : String := "NamesUnder"
def TX9 : u_T := fun k => match k with
  | 0 => ("NamesUnder", "tape", "LNamesUnder$Tape;", true)
  | 1 => ("NamesUnder", "names", "LNamesUnder$NameList;", true)
  | 2 => ("NamesUnder", "walls", "[LNamesUnder$Wall;", true)
  | 3 => ("NamesUnder", "dates", "[I", true)
  | 4 => ("NamesUnder", "book", "LNamesUnder$StoryBook;", true)
  | 5 => ("NamesUnder", "orders", "[LNamesUnder$Order;", true)
  | 6 => ("NamesUnder", "reader", "LNamesUnder$OrderReader;", true)
  | 7 => ("NamesUnder", "run", "LNamesUnder$Run;", true)
  | _ => ("NamesUnder", "masonry", "LNamesUnder$Masonry;", true)
def tyX9 : Nat → FieldType := fun k => match k with
  | 0 => .object "NamesUnder$Tape"
  | 1 => .object "NamesUnder$NameList"
  | 2 => .array (.object "NamesUnder$Wall")
  | 3 => .array .int
  | 4 => .object "NamesUnder$StoryBook"
  | 5 => .array (.object "NamesUnder$Order")
  | 6 => .object "NamesUnder$OrderReader"
  | 7 => .object "NamesUnder$Run"
  | _ => .object "NamesUnder$Masonry"
abbrev wsX90 : List Cond := u_ws RX9 TX9 9
theorem nmX9 : ∀ a, a < 9 → ∀ b, b < 9 → a ≠ b → (TX9 a).2.1 ≠ (TX9 b).2.1 := by decide +kernel
theorem tyX9_ok : ∀ k, k < 9 → parseFieldDescriptor (TX9 k).2.2.1 = some (tyX9 k) := by decide +kernel
abbrev cX9_init : ByteArray := prog_1_method_1_code
def yX9_init : MethodName := ⟨RX9, "<init>", "()V"⟩
abbrev cX9_feed : ByteArray := prog_1_method_2_code
def yX9_feed : MethodName := ⟨RX9, "feed", "(JJJ)I"⟩
abbrev cX9_name : ByteArray := prog_1_method_3_code
def yX9_name : MethodName := ⟨RX9, "name", "(IIZ)I"⟩
abbrev cX9_known : ByteArray := prog_1_method_4_code
def yX9_known : MethodName := ⟨RX9, "known", "(II)I"⟩
abbrev cX9_alike : ByteArray := prog_1_method_5_code
def yX9_alike : MethodName := ⟨RX9, "alike", "(II)I"⟩
abbrev cX9_place : ByteArray := prog_1_method_6_code
def yX9_place : MethodName := ⟨RX9, "place", "(IIIII)Z"⟩
abbrev cX9_cut : ByteArray := prog_1_method_7_code
def yX9_cut : MethodName := ⟨RX9, "cut", "(IIII)I"⟩
abbrev cX9_clean : ByteArray := prog_1_method_8_code
def yX9_clean : MethodName := ⟨RX9, "clean", "(I)Z"⟩
abbrev cX9_traces : ByteArray := prog_1_method_9_code
def yX9_traces : MethodName := ⟨RX9, "traces", "(II)I"⟩
abbrev cX9_layer : ByteArray := prog_1_method_10_code
def yX9_layer : MethodName := ⟨RX9, "layer", "(III)I"⟩
abbrev cX9_fits : ByteArray := prog_1_method_11_code
def yX9_fits : MethodName := ⟨RX9, "fits", "(II)I"⟩
abbrev cX9_crowded : ByteArray := prog_1_method_12_code
def yX9_crowded : MethodName := ⟨RX9, "crowded", "(II)I"⟩
abbrev cX9_dated : ByteArray := prog_1_method_13_code
def yX9_dated : MethodName := ⟨RX9, "dated", "(II)Z"⟩
abbrev cX9_stories : ByteArray := prog_1_method_14_code
def yX9_stories : MethodName := ⟨RX9, "stories", "(I)I"⟩
abbrev cX9_story : ByteArray := prog_1_method_15_code
def yX9_story : MethodName := ⟨RX9, "story", "(II)I"⟩
abbrev cX9_odds : ByteArray := prog_1_method_16_code
def yX9_odds : MethodName := ⟨RX9, "odds", "(II)I"⟩
abbrev cX9_between : ByteArray := prog_1_method_17_code
def yX9_between : MethodName := ⟨RX9, "between", "(II)I"⟩
abbrev cX9_stood : ByteArray := prog_1_method_18_code
def yX9_stood : MethodName := ⟨RX9, "stood", "(II)I"⟩
abbrev cX9_next : ByteArray := prog_1_method_19_code
def yX9_next : MethodName := ⟨RX9, "next", "(I)I"⟩
abbrev cX9_doubt : ByteArray := prog_1_method_20_code
def yX9_doubt : MethodName := ⟨RX9, "doubt", "()I"⟩
abbrev cX9_order : ByteArray := prog_1_method_21_code
def yX9_order : MethodName := ⟨RX9, "order", "(I)I"⟩
abbrev cX9_works : ByteArray := prog_1_method_22_code
def yX9_works : MethodName := ⟨RX9, "works", "(IIZ)Z"⟩
abbrev cX9_ran : ByteArray := prog_1_method_23_code
def yX9_ran : MethodName := ⟨RX9, "ran", "(II)I"⟩
abbrev cX9_made : ByteArray := prog_1_method_24_code
def yX9_made : MethodName := ⟨RX9, "made", "(III)I"⟩
abbrev cX9_agrees : ByteArray := prog_1_method_25_code
def yX9_agrees : MethodName := ⟨RX9, "agrees", "(I)I"⟩
abbrev cX9_missed : ByteArray := prog_1_method_26_code
def yX9_missed : MethodName := ⟨RX9, "missed", "(I)I"⟩
abbrev cX9_far : ByteArray := prog_1_method_27_code
def yX9_far : MethodName := ⟨RX9, "far", "(III)I"⟩
abbrev cX9_block : ByteArray := prog_1_method_28_code
def yX9_block : MethodName := ⟨RX9, "block", "(ZIIII)Z"⟩
abbrev cX9_ways : ByteArray := prog_1_method_29_code
def yX9_ways : MethodName := ⟨RX9, "ways", "(I)I"⟩
abbrev cX9_back : ByteArray := prog_1_method_30_code
def yX9_back : MethodName := ⟨RX9, "back", "(I)I"⟩
abbrev cX9_count : ByteArray := prog_1_method_31_code
def yX9_count : MethodName := ⟨RX9, "count", "(I)I"⟩
abbrev cX9_tellName : ByteArray := prog_1_method_32_code
def yX9_tellName : MethodName := ⟨RX9, "tellName", "(IIZ)I"⟩
abbrev cX9_tellTraces : ByteArray := prog_1_method_33_code
def yX9_tellTraces : MethodName := ⟨RX9, "tellTraces", "(II)I"⟩
abbrev cX9_forgetFindings : ByteArray := prog_1_method_34_code
def yX9_forgetFindings : MethodName := ⟨RX9, "forgetFindings", "()V"⟩
abbrev cX9_highestDone : ByteArray := prog_1_method_35_code
def yX9_highestDone : MethodName := ⟨RX9, "highestDone", "(II)I"⟩
abbrev cX9_lowestLeft : ByteArray := prog_1_method_36_code
def yX9_lowestLeft : MethodName := ⟨RX9, "lowestLeft", "(I)I"⟩
abbrev cX9_sortsDone : ByteArray := prog_1_method_37_code
def yX9_sortsDone : MethodName := ⟨RX9, "sortsDone", "(II)I"⟩
abbrev cX9_sortsLeft : ByteArray := prog_1_method_38_code
def yX9_sortsLeft : MethodName := ⟨RX9, "sortsLeft", "(I)I"⟩
abbrev cX9_placesTold : ByteArray := prog_1_method_39_code
def yX9_placesTold : MethodName := ⟨RX9, "placesTold", "()I"⟩
abbrev cX9_cutsTold : ByteArray := prog_1_method_40_code
def yX9_cutsTold : MethodName := ⟨RX9, "cutsTold", "()I"⟩
abbrev cX9_linesTold : ByteArray := prog_1_method_41_code
def yX9_linesTold : MethodName := ⟨RX9, "linesTold", "()I"⟩
abbrev cX9_isPlace : ByteArray := prog_1_method_42_code
def yX9_isPlace : MethodName := ⟨RX9, "isPlace", "(I)Z"⟩
abbrev cX9_isCut : ByteArray := prog_1_method_43_code
def yX9_isCut : MethodName := ⟨RX9, "isCut", "(II)Z"⟩
abbrev cX9_isNameCut : ByteArray := prog_1_method_44_code
def yX9_isNameCut : MethodName := ⟨RX9, "isNameCut", "(II)Z"⟩
abbrev cX9_isBusyHand : ByteArray := prog_1_method_45_code
def yX9_isBusyHand : MethodName := ⟨RX9, "isBusyHand", "(I)Z"⟩
abbrev cX9_isBelow : ByteArray := prog_1_method_46_code
def yX9_isBelow : MethodName := ⟨RX9, "isBelow", "(II)Z"⟩
abbrev cX9_isErasure : ByteArray := prog_1_method_47_code
def yX9_isErasure : MethodName := ⟨RX9, "isErasure", "(I)Z"⟩
abbrev cX9_isLetter : ByteArray := prog_1_method_48_code
def yX9_isLetter : MethodName := ⟨RX9, "isLetter", "(C)Z"⟩
abbrev cX9_isDigit : ByteArray := prog_1_method_49_code
def yX9_isDigit : MethodName := ⟨RX9, "isDigit", "(C)Z"⟩
abbrev cX9_isBlank : ByteArray := prog_1_method_50_code
def yX9_isBlank : MethodName := ⟨RX9, "isBlank", "(C)Z"⟩
def RX10 : String := "NamesUnderModel"
def TX10 : u_T := fun k => match k with
  | 0 => ("NamesUnderModel", "thrown", "I", false)
  | 1 => ("NamesUnderModel", "tape", "[I", true)
  | 2 => ("NamesUnderModel", "taped", "I", false)
  | 3 => ("NamesUnderModel", "size", "I", false)
  | 4 => ("NamesUnderModel", "sort", "[I", true)
  | 5 => ("NamesUnderModel", "place", "[I", true)
  | 6 => ("NamesUnderModel", "value", "[J", true)
  | 7 => ("NamesUnderModel", "at", "I", false)
  | 8 => ("NamesUnderModel", "fault", "I", false)
  | 9 => ("NamesUnderModel", "words", "[J", true)
  | 10 => ("NamesUnderModel", "bareFrom", "I", false)
  | 11 => ("NamesUnderModel", "bareTo", "I", false)
  | 12 => ("NamesUnderModel", "isNamed", "[Z", true)
  | 13 => ("NamesUnderModel", "reignOf", "[I", true)
  | 14 => ("NamesUnderModel", "isShe", "[Z", true)
  | 15 => ("NamesUnderModel", "letters", "[I", true)
  | 16 => ("NamesUnderModel", "letter", "[I", true)
  | 17 => ("NamesUnderModel", "isPlaced", "[Z", true)
  | 18 => ("NamesUnderModel", "space", "[I", true)
  | 19 => ("NamesUnderModel", "height", "[I", true)
  | 20 => ("NamesUnderModel", "sortOf", "[I", true)
  | 21 => ("NamesUnderModel", "grammar", "[I", true)
  | 22 => ("NamesUnderModel", "cuts", "[I", true)
  | 23 => ("NamesUnderModel", "hand", "[I", true)
  | 24 => ("NamesUnderModel", "doing", "[I", true)
  | 25 => ("NamesUnderModel", "nameOn", "[I", true)
  | 26 => ("NamesUnderModel", "traced", "[I", true)
  | 27 => ("NamesUnderModel", "trace", "[I", true)
  | 28 => ("NamesUnderModel", "isChanged", "Z", false)
  | 29 => ("NamesUnderModel", "datedBy", "[I", true)
  | 30 => ("NamesUnderModel", "reigns", "[I", true)
  | 31 => ("NamesUnderModel", "hasCuts", "[Z", true)
  | 32 => ("NamesUnderModel", "storied", "I", false)
  | 33 => ("NamesUnderModel", "storyOf", "[I", true)
  | 34 => ("NamesUnderModel", "leftOut", "I", false)
  | 35 => ("NamesUnderModel", "lines", "[I", true)
  | 36 => ("NamesUnderModel", "lineDo", "[I", true)
  | 37 => ("NamesUnderModel", "lineName", "[I", true)
  | 38 => ("NamesUnderModel", "lineAt", "[I", true)
  | 39 => ("NamesUnderModel", "codes", "I", false)
  | 40 => ("NamesUnderModel", "op", "[I", true)
  | 41 => ("NamesUnderModel", "one", "[I", true)
  | 42 => ("NamesUnderModel", "facts", "[I", true)
  | 43 => ("NamesUnderModel", "pile", "[I", true)
  | 44 => ("NamesUnderModel", "ladder", "[I", true)
  | 45 => ("NamesUnderModel", "canRead", "[Z", true)
  | 46 => ("NamesUnderModel", "madeMany", "[I", true)
  | 47 => ("NamesUnderModel", "madeHand", "[I", true)
  | 48 => ("NamesUnderModel", "madeDoing", "[I", true)
  | 49 => ("NamesUnderModel", "madeName", "[I", true)
  | 50 => ("NamesUnderModel", "slips", "I", false)
  | 51 => ("NamesUnderModel", "isBlock", "[Z", true)
  | 52 => ("NamesUnderModel", "leftEdge", "[I", true)
  | 53 => ("NamesUnderModel", "rightEdge", "[I", true)
  | 54 => ("NamesUnderModel", "course", "[I", true)
  | 55 => ("NamesUnderModel", "gapOf", "[I", true)
  | 56 => ("NamesUnderModel", "ways", "I", false)
  | _ => ("NamesUnderModel", "inGaps", "[I", true)
def tyX10 : Nat → FieldType := fun k => match k with
  | 0 => .int
  | 1 => .array .int
  | 2 => .int
  | 3 => .int
  | 4 => .array .int
  | 5 => .array .int
  | 6 => .array .long
  | 7 => .int
  | 8 => .int
  | 9 => .array .long
  | 10 => .int
  | 11 => .int
  | 12 => .array .boolean
  | 13 => .array .int
  | 14 => .array .boolean
  | 15 => .array .int
  | 16 => .array .int
  | 17 => .array .boolean
  | 18 => .array .int
  | 19 => .array .int
  | 20 => .array .int
  | 21 => .array .int
  | 22 => .array .int
  | 23 => .array .int
  | 24 => .array .int
  | 25 => .array .int
  | 26 => .array .int
  | 27 => .array .int
  | 28 => .boolean
  | 29 => .array .int
  | 30 => .array .int
  | 31 => .array .boolean
  | 32 => .int
  | 33 => .array .int
  | 34 => .int
  | 35 => .array .int
  | 36 => .array .int
  | 37 => .array .int
  | 38 => .array .int
  | 39 => .int
  | 40 => .array .int
  | 41 => .array .int
  | 42 => .array .int
  | 43 => .array .int
  | 44 => .array .int
  | 45 => .array .boolean
  | 46 => .array .int
  | 47 => .array .int
  | 48 => .array .int
  | 49 => .array .int
  | 50 => .int
  | 51 => .array .boolean
  | 52 => .array .int
  | 53 => .array .int
  | 54 => .array .int
  | 55 => .array .int
  | 56 => .int
  | _ => .array .int
abbrev wsX100 : List Cond := u_ws RX10 TX10 58
theorem nmX10 : ∀ a, a < 58 → ∀ b, b < 58 → a ≠ b → (TX10 a).2.1 ≠ (TX10 b).2.1 := by decide +kernel
theorem tyX10_ok : ∀ k, k < 58 → parseFieldDescriptor (TX10 k).2.2.1 = some (tyX10 k) := by decide +kernel
abbrev cX10_thrown : ByteArray := prog_12_method_1_code
def yX10_thrown : MethodName := ⟨RX10, "thrown", "()I"⟩
abbrev cX10_feed : ByteArray := prog_12_method_2_code
def yX10_feed : MethodName := ⟨RX10, "feed", "(JJJ)I"⟩
abbrev cX10_lay : ByteArray := prog_12_method_3_code
def yX10_lay : MethodName := ⟨RX10, "lay", "(J)V"⟩
abbrev cX10_init : ByteArray := prog_12_method_4_code
def yX10_init : MethodName := ⟨RX10, "<init>", "()V"⟩
abbrev cX10_isLetter : ByteArray := prog_12_method_5_code
def yX10_isLetter : MethodName := ⟨RX10, "isLetter", "(I)Z"⟩
abbrev cX10_isDigit : ByteArray := prog_12_method_6_code
def yX10_isDigit : MethodName := ⟨RX10, "isDigit", "(I)Z"⟩
abbrev cX10_rank : ByteArray := prog_12_method_7_code
def yX10_rank : MethodName := ⟨RX10, "rank", "(I)I"⟩
abbrev cX10_isSignOf : ByteArray := prog_12_method_8_code
def yX10_isSignOf : MethodName := ⟨RX10, "isSignOf", "(I)Z"⟩
abbrev cX10_cutAll : ByteArray := prog_12_method_9_code
def yX10_cutAll : MethodName := ⟨RX10, "cutAll", "()V"⟩
abbrev cX10_wrong : ByteArray := prog_12_method_10_code
def yX10_wrong : MethodName := ⟨RX10, "wrong", "(I)V"⟩
abbrev cX10_isSign : ByteArray := prog_12_method_11_code
def yX10_isSign : MethodName := ⟨RX10, "isSign", "(I)Z"⟩
abbrev cX10_isWord : ByteArray := prog_12_method_12_code
def yX10_isWord : MethodName := ⟨RX10, "isWord", "(I)Z"⟩
abbrev cX10_takeSign : ByteArray := prog_12_method_13_code
def yX10_takeSign : MethodName := ⟨RX10, "takeSign", "(I)V"⟩
abbrev cX10_hasSign : ByteArray := prog_12_method_14_code
def yX10_hasSign : MethodName := ⟨RX10, "hasSign", "(I)Z"⟩
abbrev cX10_hasWord : ByteArray := prog_12_method_15_code
def yX10_hasWord : MethodName := ⟨RX10, "hasWord", "(I)Z"⟩
abbrev cX10_takeWord : ByteArray := prog_12_method_16_code
def yX10_takeWord : MethodName := ⟨RX10, "takeWord", "(I)V"⟩
abbrev cX10_isBlank : ByteArray := prog_12_method_17_code
def yX10_isBlank : MethodName := ⟨RX10, "isBlank", "(I)Z"⟩
abbrev cX10_bares : ByteArray := prog_12_method_18_code
def yX10_bares : MethodName := ⟨RX10, "bares", "()V"⟩
abbrev cX10_areLetters : ByteArray := prog_12_method_19_code
def yX10_areLetters : MethodName := ⟨RX10, "areLetters", "(Z)Z"⟩
abbrev cX10_within : ByteArray := prog_12_method_20_code
def yX10_within : MethodName := ⟨RX10, "within", "(III)Z"⟩
abbrev cX10_isName : ByteArray := prog_12_method_21_code
def yX10_isName : MethodName := ⟨RX10, "isName", "(I)Z"⟩
abbrev cX10_isTaped : ByteArray := prog_12_method_22_code
def yX10_isTaped : MethodName := ⟨RX10, "isTaped", "(I)Z"⟩
abbrev cX10_name : ByteArray := prog_12_method_23_code
def yX10_name : MethodName := ⟨RX10, "name", "(IIZ)I"⟩
abbrev cX10_widthOf : ByteArray := prog_12_method_24_code
def yX10_widthOf : MethodName := ⟨RX10, "widthOf", "(I)I"⟩
abbrev cX10_width : ByteArray := prog_12_method_25_code
def yX10_width : MethodName := ⟨RX10, "width", "(I)I"⟩
abbrev cX10_known : ByteArray := prog_12_method_26_code
def yX10_known : MethodName := ⟨RX10, "known", "(II)I"⟩
abbrev cX10_isWithout : ByteArray := prog_12_method_27_code
def yX10_isWithout : MethodName := ⟨RX10, "isWithout", "(III)Z"⟩
abbrev cX10_areAlike : ByteArray := prog_12_method_28_code
def yX10_areAlike : MethodName := ⟨RX10, "areAlike", "(II)Z"⟩
abbrev cX10_alike : ByteArray := prog_12_method_29_code
def yX10_alike : MethodName := ⟨RX10, "alike", "(II)I"⟩
abbrev cX10_isPlace : ByteArray := prog_12_method_30_code
def yX10_isPlace : MethodName := ⟨RX10, "isPlace", "(I)Z"⟩
abbrev cX10_place : ByteArray := prog_12_method_31_code
def yX10_place : MethodName := ⟨RX10, "place", "(IIIII)Z"⟩
abbrev cX10_names : ByteArray := prog_12_method_32_code
def yX10_names : MethodName := ⟨RX10, "names", "(I)Z"⟩
abbrev cX10_lies : ByteArray := prog_12_method_33_code
def yX10_lies : MethodName := ⟨RX10, "lies", "(II)Z"⟩
abbrev cX10_cut : ByteArray := prog_12_method_34_code
def yX10_cut : MethodName := ⟨RX10, "cut", "(IIII)I"⟩
abbrev cX10_clean : ByteArray := prog_12_method_35_code
def yX10_clean : MethodName := ⟨RX10, "clean", "(I)Z"⟩
abbrev cX10_isCut : ByteArray := prog_12_method_36_code
def yX10_isCut : MethodName := ⟨RX10, "isCut", "(II)Z"⟩
abbrev cX10_isNaming : ByteArray := prog_12_method_37_code
def yX10_isNaming : MethodName := ⟨RX10, "isNaming", "(II)Z"⟩
abbrev cX10_traces : ByteArray := prog_12_method_38_code
def yX10_traces : MethodName := ⟨RX10, "traces", "(II)I"⟩
abbrev cX10_layer : ByteArray := prog_12_method_39_code
def yX10_layer : MethodName := ⟨RX10, "layer", "(III)I"⟩
abbrev cX10_doesFit : ByteArray := prog_12_method_40_code
def yX10_doesFit : MethodName := ⟨RX10, "doesFit", "(III)Z"⟩
abbrev cX10_fits : ByteArray := prog_12_method_41_code
def yX10_fits : MethodName := ⟨RX10, "fits", "(II)I"⟩
abbrev cX10_crowded : ByteArray := prog_12_method_42_code
def yX10_crowded : MethodName := ⟨RX10, "crowded", "(II)I"⟩
abbrev cX10_dated : ByteArray := prog_12_method_43_code
def yX10_dated : MethodName := ⟨RX10, "dated", "(II)Z"⟩
abbrev cX10_cutsOf : ByteArray := prog_12_method_44_code
def yX10_cutsOf : MethodName := ⟨RX10, "cutsOf", "(I)I"⟩
abbrev cX10_isThere : ByteArray := prog_12_method_45_code
def yX10_isThere : MethodName := ⟨RX10, "isThere", "(IIII)Z"⟩
abbrev cX10_lets : ByteArray := prog_12_method_46_code
def yX10_lets : MethodName := ⟨RX10, "lets", "(II)Z"⟩
abbrev cX10_letsAll : ByteArray := prog_12_method_47_code
def yX10_letsAll : MethodName := ⟨RX10, "letsAll", "()Z"⟩
abbrev cX10_tells : ByteArray := prog_12_method_48_code
def yX10_tells : MethodName := ⟨RX10, "tells", "(IZ)V"⟩
abbrev cX10_beginsStories : ByteArray := prog_12_method_49_code
def yX10_beginsStories : MethodName := ⟨RX10, "beginsStories", "(I)V"⟩
abbrev cX10_findStories : ByteArray := prog_12_method_50_code
def yX10_findStories : MethodName := ⟨RX10, "findStories", "()V"⟩
abbrev cX10_reignIn : ByteArray := prog_12_method_51_code
def yX10_reignIn : MethodName := ⟨RX10, "reignIn", "(II)I"⟩
abbrev cX10_isHand : ByteArray := prog_12_method_52_code
def yX10_isHand : MethodName := ⟨RX10, "isHand", "(I)Z"⟩
abbrev cX10_countOf : ByteArray := prog_12_method_53_code
def yX10_countOf : MethodName := ⟨RX10, "countOf", "(II)I"⟩
abbrev cX10_stories : ByteArray := prog_12_method_54_code
def yX10_stories : MethodName := ⟨RX10, "stories", "(I)I"⟩
abbrev cX10_story : ByteArray := prog_12_method_55_code
def yX10_story : MethodName := ⟨RX10, "story", "(II)I"⟩
abbrev cX10_odds : ByteArray := prog_12_method_56_code
def yX10_odds : MethodName := ⟨RX10, "odds", "(II)I"⟩
abbrev cX10_between : ByteArray := prog_12_method_57_code
def yX10_between : MethodName := ⟨RX10, "between", "(II)I"⟩
abbrev cX10_stood : ByteArray := prog_12_method_58_code
def yX10_stood : MethodName := ⟨RX10, "stood", "(II)I"⟩
abbrev cX10_next : ByteArray := prog_12_method_59_code
def yX10_next : MethodName := ⟨RX10, "next", "(I)I"⟩
abbrev cX10_hasStory : ByteArray := prog_12_method_60_code
def yX10_hasStory : MethodName := ⟨RX10, "hasStory", "(I)Z"⟩
abbrev cX10_doubt : ByteArray := prog_12_method_61_code
def yX10_doubt : MethodName := ⟨RX10, "doubt", "()I"⟩
abbrev cX10_emit : ByteArray := prog_12_method_62_code
def yX10_emit : MethodName := ⟨RX10, "emit", "(II)V"⟩
abbrev cX10_order : ByteArray := prog_12_method_63_code
def yX10_order : MethodName := ⟨RX10, "order", "(I)I"⟩
abbrev cX10_readLine : ByteArray := prog_12_method_64_code
def yX10_readLine : MethodName := ⟨RX10, "readLine", "()V"⟩
abbrev cX10_all : ByteArray := prog_12_method_65_code
def yX10_all : MethodName := ⟨RX10, "all", "(I)V"⟩
abbrev cX10_test : ByteArray := prog_12_method_66_code
def yX10_test : MethodName := ⟨RX10, "test", "(I)V"⟩
abbrev cX10_sums : ByteArray := prog_12_method_67_code
def yX10_sums : MethodName := ⟨RX10, "sums", "(I)V"⟩
abbrev cX10_products : ByteArray := prog_12_method_68_code
def yX10_products : MethodName := ⟨RX10, "products", "(I)V"⟩
abbrev cX10_takePart : ByteArray := prog_12_method_69_code
def yX10_takePart : MethodName := ⟨RX10, "takePart", "(I)V"⟩
abbrev cX10_worth : ByteArray := prog_12_method_70_code
def yX10_worth : MethodName := ⟨RX10, "worth", "(I)I"⟩
abbrev cX10_both : ByteArray := prog_12_method_71_code
def yX10_both : MethodName := ⟨RX10, "both", "(III)I"⟩
abbrev cX10_works : ByteArray := prog_12_method_72_code
def yX10_works : MethodName := ⟨RX10, "works", "(IIZ)Z"⟩
abbrev cX10_lays : ByteArray := prog_12_method_73_code
def yX10_lays : MethodName := ⟨RX10, "lays", "(IIII)V"⟩
abbrev cX10_standing : ByteArray := prog_12_method_74_code
def yX10_standing : MethodName := ⟨RX10, "standing", "(I)I"⟩
abbrev cX10_findFacts : ByteArray := prog_12_method_75_code
def yX10_findFacts : MethodName := ⟨RX10, "findFacts", "(I)V"⟩
abbrev cX10_canDo : ByteArray := prog_12_method_76_code
def yX10_canDo : MethodName := ⟨RX10, "canDo", "(III)Z"⟩
abbrev cX10_does : ByteArray := prog_12_method_77_code
def yX10_does : MethodName := ⟨RX10, "does", "(II)V"⟩
abbrev cX10_runs : ByteArray := prog_12_method_78_code
def yX10_runs : MethodName := ⟨RX10, "runs", "(I)V"⟩
abbrev cX10_ran : ByteArray := prog_12_method_79_code
def yX10_ran : MethodName := ⟨RX10, "ran", "(II)I"⟩
abbrev cX10_made : ByteArray := prog_12_method_80_code
def yX10_made : MethodName := ⟨RX10, "made", "(III)I"⟩
abbrev cX10_doesAgree : ByteArray := prog_12_method_81_code
def yX10_doesAgree : MethodName := ⟨RX10, "doesAgree", "(I)Z"⟩
abbrev cX10_agrees : ByteArray := prog_12_method_82_code
def yX10_agrees : MethodName := ⟨RX10, "agrees", "(I)I"⟩
abbrev cX10_missed : ByteArray := prog_12_method_83_code
def yX10_missed : MethodName := ⟨RX10, "missed", "(I)I"⟩
abbrev cX10_far : ByteArray := prog_12_method_84_code
def yX10_far : MethodName := ⟨RX10, "far", "(III)I"⟩
abbrev cX10_block : ByteArray := prog_12_method_85_code
def yX10_block : MethodName := ⟨RX10, "block", "(ZIIII)Z"⟩
abbrev cX10_doesLie : ByteArray := prog_12_method_86_code
def yX10_doesLie : MethodName := ⟨RX10, "doesLie", "(II)Z"⟩
abbrev cX10_fills : ByteArray := prog_12_method_87_code
def yX10_fills : MethodName := ⟨RX10, "fills", "(II)V"⟩
abbrev cX10_findWays : ByteArray := prog_12_method_88_code
def yX10_findWays : MethodName := ⟨RX10, "findWays", "()V"⟩
abbrev cX10_ways : ByteArray := prog_12_method_89_code
def yX10_ways : MethodName := ⟨RX10, "ways", "(I)I"⟩
abbrev cX10_back : ByteArray := prog_12_method_90_code
def yX10_back : MethodName := ⟨RX10, "back", "(I)I"⟩
abbrev cX10_count : ByteArray := prog_12_method_91_code
def yX10_count : MethodName := ⟨RX10, "count", "(I)I"⟩
def RJx145de : String := "java/io/Serializable"
def TJx145de : u_T := fun k => match k with
  | _ => ("", "", "", false)
def tyJx145de : Nat → FieldType := fun k => match k with
  | _ => .int
abbrev wsJx145de0 : List Cond := u_ws RJx145de TJx145de 0
theorem nmJx145de : ∀ a, a < 0 → ∀ b, b < 0 → a ≠ b → (TJx145de a).2.1 ≠ (TJx145de b).2.1 := by decide +kernel
theorem tyJx145de_ok : ∀ k, k < 0 → parseFieldDescriptor (TJx145de k).2.2.1 = some (tyJx145de k) := by decide +kernel
def RJx9f9b0 : String := "java/lang/CharSequence"
def TJx9f9b0 : u_T := fun k => match k with
  | _ => ("", "", "", false)
def tyJx9f9b0 : Nat → FieldType := fun k => match k with
  | _ => .int
abbrev wsJx9f9b00 : List Cond := u_ws RJx9f9b0 TJx9f9b0 0
theorem nmJx9f9b0 : ∀ a, a < 0 → ∀ b, b < 0 → a ≠ b → (TJx9f9b0 a).2.1 ≠ (TJx9f9b0 b).2.1 := by decide +kernel
theorem tyJx9f9b0_ok : ∀ k, k < 0 → parseFieldDescriptor (TJx9f9b0 k).2.2.1 = some (tyJx9f9b0 k) := by decide +kernel
def RJxb160c : String := "java/lang/Comparable"
def TJxb160c : u_T := fun k => match k with
  | _ => ("", "", "", false)
def tyJxb160c : Nat → FieldType := fun k => match k with
  | _ => .int
abbrev wsJxb160c0 : List Cond := u_ws RJxb160c TJxb160c 0
theorem nmJxb160c : ∀ a, a < 0 → ∀ b, b < 0 → a ≠ b → (TJxb160c a).2.1 ≠ (TJxb160c b).2.1 := by decide +kernel
theorem tyJxb160c_ok : ∀ k, k < 0 → parseFieldDescriptor (TJxb160c k).2.2.1 = some (tyJxb160c k) := by decide +kernel
def RJ6 : String := "java/lang/Integer"
def TJ6 : u_T := fun k => match k with
  | _ => ("", "", "", false)
def tyJ6 : Nat → FieldType := fun k => match k with
  | _ => .int
abbrev wsJ60 : List Cond := u_ws RJ6 TJ6 0
theorem nmJ6 : ∀ a, a < 0 → ∀ b, b < 0 → a ≠ b → (TJ6 a).2.1 ≠ (TJ6 b).2.1 := by decide +kernel
theorem tyJ6_ok : ∀ k, k < 0 → parseFieldDescriptor (TJ6 k).2.2.1 = some (tyJ6 k) := by decide +kernel
abbrev cJ6_bitCount_0f7a4 : ByteArray := prog_17_method_49_code
def yJ6_bitCount_0f7a4 : MethodName := ⟨RJ6, "bitCount", "(I)I"⟩
def RJ9 : String := "java/lang/Math"
def TJ9 : u_T := fun k => match k with
  | _ => ("", "", "", false)
def tyJ9 : Nat → FieldType := fun k => match k with
  | _ => .int
abbrev wsJ90 : List Cond := u_ws RJ9 TJ9 0
theorem nmJ9 : ∀ a, a < 0 → ∀ b, b < 0 → a ≠ b → (TJ9 a).2.1 ≠ (TJ9 b).2.1 := by decide +kernel
theorem tyJ9_ok : ∀ k, k < 0 → parseFieldDescriptor (TJ9 k).2.2.1 = some (tyJ9 k) := by decide +kernel
abbrev cJ9_max_7cf53 : ByteArray := prog_18_method_65_code
def yJ9_max_7cf53 : MethodName := ⟨RJ9, "max", "(II)I"⟩
abbrev cJ9_min_7cf53 : ByteArray := prog_18_method_69_code
def yJ9_min_7cf53 : MethodName := ⟨RJ9, "min", "(II)I"⟩
def RJ0 : String := "java/lang/String"
def TJ0 : u_T := fun k => match k with
  | _ => ("", "", "", false)
def tyJ0 : Nat → FieldType := fun k => match k with
  | _ => .int
abbrev wsJ00 : List Cond := u_ws RJ0 TJ0 0
theorem nmJ0 : ∀ a, a < 0 → ∀ b, b < 0 → a ≠ b → (TJ0 a).2.1 ≠ (TJ0 b).2.1 := by decide +kernel
theorem tyJ0_ok : ∀ k, k < 0 → parseFieldDescriptor (TJ0 k).2.2.1 = some (tyJ0 k) := by decide +kernel
abbrev cJ0_charAt_5068e : ByteArray := prog_20_method_56_code
def yJ0_charAt_5068e : MethodName := ⟨RJ0, "charAt", "(I)C"⟩
abbrev cJ0_isLatin1_aae02 : ByteArray := prog_20_method_154_code
def yJ0_isLatin1_aae02 : MethodName := ⟨RJ0, "isLatin1", "()Z"⟩
abbrev cJ0_checkIndex_df160 : ByteArray := prog_20_method_155_code
def yJ0_checkIndex_df160 : MethodName := ⟨RJ0, "checkIndex", "(II)V"⟩
def RJ1 : String := "java/lang/StringLatin1"
def TJ1 : u_T := fun k => match k with
  | _ => ("", "", "", false)
def tyJ1 : Nat → FieldType := fun k => match k with
  | _ => .int
abbrev wsJ10 : List Cond := u_ws RJ1 TJ1 0
theorem nmJ1 : ∀ a, a < 0 → ∀ b, b < 0 → a ≠ b → (TJ1 a).2.1 ≠ (TJ1 b).2.1 := by decide +kernel
theorem tyJ1_ok : ∀ k, k < 0 → parseFieldDescriptor (TJ1 k).2.2.1 = some (tyJ1 k) := by decide +kernel
abbrev cJ1_charAt_3b067 : ByteArray := prog_21_method_2_code
def yJ1_charAt_3b067 : MethodName := ⟨RJ1, "charAt", "([BI)C"⟩
def RJ2 : String := "java/lang/StringUTF16"
def TJ2 : u_T := fun k => match k with
  | _ => ("", "", "", false)
def tyJ2 : Nat → FieldType := fun k => match k with
  | _ => .int
abbrev wsJ20 : List Cond := u_ws RJ2 TJ2 0
theorem nmJ2 : ∀ a, a < 0 → ∀ b, b < 0 → a ≠ b → (TJ2 a).2.1 ≠ (TJ2 b).2.1 := by decide +kernel
theorem tyJ2_ok : ∀ k, k < 0 → parseFieldDescriptor (TJ2 k).2.2.1 = some (tyJ2 k) := by decide +kernel
abbrev cJ2_getChar_3b067 : ByteArray := prog_22_method_5_code
def yJ2_getChar_3b067 : MethodName := ⟨RJ2, "getChar", "([BI)C"⟩
abbrev cJ2_length_9d52b : ByteArray := prog_22_method_6_code
def yJ2_length_9d52b : MethodName := ⟨RJ2, "length", "([B)I"⟩
abbrev cJ2_charAt_3b067 : ByteArray := prog_22_method_83_code
def yJ2_charAt_3b067 : MethodName := ⟨RJ2, "charAt", "([BI)C"⟩
abbrev cJ2_checkIndex_2214a : ByteArray := prog_22_method_91_code
def yJ2_checkIndex_2214a : MethodName := ⟨RJ2, "checkIndex", "(I[B)V"⟩
def RJ10 : String := "java/lang/System"
def TJ10 : u_T := fun k => match k with
  | _ => ("", "", "", false)
def tyJ10 : Nat → FieldType := fun k => match k with
  | _ => .int
abbrev wsJ100 : List Cond := u_ws RJ10 TJ10 0
theorem nmJ10 : ∀ a, a < 0 → ∀ b, b < 0 → a ≠ b → (TJ10 a).2.1 ≠ (TJ10 b).2.1 := by decide +kernel
theorem tyJ10_ok : ∀ k, k < 0 → parseFieldDescriptor (TJ10 k).2.2.1 = some (tyJ10 k) := by decide +kernel
def RJxfd54e : String := "java/lang/constant/Constable"
def TJxfd54e : u_T := fun k => match k with
  | _ => ("", "", "", false)
def tyJxfd54e : Nat → FieldType := fun k => match k with
  | _ => .int
abbrev wsJxfd54e0 : List Cond := u_ws RJxfd54e TJxfd54e 0
theorem nmJxfd54e : ∀ a, a < 0 → ∀ b, b < 0 → a ≠ b → (TJxfd54e a).2.1 ≠ (TJxfd54e b).2.1 := by decide +kernel
theorem tyJxfd54e_ok : ∀ k, k < 0 → parseFieldDescriptor (TJxfd54e k).2.2.1 = some (tyJxfd54e k) := by decide +kernel
def RJx3cf43 : String := "java/lang/constant/ConstantDesc"
def TJx3cf43 : u_T := fun k => match k with
  | _ => ("", "", "", false)
def tyJx3cf43 : Nat → FieldType := fun k => match k with
  | _ => .int
abbrev wsJx3cf430 : List Cond := u_ws RJx3cf43 TJx3cf43 0
theorem nmJx3cf43 : ∀ a, a < 0 → ∀ b, b < 0 → a ≠ b → (TJx3cf43 a).2.1 ≠ (TJx3cf43 b).2.1 := by decide +kernel
theorem tyJx3cf43_ok : ∀ k, k < 0 → parseFieldDescriptor (TJx3cf43 k).2.2.1 = some (tyJx3cf43 k) := by decide +kernel
def RJ3 : String := "jdk/internal/util/Preconditions"
def TJ3 : u_T := fun k => match k with
  | _ => ("", "", "", false)
def tyJ3 : Nat → FieldType := fun k => match k with
  | _ => .int
abbrev wsJ30 : List Cond := u_ws RJ3 TJ3 0
theorem nmJ3 : ∀ a, a < 0 → ∀ b, b < 0 → a ≠ b → (TJ3 a).2.1 ≠ (TJ3 b).2.1 := by decide +kernel
theorem tyJ3_ok : ∀ k, k < 0 → parseFieldDescriptor (TJ3 k).2.2.1 = some (tyJ3 k) := by decide +kernel
abbrev cJ3_checkIndex_8e157 : ByteArray := prog_28_method_11_code
def yJ3_checkIndex_8e157 : MethodName := ⟨RJ3, "checkIndex", "(IILjava/util/function/BiFunction;)I"⟩
def RL : String := "NamesUnderLaw"
abbrev cL_layer : ByteArray := method_3_code
def yL_layer : MethodName := ⟨RL, "layer", "(LNamesUnder;III[J)I"⟩
abbrev cL_law : ByteArray := code
def yL_law : MethodName := ⟨RL, "law", "([I)Z"⟩
abbrev vwCl : List vw_C := [(RX1, TX1, 7), (RX2, TX2, 6), (RX3, TX3, 7), (RX4, TX4, 12), (RX5, TX5, 14), (RX6, TX6, 19), (RX7, TX7, 4), (RX8, TX8, 11), (RX9, TX9, 9), (RX10, TX10, 58)]
end
section
/-! A machine of values that are known: lists of cells, tokens for what the script holds; run by the kernel. Its steps are the machine's (zx_sound below). -/
abbrev ZL : Type := List (Nat × Value)
abbrev ZE : Type := (Nat × Nat × ZL) ⊕ (Nat × List Value)
abbrev ZS : Type := Nat × ZL × List Value × List ZE × Nat × Nat
abbrev ZX : Type := Except (Nat × Int) ZS
abbrev ZN : Type := List (Int × Int)
def zfail : ZX := .error (1000000, 0)
noncomputable def zn {α : Type} (n : Nat) (k : Nat → α) : α := Nat.rec (motive := fun _ => α) (k 0) (fun m _ => k (m + 1)) n
theorem zn_eq {α : Type} (n : Nat) (k : Nat → α) : zn n k = k n := by cases n <;> rfl
noncomputable def zi {α : Type} (x : Int32) (k : Int32 → α) : α := zn x.toUInt32.toNat (fun n => k (UInt32.ofNat n).toInt32)
theorem zi_eq {α : Type} (x : Int32) (k : Int32 → α) : zi x k = k x := by
  unfold zi
  rw [zn_eq]
  congr 1
  simp
noncomputable def zget {α : Type} (l : List α) : Nat → Option α := List.rec (motive := fun _ => Nat → Option α) (fun _ => none) (fun a _ ih i => Nat.rec (motive := fun _ => Option α) (some a) (fun m _ => ih m) i) l
theorem zget_eq {α : Type} (l : List α) (i : Nat) : zget l i = l[i]? := by
  induction l generalizing i with
  | nil => rfl
  | cons a r ih =>
    cases i with
    | zero => rfl
    | succ m => exact (ih m).trans (by simp)
noncomputable def zsk {α β : Type} (l : List α) (v : α) : Nat → (List α → β) → β := List.rec (motive := fun _ => Nat → (List α → β) → β) (fun _ k => k []) (fun a r ih i k => Nat.rec (motive := fun _ => β) (k (v :: r)) (fun m _ => ih m (fun r' => k (a :: r'))) i) l
theorem zsk_eq {α β : Type} (l : List α) (v : α) (i : Nat) (k : List α → β) : zsk l v i k = k (l.set i v) := by
  induction l generalizing i k with
  | nil => rfl
  | cons a r ih =>
    cases i with
    | zero => rfl
    | succ m => exact (ih m (fun r' => k (a :: r'))).trans (by simp)
noncomputable def zfl {α β : Type} (l : List α) : (List α → β) → β := List.rec (motive := fun _ => (List α → β) → β) (fun k => k []) (fun a _ ih k => ih (fun r => k (a :: r))) l
theorem zfl_eq {α β : Type} (l : List α) (k : List α → β) : zfl l k = k l := by
  induction l generalizing k with
  | nil => rfl
  | cons a r ih => exact ih (fun r => k (a :: r))
noncomputable def zap {α β : Type} (l : List α) (v : α) : (List α → β) → β := List.rec (motive := fun _ => (List α → β) → β) (fun k => k [v]) (fun a _ ih k => ih (fun r => k (a :: r))) l
theorem zap_eq {α β : Type} (l : List α) (v : α) (k : List α → β) : zap l v k = k (l ++ [v]) := by
  induction l generalizing k with
  | nil => rfl
  | cons a r ih => exact ih (fun r => k (a :: r))
noncomputable def zlk (l : ZL) (i : Nat) : Option Value := List.rec (motive := fun _ => Option Value) none (fun p _ ih => cond (Nat.beq p.1 i) (some p.2) ih) l
theorem zlk_cons (p : Nat × Value) (l : ZL) (i : Nat) : zlk (p :: l) i = if p.1 = i then some p.2 else zlk l i := by
  show cond (Nat.beq p.1 i) (some p.2) (zlk l i) = _
  by_cases h : p.1 = i
  · rw [if_pos h, show Nat.beq p.1 i = true from Nat.beq_eq.mpr h]
    rfl
  · rw [if_neg h]
    cases hb : Nat.beq p.1 i with
    | true => exact absurd (Nat.beq_eq.mp hb) h
    | false => rfl
theorem zlk_at {l : ZL} {i : Nat} {v : Value} (h : zlk l i = some v) : ∃ k : Nat, l[k]? = some (i, v) := by
  induction l with
  | nil => cases h
  | cons p r ih =>
    rw [zlk_cons] at h
    by_cases hp : p.1 = i
    · rw [if_pos hp] at h
      refine ⟨0, ?_⟩
      obtain ⟨a, b⟩ := p
      cases hp
      cases h
      rfl
    · rw [if_neg hp] at h
      obtain ⟨k, hk⟩ := ih h
      exact ⟨k + 1, by simpa using hk⟩
/-- an array's store: the place's old row goes -/
def zdrop (us : ZL) (j : Nat) : ZL := us.filter (fun q => !(Nat.beq q.1 j))
theorem zlk_drop {us : ZL} {i j : Nat} (h : i ≠ j) : zlk (zdrop us j) i = zlk us i := by
  induction us with
  | nil => rfl
  | cons p r ih =>
    rw [zlk_cons]
    unfold zdrop at ih ⊢
    rw [List.filter_cons]
    cases hb : Nat.beq p.1 j with
    | true =>
      have hp := Nat.beq_eq.mp hb
      rw [if_neg (by simp), if_neg (by omega)]
      exact ih
    | false =>
      rw [if_pos (by simp), zlk_cons, ih]
theorem zlk_put (us : ZL) (j : Nat) (v : Value) (i : Nat) : zlk ((j, v) :: zdrop us j) i = if i = j then some v else zlk us i := by
  rw [zlk_cons]
  by_cases h : i = j
  · rw [if_pos h, if_pos h.symm]
  · rw [if_neg h, if_neg (fun q => h q.symm), zlk_drop h]
/-! intervals -/
abbrev ZG : Type := (Nat → Int32) × Nat × List Nat
def zen (E : ZN) (g : ZG) : Prop := ∀ (t : Nat) (q : Int × Int), E[t]? = some q → q.1 ≤ (g.1 t).toInt ∧ (g.1 t).toInt ≤ q.2
def zv (ad : List Nat) (g : ZG) (v c : Value) : Prop := match v with
  | .ref k => ∃ a : Nat, ad[k]? = some a ∧ c = .ref a
  | .retAddr t => c = .int (g.1 t)
  | .float _ => c = .ref g.2.1
  | .double _ => False
  | v => c = v
theorem zv_cat {ad : List Nat} {g : ZG} {v c : Value} (h : zv ad g v c) : c.category = v.category := by
  cases v with
  | ref k =>
    obtain ⟨a, -, rfl⟩ := h
    rfl
  | double k => exact h.elim
  | int x =>
    cases (show c = _ from h)
    rfl
  | long x =>
    cases (show c = _ from h)
    rfl
  | float x =>
    cases (show c = _ from h)
    rfl
  | null =>
    cases (show c = _ from h)
    rfl
  | retAddr x =>
    cases (show c = _ from h)
    rfl
theorem zv_mono {ad ad' : List Nat} {g : ZG} (hm : ∀ (k a : Nat), ad[k]? = some a → ad'[k]? = some a) {v c : Value} (h : zv ad g v c) : zv ad' g v c := by
  cases v with
  | ref k =>
    obtain ⟨a, h1, rfl⟩ := h
    exact ⟨a, hm k a h1, rfl⟩
  | double k => exact h.elim
  | int x => exact h
  | long x => exact h
  | float x => exact h
  | null => exact h
  | retAddr x => exact h
def zvs (ad : List Nat) (g : ZG) : List Value → List Value → Prop
  | [], [] => True
  | v :: vs, c :: cs => zv ad g v c ∧ zvs ad g vs cs
  | _, _ => False
theorem zvs_nil {ad : List Nat} {g : ZG} {cs : List Value} (h : zvs ad g [] cs) : cs = [] := by
  cases cs with
  | nil => rfl
  | cons c r => exact h.elim
theorem zvs_cons {ad : List Nat} {g : ZG} {v : Value} {vs cs : List Value} (h : zvs ad g (v :: vs) cs) : ∃ c r, cs = c :: r ∧ zv ad g v c ∧ zvs ad g vs r := by
  cases cs with
  | nil => exact h.elim
  | cons c r => exact ⟨c, r, rfl, h.1, h.2⟩
theorem zvs_mono {ad ad' : List Nat} {g : ZG} (hm : ∀ (k a : Nat), ad[k]? = some a → ad'[k]? = some a) : ∀ {vs cs : List Value}, zvs ad g vs cs → zvs ad' g vs cs := by
  intro vs
  induction vs with
  | nil =>
    intro cs h
    cases zvs_nil h
    trivial
  | cons v vs ih =>
    intro cs h
    obtain ⟨c, r, rfl, h1, h2⟩ := zvs_cons h
    exact ⟨zv_mono hm h1, ih h2⟩
theorem zvs_len {ad : List Nat} {g : ZG} : ∀ {vs cs : List Value}, zvs ad g vs cs → cs.length = vs.length := by
  intro vs
  induction vs with
  | nil =>
    intro cs h
    cases zvs_nil h
    rfl
  | cons v vs ih =>
    intro cs h
    obtain ⟨c, r, rfl, h1, h2⟩ := zvs_cons h
    simp [ih h2]
theorem zvs_get {ad : List Nat} {g : ZG} : ∀ {vs cs : List Value}, zvs ad g vs cs → ∀ {k : Nat} {v : Value}, vs[k]? = some v → ∃ c, cs[k]? = some c ∧ zv ad g v c := by
  intro vs
  induction vs with
  | nil =>
    intro cs h k v hk
    cases hk
  | cons w vs ih =>
    intro cs h k v hk
    obtain ⟨c, r, rfl, h1, h2⟩ := zvs_cons h
    cases k with
    | zero =>
      cases hk
      exact ⟨c, rfl, h1⟩
    | succ k =>
      obtain ⟨c2, h3, h4⟩ := ih h2 (k := k) (by simpa using hk)
      exact ⟨c2, by simpa using h3, h4⟩
theorem zvs_set {ad : List Nat} {g : ZG} {v c : Value} (hv : zv ad g v c) : ∀ {vs cs : List Value}, zvs ad g vs cs → ∀ (k : Nat), zvs ad g (vs.set k v) (cs.set k c) := by
  intro vs
  induction vs with
  | nil =>
    intro cs h k
    cases zvs_nil h
    trivial
  | cons w vs ih =>
    intro cs h k
    obtain ⟨d, r, rfl, h1, h2⟩ := zvs_cons h
    cases k with
    | zero => exact ⟨hv, h2⟩
    | succ k => exact ⟨h1, ih h2 k⟩
theorem zvs_app {ad : List Nat} {g : ZG} : ∀ {vs cs ws ds : List Value}, zvs ad g vs cs → zvs ad g ws ds → zvs ad g (vs ++ ws) (cs ++ ds) := by
  intro vs
  induction vs with
  | nil =>
    intro cs ws ds h h2
    cases zvs_nil h
    exact h2
  | cons w vs ih =>
    intro cs ws ds h h2
    obtain ⟨d, r, rfl, h3, h4⟩ := zvs_cons h
    exact ⟨h3, ih h4 h2⟩
theorem zvs_rev {ad : List Nat} {g : ZG} : ∀ {vs cs : List Value}, zvs ad g vs cs → zvs ad g vs.reverse cs.reverse := by
  intro vs
  induction vs with
  | nil =>
    intro cs h
    cases zvs_nil h
    trivial
  | cons w vs ih =>
    intro cs h
    obtain ⟨d, r, rfl, h3, h4⟩ := zvs_cons h
    rw [List.reverse_cons, List.reverse_cons]
    exact zvs_app (ih h4) ⟨h3, trivial⟩
theorem zvs_take {ad : List Nat} {g : ZG} (n : Nat) : ∀ {vs cs : List Value}, zvs ad g vs cs → zvs ad g (vs.take n) (cs.take n) ∧ zvs ad g (vs.drop n) (cs.drop n) := by
  induction n with
  | zero =>
    intro vs cs h
    exact ⟨by simp [zvs], by simpa using h⟩
  | succ n ih =>
    intro vs cs h
    cases vs with
    | nil =>
      cases zvs_nil h
      exact ⟨trivial, trivial⟩
    | cons v vs =>
      obtain ⟨d, r, rfl, h3, h4⟩ := zvs_cons h
      exact ⟨⟨h3, (ih h4).1⟩, (ih h4).2⟩
theorem zvs_sum {ad : List Nat} {g : ZG} : ∀ {vs cs : List Value}, zvs ad g vs cs → (cs.map fun v => v.category).sum = (vs.map fun v => v.category).sum := by
  intro vs
  induction vs with
  | nil =>
    intro cs h
    cases zvs_nil h
    rfl
  | cons w vs ih =>
    intro cs h
    obtain ⟨d, r, rfl, h3, h4⟩ := zvs_cons h
    simp [zv_cat h3, ih h4]
def zls (ad : List Nat) (g : ZG) : ZL → ZL → Prop
  | [], [] => True
  | v :: vs, c :: cs => v.1 = c.1 ∧ zv ad g v.2 c.2 ∧ zls ad g vs cs
  | _, _ => False
theorem zls_nil {ad : List Nat} {g : ZG} {cs : ZL} (h : zls ad g [] cs) : cs = [] := by
  cases cs with
  | nil => rfl
  | cons c r => exact h.elim
theorem zls_cons {ad : List Nat} {g : ZG} {v : Nat × Value} {vs cs : ZL} (h : zls ad g (v :: vs) cs) : ∃ c r, cs = c :: r ∧ v.1 = c.1 ∧ zv ad g v.2 c.2 ∧ zls ad g vs r := by
  cases cs with
  | nil => exact h.elim
  | cons c r => exact ⟨c, r, rfl, h.1, h.2.1, h.2.2⟩
theorem zls_mono {ad ad' : List Nat} {g : ZG} (hm : ∀ (k a : Nat), ad[k]? = some a → ad'[k]? = some a) : ∀ {vs cs : ZL}, zls ad g vs cs → zls ad' g vs cs := by
  intro vs
  induction vs with
  | nil =>
    intro cs h
    cases zls_nil h
    trivial
  | cons v vs ih =>
    intro cs h
    obtain ⟨c, r, rfl, h1, h2, h3⟩ := zls_cons h
    exact ⟨h1, zv_mono hm h2, ih h3⟩
theorem zls_get {ad : List Nat} {g : ZG} : ∀ {vs cs : ZL}, zls ad g vs cs → ∀ {k : Nat} {i : Nat} {v : Value}, vs[k]? = some (i, v) → ∃ c, cs[k]? = some (i, c) ∧ zv ad g v c := by
  intro vs
  induction vs with
  | nil =>
    intro cs h k i v hk
    cases hk
  | cons w vs ih =>
    intro cs h k i v hk
    obtain ⟨c, r, rfl, h1, h2, h3⟩ := zls_cons h
    cases k with
    | zero =>
      cases hk
      obtain ⟨c1, c2⟩ := c
      cases h1
      exact ⟨c2, rfl, h2⟩
    | succ k =>
      obtain ⟨c2, h4, h5⟩ := ih h3 (k := k) (by simpa using hk)
      exact ⟨c2, by simpa using h4, h5⟩
def zkeep (i : Nat) (q : Nat × Value) : Bool := !(q.1 == i) && !(q.1 + 1 == i && q.2.category == 2)
theorem zls_filter {ad : List Nat} {g : ZG} (i : Nat) : ∀ {vs cs : ZL}, zls ad g vs cs → zls ad g (vs.filter (zkeep i)) (cs.filter (zkeep i)) := by
  intro vs
  induction vs with
  | nil =>
    intro cs h
    cases zls_nil h
    trivial
  | cons v vs ih =>
    intro cs h
    obtain ⟨c, r, rfl, h1, h2, h3⟩ := zls_cons h
    have e : zkeep i c = zkeep i v := by
      unfold zkeep
      rw [h1, zv_cat h2]
    rw [List.filter_cons, List.filter_cons, e]
    cases zkeep i v with
    | true => exact ⟨h1, h2, ih h3⟩
    | false => exact ih h3
theorem zls_args {ad : List Nat} {g : ZG} : ∀ {vs cs : List Value} (i : Nat), zvs ad g vs cs → zls ad g (lv_args i vs) (lv_args i cs) := by
  intro vs
  induction vs with
  | nil =>
    intro cs i h
    cases zvs_nil h
    trivial
  | cons v vs ih =>
    intro cs i h
    obtain ⟨c, r, rfl, h1, h2⟩ := zvs_cons h
    refine ⟨rfl, h1, ?_⟩
    rw [zv_cat h1]
    exact ih _ h2
/-- another base of addresses -/
def zga (g : ZG) (ad : List Nat) : ZG := (g.1, g.2.1, ad)
theorem zv_g {ad : List Nat} {g g' : ZG} (h1 : g'.1 = g.1) (h2 : g'.2.1 = g.2.1) {v c : Value} (h : zv ad g v c) : zv ad g' v c := by
  cases v with
  | ref k => exact h
  | double k => exact h.elim
  | int x => exact h
  | long x => exact h
  | float x => exact (show c = .ref g.2.1 from h).trans (by rw [h2])
  | null => exact h
  | retAddr x => exact (show c = .int (g.1 x) from h).trans (by rw [h1])
theorem zvs_g {ad : List Nat} {g g' : ZG} (h1 : g'.1 = g.1) (h2 : g'.2.1 = g.2.1) : ∀ {vs cs : List Value}, zvs ad g vs cs → zvs ad g' vs cs := by
  intro vs
  induction vs with
  | nil =>
    intro cs h
    cases zvs_nil h
    trivial
  | cons v vs ih =>
    intro cs h
    obtain ⟨c, r, rfl, h3, h4⟩ := zvs_cons h
    exact ⟨zv_g h1 h2 h3, ih h4⟩
end
section
/-! cells: an array by the kind of its elements (0 int, 1 boolean, 2 char, 3 long, 4 Wall, 5 Order), an object by its class in vwCl -/
def zdv (t : Nat) : Value := cond (Nat.blt t 3) (.int 0) (cond (Nat.beq t 3) (.long 0) .null)
noncomputable def zel (t : Nat) (us : ZL) (j : Nat) : Value := match zlk us j with
  | some v => v
  | none => zdv t
theorem zel_put (t : Nat) (us : ZL) (j : Nat) (v : Value) (i : Nat) : zel t ((j, v) :: zdrop us j) i = if i = j then v else zel t us i := by
  unfold zel
  rw [zlk_put]
  by_cases h : i = j
  · rw [if_pos h, if_pos h]
  · rw [if_neg h, if_neg h]
def za (ad : List Nat) (g : ZG) (t : Nat) (us : ZL) (arr : (Nat → Int32) ⊕ (Nat → Int64) ⊕ (Nat → UInt32) ⊕ (Nat → UInt64) ⊕ (Nat → Option Nat)) : Prop :=
  (t < 3 → ∃ f : Nat → Int32, arr = .inl f ∧ ∀ j, zv ad g (zel t us j) (.int (f j))) ∧
  (t = 3 → ∃ f : Nat → Int64, arr = .inr (.inl f) ∧ ∀ j, zel t us j = .long (f j)) ∧
  (3 < t → ∃ f : Nat → Option Nat, arr = .inr (.inr (.inr (.inr f))) ∧ ∀ j, zv ad g (zel t us j) (va_rf (f j)))
def ze (ad : List Nat) (g : ZG) (cA : Nat → ClassId) (e : ZE) (w : va_E) : Prop := match e with
  | .inl x => ∃ arr, w = .inl (cA x.1, x.2.1, arr) ∧ za ad g x.1 x.2.2 arr
  | .inr x => ∃ gs, w = .inr (x.1, gs) ∧ zvs ad g x.2 gs
theorem za_mono {ad ad' : List Nat} {g : ZG} (hm : ∀ (k a : Nat), ad[k]? = some a → ad'[k]? = some a) {t : Nat} {us : ZL} {arr : (Nat → Int32) ⊕ (Nat → Int64) ⊕ (Nat → UInt32) ⊕ (Nat → UInt64) ⊕ (Nat → Option Nat)} (h : za ad g t us arr) : za ad' g t us arr := by
  obtain ⟨h1, h2, h3⟩ := h
  refine ⟨fun q => ?_, h2, fun q => ?_⟩
  · obtain ⟨f, e, hf⟩ := h1 q
    exact ⟨f, e, fun j => zv_mono hm (hf j)⟩
  · obtain ⟨f, e, hf⟩ := h3 q
    exact ⟨f, e, fun j => zv_mono hm (hf j)⟩
theorem ze_mono {ad ad' : List Nat} {g : ZG} {cA : Nat → ClassId} (hm : ∀ (k a : Nat), ad[k]? = some a → ad'[k]? = some a) {e : ZE} {w : va_E} (h : ze ad g cA e w) : ze ad' g cA e w := by
  cases e with
  | inl x =>
    obtain ⟨arr, e1, h1⟩ := h
    exact ⟨arr, e1, za_mono hm h1⟩
  | inr x =>
    obtain ⟨gs, e1, h1⟩ := h
    exact ⟨gs, e1, zvs_mono hm h1⟩
def zad (ws : va_W) : List Nat := ws.map Prod.fst
def zh (g : ZG) (cA : Nat → ClassId) (hp : List ZE) (ws : va_W) : Prop := ws.length = hp.length ∧ (∀ (k : Nat) (e : ZE) (w : Nat × va_E), hp[k]? = some e → ws[k]? = some w → ze (zad ws) g cA e w.2) ∧ ∀ (k a : Nat), g.2.2[k]? = some a → (zad ws)[k]? = some a
theorem zad_get {ws : va_W} {k : Nat} {a : Nat} (h : (zad ws)[k]? = some a) : ∃ w, ws[k]? = some (a, w) := by
  unfold zad at h
  rw [List.getElem?_map] at h
  cases hw : ws[k]? with
  | none => rw [hw] at h; cases h
  | some q =>
    rw [hw] at h
    obtain ⟨x, y⟩ := q
    cases h
    exact ⟨y, rfl⟩
theorem zad_of {ws : va_W} {k a : Nat} {w : va_E} (h : ws[k]? = some (a, w)) : (zad ws)[k]? = some a := by
  unfold zad
  rw [List.getElem?_map, h]
  rfl
theorem zad_set {ws : va_W} {k a : Nat} {w w' : va_E} (h : ws[k]? = some (a, w)) : zad (ws.set k (a, w')) = zad ws := by
  unfold zad
  rw [List.map_set]
  apply List.ext_getElem?
  intro i
  rw [List.getElem?_set]
  by_cases hi : k = i
  · subst hi
    rw [if_pos rfl, List.getElem?_map, h]
    have hl : k < ws.length := (List.getElem?_eq_some_iff.mp h).1
    simp [hl]
  · rw [if_neg hi]
theorem zad_app (ws : va_W) (q : Nat) (w : va_E) (k a : Nat) (h : (zad ws)[k]? = some a) : (zad (ws ++ [(q, w)]))[k]? = some a := by
  unfold zad at h ⊢
  rw [List.map_append, List.getElem?_append_left]
  · exact h
  · exact (List.getElem?_eq_some_iff.mp h).1
/-- a cell that is there -/
theorem zh_at {g : ZG} {cA : Nat → ClassId} {hp : List ZE} {ws : va_W} (h : zh g cA hp ws) {k : Nat} {e : ZE} {a : Nat} (he : hp[k]? = some e) (ha : (zad ws)[k]? = some a) : ∃ w, ws[k]? = some (a, w) ∧ ze (zad ws) g cA e w := by
  obtain ⟨w, hw⟩ := zad_get ha
  exact ⟨w, hw, h.2.1 k e (a, w) he hw⟩
theorem zh_set {g : ZG} {cA : Nat → ClassId} {hp : List ZE} {ws : va_W} (h : zh g cA hp ws) {k a : Nat} {e' : ZE} {w w' : va_E} (hw : ws[k]? = some (a, w)) (he : ze (zad ws) g cA e' w') : zh g cA (hp.set k e') (ws.set k (a, w')) := by
  refine ⟨by simp [h.1], fun i e q h1 h2 => ?_, fun i x hi => by rw [zad_set hw]; exact h.2.2 i x hi⟩
  rw [zad_set hw]
  rw [List.getElem?_set] at h1 h2
  by_cases hi : k = i
  · subst hi
    rw [if_pos rfl] at h1 h2
    split at h1
    · split at h2
      · cases h1
        cases h2
        exact he
      · cases h2
    · cases h1
  · rw [if_neg hi] at h1 h2
    exact h.2.1 i e q h1 h2
theorem zh_app {g : ZG} {cA : Nat → ClassId} {hp : List ZE} {ws : va_W} (h : zh g cA hp ws) (q : Nat) {e' : ZE} {w' : va_E} (he : ze (zad (ws ++ [(q, w')])) g cA e' w') : zh g cA (hp ++ [e']) (ws ++ [(q, w')]) := by
  refine ⟨by simp [h.1], fun i e x h1 h2 => ?_, fun i x hi => zad_app ws q w' i x (h.2.2 i x hi)⟩
  by_cases hi : i < hp.length
  · rw [List.getElem?_append_left hi] at h1
    rw [List.getElem?_append_left (by rw [h.1]; exact hi)] at h2
    exact ze_mono (zad_app ws q w') (h.2.1 i e x h1 h2)
  · rw [List.getElem?_append_right (by omega)] at h1
    rw [List.getElem?_append_right (by rw [h.1]; omega)] at h2
    rw [h.1] at h2
    cases hj : i - hp.length with
    | zero =>
      rw [hj] at h1 h2
      cases h1
      cases h2
      exact he
    | succ n =>
      rw [hj] at h1
      cases h1
theorem zad_last (ws : va_W) (q : Nat) (w : va_E) : (zad (ws ++ [(q, w)]))[ws.length]? = some q := by
  unfold zad
  rw [List.map_append, List.getElem?_append_right (by simp)]
  simp
def ztys (cA : Nat → ClassId) : List (ClassId × FieldType) := [(cA 0, .int), (cA 1, .boolean), (cA 2, .char), (cA 3, .long), (cA 4, .object "NamesUnder$Wall"), (cA 5, .object "NamesUnder$Order")]
def zty (t : Nat) : FieldType := match t with
  | 0 => .int
  | 1 => .boolean
  | 2 => .char
  | 3 => .long
  | 4 => .object "NamesUnder$Wall"
  | _ => .object "NamesUnder$Order"
theorem ztys_at (cA : Nat → ClassId) {t : Nat} (h : t < 6) : (ztys cA)[t]? = some (cA t, zty t) := by
  match t, h with
  | 0, _ => rfl
  | 1, _ => rfl
  | 2, _ => rfl
  | 3, _ => rfl
  | 4, _ => rfl
  | 5, _ => rfl
/-- stores -/
theorem za_putI {ad : List Nat} {g : ZG} {t : Nat} {us : ZL} {f : Nat → Int32} (ht : t < 3) (hf : ∀ j, zv ad g (zel t us j) (.int (f j))) {i : Nat} {v : Value} {x : Int32} (hv : zv ad g v (.int x)) : za ad g t ((i, v) :: zdrop us i) (.inl (upd f i x)) := by
  refine ⟨fun _ => ⟨_, rfl, fun j => ?_⟩, fun h => by omega, fun h => by omega⟩
  rw [zel_put]
  unfold upd
  by_cases h : j = i
  · rw [if_pos h, if_pos h]
    exact hv
  · rw [if_neg h, if_neg h]
    exact hf j
theorem za_putL {ad : List Nat} {g : ZG} {us : ZL} {f : Nat → Int64} (hf : ∀ j, zel 3 us j = .long (f j)) {i : Nat} {x : Int64} : za ad g 3 ((i, .long x) :: zdrop us i) (.inr (.inl (vp_updL f i x))) := by
  refine ⟨fun h => by omega, fun _ => ⟨_, rfl, fun j => ?_⟩, fun h => by omega⟩
  rw [zel_put]
  unfold vp_updL
  by_cases h : j = i
  · rw [if_pos h, if_pos h]
  · rw [if_neg h, if_neg h]
    exact hf j
theorem za_putR {ad : List Nat} {g : ZG} {t : Nat} {us : ZL} {f : Nat → Option Nat} (ht : 3 < t) (hf : ∀ j, zv ad g (zel t us j) (va_rf (f j))) {i : Nat} {v : Value} {x : Nat} (hv : zv ad g v (.ref x)) : za ad g t ((i, v) :: zdrop us i) (.inr (.inr (.inr (.inr (va_up f i (some x)))))) := by
  refine ⟨fun h => by omega, fun h => by omega, fun _ => ⟨_, rfl, fun j => ?_⟩⟩
  rw [zel_put]
  unfold va_up
  by_cases h : j = i
  · rw [if_pos h, if_pos h]
    exact hv
  · rw [if_neg h, if_neg h]
    exact hf j
/-! known ints, and tokens within bounds -/
noncomputable def zrg (E : ZN) (v : Value) (k : Int → Int → Nat → ZX) : ZX := match v with
  | .int x => k x.toInt x.toInt 0
  | .retAddr t => (match zget E t with
    | some q => k q.1 q.2 t
    | none => zfail)
  | _ => zfail
theorem zrg_ok {E : ZN} {g : ZG} {ad : List Nat} {v c : Value} {k : Int → Int → Nat → ZX} {r : ZS} (hE : zen E g) (hv : zv ad g v c) (h : zrg E v k = .ok r) : ∃ (x : Int32) (lo hi : Int) (t : Nat), c = .int x ∧ lo ≤ x.toInt ∧ x.toInt ≤ hi ∧ k lo hi t = .ok r := by
  cases v with
  | int x =>
    cases (show c = _ from hv)
    exact ⟨x, x.toInt, x.toInt, 0, rfl, by omega, by omega, h⟩
  | retAddr t =>
    cases (show c = _ from hv)
    simp only [zrg, zget_eq] at h
    cases hq : E[t]? with
    | none => simp only [hq] at h; cases h
    | some q =>
      simp only [hq] at h
      exact ⟨g.1 t, q.1, q.2, t, rfl, (hE t q hq).1, (hE t q hq).2, h⟩
  | ref k => cases h
  | double k => cases h
  | long x => cases h
  | float x => cases h
  | null => cases h
noncomputable def zI (E : ZN) (v : Value) (k : Int32 → ZX) : ZX := match v with
  | .int x => k x
  | .retAddr t => (match zget E t with
    | some q => cond (decide (q.1 = q.2)) (zi (Int32.ofInt q.1) k) (.error (t, q.1 + 1))
    | none => zfail)
  | _ => zfail
theorem zI_ok {E : ZN} {g : ZG} {ad : List Nat} {v c : Value} {k : Int32 → ZX} {r : ZS} (hE : zen E g) (hv : zv ad g v c) (h : zI E v k = .ok r) : ∃ x : Int32, c = .int x ∧ k x = .ok r := by
  cases v with
  | int x =>
    cases (show c = _ from hv)
    exact ⟨x, rfl, h⟩
  | retAddr t =>
    cases (show c = _ from hv)
    simp only [zI, zget_eq] at h
    cases hq : E[t]? with
    | none => simp only [hq] at h; cases h
    | some q =>
      simp only [hq] at h
      have he := hE t q hq
      by_cases hc : q.1 = q.2
      · rw [decide_eq_true hc] at h
        rw [cond_true, zi_eq] at h
        have hx : (g.1 t).toInt = q.1 := by omega
        rw [← hx, Int32.ofInt_toInt] at h
        exact ⟨g.1 t, rfl, h⟩
      · rw [decide_eq_false hc] at h
        cases h
  | ref k => cases h
  | double k => cases h
  | long x => cases h
  | float x => cases h
  | null => cases h
noncomputable def zlt (lo hi b : Int) (t : Nat) (k : Bool → ZX) : ZX := cond (decide (hi < b)) (k true) (cond (decide (b ≤ lo)) (k false) (.error (t, b)))
theorem zlt_ok {lo hi b : Int} {t : Nat} {k : Bool → ZX} {r : ZS} {z : Int} (h1 : lo ≤ z) (h2 : z ≤ hi) (h : zlt lo hi b t k = .ok r) : k (decide (z < b)) = .ok r := by
  unfold zlt at h
  by_cases ha : hi < b
  · rw [decide_eq_true ha, cond_true] at h
    rw [decide_eq_true (by omega)]
    exact h
  · rw [decide_eq_false ha, cond_false] at h
    by_cases hb : b ≤ lo
    · rw [decide_eq_true hb, cond_true] at h
      rw [decide_eq_false (by omega)]
      exact h
    · rw [decide_eq_false hb] at h
      cases h
def zro (op : ClassFile.Cond) (a b : Int) : Bool := match op with
  | .eq => decide (a = b)
  | .ne => !(decide (a = b))
  | .lt => decide (a < b)
  | .ge => !(decide (a < b))
  | .gt => !(decide (a < b + 1))
  | .le => decide (a < b + 1)
noncomputable def zcp (op : ClassFile.Cond) (lo hi b : Int) (t : Nat) (k : Bool → ZX) : ZX := match op with
  | .eq => zlt lo hi b t (fun d => cond d (k false) (zlt lo hi (b + 1) t k))
  | .ne => zlt lo hi b t (fun d => cond d (k true) (zlt lo hi (b + 1) t (fun d => k (!d))))
  | .lt => zlt lo hi b t k
  | .ge => zlt lo hi b t (fun d => k (!d))
  | .gt => zlt lo hi (b + 1) t (fun d => k (!d))
  | .le => zlt lo hi (b + 1) t k
theorem zcp_ok {op : ClassFile.Cond} {lo hi b : Int} {t : Nat} {k : Bool → ZX} {r : ZS} {z : Int} (h1 : lo ≤ z) (h2 : z ≤ hi) (h : zcp op lo hi b t k = .ok r) : k (zro op z b) = .ok r := by
  cases op with
  | eq =>
    have h3 := zlt_ok h1 h2 (show zlt lo hi b t (fun d => cond d (k false) (zlt lo hi (b + 1) t k)) = .ok r from h)
    show k (decide (z = b)) = .ok r
    by_cases hz : z < b
    · rw [decide_eq_true hz, cond_true] at h3
      rw [decide_eq_false (by omega)]
      exact h3
    · rw [decide_eq_false hz, cond_false] at h3
      have h4 := zlt_ok h1 h2 h3
      rw [show decide (z = b) = decide (z < b + 1) from decide_eq_decide.mpr (by omega)]
      exact h4
  | ne =>
    have h3 := zlt_ok h1 h2 (show zlt lo hi b t (fun d => cond d (k true) (zlt lo hi (b + 1) t (fun d => k (!d)))) = .ok r from h)
    show k (!(decide (z = b))) = .ok r
    by_cases hz : z < b
    · rw [decide_eq_true hz, cond_true] at h3
      rw [decide_eq_false (by omega)]
      exact h3
    · rw [decide_eq_false hz, cond_false] at h3
      have h4 := zlt_ok h1 h2 h3
      rw [show decide (z = b) = decide (z < b + 1) from decide_eq_decide.mpr (by omega)]
      exact h4
  | lt => exact zlt_ok h1 h2 h
  | ge => exact zlt_ok h1 h2 (show zlt lo hi b t (fun d => k (!d)) = .ok r from h)
  | gt => exact zlt_ok h1 h2 (show zlt lo hi (b + 1) t (fun d => k (!d)) = .ok r from h)
  | le => exact zlt_ok h1 h2 (show zlt lo hi (b + 1) t k = .ok r from h)
noncomputable def zcmp (E : ZN) (op : ClassFile.Cond) (x y : Value) (k : Bool → ZX) : ZX := zI E y (fun b => zrg E x (fun lo hi t => zcp op lo hi b.toInt t k))
theorem zcmp_ok {E : ZN} {g : ZG} {ad : List Nat} {op : ClassFile.Cond} {x y cx cy : Value} {k : Bool → ZX} {r : ZS} (hE : zen E g) (hx : zv ad g x cx) (hy : zv ad g y cy) (h : zcmp E op x y k = .ok r) : ∃ a b : Int32, cx = .int a ∧ cy = .int b ∧ k (zro op a.toInt b.toInt) = .ok r := by
  obtain ⟨b, e2, h⟩ := zI_ok hE hy h
  obtain ⟨a, lo, hi, t, e1, h1, h2, h3⟩ := zrg_ok hE hx h
  exact ⟨a, b, e1, e2, zcp_ok h1 h2 h3⟩
def zint (v : Value) : Bool := match v with
  | .int _ => true
  | .retAddr _ => true
  | _ => false
theorem zint_ok {g : ZG} {ad : List Nat} {v c : Value} (h : zint v = true) (hv : zv ad g v c) : ∃ x : Int32, c = .int x := by
  cases v with
  | int x => exact ⟨_, hv⟩
  | retAddr t => exact ⟨_, hv⟩
  | ref k => cases h
  | double k => cases h
  | long x => cases h
  | float x => cases h
  | null => cases h
def zref (v : Value) : Bool := match v with
  | .ref _ => true
  | .float _ => true
  | _ => false
theorem zref_ok {g : ZG} {ad : List Nat} {v c : Value} (h : zref v = true) (hv : zv ad g v c) : ∃ a : Nat, c = .ref a := by
  cases v with
  | int x => cases h
  | retAddr t => cases h
  | ref k =>
    obtain ⟨a, -, e⟩ := hv
    exact ⟨a, e⟩
  | double k => cases h
  | long x => cases h
  | float x => exact ⟨_, hv⟩
  | null => cases h
noncomputable def zrf (hp : List ZE) (v : Value) (k : Nat → ZE → ZX) : ZX := match v with
  | .ref q => (match zget hp q with
    | some e => k q e
    | none => zfail)
  | _ => zfail
theorem zrf_ok {g : ZG} {cA : Nat → ClassId} {hp : List ZE} {ws : va_W} {v c : Value} {k : Nat → ZE → ZX} {r : ZS} (hh : zh g cA hp ws) (hv : zv (zad ws) g v c) (h : zrf hp v k = .ok r) : ∃ (q : Nat) (e : ZE) (a : Nat) (w : va_E), v = .ref q ∧ hp[q]? = some e ∧ c = .ref a ∧ ws[q]? = some (a, w) ∧ ze (zad ws) g cA e w ∧ k q e = .ok r := by
  cases v with
  | ref q =>
    obtain ⟨a, h1, rfl⟩ := hv
    simp only [zrf, zget_eq] at h
    cases hq : hp[q]? with
    | none => simp only [hq] at h; cases h
    | some e =>
      simp only [hq] at h
      obtain ⟨w, h2, h3⟩ := zh_at hh hq h1
      exact ⟨q, e, a, w, rfl, hq, rfl, h2, h3, h⟩
  | int x => cases h
  | retAddr t => cases h
  | double k => cases h
  | long x => cases h
  | float x => cases h
  | null => cases h
theorem za_g {ad : List Nat} {g g' : ZG} (h1 : g'.1 = g.1) (h2 : g'.2.1 = g.2.1) {t : Nat} {us : ZL} {arr : (Nat → Int32) ⊕ (Nat → Int64) ⊕ (Nat → UInt32) ⊕ (Nat → UInt64) ⊕ (Nat → Option Nat)} (h : za ad g t us arr) : za ad g' t us arr := by
  obtain ⟨q1, q2, q3⟩ := h
  refine ⟨fun q => ?_, q2, fun q => ?_⟩
  · obtain ⟨f, e, hf⟩ := q1 q
    exact ⟨f, e, fun j => zv_g h1 h2 (hf j)⟩
  · obtain ⟨f, e, hf⟩ := q3 q
    exact ⟨f, e, fun j => zv_g h1 h2 (hf j)⟩
theorem ze_g {ad : List Nat} {g g' : ZG} {cA : Nat → ClassId} (h1 : g'.1 = g.1) (h2 : g'.2.1 = g.2.1) {e : ZE} {w : va_E} (h : ze ad g cA e w) : ze ad g' cA e w := by
  cases e with
  | inl x =>
    obtain ⟨arr, e1, q⟩ := h
    exact ⟨arr, e1, za_g h1 h2 q⟩
  | inr x =>
    obtain ⟨gs, e1, q⟩ := h
    exact ⟨gs, e1, zvs_g h1 h2 q⟩
theorem zh_g {g g' : ZG} {cA : Nat → ClassId} {hp : List ZE} {ws : va_W} (h1 : g'.1 = g.1) (h2 : g'.2.1 = g.2.1) (h3 : ∀ (k a : Nat), g'.2.2[k]? = some a → (zad ws)[k]? = some a) (h : zh g cA hp ws) : zh g' cA hp ws := ⟨h.1, fun k e w q1 q2 => ze_g h1 h2 (h.2.1 k e w q1 q2), h3⟩
end
section
/-! steps: each is the machine's own -/
abbrev ZRt : Type := Nat → ZL → List Value → List ZE → Nat → Nat → ZX
def zT : List Cond := lw_tbl.filter goodWord
def zrel (dC : Nat → ClassId) (dI : Nat → Nat → Nat) (cA : Nat → ClassId) (g : ZG) (A : Nat → Prop) (H0 : Heap) (nL : Nat) (lv : ZL) (st : List Value) (hp : List ZE) (ws : va_W) (H : Heap) (locs : List Loc) (ls : Array Slot) (clv : ZL) (cst : List Value) : Prop :=
  zh g cA hp ws ∧ va_P (dC, dI) vwCl ws H ∧ va_D A ws ∧ va_S A H0 H locs ∧ lv_has ls nL clv ∧ zls (zad ws) g lv clv ∧ zvs (zad ws) g st cst
def zW (p : Program) (l : Launch) (e : Env) (R : Room) (s : State) (m : MethodId) (args : Array Value) (below : List Frame) (meth : Method) (c : Code) (Q : State → Prop) (dC : Nat → ClassId) (dI : Nat → Nat → Nat) (cA : Nat → ClassId) (g : ZG) (A : Nat → Prop) (nL : Nat) (pc : Nat) (lv : ZL) (st : List Value) (hp : List ZE) (nc ns : Nat) : Prop :=
  ∀ (ws : va_W) (H : Heap) (locs : List Loc) (ls : Array Slot) (clv : ZL) (cst : List Value), zrel dC dI cA g A s.heap nL lv st hp ws H locs ls clv cst → W p l e R s m args below meth c H locs nc ns Q (F0 m pc ls cst)
theorem zblt {i n : Nat} (h : Nat.blt i n = true) : i < n := Nat.le_of_ble_eq_true h
section ZST
variable {p : Program} {l : Launch} {e : Env} {R : Room} {s : State} {m : MethodId} {args : Array Value} {below : List Frame} {meth : Method} {c : Code} {Q : State → Prop} {dC : Nat → ClassId} {dI : Nat → Nat → Nat} {cA : Nat → ClassId} {g : ZG} {A : Nat → Prop} {nL : Nat} {cc : ByteArray} {pc : Nat} {lv : ZL} {st : List Value} {hp : List ZE} {nc ns : Nat} {ret : ZRt} {r : ZS} {E : ZN} {own : String}
theorem zs_push {v : Value} {n : Nat} (hv : ∀ ad, zv ad g v v) (hrow : ∀ (H : Heap) (locs : List Loc) (ls : Array Slot) (cst : List Value), W p l e R s m args below meth c H locs nc ns Q (F0 m (pc + n) ls (v :: cst)) → W p l e R s m args below meth c H locs nc ns Q (F0 m pc ls cst)) (k : zW p l e R s m args below meth c Q dC dI cA g A nL (pc + n) lv (v :: st) hp nc ns) : zW p l e R s m args below meth c Q dC dI cA g A nL pc lv st hp nc ns := by
  intro ws H locs ls clv cst ⟨r1, r2, r3, r4, r5, r6, r7⟩
  exact hrow _ _ _ _ (k ws H locs ls clv (v :: cst) ⟨r1, r2, r3, r4, r5, r6, hv _, r7⟩)
/-- a local read -/
noncomputable def zx_ld (f : Value → Bool) (i n pc : Nat) (lv : ZL) (st : List Value) (hp : List ZE) (nc ns : Nat) (ret : ZRt) : ZX := match zlk lv i with
  | some v => cond (f v) (ret (pc + n) lv (v :: st) hp nc ns) zfail
  | none => zfail
theorem zx_ld_ok {f : Value → Bool} {i n : Nat} (h : zx_ld f i n pc lv st hp nc ns ret = .ok r) : ∃ v, zlk lv i = some v ∧ f v = true ∧ ret (pc + n) lv (v :: st) hp nc ns = .ok r := by
  unfold zx_ld at h
  cases hl : zlk lv i with
  | none => simp only [hl] at h; cases h
  | some v =>
    simp only [hl] at h
    cases hf : f v with
    | false => rw [hf] at h; cases h
    | true => rw [hf] at h; exact ⟨v, rfl, hf, h⟩
theorem zs_lv {ad : List Nat} {ls : Array Slot} {clv : ZL} {i : Nat} {v : Value} (r5 : lv_has ls nL clv) (r6 : zls ad g lv clv) (h : zlk lv i = some v) : ∃ (k : Nat) (cv : Value), clv[k]? = some (i, cv) ∧ ls[i]? = some (.val cv) ∧ zv ad g v cv := by
  obtain ⟨k, hk⟩ := zlk_at h
  obtain ⟨cv, h1, h2⟩ := zls_get r6 hk
  exact ⟨k, cv, h1, lv_at r5 k h1, h2⟩
theorem zs_iload_n (hx : p.tables.exec = Jvm.exec) (hb : c.code = cc) {i : Fin 4} (hdg : decode cc pc = .ok (.iload_n i, 1)) (h : zx_ld zint i.val 1 pc lv st hp nc ns ret = .ok r) (Hk : ∀ (pc : Nat) (lv : ZL) (st : List Value) (hp : List ZE) (nc ns : Nat), ret pc lv st hp nc ns = .ok r → zW p l e R s m args below meth c Q dC dI cA g A nL pc lv st hp nc ns) : zW p l e R s m args below meth c Q dC dI cA g A nL pc lv st hp nc ns := by
  obtain ⟨v, h1, h2, h3⟩ := zx_ld_ok h
  intro ws H locs ls clv cst ⟨r1, r2, r3, r4, r5, r6, r7⟩
  obtain ⟨k, cv, -, h4, h5⟩ := zs_lv r5 r6 h1
  obtain ⟨x, rfl⟩ := zint_ok h2 h5
  exact lv_iload_n hx hb hdg rfl h4 (Hk _ _ _ _ _ _ h3 ws H locs ls clv _ ⟨r1, r2, r3, r4, r5, r6, h5, r7⟩)
theorem zs_iload (hx : p.tables.exec = Jvm.exec) (hb : c.code = cc) {i : Nat} (hdg : decode cc pc = .ok (.iload i, 2)) (h : zx_ld zint i 2 pc lv st hp nc ns ret = .ok r) (Hk : ∀ (pc : Nat) (lv : ZL) (st : List Value) (hp : List ZE) (nc ns : Nat), ret pc lv st hp nc ns = .ok r → zW p l e R s m args below meth c Q dC dI cA g A nL pc lv st hp nc ns) : zW p l e R s m args below meth c Q dC dI cA g A nL pc lv st hp nc ns := by
  obtain ⟨v, h1, h2, h3⟩ := zx_ld_ok h
  intro ws H locs ls clv cst ⟨r1, r2, r3, r4, r5, r6, r7⟩
  obtain ⟨k, cv, -, h4, h5⟩ := zs_lv r5 r6 h1
  obtain ⟨x, rfl⟩ := zint_ok h2 h5
  exact lv_iload hx hb hdg h4 (Hk _ _ _ _ _ _ h3 ws H locs ls clv _ ⟨r1, r2, r3, r4, r5, r6, h5, r7⟩)
theorem zs_aload_n (hx : p.tables.exec = Jvm.exec) (hb : c.code = cc) {i : Fin 4} (hdg : decode cc pc = .ok (.aload_n i, 1)) (h : zx_ld zref i.val 1 pc lv st hp nc ns ret = .ok r) (Hk : ∀ (pc : Nat) (lv : ZL) (st : List Value) (hp : List ZE) (nc ns : Nat), ret pc lv st hp nc ns = .ok r → zW p l e R s m args below meth c Q dC dI cA g A nL pc lv st hp nc ns) : zW p l e R s m args below meth c Q dC dI cA g A nL pc lv st hp nc ns := by
  obtain ⟨v, h1, h2, h3⟩ := zx_ld_ok h
  intro ws H locs ls clv cst ⟨r1, r2, r3, r4, r5, r6, r7⟩
  obtain ⟨k, cv, -, h4, h5⟩ := zs_lv r5 r6 h1
  obtain ⟨x, rfl⟩ := zref_ok h2 h5
  exact lv_aload_n hx hb hdg rfl h4 (Hk _ _ _ _ _ _ h3 ws H locs ls clv _ ⟨r1, r2, r3, r4, r5, r6, h5, r7⟩)
theorem zs_aload (hx : p.tables.exec = Jvm.exec) (hb : c.code = cc) {i : Nat} (hdg : decode cc pc = .ok (.aload i, 2)) (h : zx_ld zref i 2 pc lv st hp nc ns ret = .ok r) (Hk : ∀ (pc : Nat) (lv : ZL) (st : List Value) (hp : List ZE) (nc ns : Nat), ret pc lv st hp nc ns = .ok r → zW p l e R s m args below meth c Q dC dI cA g A nL pc lv st hp nc ns) : zW p l e R s m args below meth c Q dC dI cA g A nL pc lv st hp nc ns := by
  obtain ⟨v, h1, h2, h3⟩ := zx_ld_ok h
  intro ws H locs ls clv cst ⟨r1, r2, r3, r4, r5, r6, r7⟩
  obtain ⟨k, cv, -, h4, h5⟩ := zs_lv r5 r6 h1
  obtain ⟨x, rfl⟩ := zref_ok h2 h5
  exact lv_aload hx hb hdg h4 (Hk _ _ _ _ _ _ h3 ws H locs ls clv _ ⟨r1, r2, r3, r4, r5, r6, h5, r7⟩)
/-- a local written -/
noncomputable def zx_st (f : Value → Bool) (nL i n pc : Nat) (lv : ZL) (st : List Value) (hp : List ZE) (nc ns : Nat) (ret : ZRt) : ZX := match st with
  | v :: st' => cond (f v && Nat.blt i nL) (zfl (lv.filter (zkeep i)) (fun lr => ret (pc + n) ((i, v) :: lr) st' hp nc ns)) zfail
  | [] => zfail
theorem zx_st_ok {f : Value → Bool} {i n : Nat} (h : zx_st f nL i n pc lv st hp nc ns ret = .ok r) : ∃ v st', st = v :: st' ∧ f v = true ∧ i < nL ∧ ret (pc + n) ((i, v) :: lv.filter (zkeep i)) st' hp nc ns = .ok r := by
  cases st with
  | nil => cases h
  | cons v st' =>
    simp only [zx_st] at h
    cases hf : (f v && Nat.blt i nL) with
    | false => rw [hf] at h; cases h
    | true =>
      rw [hf, cond_true, zfl_eq] at h
      rw [Bool.and_eq_true] at hf
      exact ⟨v, st', rfl, hf.1, zblt hf.2, h⟩
theorem zs_istore_n (hx : p.tables.exec = Jvm.exec) (hb : c.code = cc) {i : Fin 4} (hdg : decode cc pc = .ok (.istore_n i, 1)) (h : zx_st zint nL i.val 1 pc lv st hp nc ns ret = .ok r) (Hk : ∀ (pc : Nat) (lv : ZL) (st : List Value) (hp : List ZE) (nc ns : Nat), ret pc lv st hp nc ns = .ok r → zW p l e R s m args below meth c Q dC dI cA g A nL pc lv st hp nc ns) : zW p l e R s m args below meth c Q dC dI cA g A nL pc lv st hp nc ns := by
  obtain ⟨v, st', rfl, h2, h3, h4⟩ := zx_st_ok h
  intro ws H locs ls clv cst ⟨r1, r2, r3, r4, r5, r6, r7⟩
  obtain ⟨cv, cr, rfl, h5, h6⟩ := zvs_cons r7
  obtain ⟨x, rfl⟩ := zint_ok h2 h5
  exact lv_istore_n hx hb hdg rfl r5 h3 rfl (fun ls' hl' => Hk _ _ _ _ _ _ h4 ws H locs ls' _ _ ⟨r1, r2, r3, r4, hl', ⟨rfl, h5, zls_filter i.val r6⟩, h6⟩)
theorem zs_istore (hx : p.tables.exec = Jvm.exec) (hb : c.code = cc) {i : Nat} (hdg : decode cc pc = .ok (.istore i, 2)) (h : zx_st zint nL i 2 pc lv st hp nc ns ret = .ok r) (Hk : ∀ (pc : Nat) (lv : ZL) (st : List Value) (hp : List ZE) (nc ns : Nat), ret pc lv st hp nc ns = .ok r → zW p l e R s m args below meth c Q dC dI cA g A nL pc lv st hp nc ns) : zW p l e R s m args below meth c Q dC dI cA g A nL pc lv st hp nc ns := by
  obtain ⟨v, st', rfl, h2, h3, h4⟩ := zx_st_ok h
  intro ws H locs ls clv cst ⟨r1, r2, r3, r4, r5, r6, r7⟩
  obtain ⟨cv, cr, rfl, h5, h6⟩ := zvs_cons r7
  obtain ⟨x, rfl⟩ := zint_ok h2 h5
  exact lv_istore hx hb hdg r5 h3 rfl (fun ls' hl' => Hk _ _ _ _ _ _ h4 ws H locs ls' _ _ ⟨r1, r2, r3, r4, hl', ⟨rfl, h5, zls_filter i r6⟩, h6⟩)
theorem zs_astore_n (hx : p.tables.exec = Jvm.exec) (hb : c.code = cc) {i : Fin 4} (hdg : decode cc pc = .ok (.astore_n i, 1)) (h : zx_st zref nL i.val 1 pc lv st hp nc ns ret = .ok r) (Hk : ∀ (pc : Nat) (lv : ZL) (st : List Value) (hp : List ZE) (nc ns : Nat), ret pc lv st hp nc ns = .ok r → zW p l e R s m args below meth c Q dC dI cA g A nL pc lv st hp nc ns) : zW p l e R s m args below meth c Q dC dI cA g A nL pc lv st hp nc ns := by
  obtain ⟨v, st', rfl, h2, h3, h4⟩ := zx_st_ok h
  intro ws H locs ls clv cst ⟨r1, r2, r3, r4, r5, r6, r7⟩
  obtain ⟨cv, cr, rfl, h5, h6⟩ := zvs_cons r7
  obtain ⟨x, rfl⟩ := zref_ok h2 h5
  exact lv_astore_n hx hb hdg rfl r5 h3 rfl (fun ls' hl' => Hk _ _ _ _ _ _ h4 ws H locs ls' _ _ ⟨r1, r2, r3, r4, hl', ⟨rfl, h5, zls_filter i.val r6⟩, h6⟩)
theorem zs_astore (hx : p.tables.exec = Jvm.exec) (hb : c.code = cc) {i : Nat} (hdg : decode cc pc = .ok (.astore i, 2)) (h : zx_st zref nL i 2 pc lv st hp nc ns ret = .ok r) (Hk : ∀ (pc : Nat) (lv : ZL) (st : List Value) (hp : List ZE) (nc ns : Nat), ret pc lv st hp nc ns = .ok r → zW p l e R s m args below meth c Q dC dI cA g A nL pc lv st hp nc ns) : zW p l e R s m args below meth c Q dC dI cA g A nL pc lv st hp nc ns := by
  obtain ⟨v, st', rfl, h2, h3, h4⟩ := zx_st_ok h
  intro ws H locs ls clv cst ⟨r1, r2, r3, r4, r5, r6, r7⟩
  obtain ⟨cv, cr, rfl, h5, h6⟩ := zvs_cons r7
  obtain ⟨x, rfl⟩ := zref_ok h2 h5
  exact lv_astore hx hb hdg r5 h3 rfl (fun ls' hl' => Hk _ _ _ _ _ _ h4 ws H locs ls' _ _ ⟨r1, r2, r3, r4, hl', ⟨rfl, h5, zls_filter i r6⟩, h6⟩)
noncomputable def zx_iinc (nL i : Nat) (n : Int) (pc : Nat) (lv : ZL) (st : List Value) (hp : List ZE) (nc ns : Nat) (ret : ZRt) : ZX := match zlk lv i with
  | some (.int x) => cond (Nat.blt i nL) (zi (x + Int32.ofInt n) (fun y => zfl (lv.filter (zkeep i)) (fun lr => ret (pc + 3) ((i, .int y) :: lr) st hp nc ns))) zfail
  | _ => zfail
theorem zs_iinc (hx : p.tables.exec = Jvm.exec) (hb : c.code = cc) {i : Nat} {n : Int} (hdg : decode cc pc = .ok (.iinc i n, 3)) (h : zx_iinc nL i n pc lv st hp nc ns ret = .ok r) (Hk : ∀ (pc : Nat) (lv : ZL) (st : List Value) (hp : List ZE) (nc ns : Nat), ret pc lv st hp nc ns = .ok r → zW p l e R s m args below meth c Q dC dI cA g A nL pc lv st hp nc ns) : zW p l e R s m args below meth c Q dC dI cA g A nL pc lv st hp nc ns := by
  unfold zx_iinc at h
  cases hl : zlk lv i with
  | none => simp only [hl] at h; cases h
  | some v =>
    cases v with
    | int x =>
      simp only [hl] at h
      cases hf : Nat.blt i nL with
      | false => rw [hf] at h; cases h
      | true =>
        rw [hf, cond_true, zi_eq, zfl_eq] at h
        intro ws H locs ls clv cst ⟨r1, r2, r3, r4, r5, r6, r7⟩
        obtain ⟨k, cv, h3, h4, h5⟩ := zs_lv r5 r6 hl
        cases (show cv = _ from h5)
        exact lv_iinc hx hb hdg r5 h3 rfl (zblt hf) rfl (fun ls' hl' => Hk _ _ _ _ _ _ h ws H locs ls' _ _ ⟨r1, r2, r3, r4, hl', ⟨rfl, rfl, zls_filter i r6⟩, r7⟩)
    | ref k => simp only [hl] at h; cases h
    | double k => simp only [hl] at h; cases h
    | long x => simp only [hl] at h; cases h
    | float x => simp only [hl] at h; cases h
    | null => simp only [hl] at h; cases h
    | retAddr x => simp only [hl] at h; cases h
/-- two ints to one -/
noncomputable def zx_bin (E : ZN) (f : Int32 → Int32 → Int32) (pc : Nat) (lv : ZL) (st : List Value) (hp : List ZE) (nc ns : Nat) (ret : ZRt) : ZX := match st with
  | y :: x :: st' => zI E x (fun a => zI E y (fun b => zi (f a b) (fun z => ret (pc + 1) lv (.int z :: st') hp nc ns)))
  | _ => zfail
theorem zs_bin {f : Int32 → Int32 → Int32} (hE : zen E g) (hrow : ∀ (a b : Int32) (H : Heap) (locs : List Loc) (ls : Array Slot) (cst : List Value), W p l e R s m args below meth c H locs nc ns Q (F0 m (pc + 1) ls (.int (f a b) :: cst)) → W p l e R s m args below meth c H locs nc ns Q (F0 m pc ls (.int b :: .int a :: cst))) (h : zx_bin E f pc lv st hp nc ns ret = .ok r) (Hk : ∀ (pc : Nat) (lv : ZL) (st : List Value) (hp : List ZE) (nc ns : Nat), ret pc lv st hp nc ns = .ok r → zW p l e R s m args below meth c Q dC dI cA g A nL pc lv st hp nc ns) : zW p l e R s m args below meth c Q dC dI cA g A nL pc lv st hp nc ns := by
  match st, h with
  | [], h => cases h
  | [_], h => cases h
  | y :: x :: st', h =>
    intro ws H locs ls clv cst ⟨r1, r2, r3, r4, r5, r6, r7⟩
    obtain ⟨cy, cr, rfl, h5, h6⟩ := zvs_cons r7
    obtain ⟨cx, cr, rfl, h7, h8⟩ := zvs_cons h6
    simp only [zx_bin] at h
    obtain ⟨a, rfl, h⟩ := zI_ok hE h7 h
    obtain ⟨b, rfl, h⟩ := zI_ok hE h5 h
    rw [zi_eq] at h
    exact hrow _ _ _ _ _ _ (Hk _ _ _ _ _ _ h ws H locs ls clv _ ⟨r1, r2, r3, r4, r5, r6, rfl, h8⟩)
noncomputable def zx_div (E : ZN) (f : Int32 → Int32 → Int32) (pc : Nat) (lv : ZL) (st : List Value) (hp : List ZE) (nc ns : Nat) (ret : ZRt) : ZX := match st with
  | y :: x :: st' => zI E x (fun a => zI E y (fun b => cond (decide (b = 0)) zfail (zi (f a b) (fun z => ret (pc + 1) lv (.int z :: st') hp nc ns))))
  | _ => zfail
theorem zs_div {f : Int32 → Int32 → Int32} (hE : zen E g) (hrow : ∀ (a b : Int32) (H : Heap) (locs : List Loc) (ls : Array Slot) (cst : List Value), ¬ b = 0 → W p l e R s m args below meth c H locs nc ns Q (F0 m (pc + 1) ls (.int (f a b) :: cst)) → W p l e R s m args below meth c H locs nc ns Q (F0 m pc ls (.int b :: .int a :: cst))) (h : zx_div E f pc lv st hp nc ns ret = .ok r) (Hk : ∀ (pc : Nat) (lv : ZL) (st : List Value) (hp : List ZE) (nc ns : Nat), ret pc lv st hp nc ns = .ok r → zW p l e R s m args below meth c Q dC dI cA g A nL pc lv st hp nc ns) : zW p l e R s m args below meth c Q dC dI cA g A nL pc lv st hp nc ns := by
  match st, h with
  | [], h => cases h
  | [_], h => cases h
  | y :: x :: st', h =>
    intro ws H locs ls clv cst ⟨r1, r2, r3, r4, r5, r6, r7⟩
    obtain ⟨cy, cr, rfl, h5, h6⟩ := zvs_cons r7
    obtain ⟨cx, cr, rfl, h7, h8⟩ := zvs_cons h6
    simp only [zx_div] at h
    obtain ⟨a, rfl, h⟩ := zI_ok hE h7 h
    obtain ⟨b, rfl, h⟩ := zI_ok hE h5 h
    by_cases hb0 : b = 0
    · rw [decide_eq_true hb0] at h
      cases h
    · rw [decide_eq_false hb0, cond_false, zi_eq] at h
      exact hrow _ _ _ _ _ _ hb0 (Hk _ _ _ _ _ _ h ws H locs ls clv _ ⟨r1, r2, r3, r4, r5, r6, rfl, h8⟩)
/-- the law's own 'script[0] & 31' is token 7 -/
def zis (x y : Value) : Bool := match x, y with
  | .retAddr t, .int b => Nat.beq t 0 && decide (b = 31)
  | _, _ => false
noncomputable def zx_and (E : ZN) (pc : Nat) (lv : ZL) (st : List Value) (hp : List ZE) (nc ns : Nat) (ret : ZRt) : ZX := match st with
  | y :: x :: st' => cond (zis x y) (ret (pc + 1) lv (.retAddr 7 :: st') hp nc ns) (zx_bin E (fun a b => a &&& b) pc lv (y :: x :: st') hp nc ns ret)
  | _ => zfail
theorem zs_and (hx : p.tables.exec = Jvm.exec) (hb : c.code = cc) (hE : zen E g) (hg : g.1 7 = g.1 0 &&& 31) (hdg : decode cc pc = .ok (.iand, 1)) (h : zx_and E pc lv st hp nc ns ret = .ok r) (Hk : ∀ (pc : Nat) (lv : ZL) (st : List Value) (hp : List ZE) (nc ns : Nat), ret pc lv st hp nc ns = .ok r → zW p l e R s m args below meth c Q dC dI cA g A nL pc lv st hp nc ns) : zW p l e R s m args below meth c Q dC dI cA g A nL pc lv st hp nc ns := by
  match st, h with
  | [], h => cases h
  | [_], h => cases h
  | y :: x :: st', h =>
    simp only [zx_and] at h
    cases hz : zis x y with
    | false =>
      rw [hz, cond_false] at h
      exact zs_bin hE (fun a b H locs ls cst k => lv_iand hx hb hdg k) h Hk
    | true =>
      rw [hz, cond_true] at h
      intro ws H locs ls clv cst ⟨r1, r2, r3, r4, r5, r6, r7⟩
      obtain ⟨cy, cr, rfl, h5, h6⟩ := zvs_cons r7
      obtain ⟨cx, cr, rfl, h7, h8⟩ := zvs_cons h6
      cases x with
      | retAddr t =>
        cases y with
        | int b =>
          have hz2 : (Nat.beq t 0 && decide (b = 31)) = true := hz
          rw [Bool.and_eq_true] at hz2
          have ht := Nat.beq_eq.mp hz2.1
          have hb31 := of_decide_eq_true hz2.2
          cases (show cx = _ from h7)
          cases (show cy = _ from h5)
          subst ht
          subst hb31
          refine lv_iand hx hb hdg ?_
          rw [← hg]
          exact Hk _ _ _ _ _ _ h ws H locs ls clv _ ⟨r1, r2, r3, r4, r5, r6, rfl, h8⟩
        | _ => cases hz
      | _ => cases hz
/-- jumps -/
noncomputable def zj (pc : Nat) (off : Int) (k : Nat → ZX) : ZX := cond (decide (0 ≤ (pc : Int) + off)) (zn ((pc : Int) + off).toNat k) zfail
theorem zj_ok {off : Int} {k : Nat → ZX} (h : zj pc off k = .ok r) : ∃ tgt : Nat, (pc : Int) + off = (tgt : Int) ∧ k tgt = .ok r := by
  unfold zj at h
  by_cases hc : 0 ≤ (pc : Int) + off
  · rw [decide_eq_true hc, cond_true, zn_eq] at h
    exact ⟨_, by omega, h⟩
  · rw [decide_eq_false hc] at h
    cases h
theorem zs_goto (hx : p.tables.exec = Jvm.exec) (hb : c.code = cc) {off : Int} (hdg : decode cc pc = .ok (.goto off, 3)) (h : zj pc off (fun t => ret t lv st hp nc ns) = .ok r) (Hk : ∀ (pc : Nat) (lv : ZL) (st : List Value) (hp : List ZE) (nc ns : Nat), ret pc lv st hp nc ns = .ok r → zW p l e R s m args below meth c Q dC dI cA g A nL pc lv st hp nc ns) : zW p l e R s m args below meth c Q dC dI cA g A nL pc lv st hp nc ns := by
  obtain ⟨tgt, h1, h2⟩ := zj_ok h
  intro ws H locs ls clv cst ⟨r1, r2, r3, r4, r5, r6, r7⟩
  exact lv_goto hx hb hdg h1 (Hk _ _ _ _ _ _ h2 ws H locs ls clv _ ⟨r1, r2, r3, r4, r5, r6, r7⟩)
theorem zw_icmp (hx : p.tables.exec = Jvm.exec) (hb : c.code = cc) {op : ClassFile.Cond} {off : Int} {tgt : Nat} {H : Heap} {locs : List Loc} {ls : Array Slot} {rest : List Value} {x y : Int32} (hdg : decode cc pc = .ok (.if_icmp op off, 3)) (ht : (pc : Int) + off = (tgt : Int))
    (kt : zro op x.toInt y.toInt = true → W p l e R s m args below meth c H locs nc ns Q (F0 m tgt ls rest)) (kf : zro op x.toInt y.toInt = false → W p l e R s m args below meth c H locs nc ns Q (F0 m (pc + 3) ls rest)) : W p l e R s m args below meth c H locs nc ns Q (F0 m pc ls (.int y :: .int x :: rest)) := by
  have e1 : x = y ↔ x.toInt = y.toInt := Int32.toInt_inj.symm
  have e2 : x < y ↔ x.toInt < y.toInt := Int32.lt_iff_toInt_lt
  have e3 : x ≤ y ↔ x.toInt ≤ y.toInt := Int32.le_iff_toInt_le
  have e4 : y < x ↔ y.toInt < x.toInt := Int32.lt_iff_toInt_lt
  have e5 : y ≤ x ↔ y.toInt ≤ x.toInt := Int32.le_iff_toInt_le
  cases op with
  | eq => exact lv_icmp_eq hx hb hdg ht (fun q => kt (by simp [zro, e1.mp q])) (fun q => kf (by simp only [zro]; exact decide_eq_false (fun z => q (e1.mpr z))))
  | ne => exact lv_icmp_ne hx hb hdg ht (fun q => kt (by simp only [zro]; rw [decide_eq_false (fun z => q (e1.mpr z))]; rfl)) (fun q => kf (by simp only [zro]; rw [decide_eq_true (e1.mp q)]; rfl))
  | lt => exact lv_icmp_lt hx hb hdg ht (fun q => kt (by simp only [zro]; exact decide_eq_true (e2.mp q))) (fun q => kf (by simp only [zro]; exact decide_eq_false (fun z => q (e2.mpr z))))
  | ge => exact lv_icmp_ge hx hb hdg ht (fun q => kt (by simp only [zro]; rw [decide_eq_false (by have := e5.mp q; omega)]; rfl)) (fun q => kf (by simp only [zro]; rw [decide_eq_true (by have : ¬ y.toInt ≤ x.toInt := fun z => q (e5.mpr z); omega)]; rfl))
  | gt => exact lv_icmp_gt hx hb hdg ht (fun q => kt (by simp only [zro]; rw [decide_eq_false (by have := e4.mp q; omega)]; rfl)) (fun q => kf (by simp only [zro]; rw [decide_eq_true (by have : ¬ y.toInt < x.toInt := fun z => q (e4.mpr z); omega)]; rfl))
  | le => exact lv_icmp_le hx hb hdg ht (fun q => kt (by simp only [zro]; exact decide_eq_true (by have := e3.mp q; omega))) (fun q => kf (by simp only [zro]; exact decide_eq_false (by have : ¬ x.toInt ≤ y.toInt := fun z => q (e3.mpr z); omega)))
theorem zw_if (hx : p.tables.exec = Jvm.exec) (hb : c.code = cc) {op : ClassFile.Cond} {off : Int} {tgt : Nat} {H : Heap} {locs : List Loc} {ls : Array Slot} {rest : List Value} {x : Int32} (hdg : decode cc pc = .ok (.ifCond op off, 3)) (ht : (pc : Int) + off = (tgt : Int))
    (kt : zro op x.toInt (0 : Int32).toInt = true → W p l e R s m args below meth c H locs nc ns Q (F0 m tgt ls rest)) (kf : zro op x.toInt (0 : Int32).toInt = false → W p l e R s m args below meth c H locs nc ns Q (F0 m (pc + 3) ls rest)) : W p l e R s m args below meth c H locs nc ns Q (F0 m pc ls (.int x :: rest)) := by
  obtain ⟨y, hy⟩ : ∃ y : Int32, y = 0 := ⟨0, rfl⟩
  rw [← hy] at kt kf
  have e1 : x = y ↔ x.toInt = y.toInt := Int32.toInt_inj.symm
  have e2 : x < y ↔ x.toInt < y.toInt := Int32.lt_iff_toInt_lt
  have e3 : x ≤ y ↔ x.toInt ≤ y.toInt := Int32.le_iff_toInt_le
  have e4 : y < x ↔ y.toInt < x.toInt := Int32.lt_iff_toInt_lt
  have e5 : y ≤ x ↔ y.toInt ≤ x.toInt := Int32.le_iff_toInt_le
  cases op with
  | eq => exact lv_if_eq hx hb hdg ht (fun q => kt (by rw [← hy] at q; simp [zro, e1.mp q])) (fun q => kf (by rw [← hy] at q; simp only [zro]; exact decide_eq_false (fun z => q (e1.mpr z))))
  | ne => exact lv_if_ne hx hb hdg ht (fun q => kt (by rw [← hy] at q; simp only [zro]; rw [decide_eq_false (fun z => q (e1.mpr z))]; rfl)) (fun q => kf (by rw [← hy] at q; simp only [zro]; rw [decide_eq_true (e1.mp q)]; rfl))
  | lt => exact lv_if_lt hx hb hdg ht (fun q => kt (by rw [← hy] at q; simp only [zro]; exact decide_eq_true (e2.mp q))) (fun q => kf (by rw [← hy] at q; simp only [zro]; exact decide_eq_false (fun z => q (e2.mpr z))))
  | ge => exact lv_if_ge hx hb hdg ht (fun q => kt (by rw [← hy] at q; simp only [zro]; rw [decide_eq_false (by have := e5.mp q; omega)]; rfl)) (fun q => kf (by rw [← hy] at q; simp only [zro]; rw [decide_eq_true (by have : ¬ y.toInt ≤ x.toInt := fun z => q (e5.mpr z); omega)]; rfl))
  | gt => exact lv_if_gt hx hb hdg ht (fun q => kt (by rw [← hy] at q; simp only [zro]; rw [decide_eq_false (by have := e4.mp q; omega)]; rfl)) (fun q => kf (by rw [← hy] at q; simp only [zro]; rw [decide_eq_true (by have : ¬ y.toInt < x.toInt := fun z => q (e4.mpr z); omega)]; rfl))
  | le => exact lv_if_le hx hb hdg ht (fun q => kt (by rw [← hy] at q; simp only [zro]; exact decide_eq_true (by have := e3.mp q; omega))) (fun q => kf (by rw [← hy] at q; simp only [zro]; exact decide_eq_false (by have : ¬ x.toInt ≤ y.toInt := fun z => q (e3.mpr z); omega)))
noncomputable def zx_icmp (E : ZN) (op : ClassFile.Cond) (off : Int) (pc : Nat) (lv : ZL) (st : List Value) (hp : List ZE) (nc ns : Nat) (ret : ZRt) : ZX := match st with
  | y :: x :: st' => zcmp E op x y (fun d => zj pc off (fun t => cond d (ret t lv st' hp nc ns) (ret (pc + 3) lv st' hp nc ns)))
  | _ => zfail
theorem zs_icmp (hx : p.tables.exec = Jvm.exec) (hb : c.code = cc) (hE : zen E g) {op : ClassFile.Cond} {off : Int} (hdg : decode cc pc = .ok (.if_icmp op off, 3)) (h : zx_icmp E op off pc lv st hp nc ns ret = .ok r) (Hk : ∀ (pc : Nat) (lv : ZL) (st : List Value) (hp : List ZE) (nc ns : Nat), ret pc lv st hp nc ns = .ok r → zW p l e R s m args below meth c Q dC dI cA g A nL pc lv st hp nc ns) : zW p l e R s m args below meth c Q dC dI cA g A nL pc lv st hp nc ns := by
  match st, h with
  | [], h => cases h
  | [_], h => cases h
  | y :: x :: st', h =>
    intro ws H locs ls clv cst ⟨r1, r2, r3, r4, r5, r6, r7⟩
    obtain ⟨cy, cr, rfl, h5, h6⟩ := zvs_cons r7
    obtain ⟨cx, cr, rfl, h7, h8⟩ := zvs_cons h6
    simp only [zx_icmp] at h
    obtain ⟨a, b, rfl, rfl, h⟩ := zcmp_ok hE h7 h5 h
    obtain ⟨tgt, ht, h⟩ := zj_ok h
    refine zw_icmp hx hb hdg ht (fun q => ?_) (fun q => ?_)
    · rw [q, cond_true] at h
      exact Hk _ _ _ _ _ _ h ws H locs ls clv _ ⟨r1, r2, r3, r4, r5, r6, h8⟩
    · rw [q, cond_false] at h
      exact Hk _ _ _ _ _ _ h ws H locs ls clv _ ⟨r1, r2, r3, r4, r5, r6, h8⟩
noncomputable def zx_if (E : ZN) (op : ClassFile.Cond) (off : Int) (pc : Nat) (lv : ZL) (st : List Value) (hp : List ZE) (nc ns : Nat) (ret : ZRt) : ZX := match st with
  | x :: st' => zcmp E op x (.int 0) (fun d => zj pc off (fun t => cond d (ret t lv st' hp nc ns) (ret (pc + 3) lv st' hp nc ns)))
  | _ => zfail
theorem zs_if (hx : p.tables.exec = Jvm.exec) (hb : c.code = cc) (hE : zen E g) {op : ClassFile.Cond} {off : Int} (hdg : decode cc pc = .ok (.ifCond op off, 3)) (h : zx_if E op off pc lv st hp nc ns ret = .ok r) (Hk : ∀ (pc : Nat) (lv : ZL) (st : List Value) (hp : List ZE) (nc ns : Nat), ret pc lv st hp nc ns = .ok r → zW p l e R s m args below meth c Q dC dI cA g A nL pc lv st hp nc ns) : zW p l e R s m args below meth c Q dC dI cA g A nL pc lv st hp nc ns := by
  match st, h with
  | [], h => cases h
  | x :: st', h =>
    intro ws H locs ls clv cst ⟨r1, r2, r3, r4, r5, r6, r7⟩
    obtain ⟨cx, cr, rfl, h7, h8⟩ := zvs_cons r7
    simp only [zx_if] at h
    obtain ⟨a, b, rfl, e0, h⟩ := zcmp_ok (ad := zad ws) (y := .int 0) (cy := .int 0) hE h7 (show zv (zad ws) g (.int 0) (.int 0) from rfl) h
    cases e0
    obtain ⟨tgt, ht, h⟩ := zj_ok h
    refine zw_if hx hb hdg ht (fun q => ?_) (fun q => ?_)
    · rw [q, cond_true] at h
      exact Hk _ _ _ _ _ _ h ws H locs ls clv _ ⟨r1, r2, r3, r4, r5, r6, h8⟩
    · rw [q, cond_false] at h
      exact Hk _ _ _ _ _ _ h ws H locs ls clv _ ⟨r1, r2, r3, r4, r5, r6, h8⟩
/-- the switch -/
noncomputable def zx_tsw (E : ZN) (dflt lo hi : Int) (offs : List Int) (pc : Nat) (lv : ZL) (st : List Value) (hp : List ZE) (nc ns : Nat) (ret : ZRt) : ZX := match st with
  | x :: st' => zrg E x (fun a b t => zlt a b lo t (fun d => cond d (zj pc dflt (fun q => ret q lv st' hp nc ns)) (zlt a b (hi + 1) t (fun d => cond d (zI E x (fun z => match zget offs (z.toInt - lo).toNat with
    | some off => zj pc off (fun q => ret q lv st' hp nc ns)
    | none => zfail)) (zj pc dflt (fun q => ret q lv st' hp nc ns))))))
  | _ => zfail
theorem zs_tsw (hx : p.tables.exec = Jvm.exec) (hb : c.code = cc) (hE : zen E g) {dflt lo hi : Int} {offs : Array Int} {len : Nat} (hdg : decode cc pc = .ok (.tableswitch dflt lo hi offs, len)) (h : zx_tsw E dflt lo hi offs.toList pc lv st hp nc ns ret = .ok r) (Hk : ∀ (pc : Nat) (lv : ZL) (st : List Value) (hp : List ZE) (nc ns : Nat), ret pc lv st hp nc ns = .ok r → zW p l e R s m args below meth c Q dC dI cA g A nL pc lv st hp nc ns) : zW p l e R s m args below meth c Q dC dI cA g A nL pc lv st hp nc ns := by
  match st, h with
  | [], h => cases h
  | x :: st', h =>
    intro ws H locs ls clv cst ⟨r1, r2, r3, r4, r5, r6, r7⟩
    obtain ⟨cx, cr, rfl, h7, h8⟩ := zvs_cons r7
    simp only [zx_tsw] at h
    obtain ⟨a, l0, h0, t, rfl, b1, b2, h⟩ := zrg_ok hE h7 h
    have h := zlt_ok b1 b2 h
    by_cases q1 : a.toInt < lo
    · rw [decide_eq_true q1, cond_true] at h
      obtain ⟨tgt, ht, h⟩ := zj_ok h
      exact lv_tableOut hx hb hdg (Or.inl q1) ht (Hk _ _ _ _ _ _ h ws H locs ls clv _ ⟨r1, r2, r3, r4, r5, r6, h8⟩)
    · rw [decide_eq_false q1, cond_false] at h
      have h := zlt_ok b1 b2 h
      by_cases q2 : a.toInt < hi + 1
      · rw [decide_eq_true q2, cond_true] at h
        obtain ⟨z, e1, h⟩ := zI_ok hE h7 h
        cases e1
        rw [zget_eq, Array.getElem?_toList] at h
        cases ho : offs[(a.toInt - lo).toNat]? with
        | none => simp only [ho] at h; cases h
        | some off =>
          simp only [ho] at h
          obtain ⟨tgt, ht, h⟩ := zj_ok h
          exact lv_tableIn hx hb hdg q1 (by omega) ho ht (Hk _ _ _ _ _ _ h ws H locs ls clv _ ⟨r1, r2, r3, r4, r5, r6, h8⟩)
      · rw [decide_eq_false q2, cond_false] at h
        obtain ⟨tgt, ht, h⟩ := zj_ok h
        exact lv_tableOut hx hb hdg (Or.inr (by omega)) ht (Hk _ _ _ _ _ _ h ws H locs ls clv _ ⟨r1, r2, r3, r4, r5, r6, h8⟩)
/-- the stack -/
noncomputable def zx_dup (pc : Nat) (lv : ZL) (st : List Value) (hp : List ZE) (nc ns : Nat) (ret : ZRt) : ZX := match st with
  | v :: st' => cond (Nat.beq v.category 1) (ret (pc + 1) lv (v :: v :: st') hp nc ns) zfail
  | _ => zfail
theorem zs_dup (hx : p.tables.exec = Jvm.exec) (hb : c.code = cc) (hdg : decode cc pc = .ok (.dup, 1)) (h : zx_dup pc lv st hp nc ns ret = .ok r) (Hk : ∀ (pc : Nat) (lv : ZL) (st : List Value) (hp : List ZE) (nc ns : Nat), ret pc lv st hp nc ns = .ok r → zW p l e R s m args below meth c Q dC dI cA g A nL pc lv st hp nc ns) : zW p l e R s m args below meth c Q dC dI cA g A nL pc lv st hp nc ns := by
  match st, h with
  | [], h => cases h
  | v :: st', h =>
    intro ws H locs ls clv cst ⟨r1, r2, r3, r4, r5, r6, r7⟩
    obtain ⟨cv, cr, rfl, h7, h8⟩ := zvs_cons r7
    simp only [zx_dup] at h
    cases hc : Nat.beq v.category 1 with
    | false => rw [hc] at h; cases h
    | true =>
      rw [hc, cond_true] at h
      exact lv_dup hx hb hdg ((zv_cat h7).trans (Nat.beq_eq.mp hc)) (Hk _ _ _ _ _ _ h ws H locs ls clv _ ⟨r1, r2, r3, r4, r5, r6, h7, h7, h8⟩)
noncomputable def zx_dup2 (pc : Nat) (lv : ZL) (st : List Value) (hp : List ZE) (nc ns : Nat) (ret : ZRt) : ZX := match st with
  | v :: w :: st' => cond (Nat.beq v.category 1 && Nat.beq w.category 1) (ret (pc + 1) lv (v :: w :: v :: w :: st') hp nc ns) zfail
  | _ => zfail
theorem zs_dup2 (hx : p.tables.exec = Jvm.exec) (hb : c.code = cc) (hdg : decode cc pc = .ok (.dup2, 1)) (h : zx_dup2 pc lv st hp nc ns ret = .ok r) (Hk : ∀ (pc : Nat) (lv : ZL) (st : List Value) (hp : List ZE) (nc ns : Nat), ret pc lv st hp nc ns = .ok r → zW p l e R s m args below meth c Q dC dI cA g A nL pc lv st hp nc ns) : zW p l e R s m args below meth c Q dC dI cA g A nL pc lv st hp nc ns := by
  match st, h with
  | [], h => cases h
  | [_], h => cases h
  | v :: w :: st', h =>
    intro ws H locs ls clv cst ⟨r1, r2, r3, r4, r5, r6, r7⟩
    obtain ⟨cv, cr, rfl, h7, h8⟩ := zvs_cons r7
    obtain ⟨cw, cr, rfl, h9, h10⟩ := zvs_cons h8
    simp only [zx_dup2] at h
    cases hc : (Nat.beq v.category 1 && Nat.beq w.category 1) with
    | false => rw [hc] at h; cases h
    | true =>
      rw [hc, cond_true] at h
      rw [Bool.and_eq_true] at hc
      exact lv_dup2_11 hx hb hdg ((zv_cat h7).trans (Nat.beq_eq.mp hc.1)) ((zv_cat h9).trans (Nat.beq_eq.mp hc.2)) (Hk _ _ _ _ _ _ h ws H locs ls clv _ ⟨r1, r2, r3, r4, r5, r6, h7, h9, h7, h9, h10⟩)
noncomputable def zx_pop (pc : Nat) (lv : ZL) (st : List Value) (hp : List ZE) (nc ns : Nat) (ret : ZRt) : ZX := match st with
  | v :: st' => cond (Nat.beq v.category 1) (ret (pc + 1) lv st' hp nc ns) zfail
  | _ => zfail
theorem zs_pop (hx : p.tables.exec = Jvm.exec) (hb : c.code = cc) (hdg : decode cc pc = .ok (.pop, 1)) (h : zx_pop pc lv st hp nc ns ret = .ok r) (Hk : ∀ (pc : Nat) (lv : ZL) (st : List Value) (hp : List ZE) (nc ns : Nat), ret pc lv st hp nc ns = .ok r → zW p l e R s m args below meth c Q dC dI cA g A nL pc lv st hp nc ns) : zW p l e R s m args below meth c Q dC dI cA g A nL pc lv st hp nc ns := by
  match st, h with
  | [], h => cases h
  | v :: st', h =>
    intro ws H locs ls clv cst ⟨r1, r2, r3, r4, r5, r6, r7⟩
    obtain ⟨cv, cr, rfl, h7, h8⟩ := zvs_cons r7
    simp only [zx_pop] at h
    cases hc : Nat.beq v.category 1 with
    | false => rw [hc] at h; cases h
    | true =>
      rw [hc, cond_true] at h
      exact lv_pop hx hb hdg ((zv_cat h7).trans (Nat.beq_eq.mp hc)) (Hk _ _ _ _ _ _ h ws H locs ls clv _ ⟨r1, r2, r3, r4, r5, r6, h8⟩)
end ZST
end
section
/-! steps on cells -/
def zin (i : Nat) (w : Cond) : Bool := decide (lw_tbl[i]? = some w) && goodWord w
theorem zin_ok {i : Nat} {w : Cond} (h : zin i w = true) : w ∈ zT := by
  unfold zin at h
  rw [Bool.and_eq_true] at h
  exact List.mem_filter.mpr ⟨List.mem_of_getElem? (of_decide_eq_true h.1), h.2⟩
/-- words that a warm-up may move: links between nest mates; rows over two classes -/
def znst (w : Cond) : Bool := match w with
  | .methodLinkNest _ _ _ _ => true
  | _ => false
def zNl : List Cond := lw_tbl.filter znst
def zinN (i : Nat) (w : Cond) : Bool := decide (lw_tbl[i]? = some w) && znst w
theorem zinN_ok {i : Nat} {w : Cond} (h : zinN i w = true) : w ∈ zNl := by
  unfold zinN at h
  rw [Bool.and_eq_true] at h
  exact List.mem_filter.mpr ⟨List.mem_of_getElem? (of_decide_eq_true h.1), h.2⟩
def zX (U : State) : Prop := (∀ w ∈ zNl, va_Nw w U) ∧ va_AO "NamesUnder$Wall" U ∧ va_AO "NamesUnder$Order" U
theorem zX.warm {s U : State} (hW : s.WarmedH U.vm) (h : zX s) : zX U := by
  refine ⟨fun w hw => ?_, va_AO.moved hW.alike h.2.1, va_AO.moved hW.alike h.2.2⟩
  have h1 := h.1 w hw
  have h2 := (List.mem_filter.mp hw).2
  cases w with
  | methodLinkNest a i x b => exact va_Nw.warmM hW h1
  | _ => cases h2
theorem zX.same {s U : State} (hv : s.vm = U.vm) (h : zX s) : zX U := by
  have ha : s.vm.Alike U.vm := by rw [hv]; exact Vm.Alike.refl _
  refine ⟨fun w hw => ?_, va_AO.moved ha h.2.1, va_AO.moved ha h.2.2⟩
  have h1 := h.1 w hw
  have h2 := (List.mem_filter.mp hw).2
  cases w with
  | methodLinkNest a i x b => exact va_Nw.same rfl hv h1
  | _ => cases h2
def zchk : List Cond → List Nat → Bool
  | [], _ => true
  | w :: ws, i :: is => zin i w && zchk ws is
  | _ :: _, [] => false
theorem zchk_ok {ws : List Cond} : ∀ {is : List Nat}, zchk ws is = true → ∀ w ∈ ws, w ∈ zT := by
  induction ws with
  | nil => exact fun _ w h => absurd h List.not_mem_nil
  | cons v ws ih =>
    intro is h w hw
    cases is with
    | nil => cases h
    | cons i is =>
      have h2 : (zin i v && zchk ws is) = true := h
      rw [Bool.and_eq_true] at h2
      rcases List.mem_cons.mp hw with rfl | h3
      · exact zin_ok h2.1
      · exact ih h2.2 w h3
theorem zra_eq {U : State} {c1 c2 : ClassId} {ty : FieldType} (h1 : va_RA U c1 ty) (h2 : va_RA U c2 ty) : c1 = c2 := by
  cases ty with
  | object C =>
    obtain ⟨_, _, _, _, _, e1⟩ := h1
    obtain ⟨_, _, _, _, _, e2⟩ := h2
    exact Option.some.inj (e1.symm.trans e2)
  | _ => exact Option.some.inj ((show U.vm.findClass _ = some c1 from h1).symm.trans (show U.vm.findClass _ = some c2 from h2))
def zix (a : Int32) (n : Nat) : Bool := decide (0 ≤ a.toInt) && decide (a.toInt < (n : Int))
theorem zix_ok {a : Int32} {n : Nat} (h : zix a n = true) : vp_in a n := by
  unfold zix at h
  rw [Bool.and_eq_true] at h
  exact vp_in_iff.mpr ⟨of_decide_eq_true h.1, of_decide_eq_true h.2⟩
noncomputable def zek {α : Type} (t : Nat) (us : ZL) (j : Nat) (k : Value → α) : α := match zlk us j with
  | some v => k v
  | none => k (zdv t)
theorem zek_eq {α : Type} (t : Nat) (us : ZL) (j : Nat) (k : Value → α) : zek t us j k = k (zel t us j) := by
  unfold zek zel
  cases zlk us j <;> rfl
noncomputable def zup {α : Type} (us : ZL) (j : Nat) (v : Value) (k : ZL → α) : α := zn j (fun j => zfl (zdrop us j) (fun lr => k ((j, v) :: lr)))
theorem zup_eq {α : Type} (us : ZL) (j : Nat) (v : Value) (k : ZL → α) : zup us j v k = k ((j, v) :: zdrop us j) := by
  unfold zup
  rw [zn_eq, zfl_eq]
theorem zobj {ad : List Nat} {g : ZG} {cA : Nat → ClassId} {x : Nat × List Value} {w : va_E} (h : ze ad g cA (.inr x) w) : ∃ gs, w = .inr (x.1, gs) ∧ zvs ad g x.2 gs := h
theorem zarr {ad : List Nat} {g : ZG} {cA : Nat → ClassId} {x : Nat × Nat × ZL} {w : va_E} (h : ze ad g cA (.inl x) w) : ∃ arr, w = .inl (cA x.1, x.2.1, arr) ∧ za ad g x.1 x.2.2 arr := h
def zkd (kd : Nat) (w : Value) : Bool := match kd with
  | 0 => zint w
  | 1 => (match w with
    | .int x => decide (x = 0) || decide (x = 1)
    | _ => false)
  | _ => (match w with
    | .ref _ => true
    | _ => false)
def zkt (kd : Nat) (ty : FieldType) : Bool := match kd, ty with
  | 0, .int => true
  | 1, .boolean => true
  | 2, .object _ => true
  | 2, .array _ => true
  | _, _ => false
theorem zkd_ok {ad : List Nat} {g : ZG} {kd : Nat} {ty : FieldType} {w cw : Value} (h : zkd kd w = true) (ht : zkt kd ty = true) (hv : zv ad g w cw) : narrow ty cw = cw ∧ fits ty cw = true := by
  match kd, h, ht with
  | 0, h, ht =>
    obtain ⟨x, rfl⟩ := zint_ok (show zint w = true from h) hv
    cases ty with
    | int => exact ⟨rfl, rfl⟩
    | _ => cases ht
  | 1, h, ht =>
    cases w with
    | int x =>
      cases (show cw = _ from hv)
      have h2 : (decide (x = 0) || decide (x = 1)) = true := h
      rw [Bool.or_eq_true] at h2
      cases ty with
      | boolean =>
        rcases h2 with h2 | h2
        · cases of_decide_eq_true h2
          exact ⟨rfl, rfl⟩
        · cases of_decide_eq_true h2
          exact ⟨rfl, rfl⟩
      | _ => cases ht
    | _ => cases h
  | 2, h, ht =>
    cases w with
    | ref q =>
      obtain ⟨a, -, rfl⟩ := hv
      cases ty with
      | object C => exact ⟨rfl, rfl⟩
      | array C => exact ⟨rfl, rfl⟩
      | _ => cases ht
    | _ => cases h
  | n + 3, h, ht => simp [zkt] at ht
theorem z13 : (1 : Nat) < 3 := by decide
theorem z23 : (2 : Nat) < 3 := by decide
theorem z34 : (3 : Nat) < 4 := by decide
theorem z35 : (3 : Nat) < 5 := by decide
section ZHP
variable {p : Program} {l : Launch} {e : Env} {R : Room} {s : State} {m : MethodId} {args : Array Value} {below : List Frame} {meth : Method} {c : Code} {Q : State → Prop} {dC : Nat → ClassId} {dI : Nat → Nat → Nat} {cA : Nat → ClassId} {g : ZG} {A : Nat → Prop} {nL : Nat} {cc : ByteArray} {pc : Nat} {lv : ZL} {st : List Value} {hp : List ZE} {nc ns : Nat} {ret : ZRt} {r : ZS} {E : ZN} {own : String}
noncomputable def zx_getf (ci f : Nat) (pc : Nat) (lv : ZL) (st : List Value) (hp : List ZE) (nc ns : Nat) (ret : ZRt) : ZX := match st with
  | v :: st' => zrf hp v (fun _ e => match e with
    | .inr x => cond (Nat.beq x.1 ci) (match zget x.2 f with
      | some w => ret (pc + 3) lv (w :: st') hp nc ns
      | none => zfail) zfail
    | .inl _ => zfail)
  | [] => zfail
theorem zs_getf (hx : p.tables.exec = Jvm.exec) (hb : c.code = cc) (hown : s.vm.findClass own = some m.cls) (hts : ∀ w ∈ zT, w.before args s = true) (hK : va_K (dC, dI) vwCl (ztys cA) s) {idx ci f N : Nat} {C : String} {T : u_T} (hin : ∀ w ∈ u_ws C T N, w ∈ zT) (hc : vwCl[ci]? = some (C, T, N)) (hf : f < N) (hlk : Cond.fieldLink own idx (T f).1 (T f).2.1 (T f).2.2.1 ∈ zT) (hdg : decode cc pc = .ok (.getfield idx, 3)) (h : zx_getf ci f pc lv st hp nc ns ret = .ok r) (Hk : ∀ (pc : Nat) (lv : ZL) (st : List Value) (hp : List ZE) (nc ns : Nat), ret pc lv st hp nc ns = .ok r → zW p l e R s m args below meth c Q dC dI cA g A nL pc lv st hp nc ns) : zW p l e R s m args below meth c Q dC dI cA g A nL pc lv st hp nc ns := by
  match st, h with
  | [], h => cases h
  | v :: st', h =>
    intro ws H locs ls clv cst ⟨r1, r2, r3, r4, r5, r6, r7⟩
    obtain ⟨cv, cr, rfl, h7, h8⟩ := zvs_cons r7
    simp only [zx_getf] at h
    obtain ⟨q, e, a, w, rfl, hq, rfl, hw, hze, h⟩ := zrf_ok r1 h7 h
    cases e with
    | inl x => cases h
    | inr x =>
      simp only at h
      obtain ⟨gs, rfl, hgs⟩ := zobj hze
      cases hb1 : Nat.beq x.1 ci with
      | false => rw [hb1] at h; cases h
      | true =>
        rw [hb1, cond_true, zget_eq] at h
        have e1 := Nat.beq_eq.mp hb1
        cases hv : x.2[f]? with
        | none => simp only [hv] at h; cases h
        | some u =>
          simp only [hv] at h
          obtain ⟨cu, h9, h10⟩ := zvs_get hgs hv
          rw [e1] at hw
          exact va_get hx hb hts hin hown hK r2 q hw hc f hf (hts _ hlk) (fun _ z => z) h9 hdg (Hk _ _ _ _ _ _ h ws H locs ls clv _ ⟨r1, r2, r3, r4, r5, r6, h10, h8⟩)
noncomputable def zx_putf (ci f kd : Nat) (pc : Nat) (lv : ZL) (st : List Value) (hp : List ZE) (nc ns : Nat) (ret : ZRt) : ZX := match st with
  | w :: v :: st' => zrf hp v (fun q e => match e with
    | .inr x => cond (Nat.beq x.1 ci && zkd kd w) (match zget x.2 f with
      | some _ => zsk x.2 w f (fun fs => zsk hp (.inr (ci, fs)) q (fun hp' => ret (pc + 3) lv st' hp' nc ns))
      | none => zfail) zfail
    | .inl _ => zfail)
  | _ => zfail
theorem zx_putf_ok {ci f kd : Nat} {w v : Value} {st' : List Value} {ws : va_W} {cv : Value} (r1 : zh g cA hp ws) (h7 : zv (zad ws) g v cv) (h : zx_putf ci f kd pc lv (w :: v :: st') hp nc ns ret = .ok r) : ∃ (q a : Nat) (fs gs : List Value), cv = .ref a ∧ ws[q]? = some (a, .inr (ci, gs)) ∧ zvs (zad ws) g fs gs ∧ zkd kd w = true ∧ f < gs.length ∧ ret (pc + 3) lv st' (hp.set q (.inr (ci, fs.set f w))) nc ns = .ok r := by
  simp only [zx_putf] at h
  obtain ⟨q, e, a, w2, rfl, hq, rfl, hw, hze, h⟩ := zrf_ok r1 h7 h
  cases e with
  | inl x => cases h
  | inr x =>
    simp only at h
    obtain ⟨gs, rfl, hgs⟩ := zobj hze
    cases hb1 : (Nat.beq x.1 ci && zkd kd w) with
    | false => rw [hb1] at h; cases h
    | true =>
      rw [hb1, cond_true, zget_eq] at h
      rw [Bool.and_eq_true] at hb1
      have e1 := Nat.beq_eq.mp hb1.1
      cases hv : x.2[f]? with
      | none => simp only [hv] at h; cases h
      | some u =>
        simp only [hv] at h
        rw [zsk_eq, zsk_eq] at h
        rw [e1] at hw
        obtain ⟨cu, h9, -⟩ := zvs_get hgs hv
        exact ⟨q, a, x.2, gs, rfl, hw, hgs, hb1.2, (List.getElem?_eq_some_iff.mp h9).1, h⟩
theorem zs_putf (hx : p.tables.exec = Jvm.exec) (hb : c.code = cc) (hown : s.vm.findClass own = some m.cls) (hts : ∀ w ∈ zT, w.before args s = true) (hK : va_K (dC, dI) vwCl (ztys cA) s) {idx ci f kd N : Nat} {C : String} {T : u_T} {ty0 : Nat → FieldType} {ty : FieldType} (hin : ∀ w ∈ u_ws C T N, w ∈ zT) (hty : ∀ k, k < N → parseFieldDescriptor (T k).2.2.1 = some (ty0 k)) (hnm : ∀ a, a < N → ∀ b, b < N → a ≠ b → (T a).2.1 ≠ (T b).2.1) (hc : vwCl[ci]? = some (C, T, N)) (hf : f < N) (hlk : Cond.fieldLink own idx (T f).1 (T f).2.1 (T f).2.2.1 ∈ zT) (hfin : (T f).2.2.2 = false) (hd : parseFieldDescriptor (T f).2.2.1 = some ty) (hkt : zkt kd ty = true) (hdg : decode cc pc = .ok (.putfield idx, 3)) (h : zx_putf ci f kd pc lv st hp nc ns ret = .ok r) (Hk : ∀ (pc : Nat) (lv : ZL) (st : List Value) (hp : List ZE) (nc ns : Nat), ret pc lv st hp nc ns = .ok r → zW p l e R s m args below meth c Q dC dI cA g A nL pc lv st hp nc ns) : zW p l e R s m args below meth c Q dC dI cA g A nL pc lv st hp nc ns := by
  match st, h with
  | [], h => cases h
  | [_], h => cases h
  | w :: v :: st', h =>
    intro ws H locs ls clv cst ⟨r1, r2, r3, r4, r5, r6, r7⟩
    obtain ⟨cw, cr, rfl, h5, h6⟩ := zvs_cons r7
    obtain ⟨cv, cr, rfl, h7, h8⟩ := zvs_cons h6
    obtain ⟨q, a, fs, gs, rfl, hw, hgs, hkd, hlen, h⟩ := zx_putf_ok r1 h7 h
    obtain ⟨hn, hfit⟩ := zkd_ok hkd hkt h5
    refine va_put hx hb hts hin ty0 hty hnm hown hK r2 r3 r4 q hw hc f hf (hts _ hlk) (fun _ z => z) hfin hd hn hfit hlen hdg (fun H1 locs1 p1 p2 p3 => ?_)
    refine Hk _ _ _ _ _ _ h _ H1 locs1 ls clv _ ⟨zh_set r1 hw ⟨gs.set f cw, rfl, zvs_set h5 hgs f⟩, p1, p2, p3, r5, ?_, ?_⟩
    · rw [zad_set hw]; exact r6
    · rw [zad_set hw]; exact h8
theorem zs_putF (hx : p.tables.exec = Jvm.exec) (hb : c.code = cc) (hown : s.vm.findClass own = some m.cls) (hts : ∀ w ∈ zT, w.before args s = true) (hK : va_K (dC, dI) vwCl (ztys cA) s) {idx ci f kd N : Nat} {C : String} {T : u_T} {ty0 : Nat → FieldType} {ty : FieldType} (hin : ∀ w ∈ u_ws C T N, w ∈ zT) (hty : ∀ k, k < N → parseFieldDescriptor (T k).2.2.1 = some (ty0 k)) (hnm : ∀ a, a < N → ∀ b, b < N → a ≠ b → (T a).2.1 ≠ (T b).2.1) (hc : vwCl[ci]? = some (C, T, N)) (hf : f < N) (hlk : Cond.fieldLink own idx (T f).1 (T f).2.1 (T f).2.2.1 ∈ zT) (hfin : (T f).2.2.2 = true) (hi : meth.name = "<init>") (hdecl : (T f).1 = own) (hd : parseFieldDescriptor (T f).2.2.1 = some ty) (hkt : zkt kd ty = true) (hdg : decode cc pc = .ok (.putfield idx, 3)) (h : zx_putf ci f kd pc lv st hp nc ns ret = .ok r) (Hk : ∀ (pc : Nat) (lv : ZL) (st : List Value) (hp : List ZE) (nc ns : Nat), ret pc lv st hp nc ns = .ok r → zW p l e R s m args below meth c Q dC dI cA g A nL pc lv st hp nc ns) : zW p l e R s m args below meth c Q dC dI cA g A nL pc lv st hp nc ns := by
  match st, h with
  | [], h => cases h
  | [_], h => cases h
  | w :: v :: st', h =>
    intro ws H locs ls clv cst ⟨r1, r2, r3, r4, r5, r6, r7⟩
    obtain ⟨cw, cr, rfl, h5, h6⟩ := zvs_cons r7
    obtain ⟨cv, cr, rfl, h7, h8⟩ := zvs_cons h6
    obtain ⟨q, a, fs, gs, rfl, hw, hgs, hkd, hlen, h⟩ := zx_putf_ok r1 h7 h
    obtain ⟨hn, hfit⟩ := zkd_ok hkd hkt h5
    refine va_putF hx hb hts hin ty0 hty hnm hown hK r2 r3 r4 q hw hc f hf (hts _ hlk) (fun _ z => z) hfin hi hdecl hd hn hfit hlen hdg (fun H1 locs1 p1 p2 p3 => ?_)
    refine Hk _ _ _ _ _ _ h _ H1 locs1 ls clv _ ⟨zh_set r1 hw ⟨gs.set f cw, rfl, zvs_set h5 hgs f⟩, p1, p2, p3, r5, ?_, ?_⟩
    · rw [zad_set hw]; exact r6
    · rw [zad_set hw]; exact h8
/-- arrays read -/
noncomputable def zx_ald (E : ZN) (ok : Nat → Bool) (pc : Nat) (lv : ZL) (st : List Value) (hp : List ZE) (nc ns : Nat) (ret : ZRt) : ZX := match st with
  | j :: v :: st' => zrf hp v (fun _ e => match e with
    | .inl x => cond (ok x.1) (zI E j (fun a => cond (zix a x.2.1) (zek x.1 x.2.2 a.toNatClampNeg (fun w => ret (pc + 1) lv (w :: st') hp nc ns)) zfail)) zfail
    | .inr _ => zfail)
  | _ => zfail
theorem zx_ald_ok {ok : Nat → Bool} {j v : Value} {st' : List Value} {ws : va_W} {cj cv : Value} (hE : zen E g) (r1 : zh g cA hp ws) (h5 : zv (zad ws) g j cj) (h7 : zv (zad ws) g v cv) (h : zx_ald E ok pc lv (j :: v :: st') hp nc ns ret = .ok r) : ∃ (q a : Nat) (x : Nat × Nat × ZL) (w : va_E) (i : Int32), cv = .ref a ∧ cj = .int i ∧ ws[q]? = some (a, w) ∧ ze (zad ws) g cA (.inl x) w ∧ ok x.1 = true ∧ vp_in i x.2.1 ∧ ret (pc + 1) lv (zel x.1 x.2.2 i.toNatClampNeg :: st') hp nc ns = .ok r := by
  simp only [zx_ald] at h
  obtain ⟨q, e, a, w2, rfl, hq, rfl, hw, hze, h⟩ := zrf_ok r1 h7 h
  cases e with
  | inr x => cases h
  | inl x =>
    simp only at h
    cases ho : ok x.1 with
    | false => rw [ho] at h; cases h
    | true =>
      rw [ho, cond_true] at h
      obtain ⟨i, rfl, h⟩ := zI_ok hE h5 h
      cases hi : zix i x.2.1 with
      | false => rw [hi] at h; cases h
      | true =>
        rw [hi, cond_true, zek_eq] at h
        exact ⟨q, a, x, w2, i, rfl, rfl, hw, hze, ho, zix_ok hi, h⟩
theorem zs_iald (hx : p.tables.exec = Jvm.exec) (hb : c.code = cc) (hK : va_K (dC, dI) vwCl (ztys cA) s) (hE : zen E g) (hdg : decode cc pc = .ok (.iaload, 1)) (h : zx_ald E (fun t => Nat.beq t 0) pc lv st hp nc ns ret = .ok r) (Hk : ∀ (pc : Nat) (lv : ZL) (st : List Value) (hp : List ZE) (nc ns : Nat), ret pc lv st hp nc ns = .ok r → zW p l e R s m args below meth c Q dC dI cA g A nL pc lv st hp nc ns) : zW p l e R s m args below meth c Q dC dI cA g A nL pc lv st hp nc ns := by
  match st, h with
  | [], h => cases h
  | [_], h => cases h
  | j :: v :: st', h =>
    intro ws H locs ls clv cst ⟨r1, r2, r3, r4, r5, r6, r7⟩
    obtain ⟨cj, cr, rfl, h5, h6⟩ := zvs_cons r7
    obtain ⟨cv, cr, rfl, h7, h8⟩ := zvs_cons h6
    obtain ⟨q, a, ⟨t, n, us⟩, w, i, rfl, rfl, hw, hze, ho, hi, h⟩ := zx_ald_ok hE r1 h5 h7 h
    cases Nat.beq_eq.mp ho
    obtain ⟨arr, rfl, hza⟩ := zarr hze
    obtain ⟨f, rfl, hf⟩ := hza.1 (Nat.succ_pos 2)
    exact va_iald hx hb hK r2 q 0 hw rfl hi hdg (Hk _ _ _ _ _ _ h ws H locs ls clv _ ⟨r1, r2, r3, r4, r5, r6, hf _, h8⟩)
theorem zs_zald (hx : p.tables.exec = Jvm.exec) (hb : c.code = cc) (hK : va_K (dC, dI) vwCl (ztys cA) s) (hE : zen E g) (hdg : decode cc pc = .ok (.baload, 1)) (h : zx_ald E (fun t => Nat.beq t 1) pc lv st hp nc ns ret = .ok r) (Hk : ∀ (pc : Nat) (lv : ZL) (st : List Value) (hp : List ZE) (nc ns : Nat), ret pc lv st hp nc ns = .ok r → zW p l e R s m args below meth c Q dC dI cA g A nL pc lv st hp nc ns) : zW p l e R s m args below meth c Q dC dI cA g A nL pc lv st hp nc ns := by
  match st, h with
  | [], h => cases h
  | [_], h => cases h
  | j :: v :: st', h =>
    intro ws H locs ls clv cst ⟨r1, r2, r3, r4, r5, r6, r7⟩
    obtain ⟨cj, cr, rfl, h5, h6⟩ := zvs_cons r7
    obtain ⟨cv, cr, rfl, h7, h8⟩ := zvs_cons h6
    obtain ⟨q, a, ⟨t, n, us⟩, w, i, rfl, rfl, hw, hze, ho, hi, h⟩ := zx_ald_ok hE r1 h5 h7 h
    cases Nat.beq_eq.mp ho
    obtain ⟨arr, rfl, hza⟩ := zarr hze
    obtain ⟨f, rfl, hf⟩ := hza.1 z13
    exact va_zald hx hb hK r2 q 1 hw rfl hi hdg (Hk _ _ _ _ _ _ h ws H locs ls clv _ ⟨r1, r2, r3, r4, r5, r6, hf _, h8⟩)
theorem zs_cald (hx : p.tables.exec = Jvm.exec) (hb : c.code = cc) (hK : va_K (dC, dI) vwCl (ztys cA) s) (hE : zen E g) (hdg : decode cc pc = .ok (.caload, 1)) (h : zx_ald E (fun t => Nat.beq t 2) pc lv st hp nc ns ret = .ok r) (Hk : ∀ (pc : Nat) (lv : ZL) (st : List Value) (hp : List ZE) (nc ns : Nat), ret pc lv st hp nc ns = .ok r → zW p l e R s m args below meth c Q dC dI cA g A nL pc lv st hp nc ns) : zW p l e R s m args below meth c Q dC dI cA g A nL pc lv st hp nc ns := by
  match st, h with
  | [], h => cases h
  | [_], h => cases h
  | j :: v :: st', h =>
    intro ws H locs ls clv cst ⟨r1, r2, r3, r4, r5, r6, r7⟩
    obtain ⟨cj, cr, rfl, h5, h6⟩ := zvs_cons r7
    obtain ⟨cv, cr, rfl, h7, h8⟩ := zvs_cons h6
    obtain ⟨q, a, ⟨t, n, us⟩, w, i, rfl, rfl, hw, hze, ho, hi, h⟩ := zx_ald_ok hE r1 h5 h7 h
    cases Nat.beq_eq.mp ho
    obtain ⟨arr, rfl, hza⟩ := zarr hze
    obtain ⟨f, rfl, hf⟩ := hza.1 z23
    exact va_cald hx hb hK r2 q 2 hw rfl hi hdg (Hk _ _ _ _ _ _ h ws H locs ls clv _ ⟨r1, r2, r3, r4, r5, r6, hf _, h8⟩)
theorem zs_lald (hx : p.tables.exec = Jvm.exec) (hb : c.code = cc) (hK : va_K (dC, dI) vwCl (ztys cA) s) (hE : zen E g) (hdg : decode cc pc = .ok (.laload, 1)) (h : zx_ald E (fun t => Nat.beq t 3) pc lv st hp nc ns ret = .ok r) (Hk : ∀ (pc : Nat) (lv : ZL) (st : List Value) (hp : List ZE) (nc ns : Nat), ret pc lv st hp nc ns = .ok r → zW p l e R s m args below meth c Q dC dI cA g A nL pc lv st hp nc ns) : zW p l e R s m args below meth c Q dC dI cA g A nL pc lv st hp nc ns := by
  match st, h with
  | [], h => cases h
  | [_], h => cases h
  | j :: v :: st', h =>
    intro ws H locs ls clv cst ⟨r1, r2, r3, r4, r5, r6, r7⟩
    obtain ⟨cj, cr, rfl, h5, h6⟩ := zvs_cons r7
    obtain ⟨cv, cr, rfl, h7, h8⟩ := zvs_cons h6
    obtain ⟨q, a, ⟨t, n, us⟩, w, i, rfl, rfl, hw, hze, ho, hi, h⟩ := zx_ald_ok hE r1 h5 h7 h
    cases Nat.beq_eq.mp ho
    obtain ⟨arr, rfl, hza⟩ := zarr hze
    obtain ⟨f, rfl, hf⟩ := hza.2.1 rfl
    refine va_lald hx hb hK r2 q 3 hw rfl hi hdg (Hk _ _ _ _ _ _ h ws H locs ls clv _ ⟨r1, r2, r3, r4, r5, r6, ?_, h8⟩)
    rw [hf i.toNatClampNeg]
    rfl
theorem zs_aald (hx : p.tables.exec = Jvm.exec) (hb : c.code = cc) (hK : va_K (dC, dI) vwCl (ztys cA) s) (hE : zen E g) (hdg : decode cc pc = .ok (.aaload, 1)) (h : zx_ald E (fun t => Nat.beq t 4 || Nat.beq t 5) pc lv st hp nc ns ret = .ok r) (Hk : ∀ (pc : Nat) (lv : ZL) (st : List Value) (hp : List ZE) (nc ns : Nat), ret pc lv st hp nc ns = .ok r → zW p l e R s m args below meth c Q dC dI cA g A nL pc lv st hp nc ns) : zW p l e R s m args below meth c Q dC dI cA g A nL pc lv st hp nc ns := by
  match st, h with
  | [], h => cases h
  | [_], h => cases h
  | j :: v :: st', h =>
    intro ws H locs ls clv cst ⟨r1, r2, r3, r4, r5, r6, r7⟩
    obtain ⟨cj, cr, rfl, h5, h6⟩ := zvs_cons r7
    obtain ⟨cv, cr, rfl, h7, h8⟩ := zvs_cons h6
    obtain ⟨q, a, ⟨t, n, us⟩, w, i, rfl, rfl, hw, hze, ho, hi, h⟩ := zx_ald_ok hE r1 h5 h7 h
    obtain ⟨arr, rfl, hza⟩ := zarr hze
    rw [Bool.or_eq_true] at ho
    rcases ho with ho | ho
    · cases Nat.beq_eq.mp ho
      obtain ⟨f, rfl, hf⟩ := hza.2.2 z34
      exact va_aldq hx hb hK r2 q 4 hw rfl hi hdg (Hk _ _ _ _ _ _ h ws H locs ls clv _ ⟨r1, r2, r3, r4, r5, r6, hf _, h8⟩)
    · cases Nat.beq_eq.mp ho
      obtain ⟨f, rfl, hf⟩ := hza.2.2 z35
      exact va_aldq hx hb hK r2 q 5 hw rfl hi hdg (Hk _ _ _ _ _ _ h ws H locs ls clv _ ⟨r1, r2, r3, r4, r5, r6, hf _, h8⟩)
/-- arrays written: 'f' says whether the value may be, and what is kept of it -/
noncomputable def zx_ast (E : ZN) (t0 : Nat) (f : Value → (Value → ZX) → ZX) (pc : Nat) (lv : ZL) (st : List Value) (hp : List ZE) (nc ns : Nat) (ret : ZRt) : ZX := match st with
  | x :: j :: v :: st' => f x (fun x => zrf hp v (fun q e => match e with
    | .inl y => cond (Nat.beq y.1 t0) (zI E j (fun a => cond (zix a y.2.1) (zup y.2.2 a.toNatClampNeg x (fun us => zsk hp (.inl (t0, y.2.1, us)) q (fun hp' => ret (pc + 1) lv st' hp' nc ns))) zfail)) zfail
    | .inr _ => zfail))
  | _ => zfail
theorem zx_ast_ok {t0 : Nat} {x j v : Value} {st' : List Value} {ws : va_W} {cj cv : Value} (hE : zen E g) (r1 : zh g cA hp ws) (h5 : zv (zad ws) g j cj) (h7 : zv (zad ws) g v cv)
    (h : zrf hp v (fun q e => match e with
    | .inl y => cond (Nat.beq y.1 t0) (zI E j (fun a => cond (zix a y.2.1) (zup y.2.2 a.toNatClampNeg x (fun us => zsk hp (.inl (t0, y.2.1, us)) q (fun hp' => ret (pc + 1) lv st' hp' nc ns))) zfail)) zfail
    | .inr _ => zfail) = .ok r) : ∃ (q a n : Nat) (us : ZL) (w : va_E) (i : Int32), cv = .ref a ∧ cj = .int i ∧ ws[q]? = some (a, w) ∧ ze (zad ws) g cA (.inl (t0, n, us)) w ∧ vp_in i n ∧ ret (pc + 1) lv st' (hp.set q (.inl (t0, n, (i.toNatClampNeg, x) :: zdrop us i.toNatClampNeg))) nc ns = .ok r := by
  obtain ⟨q, e, a, w2, rfl, hq, rfl, hw, hze, h⟩ := zrf_ok r1 h7 h
  cases e with
  | inr x => cases h
  | inl y =>
    obtain ⟨t, n, us⟩ := y
    simp only at h
    cases ho : Nat.beq t t0 with
    | false => rw [ho] at h; cases h
    | true =>
      cases Nat.beq_eq.mp ho
      rw [ho, cond_true] at h
      obtain ⟨i, rfl, h⟩ := zI_ok hE h5 h
      cases hi : zix i n with
      | false => rw [hi] at h; cases h
      | true =>
        rw [hi, cond_true, zup_eq, zsk_eq] at h
        exact ⟨q, a, n, us, w2, i, rfl, rfl, hw, hze, zix_ok hi, h⟩
noncomputable def zfi (v : Value) (k : Value → ZX) : ZX := cond (zint v) (k v) zfail
theorem zs_iast (hx : p.tables.exec = Jvm.exec) (hb : c.code = cc) (hK : va_K (dC, dI) vwCl (ztys cA) s) (hE : zen E g) (hdg : decode cc pc = .ok (.iastore, 1)) (h : zx_ast E 0 zfi pc lv st hp nc ns ret = .ok r) (Hk : ∀ (pc : Nat) (lv : ZL) (st : List Value) (hp : List ZE) (nc ns : Nat), ret pc lv st hp nc ns = .ok r → zW p l e R s m args below meth c Q dC dI cA g A nL pc lv st hp nc ns) : zW p l e R s m args below meth c Q dC dI cA g A nL pc lv st hp nc ns := by
  match st, h with
  | [], h => cases h
  | [_], h => cases h
  | [_, _], h => cases h
  | x :: j :: v :: st', h =>
    intro ws H locs ls clv cst ⟨r1, r2, r3, r4, r5, r6, r7⟩
    obtain ⟨cx, cr, rfl, h3, h4⟩ := zvs_cons r7
    obtain ⟨cj, cr, rfl, h5, h6⟩ := zvs_cons h4
    obtain ⟨cv, cr, rfl, h7, h8⟩ := zvs_cons h6
    simp only [zx_ast, zfi] at h
    cases hz : zint x with
    | false => rw [hz] at h; cases h
    | true =>
      rw [hz, cond_true] at h
      obtain ⟨y, rfl⟩ := zint_ok hz h3
      obtain ⟨q, a, n, us, w, i, rfl, rfl, hw, hze, hi, h⟩ := zx_ast_ok hE r1 h5 h7 h
      obtain ⟨arr, rfl, hza⟩ := zarr hze
      obtain ⟨f, rfl, hf⟩ := hza.1 (Nat.succ_pos 2)
      refine va_iast hx hb hK r2 r3 r4 q 0 hw rfl hi hdg (fun H1 locs1 p1 p2 p3 => ?_)
      refine Hk _ _ _ _ _ _ h _ H1 locs1 ls clv _ ⟨zh_set r1 hw ⟨_, rfl, za_putI (Nat.succ_pos 2) hf h3⟩, p1, p2, p3, r5, ?_, ?_⟩
      · rw [zad_set hw]; exact r6
      · rw [zad_set hw]; exact h8
noncomputable def zfz (E : ZN) (v : Value) (k : Value → ZX) : ZX := zI E v (fun x => zi (vp_nar .boolean x) (fun y => k (.int y)))
theorem zs_zast (hx : p.tables.exec = Jvm.exec) (hb : c.code = cc) (hK : va_K (dC, dI) vwCl (ztys cA) s) (hE : zen E g) (hdg : decode cc pc = .ok (.bastore, 1)) (h : zx_ast E 1 (zfz E) pc lv st hp nc ns ret = .ok r) (Hk : ∀ (pc : Nat) (lv : ZL) (st : List Value) (hp : List ZE) (nc ns : Nat), ret pc lv st hp nc ns = .ok r → zW p l e R s m args below meth c Q dC dI cA g A nL pc lv st hp nc ns) : zW p l e R s m args below meth c Q dC dI cA g A nL pc lv st hp nc ns := by
  match st, h with
  | [], h => cases h
  | [_], h => cases h
  | [_, _], h => cases h
  | x :: j :: v :: st', h =>
    intro ws H locs ls clv cst ⟨r1, r2, r3, r4, r5, r6, r7⟩
    obtain ⟨cx, cr, rfl, h3, h4⟩ := zvs_cons r7
    obtain ⟨cj, cr, rfl, h5, h6⟩ := zvs_cons h4
    obtain ⟨cv, cr, rfl, h7, h8⟩ := zvs_cons h6
    simp only [zx_ast, zfz] at h
    obtain ⟨y, rfl, h⟩ := zI_ok hE h3 h
    rw [zi_eq] at h
    obtain ⟨q, a, n, us, w, i, rfl, rfl, hw, hze, hi, h⟩ := zx_ast_ok hE r1 h5 h7 h
    obtain ⟨arr, rfl, hza⟩ := zarr hze
    obtain ⟨f, rfl, hf⟩ := hza.1 z13
    refine va_zast hx hb hK r2 r3 r4 q 1 hw rfl hi hdg (fun H1 locs1 p1 p2 p3 => ?_)
    refine Hk _ _ _ _ _ _ h _ H1 locs1 ls clv _ ⟨zh_set r1 hw ⟨_, rfl, za_putI z13 hf rfl⟩, p1, p2, p3, r5, ?_, ?_⟩
    · rw [zad_set hw]; exact r6
    · rw [zad_set hw]; exact h8
noncomputable def zfL (v : Value) (k : Value → ZX) : ZX := match v with
  | .long x => k (.long x)
  | _ => zfail
theorem zs_last (hx : p.tables.exec = Jvm.exec) (hb : c.code = cc) (hK : va_K (dC, dI) vwCl (ztys cA) s) (hE : zen E g) (hdg : decode cc pc = .ok (.lastore, 1)) (h : zx_ast E 3 zfL pc lv st hp nc ns ret = .ok r) (Hk : ∀ (pc : Nat) (lv : ZL) (st : List Value) (hp : List ZE) (nc ns : Nat), ret pc lv st hp nc ns = .ok r → zW p l e R s m args below meth c Q dC dI cA g A nL pc lv st hp nc ns) : zW p l e R s m args below meth c Q dC dI cA g A nL pc lv st hp nc ns := by
  match st, h with
  | [], h => cases h
  | [_], h => cases h
  | [_, _], h => cases h
  | x :: j :: v :: st', h =>
    intro ws H locs ls clv cst ⟨r1, r2, r3, r4, r5, r6, r7⟩
    obtain ⟨cx, cr, rfl, h3, h4⟩ := zvs_cons r7
    obtain ⟨cj, cr, rfl, h5, h6⟩ := zvs_cons h4
    obtain ⟨cv, cr, rfl, h7, h8⟩ := zvs_cons h6
    simp only [zx_ast] at h
    cases x with
    | long y =>
      cases (show cx = _ from h3)
      simp only [zfL] at h
      obtain ⟨q, a, n, us, w, i, rfl, rfl, hw, hze, hi, h⟩ := zx_ast_ok hE r1 h5 h7 h
      obtain ⟨arr, rfl, hza⟩ := zarr hze
      obtain ⟨f, rfl, hf⟩ := hza.2.1 rfl
      refine va_last hx hb hK r2 r3 r4 q 3 hw rfl hi hdg (fun H1 locs1 p1 p2 p3 => ?_)
      refine Hk _ _ _ _ _ _ h _ H1 locs1 ls clv _ ⟨zh_set r1 hw ⟨_, rfl, za_putL hf⟩, p1, p2, p3, r5, ?_, ?_⟩
      · rw [zad_set hw]; exact r6
      · rw [zad_set hw]; exact h8
    | _ => cases h
/-- an object into a row of objects: 4 is a row of Wall (class 7), 5 of Order (class 2) -/
noncomputable def zfo (hp : List ZE) (ci : Nat) (v : Value) (k : Value → ZX) : ZX := zrf hp v (fun q e => match e with
  | .inr x => cond (Nat.beq x.1 ci) (k (.ref q)) zfail
  | .inl _ => zfail)
theorem zs_aast (hx : p.tables.exec = Jvm.exec) (hb : c.code = cc) (hK : va_K (dC, dI) vwCl (ztys cA) s) (hE : zen E g) {t ci : Nat} (hw0 : t = 4 ∧ ci = 7 ∨ t = 5 ∧ ci = 2) (hdg : decode cc pc = .ok (.aastore, 1)) (h : zx_ast E t (zfo hp ci) pc lv st hp nc ns ret = .ok r) (Hk : ∀ (pc : Nat) (lv : ZL) (st : List Value) (hp : List ZE) (nc ns : Nat), ret pc lv st hp nc ns = .ok r → zW p l e R s m args below meth c Q dC dI cA g A nL pc lv st hp nc ns) : zW p l e R s m args below meth c Q dC dI cA g A nL pc lv st hp nc ns := by
  match st, h with
  | [], h => cases h
  | [_], h => cases h
  | [_, _], h => cases h
  | x :: j :: v :: st', h =>
    intro ws H locs ls clv cst ⟨r1, r2, r3, r4, r5, r6, r7⟩
    obtain ⟨cx, cr, rfl, h3, h4⟩ := zvs_cons r7
    obtain ⟨cj, cr, rfl, h5, h6⟩ := zvs_cons h4
    obtain ⟨cv, cr, rfl, h7, h8⟩ := zvs_cons h6
    simp only [zx_ast, zfo] at h
    obtain ⟨q2, e2, a2, w2, rfl, hq2, rfl, hw2, hze2, h⟩ := zrf_ok r1 h3 h
    cases e2 with
    | inl y => cases h
    | inr y =>
      simp only at h
      obtain ⟨gs, rfl, -⟩ := zobj hze2
      cases hb1 : Nat.beq y.1 ci with
      | false => rw [hb1] at h; cases h
      | true =>
        rw [hb1, cond_true] at h
        have e1 := Nat.beq_eq.mp hb1
        rw [e1] at hw2
        obtain ⟨q, a, n, us, w, i, rfl, rfl, hw, hze, hi, hz9⟩ := zx_ast_ok hE r1 h5 h7 h
        obtain ⟨arr, rfl, hza⟩ := zarr hze
        rcases hw0 with ⟨rfl, rfl⟩ | ⟨rfl, rfl⟩
        · obtain ⟨f, rfl, hf⟩ := hza.2.2 z34
          refine va_astq hx hb hK r2 r3 r4 q 4 q2 7 (r := (RX8, TX8, 11)) hw rfl hw2 rfl hi hdg (fun H1 locs1 p1 p2 p3 => ?_)
          refine Hk _ _ _ _ _ _ hz9 _ H1 locs1 ls clv _ ⟨zh_set r1 hw ⟨_, rfl, za_putR z34 hf h3⟩, p1, p2, p3, r5, ?_, ?_⟩
          · rw [zad_set hw]; exact r6
          · rw [zad_set hw]; exact h8
        · obtain ⟨f, rfl, hf⟩ := hza.2.2 z35
          refine va_astq hx hb hK r2 r3 r4 q 5 q2 2 (r := (RX3, TX3, 7)) hw rfl hw2 rfl hi hdg (fun H1 locs1 p1 p2 p3 => ?_)
          refine Hk _ _ _ _ _ _ hz9 _ H1 locs1 ls clv _ ⟨zh_set r1 hw ⟨_, rfl, za_putR z35 hf h3⟩, p1, p2, p3, r5, ?_, ?_⟩
          · rw [zad_set hw]; exact r6
          · rw [zad_set hw]; exact h8
noncomputable def zx_alen (pc : Nat) (lv : ZL) (st : List Value) (hp : List ZE) (nc ns : Nat) (ret : ZRt) : ZX := match st with
  | v :: st' => zrf hp v (fun _ e => match e with
    | .inl x => cond (Nat.blt x.1 6) (zi (Int32.ofNat x.2.1) (fun n => ret (pc + 1) lv (.int n :: st') hp nc ns)) zfail
    | .inr _ => zfail)
  | _ => zfail
theorem zs_alen (hx : p.tables.exec = Jvm.exec) (hb : c.code = cc) (hK : va_K (dC, dI) vwCl (ztys cA) s) (hdg : decode cc pc = .ok (.arraylength, 1)) (h : zx_alen pc lv st hp nc ns ret = .ok r) (Hk : ∀ (pc : Nat) (lv : ZL) (st : List Value) (hp : List ZE) (nc ns : Nat), ret pc lv st hp nc ns = .ok r → zW p l e R s m args below meth c Q dC dI cA g A nL pc lv st hp nc ns) : zW p l e R s m args below meth c Q dC dI cA g A nL pc lv st hp nc ns := by
  match st, h with
  | [], h => cases h
  | v :: st', h =>
    intro ws H locs ls clv cst ⟨r1, r2, r3, r4, r5, r6, r7⟩
    obtain ⟨cv, cr, rfl, h7, h8⟩ := zvs_cons r7
    simp only [zx_alen] at h
    obtain ⟨q, e, a, w2, rfl, hq, rfl, hw, hze, h⟩ := zrf_ok r1 h7 h
    cases e with
    | inr x => cases h
    | inl x =>
      simp only at h
      obtain ⟨arr, rfl, hza⟩ := zarr hze
      cases hb1 : Nat.blt x.1 6 with
      | false => rw [hb1] at h; cases h
      | true =>
        rw [hb1, cond_true, zi_eq] at h
        exact va_alen hx hb hK r2 q x.1 hw (ztys_at cA (zblt hb1)) rfl hdg (Hk _ _ _ _ _ _ h ws H locs ls clv _ ⟨r1, r2, r3, r4, r5, r6, rfl, h8⟩)
end ZHP
end
section
/-! cells that are made; rows copied; the script -/
section ZMK
variable {p : Program} {l : Launch} {e : Env} {R : Room} {s : State} {m : MethodId} {args : Array Value} {below : List Frame} {meth : Method} {c : Code} {Q : State → Prop} {dC : Nat → ClassId} {dI : Nat → Nat → Nat} {cA : Nat → ClassId} {g : ZG} {A : Nat → Prop} {nL : Nat} {cc : ByteArray} {pc : Nat} {lv : ZL} {st : List Value} {hp : List ZE} {nc ns : Nat} {ret : ZRt} {r : ZS} {E : ZN} {own : String}
/-- bc, bs: the room that the method has -/
noncomputable def zx_new (fs : List Value) (ci N bc bs : Nat) (pc : Nat) (lv : ZL) (st : List Value) (hp : List ZE) (nc ns : Nat) (ret : ZRt) : ZX :=
  cond (Nat.ble (nc + 1) bc && Nat.ble (ns + N) bs) (zn hp.length (fun q => zap hp (.inr (ci, fs)) (fun hp' => zn (nc + 1) (fun nc' => zn (ns + N) (fun ns' => ret (pc + 3) lv (.ref q :: st) hp' nc' ns'))))) zfail
theorem zs_new (hx : p.tables.exec = Jvm.exec) (hb : c.code = cc) (hown : s.vm.findClass own = some m.cls) (hts : ∀ w ∈ zT, w.before args s = true) (hK : va_K (dC, dI) vwCl (ztys cA) s) (hA : ∀ q, s.heap.size ≤ q → A q) {idx ci N bc bs : Nat} {C : String} {T : u_T} {ty0 : Nat → FieldType} {fs : List Value} (hRc : bc ≤ R.cells) (hRs : bs ≤ R.slots) (hin : ∀ w ∈ u_ws C T N, w ∈ zT) (hty : ∀ k, k < N → parseFieldDescriptor (T k).2.2.1 = some (ty0 k)) (hc : vwCl[ci]? = some (C, T, N)) (hfs : ∀ j, j < N → defaultValue (ty0 j) = vp_V fs j) (hfv : ∀ ad, zvs ad g fs fs) (h1 : Cond.classLink own idx C ∈ zT) (h2 : Cond.instantiable C N ∈ zT) (h3 : Cond.initialized C ∈ zT) (hdg : decode cc pc = .ok (.new idx, 3)) (h : zx_new fs ci N bc bs pc lv st hp nc ns ret = .ok r) (Hk : ∀ (pc : Nat) (lv : ZL) (st : List Value) (hp : List ZE) (nc ns : Nat), ret pc lv st hp nc ns = .ok r → zW p l e R s m args below meth c Q dC dI cA g A nL pc lv st hp nc ns) : zW p l e R s m args below meth c Q dC dI cA g A nL pc lv st hp nc ns := by
  unfold zx_new at h
  cases hb1 : (Nat.ble (nc + 1) bc && Nat.ble (ns + N) bs) with
  | false => rw [hb1] at h; cases h
  | true =>
    rw [hb1, cond_true, zn_eq, zap_eq, zn_eq, zn_eq] at h
    rw [Bool.and_eq_true] at hb1
    have b1 := Nat.le_of_ble_eq_true hb1.1
    have b2 := Nat.le_of_ble_eq_true hb1.2
    intro ws H locs ls clv cst ⟨r1, r2, r3, r4, r5, r6, r7⟩
    refine va_new hx hb hts hin ty0 hty hown (hts _ h1) (hts _ h2) (hts _ h3) hK r2 r3 r4 hA hc hfs (Nat.le_trans b1 hRc) (Nat.le_trans b2 hRs) hdg (fun q H1 p1 p2 p3 => ?_)
    refine Hk _ _ _ _ _ _ h _ H1 locs ls clv _ ⟨zh_app r1 q ⟨fs, rfl, hfv _⟩, p1, p2, p3, r5, zls_mono (zad_app ws q _) r6, ⟨q, ?_, rfl⟩, zvs_mono (zad_app ws q _) r7⟩
    rw [← r1.1]
    exact zad_last ws q _
noncomputable def zx_newa (E : ZN) (t bc bs k : Nat) (pc : Nat) (lv : ZL) (st : List Value) (hp : List ZE) (nc ns : Nat) (ret : ZRt) : ZX := match st with
  | v :: st' => zI E v (fun n => zn n.toNatClampNeg (fun N => cond (decide (0 ≤ n.toInt) && (Nat.ble N 50000 && (Nat.ble (nc + 1) bc && Nat.ble (ns + N) bs))) (zn hp.length (fun q => zap hp (.inl (t, N, [])) (fun hp' => zn (nc + 1) (fun nc' => zn (ns + N) (fun ns' => ret (pc + k) lv (.ref q :: st') hp' nc' ns'))))) zfail))
  | _ => zfail
theorem zx_newa_ok {t bc bs k : Nat} {v cv : Value} {st' : List Value} {ad : List Nat} (hE : zen E g) (hv : zv ad g v cv) (h : zx_newa E t bc bs k pc lv (v :: st') hp nc ns ret = .ok r) : ∃ n : Int32, cv = .int n ∧ ¬ n < 0 ∧ n.toNatClampNeg ≤ 50000 ∧ nc + 1 ≤ bc ∧ ns + n.toNatClampNeg ≤ bs ∧ ret (pc + k) lv (.ref hp.length :: st') (hp ++ [.inl (t, n.toNatClampNeg, [])]) (nc + 1) (ns + n.toNatClampNeg) = .ok r := by
  simp only [zx_newa] at h
  obtain ⟨n, rfl, h⟩ := zI_ok hE hv h
  rw [zn_eq] at h
  cases hb1 : (decide (0 ≤ n.toInt) && (Nat.ble n.toNatClampNeg 50000 && (Nat.ble (nc + 1) bc && Nat.ble (ns + n.toNatClampNeg) bs))) with
  | false => rw [hb1] at h; cases h
  | true =>
    rw [hb1, cond_true, zn_eq, zap_eq, zn_eq, zn_eq] at h
    rw [Bool.and_eq_true, Bool.and_eq_true, Bool.and_eq_true] at hb1
    refine ⟨n, rfl, fun q => ?_, Nat.le_of_ble_eq_true hb1.2.1, Nat.le_of_ble_eq_true hb1.2.2.1, Nat.le_of_ble_eq_true hb1.2.2.2, h⟩
    have e1 := of_decide_eq_true hb1.1
    have e2 : n.toInt < (0 : Int32).toInt := Int32.lt_iff_toInt_lt.mp q
    have e3 : (0 : Int32).toInt = 0 := rfl
    omega
def za0 (t N : Nat) : vp_A := cond (Nat.blt t 3) (N, .inl (fun _ => 0)) (N, .inr (.inl (fun _ => 0)))
theorem zs_newa (hx : p.tables.exec = Jvm.exec) (hb : c.code = cc) (hts : ∀ w ∈ zT, w.before args s = true) (hK : va_K (dC, dI) vwCl (ztys cA) s) (hE : zen E g) (hA : ∀ q, s.heap.size ≤ q → A q) {t bc bs : Nat} {at0 : ArrayType} (hRc : bc ≤ R.cells) (hRs : bs ≤ R.slots) (ht : t < 4) (hat : newarray.typeOf at0 = zty t) (h1 : Cond.arrayClass (newarray.typeOf at0) ∈ zT) (hdg : decode cc pc = .ok (.newarray at0, 2)) (h : zx_newa E t bc bs 2 pc lv st hp nc ns ret = .ok r) (Hk : ∀ (pc : Nat) (lv : ZL) (st : List Value) (hp : List ZE) (nc ns : Nat), ret pc lv st hp nc ns = .ok r → zW p l e R s m args below meth c Q dC dI cA g A nL pc lv st hp nc ns) : zW p l e R s m args below meth c Q dC dI cA g A nL pc lv st hp nc ns := by
  match st, h with
  | [], h => cases h
  | v :: st', h =>
    intro ws H locs ls clv cst ⟨r1, r2, r3, r4, r5, r6, r7⟩
    obtain ⟨cv, cr, rfl, h7, h8⟩ := zvs_cons r7
    obtain ⟨n, rfl, n0, n1, n2, n3, h⟩ := zx_newa_ok hE h7 h
    have e0 : ∀ c1 : ClassId, vp_cell c1 (za0 t n.toNatClampNeg) = arrV c1 n.toNatClampNeg (fun _ => defaultValue (zty t)) := by
      intro c1
      match t, ht with
      | 0, _ => rfl
      | 1, _ => rfl
      | 2, _ => rfl
      | 3, _ => rfl
    have e1 : componentBytes (zty t) ≤ 8 := by
      match t, ht with
      | 0, _ => decide
      | 1, _ => decide
      | 2, _ => decide
      | 3, _ => decide
    refine va_newa hx hb (hts _ h1) hat hK r2 r3 r4 hA e0 n0 rfl (Nat.le_trans (Nat.mul_le_mul n1 e1) (by decide)) (Nat.le_trans n2 hRc) (Nat.le_trans n3 hRs) hdg (fun q c1 H1 k1 p1 p2 p3 => ?_)
    have e2 : c1 = cA t := by
      have w1 := (k1.2 6 (c1, zty t) rfl).2
      have w2 := (hK.2 t (cA t, zty t) (ztys_at cA (by omega))).2
      exact zra_eq w1 w2
    subst e2
    have e3 : ∃ arr, (za0 t n.toNatClampNeg) = (n.toNatClampNeg, arr) ∧ ∀ ad, za ad g t [] arr := by
      match t, ht with
      | 0, _ => exact ⟨_, rfl, fun ad => ⟨fun _ => ⟨_, rfl, fun j => rfl⟩, fun q => by omega, fun q => by omega⟩⟩
      | 1, _ => exact ⟨_, rfl, fun ad => ⟨fun _ => ⟨_, rfl, fun j => rfl⟩, fun q => by omega, fun q => by omega⟩⟩
      | 2, _ => exact ⟨_, rfl, fun ad => ⟨fun _ => ⟨_, rfl, fun j => rfl⟩, fun q => by omega, fun q => by omega⟩⟩
      | 3, _ => exact ⟨_, rfl, fun ad => ⟨fun q => by omega, fun _ => ⟨_, rfl, fun j => rfl⟩, fun q => by omega⟩⟩
    obtain ⟨arr, e4, e5⟩ := e3
    refine Hk _ _ _ _ _ _ h _ H1 locs ls clv _ ⟨zh_app r1 q ⟨arr, by rw [e4], e5 _⟩, p1, p2, p3, r5, zls_mono (zad_app ws q _) r6, ⟨q, ?_, rfl⟩, zvs_mono (zad_app ws q _) h8⟩
    rw [← r1.1]
    exact zad_last ws q _
theorem zs_anewa (hx : p.tables.exec = Jvm.exec) (hb : c.code = cc) (hown : s.vm.findClass own = some m.cls) (hts : ∀ w ∈ zT, w.before args s = true) (hK : va_K (dC, dI) vwCl (ztys cA) s) (hE : zen E g) (hA : ∀ q, s.heap.size ≤ q → A q) {idx t bc bs : Nat} {C : String} (hRc : bc ≤ R.cells) (hRs : bs ≤ R.slots) (ht : t = 4 ∨ t = 5) (hat : zty t = .object C) (h1 : Cond.classLink own idx C ∈ zT) (h2 : va_AO C s) (hdg : decode cc pc = .ok (.anewarray idx, 3)) (h : zx_newa E t bc bs 3 pc lv st hp nc ns ret = .ok r) (Hk : ∀ (pc : Nat) (lv : ZL) (st : List Value) (hp : List ZE) (nc ns : Nat), ret pc lv st hp nc ns = .ok r → zW p l e R s m args below meth c Q dC dI cA g A nL pc lv st hp nc ns) : zW p l e R s m args below meth c Q dC dI cA g A nL pc lv st hp nc ns := by
  match st, h with
  | [], h => cases h
  | v :: st', h =>
    intro ws H locs ls clv cst ⟨r1, r2, r3, r4, r5, r6, r7⟩
    obtain ⟨cv, cr, rfl, h7, h8⟩ := zvs_cons r7
    obtain ⟨n, rfl, n0, n1, n2, n3, h⟩ := zx_newa_ok hE h7 h
    refine va_newq hx hb hown (hts _ h1) h2 hK r2 r3 r4 hA n0 rfl (by omega) (Nat.le_trans n2 hRc) (Nat.le_trans n3 hRs) hdg (fun q c1 H1 k1 p1 p2 p3 => ?_)
    have e2 : c1 = cA t := by
      have w1 := (k1.2 6 (c1, .object C) rfl).2
      have w2 := (hK.2 t (cA t, zty t) (ztys_at cA (by omega))).2
      rw [hat] at w2
      exact zra_eq w1 w2
    subst e2
    have e5 : ∀ ad, za ad g t [] (.inr (.inr (.inr (.inr (fun _ => none))))) := by
      intro ad
      refine ⟨fun q => by omega, fun q => by omega, fun _ => ⟨_, rfl, fun j => ?_⟩⟩
      rcases ht with rfl | rfl
      · rfl
      · rfl
    refine Hk _ _ _ _ _ _ h _ H1 locs ls clv _ ⟨zh_app r1 q ⟨_, rfl, e5 _⟩, p1, p2, p3, r5, zls_mono (zad_app ws q _) r6, ⟨q, ?_, rfl⟩, zvs_mono (zad_app ws q _) h8⟩
    rw [← r1.1]
    exact zad_last ws q _
/-- the script -/
noncomputable def zx_sld (E : ZN) (L : Nat) (pc : Nat) (lv : ZL) (st : List Value) (hp : List ZE) (nc ns : Nat) (ret : ZRt) : ZX := match st with
  | j :: .float _ :: st' => zI E j (fun a => cond (zix a L) (zn a.toNatClampNeg (fun i => ret (pc + 1) lv (.retAddr i :: st') hp nc ns)) zfail)
  | _ => zfail
theorem zs_sld (hx : p.tables.exec = Jvm.exec) (hb : c.code = cc) (hE : zen E g) {L : Nat} {xs : Nat → Int32} (hX : va_X g.2.1 L xs s s.heap) (hbl : g.2.1 < s.heap.size) (hbA : ¬ A g.2.1) (hxs : ∀ j, j < L → g.1 j = xs j) (hL : L < 2 ^ 31) (hdg : decode cc pc = .ok (.iaload, 1)) (h : zx_sld E L pc lv st hp nc ns ret = .ok r) (Hk : ∀ (pc : Nat) (lv : ZL) (st : List Value) (hp : List ZE) (nc ns : Nat), ret pc lv st hp nc ns = .ok r → zW p l e R s m args below meth c Q dC dI cA g A nL pc lv st hp nc ns) : zW p l e R s m args below meth c Q dC dI cA g A nL pc lv st hp nc ns := by
  match st, h with
  | [], h => cases h
  | [_], h => cases h
  | j :: .float _ :: st', h =>
    intro ws H locs ls clv cst ⟨r1, r2, r3, r4, r5, r6, r7⟩
    obtain ⟨cj, cr, rfl, h5, h6⟩ := zvs_cons r7
    obtain ⟨cv, cr, rfl, h7, h8⟩ := zvs_cons h6
    cases (show cv = _ from h7)
    simp only [zx_sld] at h
    obtain ⟨a, rfl, h⟩ := zI_ok hE h5 h
    cases hi : zix a L with
    | false => rw [hi] at h; cases h
    | true =>
      rw [hi, cond_true, zn_eq] at h
      refine va_sld hx hb hX hbl hbA r4 (zix_ok hi) hdg (Hk _ _ _ _ _ _ h ws H locs ls clv _ ⟨r1, r2, r3, r4, r5, r6, ?_, h8⟩)
      obtain ⟨i, i1, i2⟩ := vp_in_of (zix_ok hi) hL
      show Value.int (xs a.toNatClampNeg) = .int (g.1 a.toNatClampNeg)
      rw [i2, nI_clamp (by omega), hxs i i1]
noncomputable def zx_slen (L : Nat) (pc : Nat) (lv : ZL) (st : List Value) (hp : List ZE) (nc ns : Nat) (ret : ZRt) : ZX := match st with
  | .float _ :: st' => ret (pc + 1) lv (.int (Int32.ofNat L) :: st') hp nc ns
  | _ => zfail
theorem zs_slen (hx : p.tables.exec = Jvm.exec) (hb : c.code = cc) {L : Nat} {xs : Nat → Int32} (hX : va_X g.2.1 L xs s s.heap) (hbl : g.2.1 < s.heap.size) (hbA : ¬ A g.2.1) (hdg : decode cc pc = .ok (.arraylength, 1)) (h : zx_slen L pc lv st hp nc ns ret = .ok r) (Hk : ∀ (pc : Nat) (lv : ZL) (st : List Value) (hp : List ZE) (nc ns : Nat), ret pc lv st hp nc ns = .ok r → zW p l e R s m args below meth c Q dC dI cA g A nL pc lv st hp nc ns) : zW p l e R s m args below meth c Q dC dI cA g A nL pc lv st hp nc ns := by
  match st, h with
  | [], h => cases h
  | .float _ :: st', h =>
    intro ws H locs ls clv cst ⟨r1, r2, r3, r4, r5, r6, r7⟩
    obtain ⟨cv, cr, rfl, h7, h8⟩ := zvs_cons r7
    cases (show cv = _ from h7)
    exact va_slen hx hb hX hbl hbA r4 hdg (Hk _ _ _ _ _ _ h ws H locs ls clv _ ⟨r1, r2, r3, r4, r5, r6, rfl, h8⟩)
/-- Object.<init> -/
noncomputable def zx_obj (pc : Nat) (lv : ZL) (st : List Value) (hp : List ZE) (nc ns : Nat) (ret : ZRt) : ZX := match st with
  | v :: st' => cond (zref v && Nat.ble (st'.map fun v => v.category).sum 8) (ret (pc + 3) lv st' hp nc ns) zfail
  | _ => zfail
theorem zs_obj (hx : p.tables.exec = Jvm.exec) (hb : c.code = cc) (hml : c.maxLocals = nL) (hown : s.vm.findClass own = some m.cls) (hts : ∀ w ∈ zT, w.before args s = true) {idx : Nat} (hRf : 1 ≤ R.frames) (hRl : 40 ≤ R.locals) (h1 : Cond.methodLink own idx objectInit ∈ zT) (h2 : Cond.instanceMethod objectInit ∈ zT) (h3 : Cond.code objectInit ⟨#[0xb1]⟩ 1 none ∈ zT) (hdg : decode cc pc = .ok (.invokespecial idx, 3)) (h : zx_obj pc lv st hp nc ns ret = .ok r) (Hk : ∀ (pc : Nat) (lv : ZL) (st : List Value) (hp : List ZE) (nc ns : Nat), ret pc lv st hp nc ns = .ok r → zW p l e R s m args below meth c Q dC dI cA g A nL pc lv st hp nc ns) : zW p l e R s m args below meth c Q dC dI cA g A nL pc lv st hp nc ns := by
  match st, h with
  | [], h => cases h
  | v :: st', h =>
    intro ws H locs ls clv cst ⟨r1, r2, r3, r4, r5, r6, r7⟩
    obtain ⟨cv, cr, rfl, h7, h8⟩ := zvs_cons r7
    simp only [zx_obj] at h
    cases hb1 : (zref v && Nat.ble (st'.map fun v => v.category).sum 8) with
    | false => rw [hb1] at h; cases h
    | true =>
      rw [hb1, cond_true] at h
      rw [Bool.and_eq_true] at hb1
      obtain ⟨a, rfl⟩ := zref_ok hb1.1 h7
      have hs8 : (cr.map fun v => v.category).sum ≤ 8 := by
        rw [zvs_sum h8]
        exact Nat.le_of_ble_eq_true hb1.2
      have hroom := lv_room (m := m) (pc := pc) (ls := ls) (rest := Value.ref a :: cr) hs8
      refine W.objInit hx hb hown (hts _ h1) (hts _ h2) (hts _ h3) (g := F0 m pc ls (.ref a :: cr)) rfl (by rw [hml]; exact r5.1) rfl hdg hRf (by omega) ?_
      exact Hk _ _ _ _ _ _ h ws H locs ls clv _ ⟨r1, r2, r3, r4, r5, r6, h8⟩
/-- System.arraycopy, ints -/
noncomputable def zcy (us0 us1 : ZL) (sp dp n : Nat) : ZL := Nat.rec (motive := fun _ => ZL) us1 (fun i acc => (dp + i, zel 0 us0 (sp + i)) :: zdrop acc (dp + i)) n
theorem zcy_el (us0 us1 : ZL) (sp dp n j : Nat) : zel 0 (zcy us0 us1 sp dp n) j = if dp ≤ j ∧ j < dp + n then zel 0 us0 (sp + (j - dp)) else zel 0 us1 j := by
  induction n with
  | zero =>
    rw [if_neg (by omega)]
    rfl
  | succ n ih =>
    show zel 0 ((dp + n, zel 0 us0 (sp + n)) :: zdrop (zcy us0 us1 sp dp n) (dp + n)) j = _
    rw [zel_put, ih]
    by_cases h : j = dp + n
    · rw [if_pos h, if_pos (by omega)]
      congr 1
      omega
    · rw [if_neg h]
      by_cases h2 : dp ≤ j ∧ j < dp + n
      · rw [if_pos h2, if_pos (by omega)]
      · rw [if_neg h2, if_neg (by omega)]
noncomputable def zx_cpy (E : ZN) (pc : Nat) (lv : ZL) (st : List Value) (hp : List ZE) (nc ns : Nat) (ret : ZRt) : ZX := match st with
  | vn :: vd :: v1 :: vs :: v0 :: st' => zI E vn (fun n => zI E vd (fun dp => zI E vs (fun sp => zrf hp v0 (fun _ e0 => zrf hp v1 (fun q1 e1 => match e0, e1 with
    | .inl x0, .inl x1 => cond (Nat.beq x0.1 0 && (Nat.beq x1.1 0 && (decide (0 ≤ n.toInt) && (decide (0 ≤ dp.toInt) && (decide (0 ≤ sp.toInt) && (Nat.ble (sp.toNatClampNeg + n.toNatClampNeg) x0.2.1 && (Nat.ble (dp.toNatClampNeg + n.toNatClampNeg) x1.2.1 && Nat.ble (st'.map fun v => v.category).sum 8)))))))
        (zfl (zcy x0.2.2 x1.2.2 sp.toNatClampNeg dp.toNatClampNeg n.toNatClampNeg) (fun us => zsk hp (.inl (0, x1.2.1, us)) q1 (fun hp' => ret (pc + 3) lv st' hp' nc ns))) zfail
    | _, _ => zfail)))))
  | _ => zfail
theorem zn0 {z : Int32} (h : decide (0 ≤ z.toInt) = true) : ¬ z < 0 := by
  intro q
  have e1 := of_decide_eq_true h
  have e2 : z.toInt < (0 : Int32).toInt := Int32.lt_iff_toInt_lt.mp q
  have e3 : (0 : Int32).toInt = 0 := rfl
  omega
theorem zs_cpy (hx : p.tables.exec = Jvm.exec) (hb : c.code = cc) (hml : c.maxLocals = nL) (hown : s.vm.findClass own = some m.cls) (hts : ∀ w ∈ zT, w.before args s = true) (hK : va_K (dC, dI) vwCl (ztys cA) s) (hE : zen E g) {idx : Nat} (hRf : 1 ≤ R.frames) (hRl : 40 ≤ R.locals) (h1 : Cond.methodLink own idx arraycopyName ∈ zT) (h2 : Cond.native arraycopyName ∈ zT) (h3 : Cond.static arraycopyName ∈ zT) (h4 : Cond.initialized "java/lang/System" ∈ zT) (hdg : decode cc pc = .ok (.invokestatic idx, 3)) (h : zx_cpy E pc lv st hp nc ns ret = .ok r) (Hk : ∀ (pc : Nat) (lv : ZL) (st : List Value) (hp : List ZE) (nc ns : Nat), ret pc lv st hp nc ns = .ok r → zW p l e R s m args below meth c Q dC dI cA g A nL pc lv st hp nc ns) : zW p l e R s m args below meth c Q dC dI cA g A nL pc lv st hp nc ns := by
  match st, h with
  | [], h => cases h
  | [_], h => cases h
  | [_, _], h => cases h
  | [_, _, _], h => cases h
  | [_, _, _, _], h => cases h
  | vn :: vd :: v1 :: vs :: v0 :: st', h =>
    intro ws H locs ls clv cst ⟨r1, r2, r3, r4, r5, r6, r7⟩
    obtain ⟨cn, cr, rfl, g1, g2⟩ := zvs_cons r7
    obtain ⟨cd, cr, rfl, g3, g4⟩ := zvs_cons g2
    obtain ⟨c1, cr, rfl, g5, g6⟩ := zvs_cons g4
    obtain ⟨cs, cr, rfl, g7, g8⟩ := zvs_cons g6
    obtain ⟨c0, cr, rfl, g9, g10⟩ := zvs_cons g8
    simp only [zx_cpy] at h
    obtain ⟨n, rfl, h⟩ := zI_ok hE g1 h
    obtain ⟨dp, rfl, h⟩ := zI_ok hE g3 h
    obtain ⟨sp, rfl, h⟩ := zI_ok hE g7 h
    obtain ⟨q0, e0, a0, w0, rfl, hq0, rfl, hw0, hz0, h⟩ := zrf_ok r1 g9 h
    obtain ⟨q1, e1, a1, w1, rfl, hq1, rfl, hw1, hz1, h⟩ := zrf_ok r1 g5 h
    cases e0 with
    | inr x0 => cases h
    | inl x0 =>
      cases e1 with
      | inr x1 => cases h
      | inl x1 =>
        obtain ⟨t0, n0, us0⟩ := x0
        obtain ⟨t1, n1, us1⟩ := x1
        simp only at h
        cases hb1 : (Nat.beq t0 0 && (Nat.beq t1 0 && (decide (0 ≤ n.toInt) && (decide (0 ≤ dp.toInt) && (decide (0 ≤ sp.toInt) && (Nat.ble (sp.toNatClampNeg + n.toNatClampNeg) n0 && (Nat.ble (dp.toNatClampNeg + n.toNatClampNeg) n1 && Nat.ble (st'.map fun v => v.category).sum 8))))))) with
        | false => rw [hb1] at h; cases h
        | true =>
          rw [hb1, cond_true, zfl_eq, zsk_eq] at h
          have hz9 := h
          simp only [Bool.and_eq_true] at hb1
          obtain ⟨b1, b2, b3, b4, b5, b6, b7, b8⟩ := hb1
          cases Nat.beq_eq.mp b1
          cases Nat.beq_eq.mp b2
          obtain ⟨ar0, rfl, hza0⟩ := zarr hz0
          obtain ⟨ar1, rfl, hza1⟩ := zarr hz1
          obtain ⟨f0, rfl, hf0⟩ := hza0.1 (Nat.succ_pos 2)
          obtain ⟨f1, rfl, hf1⟩ := hza1.1 (Nat.succ_pos 2)
          have hs8 : (cr.map fun v => v.category).sum ≤ 8 := by
            rw [zvs_sum g10]
            exact Nat.le_of_ble_eq_true b8
          have hnf : nativeFrameWords "java/lang/System" "arraycopy" 5 = 7 := by decide
          refine va_copyi hx hb (hml.trans r5.1.symm) hown (hts _ h1) (hts _ h2) (hts _ h3) (hts _ h4) hK r2 r3 r4 q0 q1 0 0 (ty := .int) hw0 hw1 rfl rfl rfl (zn0 b5) (zn0 b4) (zn0 b3) (Nat.le_of_ble_eq_true b6) (Nat.le_of_ble_eq_true b7) (fun i _ => rfl) hRf (by rw [hnf]; omega) hdg (fun H1 locs1 p1 p2 p3 => ?_)
          refine Hk _ _ _ _ _ _ hz9 _ H1 locs1 ls clv _ ⟨zh_set r1 hw1 ⟨_, rfl, ⟨fun _ => ⟨_, rfl, fun j => ?_⟩, fun q => absurd (show (0 : Nat) = 3 from q) (by decide), fun q => absurd (show (3 : Nat) < 0 from q) (by decide)⟩⟩, p1, p2, p3, r5, ?_, ?_⟩
          · rw [zcy_el]
            unfold va_cpy
            by_cases hj : dp.toNatClampNeg ≤ j ∧ j < dp.toNatClampNeg + n.toNatClampNeg
            · rw [if_pos hj, if_pos hj]
              exact hf0 _
            · rw [if_neg hj, if_neg hj]
              exact hf1 _
          · rw [zad_set hw1]; exact r6
          · rw [zad_set hw1]; exact g10
/-- Math.max -/
noncomputable def zx_max (E : ZN) (bc bs : Nat) (pc : Nat) (lv : ZL) (st : List Value) (hp : List ZE) (nc ns : Nat) (ret : ZRt) : ZX := match st with
  | y :: x :: st' => zI E x (fun a => zI E y (fun b => cond (Nat.ble (st'.map fun v => v.category).sum 8 && (Nat.ble nc bc && Nat.ble ns bs)) (zi (if a < b then b else a) (fun z => ret (pc + 3) lv (.int z :: st') hp nc ns)) zfail))
  | _ => zfail
theorem zs_max (hx : p.tables.exec = Jvm.exec) (hb : c.code = cc) (hml : c.maxLocals = nL) (hown : s.vm.findClass own = some m.cls) (hts : ∀ w ∈ zT, w.before args s = true) (hE : zen E g) {idx bc bs : Nat} (hRc : bc ≤ R.cells) (hRs : bs ≤ R.slots) (hRf : 1 ≤ R.frames) (hRl : 40 ≤ R.locals) (h1 : Cond.methodLink own idx Lib.Math.max.name ∈ zT) (h2 : Cond.static Lib.Math.max.name ∈ zT) (h3 : Cond.initialized "java/lang/Math" ∈ zT) (h4 : Cond.code Lib.Math.max.name Lib.Math.max.code 2 (some .int) ∈ zT) (hdg : decode cc pc = .ok (.invokestatic idx, 3)) (h : zx_max E bc bs pc lv st hp nc ns ret = .ok r) (Hk : ∀ (pc : Nat) (lv : ZL) (st : List Value) (hp : List ZE) (nc ns : Nat), ret pc lv st hp nc ns = .ok r → zW p l e R s m args below meth c Q dC dI cA g A nL pc lv st hp nc ns) : zW p l e R s m args below meth c Q dC dI cA g A nL pc lv st hp nc ns := by
  match st, h with
  | [], h => cases h
  | [_], h => cases h
  | y :: x :: st', h =>
    intro ws H locs ls clv cst ⟨r1, r2, r3, r4, r5, r6, r7⟩
    obtain ⟨cy, cr, rfl, h5, h6⟩ := zvs_cons r7
    obtain ⟨cx, cr, rfl, h7, h8⟩ := zvs_cons h6
    simp only [zx_max] at h
    obtain ⟨a, rfl, h⟩ := zI_ok hE h7 h
    obtain ⟨b, rfl, h⟩ := zI_ok hE h5 h
    cases hb1 : (Nat.ble (st'.map fun v => v.category).sum 8 && (Nat.ble nc bc && Nat.ble ns bs)) with
    | false => rw [hb1] at h; cases h
    | true =>
      rw [hb1, cond_true, zi_eq] at h
      simp only [Bool.and_eq_true] at hb1
      have hs8 : (cr.map fun v => v.category).sum ≤ 8 := by
        rw [zvs_sum h8]
        exact Nat.le_of_ble_eq_true hb1.1
      exact va_mmax hx hb (hml.trans r5.1.symm) hown (hts _ h1) (hts _ h2) (hts _ h3) (hts _ h4) hRf (by omega) (Nat.le_trans (Nat.le_of_ble_eq_true hb1.2.1) hRc) (Nat.le_trans (Nat.le_of_ble_eq_true hb1.2.2) hRs) hdg (Hk _ _ _ _ _ _ h ws H locs ls clv _ ⟨r1, r2, r3, r4, r5, r6, rfl, h8⟩)
end ZMK
end
section
/-! the machine of known values, and what its tables must say -/
abbrev ZMe : Type := String × MethodName × ByteArray × Nat × Option FieldType × Nat × Nat
abbrev ZI : Type := Nat × Instr × Nat × List Nat
def zl (i : Instr) : Nat := match i with
  | .iconst _ => 1
  | .lconst _ => 1
  | .bipush _ => 2
  | .sipush _ => 3
  | .ldc _ => 2
  | .ldc2_w _ => 3
  | .iload _ => 2
  | .aload _ => 2
  | .istore _ => 2
  | .astore _ => 2
  | .iinc _ _ => 3
  | .if_icmp _ _ => 3
  | .ifCond _ _ => 3
  | .goto _ => 3
  | .getfield _ => 3
  | .putfield _ => 3
  | .new _ => 3
  | .newarray _ => 2
  | .anewarray _ => 3
  | .invokespecial _ => 3
  | .invokestatic _ => 3
  | .invokevirtual _ => 3
  | _ => 1
def zlok (i : Instr) (len : Nat) : Bool := match i with
  | .tableswitch _ _ _ _ => true
  | i => Nat.beq len (zl i)
def zfl1 (ci f : Nat) (k : String → u_T → Nat → Bool) : Bool := match vwCl[ci]? with
  | some q => Nat.blt f q.2.2 && k q.1 q.2.1 q.2.2
  | none => false
theorem zfl1_ok {ci f : Nat} {k : String → u_T → Nat → Bool} (h : zfl1 ci f k = true) : ∃ C T N, vwCl[ci]? = some (C, T, N) ∧ f < N ∧ k C T N = true := by
  unfold zfl1 at h
  cases hq : vwCl[ci]? with
  | none => rw [hq] at h; cases h
  | some q =>
    rw [hq] at h
    simp only [Bool.and_eq_true] at h
    exact ⟨q.1, q.2.1, q.2.2, rfl, zblt h.1, h.2⟩
def zpf (kd : Nat) (ds : String) : Bool := match parseFieldDescriptor ds with
  | some ty => zkt kd ty
  | none => false
theorem zpf_ok {kd : Nat} {ds : String} (h : zpf kd ds = true) : ∃ ty, parseFieldDescriptor ds = some ty ∧ zkt kd ty = true := by
  unfold zpf at h
  cases hq : parseFieldDescriptor ds with
  | none => rw [hq] at h; cases h
  | some ty => rw [hq] at h; exact ⟨ty, rfl, h⟩
/-- the words that an instruction of a method needs -/
def zlk0 (own : String) (y : MethodName) (ins : Instr) (lk : List Nat) : Bool := match ins with
  | .getfield idx => (match lk with
    | [ci, f, i] => zfl1 ci f (fun _ T _ => zin i (.fieldLink own idx (T f).1 (T f).2.1 (T f).2.2.1))
    | _ => false)
  | .putfield idx => (match lk with
    | [ci, f, kd, fin, i] => zfl1 ci f (fun _ T _ => zin i (.fieldLink own idx (T f).1 (T f).2.1 (T f).2.2.1) && (zpf kd (T f).2.2.1 && cond (Nat.beq fin 0) (decide ((T f).2.2.2 = false)) (decide ((T f).2.2.2 = true) && (decide ((T f).1 = own) && decide (y.name = "<init>")))))
    | _ => false)
  | .new idx => (match lk with
    | [ci, n, i1, i2, i3] => zfl1 ci 0 (fun C _ N => Nat.beq n N && (zin i1 (.classLink own idx C) && (zin i2 (.instantiable C N) && zin i3 (.initialized C))))
    | _ => false)
  | .newarray at0 => (match lk with
    | [t, i] => Nat.blt t 4 && (decide (newarray.typeOf at0 = zty t) && zin i (.arrayClass (newarray.typeOf at0)))
    | _ => false)
  | .anewarray idx => (match lk with
    | [t, i1, _] => (match zty t with
      | .object C => (Nat.beq t 4 || Nat.beq t 5) && zin i1 (.classLink own idx C)
      | _ => false)
    | _ => false)
  | .ldc idx => (match lk with
    | [v, i] => zin i (.constant own idx (Int32.ofNat v))
    | _ => false)
  | .ldc2_w idx => (match lk with
    | [v, i] => zin i (.constantLong own idx (Int64.ofNat v))
    | _ => false)
  | .aastore => (match lk with
    | [t, ci] => (Nat.beq t 4 && Nat.beq ci 7) || (Nat.beq t 5 && Nat.beq ci 2)
    | _ => false)
  | _ => true
def zpl (v : Value) : Bool := match v with
  | .int _ => true
  | .long _ => true
  | .null => true
  | _ => false
theorem zpl_ok {g : ZG} {ad : List Nat} : ∀ {fs : List Value}, fs.all zpl = true → zvs ad g fs fs := by
  intro fs
  induction fs with
  | nil => exact fun _ => trivial
  | cons v fs ih =>
    intro h
    rw [List.all_cons, Bool.and_eq_true] at h
    refine ⟨?_, ih h.2⟩
    cases v with
    | int x => rfl
    | long x => rfl
    | null => rfl
    | _ => cases h.1
/-- one instruction that neither calls nor ends -/
noncomputable def zx (zd : List (List Value)) (E : ZN) (L k : Nat) (nL bc bs : Nat) (ins : Instr) (lk : List Nat) (pc : Nat) (lv : ZL) (st : List Value) (hp : List ZE) (nc ns : Nat) (ret : ZRt) : ZX := match ins with
  | .iconst n => zi (Int32.ofInt n) (fun x => ret (pc + 1) lv (.int x :: st) hp nc ns)
  | .bipush n => zi (Int8.ofInt n).toInt32 (fun x => ret (pc + 2) lv (.int x :: st) hp nc ns)
  | .sipush n => zi (Int16.ofInt n).toInt32 (fun x => ret (pc + 3) lv (.int x :: st) hp nc ns)
  | .ldc _ => (match lk with
    | [v, _] => zi (Int32.ofNat v) (fun x => ret (pc + 2) lv (.int x :: st) hp nc ns)
    | _ => zfail)
  | .ldc2_w _ => (match lk with
    | [v, _] => ret (pc + 3) lv (.long (Int64.ofNat v) :: st) hp nc ns
    | _ => zfail)
  | .iload_n i => zx_ld zint i.val 1 pc lv st hp nc ns ret
  | .iload i => zx_ld zint i 2 pc lv st hp nc ns ret
  | .aload_n i => zx_ld zref i.val 1 pc lv st hp nc ns ret
  | .aload i => zx_ld zref i 2 pc lv st hp nc ns ret
  | .istore_n i => zx_st zint nL i.val 1 pc lv st hp nc ns ret
  | .istore i => zx_st zint nL i 2 pc lv st hp nc ns ret
  | .astore_n i => zx_st zref nL i.val 1 pc lv st hp nc ns ret
  | .astore i => zx_st zref nL i 2 pc lv st hp nc ns ret
  | .iinc i n => zx_iinc nL i n pc lv st hp nc ns ret
  | .iadd => zx_bin E (fun a b => a + b) pc lv st hp nc ns ret
  | .isub => zx_bin E (fun a b => a - b) pc lv st hp nc ns ret
  | .imul => zx_bin E (fun a b => a * b) pc lv st hp nc ns ret
  | .ior => zx_bin E (fun a b => a ||| b) pc lv st hp nc ns ret
  | .ishl => zx_bin E (fun a b => a <<< (b &&& 31)) pc lv st hp nc ns ret
  | .ishr => zx_bin E (fun a b => a >>> (b &&& 31)) pc lv st hp nc ns ret
  | .idiv => zx_div E (fun a b => a / b) pc lv st hp nc ns ret
  | .irem => zx_div E (fun a b => a - a / b * b) pc lv st hp nc ns ret
  | .iand => zx_and E pc lv st hp nc ns ret
  | .if_icmp op off => zx_icmp E op off pc lv st hp nc ns ret
  | .ifCond op off => zx_if E op off pc lv st hp nc ns ret
  | .goto off => zj pc off (fun t => ret t lv st hp nc ns)
  | .tableswitch dflt lo hi offs => zx_tsw E dflt lo hi offs.toList pc lv st hp nc ns ret
  | .dup => zx_dup pc lv st hp nc ns ret
  | .dup2 => zx_dup2 pc lv st hp nc ns ret
  | .pop => zx_pop pc lv st hp nc ns ret
  | .getfield _ => (match lk with
    | [ci, f, _] => zx_getf ci f pc lv st hp nc ns ret
    | _ => zfail)
  | .putfield _ => (match lk with
    | [ci, f, kd, _, _] => zx_putf ci f kd pc lv st hp nc ns ret
    | _ => zfail)
  | .iaload => cond (Nat.beq k 0) (zx_sld E L pc lv st hp nc ns ret) (zx_ald E (fun t => Nat.beq t 0) pc lv st hp nc ns ret)
  | .baload => zx_ald E (fun t => Nat.beq t 1) pc lv st hp nc ns ret
  | .caload => zx_ald E (fun t => Nat.beq t 2) pc lv st hp nc ns ret
  | .laload => zx_ald E (fun t => Nat.beq t 3) pc lv st hp nc ns ret
  | .aaload => zx_ald E (fun t => Nat.beq t 4 || Nat.beq t 5) pc lv st hp nc ns ret
  | .iastore => zx_ast E 0 zfi pc lv st hp nc ns ret
  | .bastore => zx_ast E 1 (zfz E) pc lv st hp nc ns ret
  | .lastore => zx_ast E 3 zfL pc lv st hp nc ns ret
  | .aastore => (match lk with
    | [t, ci] => zx_ast E t (zfo hp ci) pc lv st hp nc ns ret
    | _ => zfail)
  | .arraylength => cond (Nat.beq k 0) (zx_slen L pc lv st hp nc ns ret) (zx_alen pc lv st hp nc ns ret)
  | .new _ => (match lk with
    | [ci, n, _, _, _] => (match zget zd ci with
      | some fs => zx_new fs ci n bc bs pc lv st hp nc ns ret
      | none => zfail)
    | _ => zfail)
  | .newarray _ => (match lk with
    | [t, _] => zx_newa E t bc bs 2 pc lv st hp nc ns ret
    | _ => zfail)
  | .anewarray _ => (match lk with
    | [t, _, _] => zx_newa E t bc bs 3 pc lv st hp nc ns ret
    | _ => zfail)
  | _ => zfail
/-- what is known of the classes -/
def zCl (zd : List (List Value)) : Prop := ∀ (ci : Nat) (C : String) (T : u_T) (N : Nat), vwCl[ci]? = some (C, T, N) → (∀ w ∈ u_ws C T N, w ∈ zT) ∧ ∃ ty0 : Nat → FieldType, (∀ k, k < N → parseFieldDescriptor (T k).2.2.1 = some (ty0 k)) ∧ (∀ a, a < N → ∀ b, b < N → a ≠ b → (T a).2.1 ≠ (T b).2.1) ∧ ∃ fs, zd[ci]? = some fs ∧ fs.all zpl = true ∧ ∀ j, j < N → defaultValue (ty0 j) = vp_V fs j
section ZMA
variable {p : Program} {l : Launch} {e : Env} {R : Room} {s : State} {m : MethodId} {args : Array Value} {below : List Frame} {meth : Method} {c : Code} {Q : State → Prop} {dC : Nat → ClassId} {dI : Nat → Nat → Nat} {cA : Nat → ClassId} {g : ZG} {A : Nat → Prop} {nL : Nat} {cc : ByteArray} {pc : Nat} {lv : ZL} {st : List Value} {hp : List ZE} {nc ns : Nat} {ret : ZRt} {r : ZS} {E : ZN} {own : String}
set_option maxHeartbeats 4000000 in
theorem zx_sound {zd : List (List Value)} {L k bc bs len : Nat} {y : MethodName} {ins : Instr} {lk : List Nat} (hcl : zCl zd) (hz9 : zX s) (hx : p.tables.exec = Jvm.exec) (hb : c.code = cc) (hown : s.vm.findClass own = some m.cls) (hts : ∀ w ∈ zT, w.before args s = true) (hK : va_K (dC, dI) vwCl (ztys cA) s) (hA : ∀ q, s.heap.size ≤ q → A q) (hE : zen E g) (hg : g.1 7 = g.1 0 &&& 31) (hRc : bc ≤ R.cells) (hRs : bs ≤ R.slots) (hI : y.name = "<init>" → meth.name = "<init>")
    (hscr : k = 0 → ∃ xs : Nat → Int32, va_X g.2.1 L xs s s.heap ∧ g.2.1 < s.heap.size ∧ ¬ A g.2.1 ∧ (∀ j, j < L → g.1 j = xs j) ∧ L < 2 ^ 31)
    (hdg : decode cc pc = .ok (ins, len)) (hlen : zlok ins len = true) (hlk : zlk0 own y ins lk = true) (h : zx zd E L k nL bc bs ins lk pc lv st hp nc ns ret = .ok r) (Hk : ∀ (pc : Nat) (lv : ZL) (st : List Value) (hp : List ZE) (nc ns : Nat), ret pc lv st hp nc ns = .ok r → zW p l e R s m args below meth c Q dC dI cA g A nL pc lv st hp nc ns) : zW p l e R s m args below meth c Q dC dI cA g A nL pc lv st hp nc ns := by
  cases ins with
  | iconst n =>
    cases Nat.beq_eq.mp (show Nat.beq len 1 = true from hlen)
    simp only [zx, zi_eq] at h
    exact zs_push (v := .int _) (fun _ => rfl) (fun H locs ls cst w => lv_iconst hx hb hdg rfl w) (Hk _ _ _ _ _ _ h)
  | bipush n =>
    cases Nat.beq_eq.mp (show Nat.beq len 2 = true from hlen)
    simp only [zx, zi_eq] at h
    exact zs_push (v := .int _) (fun _ => rfl) (fun H locs ls cst w => lv_bipush hx hb hdg rfl w) (Hk _ _ _ _ _ _ h)
  | sipush n =>
    cases Nat.beq_eq.mp (show Nat.beq len 3 = true from hlen)
    simp only [zx, zi_eq] at h
    exact zs_push (v := .int _) (fun _ => rfl) (fun H locs ls cst w => lv_sipush hx hb hdg rfl w) (Hk _ _ _ _ _ _ h)
  | ldc idx =>
    cases Nat.beq_eq.mp (show Nat.beq len 2 = true from hlen)
    match lk, hlk, h with
    | [v, i], hlk, h =>
      simp only [zx, zi_eq] at h
      exact zs_push (v := .int _) (fun _ => rfl) (fun H locs ls cst w => lv_ldc hx hb hown (hts _ (zin_ok hlk)) hdg w) (Hk _ _ _ _ _ _ h)
    | [], hlk, h => cases hlk
    | [_], hlk, h => cases hlk
    | _ :: _ :: _ :: _, hlk, h => cases hlk
  | ldc2_w idx =>
    cases Nat.beq_eq.mp (show Nat.beq len 3 = true from hlen)
    match lk, hlk, h with
    | [v, i], hlk, h =>
      simp only [zx] at h
      exact zs_push (v := .long _) (fun _ => rfl) (fun H locs ls cst w => lv_ldc2 hx hb hown (hts _ (zin_ok hlk)) hdg w) (Hk _ _ _ _ _ _ h)
    | [], hlk, h => cases hlk
    | [_], hlk, h => cases hlk
    | _ :: _ :: _ :: _, hlk, h => cases hlk
  | iload_n i =>
    cases Nat.beq_eq.mp (show Nat.beq len 1 = true from hlen)
    exact zs_iload_n hx hb hdg h Hk
  | iload i =>
    cases Nat.beq_eq.mp (show Nat.beq len 2 = true from hlen)
    exact zs_iload hx hb hdg h Hk
  | aload_n i =>
    cases Nat.beq_eq.mp (show Nat.beq len 1 = true from hlen)
    exact zs_aload_n hx hb hdg h Hk
  | aload i =>
    cases Nat.beq_eq.mp (show Nat.beq len 2 = true from hlen)
    exact zs_aload hx hb hdg h Hk
  | istore_n i =>
    cases Nat.beq_eq.mp (show Nat.beq len 1 = true from hlen)
    exact zs_istore_n hx hb hdg h Hk
  | istore i =>
    cases Nat.beq_eq.mp (show Nat.beq len 2 = true from hlen)
    exact zs_istore hx hb hdg h Hk
  | astore_n i =>
    cases Nat.beq_eq.mp (show Nat.beq len 1 = true from hlen)
    exact zs_astore_n hx hb hdg h Hk
  | astore i =>
    cases Nat.beq_eq.mp (show Nat.beq len 2 = true from hlen)
    exact zs_astore hx hb hdg h Hk
  | iinc i n =>
    cases Nat.beq_eq.mp (show Nat.beq len 3 = true from hlen)
    exact zs_iinc hx hb hdg h Hk
  | iadd =>
    cases Nat.beq_eq.mp (show Nat.beq len 1 = true from hlen)
    exact zs_bin hE (fun a b H locs ls cst w => lv_iadd hx hb hdg w) h Hk
  | isub =>
    cases Nat.beq_eq.mp (show Nat.beq len 1 = true from hlen)
    exact zs_bin hE (fun a b H locs ls cst w => lv_isub hx hb hdg w) h Hk
  | imul =>
    cases Nat.beq_eq.mp (show Nat.beq len 1 = true from hlen)
    exact zs_bin hE (fun a b H locs ls cst w => lv_imul hx hb hdg w) h Hk
  | ior =>
    cases Nat.beq_eq.mp (show Nat.beq len 1 = true from hlen)
    exact zs_bin hE (fun a b H locs ls cst w => lv_ior hx hb hdg w) h Hk
  | ishl =>
    cases Nat.beq_eq.mp (show Nat.beq len 1 = true from hlen)
    exact zs_bin hE (fun a b H locs ls cst w => lv_ishl hx hb hdg w) h Hk
  | ishr =>
    cases Nat.beq_eq.mp (show Nat.beq len 1 = true from hlen)
    exact zs_bin hE (fun a b H locs ls cst w => lv_ishr hx hb hdg w) h Hk
  | idiv =>
    cases Nat.beq_eq.mp (show Nat.beq len 1 = true from hlen)
    exact zs_div hE (fun a b H locs ls cst hne w => lv_idiv hx hb hdg hne w) h Hk
  | irem =>
    cases Nat.beq_eq.mp (show Nat.beq len 1 = true from hlen)
    exact zs_div hE (fun a b H locs ls cst hne w => lv_irem hx hb hdg hne w) h Hk
  | iand =>
    cases Nat.beq_eq.mp (show Nat.beq len 1 = true from hlen)
    exact zs_and hx hb hE hg hdg h Hk
  | if_icmp op off =>
    cases Nat.beq_eq.mp (show Nat.beq len 3 = true from hlen)
    exact zs_icmp hx hb hE hdg h Hk
  | ifCond op off =>
    cases Nat.beq_eq.mp (show Nat.beq len 3 = true from hlen)
    exact zs_if hx hb hE hdg h Hk
  | goto off =>
    cases Nat.beq_eq.mp (show Nat.beq len 3 = true from hlen)
    exact zs_goto hx hb hdg h Hk
  | tableswitch dflt lo hi offs => exact zs_tsw hx hb hE hdg h Hk
  | dup =>
    cases Nat.beq_eq.mp (show Nat.beq len 1 = true from hlen)
    exact zs_dup hx hb hdg h Hk
  | dup2 =>
    cases Nat.beq_eq.mp (show Nat.beq len 1 = true from hlen)
    exact zs_dup2 hx hb hdg h Hk
  | pop =>
    cases Nat.beq_eq.mp (show Nat.beq len 1 = true from hlen)
    exact zs_pop hx hb hdg h Hk
  | getfield idx =>
    cases Nat.beq_eq.mp (show Nat.beq len 3 = true from hlen)
    match lk, hlk, h with
    | [ci, f, i], hlk, h =>
      simp only [zlk0] at hlk
      obtain ⟨C, T, N, h1, h2, h3⟩ := zfl1_ok hlk
      exact zs_getf hx hb hown hts hK (hcl ci C T N h1).1 h1 h2 (zin_ok h3) hdg h Hk
    | [], hlk, h => cases hlk
    | [_], hlk, h => cases hlk
    | [_, _], hlk, h => cases hlk
    | _ :: _ :: _ :: _ :: _, hlk, h => cases hlk
  | putfield idx =>
    cases Nat.beq_eq.mp (show Nat.beq len 3 = true from hlen)
    match lk, hlk, h with
    | [ci, f, kd, fin, i], hlk, h =>
      simp only [zlk0] at hlk
      obtain ⟨C, T, N, h1, h2, h3⟩ := zfl1_ok hlk
      rw [Bool.and_eq_true, Bool.and_eq_true] at h3
      obtain ⟨h4, h5, h6⟩ := h3
      obtain ⟨ty, h7, h8⟩ := zpf_ok h5
      obtain ⟨q1, ty0, q2, q3, -⟩ := hcl ci C T N h1
      cases hf : Nat.beq fin 0 with
      | true =>
        rw [hf, cond_true] at h6
        exact zs_putf hx hb hown hts hK q1 q2 q3 h1 h2 (zin_ok h4) (of_decide_eq_true h6) h7 h8 hdg h Hk
      | false =>
        rw [hf, cond_false, Bool.and_eq_true, Bool.and_eq_true] at h6
        exact zs_putF hx hb hown hts hK q1 q2 q3 h1 h2 (zin_ok h4) (of_decide_eq_true h6.1) (hI (of_decide_eq_true h6.2.2)) (of_decide_eq_true h6.2.1) h7 h8 hdg h Hk
    | [], hlk, h => cases hlk
    | [_], hlk, h => cases hlk
    | [_, _], hlk, h => cases hlk
    | [_, _, _], hlk, h => cases hlk
    | [_, _, _, _], hlk, h => cases hlk
    | _ :: _ :: _ :: _ :: _ :: _ :: _, hlk, h => cases hlk
  | iaload =>
    cases Nat.beq_eq.mp (show Nat.beq len 1 = true from hlen)
    simp only [zx] at h
    cases hk : Nat.beq k 0 with
    | true =>
      rw [hk, cond_true] at h
      obtain ⟨xs, q1, q2, q3, q4, q5⟩ := hscr (Nat.beq_eq.mp hk)
      exact zs_sld hx hb hE q1 q2 q3 q4 q5 hdg h Hk
    | false =>
      rw [hk, cond_false] at h
      exact zs_iald hx hb hK hE hdg h Hk
  | baload =>
    cases Nat.beq_eq.mp (show Nat.beq len 1 = true from hlen)
    exact zs_zald hx hb hK hE hdg h Hk
  | caload =>
    cases Nat.beq_eq.mp (show Nat.beq len 1 = true from hlen)
    exact zs_cald hx hb hK hE hdg h Hk
  | laload =>
    cases Nat.beq_eq.mp (show Nat.beq len 1 = true from hlen)
    exact zs_lald hx hb hK hE hdg h Hk
  | aaload =>
    cases Nat.beq_eq.mp (show Nat.beq len 1 = true from hlen)
    exact zs_aald hx hb hK hE hdg h Hk
  | iastore =>
    cases Nat.beq_eq.mp (show Nat.beq len 1 = true from hlen)
    exact zs_iast hx hb hK hE hdg h Hk
  | bastore =>
    cases Nat.beq_eq.mp (show Nat.beq len 1 = true from hlen)
    exact zs_zast hx hb hK hE hdg h Hk
  | lastore =>
    cases Nat.beq_eq.mp (show Nat.beq len 1 = true from hlen)
    exact zs_last hx hb hK hE hdg h Hk
  | aastore =>
    cases Nat.beq_eq.mp (show Nat.beq len 1 = true from hlen)
    match lk, hlk, h with
    | [t, ci], hlk, h =>
      have h1 : ((Nat.beq t 4 && Nat.beq ci 7) || (Nat.beq t 5 && Nat.beq ci 2)) = true := hlk
      rw [Bool.or_eq_true, Bool.and_eq_true, Bool.and_eq_true] at h1
      exact zs_aast hx hb hK hE (h1.imp (fun q => ⟨Nat.beq_eq.mp q.1, Nat.beq_eq.mp q.2⟩) (fun q => ⟨Nat.beq_eq.mp q.1, Nat.beq_eq.mp q.2⟩)) hdg h Hk
    | [], hlk, h => cases hlk
    | [_], hlk, h => cases hlk
    | _ :: _ :: _ :: _, hlk, h => cases hlk
  | arraylength =>
    cases Nat.beq_eq.mp (show Nat.beq len 1 = true from hlen)
    simp only [zx] at h
    cases hk : Nat.beq k 0 with
    | true =>
      rw [hk, cond_true] at h
      obtain ⟨xs, q1, q2, q3, q4, q5⟩ := hscr (Nat.beq_eq.mp hk)
      exact zs_slen hx hb q1 q2 q3 hdg h Hk
    | false =>
      rw [hk, cond_false] at h
      exact zs_alen hx hb hK hdg h Hk
  | new idx =>
    cases Nat.beq_eq.mp (show Nat.beq len 3 = true from hlen)
    match lk, hlk, h with
    | [ci, n, i1, i2, i3], hlk, h =>
      simp only [zlk0] at hlk
      obtain ⟨C, T, N, h1, h2, h3⟩ := zfl1_ok hlk
      rw [Bool.and_eq_true, Bool.and_eq_true, Bool.and_eq_true] at h3
      obtain ⟨h4, h5, h6, h7⟩ := h3
      cases Nat.beq_eq.mp h4
      obtain ⟨q1, ty0, q2, q3, fs, q4, q5, q6⟩ := hcl ci C T n h1
      simp only [zx, zget_eq, q4] at h
      exact zs_new hx hb hown hts hK hA hRc hRs q1 q2 h1 q6 (fun ad => zpl_ok q5) (zin_ok h5) (zin_ok h6) (zin_ok h7) hdg h Hk
    | [], hlk, h => cases hlk
    | [_], hlk, h => cases hlk
    | [_, _], hlk, h => cases hlk
    | [_, _, _], hlk, h => cases hlk
    | [_, _, _, _], hlk, h => cases hlk
    | _ :: _ :: _ :: _ :: _ :: _ :: _, hlk, h => cases hlk
  | newarray at0 =>
    cases Nat.beq_eq.mp (show Nat.beq len 2 = true from hlen)
    match lk, hlk, h with
    | [t, i], hlk, h =>
      have h1 : (Nat.blt t 4 && (decide (newarray.typeOf at0 = zty t) && zin i (.arrayClass (newarray.typeOf at0)))) = true := hlk
      rw [Bool.and_eq_true, Bool.and_eq_true] at h1
      exact zs_newa hx hb hts hK hE hA hRc hRs (zblt h1.1) (of_decide_eq_true h1.2.1) (zin_ok h1.2.2) hdg h Hk
    | [], hlk, h => cases hlk
    | [_], hlk, h => cases hlk
    | _ :: _ :: _ :: _, hlk, h => cases hlk
  | anewarray idx =>
    cases Nat.beq_eq.mp (show Nat.beq len 3 = true from hlen)
    match lk, hlk, h with
    | [t, i1, i2], hlk, h =>
      simp only [zlk0] at hlk
      cases hz : zty t with
      | object C =>
        rw [hz] at hlk
        simp only [Bool.and_eq_true, Bool.or_eq_true] at hlk
        have ho : va_AO C s := by
          rcases hlk.1 with z | z
          · cases Nat.beq_eq.mp z
            cases hz
            exact hz9.2.1
          · cases Nat.beq_eq.mp z
            cases hz
            exact hz9.2.2
        exact zs_anewa hx hb hown hts hK hE hA hRc hRs (hlk.1.imp Nat.beq_eq.mp Nat.beq_eq.mp) hz (zin_ok hlk.2) ho hdg h Hk
      | _ => rw [hz] at hlk; cases hlk
    | [], hlk, h => cases hlk
    | [_], hlk, h => cases hlk
    | [_, _], hlk, h => cases hlk
    | _ :: _ :: _ :: _ :: _, hlk, h => cases hlk
  | _ => cases h
end ZMA
end
section
/-! calls, and the run -/
def zcw (own : String) (idx kd : Nat) (y : MethodName) (cc : ByteArray) (mL : Nat) (rt : Option FieldType) : List Cond := match kd with
  | 0 => [.methodLink own idx y, .static y, .initialized y.cls, .code y cc mL rt]
  | 1 => [.static y, .initialized y.cls, .code y cc mL rt]
  | 2 => [.methodLink own idx y, .instanceMethod y, .initialized y.cls, .code y cc mL rt, .selects y.cls y y]
  | 4 => [.methodLink own idx y, .instanceMethod y, .initialized y.cls, .code y cc mL rt]
  | _ => [.instanceMethod y, .initialized y.cls, .code y cc mL rt]
def zcwk (own : String) (idx kd : Nat) (y : MethodName) (cc : ByteArray) (mL : Nat) (rt : Option FieldType) (is : List Nat) : Bool := cond (Nat.beq kd 1 || Nat.beq kd 5) (match is with
  | i :: is => zinN i (.methodLinkNest own idx y "NamesUnder") && zchk (zcw own idx kd y cc mL rt) is
  | [] => false) (zchk (zcw own idx kd y cc mL rt) is)
theorem zcwk_ok {own : String} {idx kd : Nat} {y : MethodName} {cc : ByteArray} {mL : Nat} {rt : Option FieldType} {is : List Nat} (h : zcwk own idx kd y cc mL rt is = true) : (∀ w ∈ zcw own idx kd y cc mL rt, w ∈ zT) ∧ (kd = 1 ∨ kd = 5 → Cond.methodLinkNest own idx y "NamesUnder" ∈ zNl) := by
  unfold zcwk at h
  cases hk : (Nat.beq kd 1 || Nat.beq kd 5) with
  | true =>
    rw [hk, cond_true] at h
    cases is with
    | nil => cases h
    | cons i is =>
      simp only [Bool.and_eq_true] at h
      exact ⟨zchk_ok h.2, fun _ => zinN_ok h.1⟩
  | false =>
    rw [hk, cond_false] at h
    refine ⟨zchk_ok h, fun q => ?_⟩
    rcases q with rfl | rfl
    · cases hk
    · cases hk
def zcal (zm : List ZMe) (own : String) (idx kd kc n ci : Nat) (is : List Nat) : Bool := match zm[kc]? with
  | some me => zcwk own idx kd me.2.1 me.2.2.1 me.2.2.2.1 me.2.2.2.2.1 is && (decide (me.2.1.cls ≠ "java/lang/invoke/MethodHandle" ∧ me.2.1.cls ≠ "java/lang/invoke/VarHandle" ∧ (parseMethodDescriptor me.2.1.desc).map (fun d => d.parameters.length) = some n) && (Nat.ble me.2.2.2.1 21 && (Jvm.plainName me.2.1.cls && (decide (me.1 = me.2.1.cls) && (cond (Nat.ble kd 1) true (zfl1 ci 0 (fun C _ _ => decide (C = me.2.1.cls))) && (cond (Nat.ble kd 3) true (decide (me.2.1.name = "<init>" ∧ me.2.2.2.2.1 = none)) && !(Nat.beq kc 0)))))))
  | none => false
def zlkc (zm : List ZMe) (own : String) (ins : Instr) (lk : List Nat) : Bool := match ins with
  | .invokespecial idx => (match lk with
    | kd :: kc :: n :: ci :: is => cond (Nat.beq kd 6) (zchk [.methodLink own idx objectInit, .instanceMethod objectInit, .code objectInit ⟨#[0xb1]⟩ 1 none] is) ((Nat.beq kd 4 || Nat.beq kd 5) && zcal zm own idx kd kc n ci is)
    | _ => false)
  | .invokestatic idx => (match lk with
    | kd :: kc :: n :: ci :: is => cond (Nat.beq kd 7) (zchk [.methodLink own idx arraycopyName, .native arraycopyName, .static arraycopyName, .initialized "java/lang/System"] is) (cond (Nat.beq kd 8) (zchk [.methodLink own idx Lib.Math.max.name, .static Lib.Math.max.name, .initialized "java/lang/Math", .code Lib.Math.max.name Lib.Math.max.code 2 (some .int)] is) ((Nat.beq kd 0 || Nat.beq kd 1) && zcal zm own idx kd kc n ci is))
    | _ => false)
  | .invokevirtual idx => (match lk with
    | kd :: kc :: n :: ci :: is => Nat.beq kd 2 && zcal zm own idx kd kc n ci is
    | _ => false)
  | _ => true
def zok (zm : List ZMe) (me : ZMe) (q : ZI) : Bool := decide (decode me.2.2.1 q.1 = .ok (q.2.1, q.2.2.1)) && (zlok q.2.1 q.2.2.1 && (zlk0 me.1 me.2.1 q.2.1 q.2.2.2 && zlkc zm me.1 q.2.1 q.2.2.2))
def zTab (zm : List ZMe) (zc : List (List ZI)) : Prop := ∀ (k : Nat) (me : ZMe) (tb : List ZI), zm[k]? = some me → zc[k]? = some tb → ∀ q ∈ tb, zok zm me q = true
noncomputable def zft (tb : List ZI) (pc : Nat) : Option ZI := List.rec (motive := fun _ => Option ZI) none (fun q _ ih => cond (Nat.beq q.1 pc) (some q) ih) tb
theorem zft_ok {tb : List ZI} {pc : Nat} {q : ZI} (h : zft tb pc = some q) : q ∈ tb ∧ q.1 = pc := by
  induction tb with
  | nil => cases h
  | cons a r ih =>
    have h2 : cond (Nat.beq a.1 pc) (some a) (zft r pc) = some q := h
    cases hb : Nat.beq a.1 pc with
    | true =>
      rw [hb, cond_true] at h2
      cases h2
      exact ⟨List.mem_cons_self, Nat.beq_eq.mp hb⟩
    | false =>
      rw [hb, cond_false] at h2
      exact ⟨List.mem_cons_of_mem _ (ih h2).1, (ih h2).2⟩
def zstop (rt : Option FieldType) (i : Instr) : Bool := match rt with
  | none => (match i with
    | .return_ => true
    | _ => false)
  | some _ => (match i with
    | .ireturn => true
    | _ => false)
def zrt (ty : FieldType) (v : Value) : Bool := match ty with
  | .int => zkd 0 v
  | .boolean => zkd 1 v
  | _ => false
def zrcv (hp : List ZE) (v : Option Value) (q : Nat → Option ZE) (ci : Nat) : Bool := match v with
  | some (.ref k) => (match q k with
    | some (.inr x) => Nat.beq x.1 ci
    | _ => false)
  | _ => false
noncomputable def zback (me : ZMe) (bc bs : Nat) (rest : List Value) (pc : Nat) (lv : ZL) (nc ns : Nat) (r : ZS) (ret : ZRt) : ZX :=
  cond (Nat.ble r.2.2.2.2.1 bc && Nat.ble r.2.2.2.2.2 bs) (zn (nc + bc) (fun nc' => zn (ns + bs) (fun ns' => match me.2.2.2.2.1, r.2.2.1 with
    | none, [] => ret (pc + 3) lv rest r.2.2.2.1 nc' ns'
    | some ty, [v] => cond (zrt ty v) (ret (pc + 3) lv (v :: rest) r.2.2.2.1 nc' ns') zfail
    | _, _ => zfail))) zfail
noncomputable def zfin (zc : List (List ZI)) (kc : Nat) (rt : Option FieldType) (pc : Nat) (x : ZX) : ZX := match zget zc kc with
  | some tb => (match zft tb pc with
    | some q => cond (zstop rt q.2.1) x zfail
    | none => zfail)
  | none => zfail
theorem zfin_ok {zc : List (List ZI)} {kc pc : Nat} {rt : Option FieldType} {x : ZX} {r : ZS} (h : zfin zc kc rt pc x = .ok r) : (∃ (tb : List ZI) (q : ZI), zc[kc]? = some tb ∧ q ∈ tb ∧ q.1 = pc ∧ zstop rt q.2.1 = true) ∧ x = .ok r := by
  unfold zfin at h
  rw [zget_eq] at h
  cases hc : zc[kc]? with
  | none => rw [hc] at h; cases h
  | some tb =>
    rw [hc] at h
    simp only at h
    cases hf : zft tb pc with
    | none => rw [hf] at h; cases h
    | some q =>
      rw [hf] at h
      simp only at h
      cases hs : zstop rt q.2.1 with
      | false => rw [hs] at h; cases h
      | true =>
        rw [hs, cond_true] at h
        exact ⟨⟨tb, q, rfl, (zft_ok hf).1, (zft_ok hf).2, hs⟩, h⟩
noncomputable def zinv (zm : List ZMe) (zc : List (List ZI)) (rec9 : Nat → Nat → ZRt) (k d bc bs kd kc n ci : Nat) (pc : Nat) (lv : ZL) (st : List Value) (hp : List ZE) (nc ns : Nat) : ZX := match zget zm kc with
  | some me => zn (cond (Nat.ble kd 1) n (n + 1)) (fun na => cond (Nat.beq (st.take na).length na && (Nat.ble ((st.drop na).map fun v => v.category).sum 8 && (Nat.ble ((st.take na).map fun v => v.category).sum me.2.2.2.1 && (Nat.ble (nc + me.2.2.2.2.2.1) bc && (Nat.ble (ns + me.2.2.2.2.2.2) bs && cond (Nat.ble kd 1) true (zrcv hp (zget st n) (zget hp) ci))))))
      (Nat.rec (motive := fun _ => ZX) zfail (fun d' _ => zfl (st.take na).reverse (fun as => zfl (st.drop na) (fun rest => zfl (lv_args 0 as) (fun la => match rec9 kc d' 0 la [] hp 0 0 with
        | .error x => .error x
        | .ok r => zfin zc kc me.2.2.2.2.1 r.1 (zback me me.2.2.2.2.2.1 me.2.2.2.2.2.2 rest pc lv nc ns r (rec9 k d)))))) d) zfail)
  | none => zfail
noncomputable def zcl (zm : List ZMe) (zc : List (List ZI)) (E : ZN) (rec9 : Nat → Nat → ZRt) (k d bc bs : Nat) (lk : List Nat) (pc : Nat) (lv : ZL) (st : List Value) (hp : List ZE) (nc ns : Nat) : ZX := match lk with
  | kd :: kc :: n :: ci :: _ => cond (Nat.beq kd 6) (cond (Nat.ble 1 d) (zx_obj pc lv st hp nc ns (rec9 k d)) zfail) (cond (Nat.beq kd 7) (cond (Nat.ble 1 d) (zx_cpy E pc lv st hp nc ns (rec9 k d)) zfail) (cond (Nat.beq kd 8) (cond (Nat.ble 1 d) (zx_max E bc bs pc lv st hp nc ns (rec9 k d)) zfail) (zinv zm zc rec9 k d bc bs kd kc n ci pc lv st hp nc ns)))
  | _ => zfail
noncomputable def zdo (zm : List ZMe) (zc : List (List ZI)) (zd : List (List Value)) (E : ZN) (L : Nat) (rec9 : Nat → Nat → ZRt) (k d : Nat) (me : ZMe) (ins : Instr) (lk : List Nat) (pc : Nat) (lv : ZL) (st : List Value) (hp : List ZE) (nc ns : Nat) : ZX := match ins with
  | .invokespecial _ => zcl zm zc E rec9 k d me.2.2.2.2.2.1 me.2.2.2.2.2.2 lk pc lv st hp nc ns
  | .invokestatic _ => zcl zm zc E rec9 k d me.2.2.2.2.2.1 me.2.2.2.2.2.2 lk pc lv st hp nc ns
  | .invokevirtual _ => zcl zm zc E rec9 k d me.2.2.2.2.2.1 me.2.2.2.2.2.2 lk pc lv st hp nc ns
  | ins => zx zd E L k me.2.2.2.1 me.2.2.2.2.2.1 me.2.2.2.2.2.2 ins lk pc lv st hp nc ns (rec9 k d)
noncomputable def zstep (zm : List ZMe) (zc : List (List ZI)) (zd : List (List Value)) (E : ZN) (L sp : Nat) (rec9 : Nat → Nat → ZRt) (k d : Nat) (pc : Nat) (lv : ZL) (st : List Value) (hp : List ZE) (nc ns : Nat) : ZX := zn pc (fun pc => match zget zm k, zget zc k with
  | some me, some tb => (match zft tb pc with
    | some q => cond (zstop me.2.2.2.2.1 q.2.1 || (Nat.beq k 0 && Nat.beq pc sp)) (.ok (pc, lv, st, hp, nc, ns)) (zdo zm zc zd E L rec9 k d me q.2.1 q.2.2.2 pc lv st hp nc ns)
    | none => zfail)
  | _, _ => zfail)
noncomputable def zgo (zm : List ZMe) (zc : List (List ZI)) (zd : List (List Value)) (E : ZN) (L sp : Nat) (n : Nat) : Nat → Nat → ZRt := Nat.rec (motive := fun _ => Nat → Nat → ZRt) (fun _ _ _ _ _ _ _ _ => zfail) (fun _ ih => zstep zm zc zd E L sp ih) n
def zF (E : ZN) (L k d : Nat) (me : ZMe) (p : Program) (R : Room) (s : State) (m : MethodId) (args : Array Value) (meth : Method) (c : Code) (dC : Nat → ClassId) (dI : Nat → Nat → Nat) (cA : Nat → ClassId) (g : ZG) (A : Nat → Prop) : Prop :=
  p.tables.exec = Jvm.exec ∧ c.code = me.2.2.1 ∧ c.maxLocals = me.2.2.2.1 ∧ s.vm.findClass me.1 = some m.cls ∧ (∀ w ∈ zT, w.before args s = true) ∧ va_K (dC, dI) vwCl (ztys cA) s ∧ (∀ q, s.heap.size ≤ q → A q) ∧ zen E g ∧ g.1 7 = g.1 0 &&& 31 ∧ (d ≤ R.frames ∧ 40 * d ≤ R.locals) ∧ (me.2.2.2.2.2.1 ≤ R.cells ∧ me.2.2.2.2.2.2 ≤ R.slots) ∧ (me.2.1.name = "<init>" → meth.name = "<init>") ∧ zX s ∧
  (k = 0 → ∃ xs : Nat → Int32, va_X g.2.1 L xs s s.heap ∧ g.2.1 < s.heap.size ∧ ¬ A g.2.1 ∧ (∀ j, j < L → g.1 j = xs j) ∧ L < 2 ^ 31)
def zB (dC : Nat → ClassId) (dI : Nat → Nat → Nat) (cA : Nat → ClassId) (ws : va_W) (sz : Nat) (U : State) : Prop := U.heap.size = sz ∧ va_P (dC, dI) vwCl ws U.heap ∧ va_K (dC, dI) vwCl (ztys cA) U ∧ va_D (fun _ => True) ws ∧ zX U
theorem zB_blind {dC : Nat → ClassId} {dI : Nat → Nat → Nat} {cA : Nat → ClassId} {ws : va_W} {sz : Nat} {cas : List Value} : FrameBlind (va_Pc cas (zB dC dI cA ws sz)) := by
  intro a U g mk q
  obtain ⟨q0, q1, qP, qK, qD, qX⟩ := q
  exact ⟨q0, q1, qP, va_K.moved (u := U) (U := U.calling g mk a) (Vm.Alike.refl U.vm) qK, qD, zX.same (s := U) (U := U.calling g mk a) rfl qX⟩
def zpost (g : ZG) (cA : Nat → ClassId) (hp : List ZE) (ws u : va_W) : Prop := zh g cA hp u ∧ ∀ (k a : Nat), (zad ws)[k]? = some a → (zad u)[k]? = some a
def zend (dC : Nat → ClassId) (dI : Nat → Nat → Nat) (cA : Nat → ClassId) (A : Nat → Prop) (u : va_W) (t : State) : Prop := va_P (dC, dI) vwCl u t.heap ∧ va_K (dC, dI) vwCl (ztys cA) t ∧ va_D A u
/-- a run of a method from its entry to its return is its contract -/
def zRun (E : ZN) (L k d : Nat) (me : ZMe) (l : Launch) (dC : Nat → ClassId) (dI : Nat → Nat → Nat) (cA : Nat → ClassId) (la : ZL) (hp : List ZE) (r : ZS) : Prop :=
  ∀ (p : Program) (e : Env) (R : Room) (s : State) (m : MethodId) (args : Array Value) (below : List Frame) (meth : Method) (c : Code) (Q : State → Prop) (g : ZG) (A : Nat → Prop), zF E L k d me p R s m args meth c dC dI cA g A →
    zW p l e R s m args below meth c Q dC dI cA g A me.2.2.2.1 r.1 r.2.1 r.2.2.1 r.2.2.2.1 r.2.2.2.2.1 r.2.2.2.2.2 → zW p l e R s m args below meth c Q dC dI cA g A me.2.2.2.1 0 la [] hp 0 0
section ZME
variable {E : ZN} {L kc d : Nat} {own : String} {y : MethodName} {cc : ByteArray} {mL bc bs : Nat} {l : Launch} {dC : Nat → ClassId} {dI : Nat → Nat → Nat} {cA : Nat → ClassId} {g : ZG} {as cas : List Value} {hp hp' : List ZE} {ws : va_W} {sz pc' nc' ns' : Nat} {lv' : ZL}
theorem zmetv (hpl : Jvm.plainName y.cls = true) (hoy : own = y.cls) (hkc : ¬ kc = 0) (hE : zen E g) (hg7 : g.1 7 = g.1 0 &&& 31) (hzh : zh g cA hp ws) (hzv : zvs (zad ws) g as cas) (hlen : (lg_sl cas).length ≤ mL) (hnc : nc' ≤ bc) (hns : ns' ≤ bs) (hdec : decode cc pc' = .ok (.return_, 1))
    (H0 : zRun E L kc d (own, y, cc, mL, none, bc, bs) l dC dI cA (lv_args 0 as) hp (pc', lv', [], hp', nc', ns')) :
    Met l y (.code y cc mL none :: zT) { frames := d, cells := bc, slots := bs, locals := 40 * d } (va_Pc cas (zB dC dI cA ws sz)) (va_Qv (zpost (zga g (zad ws)) cA hp' ws) (zend dC dI cA (va_A ws sz)) (va_A ws sz)) bc bs (va_A ws sz) := by
  refine Met.ofW (cc := cc) (maxL := mL) (ret := none) hpl rfl ?_
  intro p e s m args below meth c s₁ B hml hv
  obtain ⟨rfl, hsz, hP, hK, hD0, hz9⟩ := hv
  have hx := B.exec
  have hb := B.bytes
  have hr := B.returns
  have hts := atoms_spec (ws := .code y cc mL none :: zT) B.pre
  have hown : s.vm.findClass y.cls = some m.cls := findClass_of_methodNamed B.named
  have hlocks := B.notSynchronized
  have hin : meth.name = y.name := (name_of_methodNamed B.named B.method).1
  subst hsz
  have hD := hD0.self (sz := s.heap.size)
  have hS : va_S (va_A ws s.heap.size) s.heap s.heap [] := va_S.rf
  have hl := lv_entry cas (n := mL) hlen
  rw [lg_entry_eq]
  generalize (lg_sl cas ++ List.replicate (mL - (lg_sl cas).length) Slot.unset).toArray = ls at hl ⊢
  have F : zF E L kc d (own, y, cc, mL, none, bc, bs) p { frames := d, cells := bc, slots := bs, locals := 40 * d } s m cas.toArray meth c dC dI cA (zga g (zad ws)) (va_A ws s.heap.size) :=
    ⟨hx, hb, hml, by rw [hoy]; exact hown, fun w hw => hts w (List.mem_cons_of_mem _ hw), hK, fun q h => Or.inr h, hE, hg7, ⟨Nat.le_refl _, Nat.le_refl _⟩, ⟨Nat.le_refl _, Nat.le_refl _⟩, fun h => hin.trans h, hz9, fun h => absurd h hkc⟩
  refine H0 p e _ s m _ below meth c _ (zga g (zad ws)) (va_A ws s.heap.size) F ?_ ws s.heap [] ls (lv_args 0 cas) [] ⟨zh_g (g := g) rfl rfl (fun _ _ h => h) hzh, hP, hD, hS, hl, zls_args 0 (zvs_g (g := g) (g' := zga g (zad ws)) rfl rfl hzv), trivial⟩
  intro ws' H locs ls' clv cst ⟨r1, r2, r3, r4, r5, r6, r7⟩
  cases zvs_nil r7
  refine W.widen hnc hns ?_
  exact W.vret hx hb hr (fun t ht hW => ⟨⟨ws', rfl, ⟨r1, r1.2.2⟩, by rw [ht]; exact r2, va_K.moved hW.alike hK, r3⟩, r4.F ht⟩) r4.2.2 hdec
theorem zrt_ok {ad : List Nat} {g : ZG} {ty : FieldType} {v cv : Value} (h : zrt ty v = true) (hv : zv ad g v cv) : ∃ x : Int32, cv = .int x ∧ narrow ty (.int x) = .int x := by
  cases ty with
  | int =>
    obtain ⟨x, rfl⟩ := zint_ok (show zint v = true from h) hv
    exact ⟨x, rfl, rfl⟩
  | boolean =>
    have h1 := (zkd_ok (ty := .boolean) (show zkd 1 v = true from h) rfl hv).1
    cases v with
    | int x =>
      cases (show cv = _ from hv)
      exact ⟨x, rfl, h1⟩
    | _ => cases h
  | _ => cases h
theorem zmeti {ty : FieldType} {v : Value} (hpl : Jvm.plainName y.cls = true) (hoy : own = y.cls) (hkc : ¬ kc = 0) (hE : zen E g) (hg7 : g.1 7 = g.1 0 &&& 31) (hzh : zh g cA hp ws) (hzv : zvs (zad ws) g as cas) (hlen : (lg_sl cas).length ≤ mL) (hnc : nc' ≤ bc) (hns : ns' ≤ bs) (hv9 : zrt ty v = true) (hdec : decode cc pc' = .ok (.ireturn, 1))
    (H0 : zRun E L kc d (own, y, cc, mL, some ty, bc, bs) l dC dI cA (lv_args 0 as) hp (pc', lv', [v], hp', nc', ns')) :
    Met l y (.code y cc mL (some ty) :: zT) { frames := d, cells := bc, slots := bs, locals := 40 * d } (va_Pc cas (zB dC dI cA ws sz)) (va_Qi (fun x u => zpost (zga g (zad ws)) cA hp' ws u ∧ zv (zad u) (zga g (zad ws)) v (.int x)) (zend dC dI cA (va_A ws sz)) (va_A ws sz)) bc bs (va_A ws sz) := by
  refine Met.ofW (cc := cc) (maxL := mL) (ret := some ty) hpl rfl ?_
  intro p e s m args below meth c s₁ B hml hv
  obtain ⟨rfl, hsz, hP, hK, hD0, hz9⟩ := hv
  have hx := B.exec
  have hb := B.bytes
  have hr := B.returns
  have hts := atoms_spec (ws := .code y cc mL (some ty) :: zT) B.pre
  have hown : s.vm.findClass y.cls = some m.cls := findClass_of_methodNamed B.named
  have hlocks := B.notSynchronized
  have hin : meth.name = y.name := (name_of_methodNamed B.named B.method).1
  subst hsz
  have hD := hD0.self (sz := s.heap.size)
  have hS : va_S (va_A ws s.heap.size) s.heap s.heap [] := va_S.rf
  have hl := lv_entry cas (n := mL) hlen
  rw [lg_entry_eq]
  generalize (lg_sl cas ++ List.replicate (mL - (lg_sl cas).length) Slot.unset).toArray = ls at hl ⊢
  have F : zF E L kc d (own, y, cc, mL, some ty, bc, bs) p { frames := d, cells := bc, slots := bs, locals := 40 * d } s m cas.toArray meth c dC dI cA (zga g (zad ws)) (va_A ws s.heap.size) :=
    ⟨hx, hb, hml, by rw [hoy]; exact hown, fun w hw => hts w (List.mem_cons_of_mem _ hw), hK, fun q h => Or.inr h, hE, hg7, ⟨Nat.le_refl _, Nat.le_refl _⟩, ⟨Nat.le_refl _, Nat.le_refl _⟩, fun h => hin.trans h, hz9, fun h => absurd h hkc⟩
  refine H0 p e _ s m _ below meth c _ (zga g (zad ws)) (va_A ws s.heap.size) F ?_ ws s.heap [] ls (lv_args 0 cas) [] ⟨zh_g (g := g) rfl rfl (fun _ _ h => h) hzh, hP, hD, hS, hl, zls_args 0 (zvs_g (g := g) (g' := zga g (zad ws)) rfl rfl hzv), trivial⟩
  intro ws' H locs ls' clv cst ⟨r1, r2, r3, r4, r5, r6, r7⟩
  obtain ⟨cv, cr, rfl, h1, h2⟩ := zvs_cons r7
  cases zvs_nil h2
  obtain ⟨x, rfl, hnar⟩ := zrt_ok hv9 h1
  refine W.widen hnc hns ?_
  exact W.zret hx hb hr hnar (fun t ht hW => ⟨⟨x, ws', rfl, ⟨⟨r1, r1.2.2⟩, h1⟩, by rw [ht]; exact r2, va_K.moved hW.alike hK, r3⟩, r4.F ht⟩) r4.2.2 hdec
end ZME
theorem zT_good : GoodIn zT zT := fun w hw => ⟨hw, good_of_word (List.mem_filter.mp hw).2⟩
theorem zT_good1 {w : Cond} (h : w ∈ zT) : GoodIn zT (w :: zT) := fun v hv => (List.mem_cons.mp hv).elim (fun q => by rw [q]; exact zT_good w h) (zT_good v)
theorem zfree {A : Nat → Prop} {ws : va_W} {H0 H : Heap} {locs : List Loc} (hD : va_D A ws) (hS : va_S A H0 H locs) (hA : ∀ q, H0.size ≤ q → A q) : ∀ q, va_A ws H.size q → A q := by
  intro q h
  rcases h with ⟨k, e, h⟩ | h
  · exact hD.2 k (q, e) h
  · exact hA q (Nat.le_trans hS.1 h)
theorem zslots : ∀ (cas : List Value), (lg_sl cas).length = (cas.map fun v => v.category).sum := by
  intro cas
  induction cas with
  | nil => rfl
  | cons v r ih =>
    have e : lg_sl (v :: r) = (if v.category = 2 then [.val v, .second] else [.val v]) ++ lg_sl r := rfl
    rw [e, List.length_append, ih, List.map_cons, List.sum_cons]
    rcases lv_cat v with h | h
    · rw [h, if_neg (by decide)]
      rfl
    · rw [h, if_pos rfl]
      rfl
section ZCA
variable {p : Program} {l : Launch} {e : Env} {R : Room} {s : State} {m : MethodId} {args : Array Value} {below : List Frame} {meth : Method} {c : Code} {dC : Nat → ClassId} {dI : Nat → Nat → Nat} {cA : Nat → ClassId} {g : ZG} {A : Nat → Prop} {nL : Nat} {cc : ByteArray} {pc : Nat} {nc ns : Nat} {own : String}
/-- the call itself, by its kind -/
theorem zrun {y : MethodName} {idx kd n mL mc ms d' : Nat} {rt : Option FieldType} {bytes : ByteArray} {ins : Instr} {Qc : Array Value → State → Outcome → State → Prop} {ws : va_W} {H : Heap} {locs : List Loc} {ls : Array Slot} {cst cas crest : List Value}
    (hx : p.tables.exec = Jvm.exec) (hb : c.code = cc) (hml : c.maxLocals = nL) (hown : s.vm.findClass own = some m.cls) (hts : ∀ w ∈ zT, w.before args s = true) (hK : va_K (dC, dI) vwCl (ztys cA) s) (hP : va_P (dC, dI) vwCl ws H) (hD : va_D A ws) (hls : ls.size = nL)
    (hM : Met l y (.code y bytes mL rt :: zT) { frames := d', cells := mc, slots := ms, locals := 40 * d' } (va_Pc cas (zB dC dI cA ws H.size)) Qc mc ms (va_A ws H.size))
    (hz9 : zX s) (hw : ∀ w ∈ zcw own idx kd y bytes mL rt, w ∈ zT) (hnest : kd = 1 ∨ kd = 5 → Cond.methodLinkNest own idx y "NamesUnder" ∈ zNl) (hd : y.cls ≠ "java/lang/invoke/MethodHandle" ∧ y.cls ≠ "java/lang/invoke/VarHandle" ∧ (parseMethodDescriptor y.desc).map (fun d => d.parameters.length) = some n) (hm : mL ≤ 21) (hi : kd = 4 ∨ kd = 5 → y.name = "<init>" ∧ rt = none)
    (hR : d' + 1 ≤ R.frames ∧ 40 * (d' + 1) ≤ R.locals) (hf : nc + mc ≤ R.cells ∧ ns + ms ≤ R.slots)
    (hst : cst = cas.reverse ++ crest) (h8 : (crest.map fun v => v.category).sum ≤ 8) (hn : cas.length = if kd ≤ 1 then n else n + 1)
    (hrc : 2 ≤ kd → ∃ (b : Nat) (as2 : List Value), cas = .ref b :: as2 ∧ (kd = 2 → ∃ cell : Cell, H[b]? = some cell ∧ cell.vm.isStatics = false ∧ s.vm.findClass y.cls = some cell.cls))
    (hins : (kd = 0 ∨ kd = 1) ∧ ins = .invokestatic idx ∨ kd = 2 ∧ ins = .invokevirtual idx ∨ (kd = 4 ∨ kd = 5) ∧ ins = .invokespecial idx) (hdg : decode cc pc = .ok (ins, 3)) :
    va_Run p l e R s m args below meth c H locs nc ns mc ms (F0 m pc ls cst) crest (Qc cas.toArray) (va_A ws H.size) := by
  have hroom := lv_room (m := m) (pc := pc) (ls := ls) (rest := cst) h8
  have hpre : ∀ U : State, U.heap = H → s.WarmedH U.vm → va_Pc cas (zB dC dI cA ws H.size) cas.toArray U := fun U hU hW => ⟨rfl, by rw [hU], by rw [hU]; exact hP, va_K.moved hW.alike hK, hD.weaken (fun _ _ _ _ => trivial), hz9.warm hW⟩
  have hR2 : 8 + (mL + 11) + 40 * d' ≤ R.locals := by omega
  rcases hins with ⟨h0 | h0, rfl⟩ | ⟨h0, rfl⟩ | ⟨h0 | h0, rfl⟩
  · subst h0
    rw [if_pos (by decide)] at hn
    have w1 := hw (.methodLink own idx y) (by simp [zcw])
    have w2 := hw (.static y) (by simp [zcw])
    have w3 := hw (.initialized y.cls) (by simp [zcw])
    have w4 := hw (.code y bytes mL rt) (by simp [zcw])
    exact va_runS (Ts := zT) (own := own) ⟨hx, hb, hml, hown, hts⟩ hM ⟨callB_of n hts (zT_good1 w4) rfl rfl rfl (hts _ w3) (hts _ w1) hd ⟨hR.1, hR2⟩, hts _ w2⟩ ⟨zB_blind, hpre⟩ rfl hn hls hst hroom hdg hf
  · subst h0
    rw [if_pos (by decide)] at hn
    have w1 := hz9.1 _ (hnest (Or.inl rfl))
    have w2 := hw (.static y) (by simp [zcw])
    have w3 := hw (.initialized y.cls) (by simp [zcw])
    have w4 := hw (.code y bytes mL rt) (by simp [zcw])
    exact va_runSN (Ts := zT) (own := own) ⟨hx, hb, hml, hown, hts⟩ hM ⟨va_cnB n hts (zT_good1 w4) rfl rfl rfl w1 (hts _ w3) hd ⟨hR.1, hR2⟩, hts _ w2, trivial⟩ ⟨zB_blind, hpre⟩ rfl hn hls hst hroom hdg hf
  · subst h0
    rw [if_neg (by decide)] at hn
    have w1 := hw (.methodLink own idx y) (by simp [zcw])
    have w2 := hw (.instanceMethod y) (by simp [zcw])
    have w3 := hw (.initialized y.cls) (by simp [zcw])
    have w4 := hw (.code y bytes mL rt) (by simp [zcw])
    have w5 := hw (.selects y.cls y y) (by simp [zcw])
    obtain ⟨b, as2, rfl, hcell⟩ := hrc (by decide)
    have hcell := hcell rfl
    exact va_runV (Ts := zT) (own := own) (C := y.cls) (As := as2) (b := b) ⟨hx, hb, hml, hown, hts⟩ hM ⟨callB_of n hts (zT_good1 w4) rfl rfl rfl (hts _ w3) (hts _ w1) hd ⟨hR.1, hR2⟩, hts _ w2, hts _ w5⟩ ⟨zB_blind, hcell, hpre⟩ rfl (by simpa using hn) hls (by rw [hst]; simp) hroom hdg hf
  · subst h0
    rw [if_neg (by decide)] at hn
    have w1 := hw (.methodLink own idx y) (by simp [zcw])
    have w2 := hw (.instanceMethod y) (by simp [zcw])
    have w3 := hw (.initialized y.cls) (by simp [zcw])
    have w4 := hw (.code y bytes mL rt) (by simp [zcw])
    obtain ⟨b, as2, rfl, -⟩ := hrc (by decide)
    obtain ⟨i1, rfl⟩ := hi (Or.inl rfl)
    exact va_runI (Ts := zT) (own := own) (As := as2) (b := b) ⟨hx, hb, hml, hown, hts⟩ hM ⟨callB_of n hts (zT_good1 w4) rfl rfl rfl (hts _ w3) (hts _ w1) hd ⟨hR.1, hR2⟩, i1, hts _ w2⟩ ⟨zB_blind, hpre⟩ rfl (by simpa using hn) hls (by rw [hst]; simp) hroom hdg hf
  · subst h0
    rw [if_neg (by decide)] at hn
    have w1 := hz9.1 _ (hnest (Or.inr rfl))
    have w2 := hw (.instanceMethod y) (by simp [zcw])
    have w3 := hw (.initialized y.cls) (by simp [zcw])
    have w4 := hw (.code y bytes mL rt) (by simp [zcw])
    obtain ⟨b, as2, rfl, -⟩ := hrc (by decide)
    obtain ⟨i1, rfl⟩ := hi (Or.inr rfl)
    exact va_runIN (Ts := zT) (own := own) (As := as2) (b := b) ⟨hx, hb, hml, hown, hts⟩ hM ⟨va_cnB n hts (zT_good1 w4) rfl rfl rfl w1 (hts _ w3) hd ⟨hR.1, hR2⟩, i1, hts _ w2⟩ ⟨zB_blind, hpre⟩ rfl (by simpa using hn) hls (by rw [hst]; simp) hroom hdg hf
end ZCA
end
section
/-! every run of the machine of known values is a run of the machine -/
def zP (zm : List ZMe) (zc : List (List ZI)) (zd : List (List Value)) (E : ZN) (L sp n : Nat) : Prop := ∀ (k d pc : Nat) (lv : ZL) (st : List Value) (hp : List ZE) (nc ns : Nat) (r : ZS), zgo zm zc zd E L sp n k d pc lv st hp nc ns = .ok r →
  ∀ (me : ZMe), zm[k]? = some me → ∀ (p : Program) (l : Launch) (e : Env) (R : Room) (s : State) (m : MethodId) (args : Array Value) (below : List Frame) (meth : Method) (c : Code) (Q : State → Prop) (dC : Nat → ClassId) (dI : Nat → Nat → Nat) (cA : Nat → ClassId) (g : ZG) (A : Nat → Prop), zF E L k d me p R s m args meth c dC dI cA g A →
    zW p l e R s m args below meth c Q dC dI cA g A me.2.2.2.1 r.1 r.2.1 r.2.2.1 r.2.2.2.1 r.2.2.2.2.1 r.2.2.2.2.2 → zW p l e R s m args below meth c Q dC dI cA g A me.2.2.2.1 pc lv st hp nc ns
theorem zrcv_ok {hp : List ZE} {v : Option Value} {ci : Nat} (h : zrcv hp v (zget hp) ci = true) : ∃ (k : Nat) (x : Nat × List Value), v = some (.ref k) ∧ hp[k]? = some (.inr x) ∧ x.1 = ci := by
  unfold zrcv at h
  cases v with
  | none => cases h
  | some w =>
    cases w with
    | ref k =>
      simp only [zget_eq] at h
      cases hq : hp[k]? with
      | none => rw [hq] at h; cases h
      | some q =>
        cases q with
        | inl x => rw [hq] at h; cases h
        | inr x =>
          rw [hq] at h
          exact ⟨k, x, rfl, hq, Nat.beq_eq.mp h⟩
    | _ => cases h
theorem ztake_rev {α : Type} {st : List α} {n : Nat} {v : α} (h : st[n]? = some v) : ∃ r, (st.take (n + 1)).reverse = v :: r := by
  have hl : n < st.length := (List.getElem?_eq_some_iff.mp h).1
  have e : st.take (n + 1) = st.take n ++ [v] := by
    rw [List.take_add_one, h]
    rfl
  rw [e, List.reverse_append]
  exact ⟨_, rfl⟩
section ZRN
variable {p : Program} {l : Launch} {e : Env} {R : Room} {s : State} {m : MethodId} {args : Array Value} {below : List Frame} {meth : Method} {c : Code} {Q : State → Prop} {dC : Nat → ClassId} {dI : Nat → Nat → Nat} {cA : Nat → ClassId} {g : ZG} {A : Nat → Prop} {pc : Nat} {lv : ZL} {st : List Value} {hp : List ZE} {nc ns : Nat} {r : ZS} {E : ZN}
set_option maxHeartbeats 4000000 in
theorem zs_inv {zm : List ZMe} {zc : List (List ZI)} {zd : List (List Value)} {L sp N k d kd kc n ci idx : Nat} {is : List Nat} {ins : Instr} {me : ZMe} (htab : zTab zm zc) (IH : zP zm zc zd E L sp N) (hme : zm[k]? = some me) (F : zF E L k d me p R s m args meth c dC dI cA g A) (hcal : zcal zm me.1 idx kd kc n ci is = true)
    (hins : (kd = 0 ∨ kd = 1) ∧ ins = .invokestatic idx ∨ kd = 2 ∧ ins = .invokevirtual idx ∨ (kd = 4 ∨ kd = 5) ∧ ins = .invokespecial idx) (hdg : decode me.2.2.1 pc = .ok (ins, 3))
    (h : zinv zm zc (zgo zm zc zd E L sp N) k d me.2.2.2.2.2.1 me.2.2.2.2.2.2 kd kc n ci pc lv st hp nc ns = .ok r)
    (hr : zW p l e R s m args below meth c Q dC dI cA g A me.2.2.2.1 r.1 r.2.1 r.2.2.1 r.2.2.2.1 r.2.2.2.2.1 r.2.2.2.2.2) : zW p l e R s m args below meth c Q dC dI cA g A me.2.2.2.1 pc lv st hp nc ns := by
  unfold zinv at h
  unfold zcal at hcal
  rw [zget_eq] at h
  cases hmc : zm[kc]? with
  | none => simp only [hmc] at h; cases h
  | some me2 =>
    obtain ⟨own2, y2, cc2, mL2, rt2, bc2, bs2⟩ := me2
    simp only [hmc] at h hcal
    rw [zn_eq] at h
    simp only [Bool.and_eq_true] at hcal
    obtain ⟨c1, c2, c3, c4, c5, c6, c7, c8⟩ := hcal
    generalize hna : cond (Nat.ble kd 1) n (n + 1) = na at h
    cases hck : (Nat.beq (st.take na).length na && (Nat.ble ((st.drop na).map fun v => v.category).sum 8 && (Nat.ble ((st.take na).map fun v => v.category).sum mL2 && (Nat.ble (nc + bc2) me.2.2.2.2.2.1 && (Nat.ble (ns + bs2) me.2.2.2.2.2.2 && cond (Nat.ble kd 1) true (zrcv hp (zget st n) (zget hp) ci)))))) with
    | false => rw [hck] at h; cases h
    | true =>
      rw [hck, cond_true] at h
      simp only [Bool.and_eq_true] at hck
      obtain ⟨k1, k2, k3, k4, k5, k6⟩ := hck
      cases d with
      | zero => cases h
      | succ d' =>
        simp only [zfl_eq] at h
        cases hrun : zgo zm zc zd E L sp N kc d' 0 (lv_args 0 (st.take na).reverse) [] hp 0 0 with
        | error x => simp only [hrun] at h; cases h
        | ok r2 =>
          simp only [hrun] at h
          have hW2 := IH kc d' 0 _ [] hp 0 0 r2 hrun
          obtain ⟨hend, h⟩ := zfin_ok h
          have hkc : ¬ kc = 0 := by
            intro q
            rw [q] at c8
            cases c8
          obtain ⟨tb, q, t1, t2, t3, t4⟩ := hend
          have hq := htab kc _ tb hmc t1 q t2
          unfold zok at hq
          simp only [Bool.and_eq_true] at hq
          have hdec := of_decide_eq_true hq.1
          have hst : zstop rt2 q.2.1 = true := t4
          have F0' := F
          obtain ⟨hx, hb, hml, hown, hts, hK, hA, hE, hg7, hRd, hRb, hI, hz9, -⟩ := F
          intro ws H locs ls clv cst ⟨r1, r2', r3, r4, r5, r6, r7⟩
          obtain ⟨z1, z2⟩ := zvs_take na r7
          have hcs : cst = ((cst.take na).reverse).reverse ++ cst.drop na := by
            rw [List.reverse_reverse, List.take_append_drop]
          have h8 : ((cst.drop na).map fun v => v.category).sum ≤ 8 := by
            rw [zvs_sum z2]
            exact Nat.le_of_ble_eq_true k2
          have hlen : (lg_sl (cst.take na).reverse).length ≤ mL2 := by
            rw [zslots]
            have e1 : (((cst.take na).reverse).map fun v => v.category).sum = ((cst.take na).map fun v => v.category).sum := by
              rw [List.map_reverse, List.sum_reverse]
            rw [e1, zvs_sum z1]
            exact Nat.le_of_ble_eq_true k3
          have hn9 : ((cst.take na).reverse).length = if kd ≤ 1 then n else n + 1 := by
            rw [List.length_reverse, zvs_len z1, Nat.beq_eq.mp k1, ← hna]
            by_cases hk1 : kd ≤ 1
            · rw [if_pos hk1, Nat.ble_eq_true_of_le hk1]
              rfl
            · rw [if_neg hk1]
              cases hb9 : Nat.ble kd 1 with
              | true => exact absurd (Nat.le_of_ble_eq_true hb9) hk1
              | false => rfl
          have hrc : 2 ≤ kd → ∃ (b : Nat) (as2 : List Value), (cst.take na).reverse = .ref b :: as2 ∧ (kd = 2 → ∃ cell : Cell, H[b]? = some cell ∧ cell.vm.isStatics = false ∧ s.vm.findClass y2.cls = some cell.cls) := by
            intro hk2
            have hb9 : Nat.ble kd 1 = false := by
              cases hb9 : Nat.ble kd 1 with
              | true => exact absurd (Nat.le_of_ble_eq_true hb9) (by omega)
              | false => rfl
            rw [hb9, cond_false] at k6 c6 hna
            obtain ⟨kk, x, e1, e2, e3⟩ := zrcv_ok k6
            rw [zget_eq] at e1
            subst hna
            obtain ⟨cr, e4, e5⟩ := zvs_get r7 e1
            obtain ⟨a, e6, rfl⟩ := e5
            obtain ⟨as2, e7⟩ := ztake_rev e4
            refine ⟨a, as2, e7, fun _ => ?_⟩
            obtain ⟨w, e8, e9⟩ := zh_at r1 e2 e6
            obtain ⟨gs, rfl, -⟩ := zobj e9
            obtain ⟨C, T, NN, f1, f2, f3⟩ := zfl1_ok c6
            rw [e3] at e8
            have hv := va_recv hK r2' f1 e8
            rw [show C = y2.cls from of_decide_eq_true f3] at hv
            exact hv
          have hRR : d' + 1 ≤ R.frames ∧ 40 * (d' + 1) ≤ R.locals := hRd
          have hfit : nc + bc2 ≤ R.cells ∧ ns + bs2 ≤ R.slots := ⟨Nat.le_trans (Nat.le_of_ble_eq_true k4) hRb.1, Nat.le_trans (Nat.le_of_ble_eq_true k5) hRb.2⟩
          have hi9 : kd = 4 ∨ kd = 5 → y2.name = "<init>" ∧ rt2 = none := by
            intro hk
            have hb9 : Nat.ble kd 3 = false := by rcases hk with rfl | rfl <;> rfl
            rw [hb9, cond_false] at c7
            exact of_decide_eq_true c7
          have hoy : own2 = y2.cls := of_decide_eq_true c5
          have hfree := zfree r3 r4 hA
          unfold zback at h
          cases hbk : (Nat.ble r2.2.2.2.2.1 bc2 && Nat.ble r2.2.2.2.2.2 bs2) with
          | false => rw [hbk] at h; cases h
          | true =>
            rw [hbk, cond_true, zn_eq, zn_eq] at h
            rw [Bool.and_eq_true] at hbk
            have b1 := Nat.le_of_ble_eq_true hbk.1
            have b2 := Nat.le_of_ble_eq_true hbk.2
            obtain ⟨pc2, lv2, st2, hp2, nc2, ns2⟩ := r2
            have hRun : zRun E L kc d' (own2, y2, cc2, mL2, rt2, bc2, bs2) l dC dI cA (lv_args 0 (st.take na).reverse) hp (pc2, lv2, st2, hp2, nc2, ns2) := fun p e R s m args below meth c Q g A => hW2 _ hmc p l e R s m args below meth c Q dC dI cA g A
            have t3' : q.1 = pc2 := t3
            rw [t3'] at hdec
            cases rt2 with
            | none =>
              cases st2 with
              | cons _ _ => cases h
              | nil =>
                simp only at h
                have hd1 : decode cc2 pc2 = .ok (.return_, 1) := by
                  obtain ⟨q1, q2, q3, q4⟩ := q
                  cases q2 with
                  | return_ =>
                    have e9 : q3 = 1 := Nat.beq_eq.mp (show Nat.beq q3 1 = true from hq.2.1)
                    rw [e9] at hdec
                    exact hdec
                  | _ => cases hst
                have hM := zmetv (l := l) (dC := dC) (dI := dI) (cA := cA) (g := g) (ws := ws) (sz := H.size) (cas := (cst.take na).reverse) c4 hoy hkc hE hg7 r1 (zvs_rev z1) hlen b1 b2 hd1 hRun
                have hR9 := zrun (e := e) (below := below) (meth := meth) (locs := locs) (nc := nc) (ns := ns) hx hb hml hown hts hK r2' r3 r5.1 hM hz9 (zcwk_ok c1).1 (zcwk_ok c1).2 (of_decide_eq_true c2) (Nat.le_of_ble_eq_true c3) hi9 hRR hfit hcs h8 hn9 hrc hins hdg
                refine va_callv hR9 r4 (fun q _ h => hfree q h) hfree (fun u t H1 locs1 ht hvm hw hB hz1 hk1 hS => ?_)
                obtain ⟨hw1, hw2⟩ := hw
                obtain ⟨hP1, hK1, hD1⟩ := hB
                rw [ht] at hP1
                exact (IH k (d' + 1) (pc + 3) lv _ hp2 _ _ r h) me hme p l e R s m args below meth c Q dC dI cA g A F0' hr u H1 locs1 ls clv _ ⟨zh_g (g := zga g (zad ws)) rfl rfl (fun k a z => hw2 k a (r1.2.2 k a z)) hw1, hP1, hD1.weaken (fun _ q _ z => hfree q.1 z), hS, r5, zls_mono hw2 r6, zvs_mono hw2 z2⟩
            | some ty =>
              cases st2 with
              | nil => cases h
              | cons v st3 =>
                cases st3 with
                | cons _ _ => cases h
                | nil =>
                  simp only at h
                  cases hzt : zrt ty v with
                  | false => rw [hzt] at h; cases h
                  | true =>
                    rw [hzt, cond_true] at h
                    have hd1 : decode cc2 pc2 = .ok (.ireturn, 1) := by
                      obtain ⟨q1, q2, q3, q4⟩ := q
                      cases q2 with
                      | ireturn =>
                        have e9 : q3 = 1 := Nat.beq_eq.mp (show Nat.beq q3 1 = true from hq.2.1)
                        rw [e9] at hdec
                        exact hdec
                      | _ => cases hst
                    have hM := zmeti (l := l) (dC := dC) (dI := dI) (cA := cA) (g := g) (ws := ws) (sz := H.size) (cas := (cst.take na).reverse) c4 hoy hkc hE hg7 r1 (zvs_rev z1) hlen b1 b2 hzt hd1 hRun
                    have hR9 := zrun (e := e) (below := below) (meth := meth) (locs := locs) (nc := nc) (ns := ns) hx hb hml hown hts hK r2' r3 r5.1 hM hz9 (zcwk_ok c1).1 (zcwk_ok c1).2 (of_decide_eq_true c2) (Nat.le_of_ble_eq_true c3) hi9 hRR hfit hcs h8 hn9 hrc hins hdg
                    refine va_calli hR9 r4 (fun q _ h => hfree q h) hfree (fun x u t H1 locs1 ht hvm hw hB hz1 hk1 hS => ?_)
                    obtain ⟨⟨hw1, hw2⟩, hw3⟩ := hw
                    obtain ⟨hP1, hK1, hD1⟩ := hB
                    rw [ht] at hP1
                    exact (IH k (d' + 1) (pc + 3) lv _ hp2 _ _ r h) me hme p l e R s m args below meth c Q dC dI cA g A F0' hr u H1 locs1 ls clv _ ⟨zh_g (g := zga g (zad ws)) rfl rfl (fun k a z => hw2 k a (r1.2.2 k a z)) hw1, hP1, hD1.weaken (fun _ q _ z => hfree q.1 z), hS, r5, zls_mono hw2 r6, zv_g (g := zga g (zad ws)) rfl rfl hw3, zvs_mono hw2 z2⟩
set_option maxHeartbeats 4000000 in
theorem zgo_sound {zm : List ZMe} {zc : List (List ZI)} {zd : List (List Value)} {L sp : Nat} (hcl : zCl zd) (htab : zTab zm zc) : ∀ N : Nat, zP zm zc zd E L sp N := by
  intro N
  induction N with
  | zero =>
    intro k d pc lv st hp nc ns r h
    cases h
  | succ N IH =>
    intro k d pc lv st hp nc ns r h
    have h : zstep zm zc zd E L sp (zgo zm zc zd E L sp N) k d pc lv st hp nc ns = .ok r := h
    unfold zstep at h
    rw [zn_eq, zget_eq, zget_eq] at h
    cases hm : zm[k]? with
    | none => rw [hm] at h; cases h
    | some me =>
      cases hc : zc[k]? with
      | none => rw [hm, hc] at h; cases h
      | some tb =>
        rw [hm, hc] at h
        simp only at h
        cases hf : zft tb pc with
        | none => rw [hf] at h; cases h
        | some q =>
          rw [hf] at h
          simp only at h
          obtain ⟨f1, f2⟩ := zft_ok hf
          have hq := htab k me tb hm hc q f1
          unfold zok at hq
          simp only [Bool.and_eq_true] at hq
          obtain ⟨q1, q2, q3, q4⟩ := hq
          have hdg := of_decide_eq_true q1
          rw [f2] at hdg
          cases hs : (zstop me.2.2.2.2.1 q.2.1 || (Nat.beq k 0 && Nat.beq pc sp)) with
          | true =>
            rw [hs, cond_true] at h
            cases h
            exact fun me2 hm2 p l e R s m args below meth c Q dC dI cA g A F hw => hw
          | false =>
            rw [hs, cond_false] at h
            obtain ⟨pq, ins, len, lk⟩ := q
            intro me2 hm2 p l e R s m args below meth c Q dC dI cA g A F hw
            cases hm2
            have Hk : ∀ (pc : Nat) (lv : ZL) (st : List Value) (hp : List ZE) (nc ns : Nat), zgo zm zc zd E L sp N k d pc lv st hp nc ns = .ok r → zW p l e R s m args below meth c Q dC dI cA g A me.2.2.2.1 pc lv st hp nc ns := fun pc lv st hp nc ns h => IH k d pc lv st hp nc ns r h me hm p l e R s m args below meth c Q dC dI cA g A F hw
            have F0' := F
            obtain ⟨hx, hb, hml, hown, hts, hK, hA, hE, hg7, hRd, hRb, hI, hz9, hscr⟩ := F
            cases ins with
            | invokespecial idx =>
              have e9 : len = 3 := Nat.beq_eq.mp (show Nat.beq len 3 = true from q2)
              subst e9
              have h : zcl zm zc E (zgo zm zc zd E L sp N) k d me.2.2.2.2.2.1 me.2.2.2.2.2.2 lk pc lv st hp nc ns = .ok r := h
              match lk, h, q4 with
              | kd :: kc :: n :: ci :: is, h, q4 =>
                simp only [zcl] at h
                have q5 : cond (Nat.beq kd 6) (zchk [.methodLink me.1 idx objectInit, .instanceMethod objectInit, .code objectInit ⟨#[0xb1]⟩ 1 none] is) ((Nat.beq kd 4 || Nat.beq kd 5) && zcal zm me.1 idx kd kc n ci is) = true := q4
                cases h6 : Nat.beq kd 6 with
                | true =>
                  rw [h6, cond_true] at h q5
                  cases hd1 : Nat.ble 1 d with
                  | false => rw [hd1] at h; cases h
                  | true =>
                    rw [hd1, cond_true] at h
                    have hd2 := Nat.le_of_ble_eq_true hd1
                    have w := zchk_ok q5
                    exact zs_obj hx hb hml hown hts (Nat.le_trans hd2 hRd.1) (by omega) (w _ (by simp)) (w _ (by simp)) (w _ (by simp)) hdg h Hk
                | false =>
                  rw [h6, cond_false] at h q5
                  rw [Bool.and_eq_true, Bool.or_eq_true] at q5
                  cases h7 : Nat.beq kd 7 with
                  | true =>
                    have e7 := Nat.beq_eq.mp h7
                    rcases q5.1 with z | z
                    · have := Nat.beq_eq.mp z
                      omega
                    · have := Nat.beq_eq.mp z
                      omega
                  | false =>
                    rw [h7, cond_false] at h
                    cases h8 : Nat.beq kd 8 with
                    | true =>
                      have e8 := Nat.beq_eq.mp h8
                      rcases q5.1 with z | z
                      · have := Nat.beq_eq.mp z
                        omega
                      · have := Nat.beq_eq.mp z
                        omega
                    | false =>
                      rw [h8, cond_false] at h
                      exact zs_inv htab IH hm F0' q5.2 (Or.inr (Or.inr ⟨q5.1.imp Nat.beq_eq.mp Nat.beq_eq.mp, rfl⟩)) hdg h hw
              | [], h, q4 => cases h
              | [_], h, q4 => cases h
              | [_, _], h, q4 => cases h
              | [_, _, _], h, q4 => cases h
            | invokestatic idx =>
              have e9 : len = 3 := Nat.beq_eq.mp (show Nat.beq len 3 = true from q2)
              subst e9
              have h : zcl zm zc E (zgo zm zc zd E L sp N) k d me.2.2.2.2.2.1 me.2.2.2.2.2.2 lk pc lv st hp nc ns = .ok r := h
              match lk, h, q4 with
              | kd :: kc :: n :: ci :: is, h, q4 =>
                simp only [zcl] at h
                have q5 : cond (Nat.beq kd 7) (zchk [.methodLink me.1 idx arraycopyName, .native arraycopyName, .static arraycopyName, .initialized "java/lang/System"] is) (cond (Nat.beq kd 8) (zchk [.methodLink me.1 idx Lib.Math.max.name, .static Lib.Math.max.name, .initialized "java/lang/Math", .code Lib.Math.max.name Lib.Math.max.code 2 (some .int)] is) ((Nat.beq kd 0 || Nat.beq kd 1) && zcal zm me.1 idx kd kc n ci is)) = true := q4
                cases h7 : Nat.beq kd 7 with
                | true =>
                  have e7 := Nat.beq_eq.mp h7
                  cases h6 : Nat.beq kd 6 with
                  | true =>
                    have := Nat.beq_eq.mp h6
                    omega
                  | false =>
                    rw [h6, cond_false, h7, cond_true] at h
                    rw [h7, cond_true] at q5
                    cases hd1 : Nat.ble 1 d with
                    | false => rw [hd1] at h; cases h
                    | true =>
                      rw [hd1, cond_true] at h
                      have hd2 := Nat.le_of_ble_eq_true hd1
                      have w := zchk_ok q5
                      exact zs_cpy hx hb hml hown hts hK hE (Nat.le_trans hd2 hRd.1) (by omega) (w _ (by simp)) (w _ (by simp)) (w _ (by simp)) (w _ (by simp)) hdg h Hk
                | false =>
                  rw [h7, cond_false] at q5
                  cases h8 : Nat.beq kd 8 with
                  | true =>
                    have e8 := Nat.beq_eq.mp h8
                    cases h6 : Nat.beq kd 6 with
                    | true =>
                      have := Nat.beq_eq.mp h6
                      omega
                    | false =>
                      rw [h6, cond_false, h7, cond_false, h8, cond_true] at h
                      rw [h8, cond_true] at q5
                      cases hd1 : Nat.ble 1 d with
                      | false => rw [hd1] at h; cases h
                      | true =>
                        rw [hd1, cond_true] at h
                        have hd2 := Nat.le_of_ble_eq_true hd1
                        have w := zchk_ok q5
                        exact zs_max hx hb hml hown hts hE hRb.1 hRb.2 (Nat.le_trans hd2 hRd.1) (by omega) (w _ (by simp)) (w _ (by simp)) (w _ (by simp)) (w _ (by simp)) hdg h Hk
                  | false =>
                    rw [h8, cond_false] at q5
                    rw [Bool.and_eq_true, Bool.or_eq_true] at q5
                    cases h6 : Nat.beq kd 6 with
                    | true =>
                      have e6 := Nat.beq_eq.mp h6
                      rcases q5.1 with z | z
                      · have := Nat.beq_eq.mp z
                        omega
                      · have := Nat.beq_eq.mp z
                        omega
                    | false =>
                      rw [h6, cond_false, h7, cond_false, h8, cond_false] at h
                      exact zs_inv htab IH hm F0' q5.2 (Or.inl ⟨q5.1.imp Nat.beq_eq.mp Nat.beq_eq.mp, rfl⟩) hdg h hw
              | [], h, q4 => cases h
              | [_], h, q4 => cases h
              | [_, _], h, q4 => cases h
              | [_, _, _], h, q4 => cases h
            | invokevirtual idx =>
              have e9 : len = 3 := Nat.beq_eq.mp (show Nat.beq len 3 = true from q2)
              subst e9
              have h : zcl zm zc E (zgo zm zc zd E L sp N) k d me.2.2.2.2.2.1 me.2.2.2.2.2.2 lk pc lv st hp nc ns = .ok r := h
              match lk, h, q4 with
              | kd :: kc :: n :: ci :: is, h, q4 =>
                simp only [zcl] at h
                have q5 : (Nat.beq kd 2 && zcal zm me.1 idx kd kc n ci is) = true := q4
                rw [Bool.and_eq_true] at q5
                have e2 := Nat.beq_eq.mp q5.1
                subst e2
                exact zs_inv htab IH hm F0' q5.2 (Or.inr (Or.inl ⟨rfl, rfl⟩)) hdg h hw
              | [], h, q4 => cases h
              | [_], h, q4 => cases h
              | [_, _], h, q4 => cases h
              | [_, _, _], h, q4 => cases h
            | _ => exact zx_sound (y := me.2.1) hcl hz9 hx hb hown hts hK hA hE hg7 hRb.1 hRb.2 hI hscr hdg q2 q3 h Hk
end ZRN
end
section
/-! tables, by program: methods, instructions with their links, what is at the loop's head -/
def zzm : List ZMe := [(RL, yL_law, cL_law, 7, (some .boolean), 600000, 7300000),
  (RX9, yX9_init, cX9_init, 2, none, 154, 10257),
  (RX7, yX7_init, cX7_init, 1, none, 1, 1000),
  (RX2, yX2_init, cX2_init, 1, none, 6, 104),
  (RX8, yX8_init, cX8_init, 1, none, 5, 72),
  (RX6, yX6_init, cX6_init, 4, none, 9, 186),
  (RX3, yX3_init, cX3_init, 2, none, 5, 1048),
  (RX4, yX4_init, cX4_init, 3, none, 7, 1119),
  (RX5, yX5_init, cX5_init, 5, none, 9, 382),
  (RX1, yX1_init, cX1_init, 1, none, 5, 54),
  (RX10, yX10_init, cX10_init, 2, none, 45, 68793),
  (RX9, yX9_name, cX9_name, 5, (some .int), 0, 0),
  (RX9, yX9_tellName, cX9_tellName, 4, (some .int), 0, 0),
  (RX9, yX9_isBelow, cX9_isBelow, 2, (some .boolean), 0, 0),
  (RX10, yX10_name, cX10_name, 5, (some .int), 0, 0),
  (RX10, yX10_bares, cX10_bares, 1, none, 0, 0),
  (RX10, yX10_within, cX10_within, 3, (some .boolean), 0, 0),
  (RX7, yX7_trim, cX7_trim, 1, none, 0, 0),
  (RX7, yX7_isText, cX7_isText, 3, (some .boolean), 0, 0),
  (RX10, yX10_areLetters, cX10_areLetters, 4, (some .boolean), 0, 0),
  (RX9, yX9_known, cX9_known, 3, (some .int), 0, 0),
  (RX2, yX2_isTold, cX2_isTold, 2, (some .boolean), 0, 0),
  (RX10, yX10_known, cX10_known, 3, (some .int), 0, 0),
  (RX10, yX10_isName, cX10_isName, 2, (some .boolean), 0, 0),
  (RX9, yX9_alike, cX9_alike, 3, (some .int), 0, 0),
  (RX10, yX10_alike, cX10_alike, 3, (some .int), 0, 0),
  (RX9, yX9_place, cX9_place, 7, (some .boolean), 0, 0),
  (RX10, yX10_place, cX10_place, 6, (some .boolean), 0, 0),
  (RX8, yX8_tell, cX8_tell, 5, none, 0, 0),
  (RX9, yX9_forgetFindings, cX9_forgetFindings, 1, none, 0, 0),
  (RX6, yX6_forget, cX6_forget, 1, none, 0, 0),
  (RX5, yX5_forget, cX5_forget, 1, none, 0, 0),
  (RX9, yX9_cut, cX9_cut, 8, (some .int), 0, 0),
  (RX9, yX9_isPlace, cX9_isPlace, 2, (some .boolean), 0, 0),
  (RX10, yX10_cut, cX10_cut, 7, (some .int), 0, 0),
  (RX10, yX10_isPlace, cX10_isPlace, 2, (some .boolean), 0, 0),
  (RX9, yX9_clean, cX9_clean, 2, (some .boolean), 0, 0),
  (RX10, yX10_clean, cX10_clean, 2, (some .boolean), 0, 0),
  (RX9, yX9_traces, cX9_traces, 4, (some .int), 0, 0),
  (RX9, yX9_tellTraces, cX9_tellTraces, 3, (some .int), 0, 0),
  (RX9, yX9_isNameCut, cX9_isNameCut, 3, (some .boolean), 0, 0),
  (RX9, yX9_isCut, cX9_isCut, 3, (some .boolean), 0, 0),
  (RX10, yX10_traces, cX10_traces, 5, (some .int), 0, 0),
  (RX10, yX10_isNaming, cX10_isNaming, 3, (some .boolean), 0, 0),
  (RX10, yX10_isCut, cX10_isCut, 3, (some .boolean), 0, 0),
  (RX9, yX9_fits, cX9_fits, 3, (some .int), 0, 0),
  (RX10, yX10_fits, cX10_fits, 5, (some .int), 0, 0),
  (RX9, yX9_crowded, cX9_crowded, 4, (some .int), 0, 0),
  (RX10, yX10_crowded, cX10_crowded, 3, (some .int), 0, 0),
  (RX9, yX9_dated, cX9_dated, 3, (some .boolean), 0, 0),
  (RX10, yX10_dated, cX10_dated, 3, (some .boolean), 0, 0),
  (RX9, yX9_stories, cX9_stories, 2, (some .int), 0, 0),
  (RX10, yX10_stories, cX10_stories, 6, (some .int), 0, 0),
  (RX10, yX10_findStories, cX10_findStories, 1, none, 0, 0),
  (RX10, yX10_beginsStories, cX10_beginsStories, 4, none, 0, 0),
  (RX10, yX10_cutsOf, cX10_cutsOf, 2, (some .int), 0, 0),
  (RX10, yX10_tells, cX10_tells, 5, none, 0, 0),
  (RX6, yX6_gatherAll, cX6_gatherAll, 1, none, 0, 0),
  (RX6, yX6_findLeastReigns, cX6_findLeastReigns, 4, none, 0, 0),
  (RX6, yX6_gather, cX6_gather, 4, none, 0, 0),
  (RX6, yX6_weigh, cX6_weigh, 10, none, 0, 0),
  (RX6, yX6_tally, cX6_tally, 2, none, 0, 0),
  (RX6, yX6_isPossible, cX6_isPossible, 4, (some .boolean), 0, 0),
  (RX6, yX6_pushBehind, cX6_pushBehind, 5, (some .boolean), 0, 0),
  (RX6, yX6_countFrom, cX6_countFrom, 7, (some .int), 0, 0),
  (RX6, yX6_isBusy, cX6_isBusy, 2, (some .boolean), 0, 0),
  (RX6, yX6_sureHands, cX6_sureHands, 3, (some .int), 0, 0),
  (RX10, yX10_countOf, cX10_countOf, 5, (some .int), 0, 0),
  (RX10, yX10_reignIn, cX10_reignIn, 5, (some .int), 0, 0),
  (RX9, yX9_story, cX9_story, 3, (some .int), 0, 0),
  (RX9, yX9_isBusyHand, cX9_isBusyHand, 2, (some .boolean), 0, 0),
  (RX10, yX10_story, cX10_story, 3, (some .int), 0, 0),
  (RX10, yX10_isHand, cX10_isHand, 2, (some .boolean), 0, 0),
  (RX9, yX9_odds, cX9_odds, 3, (some .int), 0, 0),
  (RX10, yX10_odds, cX10_odds, 3, (some .int), 0, 0),
  (RX9, yX9_between, cX9_between, 3, (some .int), 0, 0),
  (RX10, yX10_between, cX10_between, 6, (some .int), 0, 0),
  (RX9, yX9_stood, cX9_stood, 3, (some .int), 0, 0),
  (RX10, yX10_stood, cX10_stood, 9, (some .int), 0, 0),
  (RX9, yX9_next, cX9_next, 3, (some .int), 0, 0),
  (RX10, yX10_next, cX10_next, 7, (some .int), 0, 0),
  (RX6, yX6_handToDate, cX6_handToDate, 4, (some .int), 0, 0),
  (RX9, yX9_doubt, cX9_doubt, 1, (some .int), 0, 0),
  (RX6, yX6_doubtful, cX6_doubtful, 2, (some .int), 0, 0),
  (RX10, yX10_doubt, cX10_doubt, 4, (some .int), 0, 0),
  (RX9, yX9_order, cX9_order, 3, (some .int), 0, 0),
  (RX10, yX10_order, cX10_order, 3, (some .int), 0, 0),
  (RX4, yX4_read, cX4_read, 3, (some .int), 0, 0),
  (RX3, yX3_clear, cX3_clear, 1, none, 0, 0),
  (RX4, yX4_advance, cX4_advance, 1, none, 0, 0),
  (RX3, yX3_copy, cX3_copy, 2, none, 0, 0),
  (RX10, yX10_cutAll, cX10_cutAll, 7, none, 0, 0),
  (RX9, yX9_works, cX9_works, 4, (some .boolean), 0, 0),
  (RX10, yX10_works, cX10_works, 4, (some .boolean), 0, 0),
  (RX9, yX9_ran, cX9_ran, 3, (some .int), 0, 0),
  (RX10, yX10_ran, cX10_ran, 3, (some .int), 0, 0),
  (RX9, yX9_made, cX9_made, 5, (some .int), 0, 0),
  (RX10, yX10_made, cX10_made, 5, (some .int), 0, 0),
  (RX9, yX9_agrees, cX9_agrees, 2, (some .int), 0, 0),
  (RX10, yX10_agrees, cX10_agrees, 5, (some .int), 0, 0),
  (RX10, yX10_runs, cX10_runs, 4, none, 0, 0),
  (RX10, yX10_does, cX10_does, 5, none, 0, 0),
  (RX5, yX5_perform, cX5_perform, 3, none, 0, 0),
  (RX5, yX5_begin, cX5_begin, 3, none, 0, 0),
  (RX5, yX5_obey, cX5_obey, 6, none, 0, 0),
  (RX5, yX5_findMissed, cX5_findMissed, 5, (some .int), 0, 0),
  (RX5, yX5_standingAt, cX5_standingAt, 2, (some .int), 0, 0),
  (RX5, yX5_cutsTogether, cX5_cutsTogether, 3, (some .int), 0, 0),
  (RX5, yX5_agreeing, cX5_agreeing, 3, (some .int), 0, 0),
  (RX9, yX9_missed, cX9_missed, 2, (some .int), 0, 0),
  (RX10, yX10_missed, cX10_missed, 6, (some .int), 0, 0),
  (RX9, yX9_far, cX9_far, 4, (some .int), 0, 0),
  (RX10, yX10_far, cX10_far, 11, (some .int), 0, 0),
  (RX9, yX9_block, cX9_block, 7, (some .boolean), 0, 0),
  (RX10, yX10_block, cX10_block, 8, (some .boolean), 0, 0),
  (RX1, yX1_tell, cX1_tell, 5, none, 0, 0),
  (RX9, yX9_ways, cX9_ways, 2, (some .int), 0, 0),
  (RX10, yX10_ways, cX10_ways, 5, (some .int), 0, 0),
  (RX1, yX1_layAll, cX1_layAll, 2, none, 0, 0),
  (RX1, yX1_layFrom, cX1_layFrom, 6, (some .int), 0, 0),
  (RX1, yX1_sureBlocks, cX1_sureBlocks, 3, (some .int), 0, 0),
  (RX10, yX10_findWays, cX10_findWays, 2, none, 0, 0),
  (RX10, yX10_fills, cX10_fills, 4, none, 0, 0),
  (RX9, yX9_back, cX9_back, 2, (some .int), 0, 0),
  (RX10, yX10_back, cX10_back, 2, (some .int), 0, 0),
  (RX9, yX9_count, cX9_count, 2, (some .int), 0, 0),
  (RX10, yX10_count, cX10_count, 4, (some .int), 0, 0),
  (RX1, yX1_toldNumber, cX1_toldNumber, 5, (some .int), 0, 0),
  (RX9, yX9_linesTold, cX9_linesTold, 3, (some .int), 0, 0),
  (RX9, yX9_cutsTold, cX9_cutsTold, 3, (some .int), 0, 0),
  (RX9, yX9_placesTold, cX9_placesTold, 3, (some .int), 0, 0),
  (RX2, yX2_toldNumber, cX2_toldNumber, 3, (some .int), 0, 0)]
def zzd : List (List Value) := [[.null, .null, .null, .null, .null, .int 0, .int 0], [.null, .null, .null, .null, .null, .null], [.int 0, .int 0, .null, .null, .null, .null, .null], [.null, .null, .null, .int 0, .int 0, .int 0, .int 0, .int 0, .null, .int 0, .int 0, .int 0], [.null, .null, .null, .null, .null, .null, .null, .null, .null, .null, .null, .null, .int 0, .int 0], [.null, .null, .null, .int 0, .int 0, .null, .null, .null, .null, .null, .null, .null, .null, .null, .int 0, .int 0, .int 0, .int 0, .int 0], [.null, .int 0, .int 0, .int 0], [.int 0, .int 0, .int 0, .int 0, .int 0, .int 0, .null, .null, .null, .null, .null], [.null, .null, .null, .null, .null, .null, .null, .null, .null], [.int 0, .null, .int 0, .int 0, .null, .null, .null, .int 0, .int 0, .null, .int 0, .int 0, .null, .null, .null, .null, .null, .null, .null, .null, .null, .null, .null, .null, .null, .null, .null, .null, .int 0, .null, .null, .null, .int 0, .null, .int 0, .null, .null, .null, .null, .int 0, .null, .null, .null, .null, .null, .null, .null, .null, .null, .null, .int 0, .null, .null, .null, .null, .null, .int 0, .null]]
def zt0_0 : List ZI := [(0, .new 8, 3, [8, 9, 138, 139, 117]), (3, .dup, 1, []), (4, .invokespecial 15, 3, [4, 1, 0, 8, 140, 141, 117, 142]), (7, .astore_n 1, 1, []), (8, .new 16, 3, [9, 58, 1273, 1271, 127]), (11, .dup, 1, []), (12, .invokespecial 18, 3, [4, 10, 0, 9, 1274, 1275, 127, 1276]), (15, .astore_n 2, 1, []), (16, .iconst 1, 1, []), (17, .newarray .long, 2, [3, 1469]), (19, .astore_n 3, 1, []), (20, .iconst 0, 1, []), (21, .istore 4, 2, []), (23, .iload 4, 2, []), (25, .aload_n 0, 1, []), (26, .arraylength, 1, []), (27, .bipush 7, 2, []), (29, .isub, 1, []), (30, .if_icmp .gt 1475, 3, []), (33, .aload_n 0, 1, []), (34, .iload 4, 2, []), (36, .iaload, 1, []), (37, .bipush 31, 2, []), (39, .iand, 1, []), (40, .tableswitch 1459 0 29 #[136, 283, 348, 385, 422, 495, 556, 581, 618, 698, 735, 772, 809, 834, 871, 908, 945, 982, 1007, 1020, 1045, 1110, 1147, 1196, 1221, 1246, 1295, 1384, 1409, 1434], 136, []), (323, .aload_n 1, 1, []), (324, .aload_n 0, 1, []), (325, .iload 4, 2, []), (327, .iconst 1, 1, []), (328, .iadd, 1, []), (329, .iaload, 1, []), (330, .aload_n 0, 1, []), (331, .iload 4, 2, []), (333, .iconst 2, 1, []), (334, .iadd, 1, []), (335, .iaload, 1, []), (336, .aload_n 0, 1, []), (337, .iload 4, 2, []), (339, .iconst 3, 1, []), (340, .iadd, 1, [])]
def zt0_1 : List ZI := [(341, .iaload, 1, []), (342, .ifCond .eq 7, 3, []), (345, .iconst 1, 1, []), (346, .goto 4, 3, []), (349, .iconst 0, 1, []), (350, .invokevirtual 26, 3, [2, 11, 3, 8, 561, 562, 117, 564, 563]), (353, .aload_n 2, 1, []), (354, .aload_n 0, 1, []), (355, .iload 4, 2, []), (357, .iconst 1, 1, []), (358, .iadd, 1, []), (359, .iaload, 1, []), (360, .aload_n 0, 1, []), (361, .iload 4, 2, []), (363, .iconst 2, 1, []), (364, .iadd, 1, []), (365, .iaload, 1, []), (366, .aload_n 0, 1, []), (367, .iload 4, 2, []), (369, .iconst 3, 1, []), (370, .iadd, 1, []), (371, .iaload, 1, []), (372, .ifCond .eq 7, 3, []), (375, .iconst 1, 1, []), (376, .goto 4, 3, []), (379, .iconst 0, 1, []), (380, .invokevirtual 30, 3, [2, 14, 3, 9, 1470, 1471, 127, 1473, 1472]), (383, .if_icmp .eq 1116, 3, []), (388, .aload_n 1, 1, []), (389, .aload_n 0, 1, []), (390, .iload 4, 2, []), (392, .iconst 1, 1, []), (393, .iadd, 1, []), (394, .iaload, 1, []), (395, .aload_n 0, 1, []), (396, .iload 4, 2, []), (398, .iconst 2, 1, []), (399, .iadd, 1, []), (400, .iaload, 1, []), (401, .invokevirtual 31, 3, [2, 20, 2, 8, 613, 614, 117, 616, 615])]
def zt0_2 : List ZI := [(404, .aload_n 2, 1, []), (405, .aload_n 0, 1, []), (406, .iload 4, 2, []), (408, .iconst 1, 1, []), (409, .iadd, 1, []), (410, .iaload, 1, []), (411, .aload_n 0, 1, []), (412, .iload 4, 2, []), (414, .iconst 2, 1, []), (415, .iadd, 1, []), (416, .iaload, 1, []), (417, .invokevirtual 35, 3, [2, 22, 2, 9, 1496, 1497, 127, 1499, 1498]), (420, .if_icmp .eq 1079, 3, []), (425, .aload_n 1, 1, []), (426, .aload_n 0, 1, []), (427, .iload 4, 2, []), (429, .iconst 1, 1, []), (430, .iadd, 1, []), (431, .iaload, 1, []), (432, .aload_n 0, 1, []), (433, .iload 4, 2, []), (435, .iconst 2, 1, []), (436, .iadd, 1, []), (437, .iaload, 1, []), (438, .invokevirtual 36, 3, [2, 24, 2, 8, 622, 623, 117, 625, 624]), (441, .aload_n 2, 1, []), (442, .aload_n 0, 1, []), (443, .iload 4, 2, []), (445, .iconst 1, 1, []), (446, .iadd, 1, []), (447, .iaload, 1, []), (448, .aload_n 0, 1, []), (449, .iload 4, 2, []), (451, .iconst 2, 1, []), (452, .iadd, 1, []), (453, .iaload, 1, []), (454, .invokevirtual 39, 3, [2, 25, 2, 9, 1511, 1512, 127, 1514, 1513]), (457, .if_icmp .eq 1042, 3, []), (462, .aload_n 1, 1, []), (463, .aload_n 0, 1, [])]
def zt0_3 : List ZI := [(464, .iload 4, 2, []), (466, .iconst 1, 1, []), (467, .iadd, 1, []), (468, .iaload, 1, []), (469, .aload_n 0, 1, []), (470, .iload 4, 2, []), (472, .iconst 2, 1, []), (473, .iadd, 1, []), (474, .iaload, 1, []), (475, .aload_n 0, 1, []), (476, .iload 4, 2, []), (478, .iconst 3, 1, []), (479, .iadd, 1, []), (480, .iaload, 1, []), (481, .aload_n 0, 1, []), (482, .iload 4, 2, []), (484, .iconst 4, 1, []), (485, .iadd, 1, []), (486, .iaload, 1, []), (487, .aload_n 0, 1, []), (488, .iload 4, 2, []), (490, .iconst 5, 1, []), (491, .iadd, 1, []), (492, .iaload, 1, []), (493, .invokevirtual 40, 3, [2, 26, 5, 8, 634, 635, 117, 637, 636]), (496, .aload_n 2, 1, []), (497, .aload_n 0, 1, []), (498, .iload 4, 2, []), (500, .iconst 1, 1, []), (501, .iadd, 1, []), (502, .iaload, 1, []), (503, .aload_n 0, 1, []), (504, .iload 4, 2, []), (506, .iconst 2, 1, []), (507, .iadd, 1, []), (508, .iaload, 1, []), (509, .aload_n 0, 1, []), (510, .iload 4, 2, []), (512, .iconst 3, 1, []), (513, .iadd, 1, [])]
def zt0_4 : List ZI := [(514, .iaload, 1, []), (515, .aload_n 0, 1, []), (516, .iload 4, 2, []), (518, .iconst 4, 1, []), (519, .iadd, 1, []), (520, .iaload, 1, []), (521, .aload_n 0, 1, []), (522, .iload 4, 2, []), (524, .iconst 5, 1, []), (525, .iadd, 1, []), (526, .iaload, 1, []), (527, .invokevirtual 44, 3, [2, 27, 5, 9, 1523, 1524, 127, 1526, 1525]), (530, .if_icmp .eq 969, 3, []), (535, .aload_n 1, 1, []), (536, .aload_n 0, 1, []), (537, .iload 4, 2, []), (539, .iconst 1, 1, []), (540, .iadd, 1, []), (541, .iaload, 1, []), (542, .aload_n 0, 1, []), (543, .iload 4, 2, []), (545, .iconst 2, 1, []), (546, .iadd, 1, []), (547, .iaload, 1, []), (548, .aload_n 0, 1, []), (549, .iload 4, 2, []), (551, .iconst 3, 1, []), (552, .iadd, 1, []), (553, .iaload, 1, []), (554, .aload_n 0, 1, []), (555, .iload 4, 2, []), (557, .iconst 4, 1, []), (558, .iadd, 1, []), (559, .iaload, 1, []), (560, .invokevirtual 45, 3, [2, 32, 4, 8, 642, 643, 117, 645, 644]), (563, .aload_n 2, 1, []), (564, .aload_n 0, 1, []), (565, .iload 4, 2, []), (567, .iconst 1, 1, []), (568, .iadd, 1, [])]
def zt0_5 : List ZI := [(569, .iaload, 1, []), (570, .aload_n 0, 1, []), (571, .iload 4, 2, []), (573, .iconst 2, 1, []), (574, .iadd, 1, []), (575, .iaload, 1, []), (576, .aload_n 0, 1, []), (577, .iload 4, 2, []), (579, .iconst 3, 1, []), (580, .iadd, 1, []), (581, .iaload, 1, []), (582, .aload_n 0, 1, []), (583, .iload 4, 2, []), (585, .iconst 4, 1, []), (586, .iadd, 1, []), (587, .iaload, 1, []), (588, .invokevirtual 49, 3, [2, 34, 4, 9, 1527, 1528, 127, 1530, 1529]), (591, .if_icmp .eq 908, 3, []), (596, .aload_n 1, 1, []), (597, .aload_n 0, 1, []), (598, .iload 4, 2, []), (600, .iconst 1, 1, []), (601, .iadd, 1, []), (602, .iaload, 1, []), (603, .invokevirtual 50, 3, [2, 36, 1, 8, 666, 667, 117, 669, 668]), (606, .aload_n 2, 1, []), (607, .aload_n 0, 1, []), (608, .iload 4, 2, []), (610, .iconst 1, 1, []), (611, .iadd, 1, []), (612, .iaload, 1, []), (613, .invokevirtual 54, 3, [2, 37, 1, 9, 1542, 1543, 127, 1545, 1544]), (616, .if_icmp .eq 883, 3, []), (621, .aload_n 1, 1, []), (622, .aload_n 0, 1, []), (623, .iload 4, 2, []), (625, .iconst 1, 1, []), (626, .iadd, 1, []), (627, .iaload, 1, []), (628, .aload_n 0, 1, [])]
def zt0_6 : List ZI := [(629, .iload 4, 2, []), (631, .iconst 2, 1, []), (632, .iadd, 1, []), (633, .iaload, 1, []), (634, .invokevirtual 55, 3, [2, 38, 2, 8, 674, 675, 117, 677, 676]), (637, .aload_n 2, 1, []), (638, .aload_n 0, 1, []), (639, .iload 4, 2, []), (641, .iconst 1, 1, []), (642, .iadd, 1, []), (643, .iaload, 1, []), (644, .aload_n 0, 1, []), (645, .iload 4, 2, []), (647, .iconst 2, 1, []), (648, .iadd, 1, []), (649, .iaload, 1, []), (650, .invokevirtual 58, 3, [2, 42, 2, 9, 1546, 1547, 127, 1549, 1548]), (653, .if_icmp .eq 846, 3, []), (738, .aload_n 1, 1, []), (739, .aload_n 0, 1, []), (740, .iload 4, 2, []), (742, .iconst 1, 1, []), (743, .iadd, 1, []), (744, .iaload, 1, []), (745, .aload_n 0, 1, []), (746, .iload 4, 2, []), (748, .iconst 2, 1, []), (749, .iadd, 1, []), (750, .iaload, 1, []), (751, .invokevirtual 69, 3, [2, 45, 2, 8, 698, 699, 117, 701, 700]), (754, .aload_n 2, 1, []), (755, .aload_n 0, 1, []), (756, .iload 4, 2, []), (758, .iconst 1, 1, []), (759, .iadd, 1, []), (760, .iaload, 1, []), (761, .aload_n 0, 1, []), (762, .iload 4, 2, []), (764, .iconst 2, 1, []), (765, .iadd, 1, [])]
def zt0_7 : List ZI := [(766, .iaload, 1, []), (767, .invokevirtual 72, 3, [2, 46, 2, 9, 1562, 1563, 127, 1565, 1564]), (770, .if_icmp .eq 729, 3, []), (775, .aload_n 1, 1, []), (776, .aload_n 0, 1, []), (777, .iload 4, 2, []), (779, .iconst 1, 1, []), (780, .iadd, 1, []), (781, .iaload, 1, []), (782, .aload_n 0, 1, []), (783, .iload 4, 2, []), (785, .iconst 2, 1, []), (786, .iadd, 1, []), (787, .iaload, 1, []), (788, .invokevirtual 73, 3, [2, 47, 2, 8, 718, 719, 117, 721, 720]), (791, .aload_n 2, 1, []), (792, .aload_n 0, 1, []), (793, .iload 4, 2, []), (795, .iconst 1, 1, []), (796, .iadd, 1, []), (797, .iaload, 1, []), (798, .aload_n 0, 1, []), (799, .iload 4, 2, []), (801, .iconst 2, 1, []), (802, .iadd, 1, []), (803, .iaload, 1, []), (804, .invokevirtual 76, 3, [2, 48, 2, 9, 1570, 1571, 127, 1573, 1572]), (807, .if_icmp .eq 692, 3, []), (812, .aload_n 1, 1, []), (813, .aload_n 0, 1, []), (814, .iload 4, 2, []), (816, .iconst 1, 1, []), (817, .iadd, 1, []), (818, .iaload, 1, []), (819, .aload_n 0, 1, []), (820, .iload 4, 2, []), (822, .iconst 2, 1, []), (823, .iadd, 1, []), (824, .iaload, 1, []), (825, .invokevirtual 77, 3, [2, 49, 2, 8, 722, 723, 117, 725, 724])]
def zt0_8 : List ZI := [(828, .aload_n 2, 1, []), (829, .aload_n 0, 1, []), (830, .iload 4, 2, []), (832, .iconst 1, 1, []), (833, .iadd, 1, []), (834, .iaload, 1, []), (835, .aload_n 0, 1, []), (836, .iload 4, 2, []), (838, .iconst 2, 1, []), (839, .iadd, 1, []), (840, .iaload, 1, []), (841, .invokevirtual 81, 3, [2, 50, 2, 9, 1574, 1575, 127, 1577, 1576]), (844, .if_icmp .eq 655, 3, []), (849, .aload_n 1, 1, []), (850, .aload_n 0, 1, []), (851, .iload 4, 2, []), (853, .iconst 1, 1, []), (854, .iadd, 1, []), (855, .iaload, 1, []), (856, .invokevirtual 82, 3, [2, 51, 1, 8, 726, 727, 117, 729, 728]), (859, .aload_n 2, 1, []), (860, .aload_n 0, 1, []), (861, .iload 4, 2, []), (863, .iconst 1, 1, []), (864, .iadd, 1, []), (865, .iaload, 1, []), (866, .invokevirtual 86, 3, [2, 52, 1, 9, 1578, 1579, 127, 1581, 1580]), (869, .if_icmp .eq 630, 3, []), (874, .aload_n 1, 1, []), (875, .aload_n 0, 1, []), (876, .iload 4, 2, []), (878, .iconst 1, 1, []), (879, .iadd, 1, []), (880, .iaload, 1, []), (881, .aload_n 0, 1, []), (882, .iload 4, 2, []), (884, .iconst 2, 1, []), (885, .iadd, 1, []), (886, .iaload, 1, []), (887, .invokevirtual 87, 3, [2, 69, 2, 8, 802, 803, 117, 805, 804])]
def zt0_9 : List ZI := [(890, .aload_n 2, 1, []), (891, .aload_n 0, 1, []), (892, .iload 4, 2, []), (894, .iconst 1, 1, []), (895, .iadd, 1, []), (896, .iaload, 1, []), (897, .aload_n 0, 1, []), (898, .iload 4, 2, []), (900, .iconst 2, 1, []), (901, .iadd, 1, []), (902, .iaload, 1, []), (903, .invokevirtual 90, 3, [2, 71, 2, 9, 1618, 1619, 127, 1621, 1620]), (906, .if_icmp .eq 593, 3, []), (911, .aload_n 1, 1, []), (912, .aload_n 0, 1, []), (913, .iload 4, 2, []), (915, .iconst 1, 1, []), (916, .iadd, 1, []), (917, .iaload, 1, []), (918, .aload_n 0, 1, []), (919, .iload 4, 2, []), (921, .iconst 2, 1, []), (922, .iadd, 1, []), (923, .iaload, 1, []), (924, .invokevirtual 91, 3, [2, 73, 2, 8, 823, 824, 117, 826, 825]), (927, .aload_n 2, 1, []), (928, .aload_n 0, 1, []), (929, .iload 4, 2, []), (931, .iconst 1, 1, []), (932, .iadd, 1, []), (933, .iaload, 1, []), (934, .aload_n 0, 1, []), (935, .iload 4, 2, []), (937, .iconst 2, 1, []), (938, .iadd, 1, []), (939, .iaload, 1, []), (940, .invokevirtual 94, 3, [2, 74, 2, 9, 1626, 1627, 127, 1629, 1628]), (943, .if_icmp .eq 556, 3, []), (948, .aload_n 1, 1, []), (949, .aload_n 0, 1, [])]
def zt0_10 : List ZI := [(950, .iload 4, 2, []), (952, .iconst 1, 1, []), (953, .iadd, 1, []), (954, .iaload, 1, []), (955, .aload_n 0, 1, []), (956, .iload 4, 2, []), (958, .iconst 2, 1, []), (959, .iadd, 1, []), (960, .iaload, 1, []), (961, .invokevirtual 95, 3, [2, 75, 2, 8, 827, 828, 117, 830, 829]), (964, .aload_n 2, 1, []), (965, .aload_n 0, 1, []), (966, .iload 4, 2, []), (968, .iconst 1, 1, []), (969, .iadd, 1, []), (970, .iaload, 1, []), (971, .aload_n 0, 1, []), (972, .iload 4, 2, []), (974, .iconst 2, 1, []), (975, .iadd, 1, []), (976, .iaload, 1, []), (977, .invokevirtual 98, 3, [2, 76, 2, 9, 1630, 1631, 127, 1633, 1632]), (980, .if_icmp .eq 519, 3, []), (985, .aload_n 1, 1, []), (986, .aload_n 0, 1, []), (987, .iload 4, 2, []), (989, .iconst 1, 1, []), (990, .iadd, 1, []), (991, .iaload, 1, []), (992, .aload_n 0, 1, []), (993, .iload 4, 2, []), (995, .iconst 2, 1, []), (996, .iadd, 1, []), (997, .iaload, 1, []), (998, .invokevirtual 99, 3, [2, 77, 2, 8, 839, 840, 117, 842, 841]), (1001, .aload_n 2, 1, []), (1002, .aload_n 0, 1, []), (1003, .iload 4, 2, []), (1005, .iconst 1, 1, []), (1006, .iadd, 1, [])]
def zt0_11 : List ZI := [(1007, .iaload, 1, []), (1008, .aload_n 0, 1, []), (1009, .iload 4, 2, []), (1011, .iconst 2, 1, []), (1012, .iadd, 1, []), (1013, .iaload, 1, []), (1014, .invokevirtual 102, 3, [2, 78, 2, 9, 1634, 1635, 127, 1637, 1636]), (1017, .if_icmp .eq 482, 3, []), (1022, .aload_n 1, 1, []), (1023, .aload_n 0, 1, []), (1024, .iload 4, 2, []), (1026, .iconst 1, 1, []), (1027, .iadd, 1, []), (1028, .iaload, 1, []), (1029, .invokevirtual 103, 3, [2, 79, 1, 8, 851, 852, 117, 854, 853]), (1032, .aload_n 2, 1, []), (1033, .aload_n 0, 1, []), (1034, .iload 4, 2, []), (1036, .iconst 1, 1, []), (1037, .iadd, 1, []), (1038, .iaload, 1, []), (1039, .invokevirtual 106, 3, [2, 80, 1, 9, 1638, 1639, 127, 1641, 1640]), (1042, .if_icmp .eq 457, 3, []), (1047, .aload_n 1, 1, []), (1048, .invokevirtual 107, 3, [2, 82, 0, 8, 860, 861, 117, 863, 862]), (1051, .aload_n 2, 1, []), (1052, .invokevirtual 110, 3, [2, 84, 0, 9, 1642, 1643, 127, 1645, 1644]), (1055, .if_icmp .eq 444, 3, []), (1060, .aload_n 1, 1, []), (1061, .aload_n 0, 1, []), (1062, .iload 4, 2, []), (1064, .iconst 1, 1, []), (1065, .iadd, 1, []), (1066, .iaload, 1, []), (1067, .invokevirtual 111, 3, [2, 85, 1, 8, 881, 882, 117, 884, 883]), (1070, .aload_n 2, 1, []), (1071, .aload_n 0, 1, []), (1072, .iload 4, 2, []), (1074, .iconst 1, 1, []), (1075, .iadd, 1, [])]
def zt0_12 : List ZI := [(1076, .iaload, 1, []), (1077, .invokevirtual 114, 3, [2, 86, 1, 9, 1650, 1651, 127, 1653, 1652]), (1080, .if_icmp .eq 419, 3, []), (1085, .aload_n 1, 1, []), (1086, .aload_n 0, 1, []), (1087, .iload 4, 2, []), (1089, .iconst 1, 1, []), (1090, .iadd, 1, []), (1091, .iaload, 1, []), (1092, .aload_n 0, 1, []), (1093, .iload 4, 2, []), (1095, .iconst 2, 1, []), (1096, .iadd, 1, []), (1097, .iaload, 1, []), (1098, .aload_n 0, 1, []), (1099, .iload 4, 2, []), (1101, .iconst 3, 1, []), (1102, .iadd, 1, []), (1103, .iaload, 1, []), (1104, .ifCond .eq 7, 3, []), (1107, .iconst 1, 1, []), (1108, .goto 4, 3, []), (1111, .iconst 0, 1, []), (1112, .invokevirtual 115, 3, [2, 92, 3, 8, 1012, 1013, 117, 1015, 1014]), (1115, .aload_n 2, 1, []), (1116, .aload_n 0, 1, []), (1117, .iload 4, 2, []), (1119, .iconst 1, 1, []), (1120, .iadd, 1, []), (1121, .iaload, 1, []), (1122, .aload_n 0, 1, []), (1123, .iload 4, 2, []), (1125, .iconst 2, 1, []), (1126, .iadd, 1, []), (1127, .iaload, 1, []), (1128, .aload_n 0, 1, []), (1129, .iload 4, 2, []), (1131, .iconst 3, 1, []), (1132, .iadd, 1, []), (1133, .iaload, 1, [])]
def zt0_13 : List ZI := [(1134, .ifCond .eq 7, 3, []), (1137, .iconst 1, 1, []), (1138, .goto 4, 3, []), (1141, .iconst 0, 1, []), (1142, .invokevirtual 119, 3, [2, 93, 3, 9, 1727, 1728, 127, 1730, 1729]), (1145, .if_icmp .eq 354, 3, []), (1150, .aload_n 1, 1, []), (1151, .aload_n 0, 1, []), (1152, .iload 4, 2, []), (1154, .iconst 1, 1, []), (1155, .iadd, 1, []), (1156, .iaload, 1, []), (1157, .aload_n 0, 1, []), (1158, .iload 4, 2, []), (1160, .iconst 2, 1, []), (1161, .iadd, 1, []), (1162, .iaload, 1, []), (1163, .invokevirtual 120, 3, [2, 94, 2, 8, 1016, 1017, 117, 1019, 1018]), (1166, .aload_n 2, 1, []), (1167, .aload_n 0, 1, []), (1168, .iload 4, 2, []), (1170, .iconst 1, 1, []), (1171, .iadd, 1, []), (1172, .iaload, 1, []), (1173, .aload_n 0, 1, []), (1174, .iload 4, 2, []), (1176, .iconst 2, 1, []), (1177, .iadd, 1, []), (1178, .iaload, 1, []), (1179, .invokevirtual 123, 3, [2, 95, 2, 9, 1731, 1732, 127, 1734, 1733]), (1182, .if_icmp .eq 317, 3, []), (1187, .aload_n 1, 1, []), (1188, .aload_n 0, 1, []), (1189, .iload 4, 2, []), (1191, .iconst 1, 1, []), (1192, .iadd, 1, []), (1193, .iaload, 1, []), (1194, .aload_n 0, 1, []), (1195, .iload 4, 2, []), (1197, .iconst 2, 1, [])]
def zt0_14 : List ZI := [(1198, .iadd, 1, []), (1199, .iaload, 1, []), (1200, .aload_n 0, 1, []), (1201, .iload 4, 2, []), (1203, .iconst 3, 1, []), (1204, .iadd, 1, []), (1205, .iaload, 1, []), (1206, .invokevirtual 124, 3, [2, 96, 3, 8, 1072, 1073, 117, 1075, 1074]), (1209, .aload_n 2, 1, []), (1210, .aload_n 0, 1, []), (1211, .iload 4, 2, []), (1213, .iconst 1, 1, []), (1214, .iadd, 1, []), (1215, .iaload, 1, []), (1216, .aload_n 0, 1, []), (1217, .iload 4, 2, []), (1219, .iconst 2, 1, []), (1220, .iadd, 1, []), (1221, .iaload, 1, []), (1222, .aload_n 0, 1, []), (1223, .iload 4, 2, []), (1225, .iconst 3, 1, []), (1226, .iadd, 1, []), (1227, .iaload, 1, []), (1228, .invokevirtual 127, 3, [2, 97, 3, 9, 1766, 1767, 127, 1769, 1768]), (1231, .if_icmp .eq 268, 3, []), (1236, .aload_n 1, 1, []), (1237, .aload_n 0, 1, []), (1238, .iload 4, 2, []), (1240, .iconst 1, 1, []), (1241, .iadd, 1, []), (1242, .iaload, 1, []), (1243, .invokevirtual 128, 3, [2, 98, 1, 8, 1076, 1077, 117, 1079, 1078]), (1246, .aload_n 2, 1, []), (1247, .aload_n 0, 1, []), (1248, .iload 4, 2, []), (1250, .iconst 1, 1, []), (1251, .iadd, 1, []), (1252, .iaload, 1, []), (1253, .invokevirtual 131, 3, [2, 99, 1, 9, 1770, 1771, 127, 1773, 1772])]
def zt0_15 : List ZI := [(1256, .if_icmp .eq 243, 3, []), (1261, .aload_n 1, 1, []), (1262, .aload_n 0, 1, []), (1263, .iload 4, 2, []), (1265, .iconst 1, 1, []), (1266, .iadd, 1, []), (1267, .iaload, 1, []), (1268, .invokevirtual 132, 3, [2, 109, 1, 8, 1092, 1093, 117, 1095, 1094]), (1271, .aload_n 2, 1, []), (1272, .aload_n 0, 1, []), (1273, .iload 4, 2, []), (1275, .iconst 1, 1, []), (1276, .iadd, 1, []), (1277, .iaload, 1, []), (1278, .invokevirtual 135, 3, [2, 110, 1, 9, 1778, 1779, 127, 1781, 1780]), (1281, .if_icmp .eq 218, 3, []), (1286, .aload_n 1, 1, []), (1287, .aload_n 0, 1, []), (1288, .iload 4, 2, []), (1290, .iconst 1, 1, []), (1291, .iadd, 1, []), (1292, .iaload, 1, []), (1293, .aload_n 0, 1, []), (1294, .iload 4, 2, []), (1296, .iconst 2, 1, []), (1297, .iadd, 1, []), (1298, .iaload, 1, []), (1299, .aload_n 0, 1, []), (1300, .iload 4, 2, []), (1302, .iconst 3, 1, []), (1303, .iadd, 1, []), (1304, .iaload, 1, []), (1305, .invokevirtual 136, 3, [2, 111, 3, 8, 1096, 1097, 117, 1099, 1098]), (1308, .aload_n 2, 1, []), (1309, .aload_n 0, 1, []), (1310, .iload 4, 2, []), (1312, .iconst 1, 1, []), (1313, .iadd, 1, []), (1314, .iaload, 1, []), (1315, .aload_n 0, 1, [])]
def zt0_16 : List ZI := [(1316, .iload 4, 2, []), (1318, .iconst 2, 1, []), (1319, .iadd, 1, []), (1320, .iaload, 1, []), (1321, .aload_n 0, 1, []), (1322, .iload 4, 2, []), (1324, .iconst 3, 1, []), (1325, .iadd, 1, []), (1326, .iaload, 1, []), (1327, .invokevirtual 139, 3, [2, 112, 3, 9, 1782, 1783, 127, 1785, 1784]), (1330, .if_icmp .eq 169, 3, []), (1335, .aload_n 1, 1, []), (1336, .aload_n 0, 1, []), (1337, .iload 4, 2, []), (1339, .iconst 1, 1, []), (1340, .iadd, 1, []), (1341, .iaload, 1, []), (1342, .ifCond .eq 7, 3, []), (1345, .iconst 1, 1, []), (1346, .goto 4, 3, []), (1349, .iconst 0, 1, []), (1350, .aload_n 0, 1, []), (1351, .iload 4, 2, []), (1353, .iconst 2, 1, []), (1354, .iadd, 1, []), (1355, .iaload, 1, []), (1356, .aload_n 0, 1, []), (1357, .iload 4, 2, []), (1359, .iconst 3, 1, []), (1360, .iadd, 1, []), (1361, .iaload, 1, []), (1362, .aload_n 0, 1, []), (1363, .iload 4, 2, []), (1365, .iconst 4, 1, []), (1366, .iadd, 1, []), (1367, .iaload, 1, []), (1368, .aload_n 0, 1, []), (1369, .iload 4, 2, []), (1371, .iconst 5, 1, []), (1372, .iadd, 1, [])]
def zt0_17 : List ZI := [(1373, .iaload, 1, []), (1374, .invokevirtual 140, 3, [2, 113, 5, 8, 1125, 1126, 117, 1128, 1127]), (1377, .aload_n 2, 1, []), (1378, .aload_n 0, 1, []), (1379, .iload 4, 2, []), (1381, .iconst 1, 1, []), (1382, .iadd, 1, []), (1383, .iaload, 1, []), (1384, .ifCond .eq 7, 3, []), (1387, .iconst 1, 1, []), (1388, .goto 4, 3, []), (1391, .iconst 0, 1, []), (1392, .aload_n 0, 1, []), (1393, .iload 4, 2, []), (1395, .iconst 2, 1, []), (1396, .iadd, 1, []), (1397, .iaload, 1, []), (1398, .aload_n 0, 1, []), (1399, .iload 4, 2, []), (1401, .iconst 3, 1, []), (1402, .iadd, 1, []), (1403, .iaload, 1, []), (1404, .aload_n 0, 1, []), (1405, .iload 4, 2, []), (1407, .iconst 4, 1, []), (1408, .iadd, 1, []), (1409, .iaload, 1, []), (1410, .aload_n 0, 1, []), (1411, .iload 4, 2, []), (1413, .iconst 5, 1, []), (1414, .iadd, 1, []), (1415, .iaload, 1, []), (1416, .invokevirtual 144, 3, [2, 114, 5, 9, 1786, 1787, 127, 1789, 1788]), (1419, .if_icmp .eq 80, 3, []), (1424, .aload_n 1, 1, []), (1425, .aload_n 0, 1, []), (1426, .iload 4, 2, []), (1428, .iconst 1, 1, []), (1429, .iadd, 1, []), (1430, .iaload, 1, [])]
def zt0_18 : List ZI := [(1431, .invokevirtual 145, 3, [2, 116, 1, 8, 1133, 1134, 117, 1136, 1135]), (1434, .aload_n 2, 1, []), (1435, .aload_n 0, 1, []), (1436, .iload 4, 2, []), (1438, .iconst 1, 1, []), (1439, .iadd, 1, []), (1440, .iaload, 1, []), (1441, .invokevirtual 148, 3, [2, 117, 1, 9, 1790, 1791, 127, 1793, 1792]), (1444, .if_icmp .eq 55, 3, []), (1449, .aload_n 1, 1, []), (1450, .aload_n 0, 1, []), (1451, .iload 4, 2, []), (1453, .iconst 1, 1, []), (1454, .iadd, 1, []), (1455, .iaload, 1, []), (1456, .invokevirtual 149, 3, [2, 123, 1, 8, 1159, 1160, 117, 1162, 1161]), (1459, .aload_n 2, 1, []), (1460, .aload_n 0, 1, []), (1461, .iload 4, 2, []), (1463, .iconst 1, 1, []), (1464, .iadd, 1, []), (1465, .iaload, 1, []), (1466, .invokevirtual 152, 3, [2, 124, 1, 9, 1806, 1807, 127, 1809, 1808]), (1469, .if_icmp .eq 30, 3, []), (1474, .aload_n 1, 1, []), (1475, .aload_n 0, 1, []), (1476, .iload 4, 2, []), (1478, .iconst 1, 1, []), (1479, .iadd, 1, []), (1480, .iaload, 1, []), (1481, .invokevirtual 153, 3, [2, 125, 1, 8, 1163, 1164, 117, 1166, 1165]), (1484, .aload_n 2, 1, []), (1485, .aload_n 0, 1, []), (1486, .iload 4, 2, []), (1488, .iconst 1, 1, []), (1489, .iadd, 1, []), (1490, .iaload, 1, []), (1491, .invokevirtual 156, 3, [2, 126, 1, 9, 1810, 1811, 127, 1813, 1812]), (1494, .if_icmp .eq 5, 3, []), (1499, .iinc 4 7, 3, [])]
def zt0_19 : List ZI := [(1502, .goto (-1479), 3, []), (1505, .iconst 1, 1, []), (1506, .ireturn, 1, [])]
def zt0 : List ZI := zt0_0 ++ (zt0_1 ++ (zt0_2 ++ (zt0_3 ++ (zt0_4 ++ (zt0_5 ++ (zt0_6 ++ (zt0_7 ++ (zt0_8 ++ (zt0_9 ++ (zt0_10 ++ (zt0_11 ++ (zt0_12 ++ (zt0_13 ++ (zt0_14 ++ (zt0_15 ++ (zt0_16 ++ (zt0_17 ++ (zt0_18 ++ (zt0_19)))))))))))))))))))
def zt1_0 : List ZI := [(0, .aload_n 0, 1, []), (1, .invokespecial 1, 3, [6, 0, 0, 0, 143, 144, 145]), (4, .aload_n 0, 1, []), (5, .new 7, 3, [6, 4, 146, 147, 118]), (8, .dup, 1, []), (9, .invokespecial 9, 3, [5, 2, 0, 6, 148, 149, 118, 150]), (12, .putfield 10, 3, [8, 0, 2, 1, 521]), (15, .aload_n 0, 1, []), (16, .new 16, 3, [1, 6, 175, 176, 119]), (19, .dup, 1, []), (20, .invokespecial 18, 3, [5, 3, 0, 1, 177, 178, 119, 179]), (23, .putfield 19, 3, [8, 1, 2, 1, 522]), (26, .aload_n 0, 1, []), (27, .bipush 12, 2, []), (29, .anewarray 23, 3, [4, 208, 209]), (32, .putfield 25, 3, [8, 2, 2, 1, 523]), (35, .iconst 0, 1, []), (36, .istore_n 1, 1, []), (37, .iload_n 1, 1, []), (38, .bipush 12, 2, []), (40, .if_icmp .ge 22, 3, []), (43, .aload_n 0, 1, []), (44, .getfield 25, 3, [8, 2, 523]), (47, .iload_n 1, 1, []), (48, .new 23, 3, [7, 11, 208, 210, 120]), (51, .dup, 1, []), (52, .invokespecial 29, 3, [5, 4, 0, 7, 211, 212, 120, 213]), (55, .aastore, 1, [4, 7]), (56, .iinc 1 1, 3, []), (59, .goto (-22), 3, []), (62, .aload_n 0, 1, []), (63, .bipush 6, 2, []), (65, .newarray .int, 2, [0, 207]), (67, .putfield 30, 3, [8, 3, 2, 1, 524]), (70, .iconst 0, 1, []), (71, .istore_n 1, 1, []), (72, .iload_n 1, 1, []), (73, .bipush 6, 2, []), (75, .if_icmp .ge 16, 3, []), (78, .aload_n 0, 1, [])]
def zt1_1 : List ZI := [(79, .getfield 30, 3, [8, 3, 524]), (82, .iload_n 1, 1, []), (83, .iconst (-1), 1, []), (84, .iastore, 1, []), (85, .iinc 1 1, 3, []), (88, .goto (-16), 3, []), (91, .aload_n 0, 1, []), (92, .new 34, 3, [5, 19, 273, 274, 121]), (95, .dup, 1, []), (96, .aload_n 0, 1, []), (97, .getfield 19, 3, [8, 1, 522]), (100, .aload_n 0, 1, []), (101, .getfield 25, 3, [8, 2, 523]), (104, .aload_n 0, 1, []), (105, .getfield 30, 3, [8, 3, 524]), (108, .invokespecial 36, 3, [4, 5, 3, 5, 275, 276, 121, 277]), (111, .putfield 39, 3, [8, 4, 2, 1, 525]), (114, .aload_n 0, 1, []), (115, .bipush 6, 2, []), (117, .anewarray 43, 3, [5, 341, 342]), (120, .putfield 45, 3, [8, 5, 2, 1, 526]), (123, .iconst 0, 1, []), (124, .istore_n 1, 1, []), (125, .iload_n 1, 1, []), (126, .bipush 6, 2, []), (128, .if_icmp .ge 23, 3, []), (131, .aload_n 0, 1, []), (132, .getfield 45, 3, [8, 5, 526]), (135, .iload_n 1, 1, []), (136, .new 43, 3, [2, 7, 341, 343, 122]), (139, .dup, 1, []), (140, .iconst 0, 1, []), (141, .invokespecial 49, 3, [4, 6, 1, 2, 344, 345, 122, 346]), (144, .aastore, 1, [5, 2]), (145, .iinc 1 1, 3, []), (148, .goto (-23), 3, []), (151, .aload_n 0, 1, []), (152, .new 52, 3, [3, 12, 386, 387, 124]), (155, .dup, 1, []), (156, .aload_n 0, 1, [])]
def zt1_2 : List ZI := [(157, .getfield 10, 3, [8, 0, 521]), (160, .aload_n 0, 1, []), (161, .getfield 19, 3, [8, 1, 522]), (164, .invokespecial 54, 3, [4, 7, 2, 3, 388, 389, 124, 390]), (167, .putfield 57, 3, [8, 6, 2, 1, 527]), (170, .aload_n 0, 1, []), (171, .new 61, 3, [4, 14, 432, 433, 125]), (174, .dup, 1, []), (175, .aload_n 0, 1, []), (176, .getfield 19, 3, [8, 1, 522]), (179, .aload_n 0, 1, []), (180, .getfield 25, 3, [8, 2, 523]), (183, .aload_n 0, 1, []), (184, .getfield 45, 3, [8, 5, 526]), (187, .invokespecial 63, 3, [4, 8, 3, 4, 434, 435, 125, 436]), (190, .putfield 66, 3, [8, 7, 2, 1, 528]), (193, .aload_n 0, 1, []), (194, .new 70, 3, [0, 7, 490, 491, 126]), (197, .dup, 1, []), (198, .invokespecial 72, 3, [5, 9, 0, 0, 492, 493, 126, 494]), (201, .putfield 73, 3, [8, 8, 2, 1, 529]), (204, .return_, 1, [])]
def zt1 : List ZI := zt1_0 ++ (zt1_1 ++ (zt1_2))
def zt2_0 : List ZI := [(0, .aload_n 0, 1, []), (1, .invokespecial 3, 3, [6, 0, 0, 0, 151, 144, 145]), (4, .aload_n 0, 1, []), (5, .sipush 1000, 3, []), (8, .newarray .char, 2, [2, 174]), (10, .putfield 9, 3, [6, 0, 2, 1, 152]), (13, .aload_n 0, 1, []), (14, .iconst 0, 1, []), (15, .putfield 15, 3, [6, 1, 0, 0, 156]), (18, .aload_n 0, 1, []), (19, .iconst 0, 1, []), (20, .putfield 19, 3, [6, 2, 0, 0, 159]), (23, .aload_n 0, 1, []), (24, .iconst 0, 1, []), (25, .putfield 22, 3, [6, 3, 0, 0, 162]), (28, .return_, 1, [])]
def zt2 : List ZI := zt2_0
def zt3_0 : List ZI := [(0, .aload_n 0, 1, []), (1, .invokespecial 3, 3, [6, 0, 0, 0, 180, 144, 145]), (4, .aload_n 0, 1, []), (5, .bipush 8, 2, []), (7, .newarray .boolean, 2, [1, 206]), (9, .putfield 9, 3, [1, 0, 2, 1, 181]), (12, .aload_n 0, 1, []), (13, .bipush 8, 2, []), (15, .newarray .boolean, 2, [1, 206]), (17, .putfield 15, 3, [1, 1, 2, 1, 182]), (20, .aload_n 0, 1, []), (21, .bipush 8, 2, []), (23, .newarray .int, 2, [0, 207]), (25, .putfield 18, 3, [1, 2, 2, 1, 184]), (28, .aload_n 0, 1, []), (29, .bipush 8, 2, []), (31, .newarray .int, 2, [0, 207]), (33, .putfield 22, 3, [1, 3, 2, 1, 187]), (36, .aload_n 0, 1, []), (37, .bipush 8, 2, []), (39, .newarray .int, 2, [0, 207]), (41, .putfield 25, 3, [1, 4, 2, 1, 189]), (44, .aload_n 0, 1, []), (45, .bipush 64, 2, []), (47, .newarray .char, 2, [2, 174]), (49, .putfield 28, 3, [1, 5, 2, 1, 192]), (52, .return_, 1, [])]
def zt3 : List ZI := zt3_0
def zt4_0 : List ZI := [(0, .aload_n 0, 1, []), (1, .invokespecial 3, 3, [6, 0, 0, 0, 214, 144, 145]), (4, .aload_n 0, 1, []), (5, .iconst 0, 1, []), (6, .putfield 9, 3, [7, 0, 1, 0, 215]), (9, .aload_n 0, 1, []), (10, .iconst 0, 1, []), (11, .putfield 15, 3, [7, 1, 0, 0, 218]), (14, .aload_n 0, 1, []), (15, .iconst 0, 1, []), (16, .putfield 19, 3, [7, 2, 0, 0, 222]), (19, .aload_n 0, 1, []), (20, .iconst 0, 1, []), (21, .putfield 22, 3, [7, 3, 0, 0, 225]), (24, .aload_n 0, 1, []), (25, .iconst 0, 1, []), (26, .putfield 25, 3, [7, 4, 0, 0, 228]), (29, .aload_n 0, 1, []), (30, .iconst 0, 1, []), (31, .putfield 28, 3, [7, 5, 0, 0, 230]), (34, .aload_n 0, 1, []), (35, .bipush 6, 2, []), (37, .newarray .int, 2, [0, 207]), (39, .putfield 31, 3, [7, 6, 2, 1, 234]), (42, .aload_n 0, 1, []), (43, .bipush 6, 2, []), (45, .newarray .int, 2, [0, 207]), (47, .putfield 35, 3, [7, 7, 2, 1, 237]), (50, .aload_n 0, 1, []), (51, .bipush 6, 2, []), (53, .newarray .int, 2, [0, 207]), (55, .putfield 38, 3, [7, 8, 2, 1, 242]), (58, .aload_n 0, 1, []), (59, .bipush 6, 2, []), (61, .newarray .int, 2, [0, 207]), (63, .putfield 41, 3, [7, 9, 2, 1, 246]), (66, .aload_n 0, 1, []), (67, .bipush 48, 2, []), (69, .newarray .char, 2, [2, 174]), (71, .putfield 44, 3, [7, 10, 2, 1, 248])]
def zt4_1 : List ZI := [(74, .return_, 1, [])]
def zt4 : List ZI := zt4_0 ++ (zt4_1)
def zt5_0 : List ZI := [(0, .aload_n 0, 1, []), (1, .invokespecial 3, 3, [6, 0, 0, 0, 278, 144, 145]), (4, .aload_n 0, 1, []), (5, .iconst 0, 1, []), (6, .putfield 9, 3, [5, 3, 0, 0, 282]), (9, .aload_n 0, 1, []), (10, .iconst 0, 1, []), (11, .putfield 15, 3, [5, 4, 1, 0, 284]), (14, .aload_n 0, 1, []), (15, .bipush 6, 2, []), (17, .newarray .int, 2, [0, 207]), (19, .putfield 19, 3, [5, 5, 2, 1, 285]), (22, .aload_n 0, 1, []), (23, .bipush 6, 2, []), (25, .newarray .int, 2, [0, 207]), (27, .putfield 23, 3, [5, 6, 2, 1, 286]), (30, .aload_n 0, 1, []), (31, .bipush 36, 2, []), (33, .newarray .int, 2, [0, 207]), (35, .putfield 26, 3, [5, 7, 2, 1, 287]), (38, .aload_n 0, 1, []), (39, .bipush 72, 2, []), (41, .newarray .int, 2, [0, 207]), (43, .putfield 29, 3, [5, 8, 2, 1, 288]), (46, .aload_n 0, 1, []), (47, .bipush 12, 2, []), (49, .newarray .int, 2, [0, 207]), (51, .putfield 32, 3, [5, 9, 2, 1, 289]), (54, .aload_n 0, 1, []), (55, .bipush 6, 2, []), (57, .newarray .int, 2, [0, 207]), (59, .putfield 35, 3, [5, 10, 2, 1, 290]), (62, .aload_n 0, 1, []), (63, .bipush 6, 2, []), (65, .newarray .int, 2, [0, 207]), (67, .putfield 38, 3, [5, 11, 2, 1, 291]), (70, .aload_n 0, 1, []), (71, .bipush 6, 2, []), (73, .newarray .int, 2, [0, 207]), (75, .putfield 41, 3, [5, 12, 2, 1, 292])]
def zt5_1 : List ZI := [(78, .aload_n 0, 1, []), (79, .bipush 36, 2, []), (81, .newarray .int, 2, [0, 207]), (83, .putfield 44, 3, [5, 13, 2, 1, 294]), (86, .aload_n 0, 1, []), (87, .iconst 0, 1, []), (88, .putfield 47, 3, [5, 14, 0, 0, 296]), (91, .aload_n 0, 1, []), (92, .iconst 0, 1, []), (93, .putfield 50, 3, [5, 15, 1, 0, 298]), (96, .aload_n 0, 1, []), (97, .iconst 0, 1, []), (98, .putfield 53, 3, [5, 16, 1, 0, 299]), (101, .aload_n 0, 1, []), (102, .iconst (-1), 1, []), (103, .putfield 56, 3, [5, 17, 0, 0, 300]), (106, .aload_n 0, 1, []), (107, .iconst 0, 1, []), (108, .putfield 59, 3, [5, 18, 0, 0, 301]), (111, .aload_n 0, 1, []), (112, .aload_n 1, 1, []), (113, .putfield 62, 3, [5, 0, 2, 1, 279]), (116, .aload_n 0, 1, []), (117, .aload_n 2, 1, []), (118, .putfield 66, 3, [5, 1, 2, 1, 280]), (121, .aload_n 0, 1, []), (122, .aload_n 3, 1, []), (123, .putfield 70, 3, [5, 2, 2, 1, 281]), (126, .return_, 1, [])]
def zt5 : List ZI := zt5_0 ++ (zt5_1)
def zt6_0 : List ZI := [(0, .aload_n 0, 1, []), (1, .invokespecial 1, 3, [6, 0, 0, 0, 347, 144, 145]), (4, .aload_n 0, 1, []), (5, .iconst 0, 1, []), (6, .putfield 7, 3, [2, 0, 0, 0, 351]), (9, .aload_n 0, 1, []), (10, .iconst 0, 1, []), (11, .putfield 13, 3, [2, 1, 0, 0, 355]), (14, .aload_n 0, 1, []), (15, .bipush 12, 2, []), (17, .newarray .int, 2, [0, 207]), (19, .putfield 16, 3, [2, 2, 2, 1, 357]), (22, .aload_n 0, 1, []), (23, .bipush 12, 2, []), (25, .newarray .int, 2, [0, 207]), (27, .putfield 20, 3, [2, 3, 2, 1, 360]), (30, .aload_n 0, 1, []), (31, .bipush 12, 2, []), (33, .newarray .int, 2, [0, 207]), (35, .putfield 23, 3, [2, 4, 2, 1, 363]), (38, .aload_n 0, 1, []), (39, .bipush 12, 2, []), (41, .newarray .int, 2, [0, 207]), (43, .putfield 26, 3, [2, 5, 2, 1, 366]), (46, .aload_n 0, 1, []), (47, .iconst 0, 1, []), (48, .iload_n 1, 1, []), (49, .invokestatic 29, 3, [8, 0, 0, 0, 348, 349, 123, 350]), (52, .newarray .int, 2, [0, 207]), (54, .putfield 35, 3, [2, 6, 2, 0, 369]), (57, .return_, 1, [])]
def zt6 : List ZI := zt6_0
def zt7_0 : List ZI := [(0, .aload_n 0, 1, []), (1, .invokespecial 3, 3, [6, 0, 0, 0, 391, 144, 145]), (4, .aload_n 0, 1, []), (5, .new 9, 3, [2, 7, 392, 343, 122]), (8, .dup, 1, []), (9, .sipush 1000, 3, []), (12, .invokespecial 11, 3, [4, 6, 1, 2, 393, 345, 122, 346]), (15, .putfield 14, 3, [3, 2, 2, 1, 396]), (18, .aload_n 0, 1, []), (19, .iconst 0, 1, []), (20, .putfield 20, 3, [3, 3, 0, 0, 398]), (23, .aload_n 0, 1, []), (24, .bipush 24, 2, []), (26, .putfield 26, 3, [3, 4, 0, 0, 399]), (29, .aload_n 0, 1, []), (30, .iconst 0, 1, []), (31, .putfield 29, 3, [3, 5, 0, 0, 400]), (34, .aload_n 0, 1, []), (35, .iconst 0, 1, []), (36, .putfield 32, 3, [3, 6, 0, 0, 401]), (39, .aload_n 0, 1, []), (40, .iconst 0, 1, []), (41, .putfield 35, 3, [3, 7, 0, 0, 402]), (44, .aload_n 0, 1, []), (45, .bipush 64, 2, []), (47, .newarray .int, 2, [0, 207]), (49, .putfield 38, 3, [3, 8, 2, 1, 403]), (52, .aload_n 0, 1, []), (53, .iconst 0, 1, []), (54, .putfield 42, 3, [3, 9, 0, 0, 404]), (57, .aload_n 0, 1, []), (58, .iconst 0, 1, []), (59, .putfield 45, 3, [3, 10, 0, 0, 405]), (62, .aload_n 0, 1, []), (63, .iconst 1, 1, []), (64, .putfield 48, 3, [3, 11, 1, 0, 406]), (67, .aload_n 0, 1, []), (68, .aload_n 1, 1, []), (69, .putfield 52, 3, [3, 0, 2, 1, 394]), (72, .aload_n 0, 1, [])]
def zt7_1 : List ZI := [(73, .aload_n 2, 1, []), (74, .putfield 56, 3, [3, 1, 2, 1, 395]), (77, .return_, 1, [])]
def zt7 : List ZI := zt7_0 ++ (zt7_1)
def zt8_0 : List ZI := [(0, .aload_n 0, 1, []), (1, .invokespecial 3, 3, [6, 0, 0, 0, 437, 144, 145]), (4, .aload_n 0, 1, []), (5, .bipush 6, 2, []), (7, .newarray .int, 2, [0, 207]), (9, .putfield 9, 3, [4, 3, 2, 1, 441]), (12, .aload_n 0, 1, []), (13, .bipush 6, 2, []), (15, .newarray .boolean, 2, [1, 206]), (17, .putfield 15, 3, [4, 4, 2, 1, 443]), (20, .aload_n 0, 1, []), (21, .bipush 12, 2, []), (23, .newarray .int, 2, [0, 207]), (25, .putfield 19, 3, [4, 5, 2, 1, 445]), (28, .aload_n 0, 1, []), (29, .bipush 72, 2, []), (31, .newarray .int, 2, [0, 207]), (33, .putfield 22, 3, [4, 6, 2, 1, 447]), (36, .aload_n 0, 1, []), (37, .bipush 72, 2, []), (39, .newarray .int, 2, [0, 207]), (41, .putfield 25, 3, [4, 7, 2, 1, 449]), (44, .aload_n 0, 1, []), (45, .bipush 72, 2, []), (47, .newarray .int, 2, [0, 207]), (49, .putfield 28, 3, [4, 8, 2, 1, 451]), (52, .aload_n 0, 1, []), (53, .bipush 72, 2, []), (55, .newarray .int, 2, [0, 207]), (57, .putfield 31, 3, [4, 9, 2, 1, 453]), (60, .aload_n 0, 1, []), (61, .bipush 6, 2, []), (63, .newarray .int, 2, [0, 207]), (65, .putfield 34, 3, [4, 10, 2, 1, 455]), (68, .aload_n 0, 1, []), (69, .bipush 64, 2, []), (71, .newarray .int, 2, [0, 207]), (73, .putfield 37, 3, [4, 11, 2, 1, 457]), (76, .aload_n 0, 1, []), (77, .iconst 0, 1, [])]
def zt8_1 : List ZI := [(78, .putfield 40, 3, [4, 12, 0, 0, 458]), (81, .aload_n 0, 1, []), (82, .iconst 0, 1, []), (83, .putfield 44, 3, [4, 13, 1, 0, 460]), (86, .aload_n 0, 1, []), (87, .aload_n 1, 1, []), (88, .putfield 48, 3, [4, 0, 2, 1, 438]), (91, .aload_n 0, 1, []), (92, .aload_n 2, 1, []), (93, .putfield 52, 3, [4, 1, 2, 1, 439]), (96, .aload_n 0, 1, []), (97, .aload_n 3, 1, []), (98, .putfield 56, 3, [4, 2, 2, 1, 440]), (101, .iconst 0, 1, []), (102, .istore 4, 2, []), (104, .iload 4, 2, []), (106, .bipush 6, 2, []), (108, .if_icmp .ge 26, 3, []), (111, .aload_n 0, 1, []), (112, .getfield 9, 3, [4, 3, 441]), (115, .iload 4, 2, []), (117, .bipush 99, 2, []), (119, .iastore, 1, []), (120, .aload_n 0, 1, []), (121, .getfield 15, 3, [4, 4, 443]), (124, .iload 4, 2, []), (126, .iconst 1, 1, []), (127, .bastore, 1, []), (128, .iinc 4 1, 3, []), (131, .goto (-27), 3, []), (134, .return_, 1, [])]
def zt8 : List ZI := zt8_0 ++ (zt8_1)
def zt9_0 : List ZI := [(0, .aload_n 0, 1, []), (1, .invokespecial 3, 3, [6, 0, 0, 0, 495, 144, 145]), (4, .aload_n 0, 1, []), (5, .bipush 12, 2, []), (7, .newarray .boolean, 2, [1, 206]), (9, .putfield 9, 3, [0, 0, 2, 1, 496]), (12, .aload_n 0, 1, []), (13, .bipush 12, 2, []), (15, .newarray .int, 2, [0, 207]), (17, .putfield 15, 3, [0, 1, 2, 1, 498]), (20, .aload_n 0, 1, []), (21, .bipush 12, 2, []), (23, .newarray .int, 2, [0, 207]), (25, .putfield 19, 3, [0, 2, 2, 1, 499]), (28, .aload_n 0, 1, []), (29, .bipush 12, 2, []), (31, .newarray .int, 2, [0, 207]), (33, .putfield 22, 3, [0, 3, 2, 1, 500]), (36, .aload_n 0, 1, []), (37, .bipush 6, 2, []), (39, .newarray .int, 2, [0, 207]), (41, .putfield 25, 3, [0, 4, 2, 1, 501]), (44, .aload_n 0, 1, []), (45, .iconst 0, 1, []), (46, .putfield 28, 3, [0, 5, 0, 0, 503]), (49, .aload_n 0, 1, []), (50, .iconst 0, 1, []), (51, .putfield 32, 3, [0, 6, 1, 0, 505]), (54, .return_, 1, [])]
def zt9 : List ZI := zt9_0
def zt10_0 : List ZI := [(0, .aload_n 0, 1, []), (1, .invokespecial 18, 3, [6, 0, 0, 0, 1277, 144, 145]), (4, .aload_n 0, 1, []), (5, .sipush 1000, 3, []), (8, .newarray .int, 2, [0, 207]), (10, .putfield 14, 3, [9, 1, 2, 1, 1295]), (13, .aload_n 0, 1, []), (14, .sipush 1002, 3, []), (17, .newarray .int, 2, [0, 207]), (19, .putfield 24, 3, [9, 4, 2, 1, 1298]), (22, .aload_n 0, 1, []), (23, .sipush 1002, 3, []), (26, .newarray .int, 2, [0, 207]), (28, .putfield 27, 3, [9, 5, 2, 1, 1299]), (31, .aload_n 0, 1, []), (32, .sipush 1002, 3, []), (35, .newarray .long, 2, [3, 1469]), (37, .putfield 30, 3, [9, 6, 2, 1, 1300]), (40, .aload_n 0, 1, []), (41, .bipush 15, 2, []), (43, .newarray .long, 2, [3, 1469]), (45, .dup, 1, []), (46, .iconst 0, 1, []), (47, .ldc2_w 34, 3, [21332, 1278]), (50, .lastore, 1, []), (51, .dup, 1, []), (52, .iconst 1, 1, []), (53, .ldc2_w 36, 3, [406715, 1279]), (56, .lastore, 1, []), (57, .dup, 1, []), (58, .iconst 2, 1, []), (59, .ldc2_w 38, 3, [22701, 1280]), (62, .lastore, 1, []), (63, .dup, 1, []), (64, .iconst 3, 1, []), (65, .ldc2_w 40, 3, [665856, 1281]), (68, .lastore, 1, []), (69, .dup, 1, []), (70, .iconst 4, 1, []), (71, .ldc2_w 42, 3, [1176170, 1282])]
def zt10_1 : List ZI := [(74, .lastore, 1, []), (75, .dup, 1, []), (76, .iconst 5, 1, []), (77, .ldc2_w 44, 3, [1891, 1283]), (80, .lastore, 1, []), (81, .dup, 1, []), (82, .bipush 6, 2, []), (84, .ldc2_w 46, 3, [573, 1284]), (87, .lastore, 1, []), (88, .dup, 1, []), (89, .bipush 7, 2, []), (91, .ldc2_w 48, 3, [19741, 1285]), (94, .lastore, 1, []), (95, .dup, 1, []), (96, .bipush 8, 2, []), (98, .ldc2_w 50, 3, [564588237, 1286]), (101, .lastore, 1, []), (102, .dup, 1, []), (103, .bipush 9, 2, []), (105, .ldc2_w 52, 3, [36420992, 1287]), (108, .lastore, 1, []), (109, .dup, 1, []), (110, .bipush 10, 2, []), (112, .ldc2_w 54, 3, [983628, 1288]), (115, .lastore, 1, []), (116, .dup, 1, []), (117, .bipush 11, 2, []), (119, .ldc2_w 56, 3, [43567804, 1289]), (122, .lastore, 1, []), (123, .dup, 1, []), (124, .bipush 12, 2, []), (126, .ldc2_w 58, 3, [30595897, 1290]), (129, .lastore, 1, []), (130, .dup, 1, []), (131, .bipush 13, 2, []), (133, .ldc2_w 60, 3, [181467, 1291]), (136, .lastore, 1, []), (137, .dup, 1, []), (138, .bipush 14, 2, []), (140, .ldc2_w 62, 3, [1355088389, 1292])]
def zt10_2 : List ZI := [(143, .lastore, 1, []), (144, .putfield 64, 3, [9, 9, 2, 1, 1303]), (147, .aload_n 0, 1, []), (148, .bipush 8, 2, []), (150, .newarray .boolean, 2, [1, 206]), (152, .putfield 67, 3, [9, 12, 2, 1, 1306]), (155, .aload_n 0, 1, []), (156, .bipush 8, 2, []), (158, .newarray .int, 2, [0, 207]), (160, .putfield 71, 3, [9, 13, 2, 1, 1307]), (163, .aload_n 0, 1, []), (164, .bipush 8, 2, []), (166, .newarray .boolean, 2, [1, 206]), (168, .putfield 74, 3, [9, 14, 2, 1, 1308]), (171, .aload_n 0, 1, []), (172, .bipush 8, 2, []), (174, .newarray .int, 2, [0, 207]), (176, .putfield 77, 3, [9, 15, 2, 1, 1309]), (179, .aload_n 0, 1, []), (180, .bipush 64, 2, []), (182, .newarray .int, 2, [0, 207]), (184, .putfield 80, 3, [9, 16, 2, 1, 1310]), (187, .aload_n 0, 1, []), (188, .bipush 12, 2, []), (190, .newarray .boolean, 2, [1, 206]), (192, .putfield 83, 3, [9, 17, 2, 1, 1311]), (195, .aload_n 0, 1, []), (196, .bipush 12, 2, []), (198, .newarray .int, 2, [0, 207]), (200, .putfield 86, 3, [9, 18, 2, 1, 1312]), (203, .aload_n 0, 1, []), (204, .bipush 12, 2, []), (206, .newarray .int, 2, [0, 207]), (208, .putfield 89, 3, [9, 19, 2, 1, 1313]), (211, .aload_n 0, 1, []), (212, .bipush 12, 2, []), (214, .newarray .int, 2, [0, 207]), (216, .putfield 92, 3, [9, 20, 2, 1, 1314]), (219, .aload_n 0, 1, []), (220, .bipush 12, 2, [])]
def zt10_3 : List ZI := [(222, .newarray .int, 2, [0, 207]), (224, .putfield 95, 3, [9, 21, 2, 1, 1315]), (227, .aload_n 0, 1, []), (228, .bipush 12, 2, []), (230, .newarray .int, 2, [0, 207]), (232, .putfield 98, 3, [9, 22, 2, 1, 1316]), (235, .aload_n 0, 1, []), (236, .bipush 72, 2, []), (238, .newarray .int, 2, [0, 207]), (240, .putfield 101, 3, [9, 23, 2, 1, 1317]), (243, .aload_n 0, 1, []), (244, .bipush 72, 2, []), (246, .newarray .int, 2, [0, 207]), (248, .putfield 104, 3, [9, 24, 2, 1, 1318]), (251, .aload_n 0, 1, []), (252, .bipush 72, 2, []), (254, .newarray .int, 2, [0, 207]), (256, .putfield 107, 3, [9, 25, 2, 1, 1319]), (259, .aload_n 0, 1, []), (260, .bipush 72, 2, []), (262, .newarray .int, 2, [0, 207]), (264, .putfield 110, 3, [9, 26, 2, 1, 1320]), (267, .aload_n 0, 1, []), (268, .sipush 576, 3, []), (271, .newarray .int, 2, [0, 207]), (273, .putfield 113, 3, [9, 27, 2, 1, 1321]), (276, .aload_n 0, 1, []), (277, .bipush 6, 2, []), (279, .newarray .int, 2, [0, 207]), (281, .putfield 116, 3, [9, 29, 2, 1, 1323]), (284, .aload_n 0, 1, []), (285, .bipush 6, 2, []), (287, .newarray .int, 2, [0, 207]), (289, .putfield 119, 3, [9, 30, 2, 1, 1324]), (292, .aload_n 0, 1, []), (293, .bipush 6, 2, []), (295, .newarray .boolean, 2, [1, 206]), (297, .putfield 122, 3, [9, 31, 2, 1, 1325]), (300, .aload_n 0, 1, []), (301, .ldc 125, 2, [46656, 1293])]
def zt10_4 : List ZI := [(303, .newarray .int, 2, [0, 207]), (305, .putfield 126, 3, [9, 33, 2, 1, 1327]), (308, .aload_n 0, 1, []), (309, .bipush 7, 2, []), (311, .newarray .int, 2, [0, 207]), (313, .putfield 129, 3, [9, 35, 2, 1, 1329]), (316, .aload_n 0, 1, []), (317, .bipush 84, 2, []), (319, .newarray .int, 2, [0, 207]), (321, .putfield 132, 3, [9, 36, 2, 1, 1330]), (324, .aload_n 0, 1, []), (325, .bipush 84, 2, []), (327, .newarray .int, 2, [0, 207]), (329, .putfield 135, 3, [9, 37, 2, 1, 1331]), (332, .aload_n 0, 1, []), (333, .bipush 84, 2, []), (335, .newarray .int, 2, [0, 207]), (337, .putfield 138, 3, [9, 38, 2, 1, 1332]), (340, .aload_n 0, 1, []), (341, .sipush 7700, 3, []), (344, .newarray .int, 2, [0, 207]), (346, .putfield 141, 3, [9, 40, 2, 1, 1334]), (349, .aload_n 0, 1, []), (350, .sipush 7700, 3, []), (353, .newarray .int, 2, [0, 207]), (355, .putfield 144, 3, [9, 41, 2, 1, 1335]), (358, .aload_n 0, 1, []), (359, .bipush 7, 2, []), (361, .newarray .int, 2, [0, 207]), (363, .putfield 147, 3, [9, 42, 2, 1, 1336]), (366, .aload_n 0, 1, []), (367, .sipush 1100, 3, []), (370, .newarray .int, 2, [0, 207]), (372, .putfield 150, 3, [9, 43, 2, 1, 1337]), (375, .aload_n 0, 1, []), (376, .bipush 6, 2, []), (378, .newarray .int, 2, [0, 207]), (380, .putfield 153, 3, [9, 44, 2, 1, 1338]), (383, .aload_n 0, 1, []), (384, .bipush 6, 2, [])]
def zt10_5 : List ZI := [(386, .newarray .boolean, 2, [1, 206]), (388, .putfield 156, 3, [9, 45, 2, 1, 1339]), (391, .aload_n 0, 1, []), (392, .bipush 12, 2, []), (394, .newarray .int, 2, [0, 207]), (396, .putfield 159, 3, [9, 46, 2, 1, 1340]), (399, .aload_n 0, 1, []), (400, .bipush 72, 2, []), (402, .newarray .int, 2, [0, 207]), (404, .putfield 162, 3, [9, 47, 2, 1, 1341]), (407, .aload_n 0, 1, []), (408, .bipush 72, 2, []), (410, .newarray .int, 2, [0, 207]), (412, .putfield 165, 3, [9, 48, 2, 1, 1342]), (415, .aload_n 0, 1, []), (416, .bipush 72, 2, []), (418, .newarray .int, 2, [0, 207]), (420, .putfield 168, 3, [9, 49, 2, 1, 1343]), (423, .aload_n 0, 1, []), (424, .bipush 12, 2, []), (426, .newarray .boolean, 2, [1, 206]), (428, .putfield 171, 3, [9, 51, 2, 1, 1345]), (431, .aload_n 0, 1, []), (432, .bipush 12, 2, []), (434, .newarray .int, 2, [0, 207]), (436, .putfield 174, 3, [9, 52, 2, 1, 1346]), (439, .aload_n 0, 1, []), (440, .bipush 12, 2, []), (442, .newarray .int, 2, [0, 207]), (444, .putfield 177, 3, [9, 53, 2, 1, 1347]), (447, .aload_n 0, 1, []), (448, .bipush 12, 2, []), (450, .newarray .int, 2, [0, 207]), (452, .putfield 180, 3, [9, 54, 2, 1, 1348]), (455, .aload_n 0, 1, []), (456, .bipush 6, 2, []), (458, .newarray .int, 2, [0, 207]), (460, .putfield 183, 3, [9, 55, 2, 1, 1349]), (463, .aload_n 0, 1, []), (464, .bipush 6, 2, [])]
def zt10_6 : List ZI := [(466, .newarray .int, 2, [0, 207]), (468, .putfield 186, 3, [9, 57, 2, 1, 1351]), (471, .iconst 0, 1, []), (472, .istore_n 1, 1, []), (473, .iload_n 1, 1, []), (474, .bipush 6, 2, []), (476, .if_icmp .ge 31, 3, []), (479, .aload_n 0, 1, []), (480, .getfield 116, 3, [9, 29, 1323]), (483, .iload_n 1, 1, []), (484, .iconst (-1), 1, []), (485, .iastore, 1, []), (486, .aload_n 0, 1, []), (487, .getfield 153, 3, [9, 44, 1338]), (490, .iload_n 1, 1, []), (491, .bipush 99, 2, []), (493, .iastore, 1, []), (494, .aload_n 0, 1, []), (495, .getfield 156, 3, [9, 45, 1339]), (498, .iload_n 1, 1, []), (499, .iconst 1, 1, []), (500, .bastore, 1, []), (501, .iinc 1 1, 3, []), (504, .goto (-31), 3, []), (507, .aload_n 0, 1, []), (508, .iconst 1, 1, []), (509, .putfield 189, 3, [9, 28, 1, 0, 1322]), (512, .return_, 1, [])]
def zt10 : List ZI := zt10_0 ++ (zt10_1 ++ (zt10_2 ++ (zt10_3 ++ (zt10_4 ++ (zt10_5 ++ (zt10_6))))))
def zt11_0 : List ZI := [(0, .aload_n 0, 1, []), (1, .iload_n 1, 1, []), (2, .iload_n 2, 1, []), (3, .iload_n 3, 1, []), (4, .invokevirtual 85, 3, [2, 12, 3, 8, 565, 567, 117, 568, 1]), (7, .istore 4, 2, []), (9, .aload_n 0, 1, []), (10, .getfield 10, 3, [8, 0, 521]), (13, .iconst 0, 1, []), (14, .putfield 81, 3, [6, 1, 0, 0, 157]), (17, .iload 4, 2, []), (19, .ireturn, 1, [])]
def zt11 : List ZI := zt11_0
def zt12_0 : List ZI := [(0, .iload_n 1, 1, []), (1, .bipush 8, 2, []), (3, .invokestatic 110, 3, [0, 13, 2, 0, 569, 570, 117, 571]), (6, .ifCond .eq 12, 3, []), (9, .iload_n 2, 1, []), (10, .bipush 6, 2, []), (12, .invokestatic 110, 3, [0, 13, 2, 0, 569, 570, 117, 571]), (15, .ifCond .ne 5, 3, []), (18, .iconst (-1), 1, []), (19, .ireturn, 1, []), (20, .aload_n 0, 1, []), (21, .getfield 10, 3, [8, 0, 521]), (24, .invokevirtual 299, 3, [2, 17, 0, 6, 572, 573, 118, 575, 574]), (27, .aload_n 0, 1, []), (28, .getfield 10, 3, [8, 0, 521]), (31, .iconst 0, 1, []), (32, .invokevirtual 302, 3, [2, 18, 1, 6, 579, 580, 118, 582, 581]), (35, .ifCond .ne 5, 3, []), (38, .iconst 1, 1, []), (39, .ireturn, 1, [])]
def zt12 : List ZI := zt12_0
def zt13_0 : List ZI := [(0, .iload_n 0, 1, []), (1, .ifCond .lt 12, 3, []), (4, .iload_n 0, 1, []), (5, .iload_n 1, 1, []), (6, .if_icmp .ge 7, 3, []), (9, .iconst 1, 1, []), (10, .goto 4, 3, []), (13, .iconst 0, 1, []), (14, .ireturn, 1, [])]
def zt13 : List ZI := zt13_0
def zt14_0 : List ZI := [(0, .aload_n 0, 1, []), (1, .iconst 0, 1, []), (2, .putfield 1, 3, [9, 0, 0, 0, 1294]), (5, .aload_n 0, 1, []), (6, .invokevirtual 248, 3, [2, 15, 0, 9, 1474, 1476, 127, 1477, 66]), (9, .iload_n 1, 1, []), (10, .iconst 0, 1, []), (11, .bipush 7, 2, []), (13, .invokestatic 244, 3, [0, 16, 3, 0, 1482, 1483, 127, 1484]), (16, .ifCond .eq 12, 3, []), (19, .iload_n 2, 1, []), (20, .iconst 0, 1, []), (21, .iconst 5, 1, []), (22, .invokestatic 244, 3, [0, 16, 3, 0, 1482, 1483, 127, 1484]), (25, .ifCond .ne 5, 3, []), (28, .iconst (-1), 1, []), (29, .ireturn, 1, []), (30, .aload_n 0, 1, []), (31, .iconst 0, 1, []), (32, .invokevirtual 251, 3, [2, 19, 1, 9, 1485, 1487, 127, 1488, 68]), (35, .ifCond .ne 5, 3, []), (38, .iconst 1, 1, []), (39, .ireturn, 1, [])]
def zt14 : List ZI := zt14_0
def zt15_0 : List ZI := [(0, .aload_n 0, 1, []), (1, .iconst 0, 1, []), (2, .putfield 235, 3, [9, 10, 0, 0, 1304]), (5, .aload_n 0, 1, []), (6, .aload_n 0, 1, []), (7, .getfield 11, 3, [9, 2, 1296]), (10, .putfield 238, 3, [9, 11, 0, 0, 1305]), (13, .aload_n 0, 1, []), (14, .iconst 0, 1, []), (15, .putfield 11, 3, [9, 2, 0, 0, 1296]), (18, .aload_n 0, 1, []), (19, .getfield 235, 3, [9, 10, 1304]), (22, .aload_n 0, 1, []), (23, .getfield 238, 3, [9, 11, 1305]), (26, .if_icmp .ge 27, 3, []), (53, .aload_n 0, 1, []), (54, .getfield 238, 3, [9, 11, 1305]), (57, .aload_n 0, 1, []), (58, .getfield 235, 3, [9, 10, 1304]), (61, .if_icmp .le 29, 3, []), (90, .return_, 1, [])]
def zt15 : List ZI := zt15_0
def zt16_0 : List ZI := [(0, .iload_n 0, 1, []), (1, .iload_n 1, 1, []), (2, .if_icmp .lt 12, 3, []), (5, .iload_n 0, 1, []), (6, .iload_n 2, 1, []), (7, .if_icmp .gt 7, 3, []), (10, .iconst 1, 1, []), (11, .goto 4, 3, []), (14, .iconst 0, 1, []), (15, .ireturn, 1, [])]
def zt16 : List ZI := zt16_0
def zt17_0 : List ZI := [(0, .aload_n 0, 1, []), (1, .iconst 0, 1, []), (2, .putfield 19, 3, [6, 2, 0, 0, 159]), (5, .aload_n 0, 1, []), (6, .aload_n 0, 1, []), (7, .getfield 15, 3, [6, 1, 156]), (10, .putfield 22, 3, [6, 3, 0, 0, 162]), (13, .aload_n 0, 1, []), (14, .getfield 19, 3, [6, 2, 159]), (17, .aload_n 0, 1, []), (18, .getfield 22, 3, [6, 3, 162]), (21, .if_icmp .ge 31, 3, []), (52, .aload_n 0, 1, []), (53, .getfield 22, 3, [6, 3, 162]), (56, .aload_n 0, 1, []), (57, .getfield 19, 3, [6, 2, 159]), (60, .if_icmp .le 33, 3, []), (93, .return_, 1, [])]
def zt17 : List ZI := zt17_0
def zt18_0 : List ZI := [(0, .aload_n 0, 1, []), (1, .getfield 22, 3, [6, 3, 162]), (4, .aload_n 0, 1, []), (5, .getfield 19, 3, [6, 2, 159]), (8, .isub, 1, []), (9, .iconst 1, 1, []), (10, .if_icmp .lt 17, 3, []), (27, .iconst 0, 1, []), (28, .ireturn, 1, [])]
def zt18 : List ZI := zt18_0
def zt19_0 : List ZI := [(0, .aload_n 0, 1, []), (1, .getfield 238, 3, [9, 11, 1305]), (4, .aload_n 0, 1, []), (5, .getfield 235, 3, [9, 10, 1304]), (8, .isub, 1, []), (9, .iconst 1, 1, []), (10, .if_icmp .lt 21, 3, []), (31, .iconst 0, 1, []), (32, .istore_n 2, 1, []), (33, .aload_n 0, 1, []), (34, .getfield 235, 3, [9, 10, 1304]), (37, .istore_n 3, 1, []), (38, .iload_n 3, 1, []), (39, .aload_n 0, 1, []), (40, .getfield 238, 3, [9, 11, 1305]), (43, .if_icmp .ge 46, 3, []), (89, .iload_n 2, 1, []), (90, .ireturn, 1, [])]
def zt19 : List ZI := zt19_0
def zt20_0 : List ZI := [(0, .aload_n 0, 1, []), (1, .getfield 19, 3, [8, 1, 522]), (4, .iload_n 1, 1, []), (5, .invokevirtual 89, 3, [2, 21, 1, 1, 617, 618, 119, 620, 619]), (8, .ifCond .ne 5, 3, []), (11, .iconst (-1), 1, []), (12, .ireturn, 1, [])]
def zt20 : List ZI := zt20_0
def zt21_0 : List ZI := [(0, .iload_n 1, 1, []), (1, .bipush 8, 2, []), (3, .invokestatic 32, 3, [1, 13, 2, 0, 621, 570, 117, 571]), (6, .ifCond .eq 16, 3, []), (9, .aload_n 0, 1, []), (10, .getfield 9, 3, [1, 0, 181]), (13, .iload_n 1, 1, []), (14, .baload, 1, []), (15, .ifCond .eq 7, 3, []), (22, .iconst 0, 1, []), (23, .ireturn, 1, [])]
def zt21 : List ZI := zt21_0
def zt22_0 : List ZI := [(0, .aload_n 0, 1, []), (1, .iconst 0, 1, []), (2, .putfield 1, 3, [9, 0, 0, 0, 1294]), (5, .aload_n 0, 1, []), (6, .iload_n 1, 1, []), (7, .invokevirtual 261, 3, [2, 23, 1, 9, 1500, 1502, 127, 1503, 70]), (10, .ifCond .eq 12, 3, []), (22, .iconst (-1), 1, []), (23, .ireturn, 1, [])]
def zt22 : List ZI := zt22_0
def zt23_0 : List ZI := [(0, .iload_n 1, 1, []), (1, .iconst 0, 1, []), (2, .bipush 7, 2, []), (4, .invokestatic 244, 3, [0, 16, 3, 0, 1482, 1483, 127, 1484]), (7, .ifCond .eq 16, 3, []), (10, .aload_n 0, 1, []), (11, .getfield 67, 3, [9, 12, 1306]), (14, .iload_n 1, 1, []), (15, .baload, 1, []), (16, .ifCond .eq 7, 3, []), (23, .iconst 0, 1, []), (24, .ireturn, 1, [])]
def zt23 : List ZI := zt23_0
def zt24_0 : List ZI := [(0, .aload_n 0, 1, []), (1, .getfield 19, 3, [8, 1, 522]), (4, .iload_n 1, 1, []), (5, .invokevirtual 89, 3, [2, 21, 1, 1, 617, 618, 119, 620, 619]), (8, .ifCond .eq 14, 3, []), (22, .iconst (-1), 1, []), (23, .ireturn, 1, [])]
def zt24 : List ZI := zt24_0
def zt25_0 : List ZI := [(0, .aload_n 0, 1, []), (1, .iconst 0, 1, []), (2, .putfield 1, 3, [9, 0, 0, 0, 1294]), (5, .aload_n 0, 1, []), (6, .iload_n 1, 1, []), (7, .invokevirtual 261, 3, [2, 23, 1, 9, 1500, 1502, 127, 1503, 70]), (10, .ifCond .eq 11, 3, []), (21, .iconst (-1), 1, []), (22, .goto 17, 3, []), (39, .ireturn, 1, [])]
def zt25 : List ZI := zt25_0
def zt26_0 : List ZI := [(0, .iload_n 1, 1, []), (1, .bipush 12, 2, []), (3, .invokestatic 110, 3, [0, 13, 2, 0, 569, 570, 117, 571]), (6, .ifCond .eq 45, 3, []), (9, .iload_n 2, 1, []), (10, .iconst 1, 1, []), (11, .if_icmp .lt 40, 3, []), (14, .iload_n 2, 1, []), (15, .bipush 24, 2, []), (17, .if_icmp .gt 34, 3, []), (20, .iload_n 3, 1, []), (21, .bipush 100, 2, []), (23, .invokestatic 110, 3, [0, 13, 2, 0, 569, 570, 117, 571]), (26, .ifCond .eq 25, 3, []), (29, .iload 4, 2, []), (31, .iconst 4, 1, []), (32, .invokestatic 110, 3, [0, 13, 2, 0, 569, 570, 117, 571]), (35, .ifCond .eq 16, 3, []), (38, .iload 5, 2, []), (40, .iconst 3, 1, []), (41, .invokestatic 110, 3, [0, 13, 2, 0, 569, 570, 117, 571]), (44, .ifCond .eq 7, 3, []), (47, .iconst 1, 1, []), (48, .goto 4, 3, []), (51, .iconst 0, 1, []), (52, .istore 6, 2, []), (54, .iload 6, 2, []), (56, .ifCond .ne 5, 3, []), (59, .iconst 0, 1, []), (60, .ireturn, 1, []), (61, .aload_n 0, 1, []), (62, .getfield 25, 3, [8, 2, 523]), (65, .iload_n 1, 1, []), (66, .aaload, 1, []), (67, .iload_n 2, 1, []), (68, .iload_n 3, 1, []), (69, .iload 4, 2, []), (71, .iload 5, 2, []), (73, .invokevirtual 113, 3, [2, 28, 4, 7, 638, 639, 120, 641, 640]), (76, .aload_n 0, 1, [])]
def zt26_1 : List ZI := [(77, .invokevirtual 117, 3, [2, 29, 0, 8, 601, 603, 117, 604, 3]), (80, .iconst 1, 1, []), (81, .ireturn, 1, [])]
def zt26 : List ZI := zt26_0 ++ (zt26_1)
def zt27_0 : List ZI := [(0, .aload_n 0, 1, []), (1, .iconst 0, 1, []), (2, .putfield 1, 3, [9, 0, 0, 0, 1294]), (5, .iload_n 1, 1, []), (6, .iconst 0, 1, []), (7, .bipush 11, 2, []), (9, .invokestatic 244, 3, [0, 16, 3, 0, 1482, 1483, 127, 1484]), (12, .ifCond .eq 43, 3, []), (15, .iload_n 2, 1, []), (16, .iconst 1, 1, []), (17, .bipush 24, 2, []), (19, .invokestatic 244, 3, [0, 16, 3, 0, 1482, 1483, 127, 1484]), (22, .ifCond .eq 33, 3, []), (25, .iload_n 3, 1, []), (26, .iconst 0, 1, []), (27, .bipush 99, 2, []), (29, .invokestatic 244, 3, [0, 16, 3, 0, 1482, 1483, 127, 1484]), (32, .ifCond .eq 23, 3, []), (35, .iload 4, 2, []), (37, .iconst 0, 1, []), (38, .iconst 3, 1, []), (39, .invokestatic 244, 3, [0, 16, 3, 0, 1482, 1483, 127, 1484]), (42, .ifCond .eq 13, 3, []), (45, .iload 5, 2, []), (47, .iconst 0, 1, []), (48, .iconst 2, 1, []), (49, .invokestatic 244, 3, [0, 16, 3, 0, 1482, 1483, 127, 1484]), (52, .ifCond .ne 5, 3, []), (55, .iconst 0, 1, []), (56, .ireturn, 1, []), (57, .aload_n 0, 1, []), (58, .getfield 83, 3, [9, 17, 1311]), (61, .iload_n 1, 1, []), (62, .iconst 1, 1, []), (63, .bastore, 1, []), (64, .aload_n 0, 1, []), (65, .getfield 86, 3, [9, 18, 1312]), (68, .iload_n 1, 1, []), (69, .iload_n 2, 1, []), (70, .iastore, 1, [])]
def zt27_1 : List ZI := [(71, .aload_n 0, 1, []), (72, .getfield 89, 3, [9, 19, 1313]), (75, .iload_n 1, 1, []), (76, .iload_n 3, 1, []), (77, .iastore, 1, []), (78, .aload_n 0, 1, []), (79, .getfield 92, 3, [9, 20, 1314]), (82, .iload_n 1, 1, []), (83, .iload 4, 2, []), (85, .iastore, 1, []), (86, .aload_n 0, 1, []), (87, .getfield 95, 3, [9, 21, 1315]), (90, .iload_n 1, 1, []), (91, .iload 5, 2, []), (93, .iastore, 1, []), (94, .aload_n 0, 1, []), (95, .getfield 98, 3, [9, 22, 1316]), (98, .iload_n 1, 1, []), (99, .iconst 0, 1, []), (100, .iastore, 1, []), (101, .aload_n 0, 1, []), (102, .iconst 1, 1, []), (103, .putfield 189, 3, [9, 28, 1, 0, 1322]), (106, .iconst 1, 1, []), (107, .ireturn, 1, [])]
def zt27 : List ZI := zt27_0 ++ (zt27_1)
def zt28_0 : List ZI := [(0, .aload_n 0, 1, []), (1, .iconst 1, 1, []), (2, .putfield 9, 3, [7, 0, 1, 0, 215]), (5, .aload_n 0, 1, []), (6, .iload_n 1, 1, []), (7, .putfield 15, 3, [7, 1, 0, 0, 218]), (10, .aload_n 0, 1, []), (11, .iload_n 2, 1, []), (12, .putfield 19, 3, [7, 2, 0, 0, 222]), (15, .aload_n 0, 1, []), (16, .iload_n 3, 1, []), (17, .putfield 22, 3, [7, 3, 0, 0, 225]), (20, .aload_n 0, 1, []), (21, .iload 4, 2, []), (23, .putfield 25, 3, [7, 4, 0, 0, 228]), (26, .aload_n 0, 1, []), (27, .iconst 0, 1, []), (28, .putfield 28, 3, [7, 5, 0, 0, 230]), (31, .return_, 1, [])]
def zt28 : List ZI := zt28_0
def zt29_0 : List ZI := [(0, .aload_n 0, 1, []), (1, .getfield 39, 3, [8, 4, 525]), (4, .invokevirtual 171, 3, [2, 30, 0, 5, 605, 606, 121, 608, 607]), (7, .aload_n 0, 1, []), (8, .getfield 66, 3, [8, 7, 528]), (11, .invokevirtual 230, 3, [2, 31, 0, 4, 609, 610, 125, 612, 611]), (14, .return_, 1, [])]
def zt29 : List ZI := zt29_0
def zt30_0 : List ZI := [(0, .aload_n 0, 1, []), (1, .iconst 0, 1, []), (2, .putfield 50, 3, [5, 15, 1, 0, 298]), (5, .aload_n 0, 1, []), (6, .iconst 0, 1, []), (7, .putfield 53, 3, [5, 16, 1, 0, 299]), (10, .aload_n 0, 1, []), (11, .iconst (-1), 1, []), (12, .putfield 56, 3, [5, 17, 0, 0, 300]), (15, .return_, 1, [])]
def zt30 : List ZI := zt30_0
def zt31_0 : List ZI := [(0, .aload_n 0, 1, []), (1, .iconst 0, 1, []), (2, .putfield 44, 3, [4, 13, 1, 0, 460]), (5, .return_, 1, [])]
def zt31 : List ZI := zt31_0
def zt32_0 : List ZI := [(0, .aload_n 0, 1, []), (1, .iload_n 1, 1, []), (2, .invokevirtual 120, 3, [2, 33, 1, 8, 646, 648, 117, 649, 4]), (5, .ifCond .eq 20, 3, []), (25, .iconst (-1), 1, []), (26, .ireturn, 1, [])]
def zt32 : List ZI := zt32_0
def zt33_0 : List ZI := [(0, .iload_n 1, 1, []), (1, .bipush 12, 2, []), (3, .invokestatic 110, 3, [0, 13, 2, 0, 569, 570, 117, 571]), (6, .ifCond .eq 19, 3, []), (9, .aload_n 0, 1, []), (10, .getfield 25, 3, [8, 2, 523]), (13, .iload_n 1, 1, []), (14, .aaload, 1, []), (15, .getfield 335, 3, [7, 0, 217]), (18, .ifCond .eq 7, 3, []), (25, .iconst 0, 1, []), (26, .ireturn, 1, [])]
def zt33 : List ZI := zt33_0
def zt34_0 : List ZI := [(0, .aload_n 0, 1, []), (1, .iconst 0, 1, []), (2, .putfield 1, 3, [9, 0, 0, 0, 1294]), (5, .aload_n 0, 1, []), (6, .iload_n 1, 1, []), (7, .invokevirtual 277, 3, [2, 35, 1, 9, 1531, 1533, 127, 1534, 74]), (10, .ifCond .eq 40, 3, []), (50, .iconst 0, 1, []), (51, .istore 5, 2, []), (53, .iload 5, 2, []), (55, .ifCond .eq 36, 3, []), (91, .iconst (-1), 1, []), (92, .ireturn, 1, [])]
def zt34 : List ZI := zt34_0
def zt35_0 : List ZI := [(0, .iload_n 1, 1, []), (1, .iconst 0, 1, []), (2, .bipush 11, 2, []), (4, .invokestatic 244, 3, [0, 16, 3, 0, 1482, 1483, 127, 1484]), (7, .ifCond .eq 16, 3, []), (10, .aload_n 0, 1, []), (11, .getfield 83, 3, [9, 17, 1311]), (14, .iload_n 1, 1, []), (15, .baload, 1, []), (16, .ifCond .eq 7, 3, []), (23, .iconst 0, 1, []), (24, .ireturn, 1, [])]
def zt35 : List ZI := zt35_0
def zt36_0 : List ZI := [(0, .aload_n 0, 1, []), (1, .iload_n 1, 1, []), (2, .invokevirtual 120, 3, [2, 33, 1, 8, 646, 648, 117, 649, 4]), (5, .ifCond .eq 15, 3, []), (20, .iconst 0, 1, []), (21, .ireturn, 1, [])]
def zt36 : List ZI := zt36_0
def zt37_0 : List ZI := [(0, .aload_n 0, 1, []), (1, .iconst 0, 1, []), (2, .putfield 1, 3, [9, 0, 0, 0, 1294]), (5, .aload_n 0, 1, []), (6, .iload_n 1, 1, []), (7, .invokevirtual 277, 3, [2, 35, 1, 9, 1531, 1533, 127, 1534, 74]), (10, .ifCond .eq 12, 3, []), (22, .iconst 0, 1, []), (23, .ireturn, 1, [])]
def zt37 : List ZI := zt37_0
def zt38_0 : List ZI := [(0, .aload_n 0, 1, []), (1, .iload_n 1, 1, []), (2, .iload_n 2, 1, []), (3, .invokevirtual 138, 3, [2, 39, 2, 8, 678, 680, 117, 681, 6]), (6, .istore_n 3, 1, []), (7, .aload_n 0, 1, []), (8, .getfield 10, 3, [8, 0, 521]), (11, .iconst 0, 1, []), (12, .putfield 81, 3, [6, 1, 0, 0, 157]), (15, .iload_n 3, 1, []), (16, .ireturn, 1, [])]
def zt38 : List ZI := zt38_0
def zt39_0 : List ZI := [(0, .aload_n 0, 1, []), (1, .iload_n 1, 1, []), (2, .iload_n 2, 1, []), (3, .invokevirtual 161, 3, [2, 40, 2, 8, 682, 684, 117, 685, 7]), (6, .ifCond .eq 16, 3, []), (22, .iconst (-1), 1, []), (23, .ireturn, 1, [])]
def zt39 : List ZI := zt39_0
def zt40_0 : List ZI := [(0, .aload_n 0, 1, []), (1, .iload_n 1, 1, []), (2, .iload_n 2, 1, []), (3, .invokevirtual 142, 3, [2, 41, 2, 8, 686, 688, 117, 689, 8]), (6, .ifCond .eq 24, 3, []), (30, .iconst 0, 1, []), (31, .ireturn, 1, [])]
def zt40 : List ZI := zt40_0
def zt41_0 : List ZI := [(0, .aload_n 0, 1, []), (1, .iload_n 1, 1, []), (2, .invokevirtual 120, 3, [2, 33, 1, 8, 646, 648, 117, 649, 4]), (5, .ifCond .eq 23, 3, []), (28, .iconst 0, 1, []), (29, .ireturn, 1, [])]
def zt41 : List ZI := zt41_0
def zt42_0 : List ZI := [(0, .aload_n 0, 1, []), (1, .iconst 0, 1, []), (2, .putfield 1, 3, [9, 0, 0, 0, 1294]), (5, .aload_n 0, 1, []), (6, .invokevirtual 248, 3, [2, 15, 0, 9, 1474, 1476, 127, 1477, 66]), (9, .aload_n 0, 1, []), (10, .iload_n 1, 1, []), (11, .iload_n 2, 1, []), (12, .invokevirtual 286, 3, [2, 43, 2, 9, 1550, 1552, 127, 1553, 76]), (15, .ifCond .eq 32, 3, []), (47, .iconst (-1), 1, []), (48, .ireturn, 1, [])]
def zt42 : List ZI := zt42_0
def zt43_0 : List ZI := [(0, .aload_n 0, 1, []), (1, .iload_n 1, 1, []), (2, .iload_n 2, 1, []), (3, .invokevirtual 283, 3, [2, 44, 2, 9, 1554, 1556, 127, 1557, 77]), (6, .ifCond .eq 24, 3, []), (30, .iconst 0, 1, []), (31, .ireturn, 1, [])]
def zt43 : List ZI := zt43_0
def zt44_0 : List ZI := [(0, .aload_n 0, 1, []), (1, .iload_n 1, 1, []), (2, .invokevirtual 277, 3, [2, 35, 1, 9, 1531, 1533, 127, 1534, 74]), (5, .ifCond .eq 21, 3, []), (26, .iconst 0, 1, []), (27, .ireturn, 1, [])]
def zt44 : List ZI := zt44_0
def zt45_0 : List ZI := [(0, .aload_n 0, 1, []), (1, .iload_n 1, 1, []), (2, .iload_n 2, 1, []), (3, .invokevirtual 161, 3, [2, 40, 2, 8, 682, 684, 117, 685, 7]), (6, .ifCond .eq 21, 3, []), (27, .iconst (-1), 1, []), (28, .ireturn, 1, [])]
def zt45 : List ZI := zt45_0
def zt46_0 : List ZI := [(0, .aload_n 0, 1, []), (1, .iconst 0, 1, []), (2, .putfield 1, 3, [9, 0, 0, 0, 1294]), (5, .aload_n 0, 1, []), (6, .iload_n 1, 1, []), (7, .iload_n 2, 1, []), (8, .invokevirtual 286, 3, [2, 43, 2, 9, 1550, 1552, 127, 1553, 76]), (11, .ifCond .ne 5, 3, []), (14, .iconst (-1), 1, []), (15, .ireturn, 1, [])]
def zt46 : List ZI := zt46_0
def zt47_0 : List ZI := [(0, .aload_n 0, 1, []), (1, .iload_n 1, 1, []), (2, .invokevirtual 120, 3, [2, 33, 1, 8, 646, 648, 117, 649, 4]), (5, .ifCond .eq 14, 3, []), (19, .iconst (-1), 1, []), (20, .ireturn, 1, [])]
def zt47 : List ZI := zt47_0
def zt48_0 : List ZI := [(0, .aload_n 0, 1, []), (1, .iconst 0, 1, []), (2, .putfield 1, 3, [9, 0, 0, 0, 1294]), (5, .aload_n 0, 1, []), (6, .iload_n 1, 1, []), (7, .invokevirtual 277, 3, [2, 35, 1, 9, 1531, 1533, 127, 1534, 74]), (10, .ifCond .eq 11, 3, []), (21, .iconst (-1), 1, []), (22, .ireturn, 1, [])]
def zt48 : List ZI := zt48_0
def zt49_0 : List ZI := [(0, .iload_n 1, 1, []), (1, .bipush 6, 2, []), (3, .invokestatic 110, 3, [0, 13, 2, 0, 569, 570, 117, 571]), (6, .ifCond .eq 17, 3, []), (9, .iload_n 2, 1, []), (10, .iconst (-1), 1, []), (11, .if_icmp .eq 14, 3, []), (14, .iload_n 2, 1, []), (15, .bipush 6, 2, []), (17, .invokestatic 110, 3, [0, 13, 2, 0, 569, 570, 117, 571]), (20, .ifCond .ne 5, 3, []), (23, .iconst 0, 1, []), (24, .ireturn, 1, []), (25, .aload_n 0, 1, []), (26, .getfield 30, 3, [8, 3, 524]), (29, .iload_n 1, 1, []), (30, .iload_n 2, 1, []), (31, .iastore, 1, []), (32, .aload_n 0, 1, []), (33, .getfield 39, 3, [8, 4, 525]), (36, .invokevirtual 171, 3, [2, 30, 0, 5, 605, 606, 121, 608, 607]), (39, .iconst 1, 1, []), (40, .ireturn, 1, [])]
def zt49 : List ZI := zt49_0
def zt50_0 : List ZI := [(0, .aload_n 0, 1, []), (1, .iconst 0, 1, []), (2, .putfield 1, 3, [9, 0, 0, 0, 1294]), (5, .iload_n 1, 1, []), (6, .iconst 0, 1, []), (7, .iconst 5, 1, []), (8, .invokestatic 244, 3, [0, 16, 3, 0, 1482, 1483, 127, 1484]), (11, .ifCond .eq 12, 3, []), (14, .iload_n 2, 1, []), (15, .iconst (-1), 1, []), (16, .iconst 5, 1, []), (17, .invokestatic 244, 3, [0, 16, 3, 0, 1482, 1483, 127, 1484]), (20, .ifCond .ne 5, 3, []), (23, .iconst 0, 1, []), (24, .ireturn, 1, []), (25, .aload_n 0, 1, []), (26, .getfield 116, 3, [9, 29, 1323]), (29, .iload_n 1, 1, []), (30, .iload_n 2, 1, []), (31, .iastore, 1, []), (32, .aload_n 0, 1, []), (33, .iconst 1, 1, []), (34, .putfield 189, 3, [9, 28, 1, 0, 1322]), (37, .iconst 1, 1, []), (38, .ireturn, 1, [])]
def zt50 : List ZI := zt50_0
def zt51_0 : List ZI := [(0, .iload_n 1, 1, []), (1, .tableswitch 72 0 2 #[27, 42, 57], 27, []), (28, .aload_n 0, 1, []), (29, .getfield 39, 3, [8, 4, 525]), (32, .invokevirtual 174, 3, [2, 61, 0, 5, 730, 731, 121, 733, 732]), (35, .aload_n 0, 1, []), (36, .getfield 39, 3, [8, 4, 525]), (39, .getfield 177, 3, [5, 14, 297]), (42, .ireturn, 1, []), (43, .aload_n 0, 1, []), (44, .getfield 39, 3, [8, 4, 525]), (47, .invokevirtual 174, 3, [2, 61, 0, 5, 730, 731, 121, 733, 732]), (50, .aload_n 0, 1, []), (51, .getfield 39, 3, [8, 4, 525]), (54, .invokevirtual 180, 3, [2, 66, 0, 5, 793, 794, 121, 796, 795]), (57, .ireturn, 1, []), (58, .aload_n 0, 1, []), (59, .getfield 39, 3, [8, 4, 525]), (62, .invokevirtual 184, 3, [2, 57, 0, 5, 801, 735, 121, 737, 736]), (65, .aload_n 0, 1, []), (66, .getfield 39, 3, [8, 4, 525]), (69, .getfield 187, 3, [5, 3, 283]), (72, .ireturn, 1, []), (73, .iconst (-1), 1, []), (74, .ireturn, 1, [])]
def zt51 : List ZI := zt51_0
def zt52_0 : List ZI := [(0, .aload_n 0, 1, []), (1, .iconst 0, 1, []), (2, .putfield 1, 3, [9, 0, 0, 0, 1294]), (5, .aload_n 0, 1, []), (6, .invokevirtual 323, 3, [2, 53, 0, 9, 1582, 1584, 127, 1585, 79]), (9, .iload_n 1, 1, []), (10, .ifCond .ne 8, 3, []), (13, .aload_n 0, 1, []), (14, .getfield 305, 3, [9, 32, 1326]), (17, .ireturn, 1, []), (18, .iconst 0, 1, []), (19, .istore_n 2, 1, []), (20, .iconst 0, 1, []), (21, .istore_n 3, 1, []), (22, .iload_n 3, 1, []), (23, .bipush 6, 2, []), (25, .if_icmp .ge 95, 3, []), (28, .iconst 0, 1, []), (29, .istore 4, 2, []), (31, .iconst 0, 1, []), (32, .istore 5, 2, []), (34, .iload 5, 2, []), (36, .bipush 6, 2, []), (38, .if_icmp .ge 47, 3, []), (41, .iload_n 1, 1, []), (42, .iconst 1, 1, []), (43, .if_icmp .ne 42, 3, []), (46, .iload 4, 2, []), (48, .ifCond .ne 24, 3, []), (51, .aload_n 0, 1, []), (52, .getfield 305, 3, [9, 32, 1326]), (55, .ifCond .le 21, 3, []), (58, .aload_n 0, 1, []), (59, .iload_n 3, 1, []), (60, .iload 5, 2, []), (62, .invokevirtual 326, 3, [2, 67, 2, 9, 1610, 1612, 127, 1613, 86]), (65, .aload_n 0, 1, []), (66, .getfield 305, 3, [9, 32, 1326]), (69, .if_icmp .ne 7, 3, []), (72, .iconst 1, 1, [])]
def zt52_1 : List ZI := [(73, .goto 4, 3, []), (77, .istore 4, 2, []), (79, .iinc 5 1, 3, []), (82, .goto (-48), 3, []), (85, .iload_n 2, 1, []), (86, .aload_n 0, 1, []), (87, .getfield 122, 3, [9, 31, 1325]), (90, .iload_n 3, 1, []), (91, .baload, 1, []), (92, .ifCond .eq 19, 3, []), (111, .iconst 0, 1, []), (112, .ior, 1, []), (113, .istore_n 2, 1, []), (114, .iinc 3 1, 3, []), (117, .goto (-95), 3, []), (120, .iload_n 1, 1, []), (121, .iconst 1, 1, []), (122, .iconst 2, 1, []), (123, .invokestatic 244, 3, [0, 16, 3, 0, 1482, 1483, 127, 1484]), (126, .ifCond .eq 7, 3, []), (129, .iload_n 2, 1, []), (130, .goto 4, 3, []), (133, .iconst (-1), 1, []), (134, .ireturn, 1, [])]
def zt52 : List ZI := zt52_0 ++ (zt52_1)
def zt53_0 : List ZI := [(0, .aload_n 0, 1, []), (1, .getfield 189, 3, [9, 28, 1322]), (4, .ifCond .eq 19, 3, []), (7, .aload_n 0, 1, []), (8, .iconst 0, 1, []), (9, .invokevirtual 316, 3, [2, 54, 1, 9, 1586, 1588, 127, 1589, 80]), (12, .aload_n 0, 1, []), (13, .iconst 0, 1, []), (14, .iconst 0, 1, []), (15, .invokevirtual 308, 3, [2, 56, 2, 9, 1594, 1596, 127, 1597, 82]), (18, .aload_n 0, 1, []), (19, .iconst 0, 1, []), (20, .putfield 189, 3, [9, 28, 1, 0, 1322]), (23, .return_, 1, [])]
def zt53 : List ZI := zt53_0
def zt54_0 : List ZI := [(0, .aload_n 0, 1, []), (1, .iload_n 1, 1, []), (2, .putfield 292, 3, [9, 34, 0, 0, 1328]), (5, .aload_n 0, 1, []), (6, .iconst 0, 1, []), (7, .putfield 305, 3, [9, 32, 0, 0, 1326]), (10, .iconst 0, 1, []), (11, .istore_n 2, 1, []), (12, .iload_n 2, 1, []), (13, .bipush 6, 2, []), (15, .if_icmp .ge 23, 3, []), (18, .aload_n 0, 1, []), (19, .getfield 122, 3, [9, 31, 1325]), (22, .iload_n 2, 1, []), (23, .iconst 0, 1, []), (24, .bastore, 1, []), (25, .aload_n 0, 1, []), (26, .getfield 119, 3, [9, 30, 1324]), (29, .iload_n 2, 1, []), (30, .iconst (-1), 1, []), (31, .iastore, 1, []), (32, .iinc 2 1, 3, []), (35, .goto (-23), 3, []), (38, .iconst 0, 1, []), (39, .istore_n 2, 1, []), (40, .iload_n 2, 1, []), (41, .bipush 12, 2, []), (43, .if_icmp .ge 43, 3, []), (46, .iconst 0, 1, []), (47, .istore_n 3, 1, []), (48, .iload_n 3, 1, []), (49, .aload_n 0, 1, []), (50, .iload_n 2, 1, []), (51, .invokevirtual 299, 3, [2, 55, 1, 9, 1590, 1592, 127, 1593, 81]), (54, .if_icmp .ge 26, 3, []), (80, .iinc 2 1, 3, []), (83, .goto (-43), 3, []), (86, .return_, 1, [])]
def zt54 : List ZI := zt54_0
def zt55_0 : List ZI := [(0, .aload_n 0, 1, []), (1, .getfield 83, 3, [9, 17, 1311]), (4, .iload_n 1, 1, []), (5, .baload, 1, []), (6, .ifCond .ne 7, 3, []), (9, .iconst 0, 1, []), (10, .goto 18, 3, []), (28, .ireturn, 1, [])]
def zt55 : List ZI := zt55_0
def zt56_0 : List ZI := [(0, .iload_n 2, 1, []), (1, .ifCond .eq 11, 3, []), (12, .iload_n 1, 1, []), (13, .bipush 6, 2, []), (15, .if_icmp .ne 70, 3, []), (18, .iconst 0, 1, []), (19, .istore_n 3, 1, []), (20, .iconst 0, 1, []), (21, .istore 4, 2, []), (23, .iload 4, 2, []), (25, .bipush 6, 2, []), (27, .if_icmp .ge 37, 3, []), (30, .bipush 6, 2, []), (32, .iload_n 3, 1, []), (33, .imul, 1, []), (34, .aload_n 0, 1, []), (35, .getfield 119, 3, [9, 30, 1324]), (38, .iload 4, 2, []), (40, .iaload, 1, []), (41, .iconst (-1), 1, []), (42, .if_icmp .ne 7, 3, []), (45, .iconst 0, 1, []), (46, .goto 10, 3, []), (56, .iadd, 1, []), (57, .istore_n 3, 1, []), (58, .iinc 4 1, 3, []), (61, .goto (-38), 3, []), (64, .aload_n 0, 1, []), (65, .getfield 126, 3, [9, 33, 1327]), (68, .aload_n 0, 1, []), (69, .getfield 305, 3, [9, 32, 1326]), (72, .iload_n 3, 1, []), (73, .iastore, 1, []), (74, .aload_n 0, 1, []), (75, .dup, 1, []), (76, .getfield 305, 3, [9, 32, 1326]), (79, .iconst 1, 1, []), (80, .iadd, 1, []), (81, .putfield 305, 3, [9, 32, 0, 0, 1326]), (84, .return_, 1, [])]
def zt56_1 : List ZI := [(85, .aload_n 0, 1, []), (86, .getfield 122, 3, [9, 31, 1325]), (89, .iload_n 1, 1, []), (90, .baload, 1, []), (91, .ifCond .ne 12, 3, []), (94, .aload_n 0, 1, []), (95, .iload_n 1, 1, []), (96, .iconst 1, 1, []), (97, .iadd, 1, []), (98, .iload_n 2, 1, []), (99, .invokevirtual 308, 3, [2, 56, 2, 9, 1594, 1596, 127, 1597, 82]), (102, .return_, 1, [])]
def zt56 : List ZI := zt56_0 ++ (zt56_1)
def zt57_0 : List ZI := [(0, .aload_n 0, 1, []), (1, .getfield 50, 3, [5, 15, 298]), (4, .ifCond .ne 18, 3, []), (7, .aload_n 0, 1, []), (8, .invokevirtual 73, 3, [2, 58, 0, 5, 738, 740, 121, 741, 12]), (11, .aload_n 0, 1, []), (12, .iconst (-1), 1, []), (13, .iconst (-1), 1, []), (14, .invokevirtual 76, 3, [2, 59, 2, 5, 748, 750, 121, 751, 13]), (17, .aload_n 0, 1, []), (18, .iconst 1, 1, []), (19, .putfield 50, 3, [5, 15, 1, 0, 298]), (22, .return_, 1, [])]
def zt57 : List ZI := zt57_0
def zt58_0 : List ZI := [(0, .iconst 0, 1, []), (1, .istore_n 1, 1, []), (2, .iload_n 1, 1, []), (3, .bipush 12, 2, []), (5, .if_icmp .ge 118, 3, []), (8, .aload_n 0, 1, []), (9, .getfield 66, 3, [5, 1, 280]), (12, .iload_n 1, 1, []), (13, .aaload, 1, []), (14, .astore_n 2, 1, []), (15, .iconst 0, 1, []), (16, .istore_n 3, 1, []), (17, .iload_n 3, 1, []), (18, .aload_n 2, 1, []), (19, .getfield 80, 3, [7, 5, 232]), (22, .if_icmp .ge 49, 3, []), (71, .aload_n 2, 1, []), (72, .getfield 80, 3, [7, 5, 232]), (75, .iconst 2, 1, []), (76, .isub, 1, []), (77, .istore_n 3, 1, []), (78, .iload_n 3, 1, []), (79, .ifCond .lt 38, 3, []), (117, .iinc 1 1, 3, []), (120, .goto (-118), 3, []), (123, .return_, 1, [])]
def zt58 : List ZI := zt58_0
def zt59_0 : List ZI := [(0, .aload_n 0, 1, []), (1, .iconst 0, 1, []), (2, .putfield 9, 3, [5, 3, 0, 0, 282]), (5, .aload_n 0, 1, []), (6, .iconst 0, 1, []), (7, .putfield 15, 3, [5, 4, 1, 0, 284]), (10, .iconst 0, 1, []), (11, .istore_n 3, 1, []), (12, .iload_n 3, 1, []), (13, .bipush 36, 2, []), (15, .if_icmp .ge 16, 3, []), (18, .aload_n 0, 1, []), (19, .getfield 26, 3, [5, 7, 287]), (22, .iload_n 3, 1, []), (23, .iconst (-1), 1, []), (24, .iastore, 1, []), (25, .iinc 3 1, 3, []), (28, .goto (-16), 3, []), (31, .iconst 0, 1, []), (32, .istore_n 3, 1, []), (33, .iload_n 3, 1, []), (34, .bipush 6, 2, []), (36, .if_icmp .ge 61, 3, []), (39, .aload_n 0, 1, []), (40, .getfield 19, 3, [5, 5, 285]), (43, .iload_n 3, 1, []), (44, .aload_n 0, 1, []), (45, .getfield 70, 3, [5, 2, 281]), (48, .iload_n 3, 1, []), (49, .iaload, 1, []), (50, .iconst (-1), 1, []), (51, .if_icmp .ne 7, 3, []), (54, .iconst 0, 1, []), (55, .goto 9, 3, []), (64, .iastore, 1, []), (65, .aload_n 0, 1, []), (66, .getfield 23, 3, [5, 6, 286]), (69, .iload_n 3, 1, []), (70, .aload_n 0, 1, []), (71, .getfield 70, 3, [5, 2, 281])]
def zt59_1 : List ZI := [(74, .iload_n 3, 1, []), (75, .iaload, 1, []), (76, .iconst (-1), 1, []), (77, .if_icmp .ne 7, 3, []), (80, .iconst 5, 1, []), (81, .goto 9, 3, []), (90, .iastore, 1, []), (91, .iinc 3 1, 3, []), (94, .goto (-61), 3, []), (97, .iconst 0, 1, []), (98, .istore_n 3, 1, []), (99, .iload_n 3, 1, []), (100, .bipush 12, 2, []), (102, .if_icmp .ge 29, 3, []), (105, .aload_n 0, 1, []), (106, .iload_n 3, 1, []), (107, .iload_n 3, 1, []), (108, .iload_n 1, 1, []), (109, .if_icmp .eq 8, 3, []), (112, .iload_n 3, 1, []), (113, .iload_n 2, 1, []), (114, .if_icmp .ne 7, 3, []), (121, .iconst 0, 1, []), (122, .invokevirtual 101, 3, [2, 60, 2, 5, 752, 754, 121, 755, 14]), (125, .iinc 3 1, 3, []), (128, .goto (-29), 3, []), (131, .return_, 1, [])]
def zt59 : List ZI := zt59_0 ++ (zt59_1)
def zt60_0 : List ZI := [(0, .aload_n 0, 1, []), (1, .getfield 66, 3, [5, 1, 280]), (4, .iload_n 1, 1, []), (5, .aaload, 1, []), (6, .astore_n 3, 1, []), (7, .iload_n 2, 1, []), (8, .ifCond .eq 12, 3, []), (20, .aload_n 3, 1, []), (21, .getfield 80, 3, [7, 5, 232]), (24, .istore 4, 2, []), (26, .iconst 0, 1, []), (27, .istore 5, 2, []), (29, .iconst 0, 1, []), (30, .istore 6, 2, []), (32, .iload 6, 2, []), (34, .iload 4, 2, []), (36, .if_icmp .ge 181, 3, []), (217, .return_, 1, [])]
def zt60 : List ZI := zt60_0
def zt61_0 : List ZI := [(0, .aload_n 0, 1, []), (1, .invokevirtual 131, 3, [2, 57, 0, 5, 734, 735, 121, 737, 736]), (4, .aload_n 0, 1, []), (5, .getfield 53, 3, [5, 16, 299]), (8, .ifCond .eq 4, 3, []), (12, .iconst 0, 1, []), (13, .istore_n 1, 1, []), (14, .iload_n 1, 1, []), (15, .bipush 36, 2, []), (17, .if_icmp .ge 16, 3, []), (20, .aload_n 0, 1, []), (21, .getfield 44, 3, [5, 13, 294]), (24, .iload_n 1, 1, []), (25, .iconst 0, 1, []), (26, .iastore, 1, []), (27, .iinc 1 1, 3, []), (30, .goto (-16), 3, []), (33, .aload_n 0, 1, []), (34, .iconst (-1), 1, []), (35, .putfield 56, 3, [5, 17, 0, 0, 300]), (38, .aload_n 0, 1, []), (39, .aload_n 0, 1, []), (40, .invokevirtual 134, 3, [2, 62, 0, 5, 765, 767, 121, 768, 17]), (43, .ifCond .eq 11, 3, []), (46, .aload_n 0, 1, []), (47, .iconst 0, 1, []), (48, .invokevirtual 137, 3, [2, 64, 1, 5, 776, 778, 121, 779, 19]), (51, .goto 4, 3, []), (55, .putfield 47, 3, [5, 14, 0, 0, 296]), (58, .aload_n 0, 1, []), (59, .iconst 1, 1, []), (60, .putfield 53, 3, [5, 16, 1, 0, 299]), (63, .return_, 1, [])]
def zt61 : List ZI := zt61_0
def zt62_0 : List ZI := [(0, .aload_n 0, 1, []), (1, .getfield 15, 3, [5, 4, 284]), (4, .ifCond .eq 5, 3, []), (9, .aload_n 0, 1, []), (10, .getfield 19, 3, [5, 5, 285]), (13, .iconst 0, 1, []), (14, .aload_n 0, 1, []), (15, .getfield 35, 3, [5, 10, 290]), (18, .iconst 0, 1, []), (19, .bipush 6, 2, []), (21, .invokestatic 121, 3, [7, 0, 0, 0, 769, 771, 770, 132]), (24, .iconst 0, 1, []), (25, .istore_n 1, 1, []), (26, .iload_n 1, 1, []), (27, .bipush 36, 2, []), (29, .if_icmp .gt 51, 3, []), (32, .aload_n 0, 1, []), (33, .invokevirtual 127, 3, [2, 63, 0, 5, 772, 774, 121, 775, 18]), (36, .istore_n 2, 1, []), (37, .iconst 0, 1, []), (38, .istore_n 3, 1, []), (39, .iload_n 3, 1, []), (40, .bipush 6, 2, []), (42, .if_icmp .ge 26, 3, []), (45, .aload_n 0, 1, []), (46, .getfield 35, 3, [5, 10, 290]), (49, .iload_n 3, 1, []), (50, .iaload, 1, []), (51, .aload_n 0, 1, []), (52, .getfield 23, 3, [5, 6, 286]), (55, .iload_n 3, 1, []), (56, .iaload, 1, []), (57, .if_icmp .le 5, 3, []), (62, .iinc 3 1, 3, []), (65, .goto (-26), 3, []), (68, .iload_n 2, 1, []), (69, .ifCond .ne 5, 3, []), (72, .iconst 1, 1, []), (73, .ireturn, 1, [])]
def zt62 : List ZI := zt62_0
def zt63_0 : List ZI := [(0, .iconst 0, 1, []), (1, .istore_n 1, 1, []), (2, .iconst 0, 1, []), (3, .istore_n 2, 1, []), (4, .iload_n 2, 1, []), (5, .bipush 6, 2, []), (7, .if_icmp .ge 77, 3, []), (10, .iconst 0, 1, []), (11, .istore_n 3, 1, []), (12, .iload_n 3, 1, []), (13, .bipush 6, 2, []), (15, .if_icmp .ge 63, 3, []), (18, .aload_n 0, 1, []), (19, .getfield 26, 3, [5, 7, 287]), (22, .iload_n 2, 1, []), (23, .bipush 6, 2, []), (25, .imul, 1, []), (26, .iload_n 3, 1, []), (27, .iadd, 1, []), (28, .iaload, 1, []), (29, .istore 4, 2, []), (31, .iload 4, 2, []), (33, .iconst (-1), 1, []), (34, .if_icmp .eq 38, 3, []), (72, .iinc 3 1, 3, []), (75, .goto (-63), 3, []), (78, .iinc 2 1, 3, []), (81, .goto (-77), 3, []), (84, .iload_n 1, 1, []), (85, .ireturn, 1, [])]
def zt63 : List ZI := zt63_0
def zt64_0 : List ZI := [(0, .iload_n 1, 1, []), (1, .bipush 6, 2, []), (3, .if_icmp .lt 5, 3, []), (6, .iconst 1, 1, []), (7, .ireturn, 1, []), (8, .aload_n 0, 1, []), (9, .iload_n 1, 1, []), (10, .invokevirtual 140, 3, [2, 65, 1, 5, 780, 781, 121, 783, 782]), (13, .ifCond .ne 11, 3, []), (16, .aload_n 0, 1, []), (17, .iload_n 1, 1, []), (18, .iconst 1, 1, []), (19, .iadd, 1, []), (20, .invokevirtual 137, 3, [2, 64, 1, 5, 776, 778, 121, 779, 19]), (23, .ireturn, 1, [])]
def zt64 : List ZI := zt64_0
def zt65_0 : List ZI := [(0, .aload_n 0, 1, []), (1, .getfield 9, 3, [5, 3, 282]), (4, .iload_n 1, 1, []), (5, .ishr, 1, []), (6, .iconst 1, 1, []), (7, .iand, 1, []), (8, .iconst 1, 1, []), (9, .if_icmp .ne 7, 3, []), (16, .iconst 0, 1, []), (17, .ireturn, 1, [])]
def zt65 : List ZI := zt65_0
def zt66_0 : List ZI := [(0, .iconst 0, 1, []), (1, .istore_n 1, 1, []), (2, .iconst 0, 1, []), (3, .istore_n 2, 1, []), (4, .iload_n 2, 1, []), (5, .bipush 6, 2, []), (7, .if_icmp .ge 42, 3, []), (10, .aload_n 0, 1, []), (11, .getfield 47, 3, [5, 14, 296]), (14, .ifCond .le 29, 3, []), (17, .aload_n 0, 1, []), (18, .iload_n 2, 1, []), (19, .invokevirtual 140, 3, [2, 65, 1, 5, 780, 781, 121, 783, 782]), (22, .ifCond .eq 21, 3, []), (43, .iinc 2 1, 3, []), (46, .goto (-42), 3, []), (49, .iload_n 1, 1, []), (50, .ireturn, 1, [])]
def zt66 : List ZI := zt66_0
def zt67_0 : List ZI := [(0, .iconst 0, 1, []), (1, .istore_n 3, 1, []), (2, .iconst 0, 1, []), (3, .istore 4, 2, []), (5, .iload 4, 2, []), (7, .aload_n 0, 1, []), (8, .getfield 305, 3, [9, 32, 1326]), (11, .if_icmp .ge 28, 3, []), (14, .iload_n 3, 1, []), (15, .aload_n 0, 1, []), (16, .iload 4, 2, []), (18, .iload_n 1, 1, []), (19, .invokevirtual 319, 3, [2, 68, 2, 9, 1614, 1616, 127, 1617, 87]), (22, .iload_n 2, 1, []), (23, .if_icmp .ne 7, 3, []), (26, .iconst 1, 1, []), (27, .goto 4, 3, []), (31, .iadd, 1, []), (32, .istore_n 3, 1, []), (33, .iinc 4 1, 3, []), (36, .goto (-31), 3, []), (39, .iload_n 3, 1, []), (40, .ireturn, 1, [])]
def zt67 : List ZI := zt67_0
def zt68_0 : List ZI := [(0, .aload_n 0, 1, []), (1, .getfield 126, 3, [9, 33, 1327]), (4, .iload_n 1, 1, []), (5, .iaload, 1, []), (6, .istore_n 3, 1, []), (7, .iconst 5, 1, []), (8, .istore 4, 2, []), (10, .iload 4, 2, []), (12, .iload_n 2, 1, []), (13, .if_icmp .le 14, 3, []), (16, .iload_n 3, 1, []), (17, .bipush 6, 2, []), (19, .idiv, 1, []), (20, .istore_n 3, 1, []), (21, .iinc 4 (-1), 3, []), (24, .goto (-14), 3, []), (27, .iload_n 3, 1, []), (28, .bipush 6, 2, []), (30, .irem, 1, []), (31, .ireturn, 1, [])]
def zt68 : List ZI := zt68_0
def zt69_0 : List ZI := [(0, .aload_n 0, 1, []), (1, .iload_n 2, 1, []), (2, .invokevirtual 190, 3, [2, 70, 1, 8, 806, 808, 117, 809, 22]), (5, .ifCond .eq 7, 3, []), (12, .iconst (-1), 1, []), (13, .ireturn, 1, [])]
def zt69 : List ZI := zt69_0
def zt70_0 : List ZI := [(0, .iload_n 1, 1, []), (1, .bipush 6, 2, []), (3, .invokestatic 110, 3, [0, 13, 2, 0, 569, 570, 117, 571]), (6, .ifCond .ne 5, 3, []), (9, .iconst 0, 1, []), (10, .ireturn, 1, []), (11, .aload_n 0, 1, []), (12, .getfield 39, 3, [8, 4, 525]), (15, .invokevirtual 184, 3, [2, 57, 0, 5, 801, 735, 121, 737, 736]), (18, .aload_n 0, 1, []), (19, .getfield 39, 3, [8, 4, 525]), (22, .iload_n 1, 1, []), (23, .invokevirtual 341, 3, [2, 65, 1, 5, 810, 781, 121, 783, 782]), (26, .ireturn, 1, [])]
def zt70 : List ZI := zt70_0
def zt71_0 : List ZI := [(0, .aload_n 0, 1, []), (1, .iconst 0, 1, []), (2, .putfield 1, 3, [9, 0, 0, 0, 1294]), (5, .aload_n 0, 1, []), (6, .invokevirtual 323, 3, [2, 53, 0, 9, 1582, 1584, 127, 1585, 79]), (9, .iload_n 1, 1, []), (10, .ifCond .lt 28, 3, []), (13, .iload_n 1, 1, []), (14, .aload_n 0, 1, []), (15, .getfield 305, 3, [9, 32, 1326]), (18, .if_icmp .ge 20, 3, []), (21, .aload_n 0, 1, []), (22, .iload_n 2, 1, []), (23, .invokevirtual 329, 3, [2, 72, 1, 9, 1622, 1624, 127, 1625, 88]), (26, .ifCond .eq 12, 3, []), (38, .iconst (-1), 1, []), (39, .ireturn, 1, [])]
def zt71 : List ZI := zt71_0
def zt72_0 : List ZI := [(0, .iload_n 1, 1, []), (1, .iconst 0, 1, []), (2, .iconst 5, 1, []), (3, .invokestatic 244, 3, [0, 16, 3, 0, 1482, 1483, 127, 1484]), (6, .ifCond .eq 16, 3, []), (9, .aload_n 0, 1, []), (10, .getfield 122, 3, [9, 31, 1325]), (13, .iload_n 1, 1, []), (14, .baload, 1, []), (15, .ifCond .eq 7, 3, []), (22, .iconst 0, 1, []), (23, .ireturn, 1, [])]
def zt72 : List ZI := zt72_0
def zt73_0 : List ZI := [(0, .aload_n 0, 1, []), (1, .iload_n 1, 1, []), (2, .invokevirtual 190, 3, [2, 70, 1, 8, 806, 808, 117, 809, 22]), (5, .ifCond .eq 12, 3, []), (17, .iconst (-1), 1, []), (18, .ireturn, 1, [])]
def zt73 : List ZI := zt73_0
def zt74_0 : List ZI := [(0, .aload_n 0, 1, []), (1, .iconst 0, 1, []), (2, .putfield 1, 3, [9, 0, 0, 0, 1294]), (5, .aload_n 0, 1, []), (6, .invokevirtual 323, 3, [2, 53, 0, 9, 1582, 1584, 127, 1585, 79]), (9, .aload_n 0, 1, []), (10, .iload_n 1, 1, []), (11, .invokevirtual 329, 3, [2, 72, 1, 9, 1622, 1624, 127, 1625, 88]), (14, .ifCond .eq 21, 3, []), (35, .iconst (-1), 1, []), (36, .ireturn, 1, [])]
def zt74 : List ZI := zt74_0
def zt75_0 : List ZI := [(0, .aload_n 0, 1, []), (1, .iload_n 1, 1, []), (2, .invokevirtual 190, 3, [2, 70, 1, 8, 806, 808, 117, 809, 22]), (5, .ifCond .eq 11, 3, []), (16, .iconst (-1), 1, []), (17, .ireturn, 1, [])]
def zt75 : List ZI := zt75_0
def zt76_0 : List ZI := [(0, .aload_n 0, 1, []), (1, .iconst 0, 1, []), (2, .putfield 1, 3, [9, 0, 0, 0, 1294]), (5, .aload_n 0, 1, []), (6, .invokevirtual 323, 3, [2, 53, 0, 9, 1582, 1584, 127, 1585, 79]), (9, .aload_n 0, 1, []), (10, .iload_n 1, 1, []), (11, .invokevirtual 329, 3, [2, 72, 1, 9, 1622, 1624, 127, 1625, 88]), (14, .ifCond .eq 11, 3, []), (25, .iconst (-1), 1, []), (26, .ireturn, 1, [])]
def zt76 : List ZI := zt76_0
def zt77_0 : List ZI := [(0, .aload_n 0, 1, []), (1, .iload_n 1, 1, []), (2, .iload_n 2, 1, []), (3, .invokevirtual 161, 3, [2, 40, 2, 8, 682, 684, 117, 685, 7]), (6, .ifCond .eq 20, 3, []), (26, .iconst (-1), 1, []), (27, .ireturn, 1, [])]
def zt77 : List ZI := zt77_0
def zt78_0 : List ZI := [(0, .aload_n 0, 1, []), (1, .iconst 0, 1, []), (2, .putfield 1, 3, [9, 0, 0, 0, 1294]), (5, .aload_n 0, 1, []), (6, .invokevirtual 323, 3, [2, 53, 0, 9, 1582, 1584, 127, 1585, 79]), (9, .aload_n 0, 1, []), (10, .iload_n 1, 1, []), (11, .iload_n 2, 1, []), (12, .invokevirtual 286, 3, [2, 43, 2, 9, 1550, 1552, 127, 1553, 76]), (15, .ifCond .eq 10, 3, []), (25, .iconst (-1), 1, []), (26, .ireturn, 1, [])]
def zt78 : List ZI := zt78_0
def zt79_0 : List ZI := [(0, .iload_n 1, 1, []), (1, .iconst 2, 1, []), (2, .invokestatic 110, 3, [0, 13, 2, 0, 569, 570, 117, 571]), (5, .ifCond .ne 5, 3, []), (8, .iconst (-1), 1, []), (9, .ireturn, 1, []), (10, .aload_n 0, 1, []), (11, .getfield 39, 3, [8, 4, 525]), (14, .invokevirtual 174, 3, [2, 61, 0, 5, 730, 731, 121, 733, 732]), (17, .aload_n 0, 1, []), (18, .getfield 39, 3, [8, 4, 525]), (21, .invokevirtual 209, 3, [2, 81, 0, 5, 855, 856, 121, 858, 857]), (24, .istore_n 2, 1, []), (25, .iload_n 2, 1, []), (26, .iconst (-1), 1, []), (27, .if_icmp .eq 7, 3, []), (34, .iload_n 2, 1, []), (35, .ireturn, 1, [])]
def zt79 : List ZI := zt79_0
def zt80_0 : List ZI := [(0, .aload_n 0, 1, []), (1, .iconst 0, 1, []), (2, .putfield 1, 3, [9, 0, 0, 0, 1294]), (5, .aload_n 0, 1, []), (6, .invokevirtual 323, 3, [2, 53, 0, 9, 1582, 1584, 127, 1585, 79]), (9, .aload_n 0, 1, []), (10, .getfield 305, 3, [9, 32, 1326]), (13, .ifCond .eq 12, 3, []), (16, .iload_n 1, 1, []), (17, .iconst 0, 1, []), (18, .iconst 1, 1, []), (19, .invokestatic 244, 3, [0, 16, 3, 0, 1482, 1483, 127, 1484]), (22, .ifCond .ne 5, 3, []), (25, .iconst (-1), 1, []), (26, .ireturn, 1, []), (27, .iconst (-1), 1, []), (28, .istore_n 2, 1, []), (29, .iconst 0, 1, []), (30, .istore_n 3, 1, []), (31, .iconst 0, 1, []), (32, .istore 4, 2, []), (34, .iload 4, 2, []), (36, .bipush 6, 2, []), (38, .if_icmp .ge 103, 3, []), (41, .iconst 0, 1, []), (42, .istore 5, 2, []), (44, .iconst 0, 1, []), (45, .istore 6, 2, []), (47, .iload 6, 2, []), (49, .bipush 6, 2, []), (51, .if_icmp .ge 47, 3, []), (54, .aload_n 0, 1, []), (55, .getfield 122, 3, [9, 31, 1325]), (58, .iload 4, 2, []), (60, .baload, 1, []), (61, .ifCond .eq 37, 3, []), (98, .aload_n 0, 1, []), (99, .getfield 122, 3, [9, 31, 1325]), (102, .iload 4, 2, []), (104, .baload, 1, [])]
def zt80_1 : List ZI := [(105, .ifCond .eq 30, 3, []), (135, .iinc 4 1, 3, []), (138, .goto (-104), 3, []), (141, .iload_n 2, 1, []), (142, .ifCond .ge 7, 3, []), (145, .iconst (-1), 1, []), (146, .goto 12, 3, []), (158, .ireturn, 1, [])]
def zt80 : List ZI := zt80_0 ++ (zt80_1)
def zt81_0 : List ZI := [(0, .iconst (-1), 1, []), (1, .istore_n 1, 1, []), (2, .iconst 0, 1, []), (3, .istore_n 2, 1, []), (4, .iload_n 2, 1, []), (5, .bipush 6, 2, []), (7, .if_icmp .ge 64, 3, []), (10, .aload_n 0, 1, []), (11, .getfield 47, 3, [5, 14, 296]), (14, .ifCond .le 25, 3, []), (17, .aload_n 0, 1, []), (18, .iload_n 2, 1, []), (19, .invokevirtual 140, 3, [2, 65, 1, 5, 780, 781, 121, 783, 782]), (22, .ifCond .eq 17, 3, []), (39, .iconst 0, 1, []), (40, .istore_n 3, 1, []), (41, .iload_n 3, 1, []), (42, .ifCond .eq 23, 3, []), (65, .iinc 2 1, 3, []), (68, .goto (-64), 3, []), (71, .iload_n 1, 1, []), (72, .ireturn, 1, [])]
def zt81 : List ZI := zt81_0
def zt82_0 : List ZI := [(0, .aload_n 0, 1, []), (1, .getfield 39, 3, [8, 4, 525]), (4, .invokevirtual 216, 3, [2, 83, 0, 5, 864, 865, 121, 867, 866]), (7, .ireturn, 1, [])]
def zt82 : List ZI := zt82_0
def zt83_0 : List ZI := [(0, .aload_n 0, 1, []), (1, .invokevirtual 131, 3, [2, 57, 0, 5, 734, 735, 121, 737, 736]), (4, .aload_n 0, 1, []), (5, .invokevirtual 134, 3, [2, 62, 0, 5, 765, 767, 121, 768, 17]), (8, .ifCond .eq 5, 3, []), (11, .iconst (-1), 1, []), (12, .ireturn, 1, [])]
def zt83 : List ZI := zt83_0
def zt84_0 : List ZI := [(0, .aload_n 0, 1, []), (1, .iconst 0, 1, []), (2, .putfield 1, 3, [9, 0, 0, 0, 1294]), (5, .aload_n 0, 1, []), (6, .invokevirtual 323, 3, [2, 53, 0, 9, 1582, 1584, 127, 1585, 79]), (9, .aload_n 0, 1, []), (10, .getfield 305, 3, [9, 32, 1326]), (13, .ifCond .le 5, 3, []), (16, .iconst (-1), 1, []), (17, .ireturn, 1, [])]
def zt84 : List ZI := zt84_0
def zt85_0 : List ZI := [(0, .iconst (-1), 1, []), (1, .istore_n 2, 1, []), (2, .iload_n 1, 1, []), (3, .bipush 6, 2, []), (5, .invokestatic 110, 3, [0, 13, 2, 0, 569, 570, 117, 571]), (8, .ifCond .eq 38, 3, []), (11, .aload_n 0, 1, []), (12, .getfield 57, 3, [8, 6, 527]), (15, .invokevirtual 219, 3, [2, 87, 0, 3, 885, 886, 124, 888, 887]), (18, .istore_n 2, 1, []), (19, .iload_n 2, 1, []), (20, .ifCond .ne 26, 3, []), (23, .aload_n 0, 1, []), (24, .getfield 45, 3, [8, 5, 526]), (27, .iload_n 1, 1, []), (28, .aaload, 1, []), (29, .aload_n 0, 1, []), (30, .getfield 57, 3, [8, 6, 527]), (33, .getfield 222, 3, [3, 2, 397]), (36, .invokevirtual 226, 3, [2, 90, 1, 2, 1006, 1007, 122, 1009, 1008]), (39, .aload_n 0, 1, []), (40, .getfield 66, 3, [8, 7, 528]), (43, .invokevirtual 230, 3, [2, 31, 0, 4, 609, 610, 125, 612, 611]), (46, .aload_n 0, 1, []), (47, .getfield 10, 3, [8, 0, 521]), (50, .iconst 0, 1, []), (51, .putfield 81, 3, [6, 1, 0, 0, 157]), (54, .iload_n 2, 1, []), (55, .ireturn, 1, [])]
def zt85 : List ZI := zt85_0
def zt86_0 : List ZI := [(0, .aload_n 0, 1, []), (1, .iconst 0, 1, []), (2, .putfield 1, 3, [9, 0, 0, 0, 1294]), (5, .iload_n 1, 1, []), (6, .iconst 0, 1, []), (7, .iconst 5, 1, []), (8, .invokestatic 244, 3, [0, 16, 3, 0, 1482, 1483, 127, 1484]), (11, .ifCond .ne 10, 3, []), (14, .aload_n 0, 1, []), (15, .iconst 0, 1, []), (16, .putfield 11, 3, [9, 2, 0, 0, 1296]), (19, .iconst (-1), 1, []), (20, .ireturn, 1, []), (21, .aload_n 0, 1, []), (22, .invokevirtual 338, 3, [2, 91, 0, 9, 1654, 1656, 127, 1657, 90]), (25, .aload_n 0, 1, []), (26, .getfield 129, 3, [9, 35, 1329]), (29, .bipush 6, 2, []), (31, .iconst 0, 1, []), (32, .iastore, 1, []), (33, .aload_n 0, 1, []), (34, .iconst 0, 1, []), (35, .putfield 335, 3, [9, 39, 0, 0, 1333]), (38, .aload_n 0, 1, []), (39, .getfield 219, 3, [9, 8, 1302]), (42, .ifCond .ne 22, 3, []), (45, .aload_n 0, 1, []), (46, .getfield 24, 3, [9, 4, 1298]), (49, .aload_n 0, 1, []), (50, .getfield 216, 3, [9, 7, 1301]), (53, .iaload, 1, []), (54, .ifCond .eq 10, 3, []), (64, .aload_n 0, 1, []), (65, .getfield 219, 3, [9, 8, 1302]), (68, .ifCond .le 8, 3, []), (76, .aload_n 0, 1, []), (77, .getfield 129, 3, [9, 35, 1329]), (80, .iload_n 1, 1, []), (81, .aload_n 0, 1, []), (82, .getfield 129, 3, [9, 35, 1329])]
def zt86_1 : List ZI := [(85, .bipush 6, 2, []), (87, .iaload, 1, []), (88, .iastore, 1, []), (89, .iconst 0, 1, []), (90, .istore_n 2, 1, []), (91, .iload_n 2, 1, []), (92, .aload_n 0, 1, []), (93, .getfield 129, 3, [9, 35, 1329]), (96, .iload_n 1, 1, []), (97, .iaload, 1, []), (98, .if_icmp .ge 69, 3, []), (167, .iconst 0, 1, []), (168, .istore_n 2, 1, []), (169, .iload_n 2, 1, []), (170, .aload_n 0, 1, []), (171, .getfield 335, 3, [9, 39, 1333]), (174, .if_icmp .ge 53, 3, []), (227, .iconst 0, 1, []), (228, .ireturn, 1, [])]
def zt86 : List ZI := zt86_0 ++ (zt86_1)
def zt87_0 : List ZI := [(0, .aload_n 0, 1, []), (1, .getfield 14, 3, [3, 2, 396]), (4, .invokevirtual 60, 3, [2, 88, 0, 2, 889, 890, 122, 892, 891]), (7, .aload_n 0, 1, []), (8, .iconst 0, 1, []), (9, .putfield 20, 3, [3, 3, 0, 0, 398]), (12, .aload_n 0, 1, []), (13, .iconst 0, 1, []), (14, .putfield 35, 3, [3, 7, 0, 0, 402]), (17, .aload_n 0, 1, []), (18, .invokevirtual 63, 3, [2, 89, 0, 3, 893, 895, 124, 896, 30]), (21, .iconst 1, 1, []), (22, .istore_n 1, 1, []), (23, .iconst 0, 1, []), (24, .istore_n 2, 1, []), (25, .iload_n 2, 1, []), (26, .bipush 12, 2, []), (28, .if_icmp .gt 28, 3, []), (31, .iload_n 1, 1, []), (32, .ifCond .eq 24, 3, []), (35, .aload_n 0, 1, []), (36, .getfield 26, 3, [3, 4, 399]), (39, .bipush 24, 2, []), (41, .if_icmp .eq 15, 3, []), (56, .iload_n 1, 1, []), (57, .ifCond .eq 7, 3, []), (60, .iconst 0, 1, []), (61, .goto 7, 3, []), (68, .ireturn, 1, [])]
def zt87 : List ZI := zt87_0
def zt88_0 : List ZI := [(0, .aload_n 0, 1, []), (1, .iconst 0, 1, []), (2, .putfield 7, 3, [2, 0, 0, 0, 351]), (5, .aload_n 0, 1, []), (6, .iconst 0, 1, []), (7, .putfield 13, 3, [2, 1, 0, 0, 355]), (10, .return_, 1, [])]
def zt88 : List ZI := zt88_0
def zt89_0 : List ZI := [(0, .aload_n 0, 1, []), (1, .getfield 20, 3, [3, 3, 398]), (4, .aload_n 0, 1, []), (5, .getfield 52, 3, [3, 0, 394]), (8, .getfield 128, 3, [6, 1, 158]), (11, .if_icmp .ge 34, 3, []), (45, .aload_n 0, 1, []), (46, .aload_n 0, 1, []), (47, .getfield 20, 3, [3, 3, 398]), (50, .putfield 29, 3, [3, 5, 0, 0, 400]), (53, .aload_n 0, 1, []), (54, .getfield 20, 3, [3, 3, 398]), (57, .aload_n 0, 1, []), (58, .getfield 52, 3, [3, 0, 394]), (61, .getfield 128, 3, [6, 1, 158]), (64, .if_icmp .lt 12, 3, []), (67, .aload_n 0, 1, []), (68, .bipush 24, 2, []), (70, .putfield 26, 3, [3, 4, 0, 0, 399]), (73, .goto 82, 3, []), (155, .return_, 1, [])]
def zt89 : List ZI := zt89_0
def zt90_0 : List ZI := [(0, .aload_n 0, 1, []), (1, .aload_n 1, 1, []), (2, .getfield 7, 3, [2, 0, 351]), (5, .putfield 7, 3, [2, 0, 0, 0, 351]), (8, .aload_n 0, 1, []), (9, .aload_n 1, 1, []), (10, .getfield 13, 3, [2, 1, 355]), (13, .putfield 13, 3, [2, 1, 0, 0, 355]), (16, .aload_n 0, 1, []), (17, .getfield 35, 3, [2, 6, 369]), (20, .arraylength, 1, []), (21, .aload_n 0, 1, []), (22, .getfield 13, 3, [2, 1, 355]), (25, .if_icmp .ge 13, 3, []), (38, .aload_n 1, 1, []), (39, .getfield 35, 3, [2, 6, 369]), (42, .iconst 0, 1, []), (43, .aload_n 0, 1, []), (44, .getfield 35, 3, [2, 6, 369]), (47, .iconst 0, 1, []), (48, .aload_n 0, 1, []), (49, .getfield 13, 3, [2, 1, 355]), (52, .invokestatic 38, 3, [7, 0, 0, 0, 1010, 771, 770, 132]), (55, .aload_n 1, 1, []), (56, .getfield 16, 3, [2, 2, 357]), (59, .iconst 0, 1, []), (60, .aload_n 0, 1, []), (61, .getfield 16, 3, [2, 2, 357]), (64, .iconst 0, 1, []), (65, .bipush 12, 2, []), (67, .invokestatic 38, 3, [7, 0, 0, 0, 1010, 771, 770, 132]), (70, .aload_n 1, 1, []), (71, .getfield 20, 3, [2, 3, 360]), (74, .iconst 0, 1, []), (75, .aload_n 0, 1, []), (76, .getfield 20, 3, [2, 3, 360]), (79, .iconst 0, 1, []), (80, .bipush 12, 2, []), (82, .invokestatic 38, 3, [7, 0, 0, 0, 1010, 771, 770, 132]), (85, .aload_n 1, 1, [])]
def zt90_1 : List ZI := [(86, .getfield 23, 3, [2, 4, 363]), (89, .iconst 0, 1, []), (90, .aload_n 0, 1, []), (91, .getfield 23, 3, [2, 4, 363]), (94, .iconst 0, 1, []), (95, .bipush 12, 2, []), (97, .invokestatic 38, 3, [7, 0, 0, 0, 1010, 771, 770, 132]), (100, .aload_n 1, 1, []), (101, .getfield 26, 3, [2, 5, 366]), (104, .iconst 0, 1, []), (105, .aload_n 0, 1, []), (106, .getfield 26, 3, [2, 5, 366]), (109, .iconst 0, 1, []), (110, .bipush 12, 2, []), (112, .invokestatic 38, 3, [7, 0, 0, 0, 1010, 771, 770, 132]), (115, .return_, 1, [])]
def zt90 : List ZI := zt90_0 ++ (zt90_1)
def zt91_0 : List ZI := [(0, .aload_n 0, 1, []), (1, .aload_n 0, 1, []), (2, .getfield 11, 3, [9, 2, 1296]), (5, .putfield 197, 3, [9, 3, 0, 0, 1297]), (8, .aload_n 0, 1, []), (9, .iconst 0, 1, []), (10, .putfield 11, 3, [9, 2, 0, 0, 1296]), (13, .iconst 0, 1, []), (14, .istore_n 1, 1, []), (15, .iconst 0, 1, []), (16, .istore_n 2, 1, []), (17, .iload_n 2, 1, []), (18, .aload_n 0, 1, []), (19, .getfield 197, 3, [9, 3, 1297]), (22, .if_icmp .ge 257, 3, []), (279, .aload_n 0, 1, []), (280, .getfield 24, 3, [9, 4, 1298]), (283, .iload_n 1, 1, []), (284, .iconst 0, 1, []), (285, .iastore, 1, []), (286, .aload_n 0, 1, []), (287, .getfield 27, 3, [9, 5, 1299]), (290, .iload_n 1, 1, []), (291, .aload_n 0, 1, []), (292, .getfield 197, 3, [9, 3, 1297]), (295, .iastore, 1, []), (296, .aload_n 0, 1, []), (297, .iconst 0, 1, []), (298, .putfield 216, 3, [9, 7, 0, 0, 1301]), (301, .aload_n 0, 1, []), (302, .iconst 0, 1, []), (303, .putfield 219, 3, [9, 8, 0, 0, 1302]), (306, .return_, 1, [])]
def zt91 : List ZI := zt91_0
def zt92_0 : List ZI := [(0, .iload_n 1, 1, []), (1, .bipush 6, 2, []), (3, .invokestatic 110, 3, [0, 13, 2, 0, 569, 570, 117, 571]), (6, .ifCond .eq 12, 3, []), (9, .iload_n 2, 1, []), (10, .bipush 100, 2, []), (12, .invokestatic 110, 3, [0, 13, 2, 0, 569, 570, 117, 571]), (15, .ifCond .ne 5, 3, []), (18, .iconst 0, 1, []), (19, .ireturn, 1, []), (20, .aload_n 0, 1, []), (21, .getfield 66, 3, [8, 7, 528]), (24, .getfield 231, 3, [4, 3, 442]), (27, .iload_n 1, 1, []), (28, .iload_n 2, 1, []), (29, .iastore, 1, []), (30, .aload_n 0, 1, []), (31, .getfield 66, 3, [8, 7, 528]), (34, .getfield 234, 3, [4, 4, 444]), (37, .iload_n 1, 1, []), (38, .iload_n 3, 1, []), (39, .bastore, 1, []), (40, .aload_n 0, 1, []), (41, .getfield 66, 3, [8, 7, 528]), (44, .invokevirtual 230, 3, [2, 31, 0, 4, 609, 610, 125, 612, 611]), (47, .iconst 1, 1, []), (48, .ireturn, 1, [])]
def zt92 : List ZI := zt92_0
def zt93_0 : List ZI := [(0, .aload_n 0, 1, []), (1, .iconst 0, 1, []), (2, .putfield 1, 3, [9, 0, 0, 0, 1294]), (5, .iload_n 1, 1, []), (6, .iconst 0, 1, []), (7, .iconst 5, 1, []), (8, .invokestatic 244, 3, [0, 16, 3, 0, 1482, 1483, 127, 1484]), (11, .ifCond .eq 13, 3, []), (14, .iload_n 2, 1, []), (15, .iconst 0, 1, []), (16, .bipush 99, 2, []), (18, .invokestatic 244, 3, [0, 16, 3, 0, 1482, 1483, 127, 1484]), (21, .ifCond .ne 5, 3, []), (24, .iconst 0, 1, []), (25, .ireturn, 1, []), (26, .aload_n 0, 1, []), (27, .getfield 153, 3, [9, 44, 1338]), (30, .iload_n 1, 1, []), (31, .iload_n 2, 1, []), (32, .iastore, 1, []), (33, .aload_n 0, 1, []), (34, .getfield 156, 3, [9, 45, 1339]), (37, .iload_n 1, 1, []), (38, .iload_n 3, 1, []), (39, .bastore, 1, []), (40, .iconst 1, 1, []), (41, .ireturn, 1, [])]
def zt93 : List ZI := zt93_0
def zt94_0 : List ZI := [(0, .aload_n 0, 1, []), (1, .iload_n 1, 1, []), (2, .invokevirtual 120, 3, [2, 33, 1, 8, 646, 648, 117, 649, 4]), (5, .ifCond .eq 12, 3, []), (17, .iconst (-1), 1, []), (18, .ireturn, 1, [])]
def zt94 : List ZI := zt94_0
def zt95_0 : List ZI := [(0, .aload_n 0, 1, []), (1, .iconst 0, 1, []), (2, .putfield 1, 3, [9, 0, 0, 0, 1294]), (5, .aload_n 0, 1, []), (6, .iload_n 1, 1, []), (7, .invokevirtual 277, 3, [2, 35, 1, 9, 1531, 1533, 127, 1534, 74]), (10, .ifCond .eq 12, 3, []), (22, .iconst (-1), 1, []), (23, .ireturn, 1, [])]
def zt95 : List ZI := zt95_0
def zt96_0 : List ZI := [(0, .aload_n 0, 1, []), (1, .iload_n 1, 1, []), (2, .invokevirtual 120, 3, [2, 33, 1, 8, 646, 648, 117, 649, 4]), (5, .ifCond .eq 11, 3, []), (16, .iconst (-1), 1, []), (17, .ireturn, 1, [])]
def zt96 : List ZI := zt96_0
def zt97_0 : List ZI := [(0, .aload_n 0, 1, []), (1, .iconst 0, 1, []), (2, .putfield 1, 3, [9, 0, 0, 0, 1294]), (5, .aload_n 0, 1, []), (6, .iload_n 1, 1, []), (7, .invokevirtual 277, 3, [2, 35, 1, 9, 1531, 1533, 127, 1534, 74]), (10, .ifCond .eq 12, 3, []), (22, .iconst (-1), 1, []), (23, .ireturn, 1, [])]
def zt97 : List ZI := zt97_0
def zt98_0 : List ZI := [(0, .iload_n 1, 1, []), (1, .iconst 3, 1, []), (2, .invokestatic 110, 3, [0, 13, 2, 0, 569, 570, 117, 571]), (5, .ifCond .ne 5, 3, []), (8, .iconst (-1), 1, []), (9, .ireturn, 1, []), (10, .aload_n 0, 1, []), (11, .getfield 66, 3, [8, 7, 528]), (14, .invokevirtual 237, 3, [2, 102, 0, 4, 1020, 1021, 125, 1023, 1022]), (17, .iload_n 1, 1, []), (18, .ifCond .ne 11, 3, []), (21, .aload_n 0, 1, []), (22, .getfield 66, 3, [8, 7, 528]), (25, .invokevirtual 247, 3, [2, 108, 0, 4, 1080, 1081, 125, 1083, 1082]), (28, .ireturn, 1, []), (29, .iload_n 1, 1, []), (30, .iconst 1, 1, []), (31, .if_icmp .ne 13, 3, []), (34, .aload_n 0, 1, []), (35, .getfield 66, 3, [8, 7, 528]), (38, .getfield 250, 3, [4, 12, 459]), (41, .goto 10, 3, []), (44, .aload_n 0, 1, []), (45, .getfield 66, 3, [8, 7, 528]), (48, .invokevirtual 253, 3, [2, 107, 0, 4, 1088, 1089, 125, 1091, 1090]), (51, .ireturn, 1, [])]
def zt98 : List ZI := zt98_0
def zt99_0 : List ZI := [(0, .aload_n 0, 1, []), (1, .iconst 0, 1, []), (2, .putfield 1, 3, [9, 0, 0, 0, 1294]), (5, .aload_n 0, 1, []), (6, .iconst 5, 1, []), (7, .invokevirtual 400, 3, [2, 100, 1, 9, 1735, 1737, 127, 1738, 105]), (10, .iconst 0, 1, []), (11, .istore_n 2, 1, []), (12, .iconst 0, 1, []), (13, .istore_n 3, 1, []), (14, .iconst 0, 1, []), (15, .istore 4, 2, []), (17, .iload 4, 2, []), (19, .bipush 12, 2, []), (21, .if_icmp .ge 49, 3, []), (24, .iload_n 2, 1, []), (25, .aload_n 0, 1, []), (26, .getfield 83, 3, [9, 17, 1311]), (29, .iload 4, 2, []), (31, .baload, 1, []), (32, .ifCond .eq 19, 3, []), (51, .iconst 0, 1, []), (52, .ior, 1, []), (53, .istore_n 2, 1, []), (54, .iload_n 3, 1, []), (55, .aload_n 0, 1, []), (56, .getfield 159, 3, [9, 46, 1340]), (59, .iload 4, 2, []), (61, .iaload, 1, []), (62, .iadd, 1, []), (63, .istore_n 3, 1, []), (64, .iinc 4 1, 3, []), (67, .goto (-50), 3, []), (70, .iload_n 1, 1, []), (71, .ifCond .ne 7, 3, []), (74, .iload_n 2, 1, []), (75, .goto 25, 3, []), (78, .iload_n 1, 1, []), (79, .iconst 1, 1, []), (80, .if_icmp .ne 10, 3, [])]
def zt99_1 : List ZI := [(83, .aload_n 0, 1, []), (84, .getfield 390, 3, [9, 50, 1344]), (87, .goto 13, 3, []), (90, .iload_n 1, 1, []), (91, .iconst 2, 1, []), (92, .if_icmp .ne 7, 3, []), (95, .iload_n 3, 1, []), (96, .goto 4, 3, []), (99, .iconst (-1), 1, []), (100, .ireturn, 1, [])]
def zt99 : List ZI := zt99_0 ++ (zt99_1)
def zt100_0 : List ZI := [(0, .aload_n 0, 1, []), (1, .iconst 0, 1, []), (2, .putfield 390, 3, [9, 50, 0, 0, 1344]), (5, .iconst 0, 1, []), (6, .istore_n 2, 1, []), (7, .iload_n 2, 1, []), (8, .bipush 12, 2, []), (10, .if_icmp .ge 63, 3, []), (13, .aload_n 0, 1, []), (14, .getfield 159, 3, [9, 46, 1340]), (17, .iload_n 2, 1, []), (18, .iconst 0, 1, []), (19, .iastore, 1, []), (20, .aload_n 0, 1, []), (21, .getfield 83, 3, [9, 17, 1311]), (24, .iload_n 2, 1, []), (25, .baload, 1, []), (26, .ifCond .eq 41, 3, []), (67, .iinc 2 1, 3, []), (70, .goto (-63), 3, []), (73, .iconst 0, 1, []), (74, .istore_n 2, 1, []), (75, .iload_n 2, 1, []), (76, .iload_n 1, 1, []), (77, .if_icmp .gt 29, 3, []), (80, .iconst 0, 1, []), (81, .istore_n 3, 1, []), (82, .iload_n 3, 1, []), (83, .bipush 12, 2, []), (85, .if_icmp .ge 15, 3, []), (88, .aload_n 0, 1, []), (89, .iload_n 3, 1, []), (90, .iload_n 2, 1, []), (91, .invokevirtual 397, 3, [2, 101, 2, 9, 1743, 1745, 127, 1746, 107]), (94, .iinc 3 1, 3, []), (97, .goto (-15), 3, []), (100, .iinc 2 1, 3, []), (103, .goto (-28), 3, []), (106, .return_, 1, [])]
def zt100 : List ZI := zt100_0
def zt101_0 : List ZI := [(0, .bipush 12, 2, []), (2, .iload_n 2, 1, []), (3, .imul, 1, []), (4, .istore_n 3, 1, []), (5, .iload_n 3, 1, []), (6, .bipush 12, 2, []), (8, .iload_n 2, 1, []), (9, .imul, 1, []), (10, .aload_n 0, 1, []), (11, .getfield 129, 3, [9, 35, 1329]), (14, .iload_n 2, 1, []), (15, .iaload, 1, []), (16, .iadd, 1, []), (17, .if_icmp .ge 165, 3, []), (182, .return_, 1, [])]
def zt101 : List ZI := zt101_0
def zt102_0 : List ZI := [(0, .aload_n 0, 1, []), (1, .getfield 44, 3, [4, 13, 460]), (4, .ifCond .eq 4, 3, []), (8, .aload_n 0, 1, []), (9, .iconst 0, 1, []), (10, .putfield 40, 3, [4, 12, 0, 0, 458]), (13, .iconst 0, 1, []), (14, .istore_n 1, 1, []), (15, .iload_n 1, 1, []), (16, .bipush 12, 2, []), (18, .if_icmp .ge 14, 3, []), (21, .aload_n 0, 1, []), (22, .iload_n 1, 1, []), (23, .invokevirtual 60, 3, [2, 103, 1, 4, 1024, 1026, 125, 1027, 44]), (26, .iinc 1 1, 3, []), (29, .goto (-14), 3, []), (32, .iconst 0, 1, []), (33, .istore_n 1, 1, []), (34, .iload_n 1, 1, []), (35, .bipush 6, 2, []), (37, .if_icmp .ge 57, 3, []), (40, .iconst 0, 1, []), (41, .istore_n 2, 1, []), (42, .iload_n 2, 1, []), (43, .bipush 12, 2, []), (45, .if_icmp .ge 32, 3, []), (48, .aload_n 0, 1, []), (49, .iload_n 1, 1, []), (50, .iload_n 2, 1, []), (51, .invokevirtual 64, 3, [2, 104, 2, 4, 1032, 1034, 125, 1035, 46]), (54, .aload_n 0, 1, []), (55, .getfield 31, 3, [4, 9, 453]), (58, .iload_n 1, 1, []), (59, .bipush 12, 2, []), (61, .imul, 1, []), (62, .iload_n 2, 1, []), (63, .iadd, 1, []), (64, .aload_n 0, 1, []), (65, .getfield 19, 3, [4, 5, 445]), (68, .iload_n 2, 1, [])]
def zt102_1 : List ZI := [(69, .iaload, 1, []), (70, .iastore, 1, []), (71, .iinc 2 1, 3, []), (74, .goto (-32), 3, []), (77, .aload_n 0, 1, []), (78, .getfield 34, 3, [4, 10, 455]), (81, .iload_n 1, 1, []), (82, .aload_n 0, 1, []), (83, .iload_n 1, 1, []), (84, .invokevirtual 68, 3, [2, 105, 1, 4, 1065, 1067, 125, 1068, 53]), (87, .iastore, 1, []), (88, .iinc 1 1, 3, []), (91, .goto (-57), 3, []), (94, .aload_n 0, 1, []), (95, .iconst 1, 1, []), (96, .putfield 44, 3, [4, 13, 1, 0, 460]), (99, .return_, 1, [])]
def zt102 : List ZI := zt102_0 ++ (zt102_1)
def zt103_0 : List ZI := [(0, .aload_n 0, 1, []), (1, .getfield 52, 3, [4, 1, 439]), (4, .iload_n 1, 1, []), (5, .aaload, 1, []), (6, .astore_n 2, 1, []), (7, .aload_n 0, 1, []), (8, .getfield 19, 3, [4, 5, 445]), (11, .iload_n 1, 1, []), (12, .iconst 0, 1, []), (13, .iastore, 1, []), (14, .aload_n 2, 1, []), (15, .getfield 72, 3, [7, 0, 216]), (18, .ifCond .eq 33, 3, []), (51, .return_, 1, [])]
def zt103 : List ZI := zt103_0
def zt104_0 : List ZI := [(0, .aload_n 0, 1, []), (1, .getfield 56, 3, [4, 2, 440]), (4, .iload_n 1, 1, []), (5, .aaload, 1, []), (6, .astore_n 3, 1, []), (7, .aload_n 0, 1, []), (8, .getfield 19, 3, [4, 5, 445]), (11, .iload_n 2, 1, []), (12, .iaload, 1, []), (13, .ifCond .eq 21, 3, []), (34, .return_, 1, [])]
def zt104 : List ZI := zt104_0
def zt105_0 : List ZI := [(0, .iconst 0, 1, []), (1, .istore_n 2, 1, []), (2, .iconst 0, 1, []), (3, .istore_n 3, 1, []), (4, .iload_n 3, 1, []), (5, .bipush 12, 2, []), (7, .if_icmp .ge 42, 3, []), (10, .aload_n 0, 1, []), (11, .iload_n 3, 1, []), (12, .invokevirtual 107, 3, [2, 106, 1, 4, 1040, 1042, 125, 1043, 48]), (15, .istore 4, 2, []), (17, .iload 4, 2, []), (19, .iconst (-1), 1, []), (20, .if_icmp .eq 23, 3, []), (43, .iinc 3 1, 3, []), (46, .goto (-42), 3, []), (49, .iload_n 2, 1, []), (50, .ireturn, 1, [])]
def zt105 : List ZI := zt105_0
def zt106_0 : List ZI := [(0, .aload_n 0, 1, []), (1, .getfield 19, 3, [4, 5, 445]), (4, .iload_n 1, 1, []), (5, .iaload, 1, []), (6, .ifCond .ne 7, 3, []), (9, .iconst (-1), 1, []), (10, .goto 21, 3, []), (31, .ireturn, 1, [])]
def zt106 : List ZI := zt106_0
def zt107_0 : List ZI := [(0, .iconst 0, 1, []), (1, .istore_n 1, 1, []), (2, .iconst 0, 1, []), (3, .istore_n 2, 1, []), (4, .iload_n 2, 1, []), (5, .bipush 12, 2, []), (7, .if_icmp .ge 18, 3, []), (10, .iload_n 1, 1, []), (11, .aload_n 0, 1, []), (12, .getfield 19, 3, [4, 5, 445]), (15, .iload_n 2, 1, []), (16, .iaload, 1, []), (17, .iadd, 1, []), (18, .istore_n 1, 1, []), (19, .iinc 2 1, 3, []), (22, .goto (-18), 3, []), (25, .iload_n 1, 1, []), (26, .ireturn, 1, [])]
def zt107 : List ZI := zt107_0
def zt108_0 : List ZI := [(0, .iconst 0, 1, []), (1, .istore_n 1, 1, []), (2, .iconst 0, 1, []), (3, .istore_n 2, 1, []), (4, .iload_n 2, 1, []), (5, .bipush 12, 2, []), (7, .if_icmp .ge 35, 3, []), (10, .aload_n 0, 1, []), (11, .getfield 52, 3, [4, 1, 439]), (14, .iload_n 2, 1, []), (15, .aaload, 1, []), (16, .getfield 72, 3, [7, 0, 216]), (19, .ifCond .eq 17, 3, []), (36, .iinc 2 1, 3, []), (39, .goto (-35), 3, []), (42, .iload_n 1, 1, []), (43, .ireturn, 1, [])]
def zt108 : List ZI := zt108_0
def zt109_0 : List ZI := [(0, .iload_n 1, 1, []), (1, .bipush 6, 2, []), (3, .invokestatic 110, 3, [0, 13, 2, 0, 569, 570, 117, 571]), (6, .ifCond .ne 5, 3, []), (9, .iconst (-1), 1, []), (10, .ireturn, 1, []), (11, .aload_n 0, 1, []), (12, .getfield 66, 3, [8, 7, 528]), (15, .invokevirtual 237, 3, [2, 102, 0, 4, 1020, 1021, 125, 1023, 1022]), (18, .aload_n 0, 1, []), (19, .getfield 66, 3, [8, 7, 528]), (22, .getfield 256, 3, [4, 10, 456]), (25, .iload_n 1, 1, []), (26, .iaload, 1, []), (27, .ireturn, 1, [])]
def zt109 : List ZI := zt109_0
def zt110_0 : List ZI := [(0, .aload_n 0, 1, []), (1, .iconst 0, 1, []), (2, .putfield 1, 3, [9, 0, 0, 0, 1294]), (5, .iload_n 1, 1, []), (6, .iconst 0, 1, []), (7, .iconst 5, 1, []), (8, .invokestatic 244, 3, [0, 16, 3, 0, 1482, 1483, 127, 1484]), (11, .ifCond .ne 5, 3, []), (14, .iconst (-1), 1, []), (15, .ireturn, 1, []), (16, .aload_n 0, 1, []), (17, .iload_n 1, 1, []), (18, .invokevirtual 400, 3, [2, 100, 1, 9, 1735, 1737, 127, 1738, 105]), (21, .iconst 0, 1, []), (22, .istore_n 2, 1, []), (23, .iconst 0, 1, []), (24, .istore_n 3, 1, []), (25, .iload_n 3, 1, []), (26, .bipush 12, 2, []), (28, .if_icmp .ge 104, 3, []), (31, .bipush 12, 2, []), (33, .iload_n 1, 1, []), (34, .imul, 1, []), (35, .istore 4, 2, []), (37, .iload 4, 2, []), (39, .bipush 12, 2, []), (41, .iload_n 1, 1, []), (42, .imul, 1, []), (43, .aload_n 0, 1, []), (44, .getfield 129, 3, [9, 35, 1329]), (47, .iload_n 1, 1, []), (48, .iaload, 1, []), (49, .iadd, 1, []), (50, .if_icmp .ge 76, 3, []), (126, .iinc 3 1, 3, []), (129, .goto (-104), 3, []), (132, .iload_n 2, 1, []), (133, .ireturn, 1, [])]
def zt110 : List ZI := zt110_0
def zt111_0 : List ZI := [(0, .iload_n 1, 1, []), (1, .bipush 6, 2, []), (3, .invokestatic 110, 3, [0, 13, 2, 0, 569, 570, 117, 571]), (6, .ifCond .eq 14, 3, []), (9, .aload_n 0, 1, []), (10, .getfield 19, 3, [8, 1, 522]), (13, .iload_n 2, 1, []), (14, .invokevirtual 89, 3, [2, 21, 1, 1, 617, 618, 119, 620, 619]), (17, .ifCond .ne 5, 3, []), (20, .iconst (-1), 1, []), (21, .ireturn, 1, [])]
def zt111 : List ZI := zt111_0
def zt112_0 : List ZI := [(0, .aload_n 0, 1, []), (1, .iconst 0, 1, []), (2, .putfield 1, 3, [9, 0, 0, 0, 1294]), (5, .iload_n 1, 1, []), (6, .iconst 0, 1, []), (7, .iconst 5, 1, []), (8, .invokestatic 244, 3, [0, 16, 3, 0, 1482, 1483, 127, 1484]), (11, .ifCond .eq 20, 3, []), (14, .aload_n 0, 1, []), (15, .iload_n 2, 1, []), (16, .invokevirtual 261, 3, [2, 23, 1, 9, 1500, 1502, 127, 1503, 70]), (19, .ifCond .eq 12, 3, []), (31, .iconst (-1), 1, []), (32, .ireturn, 1, [])]
def zt112 : List ZI := zt112_0
def zt113_0 : List ZI := [(0, .iload_n 2, 1, []), (1, .iload_n 1, 1, []), (2, .ifCond .eq 8, 3, []), (5, .bipush 6, 2, []), (7, .goto 5, 3, []), (10, .bipush 6, 2, []), (12, .invokestatic 110, 3, [0, 13, 2, 0, 569, 570, 117, 571]), (15, .ifCond .eq 38, 3, []), (18, .iload_n 3, 1, []), (19, .sipush 1000, 3, []), (22, .invokestatic 110, 3, [0, 13, 2, 0, 569, 570, 117, 571]), (25, .ifCond .eq 28, 3, []), (28, .iload 4, 2, []), (30, .sipush 1000, 3, []), (33, .invokestatic 110, 3, [0, 13, 2, 0, 569, 570, 117, 571]), (36, .ifCond .eq 17, 3, []), (39, .iload 5, 2, []), (41, .bipush 10, 2, []), (43, .invokestatic 110, 3, [0, 13, 2, 0, 569, 570, 117, 571]), (46, .ifCond .eq 7, 3, []), (49, .iconst 1, 1, []), (50, .goto 4, 3, []), (53, .iconst 0, 1, []), (54, .istore 6, 2, []), (56, .iload 6, 2, []), (58, .ifCond .eq 16, 3, []), (61, .iload_n 1, 1, []), (62, .ifCond .eq 14, 3, []), (65, .iload_n 3, 1, []), (66, .ifCond .eq 8, 3, []), (69, .iload 4, 2, []), (71, .ifCond .ne 5, 3, []), (74, .iconst 0, 1, []), (75, .ireturn, 1, []), (76, .aload_n 0, 1, []), (77, .getfield 73, 3, [8, 8, 529]), (80, .iload_n 1, 1, []), (81, .ifCond .eq 10, 3, []), (84, .bipush 6, 2, []), (86, .iload_n 2, 1, [])]
def zt113_1 : List ZI := [(87, .iadd, 1, []), (88, .goto 4, 3, []), (91, .iload_n 2, 1, []), (92, .iload_n 3, 1, []), (93, .iload 4, 2, []), (95, .iload 5, 2, []), (97, .invokevirtual 271, 3, [2, 115, 4, 0, 1129, 1130, 126, 1132, 1131]), (100, .iconst 1, 1, []), (101, .ireturn, 1, [])]
def zt113 : List ZI := zt113_0 ++ (zt113_1)
def zt114_0 : List ZI := [(0, .aload_n 0, 1, []), (1, .iconst 0, 1, []), (2, .putfield 1, 3, [9, 0, 0, 0, 1294]), (5, .iload_n 1, 1, []), (6, .ifCond .eq 7, 3, []), (9, .iconst 1, 1, []), (10, .goto 4, 3, []), (13, .iconst 0, 1, []), (14, .istore 6, 2, []), (16, .iload_n 2, 1, []), (17, .iconst 0, 1, []), (18, .iconst 5, 1, []), (19, .invokestatic 244, 3, [0, 16, 3, 0, 1482, 1483, 127, 1484]), (22, .ifCond .eq 39, 3, []), (25, .iload_n 3, 1, []), (26, .iload 6, 2, []), (28, .sipush 999, 3, []), (31, .invokestatic 244, 3, [0, 16, 3, 0, 1482, 1483, 127, 1484]), (34, .ifCond .eq 27, 3, []), (37, .iload 4, 2, []), (39, .iload 6, 2, []), (41, .sipush 999, 3, []), (44, .invokestatic 244, 3, [0, 16, 3, 0, 1482, 1483, 127, 1484]), (47, .ifCond .eq 14, 3, []), (50, .iload 5, 2, []), (52, .iconst 0, 1, []), (53, .bipush 9, 2, []), (55, .invokestatic 244, 3, [0, 16, 3, 0, 1482, 1483, 127, 1484]), (58, .ifCond .ne 5, 3, []), (61, .iconst 0, 1, []), (62, .ireturn, 1, []), (63, .iload_n 1, 1, []), (64, .ifCond .eq 10, 3, []), (67, .bipush 6, 2, []), (69, .iload_n 2, 1, []), (70, .iadd, 1, []), (71, .goto 4, 3, []), (74, .iload_n 2, 1, []), (75, .istore 7, 2, []), (77, .aload_n 0, 1, [])]
def zt114_1 : List ZI := [(78, .getfield 171, 3, [9, 51, 1345]), (81, .iload 7, 2, []), (83, .iconst 1, 1, []), (84, .bastore, 1, []), (85, .aload_n 0, 1, []), (86, .getfield 174, 3, [9, 52, 1346]), (89, .iload 7, 2, []), (91, .iload_n 3, 1, []), (92, .iastore, 1, []), (93, .aload_n 0, 1, []), (94, .getfield 177, 3, [9, 53, 1347]), (97, .iload 7, 2, []), (99, .iload 4, 2, []), (101, .iastore, 1, []), (102, .aload_n 0, 1, []), (103, .getfield 180, 3, [9, 54, 1348]), (106, .iload 7, 2, []), (108, .iload 5, 2, []), (110, .iastore, 1, []), (111, .iconst 1, 1, []), (112, .ireturn, 1, [])]
def zt114 : List ZI := zt114_0 ++ (zt114_1)
def zt115_0 : List ZI := [(0, .aload_n 0, 1, []), (1, .getfield 9, 3, [0, 0, 496]), (4, .iload_n 1, 1, []), (5, .iconst 1, 1, []), (6, .bastore, 1, []), (7, .aload_n 0, 1, []), (8, .getfield 15, 3, [0, 1, 498]), (11, .iload_n 1, 1, []), (12, .iload_n 2, 1, []), (13, .iastore, 1, []), (14, .aload_n 0, 1, []), (15, .getfield 19, 3, [0, 2, 499]), (18, .iload_n 1, 1, []), (19, .iload_n 3, 1, []), (20, .iastore, 1, []), (21, .aload_n 0, 1, []), (22, .getfield 22, 3, [0, 3, 500]), (25, .iload_n 1, 1, []), (26, .iload 4, 2, []), (28, .iastore, 1, []), (29, .aload_n 0, 1, []), (30, .iconst 0, 1, []), (31, .putfield 32, 3, [0, 6, 1, 0, 505]), (34, .return_, 1, [])]
def zt115 : List ZI := zt115_0
def zt116_0 : List ZI := [(0, .iload_n 1, 1, []), (1, .iconst 2, 1, []), (2, .invokestatic 110, 3, [0, 13, 2, 0, 569, 570, 117, 571]), (5, .ifCond .ne 5, 3, []), (8, .iconst (-1), 1, []), (9, .ireturn, 1, []), (10, .aload_n 0, 1, []), (11, .getfield 73, 3, [8, 8, 529]), (14, .invokevirtual 272, 3, [2, 118, 0, 0, 1137, 1138, 126, 1140, 1139]), (17, .iload_n 1, 1, []), (18, .ifCond .ne 13, 3, []), (21, .aload_n 0, 1, []), (22, .getfield 73, 3, [8, 8, 529]), (25, .getfield 275, 3, [0, 5, 504]), (28, .goto 10, 3, []), (31, .aload_n 0, 1, []), (32, .getfield 73, 3, [8, 8, 529]), (35, .invokevirtual 276, 3, [2, 120, 0, 0, 1149, 1150, 126, 1152, 1151]), (38, .ireturn, 1, [])]
def zt116 : List ZI := zt116_0
def zt117_0 : List ZI := [(0, .aload_n 0, 1, []), (1, .iconst 0, 1, []), (2, .putfield 1, 3, [9, 0, 0, 0, 1294]), (5, .iload_n 1, 1, []), (6, .iconst 0, 1, []), (7, .iconst 1, 1, []), (8, .invokestatic 244, 3, [0, 16, 3, 0, 1482, 1483, 127, 1484]), (11, .ifCond .ne 5, 3, []), (14, .iconst (-1), 1, []), (15, .ireturn, 1, []), (16, .aload_n 0, 1, []), (17, .invokevirtual 415, 3, [2, 121, 0, 9, 1794, 1796, 127, 1797, 113]), (20, .iconst 0, 1, []), (21, .istore_n 2, 1, []), (22, .iconst 0, 1, []), (23, .istore_n 3, 1, []), (24, .iload_n 3, 1, []), (25, .bipush 6, 2, []), (27, .if_icmp .ge 42, 3, []), (30, .aload_n 0, 1, []), (31, .getfield 186, 3, [9, 57, 1351]), (34, .iload_n 3, 1, []), (35, .iaload, 1, []), (36, .istore 4, 2, []), (38, .iload_n 2, 1, []), (39, .iload 4, 2, []), (41, .ifCond .eq 19, 3, []), (60, .iconst 0, 1, []), (61, .ior, 1, []), (62, .istore_n 2, 1, []), (63, .iinc 3 1, 3, []), (66, .goto (-42), 3, []), (69, .iload_n 1, 1, []), (70, .ifCond .ne 10, 3, []), (73, .aload_n 0, 1, []), (74, .getfield 406, 3, [9, 56, 1350]), (77, .goto 4, 3, []), (80, .iload_n 2, 1, []), (81, .ireturn, 1, [])]
def zt117 : List ZI := zt117_0
def zt118_0 : List ZI := [(0, .aload_n 0, 1, []), (1, .getfield 32, 3, [0, 6, 505]), (4, .ifCond .eq 4, 3, []), (8, .iconst 0, 1, []), (9, .istore_n 1, 1, []), (10, .iload_n 1, 1, []), (11, .bipush 6, 2, []), (13, .if_icmp .ge 16, 3, []), (16, .aload_n 0, 1, []), (17, .getfield 25, 3, [0, 4, 501]), (20, .iload_n 1, 1, []), (21, .iconst 0, 1, []), (22, .iastore, 1, []), (23, .iinc 1 1, 3, []), (26, .goto (-16), 3, []), (29, .aload_n 0, 1, []), (30, .aload_n 0, 1, []), (31, .iconst 0, 1, []), (32, .iconst 0, 1, []), (33, .invokevirtual 36, 3, [2, 119, 2, 0, 1141, 1143, 126, 1144, 59]), (36, .putfield 28, 3, [0, 5, 0, 0, 503]), (39, .aload_n 0, 1, []), (40, .iconst 1, 1, []), (41, .putfield 32, 3, [0, 6, 1, 0, 505]), (44, .return_, 1, [])]
def zt118 : List ZI := zt118_0
def zt119_0 : List ZI := [(0, .iload_n 1, 1, []), (1, .bipush 6, 2, []), (3, .if_icmp .lt 5, 3, []), (6, .iconst 1, 1, []), (7, .ireturn, 1, []), (8, .aload_n 0, 1, []), (9, .getfield 9, 3, [0, 0, 496]), (12, .iload_n 1, 1, []), (13, .baload, 1, []), (14, .ifCond .ne 12, 3, []), (17, .aload_n 0, 1, []), (18, .iload_n 1, 1, []), (19, .iconst 1, 1, []), (20, .iadd, 1, []), (21, .iload_n 2, 1, []), (22, .invokevirtual 36, 3, [2, 119, 2, 0, 1141, 1143, 126, 1144, 59]), (25, .ireturn, 1, [])]
def zt119 : List ZI := zt119_0
def zt120_0 : List ZI := [(0, .iconst 0, 1, []), (1, .istore_n 1, 1, []), (2, .iconst 0, 1, []), (3, .istore_n 2, 1, []), (4, .iload_n 2, 1, []), (5, .bipush 6, 2, []), (7, .if_icmp .ge 37, 3, []), (10, .aload_n 0, 1, []), (11, .getfield 9, 3, [0, 0, 496]), (14, .iload_n 2, 1, []), (15, .baload, 1, []), (16, .ifCond .eq 22, 3, []), (38, .iinc 2 1, 3, []), (41, .goto (-37), 3, []), (44, .iload_n 1, 1, []), (45, .ireturn, 1, [])]
def zt120 : List ZI := zt120_0
def zt121_0 : List ZI := [(0, .aload_n 0, 1, []), (1, .iconst 0, 1, []), (2, .putfield 406, 3, [9, 56, 0, 0, 1350]), (5, .iconst 0, 1, []), (6, .istore_n 1, 1, []), (7, .iload_n 1, 1, []), (8, .bipush 6, 2, []), (10, .if_icmp .ge 16, 3, []), (13, .aload_n 0, 1, []), (14, .getfield 186, 3, [9, 57, 1351]), (17, .iload_n 1, 1, []), (18, .iconst 0, 1, []), (19, .iastore, 1, []), (20, .iinc 1 1, 3, []), (23, .goto (-16), 3, []), (26, .aload_n 0, 1, []), (27, .iconst 0, 1, []), (28, .iconst 0, 1, []), (29, .invokevirtual 409, 3, [2, 122, 2, 9, 1798, 1800, 127, 1801, 114]), (32, .return_, 1, [])]
def zt121 : List ZI := zt121_0
def zt122_0 : List ZI := [(0, .iload_n 1, 1, []), (1, .bipush 6, 2, []), (3, .if_icmp .ne 58, 3, []), (6, .aload_n 0, 1, []), (7, .dup, 1, []), (8, .getfield 406, 3, [9, 56, 1350]), (11, .iconst 1, 1, []), (12, .iadd, 1, []), (13, .putfield 406, 3, [9, 56, 0, 0, 1350]), (16, .iconst 0, 1, []), (17, .istore_n 3, 1, []), (18, .iload_n 3, 1, []), (19, .bipush 6, 2, []), (21, .if_icmp .ge 39, 3, []), (24, .aload_n 0, 1, []), (25, .getfield 186, 3, [9, 57, 1351]), (28, .iload_n 3, 1, []), (29, .dup2, 1, []), (30, .iaload, 1, []), (31, .aload_n 0, 1, []), (32, .getfield 171, 3, [9, 51, 1345]), (35, .iload_n 3, 1, []), (36, .baload, 1, []), (37, .ifCond .eq 14, 3, []), (51, .iconst 0, 1, []), (52, .ior, 1, []), (53, .iastore, 1, []), (54, .iinc 3 1, 3, []), (57, .goto (-39), 3, []), (60, .return_, 1, []), (61, .aload_n 0, 1, []), (62, .getfield 171, 3, [9, 51, 1345]), (65, .iload_n 1, 1, []), (66, .baload, 1, []), (67, .ifCond .ne 12, 3, []), (70, .aload_n 0, 1, []), (71, .iload_n 1, 1, []), (72, .iconst 1, 1, []), (73, .iadd, 1, []), (74, .iload_n 2, 1, [])]
def zt122_1 : List ZI := [(75, .invokevirtual 409, 3, [2, 122, 2, 9, 1798, 1800, 127, 1801, 114]), (78, .return_, 1, [])]
def zt122 : List ZI := zt122_0 ++ (zt122_1)
def zt123_0 : List ZI := [(0, .iload_n 1, 1, []), (1, .bipush 6, 2, []), (3, .invokestatic 110, 3, [0, 13, 2, 0, 569, 570, 117, 571]), (6, .ifCond .eq 15, 3, []), (9, .aload_n 0, 1, []), (10, .getfield 73, 3, [8, 8, 529]), (13, .getfield 279, 3, [0, 0, 497]), (16, .iload_n 1, 1, []), (17, .baload, 1, []), (18, .ifCond .ne 5, 3, []), (21, .iconst (-1), 1, []), (22, .ireturn, 1, [])]
def zt123 : List ZI := zt123_0
def zt124_0 : List ZI := [(0, .aload_n 0, 1, []), (1, .iconst 0, 1, []), (2, .putfield 1, 3, [9, 0, 0, 0, 1294]), (5, .iload_n 1, 1, []), (6, .iconst 0, 1, []), (7, .iconst 5, 1, []), (8, .invokestatic 244, 3, [0, 16, 3, 0, 1482, 1483, 127, 1484]), (11, .ifCond .eq 12, 3, []), (14, .aload_n 0, 1, []), (15, .getfield 171, 3, [9, 51, 1345]), (18, .iload_n 1, 1, []), (19, .baload, 1, []), (20, .ifCond .ne 5, 3, []), (23, .iconst (-1), 1, []), (24, .ireturn, 1, [])]
def zt124 : List ZI := zt124_0
def zt125_0 : List ZI := [(0, .iload_n 1, 1, []), (1, .tableswitch 97 0 6 #[43, 51, 56, 61, 66, 77, 89], 43, []), (44, .aload_n 0, 1, []), (45, .getfield 19, 3, [8, 1, 522]), (48, .invokevirtual 285, 3, [2, 131, 0, 1, 1167, 1168, 119, 1170, 1169]), (51, .ireturn, 1, []), (52, .aload_n 0, 1, []), (53, .invokevirtual 288, 3, [2, 130, 0, 8, 1171, 1173, 117, 1174, 61]), (56, .ireturn, 1, []), (57, .aload_n 0, 1, []), (58, .invokevirtual 291, 3, [2, 129, 0, 8, 1175, 1177, 117, 1178, 62]), (61, .ireturn, 1, []), (62, .aload_n 0, 1, []), (63, .invokevirtual 294, 3, [2, 128, 0, 8, 1179, 1181, 117, 1182, 63]), (66, .ireturn, 1, []), (67, .aload_n 0, 1, []), (68, .getfield 73, 3, [8, 8, 529]), (71, .iconst 0, 1, []), (72, .bipush 6, 2, []), (74, .invokevirtual 297, 3, [2, 127, 2, 0, 1183, 1184, 126, 1186, 1185]), (77, .ireturn, 1, []), (78, .aload_n 0, 1, []), (79, .getfield 73, 3, [8, 8, 529]), (82, .bipush 6, 2, []), (84, .bipush 6, 2, []), (86, .invokevirtual 297, 3, [2, 127, 2, 0, 1183, 1184, 126, 1186, 1185]), (89, .ireturn, 1, []), (90, .aload_n 0, 1, []), (91, .getfield 10, 3, [8, 0, 521]), (94, .getfield 81, 3, [6, 1, 157]), (97, .ireturn, 1, []), (98, .iconst (-1), 1, []), (99, .ireturn, 1, [])]
def zt125 : List ZI := zt125_0
def zt126_0 : List ZI := [(0, .aload_n 0, 1, []), (1, .iconst 0, 1, []), (2, .putfield 1, 3, [9, 0, 0, 0, 1294]), (5, .iconst 0, 1, []), (6, .istore_n 2, 1, []), (7, .iload_n 1, 1, []), (8, .tableswitch 223 0 6 #[44, 77, 110, 148, 173, 173, 218], 44, []), (52, .iconst 0, 1, []), (53, .istore_n 3, 1, []), (54, .iload_n 3, 1, []), (55, .bipush 8, 2, []), (57, .if_icmp .ge 26, 3, []), (60, .iload_n 2, 1, []), (61, .aload_n 0, 1, []), (62, .getfield 67, 3, [9, 12, 1306]), (65, .iload_n 3, 1, []), (66, .baload, 1, []), (67, .ifCond .eq 7, 3, []), (74, .iconst 0, 1, []), (75, .iadd, 1, []), (76, .istore_n 2, 1, []), (77, .iinc 3 1, 3, []), (80, .goto (-26), 3, []), (83, .iload_n 2, 1, []), (84, .ireturn, 1, []), (85, .iconst 0, 1, []), (86, .istore_n 3, 1, []), (87, .iload_n 3, 1, []), (88, .bipush 12, 2, []), (90, .if_icmp .ge 26, 3, []), (93, .iload_n 2, 1, []), (94, .aload_n 0, 1, []), (95, .getfield 83, 3, [9, 17, 1311]), (98, .iload_n 3, 1, []), (99, .baload, 1, []), (100, .ifCond .eq 7, 3, []), (107, .iconst 0, 1, []), (108, .iadd, 1, []), (109, .istore_n 2, 1, []), (110, .iinc 3 1, 3, [])]
def zt126_1 : List ZI := [(113, .goto (-26), 3, []), (116, .iload_n 2, 1, []), (117, .ireturn, 1, []), (118, .iconst 0, 1, []), (119, .istore_n 3, 1, []), (120, .iload_n 3, 1, []), (121, .bipush 12, 2, []), (123, .if_icmp .ge 31, 3, []), (126, .iload_n 2, 1, []), (127, .aload_n 0, 1, []), (128, .getfield 83, 3, [9, 17, 1311]), (131, .iload_n 3, 1, []), (132, .baload, 1, []), (133, .ifCond .eq 12, 3, []), (145, .iconst 0, 1, []), (146, .iadd, 1, []), (147, .istore_n 2, 1, []), (148, .iinc 3 1, 3, []), (151, .goto (-31), 3, []), (154, .iload_n 2, 1, []), (155, .ireturn, 1, []), (156, .iconst 0, 1, []), (157, .istore_n 3, 1, []), (158, .iload_n 3, 1, []), (159, .bipush 6, 2, []), (161, .if_icmp .ge 18, 3, []), (164, .iload_n 2, 1, []), (165, .aload_n 0, 1, []), (166, .getfield 129, 3, [9, 35, 1329]), (169, .iload_n 3, 1, []), (170, .iaload, 1, []), (171, .iadd, 1, []), (172, .istore_n 2, 1, []), (173, .iinc 3 1, 3, []), (176, .goto (-18), 3, []), (179, .iload_n 2, 1, []), (180, .ireturn, 1, []), (181, .iconst 0, 1, []), (182, .istore_n 3, 1, []), (183, .iload_n 3, 1, [])]
def zt126_2 : List ZI := [(184, .bipush 6, 2, []), (186, .if_icmp .ge 38, 3, []), (189, .iload_n 2, 1, []), (190, .aload_n 0, 1, []), (191, .getfield 171, 3, [9, 51, 1345]), (194, .iload_n 1, 1, []), (195, .iconst 4, 1, []), (196, .if_icmp .ne 7, 3, []), (199, .iload_n 3, 1, []), (200, .goto 7, 3, []), (203, .bipush 6, 2, []), (205, .iload_n 3, 1, []), (206, .iadd, 1, []), (207, .baload, 1, []), (208, .ifCond .eq 7, 3, []), (215, .iconst 0, 1, []), (216, .iadd, 1, []), (217, .istore_n 2, 1, []), (218, .iinc 3 1, 3, []), (221, .goto (-38), 3, []), (224, .iload_n 2, 1, []), (225, .ireturn, 1, []), (226, .aload_n 0, 1, []), (227, .getfield 11, 3, [9, 2, 1296]), (230, .ireturn, 1, []), (231, .iconst (-1), 1, []), (232, .ireturn, 1, [])]
def zt126 : List ZI := zt126_0 ++ (zt126_1 ++ (zt126_2))
def zt127_0 : List ZI := [(0, .iconst 0, 1, []), (1, .istore_n 3, 1, []), (2, .iload_n 1, 1, []), (3, .istore 4, 2, []), (5, .iload 4, 2, []), (7, .iload_n 1, 1, []), (8, .iload_n 2, 1, []), (9, .iadd, 1, []), (10, .if_icmp .ge 22, 3, []), (13, .aload_n 0, 1, []), (14, .getfield 9, 3, [0, 0, 496]), (17, .iload 4, 2, []), (19, .baload, 1, []), (20, .ifCond .eq 6, 3, []), (26, .iinc 4 1, 3, []), (29, .goto (-24), 3, []), (32, .iload_n 3, 1, []), (33, .ireturn, 1, [])]
def zt127 : List ZI := zt127_0
def zt128_0 : List ZI := [(0, .iconst 0, 1, []), (1, .istore_n 1, 1, []), (2, .iconst 0, 1, []), (3, .istore_n 2, 1, []), (4, .iload_n 2, 1, []), (5, .bipush 6, 2, []), (7, .if_icmp .ge 21, 3, []), (10, .iload_n 1, 1, []), (11, .aload_n 0, 1, []), (12, .getfield 45, 3, [8, 5, 526]), (15, .iload_n 2, 1, []), (16, .aaload, 1, []), (17, .getfield 338, 3, [2, 0, 354]), (20, .iadd, 1, []), (21, .istore_n 1, 1, []), (22, .iinc 2 1, 3, []), (25, .goto (-21), 3, []), (28, .iload_n 1, 1, []), (29, .ireturn, 1, [])]
def zt128 : List ZI := zt128_0
def zt129_0 : List ZI := [(0, .iconst 0, 1, []), (1, .istore_n 1, 1, []), (2, .iconst 0, 1, []), (3, .istore_n 2, 1, []), (4, .iload_n 2, 1, []), (5, .bipush 12, 2, []), (7, .if_icmp .ge 21, 3, []), (10, .iload_n 1, 1, []), (11, .aload_n 0, 1, []), (12, .getfield 25, 3, [8, 2, 523]), (15, .iload_n 2, 1, []), (16, .aaload, 1, []), (17, .getfield 129, 3, [7, 5, 233]), (20, .iadd, 1, []), (21, .istore_n 1, 1, []), (22, .iinc 2 1, 3, []), (25, .goto (-21), 3, []), (28, .iload_n 1, 1, []), (29, .ireturn, 1, [])]
def zt129 : List ZI := zt129_0
def zt130_0 : List ZI := [(0, .iconst 0, 1, []), (1, .istore_n 1, 1, []), (2, .iconst 0, 1, []), (3, .istore_n 2, 1, []), (4, .iload_n 2, 1, []), (5, .bipush 12, 2, []), (7, .if_icmp .ge 24, 3, []), (10, .aload_n 0, 1, []), (11, .getfield 25, 3, [8, 2, 523]), (14, .iload_n 2, 1, []), (15, .aaload, 1, []), (16, .getfield 335, 3, [7, 0, 217]), (19, .ifCond .eq 6, 3, []), (25, .iinc 2 1, 3, []), (28, .goto (-24), 3, []), (31, .iload_n 1, 1, []), (32, .ireturn, 1, [])]
def zt130 : List ZI := zt130_0
def zt131_0 : List ZI := [(0, .iconst 0, 1, []), (1, .istore_n 1, 1, []), (2, .iconst 0, 1, []), (3, .istore_n 2, 1, []), (4, .iload_n 2, 1, []), (5, .bipush 8, 2, []), (7, .if_icmp .ge 21, 3, []), (10, .aload_n 0, 1, []), (11, .getfield 9, 3, [1, 0, 181]), (14, .iload_n 2, 1, []), (15, .baload, 1, []), (16, .ifCond .eq 6, 3, []), (22, .iinc 2 1, 3, []), (25, .goto (-21), 3, []), (28, .iload_n 1, 1, []), (29, .ireturn, 1, [])]
def zt131 : List ZI := zt131_0
def zzc : List (List ZI) := [zt0, zt1, zt2, zt3, zt4, zt5, zt6, zt7, zt8, zt9, zt10, zt11, zt12, zt13, zt14, zt15, zt16, zt17, zt18, zt19, zt20, zt21, zt22, zt23, zt24, zt25, zt26, zt27, zt28, zt29, zt30, zt31, zt32, zt33, zt34, zt35, zt36, zt37, zt38, zt39, zt40, zt41, zt42, zt43, zt44, zt45, zt46, zt47, zt48, zt49, zt50, zt51, zt52, zt53, zt54, zt55, zt56, zt57, zt58, zt59, zt60, zt61, zt62, zt63, zt64, zt65, zt66, zt67, zt68, zt69, zt70, zt71, zt72, zt73, zt74, zt75, zt76, zt77, zt78, zt79, zt80, zt81, zt82, zt83, zt84, zt85, zt86, zt87, zt88, zt89, zt90, zt91, zt92, zt93, zt94, zt95, zt96, zt97, zt98, zt99, zt100, zt101, zt102, zt103, zt104, zt105, zt106, zt107, zt108, zt109, zt110, zt111, zt112, zt113, zt114, zt115, zt116, zt117, zt118, zt119, zt120, zt121, zt122, zt123, zt124, zt125, zt126, zt127, zt128, zt129, zt130, zt131]
def zzh : List ZE := [.inr (8, [.ref 1, .ref 3, .ref 10, .ref 83, .ref 84, .ref 94, .ref 131, .ref 139, .ref 149]),
  .inr (6, [.ref 2, .int 0, .int 0, .int 0]),
  .inl (2, 1000, []),
  .inr (1, [.ref 4, .ref 5, .ref 6, .ref 7, .ref 8, .ref 9]),
  .inl (1, 8, []),
  .inl (1, 8, []),
  .inl (0, 8, []),
  .inl (0, 8, []),
  .inl (0, 8, []),
  .inl (2, 64, []),
  .inl (4, 12, [(11, .ref 77), (10, .ref 71), (9, .ref 65), (8, .ref 59), (7, .ref 53), (6, .ref 47), (5, .ref 41), (4, .ref 35), (3, .ref 29), (2, .ref 23), (1, .ref 17), (0, .ref 11)]),
  .inr (7, [.int 0, .int 0, .int 0, .int 0, .int 0, .int 0, .ref 12, .ref 13, .ref 14, .ref 15, .ref 16]),
  .inl (0, 6, []),
  .inl (0, 6, []),
  .inl (0, 6, []),
  .inl (0, 6, []),
  .inl (2, 48, []),
  .inr (7, [.int 0, .int 0, .int 0, .int 0, .int 0, .int 0, .ref 18, .ref 19, .ref 20, .ref 21, .ref 22]),
  .inl (0, 6, []),
  .inl (0, 6, []),
  .inl (0, 6, []),
  .inl (0, 6, []),
  .inl (2, 48, []),
  .inr (7, [.int 0, .int 0, .int 0, .int 0, .int 0, .int 0, .ref 24, .ref 25, .ref 26, .ref 27, .ref 28]),
  .inl (0, 6, []),
  .inl (0, 6, []),
  .inl (0, 6, []),
  .inl (0, 6, []),
  .inl (2, 48, []),
  .inr (7, [.int 0, .int 0, .int 0, .int 0, .int 0, .int 0, .ref 30, .ref 31, .ref 32, .ref 33, .ref 34]),
  .inl (0, 6, []),
  .inl (0, 6, []),
  .inl (0, 6, []),
  .inl (0, 6, []),
  .inl (2, 48, []),
  .inr (7, [.int 0, .int 0, .int 0, .int 0, .int 0, .int 0, .ref 36, .ref 37, .ref 38, .ref 39, .ref 40]),
  .inl (0, 6, []),
  .inl (0, 6, []),
  .inl (0, 6, []),
  .inl (0, 6, []),
  .inl (2, 48, []),
  .inr (7, [.int 0, .int 0, .int 0, .int 0, .int 0, .int 0, .ref 42, .ref 43, .ref 44, .ref 45, .ref 46]),
  .inl (0, 6, []),
  .inl (0, 6, []),
  .inl (0, 6, []),
  .inl (0, 6, []),
  .inl (2, 48, []),
  .inr (7, [.int 0, .int 0, .int 0, .int 0, .int 0, .int 0, .ref 48, .ref 49, .ref 50, .ref 51, .ref 52]),
  .inl (0, 6, []),
  .inl (0, 6, []),
  .inl (0, 6, []),
  .inl (0, 6, []),
  .inl (2, 48, []),
  .inr (7, [.int 0, .int 0, .int 0, .int 0, .int 0, .int 0, .ref 54, .ref 55, .ref 56, .ref 57, .ref 58]),
  .inl (0, 6, []),
  .inl (0, 6, []),
  .inl (0, 6, []),
  .inl (0, 6, []),
  .inl (2, 48, []),
  .inr (7, [.int 0, .int 0, .int 0, .int 0, .int 0, .int 0, .ref 60, .ref 61, .ref 62, .ref 63, .ref 64]),
  .inl (0, 6, []),
  .inl (0, 6, []),
  .inl (0, 6, []),
  .inl (0, 6, []),
  .inl (2, 48, []),
  .inr (7, [.int 0, .int 0, .int 0, .int 0, .int 0, .int 0, .ref 66, .ref 67, .ref 68, .ref 69, .ref 70]),
  .inl (0, 6, []),
  .inl (0, 6, []),
  .inl (0, 6, []),
  .inl (0, 6, []),
  .inl (2, 48, []),
  .inr (7, [.int 0, .int 0, .int 0, .int 0, .int 0, .int 0, .ref 72, .ref 73, .ref 74, .ref 75, .ref 76]),
  .inl (0, 6, []),
  .inl (0, 6, []),
  .inl (0, 6, []),
  .inl (0, 6, []),
  .inl (2, 48, []),
  .inr (7, [.int 0, .int 0, .int 0, .int 0, .int 0, .int 0, .ref 78, .ref 79, .ref 80, .ref 81, .ref 82]),
  .inl (0, 6, []),
  .inl (0, 6, []),
  .inl (0, 6, []),
  .inl (0, 6, []),
  .inl (2, 48, []),
  .inl (0, 6, [(5, .int (-1)), (4, .int (-1)), (3, .int (-1)), (2, .int (-1)), (1, .int (-1)), (0, .int (-1))]),
  .inr (5, [.ref 3, .ref 10, .ref 83, .int 0, .int 0, .ref 85, .ref 86, .ref 87, .ref 88, .ref 89, .ref 90, .ref 91, .ref 92, .ref 93, .int 0, .int 0, .int 0, .int (-1), .int 0]),
  .inl (0, 6, []),
  .inl (0, 6, []),
  .inl (0, 36, []),
  .inl (0, 72, []),
  .inl (0, 12, []),
  .inl (0, 6, []),
  .inl (0, 6, []),
  .inl (0, 6, []),
  .inl (0, 36, []),
  .inl (5, 6, [(5, .ref 125), (4, .ref 119), (3, .ref 113), (2, .ref 107), (1, .ref 101), (0, .ref 95)]),
  .inr (2, [.int 0, .int 0, .ref 96, .ref 97, .ref 98, .ref 99, .ref 100]),
  .inl (0, 12, []),
  .inl (0, 12, []),
  .inl (0, 12, []),
  .inl (0, 12, []),
  .inl (0, 0, []),
  .inr (2, [.int 0, .int 0, .ref 102, .ref 103, .ref 104, .ref 105, .ref 106]),
  .inl (0, 12, []),
  .inl (0, 12, []),
  .inl (0, 12, []),
  .inl (0, 12, []),
  .inl (0, 0, []),
  .inr (2, [.int 0, .int 0, .ref 108, .ref 109, .ref 110, .ref 111, .ref 112]),
  .inl (0, 12, []),
  .inl (0, 12, []),
  .inl (0, 12, []),
  .inl (0, 12, []),
  .inl (0, 0, []),
  .inr (2, [.int 0, .int 0, .ref 114, .ref 115, .ref 116, .ref 117, .ref 118]),
  .inl (0, 12, []),
  .inl (0, 12, []),
  .inl (0, 12, []),
  .inl (0, 12, []),
  .inl (0, 0, []),
  .inr (2, [.int 0, .int 0, .ref 120, .ref 121, .ref 122, .ref 123, .ref 124]),
  .inl (0, 12, []),
  .inl (0, 12, []),
  .inl (0, 12, []),
  .inl (0, 12, []),
  .inl (0, 0, []),
  .inr (2, [.int 0, .int 0, .ref 126, .ref 127, .ref 128, .ref 129, .ref 130]),
  .inl (0, 12, []),
  .inl (0, 12, []),
  .inl (0, 12, []),
  .inl (0, 12, []),
  .inl (0, 0, []),
  .inr (3, [.ref 1, .ref 3, .ref 132, .int 0, .int 24, .int 0, .int 0, .int 0, .ref 138, .int 0, .int 0, .int 1]),
  .inr (2, [.int 0, .int 0, .ref 133, .ref 134, .ref 135, .ref 136, .ref 137]),
  .inl (0, 12, []),
  .inl (0, 12, []),
  .inl (0, 12, []),
  .inl (0, 12, []),
  .inl (0, 1000, []),
  .inl (0, 64, []),
  .inr (4, [.ref 3, .ref 10, .ref 94, .ref 140, .ref 141, .ref 142, .ref 143, .ref 144, .ref 145, .ref 146, .ref 147, .ref 148, .int 0, .int 0]),
  .inl (0, 6, [(5, .int 99), (4, .int 99), (3, .int 99), (2, .int 99), (1, .int 99), (0, .int 99)]),
  .inl (1, 6, [(5, .int 1), (4, .int 1), (3, .int 1), (2, .int 1), (1, .int 1), (0, .int 1)]),
  .inl (0, 12, []),
  .inl (0, 72, []),
  .inl (0, 72, []),
  .inl (0, 72, []),
  .inl (0, 72, []),
  .inl (0, 6, []),
  .inl (0, 64, []),
  .inr (0, [.ref 150, .ref 151, .ref 152, .ref 153, .ref 154, .int 0, .int 0]),
  .inl (1, 12, []),
  .inl (0, 12, []),
  .inl (0, 12, []),
  .inl (0, 12, []),
  .inl (0, 6, []),
  .inr (9, [.int 0, .ref 156, .int 0, .int 0, .ref 157, .ref 158, .ref 159, .int 0, .int 0, .ref 160, .int 0, .int 0, .ref 161, .ref 162, .ref 163, .ref 164, .ref 165, .ref 166, .ref 167, .ref 168, .ref 169, .ref 170, .ref 171, .ref 172, .ref 173, .ref 174, .ref 175, .ref 176, .int 1, .ref 177, .ref 178, .ref 179, .int 0, .ref 180, .int 0, .ref 181, .ref 182, .ref 183, .ref 184, .int 0, .ref 185, .ref 186, .ref 187, .ref 188, .ref 189, .ref 190, .ref 191, .ref 192, .ref 193, .ref 194, .int 0, .ref 195, .ref 196, .ref 197, .ref 198, .ref 199, .int 0, .ref 200]),
  .inl (0, 1000, []),
  .inl (0, 1002, []),
  .inl (0, 1002, []),
  .inl (3, 1002, []),
  .inl (3, 15, [(14, .long 1355088389), (13, .long 181467), (12, .long 30595897), (11, .long 43567804), (10, .long 983628), (9, .long 36420992), (8, .long 564588237), (7, .long 19741), (6, .long 573), (5, .long 1891), (4, .long 1176170), (3, .long 665856), (2, .long 22701), (1, .long 406715), (0, .long 21332)]),
  .inl (1, 8, []),
  .inl (0, 8, []),
  .inl (1, 8, []),
  .inl (0, 8, []),
  .inl (0, 64, []),
  .inl (1, 12, []),
  .inl (0, 12, []),
  .inl (0, 12, []),
  .inl (0, 12, []),
  .inl (0, 12, []),
  .inl (0, 12, []),
  .inl (0, 72, []),
  .inl (0, 72, []),
  .inl (0, 72, []),
  .inl (0, 72, []),
  .inl (0, 576, []),
  .inl (0, 6, [(5, .int (-1)), (4, .int (-1)), (3, .int (-1)), (2, .int (-1)), (1, .int (-1)), (0, .int (-1))]),
  .inl (0, 6, []),
  .inl (1, 6, []),
  .inl (0, 46656, []),
  .inl (0, 7, []),
  .inl (0, 84, []),
  .inl (0, 84, []),
  .inl (0, 84, []),
  .inl (0, 7700, []),
  .inl (0, 7700, []),
  .inl (0, 7, []),
  .inl (0, 1100, []),
  .inl (0, 6, [(5, .int 99), (4, .int 99), (3, .int 99), (2, .int 99), (1, .int 99), (0, .int 99)]),
  .inl (1, 6, [(5, .int 1), (4, .int 1), (3, .int 1), (2, .int 1), (1, .int 1), (0, .int 1)]),
  .inl (0, 12, []),
  .inl (0, 72, []),
  .inl (0, 72, []),
  .inl (0, 72, []),
  .inl (1, 12, []),
  .inl (0, 12, []),
  .inl (0, 12, []),
  .inl (0, 12, []),
  .inl (0, 6, []),
  .inl (0, 6, []),
  .inl (3, 1, [])]
def zzl : ZL := [(4, .int 0), (3, .ref 201), (2, .ref 155), (1, .ref 0), (0, .float 0)]
def zzn : Nat := 202
def zzs : Nat := 79118
end
section
/-! the classes, and that the tables are the code's: by the kernel -/
theorem zin0 : ∀ w ∈ u_ws RX1 TX1 7, w ∈ zT := zchk_ok (is := [506, 508, 510, 512, 514, 516, 518]) (by decide +kernel)
theorem zcl0 : ∃ ty0 : Nat → FieldType, (∀ k, k < 7 → parseFieldDescriptor (TX1 k).2.2.1 = some (ty0 k)) ∧ (∀ a, a < 7 → ∀ b, b < 7 → a ≠ b → (TX1 a).2.1 ≠ (TX1 b).2.1) ∧ ∃ fs, zzd[0]? = some fs ∧ fs.all zpl = true ∧ ∀ j, j < 7 → defaultValue (ty0 j) = vp_V fs j := ⟨tyX1, tyX1_ok, nmX1, _, rfl, by decide +kernel, by decide +kernel⟩
theorem zin1 : ∀ w ∈ u_ws RX2 TX2 6, w ∈ zT := zchk_ok (is := [193, 195, 197, 199, 201, 203]) (by decide +kernel)
theorem zcl1 : ∃ ty0 : Nat → FieldType, (∀ k, k < 6 → parseFieldDescriptor (TX2 k).2.2.1 = some (ty0 k)) ∧ (∀ a, a < 6 → ∀ b, b < 6 → a ≠ b → (TX2 a).2.1 ≠ (TX2 b).2.1) ∧ ∃ fs, zzd[1]? = some fs ∧ fs.all zpl = true ∧ ∀ j, j < 6 → defaultValue (ty0 j) = vp_V fs j := ⟨tyX2, tyX2_ok, nmX2, _, rfl, by decide +kernel, by decide +kernel⟩
theorem zin2 : ∀ w ∈ u_ws RX3 TX3 7, w ∈ zT := zchk_ok (is := [371, 373, 375, 377, 379, 381, 383]) (by decide +kernel)
theorem zcl2 : ∃ ty0 : Nat → FieldType, (∀ k, k < 7 → parseFieldDescriptor (TX3 k).2.2.1 = some (ty0 k)) ∧ (∀ a, a < 7 → ∀ b, b < 7 → a ≠ b → (TX3 a).2.1 ≠ (TX3 b).2.1) ∧ ∃ fs, zzd[2]? = some fs ∧ fs.all zpl = true ∧ ∀ j, j < 7 → defaultValue (ty0 j) = vp_V fs j := ⟨tyX3, tyX3_ok, nmX3, _, rfl, by decide +kernel, by decide +kernel⟩
theorem zin3 : ∀ w ∈ u_ws RX4 TX4 12, w ∈ zT := zchk_ok (is := [407, 409, 411, 413, 415, 417, 419, 421, 423, 425, 427, 429]) (by decide +kernel)
theorem zcl3 : ∃ ty0 : Nat → FieldType, (∀ k, k < 12 → parseFieldDescriptor (TX4 k).2.2.1 = some (ty0 k)) ∧ (∀ a, a < 12 → ∀ b, b < 12 → a ≠ b → (TX4 a).2.1 ≠ (TX4 b).2.1) ∧ ∃ fs, zzd[3]? = some fs ∧ fs.all zpl = true ∧ ∀ j, j < 12 → defaultValue (ty0 j) = vp_V fs j := ⟨tyX4, tyX4_ok, nmX4, _, rfl, by decide +kernel, by decide +kernel⟩
theorem zin4 : ∀ w ∈ u_ws RX5 TX5 14, w ∈ zT := zchk_ok (is := [461, 463, 465, 467, 469, 471, 473, 475, 477, 479, 481, 483, 485, 487]) (by decide +kernel)
theorem zcl4 : ∃ ty0 : Nat → FieldType, (∀ k, k < 14 → parseFieldDescriptor (TX5 k).2.2.1 = some (ty0 k)) ∧ (∀ a, a < 14 → ∀ b, b < 14 → a ≠ b → (TX5 a).2.1 ≠ (TX5 b).2.1) ∧ ∃ fs, zzd[4]? = some fs ∧ fs.all zpl = true ∧ ∀ j, j < 14 → defaultValue (ty0 j) = vp_V fs j := ⟨tyX5, tyX5_ok, nmX5, _, rfl, by decide +kernel, by decide +kernel⟩
theorem zin5 : ∀ w ∈ u_ws RX6 TX6 19, w ∈ zT := zchk_ok (is := [302, 304, 306, 308, 310, 312, 314, 316, 318, 320, 322, 324, 326, 328, 330, 332, 334, 336, 338]) (by decide +kernel)
theorem zcl5 : ∃ ty0 : Nat → FieldType, (∀ k, k < 19 → parseFieldDescriptor (TX6 k).2.2.1 = some (ty0 k)) ∧ (∀ a, a < 19 → ∀ b, b < 19 → a ≠ b → (TX6 a).2.1 ≠ (TX6 b).2.1) ∧ ∃ fs, zzd[5]? = some fs ∧ fs.all zpl = true ∧ ∀ j, j < 19 → defaultValue (ty0 j) = vp_V fs j := ⟨tyX6, tyX6_ok, nmX6, _, rfl, by decide +kernel, by decide +kernel⟩
theorem zin6 : ∀ w ∈ u_ws RX7 TX7 4, w ∈ zT := zchk_ok (is := [165, 167, 169, 171]) (by decide +kernel)
theorem zcl6 : ∃ ty0 : Nat → FieldType, (∀ k, k < 4 → parseFieldDescriptor (TX7 k).2.2.1 = some (ty0 k)) ∧ (∀ a, a < 4 → ∀ b, b < 4 → a ≠ b → (TX7 a).2.1 ≠ (TX7 b).2.1) ∧ ∃ fs, zzd[6]? = some fs ∧ fs.all zpl = true ∧ ∀ j, j < 4 → defaultValue (ty0 j) = vp_V fs j := ⟨tyX7, tyX7_ok, nmX7, _, rfl, by decide +kernel, by decide +kernel⟩
theorem zin7 : ∀ w ∈ u_ws RX8 TX8 11, w ∈ zT := zchk_ok (is := [250, 252, 254, 256, 258, 260, 262, 264, 266, 268, 270]) (by decide +kernel)
theorem zcl7 : ∃ ty0 : Nat → FieldType, (∀ k, k < 11 → parseFieldDescriptor (TX8 k).2.2.1 = some (ty0 k)) ∧ (∀ a, a < 11 → ∀ b, b < 11 → a ≠ b → (TX8 a).2.1 ≠ (TX8 b).2.1) ∧ ∃ fs, zzd[7]? = some fs ∧ fs.all zpl = true ∧ ∀ j, j < 11 → defaultValue (ty0 j) = vp_V fs j := ⟨tyX8, tyX8_ok, nmX8, _, rfl, by decide +kernel, by decide +kernel⟩
theorem zin8 : ∀ w ∈ u_ws RX9 TX9 9, w ∈ zT := zchk_ok (is := [530, 532, 534, 536, 538, 540, 542, 544, 546]) (by decide +kernel)
theorem zcl8 : ∃ ty0 : Nat → FieldType, (∀ k, k < 9 → parseFieldDescriptor (TX9 k).2.2.1 = some (ty0 k)) ∧ (∀ a, a < 9 → ∀ b, b < 9 → a ≠ b → (TX9 a).2.1 ≠ (TX9 b).2.1) ∧ ∃ fs, zzd[8]? = some fs ∧ fs.all zpl = true ∧ ∀ j, j < 9 → defaultValue (ty0 j) = vp_V fs j := ⟨tyX9, tyX9_ok, nmX9, _, rfl, by decide +kernel, by decide +kernel⟩
theorem zin9 : ∀ w ∈ u_ws RX10 TX10 58, w ∈ zT := zchk_ok (is := [1352, 1354, 1356, 1358, 1360, 1362, 1364, 1366, 1368, 1370, 1372, 1374, 1376, 1378, 1380, 1382, 1384, 1386, 1388, 1390, 1392, 1394, 1396, 1398, 1400, 1402, 1404, 1406, 1408, 1410, 1412, 1414, 1416, 1418, 1420, 1422, 1424, 1426, 1428, 1430, 1432, 1434, 1436, 1438, 1440, 1442, 1444, 1446, 1448, 1450, 1452, 1454, 1456, 1458, 1460, 1462, 1464, 1466]) (by decide +kernel)
theorem zcl9 : ∃ ty0 : Nat → FieldType, (∀ k, k < 58 → parseFieldDescriptor (TX10 k).2.2.1 = some (ty0 k)) ∧ (∀ a, a < 58 → ∀ b, b < 58 → a ≠ b → (TX10 a).2.1 ≠ (TX10 b).2.1) ∧ ∃ fs, zzd[9]? = some fs ∧ fs.all zpl = true ∧ ∀ j, j < 58 → defaultValue (ty0 j) = vp_V fs j := ⟨tyX10, tyX10_ok, nmX10, _, rfl, by decide +kernel, by decide +kernel⟩
theorem zzcl : zCl zzd := by
  intro ci C T N h
  match ci, h with
  | 0, h => cases h; exact ⟨zin0, zcl0⟩
  | 1, h => cases h; exact ⟨zin1, zcl1⟩
  | 2, h => cases h; exact ⟨zin2, zcl2⟩
  | 3, h => cases h; exact ⟨zin3, zcl3⟩
  | 4, h => cases h; exact ⟨zin4, zcl4⟩
  | 5, h => cases h; exact ⟨zin5, zcl5⟩
  | 6, h => cases h; exact ⟨zin6, zcl6⟩
  | 7, h => cases h; exact ⟨zin7, zcl7⟩
  | 8, h => cases h; exact ⟨zin8, zcl8⟩
  | 9, h => cases h; exact ⟨zin9, zcl9⟩
  | n + 10, h => cases h
end
section
/-! the law from its loop's head, every script of 7 ints by boxes: where the machine of known values asks, a box is cut in two -/
noncomputable def zfin1 (r : ZS) : Bool := Nat.beq r.1 1506 && ((Nat.ble r.2.2.2.2.1 600002 && Nat.ble r.2.2.2.2.2 7302232) && (match r.2.2.1 with
  | [.int x] => decide (x = 1)
  | _ => false))
noncomputable def zdrive (N : Nat) (n : Nat) : ZN → Bool := Nat.rec (motive := fun _ => ZN → Bool) (fun _ => false) (fun _ ih box => match zgo zzm zzc zzd box 7 99999 N 0 20 23 zzl [] zzh zzn zzs with
  | .ok r => zfin1 r
  | .error q => (match zget box q.1 with
    | some b => cond (decide (b.1 < q.2) && decide (q.2 ≤ b.2)) (zsk box (b.1, q.2 - 1) q.1 (fun b1 => cond (ih b1) (zsk box (q.2, b.2) q.1 ih) false)) false
    | none => false)) n
def zbox (k : Int) : ZN := [(-2147483648, 2147483647), (-2147483648, 2147483647), (-2147483648, 2147483647), (-2147483648, 2147483647), (-2147483648, 2147483647), (-2147483648, 2147483647), (-2147483648, 2147483647), (k, k)]
abbrev zme0 : ZMe := (RL, yL_law, cL_law, 7, (some .boolean), 600000, 7300000)
/-- from the loop's head, for every script in the box -/
def zOK (box : ZN) : Prop := ∀ (p : Program) (l : Launch) (e : Env) (s : State) (m : MethodId) (args : Array Value) (below : List Frame) (meth : Method) (c : Code) (Q : State → Prop) (dC : Nat → ClassId) (dI : Nat → Nat → Nat) (cA : Nat → ClassId) (g : ZG) (A : Nat → Prop), zen box g → (∀ E, zen E g → zF E 7 0 20 zme0 p room_1 s m args meth c dC dI cA g A) → (∀ (lv : ZL) (hp : List ZE) (nc ns : Nat), nc ≤ 600002 → ns ≤ 7302232 → zW p l e room_1 s m args below meth c Q dC dI cA g A 7 1506 lv [.int 1] hp nc ns) → zW p l e room_1 s m args below meth c Q dC dI cA g A 7 23 zzl [] zzh zzn zzs
theorem zen_set {E : ZN} {g : ZG} {t : Nat} {lo hi : Int} (h : zen E g) (h1 : lo ≤ (g.1 t).toInt) (h2 : (g.1 t).toInt ≤ hi) : zen (E.set t (lo, hi)) g := by
  intro j q hq
  rw [List.getElem?_set] at hq
  by_cases hj : t = j
  · subst hj
    rw [if_pos rfl] at hq
    split at hq
    · cases hq
      exact ⟨h1, h2⟩
    · cases hq
  · rw [if_neg hj] at hq
    exact h j q hq
theorem zOK_split {box b1 b2 : ZN} (t : Nat) {lo hi : Int} (c : Int) (hb : box[t]? = some (lo, hi)) (e1 : box.set t (lo, c - 1) = b1) (e2 : box.set t (c, hi) = b2) (h1 : zOK b1) (h2 : zOK b2) : zOK box := by
  intro p l e s m args below meth cc Q dC dI cA g A hE F Hf
  have hq := hE t _ hb
  by_cases hc : (g.1 t).toInt < c
  · exact h1 p l e s m args below meth cc Q dC dI cA g A (by rw [← e1]; exact zen_set hE hq.1 (by omega)) F Hf
  · exact h2 p l e s m args below meth cc Q dC dI cA g A (by rw [← e2]; exact zen_set hE (by omega) hq.2) F Hf
theorem zOK_drive (hcl : zCl zzd) (htab : zTab zzm zzc) {N : Nat} : ∀ (n : Nat) (box : ZN), zdrive N n box = true → zOK box := by
  intro n
  induction n with
  | zero =>
    intro box h
    cases h
  | succ n ih =>
    intro box h
    have h : (match zgo zzm zzc zzd box 7 99999 N 0 20 23 zzl [] zzh zzn zzs with
      | .ok r => zfin1 r
      | .error q => (match zget box q.1 with
        | some b => cond (decide (b.1 < q.2) && decide (q.2 ≤ b.2)) (zsk box (b.1, q.2 - 1) q.1 (fun b1 => cond (zdrive N n b1) (zsk box (q.2, b.2) q.1 (zdrive N n)) false)) false
        | none => false)) = true := h
    cases hg : zgo zzm zzc zzd box 7 99999 N 0 20 23 zzl [] zzh zzn zzs with
    | ok r =>
      rw [hg] at h
      simp only [zfin1, Bool.and_eq_true] at h
      obtain ⟨h1, ⟨h2, h3⟩, h4⟩ := h
      intro p l e s m args below meth c Q dC dI cA g A hE F Hf
      refine zgo_sound hcl htab N 0 20 23 zzl [] zzh zzn zzs r hg zme0 rfl p l e room_1 s m args below meth c Q dC dI cA g A (F box hE) ?_
      obtain ⟨pc, lv, st, hp, nc, ns⟩ := r
      have e1 : pc = 1506 := Nat.beq_eq.mp h1
      subst e1
      match st, h4 with
      | [.int x], h4 =>
        have e2 : x = 1 := of_decide_eq_true h4
        subst e2
        exact Hf lv hp nc ns (Nat.le_of_ble_eq_true h2) (Nat.le_of_ble_eq_true h3)
    | error q =>
      rw [hg] at h
      simp only [zget_eq] at h
      cases hb : box[q.1]? with
      | none => rw [hb] at h; cases h
      | some b =>
        rw [hb] at h
        simp only [zsk_eq] at h
        cases hd : (decide (b.1 < q.2) && decide (q.2 ≤ b.2)) with
        | false => rw [hd] at h; cases h
        | true =>
          rw [hd, cond_true] at h
          cases h1 : zdrive N n (box.set q.1 (b.1, q.2 - 1)) with
          | false => rw [h1] at h; cases h
          | true =>
            rw [h1, cond_true] at h
            exact zOK_split q.1 (lo := b.1) (hi := b.2) q.2 hb rfl rfl (ih _ h1) (ih _ h)
end
section
theorem zq1 : zdrive 10000 200 (zbox 1) = true := by decide +kernel
theorem zq2 : zdrive 10000 200 (zbox 2) = true := by decide +kernel
theorem zq3 : zdrive 10000 200 (zbox 3) = true := by decide +kernel
theorem zq4 : zdrive 10000 200 (zbox 4) = true := by decide +kernel
theorem zq5 : zdrive 10000 200 (zbox 5) = true := by decide +kernel
end
section
theorem zq6 : zdrive 10000 200 (zbox 6) = true := by decide +kernel
theorem zq7 : zdrive 10000 200 (zbox 7) = true := by decide +kernel
theorem zq9 : zdrive 10000 200 (zbox 9) = true := by decide +kernel
theorem zq10 : zdrive 10000 200 (zbox 10) = true := by decide +kernel
theorem zq11 : zdrive 10000 200 (zbox 11) = true := by decide +kernel
end
section
theorem zq12 : zdrive 10000 200 (zbox 12) = true := by decide +kernel
theorem zq13_0 : zdrive 10000 200 [(-2147483648, 2147483647), (-2147483648, 2147483647), (-2147483648, -1), (-2147483648, 2147483647), (-2147483648, 2147483647), (-2147483648, 2147483647), (-2147483648, 2147483647), (13, 13)] = true := by decide +kernel
end
section
theorem zq13_1 : zdrive 10000 200 [(-2147483648, 2147483647), (-2147483648, 2147483647), (0, 0), (-2147483648, 2147483647), (-2147483648, 2147483647), (-2147483648, 2147483647), (-2147483648, 2147483647), (13, 13)] = true := by decide +kernel
end
section
theorem zq13_2 : zdrive 10000 200 [(-2147483648, 2147483647), (-2147483648, 2147483647), (1, 1), (-2147483648, 2147483647), (-2147483648, 2147483647), (-2147483648, 2147483647), (-2147483648, 2147483647), (13, 13)] = true := by decide +kernel
end
section
theorem zq13_3 : zdrive 10000 200 [(-2147483648, 2147483647), (-2147483648, 2147483647), (2, 2), (-2147483648, 2147483647), (-2147483648, 2147483647), (-2147483648, 2147483647), (-2147483648, 2147483647), (13, 13)] = true := by decide +kernel
end
section
theorem zq13_4 : zdrive 10000 200 [(-2147483648, 2147483647), (-2147483648, 2147483647), (3, 3), (-2147483648, 2147483647), (-2147483648, 2147483647), (-2147483648, 2147483647), (-2147483648, 2147483647), (13, 13)] = true := by decide +kernel
end
section
theorem zq13_5 : zdrive 10000 200 [(-2147483648, 2147483647), (-2147483648, 2147483647), (4, 4), (-2147483648, 2147483647), (-2147483648, 2147483647), (-2147483648, 2147483647), (-2147483648, 2147483647), (13, 13)] = true := by decide +kernel
end
section
theorem zq13_6 : zdrive 10000 200 [(-2147483648, 2147483647), (-2147483648, 2147483647), (5, 5), (-2147483648, 2147483647), (-2147483648, 2147483647), (-2147483648, 2147483647), (-2147483648, 2147483647), (13, 13)] = true := by decide +kernel
theorem zq13_7 : zdrive 10000 200 [(-2147483648, 2147483647), (-2147483648, 2147483647), (6, 2147483647), (-2147483648, 2147483647), (-2147483648, 2147483647), (-2147483648, 2147483647), (-2147483648, 2147483647), (13, 13)] = true := by decide +kernel
theorem zq14_0 : zdrive 10000 200 [(-2147483648, 2147483647), (-2147483648, -1), (-2147483648, 2147483647), (-2147483648, 2147483647), (-2147483648, 2147483647), (-2147483648, 2147483647), (-2147483648, 2147483647), (14, 14)] = true := by decide +kernel
theorem zq14_1 : zdrive 10000 200 [(-2147483648, 2147483647), (0, 0), (-2147483648, 2147483647), (-2147483648, 2147483647), (-2147483648, 2147483647), (-2147483648, 2147483647), (-2147483648, 2147483647), (14, 14)] = true := by decide +kernel
theorem zq14_2 : zdrive 10000 200 [(-2147483648, 2147483647), (1, 1), (-2147483648, 2147483647), (-2147483648, 2147483647), (-2147483648, 2147483647), (-2147483648, 2147483647), (-2147483648, 2147483647), (14, 14)] = true := by decide +kernel
end
section
theorem zq14_3 : zdrive 10000 200 [(-2147483648, 2147483647), (2, 2), (-2147483648, 2147483647), (-2147483648, 2147483647), (-2147483648, 2147483647), (-2147483648, 2147483647), (-2147483648, 2147483647), (14, 14)] = true := by decide +kernel
theorem zq14_4 : zdrive 10000 200 [(-2147483648, 2147483647), (3, 3), (-2147483648, 2147483647), (-2147483648, 2147483647), (-2147483648, 2147483647), (-2147483648, 2147483647), (-2147483648, 2147483647), (14, 14)] = true := by decide +kernel
theorem zq14_5 : zdrive 10000 200 [(-2147483648, 2147483647), (4, 4), (-2147483648, 2147483647), (-2147483648, 2147483647), (-2147483648, 2147483647), (-2147483648, 2147483647), (-2147483648, 2147483647), (14, 14)] = true := by decide +kernel
theorem zq14_6 : zdrive 10000 200 [(-2147483648, 2147483647), (5, 5), (-2147483648, 2147483647), (-2147483648, 2147483647), (-2147483648, 2147483647), (-2147483648, 2147483647), (-2147483648, 2147483647), (14, 14)] = true := by decide +kernel
theorem zq14_7 : zdrive 10000 200 [(-2147483648, 2147483647), (6, 2147483647), (-2147483648, 2147483647), (-2147483648, 2147483647), (-2147483648, 2147483647), (-2147483648, 2147483647), (-2147483648, 2147483647), (14, 14)] = true := by decide +kernel
theorem zq15_0 : zdrive 10000 200 [(-2147483648, 2147483647), (-2147483648, -1), (-2147483648, 2147483647), (-2147483648, 2147483647), (-2147483648, 2147483647), (-2147483648, 2147483647), (-2147483648, 2147483647), (15, 15)] = true := by decide +kernel
theorem zq15_1 : zdrive 10000 200 [(-2147483648, 2147483647), (0, 0), (-2147483648, 2147483647), (-2147483648, 2147483647), (-2147483648, 2147483647), (-2147483648, 2147483647), (-2147483648, 2147483647), (15, 15)] = true := by decide +kernel
end
section
theorem zq15_2 : zdrive 10000 200 [(-2147483648, 2147483647), (1, 1), (-2147483648, 2147483647), (-2147483648, 2147483647), (-2147483648, 2147483647), (-2147483648, 2147483647), (-2147483648, 2147483647), (15, 15)] = true := by decide +kernel
theorem zq15_3 : zdrive 10000 200 [(-2147483648, 2147483647), (2, 2), (-2147483648, 2147483647), (-2147483648, 2147483647), (-2147483648, 2147483647), (-2147483648, 2147483647), (-2147483648, 2147483647), (15, 15)] = true := by decide +kernel
theorem zq15_4 : zdrive 10000 200 [(-2147483648, 2147483647), (3, 3), (-2147483648, 2147483647), (-2147483648, 2147483647), (-2147483648, 2147483647), (-2147483648, 2147483647), (-2147483648, 2147483647), (15, 15)] = true := by decide +kernel
theorem zq15_5 : zdrive 10000 200 [(-2147483648, 2147483647), (4, 4), (-2147483648, 2147483647), (-2147483648, 2147483647), (-2147483648, 2147483647), (-2147483648, 2147483647), (-2147483648, 2147483647), (15, 15)] = true := by decide +kernel
theorem zq15_6 : zdrive 10000 200 [(-2147483648, 2147483647), (5, 5), (-2147483648, 2147483647), (-2147483648, 2147483647), (-2147483648, 2147483647), (-2147483648, 2147483647), (-2147483648, 2147483647), (15, 15)] = true := by decide +kernel
theorem zq15_7 : zdrive 10000 200 [(-2147483648, 2147483647), (6, 2147483647), (-2147483648, 2147483647), (-2147483648, 2147483647), (-2147483648, 2147483647), (-2147483648, 2147483647), (-2147483648, 2147483647), (15, 15)] = true := by decide +kernel
end
section
theorem zq16 : zdrive 10000 200 (zbox 16) = true := by decide +kernel
end
section
theorem zq17 : zdrive 10000 200 (zbox 17) = true := by decide +kernel
theorem zq18 : zdrive 10000 200 (zbox 18) = true := by decide +kernel
theorem zq19 : zdrive 10000 200 (zbox 19) = true := by decide +kernel
end
section
theorem zq20 : zdrive 10000 200 (zbox 20) = true := by decide +kernel
theorem zq21 : zdrive 10000 200 (zbox 21) = true := by decide +kernel
theorem zq22 : zdrive 10000 200 (zbox 22) = true := by decide +kernel
theorem zq23_0 : zdrive 10000 200 [(-2147483648, 2147483647), (-2147483648, -1), (-2147483648, 2147483647), (-2147483648, 2147483647), (-2147483648, 2147483647), (-2147483648, 2147483647), (-2147483648, 2147483647), (23, 23)] = true := by decide +kernel
end
section
theorem zq23_1 : zdrive 10000 200 [(-2147483648, 2147483647), (0, 0), (-2147483648, 2147483647), (-2147483648, 2147483647), (-2147483648, 2147483647), (-2147483648, 2147483647), (-2147483648, 2147483647), (23, 23)] = true := by decide +kernel
end
section
theorem zq23_2 : zdrive 10000 200 [(-2147483648, 2147483647), (1, 1), (-2147483648, 2147483647), (-2147483648, 2147483647), (-2147483648, 2147483647), (-2147483648, 2147483647), (-2147483648, 2147483647), (23, 23)] = true := by decide +kernel
end
section
theorem zq23_3 : zdrive 10000 200 [(-2147483648, 2147483647), (2, 2), (-2147483648, 2147483647), (-2147483648, 2147483647), (-2147483648, 2147483647), (-2147483648, 2147483647), (-2147483648, 2147483647), (23, 23)] = true := by decide +kernel
theorem zq23_4 : zdrive 10000 200 [(-2147483648, 2147483647), (3, 2147483647), (-2147483648, 2147483647), (-2147483648, 2147483647), (-2147483648, 2147483647), (-2147483648, 2147483647), (-2147483648, 2147483647), (23, 23)] = true := by decide +kernel
theorem zq24_0 : zdrive 10000 200 [(-2147483648, 2147483647), (-2147483648, -1), (-2147483648, 2147483647), (-2147483648, 2147483647), (-2147483648, 2147483647), (-2147483648, 2147483647), (-2147483648, 2147483647), (24, 24)] = true := by decide +kernel
end
section
theorem zq24_1 : zdrive 10000 200 [(-2147483648, 2147483647), (0, 0), (-2147483648, 2147483647), (-2147483648, 2147483647), (-2147483648, 2147483647), (-2147483648, 2147483647), (-2147483648, 2147483647), (24, 24)] = true := by decide +kernel
theorem zq24_2 : zdrive 10000 200 [(-2147483648, 2147483647), (1, 1), (-2147483648, 2147483647), (-2147483648, 2147483647), (-2147483648, 2147483647), (-2147483648, 2147483647), (-2147483648, 2147483647), (24, 24)] = true := by decide +kernel
end
section
theorem zq24_3 : zdrive 10000 200 [(-2147483648, 2147483647), (2, 2), (-2147483648, 2147483647), (-2147483648, 2147483647), (-2147483648, 2147483647), (-2147483648, 2147483647), (-2147483648, 2147483647), (24, 24)] = true := by decide +kernel
theorem zq24_4 : zdrive 10000 200 [(-2147483648, 2147483647), (3, 3), (-2147483648, 2147483647), (-2147483648, 2147483647), (-2147483648, 2147483647), (-2147483648, 2147483647), (-2147483648, 2147483647), (24, 24)] = true := by decide +kernel
end
section
theorem zq24_5 : zdrive 10000 200 [(-2147483648, 2147483647), (4, 4), (-2147483648, 2147483647), (-2147483648, 2147483647), (-2147483648, 2147483647), (-2147483648, 2147483647), (-2147483648, 2147483647), (24, 24)] = true := by decide +kernel
theorem zq24_6 : zdrive 10000 200 [(-2147483648, 2147483647), (5, 5), (-2147483648, 2147483647), (-2147483648, 2147483647), (-2147483648, 2147483647), (-2147483648, 2147483647), (-2147483648, 2147483647), (24, 24)] = true := by decide +kernel
theorem zq24_7 : zdrive 10000 200 [(-2147483648, 2147483647), (6, 2147483647), (-2147483648, 2147483647), (-2147483648, 2147483647), (-2147483648, 2147483647), (-2147483648, 2147483647), (-2147483648, 2147483647), (24, 24)] = true := by decide +kernel
end
section
theorem zq25 : zdrive 10000 200 (zbox 25) = true := by decide +kernel
end
section
theorem zq26 : zdrive 10000 200 (zbox 26) = true := by decide +kernel
end
section
theorem zq27 : zdrive 10000 200 (zbox 27) = true := by decide +kernel
theorem zq28 : zdrive 10000 200 (zbox 28) = true := by decide +kernel
theorem zq29 : zdrive 10000 200 (zbox 29) = true := by decide +kernel
theorem zq30 : zdrive 10000 200 (zbox 30) = true := by decide +kernel
theorem zq31 : zdrive 10000 200 (zbox 31) = true := by decide +kernel
end
section
theorem zo1 (hcl : zCl zzd) (htab : zTab zzm zzc) : zOK (zbox 1) := zOK_drive hcl htab 200 _ zq1
theorem zo2 (hcl : zCl zzd) (htab : zTab zzm zzc) : zOK (zbox 2) := zOK_drive hcl htab 200 _ zq2
theorem zo3 (hcl : zCl zzd) (htab : zTab zzm zzc) : zOK (zbox 3) := zOK_drive hcl htab 200 _ zq3
theorem zo4 (hcl : zCl zzd) (htab : zTab zzm zzc) : zOK (zbox 4) := zOK_drive hcl htab 200 _ zq4
theorem zo5 (hcl : zCl zzd) (htab : zTab zzm zzc) : zOK (zbox 5) := zOK_drive hcl htab 200 _ zq5
theorem zo6 (hcl : zCl zzd) (htab : zTab zzm zzc) : zOK (zbox 6) := zOK_drive hcl htab 200 _ zq6
theorem zo7 (hcl : zCl zzd) (htab : zTab zzm zzc) : zOK (zbox 7) := zOK_drive hcl htab 200 _ zq7
theorem zo9 (hcl : zCl zzd) (htab : zTab zzm zzc) : zOK (zbox 9) := zOK_drive hcl htab 200 _ zq9
theorem zo10 (hcl : zCl zzd) (htab : zTab zzm zzc) : zOK (zbox 10) := zOK_drive hcl htab 200 _ zq10
theorem zo11 (hcl : zCl zzd) (htab : zTab zzm zzc) : zOK (zbox 11) := zOK_drive hcl htab 200 _ zq11
theorem zo12 (hcl : zCl zzd) (htab : zTab zzm zzc) : zOK (zbox 12) := zOK_drive hcl htab 200 _ zq12
theorem zo13 (hcl : zCl zzd) (htab : zTab zzm zzc) : zOK (zbox 13) := (zOK_split 2 0 rfl rfl rfl (zOK_drive hcl htab 200 _ zq13_0) (zOK_split 2 1 rfl rfl rfl (zOK_drive hcl htab 200 _ zq13_1) (zOK_split 2 2 rfl rfl rfl (zOK_drive hcl htab 200 _ zq13_2) (zOK_split 2 3 rfl rfl rfl (zOK_drive hcl htab 200 _ zq13_3) (zOK_split 2 4 rfl rfl rfl (zOK_drive hcl htab 200 _ zq13_4) (zOK_split 2 5 rfl rfl rfl (zOK_drive hcl htab 200 _ zq13_5) (zOK_split 2 6 rfl rfl rfl (zOK_drive hcl htab 200 _ zq13_6) (zOK_drive hcl htab 200 _ zq13_7))))))))
theorem zo14 (hcl : zCl zzd) (htab : zTab zzm zzc) : zOK (zbox 14) := (zOK_split 1 0 rfl rfl rfl (zOK_drive hcl htab 200 _ zq14_0) (zOK_split 1 1 rfl rfl rfl (zOK_drive hcl htab 200 _ zq14_1) (zOK_split 1 2 rfl rfl rfl (zOK_drive hcl htab 200 _ zq14_2) (zOK_split 1 3 rfl rfl rfl (zOK_drive hcl htab 200 _ zq14_3) (zOK_split 1 4 rfl rfl rfl (zOK_drive hcl htab 200 _ zq14_4) (zOK_split 1 5 rfl rfl rfl (zOK_drive hcl htab 200 _ zq14_5) (zOK_split 1 6 rfl rfl rfl (zOK_drive hcl htab 200 _ zq14_6) (zOK_drive hcl htab 200 _ zq14_7))))))))
theorem zo15 (hcl : zCl zzd) (htab : zTab zzm zzc) : zOK (zbox 15) := (zOK_split 1 0 rfl rfl rfl (zOK_drive hcl htab 200 _ zq15_0) (zOK_split 1 1 rfl rfl rfl (zOK_drive hcl htab 200 _ zq15_1) (zOK_split 1 2 rfl rfl rfl (zOK_drive hcl htab 200 _ zq15_2) (zOK_split 1 3 rfl rfl rfl (zOK_drive hcl htab 200 _ zq15_3) (zOK_split 1 4 rfl rfl rfl (zOK_drive hcl htab 200 _ zq15_4) (zOK_split 1 5 rfl rfl rfl (zOK_drive hcl htab 200 _ zq15_5) (zOK_split 1 6 rfl rfl rfl (zOK_drive hcl htab 200 _ zq15_6) (zOK_drive hcl htab 200 _ zq15_7))))))))
theorem zo16 (hcl : zCl zzd) (htab : zTab zzm zzc) : zOK (zbox 16) := zOK_drive hcl htab 200 _ zq16
theorem zo17 (hcl : zCl zzd) (htab : zTab zzm zzc) : zOK (zbox 17) := zOK_drive hcl htab 200 _ zq17
theorem zo18 (hcl : zCl zzd) (htab : zTab zzm zzc) : zOK (zbox 18) := zOK_drive hcl htab 200 _ zq18
theorem zo19 (hcl : zCl zzd) (htab : zTab zzm zzc) : zOK (zbox 19) := zOK_drive hcl htab 200 _ zq19
theorem zo20 (hcl : zCl zzd) (htab : zTab zzm zzc) : zOK (zbox 20) := zOK_drive hcl htab 200 _ zq20
theorem zo21 (hcl : zCl zzd) (htab : zTab zzm zzc) : zOK (zbox 21) := zOK_drive hcl htab 200 _ zq21
theorem zo22 (hcl : zCl zzd) (htab : zTab zzm zzc) : zOK (zbox 22) := zOK_drive hcl htab 200 _ zq22
theorem zo23 (hcl : zCl zzd) (htab : zTab zzm zzc) : zOK (zbox 23) := (zOK_split 1 0 rfl rfl rfl (zOK_drive hcl htab 200 _ zq23_0) (zOK_split 1 1 rfl rfl rfl (zOK_drive hcl htab 200 _ zq23_1) (zOK_split 1 2 rfl rfl rfl (zOK_drive hcl htab 200 _ zq23_2) (zOK_split 1 3 rfl rfl rfl (zOK_drive hcl htab 200 _ zq23_3) (zOK_drive hcl htab 200 _ zq23_4)))))
theorem zo24 (hcl : zCl zzd) (htab : zTab zzm zzc) : zOK (zbox 24) := (zOK_split 1 0 rfl rfl rfl (zOK_drive hcl htab 200 _ zq24_0) (zOK_split 1 1 rfl rfl rfl (zOK_drive hcl htab 200 _ zq24_1) (zOK_split 1 2 rfl rfl rfl (zOK_drive hcl htab 200 _ zq24_2) (zOK_split 1 3 rfl rfl rfl (zOK_drive hcl htab 200 _ zq24_3) (zOK_split 1 4 rfl rfl rfl (zOK_drive hcl htab 200 _ zq24_4) (zOK_split 1 5 rfl rfl rfl (zOK_drive hcl htab 200 _ zq24_5) (zOK_split 1 6 rfl rfl rfl (zOK_drive hcl htab 200 _ zq24_6) (zOK_drive hcl htab 200 _ zq24_7))))))))
theorem zo25 (hcl : zCl zzd) (htab : zTab zzm zzc) : zOK (zbox 25) := zOK_drive hcl htab 200 _ zq25
theorem zo26 (hcl : zCl zzd) (htab : zTab zzm zzc) : zOK (zbox 26) := zOK_drive hcl htab 200 _ zq26
theorem zo27 (hcl : zCl zzd) (htab : zTab zzm zzc) : zOK (zbox 27) := zOK_drive hcl htab 200 _ zq27
theorem zo28 (hcl : zCl zzd) (htab : zTab zzm zzc) : zOK (zbox 28) := zOK_drive hcl htab 200 _ zq28
theorem zo29 (hcl : zCl zzd) (htab : zTab zzm zzc) : zOK (zbox 29) := zOK_drive hcl htab 200 _ zq29
theorem zo30 (hcl : zCl zzd) (htab : zTab zzm zzc) : zOK (zbox 30) := zOK_drive hcl htab 200 _ zq30
theorem zo31 (hcl : zCl zzd) (htab : zTab zzm zzc) : zOK (zbox 31) := zOK_drive hcl htab 200 _ zq31
end
section
theorem zk0_0 : ∀ q ∈ zt0_0, zok zzm (RL, yL_law, cL_law, 7, (some .boolean), 600000, 7300000) q = true := List.all_eq_true.mp (by decide +kernel)
theorem zk0_1 : ∀ q ∈ zt0_1, zok zzm (RL, yL_law, cL_law, 7, (some .boolean), 600000, 7300000) q = true := List.all_eq_true.mp (by decide +kernel)
theorem zk0_2 : ∀ q ∈ zt0_2, zok zzm (RL, yL_law, cL_law, 7, (some .boolean), 600000, 7300000) q = true := List.all_eq_true.mp (by decide +kernel)
theorem zk0_3 : ∀ q ∈ zt0_3, zok zzm (RL, yL_law, cL_law, 7, (some .boolean), 600000, 7300000) q = true := List.all_eq_true.mp (by decide +kernel)
theorem zk0_4 : ∀ q ∈ zt0_4, zok zzm (RL, yL_law, cL_law, 7, (some .boolean), 600000, 7300000) q = true := List.all_eq_true.mp (by decide +kernel)
end
section
theorem zk0_5 : ∀ q ∈ zt0_5, zok zzm (RL, yL_law, cL_law, 7, (some .boolean), 600000, 7300000) q = true := List.all_eq_true.mp (by decide +kernel)
theorem zk0_6 : ∀ q ∈ zt0_6, zok zzm (RL, yL_law, cL_law, 7, (some .boolean), 600000, 7300000) q = true := List.all_eq_true.mp (by decide +kernel)
theorem zk0_7 : ∀ q ∈ zt0_7, zok zzm (RL, yL_law, cL_law, 7, (some .boolean), 600000, 7300000) q = true := List.all_eq_true.mp (by decide +kernel)
theorem zk0_8 : ∀ q ∈ zt0_8, zok zzm (RL, yL_law, cL_law, 7, (some .boolean), 600000, 7300000) q = true := List.all_eq_true.mp (by decide +kernel)
theorem zk0_9 : ∀ q ∈ zt0_9, zok zzm (RL, yL_law, cL_law, 7, (some .boolean), 600000, 7300000) q = true := List.all_eq_true.mp (by decide +kernel)
end
section
theorem zk0_10 : ∀ q ∈ zt0_10, zok zzm (RL, yL_law, cL_law, 7, (some .boolean), 600000, 7300000) q = true := List.all_eq_true.mp (by decide +kernel)
theorem zk0_11 : ∀ q ∈ zt0_11, zok zzm (RL, yL_law, cL_law, 7, (some .boolean), 600000, 7300000) q = true := List.all_eq_true.mp (by decide +kernel)
theorem zk0_12 : ∀ q ∈ zt0_12, zok zzm (RL, yL_law, cL_law, 7, (some .boolean), 600000, 7300000) q = true := List.all_eq_true.mp (by decide +kernel)
theorem zk0_13 : ∀ q ∈ zt0_13, zok zzm (RL, yL_law, cL_law, 7, (some .boolean), 600000, 7300000) q = true := List.all_eq_true.mp (by decide +kernel)
theorem zk0_14 : ∀ q ∈ zt0_14, zok zzm (RL, yL_law, cL_law, 7, (some .boolean), 600000, 7300000) q = true := List.all_eq_true.mp (by decide +kernel)
end
section
theorem zk0_15 : ∀ q ∈ zt0_15, zok zzm (RL, yL_law, cL_law, 7, (some .boolean), 600000, 7300000) q = true := List.all_eq_true.mp (by decide +kernel)
theorem zk0_16 : ∀ q ∈ zt0_16, zok zzm (RL, yL_law, cL_law, 7, (some .boolean), 600000, 7300000) q = true := List.all_eq_true.mp (by decide +kernel)
theorem zk0_17 : ∀ q ∈ zt0_17, zok zzm (RL, yL_law, cL_law, 7, (some .boolean), 600000, 7300000) q = true := List.all_eq_true.mp (by decide +kernel)
theorem zk0_18 : ∀ q ∈ zt0_18, zok zzm (RL, yL_law, cL_law, 7, (some .boolean), 600000, 7300000) q = true := List.all_eq_true.mp (by decide +kernel)
theorem zk0_19 : ∀ q ∈ zt0_19, zok zzm (RL, yL_law, cL_law, 7, (some .boolean), 600000, 7300000) q = true := List.all_eq_true.mp (by decide +kernel)
theorem zk1_0 : ∀ q ∈ zt1_0, zok zzm (RX9, yX9_init, cX9_init, 2, none, 154, 10257) q = true := List.all_eq_true.mp (by decide +kernel)
theorem zk1_1 : ∀ q ∈ zt1_1, zok zzm (RX9, yX9_init, cX9_init, 2, none, 154, 10257) q = true := List.all_eq_true.mp (by decide +kernel)
theorem zk1_2 : ∀ q ∈ zt1_2, zok zzm (RX9, yX9_init, cX9_init, 2, none, 154, 10257) q = true := List.all_eq_true.mp (by decide +kernel)
theorem zk2_0 : ∀ q ∈ zt2_0, zok zzm (RX7, yX7_init, cX7_init, 1, none, 1, 1000) q = true := List.all_eq_true.mp (by decide +kernel)
theorem zk3_0 : ∀ q ∈ zt3_0, zok zzm (RX2, yX2_init, cX2_init, 1, none, 6, 104) q = true := List.all_eq_true.mp (by decide +kernel)
end
section
theorem zk4_0 : ∀ q ∈ zt4_0, zok zzm (RX8, yX8_init, cX8_init, 1, none, 5, 72) q = true := List.all_eq_true.mp (by decide +kernel)
theorem zk4_1 : ∀ q ∈ zt4_1, zok zzm (RX8, yX8_init, cX8_init, 1, none, 5, 72) q = true := List.all_eq_true.mp (by decide +kernel)
theorem zk5_0 : ∀ q ∈ zt5_0, zok zzm (RX6, yX6_init, cX6_init, 4, none, 9, 186) q = true := List.all_eq_true.mp (by decide +kernel)
theorem zk5_1 : ∀ q ∈ zt5_1, zok zzm (RX6, yX6_init, cX6_init, 4, none, 9, 186) q = true := List.all_eq_true.mp (by decide +kernel)
theorem zk6_0 : ∀ q ∈ zt6_0, zok zzm (RX3, yX3_init, cX3_init, 2, none, 5, 1048) q = true := List.all_eq_true.mp (by decide +kernel)
theorem zk7_0 : ∀ q ∈ zt7_0, zok zzm (RX4, yX4_init, cX4_init, 3, none, 7, 1119) q = true := List.all_eq_true.mp (by decide +kernel)
theorem zk7_1 : ∀ q ∈ zt7_1, zok zzm (RX4, yX4_init, cX4_init, 3, none, 7, 1119) q = true := List.all_eq_true.mp (by decide +kernel)
theorem zk8_0 : ∀ q ∈ zt8_0, zok zzm (RX5, yX5_init, cX5_init, 5, none, 9, 382) q = true := List.all_eq_true.mp (by decide +kernel)
theorem zk8_1 : ∀ q ∈ zt8_1, zok zzm (RX5, yX5_init, cX5_init, 5, none, 9, 382) q = true := List.all_eq_true.mp (by decide +kernel)
theorem zk9_0 : ∀ q ∈ zt9_0, zok zzm (RX1, yX1_init, cX1_init, 1, none, 5, 54) q = true := List.all_eq_true.mp (by decide +kernel)
theorem zk10_0 : ∀ q ∈ zt10_0, zok zzm (RX10, yX10_init, cX10_init, 2, none, 45, 68793) q = true := List.all_eq_true.mp (by decide +kernel)
theorem zk10_1 : ∀ q ∈ zt10_1, zok zzm (RX10, yX10_init, cX10_init, 2, none, 45, 68793) q = true := List.all_eq_true.mp (by decide +kernel)
theorem zk10_2 : ∀ q ∈ zt10_2, zok zzm (RX10, yX10_init, cX10_init, 2, none, 45, 68793) q = true := List.all_eq_true.mp (by decide +kernel)
theorem zk10_3 : ∀ q ∈ zt10_3, zok zzm (RX10, yX10_init, cX10_init, 2, none, 45, 68793) q = true := List.all_eq_true.mp (by decide +kernel)
theorem zk10_4 : ∀ q ∈ zt10_4, zok zzm (RX10, yX10_init, cX10_init, 2, none, 45, 68793) q = true := List.all_eq_true.mp (by decide +kernel)
theorem zk10_5 : ∀ q ∈ zt10_5, zok zzm (RX10, yX10_init, cX10_init, 2, none, 45, 68793) q = true := List.all_eq_true.mp (by decide +kernel)
theorem zk10_6 : ∀ q ∈ zt10_6, zok zzm (RX10, yX10_init, cX10_init, 2, none, 45, 68793) q = true := List.all_eq_true.mp (by decide +kernel)
theorem zk11_0 : ∀ q ∈ zt11_0, zok zzm (RX9, yX9_name, cX9_name, 5, (some .int), 0, 0) q = true := List.all_eq_true.mp (by decide +kernel)
theorem zk12_0 : ∀ q ∈ zt12_0, zok zzm (RX9, yX9_tellName, cX9_tellName, 4, (some .int), 0, 0) q = true := List.all_eq_true.mp (by decide +kernel)
theorem zk13_0 : ∀ q ∈ zt13_0, zok zzm (RX9, yX9_isBelow, cX9_isBelow, 2, (some .boolean), 0, 0) q = true := List.all_eq_true.mp (by decide +kernel)
theorem zk14_0 : ∀ q ∈ zt14_0, zok zzm (RX10, yX10_name, cX10_name, 5, (some .int), 0, 0) q = true := List.all_eq_true.mp (by decide +kernel)
theorem zk15_0 : ∀ q ∈ zt15_0, zok zzm (RX10, yX10_bares, cX10_bares, 1, none, 0, 0) q = true := List.all_eq_true.mp (by decide +kernel)
end
section
theorem zk16_0 : ∀ q ∈ zt16_0, zok zzm (RX10, yX10_within, cX10_within, 3, (some .boolean), 0, 0) q = true := List.all_eq_true.mp (by decide +kernel)
theorem zk17_0 : ∀ q ∈ zt17_0, zok zzm (RX7, yX7_trim, cX7_trim, 1, none, 0, 0) q = true := List.all_eq_true.mp (by decide +kernel)
theorem zk18_0 : ∀ q ∈ zt18_0, zok zzm (RX7, yX7_isText, cX7_isText, 3, (some .boolean), 0, 0) q = true := List.all_eq_true.mp (by decide +kernel)
theorem zk19_0 : ∀ q ∈ zt19_0, zok zzm (RX10, yX10_areLetters, cX10_areLetters, 4, (some .boolean), 0, 0) q = true := List.all_eq_true.mp (by decide +kernel)
theorem zk20_0 : ∀ q ∈ zt20_0, zok zzm (RX9, yX9_known, cX9_known, 3, (some .int), 0, 0) q = true := List.all_eq_true.mp (by decide +kernel)
theorem zk21_0 : ∀ q ∈ zt21_0, zok zzm (RX2, yX2_isTold, cX2_isTold, 2, (some .boolean), 0, 0) q = true := List.all_eq_true.mp (by decide +kernel)
theorem zk22_0 : ∀ q ∈ zt22_0, zok zzm (RX10, yX10_known, cX10_known, 3, (some .int), 0, 0) q = true := List.all_eq_true.mp (by decide +kernel)
theorem zk23_0 : ∀ q ∈ zt23_0, zok zzm (RX10, yX10_isName, cX10_isName, 2, (some .boolean), 0, 0) q = true := List.all_eq_true.mp (by decide +kernel)
theorem zk24_0 : ∀ q ∈ zt24_0, zok zzm (RX9, yX9_alike, cX9_alike, 3, (some .int), 0, 0) q = true := List.all_eq_true.mp (by decide +kernel)
theorem zk25_0 : ∀ q ∈ zt25_0, zok zzm (RX10, yX10_alike, cX10_alike, 3, (some .int), 0, 0) q = true := List.all_eq_true.mp (by decide +kernel)
theorem zk26_0 : ∀ q ∈ zt26_0, zok zzm (RX9, yX9_place, cX9_place, 7, (some .boolean), 0, 0) q = true := List.all_eq_true.mp (by decide +kernel)
theorem zk26_1 : ∀ q ∈ zt26_1, zok zzm (RX9, yX9_place, cX9_place, 7, (some .boolean), 0, 0) q = true := List.all_eq_true.mp (by decide +kernel)
theorem zk27_0 : ∀ q ∈ zt27_0, zok zzm (RX10, yX10_place, cX10_place, 6, (some .boolean), 0, 0) q = true := List.all_eq_true.mp (by decide +kernel)
theorem zk27_1 : ∀ q ∈ zt27_1, zok zzm (RX10, yX10_place, cX10_place, 6, (some .boolean), 0, 0) q = true := List.all_eq_true.mp (by decide +kernel)
theorem zk28_0 : ∀ q ∈ zt28_0, zok zzm (RX8, yX8_tell, cX8_tell, 5, none, 0, 0) q = true := List.all_eq_true.mp (by decide +kernel)
theorem zk29_0 : ∀ q ∈ zt29_0, zok zzm (RX9, yX9_forgetFindings, cX9_forgetFindings, 1, none, 0, 0) q = true := List.all_eq_true.mp (by decide +kernel)
theorem zk30_0 : ∀ q ∈ zt30_0, zok zzm (RX6, yX6_forget, cX6_forget, 1, none, 0, 0) q = true := List.all_eq_true.mp (by decide +kernel)
theorem zk31_0 : ∀ q ∈ zt31_0, zok zzm (RX5, yX5_forget, cX5_forget, 1, none, 0, 0) q = true := List.all_eq_true.mp (by decide +kernel)
theorem zk32_0 : ∀ q ∈ zt32_0, zok zzm (RX9, yX9_cut, cX9_cut, 8, (some .int), 0, 0) q = true := List.all_eq_true.mp (by decide +kernel)
theorem zk33_0 : ∀ q ∈ zt33_0, zok zzm (RX9, yX9_isPlace, cX9_isPlace, 2, (some .boolean), 0, 0) q = true := List.all_eq_true.mp (by decide +kernel)
theorem zk34_0 : ∀ q ∈ zt34_0, zok zzm (RX10, yX10_cut, cX10_cut, 7, (some .int), 0, 0) q = true := List.all_eq_true.mp (by decide +kernel)
theorem zk35_0 : ∀ q ∈ zt35_0, zok zzm (RX10, yX10_isPlace, cX10_isPlace, 2, (some .boolean), 0, 0) q = true := List.all_eq_true.mp (by decide +kernel)
theorem zk36_0 : ∀ q ∈ zt36_0, zok zzm (RX9, yX9_clean, cX9_clean, 2, (some .boolean), 0, 0) q = true := List.all_eq_true.mp (by decide +kernel)
theorem zk37_0 : ∀ q ∈ zt37_0, zok zzm (RX10, yX10_clean, cX10_clean, 2, (some .boolean), 0, 0) q = true := List.all_eq_true.mp (by decide +kernel)
theorem zk38_0 : ∀ q ∈ zt38_0, zok zzm (RX9, yX9_traces, cX9_traces, 4, (some .int), 0, 0) q = true := List.all_eq_true.mp (by decide +kernel)
theorem zk39_0 : ∀ q ∈ zt39_0, zok zzm (RX9, yX9_tellTraces, cX9_tellTraces, 3, (some .int), 0, 0) q = true := List.all_eq_true.mp (by decide +kernel)
theorem zk40_0 : ∀ q ∈ zt40_0, zok zzm (RX9, yX9_isNameCut, cX9_isNameCut, 3, (some .boolean), 0, 0) q = true := List.all_eq_true.mp (by decide +kernel)
theorem zk41_0 : ∀ q ∈ zt41_0, zok zzm (RX9, yX9_isCut, cX9_isCut, 3, (some .boolean), 0, 0) q = true := List.all_eq_true.mp (by decide +kernel)
theorem zk42_0 : ∀ q ∈ zt42_0, zok zzm (RX10, yX10_traces, cX10_traces, 5, (some .int), 0, 0) q = true := List.all_eq_true.mp (by decide +kernel)
theorem zk43_0 : ∀ q ∈ zt43_0, zok zzm (RX10, yX10_isNaming, cX10_isNaming, 3, (some .boolean), 0, 0) q = true := List.all_eq_true.mp (by decide +kernel)
theorem zk44_0 : ∀ q ∈ zt44_0, zok zzm (RX10, yX10_isCut, cX10_isCut, 3, (some .boolean), 0, 0) q = true := List.all_eq_true.mp (by decide +kernel)
theorem zk45_0 : ∀ q ∈ zt45_0, zok zzm (RX9, yX9_fits, cX9_fits, 3, (some .int), 0, 0) q = true := List.all_eq_true.mp (by decide +kernel)
theorem zk46_0 : ∀ q ∈ zt46_0, zok zzm (RX10, yX10_fits, cX10_fits, 5, (some .int), 0, 0) q = true := List.all_eq_true.mp (by decide +kernel)
theorem zk47_0 : ∀ q ∈ zt47_0, zok zzm (RX9, yX9_crowded, cX9_crowded, 4, (some .int), 0, 0) q = true := List.all_eq_true.mp (by decide +kernel)
theorem zk48_0 : ∀ q ∈ zt48_0, zok zzm (RX10, yX10_crowded, cX10_crowded, 3, (some .int), 0, 0) q = true := List.all_eq_true.mp (by decide +kernel)
theorem zk49_0 : ∀ q ∈ zt49_0, zok zzm (RX9, yX9_dated, cX9_dated, 3, (some .boolean), 0, 0) q = true := List.all_eq_true.mp (by decide +kernel)
theorem zk50_0 : ∀ q ∈ zt50_0, zok zzm (RX10, yX10_dated, cX10_dated, 3, (some .boolean), 0, 0) q = true := List.all_eq_true.mp (by decide +kernel)
theorem zk51_0 : ∀ q ∈ zt51_0, zok zzm (RX9, yX9_stories, cX9_stories, 2, (some .int), 0, 0) q = true := List.all_eq_true.mp (by decide +kernel)
theorem zk52_0 : ∀ q ∈ zt52_0, zok zzm (RX10, yX10_stories, cX10_stories, 6, (some .int), 0, 0) q = true := List.all_eq_true.mp (by decide +kernel)
theorem zk52_1 : ∀ q ∈ zt52_1, zok zzm (RX10, yX10_stories, cX10_stories, 6, (some .int), 0, 0) q = true := List.all_eq_true.mp (by decide +kernel)
theorem zk53_0 : ∀ q ∈ zt53_0, zok zzm (RX10, yX10_findStories, cX10_findStories, 1, none, 0, 0) q = true := List.all_eq_true.mp (by decide +kernel)
theorem zk54_0 : ∀ q ∈ zt54_0, zok zzm (RX10, yX10_beginsStories, cX10_beginsStories, 4, none, 0, 0) q = true := List.all_eq_true.mp (by decide +kernel)
theorem zk55_0 : ∀ q ∈ zt55_0, zok zzm (RX10, yX10_cutsOf, cX10_cutsOf, 2, (some .int), 0, 0) q = true := List.all_eq_true.mp (by decide +kernel)
theorem zk56_0 : ∀ q ∈ zt56_0, zok zzm (RX10, yX10_tells, cX10_tells, 5, none, 0, 0) q = true := List.all_eq_true.mp (by decide +kernel)
theorem zk56_1 : ∀ q ∈ zt56_1, zok zzm (RX10, yX10_tells, cX10_tells, 5, none, 0, 0) q = true := List.all_eq_true.mp (by decide +kernel)
theorem zk57_0 : ∀ q ∈ zt57_0, zok zzm (RX6, yX6_gatherAll, cX6_gatherAll, 1, none, 0, 0) q = true := List.all_eq_true.mp (by decide +kernel)
theorem zk58_0 : ∀ q ∈ zt58_0, zok zzm (RX6, yX6_findLeastReigns, cX6_findLeastReigns, 4, none, 0, 0) q = true := List.all_eq_true.mp (by decide +kernel)
theorem zk59_0 : ∀ q ∈ zt59_0, zok zzm (RX6, yX6_gather, cX6_gather, 4, none, 0, 0) q = true := List.all_eq_true.mp (by decide +kernel)
theorem zk59_1 : ∀ q ∈ zt59_1, zok zzm (RX6, yX6_gather, cX6_gather, 4, none, 0, 0) q = true := List.all_eq_true.mp (by decide +kernel)
theorem zk60_0 : ∀ q ∈ zt60_0, zok zzm (RX6, yX6_weigh, cX6_weigh, 10, none, 0, 0) q = true := List.all_eq_true.mp (by decide +kernel)
theorem zk61_0 : ∀ q ∈ zt61_0, zok zzm (RX6, yX6_tally, cX6_tally, 2, none, 0, 0) q = true := List.all_eq_true.mp (by decide +kernel)
theorem zk62_0 : ∀ q ∈ zt62_0, zok zzm (RX6, yX6_isPossible, cX6_isPossible, 4, (some .boolean), 0, 0) q = true := List.all_eq_true.mp (by decide +kernel)
theorem zk63_0 : ∀ q ∈ zt63_0, zok zzm (RX6, yX6_pushBehind, cX6_pushBehind, 5, (some .boolean), 0, 0) q = true := List.all_eq_true.mp (by decide +kernel)
theorem zk64_0 : ∀ q ∈ zt64_0, zok zzm (RX6, yX6_countFrom, cX6_countFrom, 7, (some .int), 0, 0) q = true := List.all_eq_true.mp (by decide +kernel)
theorem zk65_0 : ∀ q ∈ zt65_0, zok zzm (RX6, yX6_isBusy, cX6_isBusy, 2, (some .boolean), 0, 0) q = true := List.all_eq_true.mp (by decide +kernel)
theorem zk66_0 : ∀ q ∈ zt66_0, zok zzm (RX6, yX6_sureHands, cX6_sureHands, 3, (some .int), 0, 0) q = true := List.all_eq_true.mp (by decide +kernel)
theorem zk67_0 : ∀ q ∈ zt67_0, zok zzm (RX10, yX10_countOf, cX10_countOf, 5, (some .int), 0, 0) q = true := List.all_eq_true.mp (by decide +kernel)
theorem zk68_0 : ∀ q ∈ zt68_0, zok zzm (RX10, yX10_reignIn, cX10_reignIn, 5, (some .int), 0, 0) q = true := List.all_eq_true.mp (by decide +kernel)
theorem zk69_0 : ∀ q ∈ zt69_0, zok zzm (RX9, yX9_story, cX9_story, 3, (some .int), 0, 0) q = true := List.all_eq_true.mp (by decide +kernel)
end
section
theorem zk70_0 : ∀ q ∈ zt70_0, zok zzm (RX9, yX9_isBusyHand, cX9_isBusyHand, 2, (some .boolean), 0, 0) q = true := List.all_eq_true.mp (by decide +kernel)
theorem zk71_0 : ∀ q ∈ zt71_0, zok zzm (RX10, yX10_story, cX10_story, 3, (some .int), 0, 0) q = true := List.all_eq_true.mp (by decide +kernel)
theorem zk72_0 : ∀ q ∈ zt72_0, zok zzm (RX10, yX10_isHand, cX10_isHand, 2, (some .boolean), 0, 0) q = true := List.all_eq_true.mp (by decide +kernel)
theorem zk73_0 : ∀ q ∈ zt73_0, zok zzm (RX9, yX9_odds, cX9_odds, 3, (some .int), 0, 0) q = true := List.all_eq_true.mp (by decide +kernel)
theorem zk74_0 : ∀ q ∈ zt74_0, zok zzm (RX10, yX10_odds, cX10_odds, 3, (some .int), 0, 0) q = true := List.all_eq_true.mp (by decide +kernel)
theorem zk75_0 : ∀ q ∈ zt75_0, zok zzm (RX9, yX9_between, cX9_between, 3, (some .int), 0, 0) q = true := List.all_eq_true.mp (by decide +kernel)
theorem zk76_0 : ∀ q ∈ zt76_0, zok zzm (RX10, yX10_between, cX10_between, 6, (some .int), 0, 0) q = true := List.all_eq_true.mp (by decide +kernel)
theorem zk77_0 : ∀ q ∈ zt77_0, zok zzm (RX9, yX9_stood, cX9_stood, 3, (some .int), 0, 0) q = true := List.all_eq_true.mp (by decide +kernel)
theorem zk78_0 : ∀ q ∈ zt78_0, zok zzm (RX10, yX10_stood, cX10_stood, 9, (some .int), 0, 0) q = true := List.all_eq_true.mp (by decide +kernel)
theorem zk79_0 : ∀ q ∈ zt79_0, zok zzm (RX9, yX9_next, cX9_next, 3, (some .int), 0, 0) q = true := List.all_eq_true.mp (by decide +kernel)
theorem zk80_0 : ∀ q ∈ zt80_0, zok zzm (RX10, yX10_next, cX10_next, 7, (some .int), 0, 0) q = true := List.all_eq_true.mp (by decide +kernel)
theorem zk80_1 : ∀ q ∈ zt80_1, zok zzm (RX10, yX10_next, cX10_next, 7, (some .int), 0, 0) q = true := List.all_eq_true.mp (by decide +kernel)
theorem zk81_0 : ∀ q ∈ zt81_0, zok zzm (RX6, yX6_handToDate, cX6_handToDate, 4, (some .int), 0, 0) q = true := List.all_eq_true.mp (by decide +kernel)
theorem zk82_0 : ∀ q ∈ zt82_0, zok zzm (RX9, yX9_doubt, cX9_doubt, 1, (some .int), 0, 0) q = true := List.all_eq_true.mp (by decide +kernel)
theorem zk83_0 : ∀ q ∈ zt83_0, zok zzm (RX6, yX6_doubtful, cX6_doubtful, 2, (some .int), 0, 0) q = true := List.all_eq_true.mp (by decide +kernel)
theorem zk84_0 : ∀ q ∈ zt84_0, zok zzm (RX10, yX10_doubt, cX10_doubt, 4, (some .int), 0, 0) q = true := List.all_eq_true.mp (by decide +kernel)
theorem zk85_0 : ∀ q ∈ zt85_0, zok zzm (RX9, yX9_order, cX9_order, 3, (some .int), 0, 0) q = true := List.all_eq_true.mp (by decide +kernel)
theorem zk86_0 : ∀ q ∈ zt86_0, zok zzm (RX10, yX10_order, cX10_order, 3, (some .int), 0, 0) q = true := List.all_eq_true.mp (by decide +kernel)
theorem zk86_1 : ∀ q ∈ zt86_1, zok zzm (RX10, yX10_order, cX10_order, 3, (some .int), 0, 0) q = true := List.all_eq_true.mp (by decide +kernel)
theorem zk87_0 : ∀ q ∈ zt87_0, zok zzm (RX4, yX4_read, cX4_read, 3, (some .int), 0, 0) q = true := List.all_eq_true.mp (by decide +kernel)
theorem zk88_0 : ∀ q ∈ zt88_0, zok zzm (RX3, yX3_clear, cX3_clear, 1, none, 0, 0) q = true := List.all_eq_true.mp (by decide +kernel)
theorem zk89_0 : ∀ q ∈ zt89_0, zok zzm (RX4, yX4_advance, cX4_advance, 1, none, 0, 0) q = true := List.all_eq_true.mp (by decide +kernel)
theorem zk90_0 : ∀ q ∈ zt90_0, zok zzm (RX3, yX3_copy, cX3_copy, 2, none, 0, 0) q = true := List.all_eq_true.mp (by decide +kernel)
theorem zk90_1 : ∀ q ∈ zt90_1, zok zzm (RX3, yX3_copy, cX3_copy, 2, none, 0, 0) q = true := List.all_eq_true.mp (by decide +kernel)
theorem zk91_0 : ∀ q ∈ zt91_0, zok zzm (RX10, yX10_cutAll, cX10_cutAll, 7, none, 0, 0) q = true := List.all_eq_true.mp (by decide +kernel)
theorem zk92_0 : ∀ q ∈ zt92_0, zok zzm (RX9, yX9_works, cX9_works, 4, (some .boolean), 0, 0) q = true := List.all_eq_true.mp (by decide +kernel)
theorem zk93_0 : ∀ q ∈ zt93_0, zok zzm (RX10, yX10_works, cX10_works, 4, (some .boolean), 0, 0) q = true := List.all_eq_true.mp (by decide +kernel)
theorem zk94_0 : ∀ q ∈ zt94_0, zok zzm (RX9, yX9_ran, cX9_ran, 3, (some .int), 0, 0) q = true := List.all_eq_true.mp (by decide +kernel)
theorem zk95_0 : ∀ q ∈ zt95_0, zok zzm (RX10, yX10_ran, cX10_ran, 3, (some .int), 0, 0) q = true := List.all_eq_true.mp (by decide +kernel)
theorem zk96_0 : ∀ q ∈ zt96_0, zok zzm (RX9, yX9_made, cX9_made, 5, (some .int), 0, 0) q = true := List.all_eq_true.mp (by decide +kernel)
theorem zk97_0 : ∀ q ∈ zt97_0, zok zzm (RX10, yX10_made, cX10_made, 5, (some .int), 0, 0) q = true := List.all_eq_true.mp (by decide +kernel)
theorem zk98_0 : ∀ q ∈ zt98_0, zok zzm (RX9, yX9_agrees, cX9_agrees, 2, (some .int), 0, 0) q = true := List.all_eq_true.mp (by decide +kernel)
theorem zk99_0 : ∀ q ∈ zt99_0, zok zzm (RX10, yX10_agrees, cX10_agrees, 5, (some .int), 0, 0) q = true := List.all_eq_true.mp (by decide +kernel)
theorem zk99_1 : ∀ q ∈ zt99_1, zok zzm (RX10, yX10_agrees, cX10_agrees, 5, (some .int), 0, 0) q = true := List.all_eq_true.mp (by decide +kernel)
theorem zk100_0 : ∀ q ∈ zt100_0, zok zzm (RX10, yX10_runs, cX10_runs, 4, none, 0, 0) q = true := List.all_eq_true.mp (by decide +kernel)
theorem zk101_0 : ∀ q ∈ zt101_0, zok zzm (RX10, yX10_does, cX10_does, 5, none, 0, 0) q = true := List.all_eq_true.mp (by decide +kernel)
theorem zk102_0 : ∀ q ∈ zt102_0, zok zzm (RX5, yX5_perform, cX5_perform, 3, none, 0, 0) q = true := List.all_eq_true.mp (by decide +kernel)
theorem zk102_1 : ∀ q ∈ zt102_1, zok zzm (RX5, yX5_perform, cX5_perform, 3, none, 0, 0) q = true := List.all_eq_true.mp (by decide +kernel)
theorem zk103_0 : ∀ q ∈ zt103_0, zok zzm (RX5, yX5_begin, cX5_begin, 3, none, 0, 0) q = true := List.all_eq_true.mp (by decide +kernel)
theorem zk104_0 : ∀ q ∈ zt104_0, zok zzm (RX5, yX5_obey, cX5_obey, 6, none, 0, 0) q = true := List.all_eq_true.mp (by decide +kernel)
theorem zk105_0 : ∀ q ∈ zt105_0, zok zzm (RX5, yX5_findMissed, cX5_findMissed, 5, (some .int), 0, 0) q = true := List.all_eq_true.mp (by decide +kernel)
theorem zk106_0 : ∀ q ∈ zt106_0, zok zzm (RX5, yX5_standingAt, cX5_standingAt, 2, (some .int), 0, 0) q = true := List.all_eq_true.mp (by decide +kernel)
theorem zk107_0 : ∀ q ∈ zt107_0, zok zzm (RX5, yX5_cutsTogether, cX5_cutsTogether, 3, (some .int), 0, 0) q = true := List.all_eq_true.mp (by decide +kernel)
theorem zk108_0 : ∀ q ∈ zt108_0, zok zzm (RX5, yX5_agreeing, cX5_agreeing, 3, (some .int), 0, 0) q = true := List.all_eq_true.mp (by decide +kernel)
theorem zk109_0 : ∀ q ∈ zt109_0, zok zzm (RX9, yX9_missed, cX9_missed, 2, (some .int), 0, 0) q = true := List.all_eq_true.mp (by decide +kernel)
theorem zk110_0 : ∀ q ∈ zt110_0, zok zzm (RX10, yX10_missed, cX10_missed, 6, (some .int), 0, 0) q = true := List.all_eq_true.mp (by decide +kernel)
theorem zk111_0 : ∀ q ∈ zt111_0, zok zzm (RX9, yX9_far, cX9_far, 4, (some .int), 0, 0) q = true := List.all_eq_true.mp (by decide +kernel)
theorem zk112_0 : ∀ q ∈ zt112_0, zok zzm (RX10, yX10_far, cX10_far, 11, (some .int), 0, 0) q = true := List.all_eq_true.mp (by decide +kernel)
theorem zk113_0 : ∀ q ∈ zt113_0, zok zzm (RX9, yX9_block, cX9_block, 7, (some .boolean), 0, 0) q = true := List.all_eq_true.mp (by decide +kernel)
theorem zk113_1 : ∀ q ∈ zt113_1, zok zzm (RX9, yX9_block, cX9_block, 7, (some .boolean), 0, 0) q = true := List.all_eq_true.mp (by decide +kernel)
end
section
theorem zk114_0 : ∀ q ∈ zt114_0, zok zzm (RX10, yX10_block, cX10_block, 8, (some .boolean), 0, 0) q = true := List.all_eq_true.mp (by decide +kernel)
theorem zk114_1 : ∀ q ∈ zt114_1, zok zzm (RX10, yX10_block, cX10_block, 8, (some .boolean), 0, 0) q = true := List.all_eq_true.mp (by decide +kernel)
theorem zk115_0 : ∀ q ∈ zt115_0, zok zzm (RX1, yX1_tell, cX1_tell, 5, none, 0, 0) q = true := List.all_eq_true.mp (by decide +kernel)
theorem zk116_0 : ∀ q ∈ zt116_0, zok zzm (RX9, yX9_ways, cX9_ways, 2, (some .int), 0, 0) q = true := List.all_eq_true.mp (by decide +kernel)
theorem zk117_0 : ∀ q ∈ zt117_0, zok zzm (RX10, yX10_ways, cX10_ways, 5, (some .int), 0, 0) q = true := List.all_eq_true.mp (by decide +kernel)
theorem zk118_0 : ∀ q ∈ zt118_0, zok zzm (RX1, yX1_layAll, cX1_layAll, 2, none, 0, 0) q = true := List.all_eq_true.mp (by decide +kernel)
theorem zk119_0 : ∀ q ∈ zt119_0, zok zzm (RX1, yX1_layFrom, cX1_layFrom, 6, (some .int), 0, 0) q = true := List.all_eq_true.mp (by decide +kernel)
theorem zk120_0 : ∀ q ∈ zt120_0, zok zzm (RX1, yX1_sureBlocks, cX1_sureBlocks, 3, (some .int), 0, 0) q = true := List.all_eq_true.mp (by decide +kernel)
theorem zk121_0 : ∀ q ∈ zt121_0, zok zzm (RX10, yX10_findWays, cX10_findWays, 2, none, 0, 0) q = true := List.all_eq_true.mp (by decide +kernel)
theorem zk122_0 : ∀ q ∈ zt122_0, zok zzm (RX10, yX10_fills, cX10_fills, 4, none, 0, 0) q = true := List.all_eq_true.mp (by decide +kernel)
theorem zk122_1 : ∀ q ∈ zt122_1, zok zzm (RX10, yX10_fills, cX10_fills, 4, none, 0, 0) q = true := List.all_eq_true.mp (by decide +kernel)
theorem zk123_0 : ∀ q ∈ zt123_0, zok zzm (RX9, yX9_back, cX9_back, 2, (some .int), 0, 0) q = true := List.all_eq_true.mp (by decide +kernel)
theorem zk124_0 : ∀ q ∈ zt124_0, zok zzm (RX10, yX10_back, cX10_back, 2, (some .int), 0, 0) q = true := List.all_eq_true.mp (by decide +kernel)
theorem zk125_0 : ∀ q ∈ zt125_0, zok zzm (RX9, yX9_count, cX9_count, 2, (some .int), 0, 0) q = true := List.all_eq_true.mp (by decide +kernel)
theorem zk126_0 : ∀ q ∈ zt126_0, zok zzm (RX10, yX10_count, cX10_count, 4, (some .int), 0, 0) q = true := List.all_eq_true.mp (by decide +kernel)
theorem zk126_1 : ∀ q ∈ zt126_1, zok zzm (RX10, yX10_count, cX10_count, 4, (some .int), 0, 0) q = true := List.all_eq_true.mp (by decide +kernel)
theorem zk126_2 : ∀ q ∈ zt126_2, zok zzm (RX10, yX10_count, cX10_count, 4, (some .int), 0, 0) q = true := List.all_eq_true.mp (by decide +kernel)
theorem zk127_0 : ∀ q ∈ zt127_0, zok zzm (RX1, yX1_toldNumber, cX1_toldNumber, 5, (some .int), 0, 0) q = true := List.all_eq_true.mp (by decide +kernel)
theorem zk128_0 : ∀ q ∈ zt128_0, zok zzm (RX9, yX9_linesTold, cX9_linesTold, 3, (some .int), 0, 0) q = true := List.all_eq_true.mp (by decide +kernel)
theorem zk129_0 : ∀ q ∈ zt129_0, zok zzm (RX9, yX9_cutsTold, cX9_cutsTold, 3, (some .int), 0, 0) q = true := List.all_eq_true.mp (by decide +kernel)
theorem zk130_0 : ∀ q ∈ zt130_0, zok zzm (RX9, yX9_placesTold, cX9_placesTold, 3, (some .int), 0, 0) q = true := List.all_eq_true.mp (by decide +kernel)
theorem zk131_0 : ∀ q ∈ zt131_0, zok zzm (RX2, yX2_toldNumber, cX2_toldNumber, 3, (some .int), 0, 0) q = true := List.all_eq_true.mp (by decide +kernel)
end
section
theorem zk0 : ∀ q ∈ zt0, zok zzm (RL, yL_law, cL_law, 7, (some .boolean), 600000, 7300000) q = true := fun q h => (fun h => (List.mem_append.mp h).elim (zk0_0 q) (fun h => (List.mem_append.mp h).elim (zk0_1 q) (fun h => (List.mem_append.mp h).elim (zk0_2 q) (fun h => (List.mem_append.mp h).elim (zk0_3 q) (fun h => (List.mem_append.mp h).elim (zk0_4 q) (fun h => (List.mem_append.mp h).elim (zk0_5 q) (fun h => (List.mem_append.mp h).elim (zk0_6 q) (fun h => (List.mem_append.mp h).elim (zk0_7 q) (fun h => (List.mem_append.mp h).elim (zk0_8 q) (fun h => (List.mem_append.mp h).elim (zk0_9 q) (fun h => (List.mem_append.mp h).elim (zk0_10 q) (fun h => (List.mem_append.mp h).elim (zk0_11 q) (fun h => (List.mem_append.mp h).elim (zk0_12 q) (fun h => (List.mem_append.mp h).elim (zk0_13 q) (fun h => (List.mem_append.mp h).elim (zk0_14 q) (fun h => (List.mem_append.mp h).elim (zk0_15 q) (fun h => (List.mem_append.mp h).elim (zk0_16 q) (fun h => (List.mem_append.mp h).elim (zk0_17 q) (fun h => (List.mem_append.mp h).elim (zk0_18 q) (zk0_19 q)))))))))))))))))))) h
theorem zk1 : ∀ q ∈ zt1, zok zzm (RX9, yX9_init, cX9_init, 2, none, 154, 10257) q = true := fun q h => (fun h => (List.mem_append.mp h).elim (zk1_0 q) (fun h => (List.mem_append.mp h).elim (zk1_1 q) (zk1_2 q))) h
theorem zk2 : ∀ q ∈ zt2, zok zzm (RX7, yX7_init, cX7_init, 1, none, 1, 1000) q = true := zk2_0
theorem zk3 : ∀ q ∈ zt3, zok zzm (RX2, yX2_init, cX2_init, 1, none, 6, 104) q = true := zk3_0
theorem zk4 : ∀ q ∈ zt4, zok zzm (RX8, yX8_init, cX8_init, 1, none, 5, 72) q = true := fun q h => (fun h => (List.mem_append.mp h).elim (zk4_0 q) (zk4_1 q)) h
theorem zk5 : ∀ q ∈ zt5, zok zzm (RX6, yX6_init, cX6_init, 4, none, 9, 186) q = true := fun q h => (fun h => (List.mem_append.mp h).elim (zk5_0 q) (zk5_1 q)) h
theorem zk6 : ∀ q ∈ zt6, zok zzm (RX3, yX3_init, cX3_init, 2, none, 5, 1048) q = true := zk6_0
theorem zk7 : ∀ q ∈ zt7, zok zzm (RX4, yX4_init, cX4_init, 3, none, 7, 1119) q = true := fun q h => (fun h => (List.mem_append.mp h).elim (zk7_0 q) (zk7_1 q)) h
theorem zk8 : ∀ q ∈ zt8, zok zzm (RX5, yX5_init, cX5_init, 5, none, 9, 382) q = true := fun q h => (fun h => (List.mem_append.mp h).elim (zk8_0 q) (zk8_1 q)) h
theorem zk9 : ∀ q ∈ zt9, zok zzm (RX1, yX1_init, cX1_init, 1, none, 5, 54) q = true := zk9_0
theorem zk10 : ∀ q ∈ zt10, zok zzm (RX10, yX10_init, cX10_init, 2, none, 45, 68793) q = true := fun q h => (fun h => (List.mem_append.mp h).elim (zk10_0 q) (fun h => (List.mem_append.mp h).elim (zk10_1 q) (fun h => (List.mem_append.mp h).elim (zk10_2 q) (fun h => (List.mem_append.mp h).elim (zk10_3 q) (fun h => (List.mem_append.mp h).elim (zk10_4 q) (fun h => (List.mem_append.mp h).elim (zk10_5 q) (zk10_6 q))))))) h
theorem zk11 : ∀ q ∈ zt11, zok zzm (RX9, yX9_name, cX9_name, 5, (some .int), 0, 0) q = true := zk11_0
theorem zk12 : ∀ q ∈ zt12, zok zzm (RX9, yX9_tellName, cX9_tellName, 4, (some .int), 0, 0) q = true := zk12_0
theorem zk13 : ∀ q ∈ zt13, zok zzm (RX9, yX9_isBelow, cX9_isBelow, 2, (some .boolean), 0, 0) q = true := zk13_0
theorem zk14 : ∀ q ∈ zt14, zok zzm (RX10, yX10_name, cX10_name, 5, (some .int), 0, 0) q = true := zk14_0
theorem zk15 : ∀ q ∈ zt15, zok zzm (RX10, yX10_bares, cX10_bares, 1, none, 0, 0) q = true := zk15_0
theorem zk16 : ∀ q ∈ zt16, zok zzm (RX10, yX10_within, cX10_within, 3, (some .boolean), 0, 0) q = true := zk16_0
theorem zk17 : ∀ q ∈ zt17, zok zzm (RX7, yX7_trim, cX7_trim, 1, none, 0, 0) q = true := zk17_0
theorem zk18 : ∀ q ∈ zt18, zok zzm (RX7, yX7_isText, cX7_isText, 3, (some .boolean), 0, 0) q = true := zk18_0
theorem zk19 : ∀ q ∈ zt19, zok zzm (RX10, yX10_areLetters, cX10_areLetters, 4, (some .boolean), 0, 0) q = true := zk19_0
theorem zk20 : ∀ q ∈ zt20, zok zzm (RX9, yX9_known, cX9_known, 3, (some .int), 0, 0) q = true := zk20_0
theorem zk21 : ∀ q ∈ zt21, zok zzm (RX2, yX2_isTold, cX2_isTold, 2, (some .boolean), 0, 0) q = true := zk21_0
theorem zk22 : ∀ q ∈ zt22, zok zzm (RX10, yX10_known, cX10_known, 3, (some .int), 0, 0) q = true := zk22_0
theorem zk23 : ∀ q ∈ zt23, zok zzm (RX10, yX10_isName, cX10_isName, 2, (some .boolean), 0, 0) q = true := zk23_0
theorem zk24 : ∀ q ∈ zt24, zok zzm (RX9, yX9_alike, cX9_alike, 3, (some .int), 0, 0) q = true := zk24_0
theorem zk25 : ∀ q ∈ zt25, zok zzm (RX10, yX10_alike, cX10_alike, 3, (some .int), 0, 0) q = true := zk25_0
theorem zk26 : ∀ q ∈ zt26, zok zzm (RX9, yX9_place, cX9_place, 7, (some .boolean), 0, 0) q = true := fun q h => (fun h => (List.mem_append.mp h).elim (zk26_0 q) (zk26_1 q)) h
theorem zk27 : ∀ q ∈ zt27, zok zzm (RX10, yX10_place, cX10_place, 6, (some .boolean), 0, 0) q = true := fun q h => (fun h => (List.mem_append.mp h).elim (zk27_0 q) (zk27_1 q)) h
theorem zk28 : ∀ q ∈ zt28, zok zzm (RX8, yX8_tell, cX8_tell, 5, none, 0, 0) q = true := zk28_0
theorem zk29 : ∀ q ∈ zt29, zok zzm (RX9, yX9_forgetFindings, cX9_forgetFindings, 1, none, 0, 0) q = true := zk29_0
theorem zk30 : ∀ q ∈ zt30, zok zzm (RX6, yX6_forget, cX6_forget, 1, none, 0, 0) q = true := zk30_0
theorem zk31 : ∀ q ∈ zt31, zok zzm (RX5, yX5_forget, cX5_forget, 1, none, 0, 0) q = true := zk31_0
theorem zk32 : ∀ q ∈ zt32, zok zzm (RX9, yX9_cut, cX9_cut, 8, (some .int), 0, 0) q = true := zk32_0
theorem zk33 : ∀ q ∈ zt33, zok zzm (RX9, yX9_isPlace, cX9_isPlace, 2, (some .boolean), 0, 0) q = true := zk33_0
theorem zk34 : ∀ q ∈ zt34, zok zzm (RX10, yX10_cut, cX10_cut, 7, (some .int), 0, 0) q = true := zk34_0
theorem zk35 : ∀ q ∈ zt35, zok zzm (RX10, yX10_isPlace, cX10_isPlace, 2, (some .boolean), 0, 0) q = true := zk35_0
theorem zk36 : ∀ q ∈ zt36, zok zzm (RX9, yX9_clean, cX9_clean, 2, (some .boolean), 0, 0) q = true := zk36_0
theorem zk37 : ∀ q ∈ zt37, zok zzm (RX10, yX10_clean, cX10_clean, 2, (some .boolean), 0, 0) q = true := zk37_0
theorem zk38 : ∀ q ∈ zt38, zok zzm (RX9, yX9_traces, cX9_traces, 4, (some .int), 0, 0) q = true := zk38_0
theorem zk39 : ∀ q ∈ zt39, zok zzm (RX9, yX9_tellTraces, cX9_tellTraces, 3, (some .int), 0, 0) q = true := zk39_0
theorem zk40 : ∀ q ∈ zt40, zok zzm (RX9, yX9_isNameCut, cX9_isNameCut, 3, (some .boolean), 0, 0) q = true := zk40_0
theorem zk41 : ∀ q ∈ zt41, zok zzm (RX9, yX9_isCut, cX9_isCut, 3, (some .boolean), 0, 0) q = true := zk41_0
theorem zk42 : ∀ q ∈ zt42, zok zzm (RX10, yX10_traces, cX10_traces, 5, (some .int), 0, 0) q = true := zk42_0
theorem zk43 : ∀ q ∈ zt43, zok zzm (RX10, yX10_isNaming, cX10_isNaming, 3, (some .boolean), 0, 0) q = true := zk43_0
theorem zk44 : ∀ q ∈ zt44, zok zzm (RX10, yX10_isCut, cX10_isCut, 3, (some .boolean), 0, 0) q = true := zk44_0
theorem zk45 : ∀ q ∈ zt45, zok zzm (RX9, yX9_fits, cX9_fits, 3, (some .int), 0, 0) q = true := zk45_0
theorem zk46 : ∀ q ∈ zt46, zok zzm (RX10, yX10_fits, cX10_fits, 5, (some .int), 0, 0) q = true := zk46_0
theorem zk47 : ∀ q ∈ zt47, zok zzm (RX9, yX9_crowded, cX9_crowded, 4, (some .int), 0, 0) q = true := zk47_0
theorem zk48 : ∀ q ∈ zt48, zok zzm (RX10, yX10_crowded, cX10_crowded, 3, (some .int), 0, 0) q = true := zk48_0
theorem zk49 : ∀ q ∈ zt49, zok zzm (RX9, yX9_dated, cX9_dated, 3, (some .boolean), 0, 0) q = true := zk49_0
theorem zk50 : ∀ q ∈ zt50, zok zzm (RX10, yX10_dated, cX10_dated, 3, (some .boolean), 0, 0) q = true := zk50_0
theorem zk51 : ∀ q ∈ zt51, zok zzm (RX9, yX9_stories, cX9_stories, 2, (some .int), 0, 0) q = true := zk51_0
theorem zk52 : ∀ q ∈ zt52, zok zzm (RX10, yX10_stories, cX10_stories, 6, (some .int), 0, 0) q = true := fun q h => (fun h => (List.mem_append.mp h).elim (zk52_0 q) (zk52_1 q)) h
theorem zk53 : ∀ q ∈ zt53, zok zzm (RX10, yX10_findStories, cX10_findStories, 1, none, 0, 0) q = true := zk53_0
theorem zk54 : ∀ q ∈ zt54, zok zzm (RX10, yX10_beginsStories, cX10_beginsStories, 4, none, 0, 0) q = true := zk54_0
theorem zk55 : ∀ q ∈ zt55, zok zzm (RX10, yX10_cutsOf, cX10_cutsOf, 2, (some .int), 0, 0) q = true := zk55_0
theorem zk56 : ∀ q ∈ zt56, zok zzm (RX10, yX10_tells, cX10_tells, 5, none, 0, 0) q = true := fun q h => (fun h => (List.mem_append.mp h).elim (zk56_0 q) (zk56_1 q)) h
theorem zk57 : ∀ q ∈ zt57, zok zzm (RX6, yX6_gatherAll, cX6_gatherAll, 1, none, 0, 0) q = true := zk57_0
theorem zk58 : ∀ q ∈ zt58, zok zzm (RX6, yX6_findLeastReigns, cX6_findLeastReigns, 4, none, 0, 0) q = true := zk58_0
theorem zk59 : ∀ q ∈ zt59, zok zzm (RX6, yX6_gather, cX6_gather, 4, none, 0, 0) q = true := fun q h => (fun h => (List.mem_append.mp h).elim (zk59_0 q) (zk59_1 q)) h
theorem zk60 : ∀ q ∈ zt60, zok zzm (RX6, yX6_weigh, cX6_weigh, 10, none, 0, 0) q = true := zk60_0
theorem zk61 : ∀ q ∈ zt61, zok zzm (RX6, yX6_tally, cX6_tally, 2, none, 0, 0) q = true := zk61_0
theorem zk62 : ∀ q ∈ zt62, zok zzm (RX6, yX6_isPossible, cX6_isPossible, 4, (some .boolean), 0, 0) q = true := zk62_0
theorem zk63 : ∀ q ∈ zt63, zok zzm (RX6, yX6_pushBehind, cX6_pushBehind, 5, (some .boolean), 0, 0) q = true := zk63_0
theorem zk64 : ∀ q ∈ zt64, zok zzm (RX6, yX6_countFrom, cX6_countFrom, 7, (some .int), 0, 0) q = true := zk64_0
theorem zk65 : ∀ q ∈ zt65, zok zzm (RX6, yX6_isBusy, cX6_isBusy, 2, (some .boolean), 0, 0) q = true := zk65_0
theorem zk66 : ∀ q ∈ zt66, zok zzm (RX6, yX6_sureHands, cX6_sureHands, 3, (some .int), 0, 0) q = true := zk66_0
theorem zk67 : ∀ q ∈ zt67, zok zzm (RX10, yX10_countOf, cX10_countOf, 5, (some .int), 0, 0) q = true := zk67_0
theorem zk68 : ∀ q ∈ zt68, zok zzm (RX10, yX10_reignIn, cX10_reignIn, 5, (some .int), 0, 0) q = true := zk68_0
theorem zk69 : ∀ q ∈ zt69, zok zzm (RX9, yX9_story, cX9_story, 3, (some .int), 0, 0) q = true := zk69_0
theorem zk70 : ∀ q ∈ zt70, zok zzm (RX9, yX9_isBusyHand, cX9_isBusyHand, 2, (some .boolean), 0, 0) q = true := zk70_0
theorem zk71 : ∀ q ∈ zt71, zok zzm (RX10, yX10_story, cX10_story, 3, (some .int), 0, 0) q = true := zk71_0
theorem zk72 : ∀ q ∈ zt72, zok zzm (RX10, yX10_isHand, cX10_isHand, 2, (some .boolean), 0, 0) q = true := zk72_0
theorem zk73 : ∀ q ∈ zt73, zok zzm (RX9, yX9_odds, cX9_odds, 3, (some .int), 0, 0) q = true := zk73_0
theorem zk74 : ∀ q ∈ zt74, zok zzm (RX10, yX10_odds, cX10_odds, 3, (some .int), 0, 0) q = true := zk74_0
theorem zk75 : ∀ q ∈ zt75, zok zzm (RX9, yX9_between, cX9_between, 3, (some .int), 0, 0) q = true := zk75_0
theorem zk76 : ∀ q ∈ zt76, zok zzm (RX10, yX10_between, cX10_between, 6, (some .int), 0, 0) q = true := zk76_0
theorem zk77 : ∀ q ∈ zt77, zok zzm (RX9, yX9_stood, cX9_stood, 3, (some .int), 0, 0) q = true := zk77_0
theorem zk78 : ∀ q ∈ zt78, zok zzm (RX10, yX10_stood, cX10_stood, 9, (some .int), 0, 0) q = true := zk78_0
theorem zk79 : ∀ q ∈ zt79, zok zzm (RX9, yX9_next, cX9_next, 3, (some .int), 0, 0) q = true := zk79_0
theorem zk80 : ∀ q ∈ zt80, zok zzm (RX10, yX10_next, cX10_next, 7, (some .int), 0, 0) q = true := fun q h => (fun h => (List.mem_append.mp h).elim (zk80_0 q) (zk80_1 q)) h
theorem zk81 : ∀ q ∈ zt81, zok zzm (RX6, yX6_handToDate, cX6_handToDate, 4, (some .int), 0, 0) q = true := zk81_0
theorem zk82 : ∀ q ∈ zt82, zok zzm (RX9, yX9_doubt, cX9_doubt, 1, (some .int), 0, 0) q = true := zk82_0
theorem zk83 : ∀ q ∈ zt83, zok zzm (RX6, yX6_doubtful, cX6_doubtful, 2, (some .int), 0, 0) q = true := zk83_0
theorem zk84 : ∀ q ∈ zt84, zok zzm (RX10, yX10_doubt, cX10_doubt, 4, (some .int), 0, 0) q = true := zk84_0
theorem zk85 : ∀ q ∈ zt85, zok zzm (RX9, yX9_order, cX9_order, 3, (some .int), 0, 0) q = true := zk85_0
theorem zk86 : ∀ q ∈ zt86, zok zzm (RX10, yX10_order, cX10_order, 3, (some .int), 0, 0) q = true := fun q h => (fun h => (List.mem_append.mp h).elim (zk86_0 q) (zk86_1 q)) h
theorem zk87 : ∀ q ∈ zt87, zok zzm (RX4, yX4_read, cX4_read, 3, (some .int), 0, 0) q = true := zk87_0
theorem zk88 : ∀ q ∈ zt88, zok zzm (RX3, yX3_clear, cX3_clear, 1, none, 0, 0) q = true := zk88_0
theorem zk89 : ∀ q ∈ zt89, zok zzm (RX4, yX4_advance, cX4_advance, 1, none, 0, 0) q = true := zk89_0
theorem zk90 : ∀ q ∈ zt90, zok zzm (RX3, yX3_copy, cX3_copy, 2, none, 0, 0) q = true := fun q h => (fun h => (List.mem_append.mp h).elim (zk90_0 q) (zk90_1 q)) h
theorem zk91 : ∀ q ∈ zt91, zok zzm (RX10, yX10_cutAll, cX10_cutAll, 7, none, 0, 0) q = true := zk91_0
theorem zk92 : ∀ q ∈ zt92, zok zzm (RX9, yX9_works, cX9_works, 4, (some .boolean), 0, 0) q = true := zk92_0
theorem zk93 : ∀ q ∈ zt93, zok zzm (RX10, yX10_works, cX10_works, 4, (some .boolean), 0, 0) q = true := zk93_0
theorem zk94 : ∀ q ∈ zt94, zok zzm (RX9, yX9_ran, cX9_ran, 3, (some .int), 0, 0) q = true := zk94_0
theorem zk95 : ∀ q ∈ zt95, zok zzm (RX10, yX10_ran, cX10_ran, 3, (some .int), 0, 0) q = true := zk95_0
theorem zk96 : ∀ q ∈ zt96, zok zzm (RX9, yX9_made, cX9_made, 5, (some .int), 0, 0) q = true := zk96_0
theorem zk97 : ∀ q ∈ zt97, zok zzm (RX10, yX10_made, cX10_made, 5, (some .int), 0, 0) q = true := zk97_0
theorem zk98 : ∀ q ∈ zt98, zok zzm (RX9, yX9_agrees, cX9_agrees, 2, (some .int), 0, 0) q = true := zk98_0
theorem zk99 : ∀ q ∈ zt99, zok zzm (RX10, yX10_agrees, cX10_agrees, 5, (some .int), 0, 0) q = true := fun q h => (fun h => (List.mem_append.mp h).elim (zk99_0 q) (zk99_1 q)) h
theorem zk100 : ∀ q ∈ zt100, zok zzm (RX10, yX10_runs, cX10_runs, 4, none, 0, 0) q = true := zk100_0
theorem zk101 : ∀ q ∈ zt101, zok zzm (RX10, yX10_does, cX10_does, 5, none, 0, 0) q = true := zk101_0
theorem zk102 : ∀ q ∈ zt102, zok zzm (RX5, yX5_perform, cX5_perform, 3, none, 0, 0) q = true := fun q h => (fun h => (List.mem_append.mp h).elim (zk102_0 q) (zk102_1 q)) h
theorem zk103 : ∀ q ∈ zt103, zok zzm (RX5, yX5_begin, cX5_begin, 3, none, 0, 0) q = true := zk103_0
theorem zk104 : ∀ q ∈ zt104, zok zzm (RX5, yX5_obey, cX5_obey, 6, none, 0, 0) q = true := zk104_0
theorem zk105 : ∀ q ∈ zt105, zok zzm (RX5, yX5_findMissed, cX5_findMissed, 5, (some .int), 0, 0) q = true := zk105_0
theorem zk106 : ∀ q ∈ zt106, zok zzm (RX5, yX5_standingAt, cX5_standingAt, 2, (some .int), 0, 0) q = true := zk106_0
theorem zk107 : ∀ q ∈ zt107, zok zzm (RX5, yX5_cutsTogether, cX5_cutsTogether, 3, (some .int), 0, 0) q = true := zk107_0
theorem zk108 : ∀ q ∈ zt108, zok zzm (RX5, yX5_agreeing, cX5_agreeing, 3, (some .int), 0, 0) q = true := zk108_0
theorem zk109 : ∀ q ∈ zt109, zok zzm (RX9, yX9_missed, cX9_missed, 2, (some .int), 0, 0) q = true := zk109_0
theorem zk110 : ∀ q ∈ zt110, zok zzm (RX10, yX10_missed, cX10_missed, 6, (some .int), 0, 0) q = true := zk110_0
theorem zk111 : ∀ q ∈ zt111, zok zzm (RX9, yX9_far, cX9_far, 4, (some .int), 0, 0) q = true := zk111_0
theorem zk112 : ∀ q ∈ zt112, zok zzm (RX10, yX10_far, cX10_far, 11, (some .int), 0, 0) q = true := zk112_0
theorem zk113 : ∀ q ∈ zt113, zok zzm (RX9, yX9_block, cX9_block, 7, (some .boolean), 0, 0) q = true := fun q h => (fun h => (List.mem_append.mp h).elim (zk113_0 q) (zk113_1 q)) h
theorem zk114 : ∀ q ∈ zt114, zok zzm (RX10, yX10_block, cX10_block, 8, (some .boolean), 0, 0) q = true := fun q h => (fun h => (List.mem_append.mp h).elim (zk114_0 q) (zk114_1 q)) h
theorem zk115 : ∀ q ∈ zt115, zok zzm (RX1, yX1_tell, cX1_tell, 5, none, 0, 0) q = true := zk115_0
theorem zk116 : ∀ q ∈ zt116, zok zzm (RX9, yX9_ways, cX9_ways, 2, (some .int), 0, 0) q = true := zk116_0
theorem zk117 : ∀ q ∈ zt117, zok zzm (RX10, yX10_ways, cX10_ways, 5, (some .int), 0, 0) q = true := zk117_0
theorem zk118 : ∀ q ∈ zt118, zok zzm (RX1, yX1_layAll, cX1_layAll, 2, none, 0, 0) q = true := zk118_0
theorem zk119 : ∀ q ∈ zt119, zok zzm (RX1, yX1_layFrom, cX1_layFrom, 6, (some .int), 0, 0) q = true := zk119_0
theorem zk120 : ∀ q ∈ zt120, zok zzm (RX1, yX1_sureBlocks, cX1_sureBlocks, 3, (some .int), 0, 0) q = true := zk120_0
theorem zk121 : ∀ q ∈ zt121, zok zzm (RX10, yX10_findWays, cX10_findWays, 2, none, 0, 0) q = true := zk121_0
theorem zk122 : ∀ q ∈ zt122, zok zzm (RX10, yX10_fills, cX10_fills, 4, none, 0, 0) q = true := fun q h => (fun h => (List.mem_append.mp h).elim (zk122_0 q) (zk122_1 q)) h
theorem zk123 : ∀ q ∈ zt123, zok zzm (RX9, yX9_back, cX9_back, 2, (some .int), 0, 0) q = true := zk123_0
theorem zk124 : ∀ q ∈ zt124, zok zzm (RX10, yX10_back, cX10_back, 2, (some .int), 0, 0) q = true := zk124_0
theorem zk125 : ∀ q ∈ zt125, zok zzm (RX9, yX9_count, cX9_count, 2, (some .int), 0, 0) q = true := zk125_0
theorem zk126 : ∀ q ∈ zt126, zok zzm (RX10, yX10_count, cX10_count, 4, (some .int), 0, 0) q = true := fun q h => (fun h => (List.mem_append.mp h).elim (zk126_0 q) (fun h => (List.mem_append.mp h).elim (zk126_1 q) (zk126_2 q))) h
theorem zk127 : ∀ q ∈ zt127, zok zzm (RX1, yX1_toldNumber, cX1_toldNumber, 5, (some .int), 0, 0) q = true := zk127_0
theorem zk128 : ∀ q ∈ zt128, zok zzm (RX9, yX9_linesTold, cX9_linesTold, 3, (some .int), 0, 0) q = true := zk128_0
theorem zk129 : ∀ q ∈ zt129, zok zzm (RX9, yX9_cutsTold, cX9_cutsTold, 3, (some .int), 0, 0) q = true := zk129_0
theorem zk130 : ∀ q ∈ zt130, zok zzm (RX9, yX9_placesTold, cX9_placesTold, 3, (some .int), 0, 0) q = true := zk130_0
theorem zk131 : ∀ q ∈ zt131, zok zzm (RX2, yX2_toldNumber, cX2_toldNumber, 3, (some .int), 0, 0) q = true := zk131_0
theorem zztab : zTab zzm zzc := by
  intro k me tb h1 h2
  match k, h1, h2 with
  | 0, h1, h2 => cases h1; cases h2; exact zk0
  | 1, h1, h2 => cases h1; cases h2; exact zk1
  | 2, h1, h2 => cases h1; cases h2; exact zk2
  | 3, h1, h2 => cases h1; cases h2; exact zk3
  | 4, h1, h2 => cases h1; cases h2; exact zk4
  | 5, h1, h2 => cases h1; cases h2; exact zk5
  | 6, h1, h2 => cases h1; cases h2; exact zk6
  | 7, h1, h2 => cases h1; cases h2; exact zk7
  | 8, h1, h2 => cases h1; cases h2; exact zk8
  | 9, h1, h2 => cases h1; cases h2; exact zk9
  | 10, h1, h2 => cases h1; cases h2; exact zk10
  | 11, h1, h2 => cases h1; cases h2; exact zk11
  | 12, h1, h2 => cases h1; cases h2; exact zk12
  | 13, h1, h2 => cases h1; cases h2; exact zk13
  | 14, h1, h2 => cases h1; cases h2; exact zk14
  | 15, h1, h2 => cases h1; cases h2; exact zk15
  | 16, h1, h2 => cases h1; cases h2; exact zk16
  | 17, h1, h2 => cases h1; cases h2; exact zk17
  | 18, h1, h2 => cases h1; cases h2; exact zk18
  | 19, h1, h2 => cases h1; cases h2; exact zk19
  | 20, h1, h2 => cases h1; cases h2; exact zk20
  | 21, h1, h2 => cases h1; cases h2; exact zk21
  | 22, h1, h2 => cases h1; cases h2; exact zk22
  | 23, h1, h2 => cases h1; cases h2; exact zk23
  | 24, h1, h2 => cases h1; cases h2; exact zk24
  | 25, h1, h2 => cases h1; cases h2; exact zk25
  | 26, h1, h2 => cases h1; cases h2; exact zk26
  | 27, h1, h2 => cases h1; cases h2; exact zk27
  | 28, h1, h2 => cases h1; cases h2; exact zk28
  | 29, h1, h2 => cases h1; cases h2; exact zk29
  | 30, h1, h2 => cases h1; cases h2; exact zk30
  | 31, h1, h2 => cases h1; cases h2; exact zk31
  | 32, h1, h2 => cases h1; cases h2; exact zk32
  | 33, h1, h2 => cases h1; cases h2; exact zk33
  | 34, h1, h2 => cases h1; cases h2; exact zk34
  | 35, h1, h2 => cases h1; cases h2; exact zk35
  | 36, h1, h2 => cases h1; cases h2; exact zk36
  | 37, h1, h2 => cases h1; cases h2; exact zk37
  | 38, h1, h2 => cases h1; cases h2; exact zk38
  | 39, h1, h2 => cases h1; cases h2; exact zk39
  | 40, h1, h2 => cases h1; cases h2; exact zk40
  | 41, h1, h2 => cases h1; cases h2; exact zk41
  | 42, h1, h2 => cases h1; cases h2; exact zk42
  | 43, h1, h2 => cases h1; cases h2; exact zk43
  | 44, h1, h2 => cases h1; cases h2; exact zk44
  | 45, h1, h2 => cases h1; cases h2; exact zk45
  | 46, h1, h2 => cases h1; cases h2; exact zk46
  | 47, h1, h2 => cases h1; cases h2; exact zk47
  | 48, h1, h2 => cases h1; cases h2; exact zk48
  | 49, h1, h2 => cases h1; cases h2; exact zk49
  | 50, h1, h2 => cases h1; cases h2; exact zk50
  | 51, h1, h2 => cases h1; cases h2; exact zk51
  | 52, h1, h2 => cases h1; cases h2; exact zk52
  | 53, h1, h2 => cases h1; cases h2; exact zk53
  | 54, h1, h2 => cases h1; cases h2; exact zk54
  | 55, h1, h2 => cases h1; cases h2; exact zk55
  | 56, h1, h2 => cases h1; cases h2; exact zk56
  | 57, h1, h2 => cases h1; cases h2; exact zk57
  | 58, h1, h2 => cases h1; cases h2; exact zk58
  | 59, h1, h2 => cases h1; cases h2; exact zk59
  | 60, h1, h2 => cases h1; cases h2; exact zk60
  | 61, h1, h2 => cases h1; cases h2; exact zk61
  | 62, h1, h2 => cases h1; cases h2; exact zk62
  | 63, h1, h2 => cases h1; cases h2; exact zk63
  | 64, h1, h2 => cases h1; cases h2; exact zk64
  | 65, h1, h2 => cases h1; cases h2; exact zk65
  | 66, h1, h2 => cases h1; cases h2; exact zk66
  | 67, h1, h2 => cases h1; cases h2; exact zk67
  | 68, h1, h2 => cases h1; cases h2; exact zk68
  | 69, h1, h2 => cases h1; cases h2; exact zk69
  | 70, h1, h2 => cases h1; cases h2; exact zk70
  | 71, h1, h2 => cases h1; cases h2; exact zk71
  | 72, h1, h2 => cases h1; cases h2; exact zk72
  | 73, h1, h2 => cases h1; cases h2; exact zk73
  | 74, h1, h2 => cases h1; cases h2; exact zk74
  | 75, h1, h2 => cases h1; cases h2; exact zk75
  | 76, h1, h2 => cases h1; cases h2; exact zk76
  | 77, h1, h2 => cases h1; cases h2; exact zk77
  | 78, h1, h2 => cases h1; cases h2; exact zk78
  | 79, h1, h2 => cases h1; cases h2; exact zk79
  | 80, h1, h2 => cases h1; cases h2; exact zk80
  | 81, h1, h2 => cases h1; cases h2; exact zk81
  | 82, h1, h2 => cases h1; cases h2; exact zk82
  | 83, h1, h2 => cases h1; cases h2; exact zk83
  | 84, h1, h2 => cases h1; cases h2; exact zk84
  | 85, h1, h2 => cases h1; cases h2; exact zk85
  | 86, h1, h2 => cases h1; cases h2; exact zk86
  | 87, h1, h2 => cases h1; cases h2; exact zk87
  | 88, h1, h2 => cases h1; cases h2; exact zk88
  | 89, h1, h2 => cases h1; cases h2; exact zk89
  | 90, h1, h2 => cases h1; cases h2; exact zk90
  | 91, h1, h2 => cases h1; cases h2; exact zk91
  | 92, h1, h2 => cases h1; cases h2; exact zk92
  | 93, h1, h2 => cases h1; cases h2; exact zk93
  | 94, h1, h2 => cases h1; cases h2; exact zk94
  | 95, h1, h2 => cases h1; cases h2; exact zk95
  | 96, h1, h2 => cases h1; cases h2; exact zk96
  | 97, h1, h2 => cases h1; cases h2; exact zk97
  | 98, h1, h2 => cases h1; cases h2; exact zk98
  | 99, h1, h2 => cases h1; cases h2; exact zk99
  | 100, h1, h2 => cases h1; cases h2; exact zk100
  | 101, h1, h2 => cases h1; cases h2; exact zk101
  | 102, h1, h2 => cases h1; cases h2; exact zk102
  | 103, h1, h2 => cases h1; cases h2; exact zk103
  | 104, h1, h2 => cases h1; cases h2; exact zk104
  | 105, h1, h2 => cases h1; cases h2; exact zk105
  | 106, h1, h2 => cases h1; cases h2; exact zk106
  | 107, h1, h2 => cases h1; cases h2; exact zk107
  | 108, h1, h2 => cases h1; cases h2; exact zk108
  | 109, h1, h2 => cases h1; cases h2; exact zk109
  | 110, h1, h2 => cases h1; cases h2; exact zk110
  | 111, h1, h2 => cases h1; cases h2; exact zk111
  | 112, h1, h2 => cases h1; cases h2; exact zk112
  | 113, h1, h2 => cases h1; cases h2; exact zk113
  | 114, h1, h2 => cases h1; cases h2; exact zk114
  | 115, h1, h2 => cases h1; cases h2; exact zk115
  | 116, h1, h2 => cases h1; cases h2; exact zk116
  | 117, h1, h2 => cases h1; cases h2; exact zk117
  | 118, h1, h2 => cases h1; cases h2; exact zk118
  | 119, h1, h2 => cases h1; cases h2; exact zk119
  | 120, h1, h2 => cases h1; cases h2; exact zk120
  | 121, h1, h2 => cases h1; cases h2; exact zk121
  | 122, h1, h2 => cases h1; cases h2; exact zk122
  | 123, h1, h2 => cases h1; cases h2; exact zk123
  | 124, h1, h2 => cases h1; cases h2; exact zk124
  | 125, h1, h2 => cases h1; cases h2; exact zk125
  | 126, h1, h2 => cases h1; cases h2; exact zk126
  | 127, h1, h2 => cases h1; cases h2; exact zk127
  | 128, h1, h2 => cases h1; cases h2; exact zk128
  | 129, h1, h2 => cases h1; cases h2; exact zk129
  | 130, h1, h2 => cases h1; cases h2; exact zk130
  | 131, h1, h2 => cases h1; cases h2; exact zk131
  | n + 132, h1, h2 => cases h1
end
section
/-! ===== BEGIN words of one list among another's, by their places ===== -/
theorem goodIn_r {big : List Cond} (ws : List Cond) (ps : List Nat) (hp : ws = ps.filterMap (fun i => big[i]?)) (h : ws.all goodWord = true) : GoodIn big ws := by
  intro w hw
  have h1 := List.all_eq_true.mp h w hw
  rw [hp] at hw
  obtain ⟨i, -, hi⟩ := List.mem_filterMap.mp hw
  have hm : w ∈ big := by first | exact List.mem_of_getElem? hi | exact List.getElem?_mem hi
  exact ⟨hm, good_of_word h1⟩
theorem goodIn_app {big a b : List Cond} (ha : GoodIn big a) (hb : GoodIn big b) : GoodIn big (a ++ b) := fun w h => (List.mem_append.mp h).elim (ha w) (hb w)
theorem goodIn_ca {big a b : List Cond} {c : Cond} (ha : GoodIn big (c :: a)) (hb : GoodIn big b) : GoodIn big (c :: (a ++ b)) := fun w h => (List.mem_cons.mp h).elim (fun e => ha w (List.mem_cons.mpr (Or.inl e))) (fun h => (List.mem_append.mp h).elim (fun h => ha w (List.mem_cons.mpr (Or.inr h))) (hb w))
theorem goodIn_sub {big ws : List Cond} (hm : ∀ w ∈ ws, w ∈ big) (h : ws.all goodWord = true) : GoodIn big ws := fun w hw => ⟨hm w hw, good_of_word (List.all_eq_true.mp h w hw)⟩
/-! ===== END ===== -/

/-! ===== BEGIN exceptions that leave a method, and their catching by the caller (launches without stack traces) ===== -/
section VXA
/-! The laws vx_back, vx_callV, vx_callS, vx_callSW, vx_throw0, vx_throwS follow proofs of the library, with one case more: JvmDerived/Free/Laws.lean (Back.of_free), Shelf42/LK1.lean (callV, callS), Shelf/KitTraced.lean (throwNew0V, throwNewS). -/
/-- where a method has thrown q: the class by its name, the cell, what was written, the world -/
def vx_T (XC : String → State → State → Prop) (st : State) (q : Addr) (t : State) (mc ms : Nat) (free : Addr → Prop) : Prop :=
  ∃ (E : String) (ce : Cell) (L : List Loc), XC E st t ∧ t.heap[q]? = some ce ∧ ce.vm = .none ∧ st.vm.findClass E = some ce.cls ∧ st.WarmedH t.vm ∧ st.sameButNew ({ t with vm := st.vm } : State) L mc ms ∧ ∀ z ∈ L, free z.base
def vx_Q (Qc : Array Value → State → Outcome → State → Prop) (XC : String → State → State → Prop) (mc ms : Nat) (free : Addr → Prop) : Array Value → State → Outcome → State → Prop := fun a st o t =>
  (Qc a st o t ∧ ∃ L, FrameEnd st o t L mc ms ∧ ∀ q ∈ L, free q.base) ∨ ∃ q, o = .threw q ∧ vx_T XC st q t mc ms free
/-- a callee that returns or throws -/
def vx_Met (l : Launch) (y : MethodName) (ws : List Cond) (rm : Room) (Pc : Array Value → State → Prop) (Qc : Array Value → State → Outcome → State → Prop) (XC : String → State → State → Prop) (mc ms : Nat) (free : Addr → Prop) : Prop :=
  MetFree l y (headSpec ws rm) Pc (fun _ _ _ _ _ => True) (vx_Q Qc XC mc ms free)
def vx_Post (XC : String → State → State → Prop) (mc ms : Nat) (free : Addr → Prop) : Pt → Array Value → Addr → Pt → Prop := fun A a q B =>
  ∃ (g : JFrame) (mk : MethodId) (t : State) (L : List Loc) (E : String) (ce : Cell), B.U.heap = t.heap ∧ B.U.vm = t.vm ∧ XC E (A.U.calling g mk a) t ∧ t.heap[q]? = some ce ∧ ce.vm = .none ∧ A.U.vm.findClass E = some ce.cls ∧ B.locs = A.locs ++ L ∧ (∀ z ∈ L, free z.base) ∧ B.cells = A.cells + mc ∧ B.slots = A.slots + ms
def vx_Back (l : Launch) (R : Room) (p : Program) (e : Env) (below : List Frame) (s : State) (sargs : Array Value) (y : MethodName) (len W9 : Nat)
    (Pre : Pt → Array Value → Prop) (Post : Pt → Array Value → Option Value → Pt → Prop) (PostX : Pt → Array Value → Addr → Pt → Prop) : Prop :=
  ∀ (m : MethodId) (meth : Method) (c : Code) (A : Pt) (g : JFrame) (ig : Instr) (mk : MethodId) (a : Array Value),
    Stand p l e R s m sargs below meth c A.U A.locs A.cells A.slots → g.method = m → g.locals.size = c.maxLocals → decode c.code g.pc = .ok (ig, len) →
    2 * g.monitorRoom + (g.stack.map fun v => v.category).sum ≤ W9 → A.U.methodNamed? y = some mk → Pre A a →
    (∃ (v : Option Value) (B : Pt), Stand p l e R s m sargs below meth c B.U B.locs B.cells B.slots ∧ Post A a v B ∧
      Steps p.tables e below (doInvoke e (A.U.setTop g) [] mk a).1 (B.U.setTop { g with pc := g.pc + len, stack := v.toList ++ g.stack })) ∨
    (∃ (q : Addr) (B : Pt), Stand p l e R s m sargs below meth c B.U B.locs B.cells B.slots ∧ PostX A a q B ∧
      Steps p.tables e below (doInvoke e (A.U.setTop g) [] mk a).1 ((B.U.setTop g).pushFrame (.throwing q)))
section Payer
variable {l : Launch} {R : Room} {p : Program} {e : Env} {below : List Frame} {s : State} {sargs : Array Value} {y : MethodName} {len W9 : Nat}
theorem vx_back {ws : List Cond} {rm : Room} {Pc : Array Value → State → Prop} {Qc : Array Value → State → Outcome → State → Prop} {XC : String → State → State → Prop} {mc ms : Nat} {free : Addr → Prop} {bytes : ByteArray} {maxL : Nat} {ret : Option FieldType}
    (hM : vx_Met l y ws rm Pc Qc XC mc ms free) (hblind : FrameBlind Pc) (hrc : rm.cells = mc) (hrs : rm.slots = ms)
    (hframes : rm.frames + 1 ≤ R.frames) (hlocals : W9 + (maxL + 11) + rm.locals ≤ R.locals)
    (hws : ∀ w ∈ ws, ∀ a' U, s.WarmedH U.vm → w.before a' U = true) (hcode : Cond.code y bytes maxL ret ∈ ws) (hinit : ∀ a' U, s.WarmedH U.vm → (Cond.initialized y.cls).before a' U = true) :
    vx_Back l R p e below s sargs y len W9 (PreOf R mc ms Pc) (PostOf Qc mc ms free) (vx_Post XC mc ms free) := by
  intro m meth c A g ig mk a X hg hsize hdg hW hn hp
  have h1 : (headSpec ws rm).pre.before a A.U = true := atoms_intro fun w hw => hws w hw _ _ X.warmed
  have h2 : (Cond.code y bytes maxL ret).before a A.U = true := hws _ hcode _ _ X.warmed
  have h3 : (Cond.initialized y.cls).before a A.U = true := hinit _ _ X.warmed
  have h4 : A.cells + (headSpec ws rm).room.cells ≤ R.cells := by rw [show (headSpec ws rm).room.cells = mc from hrc]; exact hp.1
  have h5 : A.slots + (headSpec ws rm).room.slots ≤ R.slots := by rw [show (headSpec ws rm).room.slots = ms from hrs]; exact hp.2.1
  have hPc : Pc a (A.U.calling g mk a) := hblind _ _ _ _ hp.2.2
  obtain ⟨U, Ls, c0, s0⟩ := A
  dsimp only [Pt.U, Pt.locs, Pt.cells, Pt.slots] at h1 h2 h3 h4 h5 X hn hPc ⊢
  obtain ⟨methY, cY, hmY, hcY, -, hlY, -, -, -, -⟩ := Cond.code_spec hn h2
  obtain ⟨kY, hkY, -⟩ := className_of_methodNamed hn
  have hinitY : kY.init = .initialized := Cond.initialized_spec (findClass_of_methodNamed hn) hkY h3
  have h : At U g.method c below := by rw [hg]; exact X.here
  have hlocals9 : W9 + (maxL + 11) + (headSpec ws rm).room.locals ≤ R.locals := hlocals
  have happ : (headSpec ws rm).appliesLoose y e.platform (U.calling g mk a) = true :=
    Spec.appliesLoose_calling (g := g) h hdg hn hkY hinitY
      (X.room_calling (g := g) (R' := (headSpec ws rm).room) hsize hmY hcY hframes (by rw [hlY]; omega) h4 h5) h1
  obtain ⟨mid, hmid⟩ := h.above
  have hfr : (U.setTop g).frames = (.java g :: mid) ++ below := by rw [State.frames_setTop' g h.top, hmid]; rfl
  obtain ⟨o, s₂, hsteps, -, hend, hq⟩ := Steps.callFree hM p X.admits X.cas X.clock (acts := []) hfr happ hPc trivial
  have hq' : vx_Q Qc XC mc ms free a (U.calling g mk a) o s₂ := hq
  rw [State.frames_setTop' g h.top] at hend
  obtain ⟨g₀, hg0⟩ := Option.isSome_iff_exists.mp h.top
  obtain ⟨r, hr⟩ := State.topJava?_eq_some.mp hg0
  have hr' : (({ U with heap := s₂.heap, slotsUsed := s₂.slotsUsed } : State).setVm s₂.vm).frames = .java g₀ :: r := hr
  rcases hq' with ⟨hqc, L, hfe, hL⟩ | ⟨q, rfl, E, ce, L, hx, hce, hcv, hcl, hW₂, hsm, hL⟩
  · obtain ⟨⟨v, rfl⟩, hW₂, e2, q2, q3, q4, q5, q6⟩ := id hfe
    have e3 : s₂ = ({ (U.calling g mk a).setFrames s₂.frames with heap := s₂.heap, slotsUsed := s₂.slotsUsed } : State).setVm s₂.vm := by
      have : s₂ = ({ s₂ with vm := (U.calling g mk a).vm } : State).setVm s₂.vm := rfl
      rw [e2] at this
      exact this
    obtain ⟨c₂, i₂, len₂, hc₂, hd₂, hf₂⟩ := hend
    have hW' : U.WarmedH s₂.vm := hW₂
    have hcc : c₂ = c := by
      have h1 : s₂.code? g.method = U.code? g.method := by
        rw [State.code?_eq, State.code?_eq, hW'.alike.method?]
      exact Option.some.inj (hc₂.symm.trans (h1.trans h.code))
    subst hcc
    have hlen : len₂ = len := by rw [hdg] at hd₂; cases hd₂; rfl
    subst hlen
    have hs₂ : s₂ = (({ U with heap := s₂.heap, slotsUsed := s₂.slotsUsed } : State).setVm s₂.vm).setTop { g with pc := g.pc + len₂, stack := v.toList ++ g.stack } := by
      refine e3.trans ?_
      rw [hf₂, State.calling_eq h.top, State.setFrames_setFrames, State.setTop_of_frames _ hr', hr]
      rfl
    have hsame : U.sameButNew ({ U with heap := s₂.heap, slotsUsed := s₂.slotsUsed } : State) L mc ms := by
      refine ⟨?_, q2, q3, q4, q5, q6⟩
      obtain ⟨t, ht, -⟩ := State.frames_cons hr
      show ({ U with heap := s₂.heap, slotsUsed := s₂.slotsUsed } : State) = { U.setFrames U.frames with heap := s₂.heap, slotsUsed := s₂.slotsUsed }
      rw [State.setFrames_self ht]
    subst hg
    refine Or.inl ⟨v, ⟨(({ U with heap := s₂.heap, slotsUsed := s₂.slotsUsed } : State).setVm s₂.vm), Ls ++ L, c0 + mc, s0 + ms⟩,
      ⟨X.admits, X.cas, X.clock, X.frames, X.room, X.hears, X.method, X.code, (X.here.setHeapUsed s₂.heap s₂.slotsUsed).setVm hW'.alike, X.tail, State.WarmedH.trans X.warmed hW', X.limits, X.bytes, X.same.trans (hsame.setVm s.vm)⟩,
      ⟨g, mk, s₂, L, rfl, rfl, hqc, rfl, hL, rfl, rfl⟩, ?_⟩
    show Steps p.tables e below _ ((({ U with heap := s₂.heap, slotsUsed := s₂.slotsUsed } : State).setVm s₂.vm).setTop { g with pc := g.pc + len₂, stack := v.toList ++ g.stack })
    rw [← hs₂]
    exact hsteps
  · obtain ⟨e2, q2, q3, q4, q5, q6⟩ := id hsm
    have e3 : s₂ = ({ (U.calling g mk a).setFrames s₂.frames with heap := s₂.heap, slotsUsed := s₂.slotsUsed } : State).setVm s₂.vm := by
      have : s₂ = ({ s₂ with vm := (U.calling g mk a).vm } : State).setVm s₂.vm := rfl
      rw [e2] at this
      exact this
    have hf₂ : s₂.frames = .throwing q :: .java g :: U.frames.tail := hend
    have hW' : U.WarmedH s₂.vm := hW₂
    have hs₂ : s₂ = ((({ U with heap := s₂.heap, slotsUsed := s₂.slotsUsed } : State).setVm s₂.vm).setTop g).pushFrame (.throwing q) := by
      refine e3.trans ?_
      rw [hf₂, State.calling_eq h.top, State.setFrames_setFrames, State.pushFrame, State.frames_setTop _ hr', State.setTop_of_frames _ hr', State.setFrames_setFrames, hr]
      rfl
    have hsame : U.sameButNew ({ U with heap := s₂.heap, slotsUsed := s₂.slotsUsed } : State) L mc ms := by
      refine ⟨?_, q2, q3, q4, q5, q6⟩
      obtain ⟨t, ht, -⟩ := State.frames_cons hr
      show ({ U with heap := s₂.heap, slotsUsed := s₂.slotsUsed } : State) = { U.setFrames U.frames with heap := s₂.heap, slotsUsed := s₂.slotsUsed }
      rw [State.setFrames_self ht]
    subst hg
    refine Or.inr ⟨q, ⟨(({ U with heap := s₂.heap, slotsUsed := s₂.slotsUsed } : State).setVm s₂.vm), Ls ++ L, c0 + mc, s0 + ms⟩,
      ⟨X.admits, X.cas, X.clock, X.frames, X.room, X.hears, X.method, X.code, (X.here.setHeapUsed s₂.heap s₂.slotsUsed).setVm hW'.alike, X.tail, State.WarmedH.trans X.warmed hW', X.limits, X.bytes, X.same.trans (hsame.setVm s.vm)⟩,
      ⟨g, mk, s₂, L, E, ce, rfl, rfl, hx, hce, hcv, hcl, rfl, hL, rfl, rfl⟩, ?_⟩
    show Steps p.tables e below _ (((({ U with heap := s₂.heap, slotsUsed := s₂.slotsUsed } : State).setVm s₂.vm).setTop g).pushFrame (.throwing q))
    rw [← hs₂]
    exact hsteps
end Payer
section Calls
variable {p : Program} {l : Launch} {e : Env} {R : Room} {s : State} {m : MethodId} {args : Array Value} {below : List Frame} {meth : Method} {c : Code} {T : State} {locs : List Loc} {cells slots : Nat}
theorem vx_callV (X : Stand p l e R s m args below meth c T locs cells slots) (hexec : p.tables.exec = Jvm.exec) {own C : String} {index : Nat} {y : MethodName} {bytes : ByteArray} {maxL : Nat} {ret : Option FieldType}
    (hown : s.vm.findClass own = some m.cls) (hlink : (Cond.methodLink own index y).before args s = true) (hinst : (Cond.instanceMethod y).before args s = true) (hsel : (Cond.selects C y y).before args s = true)
    (hcode : (Cond.code y bytes maxL ret).before args s = true) (hy : y.cls ≠ "java/lang/invoke/MethodHandle" ∧ y.cls ≠ "java/lang/invoke/VarHandle")
    {W9 : Nat} {Pre : Pt → Array Value → Prop} {Post : Pt → Array Value → Option Value → Pt → Prop} {PostX : Pt → Array Value → Addr → Pt → Prop} (hK : vx_Back l R p e below s args y 3 W9 Pre Post PostX)
    {b : Addr} {cellB : Cell} (hcell : T.heap[b]? = some cellB) (hobj : cellB.vm.isStatics = false) (hcls : s.vm.findClass C = some cellB.cls)
    {g : JFrame} (hg : g.method = m) (hsize : g.locals.size = c.maxLocals) {argsL rest : List Value} (hlen : ∀ sig, parseMethodDescriptor y.desc = some sig → argsL.length = sig.parameters.length)
    (hstack : g.stack = argsL.reverse ++ .ref b :: rest) (hW : 2 * g.monitorRoom + (rest.map fun v => v.category).sum ≤ W9) (hdg : decode c.code g.pc = .ok (.invokevirtual index, 3))
    (hpre : ∀ vm₁, s.WarmedH vm₁ → Pre ⟨T.setVm vm₁, locs, cells, slots⟩ (Value.ref b :: argsL).toArray) :
    (∃ (v : Option Value) (vm₁ : Vm) (B : Pt), s.WarmedH vm₁ ∧ Stand p l e R s m args below meth c B.U B.locs B.cells B.slots ∧ Post ⟨T.setVm vm₁, locs, cells, slots⟩ (Value.ref b :: argsL).toArray v B ∧
      ∀ target, Steps p.tables e below (B.U.setTop { g with pc := g.pc + 3, stack := v.toList ++ rest }) target → Steps p.tables e below (T.setTop g) target) ∨
    (∃ (q : Addr) (vm₁ : Vm) (B : Pt), s.WarmedH vm₁ ∧ Stand p l e R s m args below meth c B.U B.locs B.cells B.slots ∧ PostX ⟨T.setVm vm₁, locs, cells, slots⟩ (Value.ref b :: argsL).toArray q B ∧
      Steps p.tables e below (T.setTop g) ((B.U.setTop { g with stack := rest }).pushFrame (.throwing q))) := by
  obtain ⟨mk, methM, hnamed, hmethM, hstM, habM⟩ := Cond.instanceMethod_spec hinst
  obtain ⟨methM', cM, hmethM', -, -, -, -, -, -, hsigM⟩ := Cond.code_spec hnamed hcode
  cases hmethM.symm.trans hmethM'
  obtain ⟨c2, r2, m2, q1, q2, q3, q4, kP, hkP, hkPi⟩ := Cond.selects_spec hsel
  cases hcls.symm.trans q1
  cases (State.methodFound?_of_named hnamed hy).symm.trans q2
  cases hnamed.symm.trans q3
  have hselP : selectMethod e.platform s.vm cellB.cls mk = .method mk := by rw [Launch.admits_selectMethod X.admits]; exact q4
  obtain ⟨vm₁, X₁, hstep₁⟩ := X.invokevirtual hexec hown hlink hnamed hmethM hstM hkP hkPi hy (a := b) (cell := cellB) hcell
    (fun z h => by rw [h] at hobj; cases hobj) hselP hmethM habM hkP hkPi (g := g) hg (argsL := argsL) (rest := rest) (hlen _ hsigM) hstack hdg
  rcases hK m meth c ⟨T.setVm vm₁, locs, cells, slots⟩ { g with stack := rest } (.invokevirtual index) mk (Value.ref b :: argsL).toArray X₁ hg hsize hdg hW (X₁.named hnamed) (hpre vm₁ X₁.warmed) with ⟨v, B, X', hpost, hsteps⟩ | ⟨q, B, X', hpost, hsteps⟩
  · exact Or.inl ⟨v, vm₁, B, X₁.warmed, X', hpost, fun target h => hstep₁ _ fun acts => by rw [doInvoke_state]; exact hsteps.trans h⟩
  · exact Or.inr ⟨q, vm₁, B, X₁.warmed, X', hpost, hstep₁ _ fun acts => by rw [doInvoke_state]; exact hsteps⟩
theorem vx_callS (X : Stand p l e R s m args below meth c T locs cells slots) (hexec : p.tables.exec = Jvm.exec) {own : String} {index : Nat} {y : MethodName} {bytes : ByteArray} {maxL : Nat} {ret : Option FieldType}
    (hown : s.vm.findClass own = some m.cls) (hlink : (Cond.methodLink own index y).before args s = true) (hstat : (Cond.static y).before args s = true) (hinit : (Cond.initialized y.cls).before args s = true)
    (hcode : (Cond.code y bytes maxL ret).before args s = true) (hy : y.cls ≠ "java/lang/invoke/MethodHandle" ∧ y.cls ≠ "java/lang/invoke/VarHandle")
    {W9 : Nat} {Pre : Pt → Array Value → Prop} {Post : Pt → Array Value → Option Value → Pt → Prop} {PostX : Pt → Array Value → Addr → Pt → Prop} (hK : vx_Back l R p e below s args y 3 W9 Pre Post PostX)
    {g : JFrame} (hg : g.method = m) (hsize : g.locals.size = c.maxLocals) {argsL rest : List Value} (hlen : ∀ sig, parseMethodDescriptor y.desc = some sig → argsL.length = sig.parameters.length)
    (hstack : g.stack = argsL.reverse ++ rest) (hW : 2 * g.monitorRoom + (rest.map fun v => v.category).sum ≤ W9) (hdg : decode c.code g.pc = .ok (.invokestatic index, 3))
    (hpre : ∀ vm₁, s.WarmedH vm₁ → Pre ⟨T.setVm vm₁, locs, cells, slots⟩ argsL.toArray) :
    (∃ (v : Option Value) (vm₁ : Vm) (B : Pt), s.WarmedH vm₁ ∧ Stand p l e R s m args below meth c B.U B.locs B.cells B.slots ∧ Post ⟨T.setVm vm₁, locs, cells, slots⟩ argsL.toArray v B ∧
      ∀ target, Steps p.tables e below (B.U.setTop { g with pc := g.pc + 3, stack := v.toList ++ rest }) target → Steps p.tables e below (T.setTop g) target) ∨
    (∃ (q : Addr) (vm₁ : Vm) (B : Pt), s.WarmedH vm₁ ∧ Stand p l e R s m args below meth c B.U B.locs B.cells B.slots ∧ PostX ⟨T.setVm vm₁, locs, cells, slots⟩ argsL.toArray q B ∧
      Steps p.tables e below (T.setTop g) ((B.U.setTop { g with stack := rest }).pushFrame (.throwing q))) := by
  obtain ⟨mk, hnamed⟩ := Cond.code_named hcode
  obtain ⟨methM, cM, hmethM, -, -, -, -, -, -, hsigM⟩ := Cond.code_spec hnamed hcode
  have hstatic : methM.isStatic = true := Cond.static_spec hnamed hmethM hstat
  obtain ⟨kP, hkP, -⟩ := className_of_methodNamed hnamed
  have hinitP : kP.init = .initialized := Cond.initialized_spec (findClass_of_methodNamed hnamed) hkP hinit
  obtain ⟨vm₁, X₁, hstep₁⟩ := X.invokestatic hexec hown hlink hnamed hmethM hstatic hkP hinitP hy (g := g) hg (argsL := argsL) (rest := rest) (hlen _ hsigM) hstack hdg
  rcases hK m meth c ⟨T.setVm vm₁, locs, cells, slots⟩ { g with stack := rest } (.invokestatic index) mk argsL.toArray X₁ hg hsize hdg hW (X₁.named hnamed) (hpre vm₁ X₁.warmed) with ⟨v, B, X', hpost, hsteps⟩ | ⟨q, B, X', hpost, hsteps⟩
  · exact Or.inl ⟨v, vm₁, B, X₁.warmed, X', hpost, fun target h => hstep₁ _ fun acts => by rw [doInvoke_state]; exact hsteps.trans h⟩
  · exact Or.inr ⟨q, vm₁, B, X₁.warmed, X', hpost, hstep₁ _ fun acts => by rw [doInvoke_state]; exact hsteps⟩
end Calls
theorem vx_cls {s : State} {T : State} {vm₁ : Vm} {E : String} {k : ClassId} (hW : s.WarmedH vm₁) (h : (T.setVm vm₁).vm.findClass E = some k) : s.vm.findClass E = some k := by
  have h1 : vm₁.findClass E = some k := h
  rw [hW.alike.findClass] at h1
  exact h1
/-- the method's frame g, with q thrown over it -/
def vx_W (p : Program) (l : Launch) (e : Env) (R : Room) (s : State) (m : MethodId) (args : Array Value) (below : List Frame) (meth : Method) (c : Code) (H : Heap) (locs : List Loc) (cells slots : Nat) (Q : State → Prop) (g : JFrame) (q : Addr) : Prop :=
  ∀ T : State, T.heap = H → Stand p l e R s m args below meth c T locs cells slots → ∃ t, Steps p.tables e below ((T.setTop g).pushFrame (.throwing q)) t ∧ Q t
def vx_Run (p : Program) (l : Launch) (e : Env) (R : Room) (s : State) (m : MethodId) (args : Array Value) (below : List Frame) (meth : Method) (c : Code) (H : Heap) (locs : List Loc) (cells slots mc ms : Nat) (g : JFrame) (rest : List Value) (Qa : State → Outcome → State → Prop) (XC : String → State → State → Prop) (free : Addr → Prop) : Prop :=
  ∀ T : State, T.heap = H → Stand p l e R s m args below meth c T locs cells slots →
    (∃ (v : Option Value) (st₀ t T' : State) (L : List Loc), st₀.heap = H ∧ Stand p l e R s m args below meth c T' (locs ++ L) (cells + mc) (slots + ms) ∧ (∀ q ∈ L, free q.base) ∧ T'.heap = t.heap ∧ T'.vm = t.vm ∧ Qa st₀ (.returned v) t ∧
      Goes p e below T g T' { g with pc := g.pc + 3, stack := v.toList ++ rest }) ∨
    (∃ (q : Addr) (st₀ t T' : State) (L : List Loc) (E : String) (ce : Cell), st₀.heap = H ∧ Stand p l e R s m args below meth c T' (locs ++ L) (cells + mc) (slots + ms) ∧ (∀ z ∈ L, free z.base) ∧ T'.heap = t.heap ∧ T'.vm = t.vm ∧ XC E st₀ t ∧ t.heap[q]? = some ce ∧ ce.vm = .none ∧ s.vm.findClass E = some ce.cls ∧
      Steps p.tables e below (T.setTop g) ((T'.setTop { g with stack := rest }).pushFrame (.throwing q)))
def vx_X {S : Type} (px : S → Prop) (B : String → S → State → Prop) (A : Nat → Prop) : String → State → State → Prop := fun E st t => ∃ u : S, px u ∧ B E u t ∧ va_F A st t
section Runs
variable {p : Program} {l : Launch} {e : Env} {R : Room} {s : State} {m : MethodId} {args : Array Value} {below : List Frame} {meth : Method} {c : Code} {H : Heap} {locs : List Loc} {cells slots : Nat}
variable {y : MethodName} {bytes cc : ByteArray} {maxL nL mc ms n index : Nat} {ret : Option FieldType} {ws : List Cond} {rm : Room} {Pc : Array Value → State → Prop} {Qc : Array Value → State → Outcome → State → Prop} {XC : String → State → State → Prop} {free : Addr → Prop} {Ts : List Cond} {own C : String} {b : Addr} {As rest : List Value} {g : JFrame}
theorem vx_callBack (cb : CallB R s args own index y bytes maxL ret ws rm mc ms n) (hM : vx_Met l y ws rm Pc Qc XC mc ms free) (hbl : FrameBlind Pc) : vx_Back l R p e below s args y 3 8 (PreOf R mc ms Pc) (PostOf Qc mc ms free) (vx_Post XC mc ms free) := by
  obtain ⟨hrc, hrs, hfr, hlo, hws, hcw, -, hini, -⟩ := cb
  exact vx_back (bytes := bytes) (maxL := maxL) (ret := ret) hM hbl hrc hrs hfr hlo hws hcw (fun a' U hW => word_at hW (Or.inl (by first | rfl | simp [Cond.onTables, Cond.keeps, Cond.steady])) hini)
theorem vx_runV (S : CallFix p m c cc nL s args Ts own) (hM : vx_Met l y ws rm Pc Qc XC mc ms free) (cw : CallW R s args own C index y bytes maxL ret ws rm mc ms n) (hp : PreV s H C b Pc As)
    (hg : g.method = m) (hn : As.length = n) (hsize : g.locals.size = nL) (hstack : g.stack = As.reverse ++ .ref b :: rest) (hW : 2 * g.monitorRoom + (rest.map fun v => v.category).sum ≤ 8) (hdg : decode cc g.pc = .ok (.invokevirtual index, 3)) (hf : cells + mc ≤ R.cells ∧ slots + ms ≤ R.slots) :
    vx_Run p l e R s m args below meth c H locs cells slots mc ms g rest (Qc (Value.ref b :: As).toArray) XC free := by
  have hK : vx_Back l R p e below s args y 3 8 (PreOf R mc ms Pc) (PostOf Qc mc ms free) (vx_Post XC mc ms free) := vx_callBack cw.1 hM hp.1
  obtain ⟨⟨-, -, -, -, -, -, hcode, -, hy, hlen, hl⟩, hin, hse⟩ := cw
  obtain ⟨hx, hb, hml, ho, -⟩ := S
  obtain ⟨-, ⟨cellB, hcB, hoB, hclB⟩, hPc⟩ := hp
  intro T hT X
  rcases vx_callV X hx (C := C) (bytes := bytes) (maxL := maxL) (ret := ret) ho hl hin hse hcode hy hK (by rw [hT]; exact hcB) hoB hclB hg (hsize.trans hml.symm) (argsL := As) (rest := rest) (fun sig h => hn.trans (hlen sig h)) hstack hW (by rw [hb]; exact hdg)
    (fun vm₁ hW₁ => ⟨hf.1, hf.2, hPc (T.setVm vm₁) hT hW₁⟩) with ⟨v, vm₁, ⟨U', l2, c2, s2⟩, hW₁, X', ⟨g', mk, t, L, e1, e2, hq, h1, hL, h2, h3⟩, st⟩ | ⟨q, vm₁, ⟨U', l2, c2, s2⟩, hW₁, X', ⟨g', mk, t, L, E, ce, e1, e2, hq, hce, hcv, hcl, h1, hL, h2, h3⟩, st⟩
  · dsimp only [Pt.U, Pt.locs, Pt.cells, Pt.slots] at X' e1 e2 h1 h2 h3 st
    subst h1; subst h2; subst h3
    exact Or.inl ⟨v, (T.setVm vm₁).calling g' mk (Value.ref b :: As).toArray, t, U', L, hT, X', hL, e1, e2, hq, st⟩
  · dsimp only [Pt.U, Pt.locs, Pt.cells, Pt.slots] at X' e1 e2 h1 h2 h3 st hcl
    subst h1; subst h2; subst h3
    exact Or.inr ⟨q, (T.setVm vm₁).calling g' mk (Value.ref b :: As).toArray, t, U', L, E, ce, hT, X', hL, e1, e2, hq, hce, hcv, vx_cls hW₁ hcl, st⟩
theorem vx_runS (S : CallFix p m c cc nL s args Ts own) (hM : vx_Met l y ws rm Pc Qc XC mc ms free) (cw : CallB R s args own index y bytes maxL ret ws rm mc ms n ∧ (Cond.static y).before args s = true) (hp : PreS s H Pc As)
    (hg : g.method = m) (hn : As.length = n) (hsize : g.locals.size = nL) (hstack : g.stack = As.reverse ++ rest) (hW : 2 * g.monitorRoom + (rest.map fun v => v.category).sum ≤ 8) (hdg : decode cc g.pc = .ok (.invokestatic index, 3)) (hf : cells + mc ≤ R.cells ∧ slots + ms ≤ R.slots) :
    vx_Run p l e R s m args below meth c H locs cells slots mc ms g rest (Qc As.toArray) XC free := by
  have hK : vx_Back l R p e below s args y 3 8 (PreOf R mc ms Pc) (PostOf Qc mc ms free) (vx_Post XC mc ms free) := vx_callBack cw.1 hM hp.1
  obtain ⟨⟨-, -, -, -, -, -, hcode, hini, hy, hlen, hl⟩, hstt⟩ := cw
  obtain ⟨hx, hb, hml, ho, -⟩ := S
  intro T hT X
  rcases vx_callS X hx (bytes := bytes) (maxL := maxL) (ret := ret) ho hl hstt hini hcode hy hK hg (hsize.trans hml.symm) (argsL := As) (rest := rest) (fun sig h => hn.trans (hlen sig h)) hstack hW (by rw [hb]; exact hdg)
    (fun vm₁ hW₁ => ⟨hf.1, hf.2, hp.2 (T.setVm vm₁) hT hW₁⟩) with ⟨v, vm₁, ⟨U', l2, c2, s2⟩, hW₁, X', ⟨g', mk, t, L, e1, e2, hq, h1, hL, h2, h3⟩, st⟩ | ⟨q, vm₁, ⟨U', l2, c2, s2⟩, hW₁, X', ⟨g', mk, t, L, E, ce, e1, e2, hq, hce, hcv, hcl, h1, hL, h2, h3⟩, st⟩
  · dsimp only [Pt.U, Pt.locs, Pt.cells, Pt.slots] at X' e1 e2 h1 h2 h3 st
    subst h1; subst h2; subst h3
    exact Or.inl ⟨v, (T.setVm vm₁).calling g' mk As.toArray, t, U', L, hT, X', hL, e1, e2, hq, st⟩
  · dsimp only [Pt.U, Pt.locs, Pt.cells, Pt.slots] at X' e1 e2 h1 h2 h3 st hcl
    subst h1; subst h2; subst h3
    exact Or.inr ⟨q, (T.setVm vm₁).calling g' mk As.toArray, t, U', L, E, ce, hT, X', hL, e1, e2, hq, hce, hcv, vx_cls hW₁ hcl, st⟩
end Runs
section Rows
variable {p : Program} {l : Launch} {e : Env} {R : Room} {s : State} {m : MethodId} {args : Array Value} {below : List Frame} {meth : Method} {c : Code} {H : Heap} {locs : List Loc} {cells slots : Nat} {Q : State → Prop}
variable {mc ms : Nat} {free : Addr → Prop} {A0 A1 : Nat → Prop} {H0 : Heap} {a : Array Value} {pc : Nat} {ls : Array Slot} {st0 rest : List Value}
theorem vx_keep {st₀ t T' : State} {L : List Loc} (h0 : st₀.heap = H) (e1 : T'.heap = t.heap) (hS : va_S A0 H0 H locs) (hA : ∀ q, q < H.size → A1 q → A0 q) (hf : ∀ q, free q → A0 q) (hL : ∀ q ∈ L, free q.base) (hF : va_F A1 st₀ t) :
    H.size ≤ T'.heap.size ∧ (∀ q : Nat, q < H.size → ¬ A1 q → T'.heap[q]? = H[q]?) ∧ va_S A0 H0 T'.heap (locs ++ L) := by
  obtain ⟨hz, hk⟩ := hF
  rw [h0] at hz hk
  exact ⟨by rw [e1]; exact hz, fun q h1 h2 => by rw [e1]; exact hk q h1 h2,
    ⟨Nat.le_trans hS.1 (by rw [e1]; exact hz), fun q h1 h2 => by rw [e1, hk q (Nat.lt_of_lt_of_le h1 hS.1) (fun z => h2 (hA q (Nat.lt_of_lt_of_le h1 hS.1) z))]; exact hS.2.1 q h1 h2, fun q hq => by
      rcases List.mem_append.mp hq with h | h
      · exact hS.2.2 q h
      · exact hf _ (hL q h)⟩⟩
theorem vx_calli {S SX : Type} {post : Int32 → S → Prop} {px : SX → Prop} {B : S → State → Prop} {BX : String → SX → State → Prop} {AX : Nat → Prop} (hr : vx_Run p l e R s m args below meth c H locs cells slots mc ms (F0 m pc ls st0) rest (va_Qi post B A1 a) (vx_X px BX AX) free) (hS : va_S A0 H0 H locs) (hA : ∀ q, q < H.size → A1 q → A0 q) (hf : ∀ q, free q → A0 q) (hAX : ∀ q, q < H.size → AX q → A0 q)
    (kx : ∀ (E : String) (ce : Cell) (q9 : Addr) (u : SX) (t : State) (H1 : Heap) (locs1 : List Loc), t.heap = H1 → s.vm.Alike t.vm → px u → BX E u t → H.size ≤ H1.size → (∀ q : Nat, q < H.size → ¬ AX q → H1[q]? = H[q]?) → va_S A0 H0 H1 locs1 → H1[q9]? = some ce → ce.vm = .none → s.vm.findClass E = some ce.cls → vx_W p l e R s m args below meth c H1 locs1 (cells + mc) (slots + ms) Q (F0 m pc ls rest) q9)
    (kk : ∀ (r : Int32) (u : S) (t : State) (H1 : Heap) (locs1 : List Loc), t.heap = H1 → s.vm.Alike t.vm → post r u → B u t → H.size ≤ H1.size → (∀ q : Nat, q < H.size → ¬ A1 q → H1[q]? = H[q]?) → va_S A0 H0 H1 locs1 → W p l e R s m args below meth c H1 locs1 (cells + mc) (slots + ms) Q (F0 m (pc + 3) ls (.int r :: rest))) : W p l e R s m args below meth c H locs cells slots Q (F0 m pc ls st0) := by
  intro T hT X
  rcases hr T hT X with ⟨v, st₀, t, T', L, h0, X', hL, e1, e2, ⟨⟨r, u, hv, hp, hb⟩, hF⟩, st⟩ | ⟨q, st₀, t, T', L, E, ce, h0, X', hL, e1, e2, ⟨u, hp, hb, hF⟩, hce, hcv, hcl, st⟩
  · cases hv
    obtain ⟨k1, k2, k3⟩ := vx_keep h0 e1 hS hA hf hL hF
    obtain ⟨t2, a1, b1⟩ := kk r u t T'.heap (locs ++ L) e1.symm (by rw [← e2]; exact X'.warmed.alike) hp hb k1 k2 k3 T' rfl X'
    exact ⟨t2, st t2 a1, b1⟩
  · obtain ⟨k1, k2, k3⟩ := vx_keep h0 e1 hS hAX hf hL hF
    obtain ⟨t2, a1, b1⟩ := kx E ce q u t T'.heap (locs ++ L) e1.symm (by rw [← e2]; exact X'.warmed.alike) hp hb k1 k2 k3 (by rw [e1]; exact hce) hcv hcl T' rfl X'
    exact ⟨t2, st.trans a1, b1⟩
theorem vx_calll {S SX : Type} {post : Int64 → S → Prop} {px : SX → Prop} {B : S → State → Prop} {BX : String → SX → State → Prop} {AX : Nat → Prop} (hr : vx_Run p l e R s m args below meth c H locs cells slots mc ms (F0 m pc ls st0) rest (va_Ql post B A1 a) (vx_X px BX AX) free) (hS : va_S A0 H0 H locs) (hA : ∀ q, q < H.size → A1 q → A0 q) (hf : ∀ q, free q → A0 q) (hAX : ∀ q, q < H.size → AX q → A0 q)
    (kx : ∀ (E : String) (ce : Cell) (q9 : Addr) (u : SX) (t : State) (H1 : Heap) (locs1 : List Loc), t.heap = H1 → s.vm.Alike t.vm → px u → BX E u t → H.size ≤ H1.size → (∀ q : Nat, q < H.size → ¬ AX q → H1[q]? = H[q]?) → va_S A0 H0 H1 locs1 → H1[q9]? = some ce → ce.vm = .none → s.vm.findClass E = some ce.cls → vx_W p l e R s m args below meth c H1 locs1 (cells + mc) (slots + ms) Q (F0 m pc ls rest) q9)
    (kk : ∀ (r : Int64) (u : S) (t : State) (H1 : Heap) (locs1 : List Loc), t.heap = H1 → s.vm.Alike t.vm → post r u → B u t → H.size ≤ H1.size → (∀ q : Nat, q < H.size → ¬ A1 q → H1[q]? = H[q]?) → va_S A0 H0 H1 locs1 → W p l e R s m args below meth c H1 locs1 (cells + mc) (slots + ms) Q (F0 m (pc + 3) ls (.long r :: rest))) : W p l e R s m args below meth c H locs cells slots Q (F0 m pc ls st0) := by
  intro T hT X
  rcases hr T hT X with ⟨v, st₀, t, T', L, h0, X', hL, e1, e2, ⟨⟨r, u, hv, hp, hb⟩, hF⟩, st⟩ | ⟨q, st₀, t, T', L, E, ce, h0, X', hL, e1, e2, ⟨u, hp, hb, hF⟩, hce, hcv, hcl, st⟩
  · cases hv
    obtain ⟨k1, k2, k3⟩ := vx_keep h0 e1 hS hA hf hL hF
    obtain ⟨t2, a1, b1⟩ := kk r u t T'.heap (locs ++ L) e1.symm (by rw [← e2]; exact X'.warmed.alike) hp hb k1 k2 k3 T' rfl X'
    exact ⟨t2, st t2 a1, b1⟩
  · obtain ⟨k1, k2, k3⟩ := vx_keep h0 e1 hS hAX hf hL hF
    obtain ⟨t2, a1, b1⟩ := kx E ce q u t T'.heap (locs ++ L) e1.symm (by rw [← e2]; exact X'.warmed.alike) hp hb k1 k2 k3 (by rw [e1]; exact hce) hcv hcl T' rfl X'
    exact ⟨t2, st.trans a1, b1⟩
theorem vx_callf {S SX : Type} {post : UInt32 → S → Prop} {px : SX → Prop} {B : S → State → Prop} {BX : String → SX → State → Prop} {AX : Nat → Prop} (hr : vx_Run p l e R s m args below meth c H locs cells slots mc ms (F0 m pc ls st0) rest (va_Qf post B A1 a) (vx_X px BX AX) free) (hS : va_S A0 H0 H locs) (hA : ∀ q, q < H.size → A1 q → A0 q) (hf : ∀ q, free q → A0 q) (hAX : ∀ q, q < H.size → AX q → A0 q)
    (kx : ∀ (E : String) (ce : Cell) (q9 : Addr) (u : SX) (t : State) (H1 : Heap) (locs1 : List Loc), t.heap = H1 → s.vm.Alike t.vm → px u → BX E u t → H.size ≤ H1.size → (∀ q : Nat, q < H.size → ¬ AX q → H1[q]? = H[q]?) → va_S A0 H0 H1 locs1 → H1[q9]? = some ce → ce.vm = .none → s.vm.findClass E = some ce.cls → vx_W p l e R s m args below meth c H1 locs1 (cells + mc) (slots + ms) Q (F0 m pc ls rest) q9)
    (kk : ∀ (r : UInt32) (u : S) (t : State) (H1 : Heap) (locs1 : List Loc), t.heap = H1 → s.vm.Alike t.vm → post r u → B u t → H.size ≤ H1.size → (∀ q : Nat, q < H.size → ¬ A1 q → H1[q]? = H[q]?) → va_S A0 H0 H1 locs1 → W p l e R s m args below meth c H1 locs1 (cells + mc) (slots + ms) Q (F0 m (pc + 3) ls (.float r :: rest))) : W p l e R s m args below meth c H locs cells slots Q (F0 m pc ls st0) := by
  intro T hT X
  rcases hr T hT X with ⟨v, st₀, t, T', L, h0, X', hL, e1, e2, ⟨⟨r, u, hv, hp, hb⟩, hF⟩, st⟩ | ⟨q, st₀, t, T', L, E, ce, h0, X', hL, e1, e2, ⟨u, hp, hb, hF⟩, hce, hcv, hcl, st⟩
  · cases hv
    obtain ⟨k1, k2, k3⟩ := vx_keep h0 e1 hS hA hf hL hF
    obtain ⟨t2, a1, b1⟩ := kk r u t T'.heap (locs ++ L) e1.symm (by rw [← e2]; exact X'.warmed.alike) hp hb k1 k2 k3 T' rfl X'
    exact ⟨t2, st t2 a1, b1⟩
  · obtain ⟨k1, k2, k3⟩ := vx_keep h0 e1 hS hAX hf hL hF
    obtain ⟨t2, a1, b1⟩ := kx E ce q u t T'.heap (locs ++ L) e1.symm (by rw [← e2]; exact X'.warmed.alike) hp hb k1 k2 k3 (by rw [e1]; exact hce) hcv hcl T' rfl X'
    exact ⟨t2, st.trans a1, b1⟩
theorem vx_calld {S SX : Type} {post : UInt64 → S → Prop} {px : SX → Prop} {B : S → State → Prop} {BX : String → SX → State → Prop} {AX : Nat → Prop} (hr : vx_Run p l e R s m args below meth c H locs cells slots mc ms (F0 m pc ls st0) rest (va_Qd post B A1 a) (vx_X px BX AX) free) (hS : va_S A0 H0 H locs) (hA : ∀ q, q < H.size → A1 q → A0 q) (hf : ∀ q, free q → A0 q) (hAX : ∀ q, q < H.size → AX q → A0 q)
    (kx : ∀ (E : String) (ce : Cell) (q9 : Addr) (u : SX) (t : State) (H1 : Heap) (locs1 : List Loc), t.heap = H1 → s.vm.Alike t.vm → px u → BX E u t → H.size ≤ H1.size → (∀ q : Nat, q < H.size → ¬ AX q → H1[q]? = H[q]?) → va_S A0 H0 H1 locs1 → H1[q9]? = some ce → ce.vm = .none → s.vm.findClass E = some ce.cls → vx_W p l e R s m args below meth c H1 locs1 (cells + mc) (slots + ms) Q (F0 m pc ls rest) q9)
    (kk : ∀ (r : UInt64) (u : S) (t : State) (H1 : Heap) (locs1 : List Loc), t.heap = H1 → s.vm.Alike t.vm → post r u → B u t → H.size ≤ H1.size → (∀ q : Nat, q < H.size → ¬ A1 q → H1[q]? = H[q]?) → va_S A0 H0 H1 locs1 → W p l e R s m args below meth c H1 locs1 (cells + mc) (slots + ms) Q (F0 m (pc + 3) ls (.double r :: rest))) : W p l e R s m args below meth c H locs cells slots Q (F0 m pc ls st0) := by
  intro T hT X
  rcases hr T hT X with ⟨v, st₀, t, T', L, h0, X', hL, e1, e2, ⟨⟨r, u, hv, hp, hb⟩, hF⟩, st⟩ | ⟨q, st₀, t, T', L, E, ce, h0, X', hL, e1, e2, ⟨u, hp, hb, hF⟩, hce, hcv, hcl, st⟩
  · cases hv
    obtain ⟨k1, k2, k3⟩ := vx_keep h0 e1 hS hA hf hL hF
    obtain ⟨t2, a1, b1⟩ := kk r u t T'.heap (locs ++ L) e1.symm (by rw [← e2]; exact X'.warmed.alike) hp hb k1 k2 k3 T' rfl X'
    exact ⟨t2, st t2 a1, b1⟩
  · obtain ⟨k1, k2, k3⟩ := vx_keep h0 e1 hS hAX hf hL hF
    obtain ⟨t2, a1, b1⟩ := kx E ce q u t T'.heap (locs ++ L) e1.symm (by rw [← e2]; exact X'.warmed.alike) hp hb k1 k2 k3 (by rw [e1]; exact hce) hcv hcl T' rfl X'
    exact ⟨t2, st.trans a1, b1⟩
theorem vx_callv {S SX : Type} {post : S → Prop} {px : SX → Prop} {B : S → State → Prop} {BX : String → SX → State → Prop} {AX : Nat → Prop} (hr : vx_Run p l e R s m args below meth c H locs cells slots mc ms (F0 m pc ls st0) rest (va_Qv post B A1 a) (vx_X px BX AX) free) (hS : va_S A0 H0 H locs) (hA : ∀ q, q < H.size → A1 q → A0 q) (hf : ∀ q, free q → A0 q) (hAX : ∀ q, q < H.size → AX q → A0 q)
    (kx : ∀ (E : String) (ce : Cell) (q9 : Addr) (u : SX) (t : State) (H1 : Heap) (locs1 : List Loc), t.heap = H1 → s.vm.Alike t.vm → px u → BX E u t → H.size ≤ H1.size → (∀ q : Nat, q < H.size → ¬ AX q → H1[q]? = H[q]?) → va_S A0 H0 H1 locs1 → H1[q9]? = some ce → ce.vm = .none → s.vm.findClass E = some ce.cls → vx_W p l e R s m args below meth c H1 locs1 (cells + mc) (slots + ms) Q (F0 m pc ls rest) q9)
    (kk : ∀ (u : S) (t : State) (H1 : Heap) (locs1 : List Loc), t.heap = H1 → s.vm.Alike t.vm → post u → B u t → H.size ≤ H1.size → (∀ q : Nat, q < H.size → ¬ A1 q → H1[q]? = H[q]?) → va_S A0 H0 H1 locs1 → W p l e R s m args below meth c H1 locs1 (cells + mc) (slots + ms) Q (F0 m (pc + 3) ls (rest))) : W p l e R s m args below meth c H locs cells slots Q (F0 m pc ls st0) := by
  intro T hT X
  rcases hr T hT X with ⟨v, st₀, t, T', L, h0, X', hL, e1, e2, ⟨⟨u, hv, hp, hb⟩, hF⟩, st⟩ | ⟨q, st₀, t, T', L, E, ce, h0, X', hL, e1, e2, ⟨u, hp, hb, hF⟩, hce, hcv, hcl, st⟩
  · cases hv
    obtain ⟨k1, k2, k3⟩ := vx_keep h0 e1 hS hA hf hL hF
    obtain ⟨t2, a1, b1⟩ := kk u t T'.heap (locs ++ L) e1.symm (by rw [← e2]; exact X'.warmed.alike) hp hb k1 k2 k3 T' rfl X'
    exact ⟨t2, st t2 a1, b1⟩
  · obtain ⟨k1, k2, k3⟩ := vx_keep h0 e1 hS hAX hf hL hF
    obtain ⟨t2, a1, b1⟩ := kx E ce q u t T'.heap (locs ++ L) e1.symm (by rw [← e2]; exact X'.warmed.alike) hp hb k1 k2 k3 (by rw [e1]; exact hce) hcv hcl T' rfl X'
    exact ⟨t2, st.trans a1, b1⟩
/-- caught by the first row of this method's table (own proof: the search through one row) -/
theorem vx_catch1 {own name : String} {E : String} {ce : Cell} {q : Addr} (hown : s.vm.findClass own = some m.cls) (x : ExceptionTableEntry) (suf : List ExceptionTableEntry) (hsplit : c.exceptionTable.toList = x :: suf)
    (hx : covers x pc = true) (h0 : x.catchType ≠ 0) (hlink : (Cond.classLink own x.catchType name).before args s = true) (hcast : (Cond.castable E name).before args s = true) (hcell : H[q]? = some ce) (hv : ce.vm = .none) (hcl : s.vm.findClass E = some ce.cls)
    (kk : W p l e R s m args below meth c H locs cells slots Q (F0 m x.handlerPc ls [.ref q])) : vx_W p l e R s m args below meth c H locs cells slots Q (F0 m pc ls rest) q := by
  intro T hT X
  have hpl : e.platform.magicAccessors = ({} : Platform).magicAccessors := by rw [X.admits.platform]
  obtain ⟨c3, c4, hc3, hc4, hasg⟩ := Cond.castable_spec hcast
  have e3 : ce.cls = c3 := Option.some.inj (hcl.symm.trans hc3)
  subst e3
  obtain ⟨c5, hc5, hlk⟩ := Cond.classLink_spec hown hlink e.platform hpl
  have e5 : c4 = c5 := Option.some.inj (hc4.symm.trans hc5)
  subst e5
  obtain ⟨dk, _, _, kt, hd, _, _, _, _, hkt, _, hopen⟩ := hlk.here
  have hW1 : s.WarmedH (T.vm.noted m.cls x.catchType (.cls c4)) := X.warmed.noted hd hopen (State.rightAt_cls hlk)
  have hal := X.warmed.alike
  obtain ⟨kt1, hkt1, -⟩ := hal.2.2 _ _ hkt
  obtain ⟨kx, hkx⟩ := Vm.classAt_of_assignable hasg ⟨kt, hkt⟩
  obtain ⟨kx1, hkx1, -⟩ := hal.2.2 _ _ hkx
  have hlk1 := X.warmed.classLinks hlk
  have hasg1 : T.vm.assignable ce.cls c4 = true := by rw [hal.assignable]; exact hasg
  have hcellT : T.heap[q]? = some ce := by rw [hT]; exact hcell
  have hobj : ∀ k, ce.vm ≠ .statics k := fun k h => by rw [hv] at h; cases h
  have hmT : T.vm.method? m = some meth := X.method'
  obtain ⟨t, a1, b1⟩ := kk (T.setVm (T.vm.noted m.cls x.catchType (.cls c4))) hT (X.noted hW1)
  refine ⟨t, ?_, b1⟩
  have hgo1 : ∀ (Q9 : Handler → Pre) (E9 : CtlPost) (d9 : Bool) (acts : List Action), wp (findHandler (F0 m pc ls rest) q) Q9 E9 e d9 acts ((T.setTop (F0 m pc ls rest)).pushFrame (.throwing q)) ↔ Q9 (.found x.handlerPc) d9 acts (((T.setTop (F0 m pc ls rest)).pushFrame (.throwing q)).setVm (T.vm.noted m.cls x.catchType (.cls c4))) := by
    intro Q9 E9 d9 acts
    rw [W.findHandler_eq (s := (T.setTop (F0 m pc ls rest)).pushFrame (.throwing q)) (f := F0 m pc ls rest) hmT X.code, hsplit]
    have hx' := hx
    simp only [covers] at hx'
    obtain ⟨ha, ht⟩ := (resolveClass_links e.toSetting hlk1).op (op := VmOp.resolveClass m.cls x.catchType) rfl
    have hal2 : T.vm.Alike (T.vm.noted m.cls x.catchType (.cls c4)) := (Vm.Alike.refl T.vm).noted _ _ _
    obtain ⟨k1', hk1', -⟩ := hal2.2.2 _ _ hkx1
    obtain ⟨k2', hk2', -⟩ := hal2.2.2 _ _ hkt1
    have hfit' : (T.vm.noted m.cls x.catchType (.cls c4)).assignable ce.cls c4 = true := by rw [hal2.assignable]; exact hasg1
    have hv1 : ((T.setTop (F0 m pc ls rest)).pushFrame (.throwing q)).vm = T.vm := rfl
    have hh1 : ((T.setTop (F0 m pc ls rest)).pushFrame (.throwing q)).heap = T.heap := rfl
    simp [findHandler.go, hx', h0, hv1, hh1, ha, ht, hcellT, hobj, hk1', hk2', hfit', VmOp.dirties, VmOp.acts]
  have hstep : (stepThrowing e ((T.setTop (F0 m pc ls rest)).pushFrame (.throwing q)) q (.java (F0 m pc ls rest) :: T.frames.tail)).Is ((((T.setTop (F0 m pc ls rest)).pushFrame (.throwing q)).setVm (T.vm.noted m.cls x.catchType (.cls c4))).setFrames (.java { (F0 m pc ls rest) with pc := x.handlerPc, stack := [.ref q] } :: T.frames.tail)) [] := by
    simp only [stepThrowing, searchFrame, vmDo]
    generalize hr9 : Sem.go _ e false [] ((T.setTop (F0 m pc ls rest)).pushFrame (.throwing q)) = res
    obtain ⟨as, rfl, ha⟩ := Sem.eq_ok_of hr9 (a := Handler.found x.handlerPc) (s' := ((T.setTop (F0 m pc ls rest)).pushFrame (.throwing q)).setVm (T.vm.noted m.cls x.catchType (.cls c4))) (acts' := []) (by simp [hgo1 _ _ _ _])
    exact ⟨rfl, ha⟩
  obtain ⟨hgo, hw⟩ := X.here.throwing (g := F0 m pc ls rest) q
  refine Steps.head hgo hw ?_
  rw [stepThread_throwing (frames_entered X.here.top _), hstep.1]
  obtain ⟨g₀, hg⟩ := Option.isSome_iff_exists.mp X.here.top
  obtain ⟨r9, hr⟩ := State.topJava?_eq_some.mp hg
  have hr' : (T.setVm (T.vm.noted m.cls x.catchType (.cls c4))).frames = .java g₀ :: r9 := hr
  rw [State.setTop_of_frames _ hr'] at a1
  have key : ∀ (u : State) (vm' : Vm) (F G : List Frame), ((u.setFrames F).setVm vm').setFrames G = (u.setVm vm').setFrames G := by
    intro u vm' F G
    have h1 : (u.setFrames F).setVm vm' = (u.setVm vm').setFrames F := rfl
    rw [h1, State.setFrames_setFrames]
  rw [hr, List.tail_cons, State.pushFrame, key, State.setTop_of_frames _ hr, key]
  exact a1
end Rows
section Ends
variable {p : Program} {l : Launch} {e : Env} {R : Room} {s : State} {m : MethodId} {args : Array Value} {below : List Frame} {meth : Method} {c : Code} {H : Heap} {locs : List Loc} {cells slots : Nat} {Q : State → Prop}
variable {mc ms : Nat} {free : Addr → Prop} {A0 A1 : Nat → Prop} {H0 : Heap} {a : Array Value} {ls : Array Slot} {st0 rest : List Value}
variable {Qc : Array Value → State → Outcome → State → Prop} {XC : String → State → State → Prop}
/-- what a body that may throw owes at its end -/
def vx_MQ (below : List Frame) (Qc : Array Value → State → Outcome → State → Prop) (XC : String → State → State → Prop) (a : Array Value) (s : State) (mc ms : Nat) (free : Addr → Prop) : State → Prop := fun t =>
  ∃ o, t.status = .running ∧ Ended t below o ∧ vx_Q Qc XC mc ms free a s o t
theorem vx_ret {g : JFrame} {mc ms : Nat} (k : W p l e R s m args below meth c H locs cells slots (MQ below Qc args s mc ms free) g) : W p l e R s m args below meth c H locs cells slots (vx_MQ below Qc XC args s mc ms free) g := by
  intro T hT X
  obtain ⟨t, a1, o, b1, b2, b3, b4⟩ := k T hT X
  exact ⟨t, a1, o, b1, b2, Or.inl ⟨b3, b4⟩⟩
/-- not caught here: it goes on to the caller -/
theorem vx_widen {g : JFrame} {q : Addr} {k n : Nat} (h1 : cells ≤ k) (h2 : slots ≤ n) (kk : vx_W p l e R s m args below meth c H locs k n Q g q) : vx_W p l e R s m args below meth c H locs cells slots Q g q := fun T hT X => kk T hT (stand_widen X h1 h2)
theorem vx_out {pc : Nat} {E : String} {ce : Cell} {q : Addr} {mc ms : Nat} (hout : ∀ x ∈ c.exceptionTable.toList, covers x pc = false) (hlocks : meth.locks = false) (hcell : H[q]? = some ce) (hv : ce.vm = .none) (hcl : s.vm.findClass E = some ce.cls)
    (hx : ∀ t : State, t.heap = H → s.vm.Alike t.vm → XC E s t) (hf : ∀ z ∈ locs, free z.base) (hc : cells ≤ mc) (hs : slots ≤ ms) :
    vx_W p l e R s m args below meth c H locs cells slots (vx_MQ below Qc XC args s mc ms free) (F0 m pc ls rest) q := by
  intro T hT X
  obtain ⟨st1, hrun, hend, hW, hsm⟩ := X.leaveThrown q (g := F0 m pc ls rest) rfl rfl rfl hout hlocks
  have hcell9 : (T.setFrames (.throwing q :: below)).heap[q]? = some ce := by
    show T.heap[q]? = some ce
    rw [hT]; exact hcell
  exact ⟨_, st1, .threw q, hrun, hend, Or.inr ⟨q, rfl, E, ce, locs, hx _ hT hW.alike, hcell9, hv, hcl, hW, hsm.mono hc hs, hf⟩⟩
theorem vx_frame {U : State} {k n : Nat} (h : s.sameButNew ({ U with vm := s.vm } : State) locs k n) : s.heap.size ≤ U.heap.size ∧ ∀ q : Nat, q < s.heap.size → (∀ z ∈ locs, z.base ≠ q) → U.heap[q]? = s.heap[q]? := by
  obtain ⟨-, h2, -, -, -, h6⟩ := h
  refine ⟨h2, fun q hq hz => ?_⟩
  obtain ⟨c9, e1, e2, e3, e4⟩ := h6 q _ (Array.getElem?_eq_getElem hq)
  have hs : c9.slots = (s.heap[q]).slots := Array.ext_getElem? fun i => e4 i fun hm => hz _ hm rfl
  have h9 : c9 = s.heap[q] := by
    rw [hs] at e2
    exact e2
  have e5 : U.heap[q]? = some c9 := e1
  rw [e5, h9, Array.getElem?_eq_getElem hq]
/-- the words of a throw but the four that speak of the heap -/
def vx_no (w : Cond) : Bool := decide (w ≠ .isRef (.static Bundle.tN "UNASSIGNED_STACK" Bundle.steD)) && decide (w ≠ .isRef (.static Bundle.tN "SUPPRESSED_SENTINEL" Bundle.listD)) && decide (w ≠ .laysStatic Bundle.tN "UNASSIGNED_STACK" Bundle.steD) && decide (w ≠ .laysStatic Bundle.tN "SUPPRESSED_SENTINEL" Bundle.listD)
def vx_at0 (own : String) (ic : Nat) (X : String) (names : List String) : List Cond := (Bundle.ownAtoms0 own ic X names).filter vx_no
def vx_atS (own : String) (ic : Nat) (X : String) (names : List String) : List Cond := (Bundle.ownAtoms own ic X names).filter vx_no
/-- a word that the tables alone decide, or a good one -/
def vx_ot (w : Cond) : Bool := w.onTables || goodWord w
theorem vx_ot_at {args a' : Array Value} {s U : State} {w : Cond} (hW : s.WarmedH U.vm) (hvm : s.vm = U.vm) (hg : vx_ot w = true) (h : w.before args s = true) : w.before a' U = true := by
  simp only [vx_ot, Bool.or_eq_true] at hg
  rcases hg with hg | hg
  · exact va_tabs hg hvm h
  · exact word_at hW (good_of_word hg) h
/-- a list's words: the good ones out of the method's own list, the others by premises of their own -/
theorem vx_hat {args : Array Value} {s : State} {L B : List Cond} (h1 : ∀ w ∈ L.filter goodWord, w.before args s = true) (h2 : ∀ w ∈ L.filter (fun w => !goodWord w), w ∈ B) (h3 : ∀ w ∈ B, w.before args s = true) : ∀ w ∈ L, w.before args s = true := by
  intro w hw
  by_cases g : goodWord w = true
  · exact h1 w (List.mem_filter.mpr ⟨hw, g⟩)
  · refine h3 w (h2 w (List.mem_filter.mpr ⟨hw, ?_⟩))
    show (!goodWord w) = true
    cases hgw : goodWord w
    · rfl
    · exact absurd hgw g
theorem vx_c {args : Array Value} {s : State} {w : Cond} {B : List Cond} (h : w.before args s = true) (t : ∀ w ∈ B, w.before args s = true) : ∀ w' ∈ w :: B, w'.before args s = true := fun w' h' => (List.mem_cons.mp h').elim (fun e => by rw [e]; exact h) (t w')
theorem vx_n {args : Array Value} {s : State} : ∀ w ∈ ([] : List Cond), w.before args s = true := fun _ h => nomatch h
theorem vx_own {args : Array Value} {s : State} {L : List Cond} (h1 : ∀ w ∈ L.filter vx_no, w.before args s = true)
    (hU : (Cond.isRef (.static Bundle.tN "UNASSIGNED_STACK" Bundle.steD)).before args s = true) (hN : (Cond.isRef (.static Bundle.tN "SUPPRESSED_SENTINEL" Bundle.listD)).before args s = true)
    (lU : (Cond.laysStatic Bundle.tN "UNASSIGNED_STACK" Bundle.steD).before args s = true) (lN : (Cond.laysStatic Bundle.tN "SUPPRESSED_SENTINEL" Bundle.listD).before args s = true) : ∀ w ∈ L, w.before args s = true := by
  intro w hw
  by_cases e1 : w = .isRef (.static Bundle.tN "UNASSIGNED_STACK" Bundle.steD)
  · rw [e1]; exact hU
  · by_cases e2 : w = .isRef (.static Bundle.tN "SUPPRESSED_SENTINEL" Bundle.listD)
    · rw [e2]; exact hN
    · by_cases e3 : w = .laysStatic Bundle.tN "UNASSIGNED_STACK" Bundle.steD
      · rw [e3]; exact lU
      · by_cases e4 : w = .laysStatic Bundle.tN "SUPPRESSED_SENTINEL" Bundle.listD
        · rw [e4]; exact lN
        · exact h1 w (List.mem_filter.mpr ⟨hw, by unfold vx_no; rw [decide_eq_true e1, decide_eq_true e2, decide_eq_true e3, decide_eq_true e4]; rfl⟩)
/-- where a static field lies, its class's statics cell in H -/
def vx_L (C n d : String) (A : Nat → Prop) (U : State) (H : Heap) : Prop := ∃ (c : ClassId) (k : Class) (i : Nat) (f : Field) (a : Nat) (cell : Cell), U.vm.findClass C = some c ∧ U.fieldFound? C n d = some (c, k, i, f) ∧ f.isStatic = true ∧ k.statics = some a ∧ H[a]? = some cell ∧ cell.vm.isStatics = true ∧ cell.cls = c ∧ f.slot < cell.slots.size ∧ k.staticTypes[f.slot]? = some f.type ∧ ¬ A a
theorem vx_L.moved {C n d : String} {A : Nat → Prop} {u U : State} {H : Heap} (hvm : u.vm.Alike U.vm) (h : vx_L C n d A u H) : vx_L C n d A U H := by
  obtain ⟨c, k, i, f, a, cell, h1, h2, h3, h4, h5, h6, h7, h8, h9, h10⟩ := h
  obtain ⟨k', hi', he⟩ := State.fieldFound?_setVm hvm h2
  exact ⟨c, k', i, f, a, cell, by rw [hvm.findClass]; exact h1, hi', h3, by rw [he]; exact h4, h5, h6, h7, h8, by rw [he]; exact h9, h10⟩
theorem vx_L.kept {C n d : String} {A : Nat → Prop} {U : State} {H H1 : Heap} (h : vx_L C n d A U H) (hq : ∀ a : Nat, a < H.size → ¬ A a → H1[a]? = H[a]?) : vx_L C n d A U H1 := by
  obtain ⟨c, k, i, f, a, cell, h1, h2, h3, h4, h5, h6, h7, h8, h9, h10⟩ := h
  exact ⟨c, k, i, f, a, cell, h1, h2, h3, h4, by rw [hq a (Array.getElem?_eq_some_iff.mp h5).1 h10]; exact h5, h6, h7, h8, h9, h10⟩
theorem vx_L.narrow {C n d : String} {A B : Nat → Prop} {U : State} {H : Heap} (h : vx_L C n d A U H) (hAB : ∀ q, B q → A q) : vx_L C n d B U H := by
  obtain ⟨c, k, i, f, a, cell, h1, h2, h3, h4, h5, h6, h7, h8, h9, h10⟩ := h
  exact ⟨c, k, i, f, a, cell, h1, h2, h3, h4, h5, h6, h7, h8, h9, fun z => h10 (hAB _ z)⟩
theorem vx_L.word {C n d : String} {A : Nat → Prop} {s : State} {args : Array Value} (h : vx_L C n d A s s.heap) : (Cond.laysStatic C n d).before args s = true := by
  obtain ⟨c, k, i, f, a, cell, h1, h2, h3, h4, h5, h6, h7, h8, h9, -⟩ := h
  show (Cond.laysStatic C n d).holds args s none s [] = true
  exact Cond.laysStatic_of h1 h2 h3 h4 h5 h6 h7 h8 h9
/-- .. and what it holds: null or some reference -/
def vx_Zq (C n d : String) (A : Nat → Prop) (U : State) (H : Heap) : Prop := va_Zq C n d A U H ∧ vx_L C n d A U H
theorem vx_Zq.moved {C n d : String} {A : Nat → Prop} {u U : State} {H : Heap} (hvm : u.vm.Alike U.vm) (h : vx_Zq C n d A u H) : vx_Zq C n d A U H := ⟨va_Zq.moved hvm h.1, vx_L.moved hvm h.2⟩
theorem vx_Zq.kept {C n d : String} {A : Nat → Prop} {U : State} {H H1 : Heap} (h : vx_Zq C n d A U H) (hq : ∀ a : Nat, a < H.size → ¬ A a → H1[a]? = H[a]?) : vx_Zq C n d A U H1 := ⟨va_Zq.kept h.1 hq, vx_L.kept h.2 hq⟩
theorem vx_Zq.narrow {C n d : String} {A B : Nat → Prop} {U : State} {H : Heap} (h : vx_Zq C n d A U H) (hAB : ∀ q, B q → A q) : vx_Zq C n d B U H := ⟨va_Zq.narrow h.1 hAB, vx_L.narrow h.2 hAB⟩
theorem vx_Zqof {args : Array Value} {s : State} {C n d : String} {A : Nat → Prop} (hl : (Cond.laysStatic C n d).before args s = true) (hini : (Cond.initialized C).before args s = true) (h : (Cond.isRef (.static C n d)).before args s = true) (hA : ∀ a : Nat, a < s.heap.size → ¬ A a) : vx_Zq C n d A s s.heap := by
  refine ⟨va_Zqof hl hini h hA, ?_⟩
  obtain ⟨c, k, i, f, a, cell, h1, h2, h3, h4, h5, h6, h7, h8, h9⟩ := Cond.laysStatic_spec hl
  exact ⟨c, k, i, f, a, cell, h1, h2, h3, h4, h5, h6, h7, h8, h9, hA a (Array.getElem?_eq_some_iff.mp h5).1⟩
theorem vx_isRef {C n d : String} {v : Value} {A : Nat → Prop} {s : State} {args : Array Value} (h : va_Z C n d v A s s.heap) (hv : v.isRef = true) : (Cond.isRef (.static C n d)).before args s = true := by
  obtain ⟨cf, kf, fi, f, a, cell, h1, h2, h3, h4, h5, h6, h7, -⟩ := h
  have he : (Term.static C n d).eval args s none [] s = some v := by
    simp [Term.eval, State.fieldNamed?, h1, h2, h4, h5, h6, h7]
  simp only [Cond.before, Cond.holds, Cond.value, he]
  cases v <;> simp_all [Value.isRef]
theorem vx_isRefq {C n d : String} {A : Nat → Prop} {s : State} {args : Array Value} (h : va_Zq C n d A s s.heap) : (Cond.isRef (.static C n d)).before args s = true := by
  rcases h with h | ⟨t, h⟩
  · exact vx_isRef h rfl
  · exact vx_isRef h rfl
/-- the same frame, seen from here: as if the method were called anew in this heap -/
theorem vx_rebase {T : State} (X : Stand p l e R s m args below meth c T locs cells slots) {R' : Room} (hf : R'.frames ≤ R.frames) (hl : R'.locals ≤ R.locals) (hc : cells + R'.cells ≤ R.cells) (hs : slots + R'.slots ≤ R.slots) :
    Stand p l e R' ((T.setVm s.vm).setFrames (.invoking m args :: below)) m args below meth c T [] 0 0 := by
  have htop : (T.setVm s.vm).topJava?.isSome := X.here.top
  have hF : ((T.setVm s.vm).setFrames (.invoking m args :: below)).frames = .invoking m args :: below := State.frames_setFrames _ (State.cur_lt_of_top htop)
  obtain ⟨g₀, hg0⟩ := Option.isSome_iff_exists.mp htop
  obtain ⟨r, hr⟩ := State.topJava?_eq_some.mp hg0
  have hl9 : e.platform.stackLimits (T.setVm s.vm).me = e.platform.stackLimits s.me := X.limits
  have hb9 : (T.setVm s.vm).me.stackBytes = s.me.stackBytes := X.bytes
  refine ⟨X.admits, X.cas, X.clock, hF, ?_, X.hears, X.method, X.code, X.here, X.tail, X.warmed, ?_, ?_, ?_⟩
  · have h := X.room
    have hU : ((T.setVm s.vm).setFrames (.invoking m args :: below)).localsInUse = s.localsInUse := by
      rw [State.localsInUse_invoking hF (meth := meth) (c := c) X.method X.code, State.localsInUse_invoking X.frames X.method X.code]
    simp only [State.hasRoom, Bool.and_eq_true, decide_eq_true_eq] at h ⊢
    obtain ⟨⟨⟨⟨h1, h2, h3, h4, h5, h6⟩, h7⟩, h8⟩, h9⟩ := h
    rw [X.frames, List.length_cons] at h2 h3
    have q1 := X.heapSize
    have q2 := X.used
    simp only [hF, hU, List.length_cons, State.stackLimits_setFrames, State.stackBytes_setFrames, hl9, hb9]
    refine ⟨⟨⟨⟨by omega, by omega, by omega, by omega, by omega, h6⟩, ?_⟩, ?_⟩, X.book⟩
    · show T.heap.size + R'.cells ≤ e.platform.maxCells
      omega
    · show T.slotsUsed + R'.slots ≤ e.platform.maxSlots
      omega
  · rw [State.stackLimits_setFrames]; rfl
  · rw [State.stackBytes_setFrames]; rfl
  · refine ⟨?_, Nat.le_refl _, Nat.le_refl _, ?_, ?_, fun a c9 h9 => ⟨c9, h9, rfl, rfl, fun _ _ => rfl⟩⟩
    · obtain ⟨t, ht, -⟩ := State.frames_cons hr
      show T.setVm s.vm = { ((T.setVm s.vm).setFrames (.invoking m args :: below)).setFrames (T.setVm s.vm).frames with heap := T.heap, slotsUsed := T.slotsUsed }
      rw [State.setFrames_setFrames, State.setFrames_self ht]
      rfl
    · show T.slotsUsed = T.slotsUsed + ((T.heap.toList.drop T.heap.size).map (·.slots.size)).sum
      rw [List.drop_eq_nil_of_le (Nat.le_of_eq Array.length_toList)]
      rfl
    · show ((T.heap.toList.drop T.heap.size).map (·.slots.size)).sum ≤ 0
      rw [List.drop_eq_nil_of_le (Nat.le_of_eq Array.length_toList)]
      exact Nat.le_refl _
/-- 'throw new E()': new; dup; invokespecial; athrow -/
theorem vx_throw0 {cc : ByteArray} {pc : Nat} (hexec : p.tables.exec = Jvm.exec) (hb : c.code = cc) (hl : l.stackTraces = false) {own cls : String} {names : List String} {ik ic mc ms : Nat} {A : Nat → Prop}
    (hown : s.vm.findClass own = some m.cls) (hcls : Bundle.fit cls = true) (hnames : ∀ n ∈ names, Bundle.fit n = true)
    (hk : (Cond.classLink own ik cls).before args s = true) (hini : (Cond.initialized cls).before args s = true) (hat : ∀ w ∈ vx_at0 own ic cls names, w.before args s = true)
    (hgood : ∀ w ∈ Cond.classLink own ik cls :: Cond.initialized cls :: vx_at0 own ic cls names, vx_ot w = true)
    (hU : vx_Zq Bundle.tN "UNASSIGNED_STACK" Bundle.steD A s s.heap) (hN : vx_Zq Bundle.tN "SUPPRESSED_SENTINEL" Bundle.listD A s s.heap) (hS : va_S A s.heap H locs) (hsize : ls.size = c.maxLocals)
    (d0 : decode cc pc = .ok (.new ik, 3)) (d3 : decode cc (pc + 3) = .ok (.dup, 1)) (d4 : decode cc (pc + 4) = .ok (.invokespecial ic, 3)) (d7 : decode cc (pc + 7) = .ok (.athrow, 1))
    (hout : ∀ x ∈ c.exceptionTable.toList, covers x (pc + 7) = false)
    (hRframes : names.length + 3 < R.frames) (hRlocals : (rest.map fun v => v.category).sum + (13 * (names.length + 1) + 42) ≤ R.locals) (hRcells : cells + 1 ≤ R.cells) (hRslots : slots + 6 ≤ R.slots) (hlocks : meth.locks = false)
    (hx : ∀ t : State, s.vm.Alike t.vm → H.size ≤ t.heap.size → (∀ q : Nat, q < H.size → t.heap[q]? = H[q]?) → XC cls s t)
    (hf : ∀ z ∈ locs, free z.base) (hc : cells + 1 ≤ mc) (hs : slots + 6 ≤ ms) :
    W p l e R s m args below meth c H locs cells slots (vx_MQ below Qc XC args s mc ms free) (F0 m pc ls rest) := by
  intro T hT X
  have htr : e.platform.stackTraces = false := (show e.platform.stackTraces = l.stackTraces by rw [X.admits.platform]).trans hl
  have Y := vx_rebase X (R' := { frames := R.frames, locals := R.locals, cells := 1, slots := 6 }) (Nat.le_refl _) (Nat.le_refl _) hRcells hRslots
  obtain ⟨s', hA⟩ : ∃ z, z = (T.setVm s.vm).setFrames (.invoking m args :: below) := ⟨_, rfl⟩
  rw [← hA] at Y
  have hvm : s'.vm = s.vm := by rw [hA]; rfl
  have hhp : s'.heap = H := by rw [hA]; exact hT
  have hW0 : s.WarmedH s'.vm := by rw [hvm]; exact State.WarmedH.refl s
  have hat' : ∀ w ∈ vx_at0 own ic cls names, w.before args s' = true := fun w hw => vx_ot_at hW0 hvm.symm (hgood w (List.mem_cons_of_mem _ (List.mem_cons_of_mem _ hw))) (hat w hw)
  have hk' : (Cond.classLink own ik cls).before args s' = true := vx_ot_at hW0 hvm.symm (hgood _ List.mem_cons_self) hk
  have hini' : (Cond.initialized cls).before args s' = true := vx_ot_at hW0 hvm.symm (hgood _ (List.mem_cons_of_mem _ List.mem_cons_self)) hini
  have hU' : vx_Zq Bundle.tN "UNASSIGNED_STACK" Bundle.steD A s' s'.heap := by rw [hhp]; exact vx_Zq.moved hW0.alike (hU.kept hS.2.1)
  have hN' : vx_Zq Bundle.tN "SUPPRESSED_SENTINEL" Bundle.listD A s' s'.heap := by rw [hhp]; exact vx_Zq.moved hW0.alike (hN.kept hS.2.1)
  have h : ∀ w ∈ Bundle.ownAtoms0 own ic cls names, w.before args s' = true := vx_own hat' (vx_isRefq hU'.1) (vx_isRefq hN'.1) hU'.2.word hN'.2.word
  have hown' : s'.vm.findClass own = some m.cls := by rw [hvm]; exact hown
  have hins : (Cond.instantiable cls 6).before args s' = true := h _ (by simp [Bundle.ownAtoms0])
  obtain ⟨vm₁, cX, kX, hfX, hkX, -, -, X₁, st1⟩ := Y.newCold hexec (own := own) (C := cls) (index := ik) (n := 6) hown' hk' hins hini'
    (g := F0 m pc ls rest) rfl (by rw [hb]; exact d0) (Nat.le_refl _) (Nat.le_refl _)
  generalize hT1 : (T.setVm vm₁).pushCell { cls := cX, slots := kX.instanceTypes.map defaultValue, vm := .none } = T1 at X₁ st1
  have hcat : (Value.ref T.heap.size).category = 1 := rfl
  have hcellA : T1.heap[T.heap.size]? = some (freshCell cX kX) := by rw [← hT1]; exact State.heap_pushCell_size _ _
  have d3' : decode c.code (pc + 3) = .ok (.dup, 1) := by rw [hb]; exact d3
  obtain ⟨U, hsteps, hrun, hend, hW, hsame, ce, hce, hO⟩ := X₁.ctorThrow0 hexec htr (own := own) (cls := cls) (names := names) (ic := ic) hown' hcls hnames h (fun x hx => nomatch hx) hfX hkX hcellA (by rw [hhp, hT]; exact Nat.le_refl _)
    (g := { method := m, pc := pc + 4, locals := ls, stack := .ref T.heap.size :: .ref T.heap.size :: rest, locked := none }) rfl hsize rfl rfl (rest := rest) rfl
    (by rw [hb]; exact d4) (by rw [hb]; exact d7) hout hRframes (by simp only [List.map_cons, List.sum_cons, hcat]; omega) hlocks
  obtain ⟨f1, f2⟩ := vx_frame hsame
  rw [hhp] at f1 f2
  have hWs : s.WarmedH U.vm := State.WarmedH.trans hW0 hW
  have hcl : s.vm.findClass cls = some ce.cls := by
    have h9 := hO.cls
    rw [hvm] at h9
    exact h9
  have hall : s.sameButNew ({ U with vm := s.vm } : State) locs mc ms := by
    subst hA
    obtain ⟨e1, e2⟩ := hsame
    rw [State.setFrames_setFrames] at e1
    have h2 : (T.setVm s.vm).sameButNew ({ U with vm := s.vm } : State) [] (0 + 1) (0 + 6) := ⟨e1, e2⟩
    have h3 := X.same.trans h2
    rw [List.append_nil] at h3
    exact h3.mono hc hs
  refine ⟨U, ?_, .threw T.heap.size, hrun, hend, Or.inr ⟨T.heap.size, rfl, cls, ce, locs, hx U hWs.alike f1 (fun q hq => f2 q hq (fun z hz => nomatch hz)), hce, hO.vm, hcl, hWs, hall, hf⟩⟩
  refine st1 _ ?_
  show Steps p.tables e below (T1.setTop { method := m, pc := pc + 3, locals := ls, stack := .ref T.heap.size :: rest, locked := none }) _
  jvm_step X₁.here [X₁.here.top, hexec, d3', Value.category]
  exact hsteps
/-- 'throw new E("text")': new; dup; ldc; invokespecial; athrow -/
theorem vx_throwS {cc : ByteArray} {pc : Nat} (hexec : p.tables.exec = Jvm.exec) (hb : c.code = cc) (hl : l.stackTraces = false) {own cls text : String} {names : List String} {ik is ic mc ms sa : Nat} {A : Nat → Prop}
    (hown : s.vm.findClass own = some m.cls) (hcls : Bundle.fit cls = true) (hnames : ∀ n ∈ names, Bundle.fit n = true)
    (hk : (Cond.classLink own ik cls).before args s = true) (hini : (Cond.initialized cls).before args s = true) (hstr : vk_R own is text sa s) (hat : ∀ w ∈ vx_atS own ic cls names, w.before args s = true)
    (hgood : ∀ w ∈ Cond.classLink own ik cls :: Cond.initialized cls :: vx_atS own ic cls names, vx_ot w = true)
    (hU : vx_Zq Bundle.tN "UNASSIGNED_STACK" Bundle.steD A s s.heap) (hN : vx_Zq Bundle.tN "SUPPRESSED_SENTINEL" Bundle.listD A s s.heap) (hS : va_S A s.heap H locs) (hsize : ls.size = c.maxLocals)
    (d0 : decode cc pc = .ok (.new ik, 3)) (d3 : decode cc (pc + 3) = .ok (.dup, 1)) (d4 : decode cc (pc + 4) = .ok (.ldc is, 2)) (d6 : decode cc (pc + 6) = .ok (.invokespecial ic, 3)) (d9 : decode cc (pc + 9) = .ok (.athrow, 1))
    (hout : ∀ x ∈ c.exceptionTable.toList, covers x (pc + 9) = false)
    (hRframes : names.length + 3 < R.frames) (hRlocals : (rest.map fun v => v.category).sum + (13 * (names.length + 1) + 43) ≤ R.locals) (hRcells : cells + 1 ≤ R.cells) (hRslots : slots + 6 ≤ R.slots) (hlocks : meth.locks = false)
    (hx : ∀ t : State, s.vm.Alike t.vm → H.size ≤ t.heap.size → (∀ q : Nat, q < H.size → t.heap[q]? = H[q]?) → XC cls s t)
    (hf : ∀ z ∈ locs, free z.base) (hc : cells + 1 ≤ mc) (hs : slots + 6 ≤ ms) :
    W p l e R s m args below meth c H locs cells slots (vx_MQ below Qc XC args s mc ms free) (F0 m pc ls rest) := by
  intro T hT X
  have htr : e.platform.stackTraces = false := (show e.platform.stackTraces = l.stackTraces by rw [X.admits.platform]).trans hl
  have Y := vx_rebase X (R' := { frames := R.frames, locals := R.locals, cells := 1, slots := 6 }) (Nat.le_refl _) (Nat.le_refl _) hRcells hRslots
  obtain ⟨s', hA⟩ : ∃ z, z = (T.setVm s.vm).setFrames (.invoking m args :: below) := ⟨_, rfl⟩
  rw [← hA] at Y
  have hvm : s'.vm = s.vm := by rw [hA]; rfl
  have hhp : s'.heap = H := by rw [hA]; exact hT
  have hW0 : s.WarmedH s'.vm := by rw [hvm]; exact State.WarmedH.refl s
  have hat' : ∀ w ∈ vx_atS own ic cls names, w.before args s' = true := fun w hw => vx_ot_at hW0 hvm.symm (hgood w (List.mem_cons_of_mem _ (List.mem_cons_of_mem _ hw))) (hat w hw)
  have hk' : (Cond.classLink own ik cls).before args s' = true := vx_ot_at hW0 hvm.symm (hgood _ List.mem_cons_self) hk
  have hini' : (Cond.initialized cls).before args s' = true := vx_ot_at hW0 hvm.symm (hgood _ (List.mem_cons_of_mem _ List.mem_cons_self)) hini
  have hU' : vx_Zq Bundle.tN "UNASSIGNED_STACK" Bundle.steD A s' s'.heap := by rw [hhp]; exact vx_Zq.moved hW0.alike (hU.kept hS.2.1)
  have hN' : vx_Zq Bundle.tN "SUPPRESSED_SENTINEL" Bundle.listD A s' s'.heap := by rw [hhp]; exact vx_Zq.moved hW0.alike (hN.kept hS.2.1)
  have h : ∀ w ∈ Bundle.ownAtoms own ic cls names, w.before args s' = true := vx_own hat' (vx_isRefq hU'.1) (vx_isRefq hN'.1) hU'.2.word hN'.2.word
  have hown' : s'.vm.findClass own = some m.cls := by rw [hvm]; exact hown
  have hins : (Cond.instantiable cls 6).before args s' = true := h _ (by simp [Bundle.ownAtoms])
  obtain ⟨vm₁, cX, kX, hfX, hkX, -, -, X₁, st1⟩ := Y.newCold hexec (own := own) (C := cls) (index := ik) (n := 6) hown' hk' hins hini'
    (g := F0 m pc ls rest) rfl (by rw [hb]; exact d0) (Nat.le_refl _) (Nat.le_refl _)
  generalize hT1 : (T.setVm vm₁).pushCell { cls := cX, slots := kX.instanceTypes.map defaultValue, vm := .none } = T1 at X₁ st1
  have hcat : (Value.ref T.heap.size).category = 1 := rfl
  have hcellA : T1.heap[T.heap.size]? = some (freshCell cX kX) := by rw [← hT1]; exact State.heap_pushCell_size _ _
  have d3' : decode c.code (pc + 3) = .ok (.dup, 1) := by rw [hb]; exact d3
  have d4' : decode c.code (pc + 4) = .ok (.ldc is, 2) := by rw [hb]; exact d4
  have hstr' : vk_R own is text sa s' := vk_R.warm hW0 hstr
  obtain ⟨U, hsteps, hrun, hend, hW, hsame, ce, hce, hO⟩ := X₁.ctorThrowS hexec htr (own := own) (cls := cls) (names := names) (ic := ic) hown' hcls hnames h (fun x hx => nomatch hx) hfX hkX hcellA (by rw [hhp, hT]; exact Nat.le_refl _) (msg := .ref sa) rfl
    (g := { method := m, pc := pc + 6, locals := ls, stack := .ref sa :: .ref T.heap.size :: .ref T.heap.size :: rest, locked := none }) rfl hsize rfl rfl (rest := rest) rfl
    (by rw [hb]; exact d6) (by rw [hb]; exact d9) hout hRframes (by simp only [List.map_cons, List.sum_cons, hcat]; omega) hlocks
  obtain ⟨f1, f2⟩ := vx_frame hsame
  rw [hhp] at f1 f2
  have hWs : s.WarmedH U.vm := State.WarmedH.trans hW0 hW
  have hcl : s.vm.findClass cls = some ce.cls := by
    have h9 := hO.cls
    rw [hvm] at h9
    exact h9
  have hall : s.sameButNew ({ U with vm := s.vm } : State) locs mc ms := by
    subst hA
    obtain ⟨e1, e2⟩ := hsame
    rw [State.setFrames_setFrames] at e1
    have h2 : (T.setVm s.vm).sameButNew ({ U with vm := s.vm } : State) [] (0 + 1) (0 + 6) := ⟨e1, e2⟩
    have h3 := X.same.trans h2
    rw [List.append_nil] at h3
    exact h3.mono hc hs
  refine ⟨U, ?_, .threw T.heap.size, hrun, hend, Or.inr ⟨T.heap.size, rfl, cls, ce, locs, hx U hWs.alike f1 (fun q hq => f2 q hq (fun z hz => nomatch hz)), hce, hO.vm, hcl, hWs, hall, hf⟩⟩
  refine st1 _ ?_
  show Steps p.tables e below (T1.setTop { method := m, pc := pc + 3, locals := ls, stack := .ref T.heap.size :: rest, locked := none }) _
  jvm_step X₁.here [X₁.here.top, hexec, d3', Value.category]
  exact X₁.ldcString hexec (own := own) (text := text) (index := is) (a := sa) hown' hstr'.1 hstr'.2
    (g := { method := m, pc := pc + 4, locals := ls, stack := .ref T.heap.size :: .ref T.heap.size :: rest, locked := none }) rfl d4' _ hsteps
/-- 'throw new E("text")', the text by a wide index -/
theorem vx_throwSW {cc : ByteArray} {pc : Nat} (hexec : p.tables.exec = Jvm.exec) (hb : c.code = cc) (hl : l.stackTraces = false) {own cls text : String} {names : List String} {ik is ic mc ms sa : Nat} {A : Nat → Prop}
    (hown : s.vm.findClass own = some m.cls) (hcls : Bundle.fit cls = true) (hnames : ∀ n ∈ names, Bundle.fit n = true)
    (hk : (Cond.classLink own ik cls).before args s = true) (hini : (Cond.initialized cls).before args s = true) (hstr : vk_R own is text sa s) (hat : ∀ w ∈ vx_atS own ic cls names, w.before args s = true)
    (hgood : ∀ w ∈ Cond.classLink own ik cls :: Cond.initialized cls :: vx_atS own ic cls names, vx_ot w = true)
    (hU : vx_Zq Bundle.tN "UNASSIGNED_STACK" Bundle.steD A s s.heap) (hN : vx_Zq Bundle.tN "SUPPRESSED_SENTINEL" Bundle.listD A s s.heap) (hS : va_S A s.heap H locs) (hsize : ls.size = c.maxLocals)
    (d0 : decode cc pc = .ok (.new ik, 3)) (d3 : decode cc (pc + 3) = .ok (.dup, 1)) (d4 : decode cc (pc + 4) = .ok (.ldc_w is, 3)) (d7 : decode cc (pc + 7) = .ok (.invokespecial ic, 3)) (d10 : decode cc (pc + 10) = .ok (.athrow, 1))
    (hout : ∀ x ∈ c.exceptionTable.toList, covers x (pc + 10) = false)
    (hRframes : names.length + 3 < R.frames) (hRlocals : (rest.map fun v => v.category).sum + (13 * (names.length + 1) + 43) ≤ R.locals) (hRcells : cells + 1 ≤ R.cells) (hRslots : slots + 6 ≤ R.slots) (hlocks : meth.locks = false)
    (hx : ∀ t : State, s.vm.Alike t.vm → H.size ≤ t.heap.size → (∀ q : Nat, q < H.size → t.heap[q]? = H[q]?) → XC cls s t)
    (hf : ∀ z ∈ locs, free z.base) (hc : cells + 1 ≤ mc) (hs : slots + 6 ≤ ms) :
    W p l e R s m args below meth c H locs cells slots (vx_MQ below Qc XC args s mc ms free) (F0 m pc ls rest) := by
  intro T hT X
  have htr : e.platform.stackTraces = false := (show e.platform.stackTraces = l.stackTraces by rw [X.admits.platform]).trans hl
  have Y := vx_rebase X (R' := { frames := R.frames, locals := R.locals, cells := 1, slots := 6 }) (Nat.le_refl _) (Nat.le_refl _) hRcells hRslots
  obtain ⟨s', hA⟩ : ∃ z, z = (T.setVm s.vm).setFrames (.invoking m args :: below) := ⟨_, rfl⟩
  rw [← hA] at Y
  have hvm : s'.vm = s.vm := by rw [hA]; rfl
  have hhp : s'.heap = H := by rw [hA]; exact hT
  have hW0 : s.WarmedH s'.vm := by rw [hvm]; exact State.WarmedH.refl s
  have hat' : ∀ w ∈ vx_atS own ic cls names, w.before args s' = true := fun w hw => vx_ot_at hW0 hvm.symm (hgood w (List.mem_cons_of_mem _ (List.mem_cons_of_mem _ hw))) (hat w hw)
  have hk' : (Cond.classLink own ik cls).before args s' = true := vx_ot_at hW0 hvm.symm (hgood _ List.mem_cons_self) hk
  have hini' : (Cond.initialized cls).before args s' = true := vx_ot_at hW0 hvm.symm (hgood _ (List.mem_cons_of_mem _ List.mem_cons_self)) hini
  have hU' : vx_Zq Bundle.tN "UNASSIGNED_STACK" Bundle.steD A s' s'.heap := by rw [hhp]; exact vx_Zq.moved hW0.alike (hU.kept hS.2.1)
  have hN' : vx_Zq Bundle.tN "SUPPRESSED_SENTINEL" Bundle.listD A s' s'.heap := by rw [hhp]; exact vx_Zq.moved hW0.alike (hN.kept hS.2.1)
  have h : ∀ w ∈ Bundle.ownAtoms own ic cls names, w.before args s' = true := vx_own hat' (vx_isRefq hU'.1) (vx_isRefq hN'.1) hU'.2.word hN'.2.word
  have hown' : s'.vm.findClass own = some m.cls := by rw [hvm]; exact hown
  have hins : (Cond.instantiable cls 6).before args s' = true := h _ (by simp [Bundle.ownAtoms])
  obtain ⟨vm₁, cX, kX, hfX, hkX, -, -, X₁, st1⟩ := Y.newCold hexec (own := own) (C := cls) (index := ik) (n := 6) hown' hk' hins hini'
    (g := F0 m pc ls rest) rfl (by rw [hb]; exact d0) (Nat.le_refl _) (Nat.le_refl _)
  generalize hT1 : (T.setVm vm₁).pushCell { cls := cX, slots := kX.instanceTypes.map defaultValue, vm := .none } = T1 at X₁ st1
  have hcat : (Value.ref T.heap.size).category = 1 := rfl
  have hcellA : T1.heap[T.heap.size]? = some (freshCell cX kX) := by rw [← hT1]; exact State.heap_pushCell_size _ _
  have d3' : decode c.code (pc + 3) = .ok (.dup, 1) := by rw [hb]; exact d3
  have d4' : decode c.code (pc + 4) = .ok (.ldc_w is, 3) := by rw [hb]; exact d4
  have hstr' : vk_R own is text sa s' := vk_R.warm hW0 hstr
  obtain ⟨U, hsteps, hrun, hend, hW, hsame, ce, hce, hO⟩ := X₁.ctorThrowS hexec htr (own := own) (cls := cls) (names := names) (ic := ic) hown' hcls hnames h (fun x hx => nomatch hx) hfX hkX hcellA (by rw [hhp, hT]; exact Nat.le_refl _) (msg := .ref sa) rfl
    (g := { method := m, pc := pc + 7, locals := ls, stack := .ref sa :: .ref T.heap.size :: .ref T.heap.size :: rest, locked := none }) rfl hsize rfl rfl (rest := rest) rfl
    (by rw [hb]; exact d7) (by rw [hb]; exact d10) hout hRframes (by simp only [List.map_cons, List.sum_cons, hcat]; omega) hlocks
  obtain ⟨f1, f2⟩ := vx_frame hsame
  rw [hhp] at f1 f2
  have hWs : s.WarmedH U.vm := State.WarmedH.trans hW0 hW
  have hcl : s.vm.findClass cls = some ce.cls := by
    have h9 := hO.cls
    rw [hvm] at h9
    exact h9
  have hall : s.sameButNew ({ U with vm := s.vm } : State) locs mc ms := by
    subst hA
    obtain ⟨e1, e2⟩ := hsame
    rw [State.setFrames_setFrames] at e1
    have h2 : (T.setVm s.vm).sameButNew ({ U with vm := s.vm } : State) [] (0 + 1) (0 + 6) := ⟨e1, e2⟩
    have h3 := X.same.trans h2
    rw [List.append_nil] at h3
    exact h3.mono hc hs
  refine ⟨U, ?_, .threw T.heap.size, hrun, hend, Or.inr ⟨T.heap.size, rfl, cls, ce, locs, hx U hWs.alike f1 (fun q hq => f2 q hq (fun z hz => nomatch hz)), hce, hO.vm, hcl, hWs, hall, hf⟩⟩
  refine st1 _ ?_
  show Steps p.tables e below (T1.setTop { method := m, pc := pc + 3, locals := ls, stack := .ref T.heap.size :: rest, locked := none }) _
  jvm_step X₁.here [X₁.here.top, hexec, d3', Value.category]
  exact X₁.ldcStringW hexec (own := own) (text := text) (index := is) (a := sa) hown' hstr'.1 hstr'.2
    (g := { method := m, pc := pc + 4, locals := ls, stack := .ref T.heap.size :: .ref T.heap.size :: rest, locked := none }) rfl d4' _ hsteps
end Ends
section Bodies
variable {l : Launch}
theorem vx_ofW {y : MethodName} {ws ws' : List Cond} {rm : Room} {Pc : Array Value → State → Prop} {Qc : Array Value → State → Outcome → State → Prop} {XC : String → State → State → Prop} {mc ms : Nat} {free : Addr → Prop} {cc : ByteArray} {maxL : Nat} {ret : Option FieldType}
    (hy : plainName y.cls = true) (hw : ws = Cond.code y cc maxL ret :: ws')
    (body : ∀ p e s m args below meth c s₁, BodyLoose p l y (headSpec ws rm) cc maxL ret e s m args below meth c s₁ → c.maxLocals = maxL → (∀ x ∈ c.exceptionTable.toList, False) → Pc args s →
      W p l e (headSpec ws rm).room s m args below meth c s.heap [] 0 0 (vx_MQ below Qc XC args s mc ms free) (entryFrame m args maxL)) : vx_Met l y ws rm Pc Qc XC mc ms free := by
  refine MetFree.of_bodyS (code := cc) (maxLocals := maxL) (ret := ret) hy ?_ ?_
  · intro args s m h hn
    obtain ⟨meth, c, h1, h2, h3, h4, h5, h6, -, -⟩ := Cond.code_spec hn (atoms_spec (ws := ws) h _ (by rw [hw]; exact List.mem_cons_self))
    exact ⟨meth, c, h1, h2, h3, h4, h5, h6⟩
  · intro p e s m args below meth c s₁ B hml hP _
    have hh0 : s₁.heap = s.heap := by rw [B.state]; rfl
    have ht : ∀ x ∈ c.exceptionTable.toList, False := by
      obtain ⟨meth9, c9, h1, h2, -, -, -, -, h7, -⟩ := Cond.code_spec B.named (atoms_spec (ws := ws) B.pre _ (by rw [hw]; exact List.mem_cons_self))
      cases Option.some.inj (h1.symm.trans B.method)
      cases Option.some.inj (h2.symm.trans (Stand.of_body B).code)
      intro x hx
      rw [Array.isEmpty_iff.mp h7] at hx
      cases hx
    obtain ⟨t, a1, o, b1, b2, b3⟩ := body p e s m args below meth c s₁ B hml ht hP s₁ hh0 (Stand.of_body B)
    exact ⟨t, o, a1, b1, b2, b3⟩
/-- the table of a body with handlers -/
theorem vx_table {p : Program} {x y : MethodName} {S : Spec} {cc bytes : ByteArray} {maxL maxL' : Nat} {ret ret' : Option FieldType} {e : Env} {s s₁ : State} {m : MethodId} {args : Array Value} {below : List Frame} {meth : Method} {c : Code} {hh : List (Nat × Nat × Nat × Nat)}
    (B : BodyLoose p l y S cc maxL ret e s m args below meth c s₁) (h : (Cond.codeWith y bytes maxL' ret' hh).before args s = true) : c.exceptionTable.toList = tableOf hh := by
  obtain ⟨m9, meth9, c9, hn9, h1, h2, -, -, h6, -⟩ := Cond.codeWith_spec h
  cases Option.some.inj (hn9.symm.trans B.named)
  cases Option.some.inj (h1.symm.trans B.method)
  cases Option.some.inj (h2.symm.trans (Stand.of_body B).code)
  rw [← h6, table_eq]
end Bodies
end VXA
/-! ===== END ===== -/
/-! ===== BEGIN a static call of a method with an exception table ===== -/
section VXS
variable {p : Program} {l : Launch} {e : Env} {R : Room} {s : State} {m : MethodId} {args : Array Value} {below : List Frame} {meth : Method} {c : Code} {T : State} {H : Heap} {locs : List Loc} {cells slots : Nat}
abbrev vx_CSW (R : Room) (s : State) (args : Array Value) (own : String) (index : Nat) (y : MethodName) (bytes : ByteArray) (maxL : Nat) (ret : Option FieldType) (hh : List (Nat × Nat × Nat × Nat)) (ws : List Cond) (rm : Room) (mc ms n : Nat) : Prop :=
  (rm.cells = mc ∧ rm.slots = ms ∧ rm.frames + 1 ≤ R.frames ∧ 8 + (maxL + 11) + rm.locals ≤ R.locals ∧ (∀ w ∈ ws, ∀ (a' : Array Value) (U : State), s.WarmedH U.vm → w.before a' U = true) ∧ Cond.codeWith y bytes maxL ret hh ∈ ws) ∧
  (Cond.codeWith y bytes maxL ret hh).before args s = true ∧ (Cond.initialized y.cls).before args s = true ∧ (y.cls ≠ "java/lang/invoke/MethodHandle" ∧ y.cls ≠ "java/lang/invoke/VarHandle") ∧
  (∀ sig, parseMethodDescriptor y.desc = some sig → n = sig.parameters.length) ∧ (Cond.methodLink own index y).before args s = true ∧ (Cond.static y).before args s = true
theorem vx_cwSW {own : String} {index maxL mc ms : Nat} {y : MethodName} {bytes : ByteArray} {ret : Option FieldType} {hh : List (Nat × Nat × Nat × Nat)} {Ts ws ws' : List Cond} {rm : Room} (n : Nat) (ht : ∀ w ∈ Ts, w.before args s = true) (hT : GoodIn Ts (va_wsS own index y ws)) (hw : ws = Cond.codeWith y bytes maxL ret hh :: ws') (hrc : rm.cells = mc) (hrs : rm.slots = ms)
    (hd : y.cls ≠ "java/lang/invoke/MethodHandle" ∧ y.cls ≠ "java/lang/invoke/VarHandle" ∧ (parseMethodDescriptor y.desc).map (fun d => d.parameters.length) = some n) (hR : rm.frames + 1 ≤ R.frames ∧ 8 + (maxL + 11) + rm.locals ≤ R.locals) :
    vx_CSW R s args own index y bytes maxL ret hh ws rm mc ms n := by
  have ok : ∀ w ∈ va_wsS own index y ws, w.before args s = true := fun w h => ht w (hT w h).1
  have hG : GoodIn Ts ws := fun w h => hT w (by unfold va_wsS; exact List.mem_append_right _ h)
  have hc : Cond.codeWith y bytes maxL ret hh ∈ ws := by rw [hw]; exact List.mem_cons_self
  refine ⟨⟨hrc, hrs, hR.1, hR.2, pay_in ht hG, hc⟩, ht _ (hG _ hc).1, ok _ (by simp [va_wsS]), ⟨hd.1, hd.2.1⟩, fun sig h => ?_, ok _ (by simp [va_wsS]), ok _ (by simp [va_wsS])⟩
  have h2 := hd.2.2
  rw [h] at h2
  exact (Option.some.inj h2).symm
theorem vx_callSW (X : Stand p l e R s m args below meth c T locs cells slots) (hexec : p.tables.exec = Jvm.exec) {own : String} {index : Nat} {y : MethodName} {bytes : ByteArray} {maxL : Nat} {ret : Option FieldType} {hh : List (Nat × Nat × Nat × Nat)}
    (hown : s.vm.findClass own = some m.cls) (hlink : (Cond.methodLink own index y).before args s = true) (hstat : (Cond.static y).before args s = true) (hinit : (Cond.initialized y.cls).before args s = true)
    (hcode : (Cond.codeWith y bytes maxL ret hh).before args s = true) (hy : y.cls ≠ "java/lang/invoke/MethodHandle" ∧ y.cls ≠ "java/lang/invoke/VarHandle")
    {W9 : Nat} {Pre : Pt → Array Value → Prop} {Post : Pt → Array Value → Option Value → Pt → Prop} (hK : Back l R p e below s args y 3 W9 Pre Post)
    {g : JFrame} (hg : g.method = m) (hsize : g.locals.size = c.maxLocals) {argsL rest : List Value} (hlen : ∀ sig, parseMethodDescriptor y.desc = some sig → argsL.length = sig.parameters.length)
    (hstack : g.stack = argsL.reverse ++ rest) (hW : 2 * g.monitorRoom + (rest.map fun v => v.category).sum ≤ W9) (hdg : decode c.code g.pc = .ok (.invokestatic index, 3))
    (hpre : ∀ vm₁, s.WarmedH vm₁ → Pre ⟨T.setVm vm₁, locs, cells, slots⟩ argsL.toArray) :
    ∃ (v : Option Value) (vm₁ : Vm) (B : Pt), s.WarmedH vm₁ ∧ Stand p l e R s m args below meth c B.U B.locs B.cells B.slots ∧ Post ⟨T.setVm vm₁, locs, cells, slots⟩ argsL.toArray v B ∧
      ∀ target, Steps p.tables e below (B.U.setTop { g with pc := g.pc + 3, stack := v.toList ++ rest }) target → Steps p.tables e below (T.setTop g) target := by
  obtain ⟨mk, methM, cM, hnamed, hmethM, -, -, -, -, -, -, hsigM⟩ := Cond.codeWith_spec hcode
  have hstatic : methM.isStatic = true := Cond.static_spec hnamed hmethM hstat
  obtain ⟨kP, hkP, -⟩ := className_of_methodNamed hnamed
  have hinitP : kP.init = .initialized := Cond.initialized_spec (findClass_of_methodNamed hnamed) hkP hinit
  obtain ⟨vm₁, X₁, hstep₁⟩ := X.invokestatic hexec hown hlink hnamed hmethM hstatic hkP hinitP hy (g := g) hg (argsL := argsL) (rest := rest) (hlen _ hsigM) hstack hdg
  obtain ⟨v, B, X', hpost, hsteps⟩ := hK m meth c ⟨T.setVm vm₁, locs, cells, slots⟩ { g with stack := rest } (.invokestatic index) mk argsL.toArray X₁ hg hsize hdg hW (X₁.named hnamed) (hpre vm₁ X₁.warmed)
  exact ⟨v, vm₁, B, X₁.warmed, X', hpost, fun target h => hstep₁ _ fun acts => by rw [doInvoke_state]; exact hsteps.trans h⟩
theorem vx_runSW {y : MethodName} {bytes cc : ByteArray} {maxL nL mc ms n index : Nat} {ret : Option FieldType} {hh : List (Nat × Nat × Nat × Nat)} {ws : List Cond} {rm : Room} {Pc : Array Value → State → Prop} {Qc : Array Value → State → Outcome → State → Prop} {free : Addr → Prop} {Ts : List Cond} {own : String} {As rest : List Value} {g : JFrame}
    (S : CallFix p m c cc nL s args Ts own) (hM : Met l y ws rm Pc Qc mc ms free) (cw : vx_CSW R s args own index y bytes maxL ret hh ws rm mc ms n) (hp : PreS s H Pc As)
    (hg : g.method = m) (hn : As.length = n) (hsize : g.locals.size = nL) (hstack : g.stack = As.reverse ++ rest) (hW : 2 * g.monitorRoom + (rest.map fun v => v.category).sum ≤ 8) (hdg : decode cc g.pc = .ok (.invokestatic index, 3)) (hf : cells + mc ≤ R.cells ∧ slots + ms ≤ R.slots) :
    va_Run p l e R s m args below meth c H locs cells slots mc ms g rest (Qc As.toArray) (free) := by
  obtain ⟨⟨hrc, hrs, hfr, hlo, hws, hcw⟩, hcode, hini, hy, hlen, hl, hstt⟩ := cw
  have hK : Back l R p e below s args y 3 8 (PreOf R mc ms Pc) (PostOf Qc mc ms free) := va_backW (hh := hh) (bytes := bytes) (maxL := maxL) (ret := ret) hM hp.1 hrc hrs hfr hlo hws hcw (fun a' U hW => word_at hW (Or.inl (by first | rfl | simp [Cond.onTables, Cond.keeps, Cond.steady])) hini)
  obtain ⟨hx, hb, hml, ho, -⟩ := S
  intro T hT X
  obtain ⟨v, vm₁, ⟨U', l2, c2, s2⟩, hW₁, X', ⟨g', mk, t, L, e1, e2, hq, h1, hL, h2, h3⟩, st⟩ := vx_callSW X hx (hh := hh) (bytes := bytes) (maxL := maxL) (ret := ret) ho hl hstt hini hcode hy hK hg (hsize.trans hml.symm) (argsL := As) (rest := rest) (fun sig h => hn.trans (hlen sig h)) hstack hW (by rw [hb]; exact hdg)
    (fun vm₁ hW₁ => ⟨hf.1, hf.2, hp.2 (T.setVm vm₁) hT hW₁⟩)
  dsimp only [Pt.U, Pt.locs, Pt.cells, Pt.slots] at X' e1 e2 h1 h2 h3 st
  subst h1; subst h2; subst h3
  exact ⟨v, (T.setVm vm₁).calling g' mk As.toArray, t, U', L, hT, X', hL, e1, e2, hq, st⟩
/-- a thing of a world lies in the heap -/
theorem vx_lt {D : va_G} {cl : List vw_C} {ws : va_W} {H1 : Heap} (h : va_P D cl ws H1) {k : Nat} {q : Nat × va_E} (hk : ws[k]? = some q) : q.1 < H1.size := (h k q hk).lt
end VXS
/-! ===== END ===== -/
/-! ===== BEGIN methods with a table of their own: called by a name, returning or throwing ===== -/
section VXH
/-! vx_backW, vx_callVX, vx_callSX, vx_callVW, vx_runVW, vx_runVX, vx_runSX, vx_ofWH follow the same proofs as their sisters above (Free/Laws.lean, Shelf42/LK1.lean); vx_outP calls Shelf42/NT130.lean (outThrough). -/
section
variable {l : Launch} {R : Room} {p : Program} {e : Env} {below : List Frame} {s : State} {sargs : Array Value} {y : MethodName} {len W9 : Nat}
theorem vx_backW {ws : List Cond} {rm : Room} {Pc : Array Value → State → Prop} {Qc : Array Value → State → Outcome → State → Prop} {XC : String → State → State → Prop} {mc ms : Nat} {free : Addr → Prop} {bytes : ByteArray} {maxL : Nat} {ret : Option FieldType} {hh : List (Nat × Nat × Nat × Nat)}
    (hM : vx_Met l y ws rm Pc Qc XC mc ms free) (hblind : FrameBlind Pc) (hrc : rm.cells = mc) (hrs : rm.slots = ms)
    (hframes : rm.frames + 1 ≤ R.frames) (hlocals : W9 + (maxL + 11) + rm.locals ≤ R.locals)
    (hws : ∀ w ∈ ws, ∀ a' U, s.WarmedH U.vm → w.before a' U = true) (hcode : Cond.codeWith y bytes maxL ret hh ∈ ws) (hinit : ∀ a' U, s.WarmedH U.vm → (Cond.initialized y.cls).before a' U = true) :
    vx_Back l R p e below s sargs y len W9 (PreOf R mc ms Pc) (PostOf Qc mc ms free) (vx_Post XC mc ms free) := by
  intro m meth c A g ig mk a X hg hsize hdg hW hn hp
  have h1 : (headSpec ws rm).pre.before a A.U = true := atoms_intro fun w hw => hws w hw _ _ X.warmed
  have h2 : (Cond.codeWith y bytes maxL ret hh).before a A.U = true := hws _ hcode _ _ X.warmed
  have h3 : (Cond.initialized y.cls).before a A.U = true := hinit _ _ X.warmed
  have h4 : A.cells + (headSpec ws rm).room.cells ≤ R.cells := by rw [show (headSpec ws rm).room.cells = mc from hrc]; exact hp.1
  have h5 : A.slots + (headSpec ws rm).room.slots ≤ R.slots := by rw [show (headSpec ws rm).room.slots = ms from hrs]; exact hp.2.1
  have hPc : Pc a (A.U.calling g mk a) := hblind _ _ _ _ hp.2.2
  obtain ⟨U, Ls, c0, s0⟩ := A
  dsimp only [Pt.U, Pt.locs, Pt.cells, Pt.slots] at h1 h2 h3 h4 h5 X hn hPc ⊢
  obtain ⟨m9, methY, cY, hn9, hmY, hcY, -, hlY, -⟩ := Cond.codeWith_spec h2
  cases Option.some.inj (hn9.symm.trans hn)
  obtain ⟨kY, hkY, -⟩ := className_of_methodNamed hn
  have hinitY : kY.init = .initialized := Cond.initialized_spec (findClass_of_methodNamed hn) hkY h3
  have h : At U g.method c below := by rw [hg]; exact X.here
  have hlocals9 : W9 + (maxL + 11) + (headSpec ws rm).room.locals ≤ R.locals := hlocals
  have happ : (headSpec ws rm).appliesLoose y e.platform (U.calling g mk a) = true :=
    Spec.appliesLoose_calling (g := g) h hdg hn hkY hinitY
      (X.room_calling (g := g) (R' := (headSpec ws rm).room) hsize hmY hcY hframes (by rw [hlY]; omega) h4 h5) h1
  obtain ⟨mid, hmid⟩ := h.above
  have hfr : (U.setTop g).frames = (.java g :: mid) ++ below := by rw [State.frames_setTop' g h.top, hmid]; rfl
  obtain ⟨o, s₂, hsteps, -, hend, hq⟩ := Steps.callFree hM p X.admits X.cas X.clock (acts := []) hfr happ hPc trivial
  have hq' : vx_Q Qc XC mc ms free a (U.calling g mk a) o s₂ := hq
  rw [State.frames_setTop' g h.top] at hend
  obtain ⟨g₀, hg0⟩ := Option.isSome_iff_exists.mp h.top
  obtain ⟨r, hr⟩ := State.topJava?_eq_some.mp hg0
  have hr' : (({ U with heap := s₂.heap, slotsUsed := s₂.slotsUsed } : State).setVm s₂.vm).frames = .java g₀ :: r := hr
  rcases hq' with ⟨hqc, L, hfe, hL⟩ | ⟨q, rfl, E, ce, L, hx, hce, hcv, hcl, hW₂, hsm, hL⟩
  · obtain ⟨⟨v, rfl⟩, hW₂, e2, q2, q3, q4, q5, q6⟩ := id hfe
    have e3 : s₂ = ({ (U.calling g mk a).setFrames s₂.frames with heap := s₂.heap, slotsUsed := s₂.slotsUsed } : State).setVm s₂.vm := by
      have : s₂ = ({ s₂ with vm := (U.calling g mk a).vm } : State).setVm s₂.vm := rfl
      rw [e2] at this
      exact this
    obtain ⟨c₂, i₂, len₂, hc₂, hd₂, hf₂⟩ := hend
    have hW' : U.WarmedH s₂.vm := hW₂
    have hcc : c₂ = c := by
      have h1 : s₂.code? g.method = U.code? g.method := by
        rw [State.code?_eq, State.code?_eq, hW'.alike.method?]
      exact Option.some.inj (hc₂.symm.trans (h1.trans h.code))
    subst hcc
    have hlen : len₂ = len := by rw [hdg] at hd₂; cases hd₂; rfl
    subst hlen
    have hs₂ : s₂ = (({ U with heap := s₂.heap, slotsUsed := s₂.slotsUsed } : State).setVm s₂.vm).setTop { g with pc := g.pc + len₂, stack := v.toList ++ g.stack } := by
      refine e3.trans ?_
      rw [hf₂, State.calling_eq h.top, State.setFrames_setFrames, State.setTop_of_frames _ hr', hr]
      rfl
    have hsame : U.sameButNew ({ U with heap := s₂.heap, slotsUsed := s₂.slotsUsed } : State) L mc ms := by
      refine ⟨?_, q2, q3, q4, q5, q6⟩
      obtain ⟨t, ht, -⟩ := State.frames_cons hr
      show ({ U with heap := s₂.heap, slotsUsed := s₂.slotsUsed } : State) = { U.setFrames U.frames with heap := s₂.heap, slotsUsed := s₂.slotsUsed }
      rw [State.setFrames_self ht]
    subst hg
    refine Or.inl ⟨v, ⟨(({ U with heap := s₂.heap, slotsUsed := s₂.slotsUsed } : State).setVm s₂.vm), Ls ++ L, c0 + mc, s0 + ms⟩,
      ⟨X.admits, X.cas, X.clock, X.frames, X.room, X.hears, X.method, X.code, (X.here.setHeapUsed s₂.heap s₂.slotsUsed).setVm hW'.alike, X.tail, State.WarmedH.trans X.warmed hW', X.limits, X.bytes, X.same.trans (hsame.setVm s.vm)⟩,
      ⟨g, mk, s₂, L, rfl, rfl, hqc, rfl, hL, rfl, rfl⟩, ?_⟩
    show Steps p.tables e below _ ((({ U with heap := s₂.heap, slotsUsed := s₂.slotsUsed } : State).setVm s₂.vm).setTop { g with pc := g.pc + len₂, stack := v.toList ++ g.stack })
    rw [← hs₂]
    exact hsteps
  · obtain ⟨e2, q2, q3, q4, q5, q6⟩ := id hsm
    have e3 : s₂ = ({ (U.calling g mk a).setFrames s₂.frames with heap := s₂.heap, slotsUsed := s₂.slotsUsed } : State).setVm s₂.vm := by
      have : s₂ = ({ s₂ with vm := (U.calling g mk a).vm } : State).setVm s₂.vm := rfl
      rw [e2] at this
      exact this
    have hf₂ : s₂.frames = .throwing q :: .java g :: U.frames.tail := hend
    have hW' : U.WarmedH s₂.vm := hW₂
    have hs₂ : s₂ = ((({ U with heap := s₂.heap, slotsUsed := s₂.slotsUsed } : State).setVm s₂.vm).setTop g).pushFrame (.throwing q) := by
      refine e3.trans ?_
      rw [hf₂, State.calling_eq h.top, State.setFrames_setFrames, State.pushFrame, State.frames_setTop _ hr', State.setTop_of_frames _ hr', State.setFrames_setFrames, hr]
      rfl
    have hsame : U.sameButNew ({ U with heap := s₂.heap, slotsUsed := s₂.slotsUsed } : State) L mc ms := by
      refine ⟨?_, q2, q3, q4, q5, q6⟩
      obtain ⟨t, ht, -⟩ := State.frames_cons hr
      show ({ U with heap := s₂.heap, slotsUsed := s₂.slotsUsed } : State) = { U.setFrames U.frames with heap := s₂.heap, slotsUsed := s₂.slotsUsed }
      rw [State.setFrames_self ht]
    subst hg
    refine Or.inr ⟨q, ⟨(({ U with heap := s₂.heap, slotsUsed := s₂.slotsUsed } : State).setVm s₂.vm), Ls ++ L, c0 + mc, s0 + ms⟩,
      ⟨X.admits, X.cas, X.clock, X.frames, X.room, X.hears, X.method, X.code, (X.here.setHeapUsed s₂.heap s₂.slotsUsed).setVm hW'.alike, X.tail, State.WarmedH.trans X.warmed hW', X.limits, X.bytes, X.same.trans (hsame.setVm s.vm)⟩,
      ⟨g, mk, s₂, L, E, ce, rfl, rfl, hx, hce, hcv, hcl, rfl, hL, rfl, rfl⟩, ?_⟩
    show Steps p.tables e below _ (((({ U with heap := s₂.heap, slotsUsed := s₂.slotsUsed } : State).setVm s₂.vm).setTop g).pushFrame (.throwing q))
    rw [← hs₂]
    exact hsteps
end
variable {p : Program} {l : Launch} {e : Env} {R : Room} {s : State} {m : MethodId} {args : Array Value} {below : List Frame} {meth : Method} {c : Code} {T : State} {H : Heap} {locs : List Loc} {cells slots : Nat}
theorem vx_callVX (X : Stand p l e R s m args below meth c T locs cells slots) (hexec : p.tables.exec = Jvm.exec) {own C : String} {index : Nat} {y : MethodName} {bytes : ByteArray} {maxL : Nat} {ret : Option FieldType} {hh : List (Nat × Nat × Nat × Nat)}
    (hown : s.vm.findClass own = some m.cls) (hlink : (Cond.methodLink own index y).before args s = true) (hinst : (Cond.instanceMethod y).before args s = true) (hsel : (Cond.selects C y y).before args s = true)
    (hcode : (Cond.codeWith y bytes maxL ret hh).before args s = true) (hy : y.cls ≠ "java/lang/invoke/MethodHandle" ∧ y.cls ≠ "java/lang/invoke/VarHandle")
    {W9 : Nat} {Pre : Pt → Array Value → Prop} {Post : Pt → Array Value → Option Value → Pt → Prop} {PostX : Pt → Array Value → Addr → Pt → Prop} (hK : vx_Back l R p e below s args y 3 W9 Pre Post PostX)
    {b : Addr} {cellB : Cell} (hcell : T.heap[b]? = some cellB) (hobj : cellB.vm.isStatics = false) (hcls : s.vm.findClass C = some cellB.cls)
    {g : JFrame} (hg : g.method = m) (hsize : g.locals.size = c.maxLocals) {argsL rest : List Value} (hlen : ∀ sig, parseMethodDescriptor y.desc = some sig → argsL.length = sig.parameters.length)
    (hstack : g.stack = argsL.reverse ++ .ref b :: rest) (hW : 2 * g.monitorRoom + (rest.map fun v => v.category).sum ≤ W9) (hdg : decode c.code g.pc = .ok (.invokevirtual index, 3))
    (hpre : ∀ vm₁, s.WarmedH vm₁ → Pre ⟨T.setVm vm₁, locs, cells, slots⟩ (Value.ref b :: argsL).toArray) :
    (∃ (v : Option Value) (vm₁ : Vm) (B : Pt), s.WarmedH vm₁ ∧ Stand p l e R s m args below meth c B.U B.locs B.cells B.slots ∧ Post ⟨T.setVm vm₁, locs, cells, slots⟩ (Value.ref b :: argsL).toArray v B ∧
      ∀ target, Steps p.tables e below (B.U.setTop { g with pc := g.pc + 3, stack := v.toList ++ rest }) target → Steps p.tables e below (T.setTop g) target) ∨
    (∃ (q : Addr) (vm₁ : Vm) (B : Pt), s.WarmedH vm₁ ∧ Stand p l e R s m args below meth c B.U B.locs B.cells B.slots ∧ PostX ⟨T.setVm vm₁, locs, cells, slots⟩ (Value.ref b :: argsL).toArray q B ∧
      Steps p.tables e below (T.setTop g) ((B.U.setTop { g with stack := rest }).pushFrame (.throwing q))) := by
  obtain ⟨mk, methM, hnamed, hmethM, hstM, habM⟩ := Cond.instanceMethod_spec hinst
  obtain ⟨m8, methM', cM, hn8, hmethM', -, -, -, -, -, -, hsigM⟩ := Cond.codeWith_spec hcode
  cases Option.some.inj (hn8.symm.trans hnamed)
  cases hmethM.symm.trans hmethM'
  obtain ⟨c2, r2, m2, q1, q2, q3, q4, kP, hkP, hkPi⟩ := Cond.selects_spec hsel
  cases hcls.symm.trans q1
  cases (State.methodFound?_of_named hnamed hy).symm.trans q2
  cases hnamed.symm.trans q3
  have hselP : selectMethod e.platform s.vm cellB.cls mk = .method mk := by rw [Launch.admits_selectMethod X.admits]; exact q4
  obtain ⟨vm₁, X₁, hstep₁⟩ := X.invokevirtual hexec hown hlink hnamed hmethM hstM hkP hkPi hy (a := b) (cell := cellB) hcell
    (fun z h => by rw [h] at hobj; cases hobj) hselP hmethM habM hkP hkPi (g := g) hg (argsL := argsL) (rest := rest) (hlen _ hsigM) hstack hdg
  rcases hK m meth c ⟨T.setVm vm₁, locs, cells, slots⟩ { g with stack := rest } (.invokevirtual index) mk (Value.ref b :: argsL).toArray X₁ hg hsize hdg hW (X₁.named hnamed) (hpre vm₁ X₁.warmed) with ⟨v, B, X', hpost, hsteps⟩ | ⟨q, B, X', hpost, hsteps⟩
  · exact Or.inl ⟨v, vm₁, B, X₁.warmed, X', hpost, fun target h => hstep₁ _ fun acts => by rw [doInvoke_state]; exact hsteps.trans h⟩
  · exact Or.inr ⟨q, vm₁, B, X₁.warmed, X', hpost, hstep₁ _ fun acts => by rw [doInvoke_state]; exact hsteps⟩
theorem vx_callSX (X : Stand p l e R s m args below meth c T locs cells slots) (hexec : p.tables.exec = Jvm.exec) {own : String} {index : Nat} {y : MethodName} {bytes : ByteArray} {maxL : Nat} {ret : Option FieldType} {hh : List (Nat × Nat × Nat × Nat)}
    (hown : s.vm.findClass own = some m.cls) (hlink : (Cond.methodLink own index y).before args s = true) (hstat : (Cond.static y).before args s = true) (hinit : (Cond.initialized y.cls).before args s = true)
    (hcode : (Cond.codeWith y bytes maxL ret hh).before args s = true) (hy : y.cls ≠ "java/lang/invoke/MethodHandle" ∧ y.cls ≠ "java/lang/invoke/VarHandle")
    {W9 : Nat} {Pre : Pt → Array Value → Prop} {Post : Pt → Array Value → Option Value → Pt → Prop} {PostX : Pt → Array Value → Addr → Pt → Prop} (hK : vx_Back l R p e below s args y 3 W9 Pre Post PostX)
    {g : JFrame} (hg : g.method = m) (hsize : g.locals.size = c.maxLocals) {argsL rest : List Value} (hlen : ∀ sig, parseMethodDescriptor y.desc = some sig → argsL.length = sig.parameters.length)
    (hstack : g.stack = argsL.reverse ++ rest) (hW : 2 * g.monitorRoom + (rest.map fun v => v.category).sum ≤ W9) (hdg : decode c.code g.pc = .ok (.invokestatic index, 3))
    (hpre : ∀ vm₁, s.WarmedH vm₁ → Pre ⟨T.setVm vm₁, locs, cells, slots⟩ argsL.toArray) :
    (∃ (v : Option Value) (vm₁ : Vm) (B : Pt), s.WarmedH vm₁ ∧ Stand p l e R s m args below meth c B.U B.locs B.cells B.slots ∧ Post ⟨T.setVm vm₁, locs, cells, slots⟩ argsL.toArray v B ∧
      ∀ target, Steps p.tables e below (B.U.setTop { g with pc := g.pc + 3, stack := v.toList ++ rest }) target → Steps p.tables e below (T.setTop g) target) ∨
    (∃ (q : Addr) (vm₁ : Vm) (B : Pt), s.WarmedH vm₁ ∧ Stand p l e R s m args below meth c B.U B.locs B.cells B.slots ∧ PostX ⟨T.setVm vm₁, locs, cells, slots⟩ argsL.toArray q B ∧
      Steps p.tables e below (T.setTop g) ((B.U.setTop { g with stack := rest }).pushFrame (.throwing q))) := by
  obtain ⟨mk, methM, cM, hnamed, hmethM, -, -, -, -, -, -, hsigM⟩ := Cond.codeWith_spec hcode
  have hstatic : methM.isStatic = true := Cond.static_spec hnamed hmethM hstat
  obtain ⟨kP, hkP, -⟩ := className_of_methodNamed hnamed
  have hinitP : kP.init = .initialized := Cond.initialized_spec (findClass_of_methodNamed hnamed) hkP hinit
  obtain ⟨vm₁, X₁, hstep₁⟩ := X.invokestatic hexec hown hlink hnamed hmethM hstatic hkP hinitP hy (g := g) hg (argsL := argsL) (rest := rest) (hlen _ hsigM) hstack hdg
  rcases hK m meth c ⟨T.setVm vm₁, locs, cells, slots⟩ { g with stack := rest } (.invokestatic index) mk argsL.toArray X₁ hg hsize hdg hW (X₁.named hnamed) (hpre vm₁ X₁.warmed) with ⟨v, B, X', hpost, hsteps⟩ | ⟨q, B, X', hpost, hsteps⟩
  · exact Or.inl ⟨v, vm₁, B, X₁.warmed, X', hpost, fun target h => hstep₁ _ fun acts => by rw [doInvoke_state]; exact hsteps.trans h⟩
  · exact Or.inr ⟨q, vm₁, B, X₁.warmed, X', hpost, hstep₁ _ fun acts => by rw [doInvoke_state]; exact hsteps⟩
theorem vx_callVW (X : Stand p l e R s m args below meth c T locs cells slots) (hexec : p.tables.exec = Jvm.exec) {own C : String} {index : Nat} {y : MethodName} {bytes : ByteArray} {maxL : Nat} {ret : Option FieldType} {hh : List (Nat × Nat × Nat × Nat)}
    (hown : s.vm.findClass own = some m.cls) (hlink : (Cond.methodLink own index y).before args s = true) (hinst : (Cond.instanceMethod y).before args s = true) (hsel : (Cond.selects C y y).before args s = true)
    (hcode : (Cond.codeWith y bytes maxL ret hh).before args s = true) (hy : y.cls ≠ "java/lang/invoke/MethodHandle" ∧ y.cls ≠ "java/lang/invoke/VarHandle")
    {W9 : Nat} {Pre : Pt → Array Value → Prop} {Post : Pt → Array Value → Option Value → Pt → Prop} (hK : Back l R p e below s args y 3 W9 Pre Post)
    {b : Addr} {cellB : Cell} (hcell : T.heap[b]? = some cellB) (hobj : cellB.vm.isStatics = false) (hcls : s.vm.findClass C = some cellB.cls)
    {g : JFrame} (hg : g.method = m) (hsize : g.locals.size = c.maxLocals) {argsL rest : List Value} (hlen : ∀ sig, parseMethodDescriptor y.desc = some sig → argsL.length = sig.parameters.length)
    (hstack : g.stack = argsL.reverse ++ .ref b :: rest) (hW : 2 * g.monitorRoom + (rest.map fun v => v.category).sum ≤ W9) (hdg : decode c.code g.pc = .ok (.invokevirtual index, 3))
    (hpre : ∀ vm₁, s.WarmedH vm₁ → Pre ⟨T.setVm vm₁, locs, cells, slots⟩ (Value.ref b :: argsL).toArray) :
    ∃ (v : Option Value) (vm₁ : Vm) (B : Pt), s.WarmedH vm₁ ∧ Stand p l e R s m args below meth c B.U B.locs B.cells B.slots ∧ Post ⟨T.setVm vm₁, locs, cells, slots⟩ (Value.ref b :: argsL).toArray v B ∧
      ∀ target, Steps p.tables e below (B.U.setTop { g with pc := g.pc + 3, stack := v.toList ++ rest }) target → Steps p.tables e below (T.setTop g) target := by
  obtain ⟨mk, methM, hnamed, hmethM, hstM, habM⟩ := Cond.instanceMethod_spec hinst
  obtain ⟨m8, methM', cM, hn8, hmethM', -, -, -, -, -, -, hsigM⟩ := Cond.codeWith_spec hcode
  cases Option.some.inj (hn8.symm.trans hnamed)
  cases hmethM.symm.trans hmethM'
  obtain ⟨c2, r2, m2, q1, q2, q3, q4, kP, hkP, hkPi⟩ := Cond.selects_spec hsel
  cases hcls.symm.trans q1
  cases (State.methodFound?_of_named hnamed hy).symm.trans q2
  cases hnamed.symm.trans q3
  have hselP : selectMethod e.platform s.vm cellB.cls mk = .method mk := by rw [Launch.admits_selectMethod X.admits]; exact q4
  obtain ⟨vm₁, X₁, hstep₁⟩ := X.invokevirtual hexec hown hlink hnamed hmethM hstM hkP hkPi hy (a := b) (cell := cellB) hcell
    (fun z h => by rw [h] at hobj; cases hobj) hselP hmethM habM hkP hkPi (g := g) hg (argsL := argsL) (rest := rest) (hlen _ hsigM) hstack hdg
  obtain ⟨v, B, X', hpost, hsteps⟩ := hK m meth c ⟨T.setVm vm₁, locs, cells, slots⟩ { g with stack := rest } (.invokevirtual index) mk (Value.ref b :: argsL).toArray X₁ hg hsize hdg hW (X₁.named hnamed) (hpre vm₁ X₁.warmed)
  exact ⟨v, vm₁, B, X₁.warmed, X', hpost, fun target h => hstep₁ _ fun acts => by rw [doInvoke_state]; exact hsteps.trans h⟩
abbrev vx_CVW (R : Room) (s : State) (args : Array Value) (own C : String) (index : Nat) (y : MethodName) (bytes : ByteArray) (maxL : Nat) (ret : Option FieldType) (hh : List (Nat × Nat × Nat × Nat)) (ws : List Cond) (rm : Room) (mc ms n : Nat) : Prop :=
  (rm.cells = mc ∧ rm.slots = ms ∧ rm.frames + 1 ≤ R.frames ∧ 8 + (maxL + 11) + rm.locals ≤ R.locals ∧ (∀ w ∈ ws, ∀ (a' : Array Value) (U : State), s.WarmedH U.vm → w.before a' U = true) ∧ Cond.codeWith y bytes maxL ret hh ∈ ws) ∧
  (Cond.codeWith y bytes maxL ret hh).before args s = true ∧ (Cond.initialized y.cls).before args s = true ∧ (y.cls ≠ "java/lang/invoke/MethodHandle" ∧ y.cls ≠ "java/lang/invoke/VarHandle") ∧
  (∀ sig, parseMethodDescriptor y.desc = some sig → n = sig.parameters.length) ∧ (Cond.methodLink own index y).before args s = true ∧ (Cond.instanceMethod y).before args s = true ∧ (Cond.selects C y y).before args s = true
theorem vx_cwVW {own C : String} {index maxL mc ms : Nat} {y : MethodName} {bytes : ByteArray} {ret : Option FieldType} {hh : List (Nat × Nat × Nat × Nat)} {Ts ws ws' : List Cond} {rm : Room} (n : Nat) (ht : ∀ w ∈ Ts, w.before args s = true) (hT : GoodIn Ts (wsV own index C y ws)) (hw : ws = Cond.codeWith y bytes maxL ret hh :: ws') (hrc : rm.cells = mc) (hrs : rm.slots = ms)
    (hd : y.cls = C ∧ y.cls ≠ "java/lang/invoke/MethodHandle" ∧ y.cls ≠ "java/lang/invoke/VarHandle" ∧ (parseMethodDescriptor y.desc).map (fun d => d.parameters.length) = some n) (hR : rm.frames + 1 ≤ R.frames ∧ 8 + (maxL + 11) + rm.locals ≤ R.locals) :
    vx_CVW R s args own C index y bytes maxL ret hh ws rm mc ms n := by
  obtain ⟨hC, hd⟩ := hd
  subst hC
  have ok : ∀ w ∈ wsV own index y.cls y ws, w.before args s = true := fun w h => ht w (hT w h).1
  have hG : GoodIn Ts ws := fun w h => hT w (by unfold wsV; exact List.mem_append_right _ h)
  have hc : Cond.codeWith y bytes maxL ret hh ∈ ws := by rw [hw]; exact List.mem_cons_self
  refine ⟨⟨hrc, hrs, hR.1, hR.2, pay_in ht hG, hc⟩, ht _ (hG _ hc).1, ok _ (by simp [wsV]), ⟨hd.1, hd.2.1⟩, fun sig h => ?_, ok _ (by simp [wsV]), ok _ (by simp [wsV]), ok _ (by simp [wsV])⟩
  have h2 := hd.2.2
  rw [h] at h2
  exact (Option.some.inj h2).symm
theorem vx_runVW {y : MethodName} {bytes cc : ByteArray} {maxL nL mc ms n index : Nat} {ret : Option FieldType} {hh : List (Nat × Nat × Nat × Nat)} {ws : List Cond} {rm : Room} {Pc : Array Value → State → Prop} {Qc : Array Value → State → Outcome → State → Prop} {free : Addr → Prop} {Ts : List Cond} {own C : String} {b : Addr} {As rest : List Value} {g : JFrame}
    (S : CallFix p m c cc nL s args Ts own) (hM : Met l y ws rm Pc Qc mc ms free) (cw : vx_CVW R s args own C index y bytes maxL ret hh ws rm mc ms n) (hp : PreV s H C b Pc As)
    (hg : g.method = m) (hn : As.length = n) (hsize : g.locals.size = nL) (hstack : g.stack = As.reverse ++ .ref b :: rest) (hW : 2 * g.monitorRoom + (rest.map fun v => v.category).sum ≤ 8) (hdg : decode cc g.pc = .ok (.invokevirtual index, 3)) (hf : cells + mc ≤ R.cells ∧ slots + ms ≤ R.slots) :
    va_Run p l e R s m args below meth c H locs cells slots mc ms g rest (Qc (Value.ref b :: As).toArray) free := by
  obtain ⟨⟨hrc, hrs, hfr, hlo, hws, hcw⟩, hcode, hini, hy, hlen, hl, hin, hse⟩ := cw
  have hK : Back l R p e below s args y 3 8 (PreOf R mc ms Pc) (PostOf Qc mc ms free) := va_backW (hh := hh) (bytes := bytes) (maxL := maxL) (ret := ret) hM hp.1 hrc hrs hfr hlo hws hcw (fun a' U hW => word_at hW (Or.inl (by first | rfl | simp [Cond.onTables, Cond.keeps, Cond.steady])) hini)
  obtain ⟨hx, hb, hml, ho, -⟩ := S
  obtain ⟨-, ⟨cellB, hcB, hoB, hclB⟩, hPc⟩ := hp
  intro T hT X
  obtain ⟨v, vm₁, ⟨U', l2, c2, s2⟩, hW₁, X', ⟨g', mk, t, L, e1, e2, hq, h1, hL, h2, h3⟩, st⟩ := vx_callVW X hx (C := C) (hh := hh) (bytes := bytes) (maxL := maxL) (ret := ret) ho hl hin hse hcode hy hK (by rw [hT]; exact hcB) hoB hclB hg (hsize.trans hml.symm) (argsL := As) (rest := rest) (fun sig h => hn.trans (hlen sig h)) hstack hW (by rw [hb]; exact hdg)
    (fun vm₁ hW₁ => ⟨hf.1, hf.2, hPc (T.setVm vm₁) hT hW₁⟩)
  dsimp only [Pt.U, Pt.locs, Pt.cells, Pt.slots] at X' e1 e2 h1 h2 h3 st
  subst h1; subst h2; subst h3
  exact ⟨v, (T.setVm vm₁).calling g' mk (Value.ref b :: As).toArray, t, U', L, hT, X', hL, e1, e2, hq, st⟩
section
variable {y : MethodName} {bytes cc : ByteArray} {maxL nL mc ms n index : Nat} {ret : Option FieldType} {ws : List Cond} {rm : Room} {Pc : Array Value → State → Prop} {Qc : Array Value → State → Outcome → State → Prop} {XC : String → State → State → Prop} {free : Addr → Prop} {Ts : List Cond} {own C : String} {b : Addr} {As rest : List Value} {g : JFrame}
theorem vx_runVX {hh : List (Nat × Nat × Nat × Nat)} (S : CallFix p m c cc nL s args Ts own) (hM : vx_Met l y ws rm Pc Qc XC mc ms free) (cw : vx_CVW R s args own C index y bytes maxL ret hh ws rm mc ms n) (hp : PreV s H C b Pc As)
    (hg : g.method = m) (hn : As.length = n) (hsize : g.locals.size = nL) (hstack : g.stack = As.reverse ++ .ref b :: rest) (hW : 2 * g.monitorRoom + (rest.map fun v => v.category).sum ≤ 8) (hdg : decode cc g.pc = .ok (.invokevirtual index, 3)) (hf : cells + mc ≤ R.cells ∧ slots + ms ≤ R.slots) :
    vx_Run p l e R s m args below meth c H locs cells slots mc ms g rest (Qc (Value.ref b :: As).toArray) XC free := by
  obtain ⟨⟨hrc, hrs, hfr, hlo, hws, hcw⟩, hcode, hini, hy, hlen, hl, hin, hse⟩ := cw
  have hK : vx_Back l R p e below s args y 3 8 (PreOf R mc ms Pc) (PostOf Qc mc ms free) (vx_Post XC mc ms free) := vx_backW (hh := hh) (bytes := bytes) (maxL := maxL) (ret := ret) hM hp.1 hrc hrs hfr hlo hws hcw (fun a' U hW => word_at hW (Or.inl (by first | rfl | simp [Cond.onTables, Cond.keeps, Cond.steady])) hini)
  obtain ⟨hx, hb, hml, ho, -⟩ := S
  obtain ⟨-, ⟨cellB, hcB, hoB, hclB⟩, hPc⟩ := hp
  intro T hT X
  rcases vx_callVX X hx (C := C) (hh := hh) (bytes := bytes) (maxL := maxL) (ret := ret) ho hl hin hse hcode hy hK (by rw [hT]; exact hcB) hoB hclB hg (hsize.trans hml.symm) (argsL := As) (rest := rest) (fun sig h => hn.trans (hlen sig h)) hstack hW (by rw [hb]; exact hdg)
    (fun vm₁ hW₁ => ⟨hf.1, hf.2, hPc (T.setVm vm₁) hT hW₁⟩) with ⟨v, vm₁, ⟨U', l2, c2, s2⟩, hW₁, X', ⟨g', mk, t, L, e1, e2, hq, h1, hL, h2, h3⟩, st⟩ | ⟨q, vm₁, ⟨U', l2, c2, s2⟩, hW₁, X', ⟨g', mk, t, L, E, ce, e1, e2, hq, hce, hcv, hcl, h1, hL, h2, h3⟩, st⟩
  · dsimp only [Pt.U, Pt.locs, Pt.cells, Pt.slots] at X' e1 e2 h1 h2 h3 st
    subst h1; subst h2; subst h3
    exact Or.inl ⟨v, (T.setVm vm₁).calling g' mk (Value.ref b :: As).toArray, t, U', L, hT, X', hL, e1, e2, hq, st⟩
  · dsimp only [Pt.U, Pt.locs, Pt.cells, Pt.slots] at X' e1 e2 h1 h2 h3 st hcl
    subst h1; subst h2; subst h3
    exact Or.inr ⟨q, (T.setVm vm₁).calling g' mk (Value.ref b :: As).toArray, t, U', L, E, ce, hT, X', hL, e1, e2, hq, hce, hcv, vx_cls hW₁ hcl, st⟩
theorem vx_runSX {hh : List (Nat × Nat × Nat × Nat)} (S : CallFix p m c cc nL s args Ts own) (hM : vx_Met l y ws rm Pc Qc XC mc ms free) (cw : vx_CSW R s args own index y bytes maxL ret hh ws rm mc ms n) (hp : PreS s H Pc As)
    (hg : g.method = m) (hn : As.length = n) (hsize : g.locals.size = nL) (hstack : g.stack = As.reverse ++ rest) (hW : 2 * g.monitorRoom + (rest.map fun v => v.category).sum ≤ 8) (hdg : decode cc g.pc = .ok (.invokestatic index, 3)) (hf : cells + mc ≤ R.cells ∧ slots + ms ≤ R.slots) :
    vx_Run p l e R s m args below meth c H locs cells slots mc ms g rest (Qc As.toArray) XC free := by
  obtain ⟨⟨hrc, hrs, hfr, hlo, hws, hcw⟩, hcode, hini, hy, hlen, hl, hstt⟩ := cw
  have hK : vx_Back l R p e below s args y 3 8 (PreOf R mc ms Pc) (PostOf Qc mc ms free) (vx_Post XC mc ms free) := vx_backW (hh := hh) (bytes := bytes) (maxL := maxL) (ret := ret) hM hp.1 hrc hrs hfr hlo hws hcw (fun a' U hW => word_at hW (Or.inl (by first | rfl | simp [Cond.onTables, Cond.keeps, Cond.steady])) hini)
  obtain ⟨hx, hb, hml, ho, -⟩ := S
  intro T hT X
  rcases vx_callSX X hx (hh := hh) (bytes := bytes) (maxL := maxL) (ret := ret) ho hl hstt hini hcode hy hK hg (hsize.trans hml.symm) (argsL := As) (rest := rest) (fun sig h => hn.trans (hlen sig h)) hstack hW (by rw [hb]; exact hdg)
    (fun vm₁ hW₁ => ⟨hf.1, hf.2, hp.2 (T.setVm vm₁) hT hW₁⟩) with ⟨v, vm₁, ⟨U', l2, c2, s2⟩, hW₁, X', ⟨g', mk, t, L, e1, e2, hq, h1, hL, h2, h3⟩, st⟩ | ⟨q, vm₁, ⟨U', l2, c2, s2⟩, hW₁, X', ⟨g', mk, t, L, E, ce, e1, e2, hq, hce, hcv, hcl, h1, hL, h2, h3⟩, st⟩
  · dsimp only [Pt.U, Pt.locs, Pt.cells, Pt.slots] at X' e1 e2 h1 h2 h3 st
    subst h1; subst h2; subst h3
    exact Or.inl ⟨v, (T.setVm vm₁).calling g' mk As.toArray, t, U', L, hT, X', hL, e1, e2, hq, st⟩
  · dsimp only [Pt.U, Pt.locs, Pt.cells, Pt.slots] at X' e1 e2 h1 h2 h3 st hcl
    subst h1; subst h2; subst h3
    exact Or.inr ⟨q, (T.setVm vm₁).calling g' mk As.toArray, t, U', L, E, ce, hT, X', hL, e1, e2, hq, hce, hcv, vx_cls hW₁ hcl, st⟩
end
end VXH
theorem vx_ofWH {l : Launch} {y : MethodName} {ws ws' : List Cond} {rm : Room} {Pc : Array Value → State → Prop} {Qc : Array Value → State → Outcome → State → Prop} {XC : String → State → State → Prop} {mc ms : Nat} {free : Addr → Prop} {cc : ByteArray} {maxL : Nat} {ret : Option FieldType} {hh : List (Nat × Nat × Nat × Nat)}
    (hy : plainName y.cls = true) (hw : ws = Cond.codeWith y cc maxL ret hh :: ws')
    (body : ∀ p e s m args below meth c s₁, BodyLoose p l y (headSpec ws rm) cc maxL ret e s m args below meth c s₁ → c.maxLocals = maxL → Pc args s →
      W p l e (headSpec ws rm).room s m args below meth c s.heap [] 0 0 (vx_MQ below Qc XC args s mc ms free) (entryFrame m args maxL)) : vx_Met l y ws rm Pc Qc XC mc ms free := by
  refine MetFree.of_bodyS (code := cc) (maxLocals := maxL) (ret := ret) hy ?_ ?_
  · intro args s m h hn
    obtain ⟨m9, meth, c, hn9, h1, h2, h3, h4, -, h5, h6, -⟩ := Cond.codeWith_spec (atoms_spec (ws := ws) h _ (by rw [hw]; exact List.mem_cons_self))
    cases hn.symm.trans hn9
    exact ⟨meth, c, h1, h2, h3, h4, h5, h6⟩
  · intro p e s m args below meth c s₁ B hml hP _
    have hh0 : s₁.heap = s.heap := by rw [B.state]; rfl
    obtain ⟨t, a1, o, b1, b2, b3⟩ := body p e s m args below meth c s₁ B hml hP s₁ hh0 (Stand.of_body B)
    exact ⟨t, o, a1, b1, b2, b3⟩
/-! ===== END ===== -/
end
section
/-! the law, from its entry to its loop's head -/
/-- what a throw of the class needs of a state: two statics of Throwable, the text, the class's own cast -/
def zYd (U : State) : Prop := va_Nw (.declares (Bundle.initS "java/lang/RuntimeException")) U ∧ va_Nw (.declares (Bundle.initS "java/lang/Exception")) U ∧ va_Nw (.declares (Bundle.initS "java/lang/Throwable")) U
def zY (A : Nat → Prop) (sa : Nat) (U : State) : Prop := vx_Zq Bundle.tN "UNASSIGNED_STACK" Bundle.steD A U U.heap ∧ vx_Zq Bundle.tN "SUPPRESSED_SENTINEL" Bundle.listD A U U.heap ∧ vk_R RX9 147 "no such cut" sa U ∧ va_Nw (.castable "java/util/NoSuchElementException" "java/util/NoSuchElementException") U ∧ zYd U
def zL8 (l : Launch) (s : State) (A : Nat → Prop) : Prop := l.stackTraces = false ∧ ∃ sa : Nat, zY A sa s
theorem zY_call {A B : Nat → Prop} {sa : Nat} {s U : State} {H : Heap} {locs : List Loc} (h : zY A sa s) (hS : va_S A s.heap H locs) (hAB : ∀ q, B q → A q) (hU : U.heap = H) (hW : s.WarmedH U.vm) : zY B sa U := by
  obtain ⟨h1, h2, h3, h4, h5, h6, h7⟩ := h
  refine ⟨?_, ?_, vk_R.warm hW h3, va_Nw.warmC hW h4, va_Nw.warmD hW h5, va_Nw.warmD hW h6, va_Nw.warmD hW h7⟩
  · rw [hU]
    exact ((h1.kept (fun a q1 q2 => hS.2.1 a q1 q2)).narrow hAB).moved hW.alike
  · rw [hU]
    exact ((h2.kept (fun a q1 q2 => hS.2.1 a q1 q2)).narrow hAB).moved hW.alike
theorem zY_same {A : Nat → Prop} {sa : Nat} {u U : State} (hv : u.vm = U.vm) (hh : U.heap = u.heap) (h : zY A sa u) : zY A sa U := by
  obtain ⟨h1, h2, h3, h4, h5, h6, h7⟩ := h
  have ha : u.vm.Alike U.vm := by rw [hv]; exact Vm.Alike.refl _
  refine ⟨?_, ?_, vk_R.same hv.symm h3, va_Nw.same rfl hv h4, va_Nw.same rfl hv h5, va_Nw.same rfl hv h6, va_Nw.same rfl hv h7⟩
  · rw [hh]
    exact h1.moved ha
  · rw [hh]
    exact h2.moved ha
def zenc (e : ZE) : Nat × (Nat × Nat × ZL) × List Value := match e with
  | .inl x => (0, (x.1, x.2.1, x.2.2), [])
  | .inr x => (1, (x.1, 0, []), x.2)
theorem zenc_inj {a b : ZE} (h : zenc a = zenc b) : a = b := by
  cases a with
  | inl x =>
    cases b with
    | inl y =>
      obtain ⟨x1, x2, x3⟩ := x
      obtain ⟨y1, y2, y3⟩ := y
      simp only [zenc, Prod.mk.injEq] at h
      obtain ⟨-, ⟨rfl, rfl, rfl⟩, -⟩ := h
      rfl
    | inr y => simp [zenc] at h
  | inr x =>
    cases b with
    | inl y => simp [zenc] at h
    | inr y =>
      obtain ⟨x1, x2⟩ := x
      obtain ⟨y1, y2⟩ := y
      simp only [zenc, Prod.mk.injEq] at h
      obtain ⟨-, ⟨rfl, -⟩, rfl⟩ := h
      rfl
def zeh : List ZE → List ZE → Bool
  | [], [] => true
  | a :: r, b :: t => decide ((zenc a).1 = (zenc b).1) && (decide ((zenc a).2.1.1 = (zenc b).2.1.1) && (decide ((zenc a).2.1.2.1 = (zenc b).2.1.2.1) && (decide ((zenc a).2.1.2.2 = (zenc b).2.1.2.2) && (decide ((zenc a).2.2 = (zenc b).2.2) && zeh r t))))
  | _, _ => false
theorem zeh_ok : ∀ {a b : List ZE}, zeh a b = true → a = b := by
  intro a
  induction a with
  | nil =>
    intro b h
    cases b with
    | nil => rfl
    | cons y b => cases h
  | cons x a ih =>
    intro b h
    cases b with
    | nil => cases h
    | cons y b =>
      simp only [zeh, Bool.and_eq_true, decide_eq_true_eq] at h
      obtain ⟨h1, h2, h3, h4, h5, h6⟩ := h
      rw [zenc_inj (a := x) (b := y) (Prod.ext h1 (Prod.ext (Prod.ext h2 (Prod.ext h3 h4)) h5)), ih h6]
def zeq (x : ZX) (r : ZS) : Bool := match x with
  | .ok q => decide (q.1 = r.1) && (decide (q.2.1 = r.2.1) && (decide (q.2.2.1 = r.2.2.1) && (zeh q.2.2.2.1 r.2.2.2.1 && (decide (q.2.2.2.2.1 = r.2.2.2.2.1) && decide (q.2.2.2.2.2 = r.2.2.2.2.2)))))
  | .error _ => false
theorem zeq_ok {x : ZX} {r : ZS} (h : zeq x r = true) : x = .ok r := by
  cases x with
  | ok q =>
    obtain ⟨q1, q2, q3, q4, q5, q6⟩ := q
    obtain ⟨r1, r2, r3, r4, r5, r6⟩ := r
    simp only [zeq, Bool.and_eq_true, decide_eq_true_eq] at h
    obtain ⟨rfl, rfl, rfl, h4, rfl, rfl⟩ := h
    rw [zeh_ok h4]
  | error q => cases h
/-- as zOK, with no addresses given ahead, on a launch without stack traces -/
def zOK0 (box : ZN) : Prop := ∀ (p : Program) (l : Launch) (e : Env) (s : State) (m : MethodId) (args : Array Value) (below : List Frame) (meth : Method) (c : Code) (Q : State → Prop) (dC : Nat → ClassId) (dI : Nat → Nat → Nat) (cA : Nat → ClassId) (g : ZG) (A : Nat → Prop), g.2.2 = [] → zL8 l s A → zen box g → (∀ E, zen E g → zF E 7 0 20 zme0 p room_1 s m args meth c dC dI cA g A) → (∀ (lv : ZL) (hp : List ZE) (nc ns : Nat), nc ≤ 600002 → ns ≤ 7302232 → zW p l e room_1 s m args below meth c Q dC dI cA g A 7 1506 lv [.int 1] hp nc ns) → zW p l e room_1 s m args below meth c Q dC dI cA g A 7 23 zzl [] zzh zzn zzs
end
section
/-! the law from its entry, by the kernel -/
noncomputable def zrunL (L : Nat) : Bool := match zgo zzm zzc zzd [] L 99999 5000 0 20 0 [(0, .float 0)] [] [] 0 0 with
  | .ok r => zfin1 r
  | .error _ => false
theorem zrL0 : zrunL 0 = true := by decide +kernel
theorem zrL1 : zrunL 1 = true := by decide +kernel
theorem zrL2 : zrunL 2 = true := by decide +kernel
theorem zrL3 : zrunL 3 = true := by decide +kernel
theorem zrL4 : zrunL 4 = true := by decide +kernel
theorem zrL5 : zrunL 5 = true := by decide +kernel
theorem zrL6 : zrunL 6 = true := by decide +kernel
theorem zrL7 : zgo zzm zzc zzd [] 7 23 5000 0 20 0 [(0, .float 0)] [] [] 0 0 = .ok (23, zzl, [], zzh, zzn, zzs) := zeq_ok (by decide +kernel)
end
section
/-! feed: class and reference, by contracts -/
theorem dX7_take_0 : decode cX7_take 0 = .ok (.bipush 56, 2) := by decide +kernel
theorem dX7_take_2 : decode cX7_take 2 = .ok (.istore_n 3, 1) := by decide +kernel
theorem dX7_take_3 : decode cX7_take 3 = .ok (.iload_n 3, 1) := by decide +kernel
theorem dX7_take_4 : decode cX7_take 4 = .ok (.ifCond .lt 21, 3) := by decide +kernel
theorem dX7_take_7 : decode cX7_take 7 = .ok (.aload_n 0, 1) := by decide +kernel
theorem dX7_take_8 : decode cX7_take 8 = .ok (.lload_n 1, 1) := by decide +kernel
theorem dX7_take_9 : decode cX7_take 9 = .ok (.iload_n 3, 1) := by decide +kernel
theorem dX7_take_10 : decode cX7_take 10 = .ok (.lushr, 1) := by decide +kernel
theorem dX7_take_11 : decode cX7_take 11 = .ok (.l2i, 1) := by decide +kernel
theorem dX7_take_12 : decode cX7_take 12 = .ok (.sipush 255, 3) := by decide +kernel
theorem dX7_take_15 : decode cX7_take 15 = .ok (.iand, 1) := by decide +kernel
theorem dX7_take_16 : decode cX7_take 16 = .ok (.invokevirtual 25, 3) := by decide +kernel
theorem dX7_take_19 : decode cX7_take 19 = .ok (.iinc 3 (-8), 3) := by decide +kernel
theorem dX7_take_22 : decode cX7_take 22 = .ok (.goto (-19), 3) := by decide +kernel
theorem dX7_take_25 : decode cX7_take 25 = .ok (.return_, 1) := by decide +kernel
theorem dX7_addSign_0 : decode cX7_addSign 0 = .ok (.iload_n 1, 1) := by decide +kernel
theorem dX7_addSign_1 : decode cX7_addSign 1 = .ok (.bipush 10, 2) := by decide +kernel
theorem dX7_addSign_3 : decode cX7_addSign 3 = .ok (.if_icmp .eq 15, 3) := by decide +kernel
theorem dX7_addSign_6 : decode cX7_addSign 6 = .ok (.iload_n 1, 1) := by decide +kernel
theorem dX7_addSign_7 : decode cX7_addSign 7 = .ok (.bipush 32, 2) := by decide +kernel
theorem dX7_addSign_9 : decode cX7_addSign 9 = .ok (.if_icmp .lt 13, 3) := by decide +kernel
theorem dX7_addSign_12 : decode cX7_addSign 12 = .ok (.iload_n 1, 1) := by decide +kernel
theorem dX7_addSign_13 : decode cX7_addSign 13 = .ok (.bipush 126, 2) := by decide +kernel
theorem dX7_addSign_15 : decode cX7_addSign 15 = .ok (.if_icmp .gt 7, 3) := by decide +kernel
theorem dX7_addSign_18 : decode cX7_addSign 18 = .ok (.iconst 1, 1) := by decide +kernel
theorem dX7_addSign_19 : decode cX7_addSign 19 = .ok (.goto 4, 3) := by decide +kernel
theorem dX7_addSign_22 : decode cX7_addSign 22 = .ok (.iconst 0, 1) := by decide +kernel
theorem dX7_addSign_23 : decode cX7_addSign 23 = .ok (.istore_n 2, 1) := by decide +kernel
theorem dX7_addSign_24 : decode cX7_addSign 24 = .ok (.iload_n 2, 1) := by decide +kernel
theorem dX7_addSign_25 : decode cX7_addSign 25 = .ok (.ifCond .eq 34, 3) := by decide +kernel
theorem dX7_addSign_28 : decode cX7_addSign 28 = .ok (.aload_n 0, 1) := by decide +kernel
theorem dX7_addSign_29 : decode cX7_addSign 29 = .ok (.getfield 15, 3) := by decide +kernel
theorem dX7_addSign_32 : decode cX7_addSign 32 = .ok (.sipush 1000, 3) := by decide +kernel
theorem dX7_addSign_35 : decode cX7_addSign 35 = .ok (.if_icmp .ge 24, 3) := by decide +kernel
theorem dX7_addSign_38 : decode cX7_addSign 38 = .ok (.aload_n 0, 1) := by decide +kernel
theorem dX7_addSign_39 : decode cX7_addSign 39 = .ok (.getfield 9, 3) := by decide +kernel
theorem dX7_addSign_42 : decode cX7_addSign 42 = .ok (.aload_n 0, 1) := by decide +kernel
theorem dX7_addSign_43 : decode cX7_addSign 43 = .ok (.getfield 15, 3) := by decide +kernel
theorem dX7_addSign_46 : decode cX7_addSign 46 = .ok (.iload_n 1, 1) := by decide +kernel
theorem dX7_addSign_47 : decode cX7_addSign 47 = .ok (.i2c, 1) := by decide +kernel
theorem dX7_addSign_48 : decode cX7_addSign 48 = .ok (.castore, 1) := by decide +kernel
theorem dX7_addSign_49 : decode cX7_addSign 49 = .ok (.aload_n 0, 1) := by decide +kernel
theorem dX7_addSign_50 : decode cX7_addSign 50 = .ok (.dup, 1) := by decide +kernel
theorem dX7_addSign_51 : decode cX7_addSign 51 = .ok (.getfield 15, 3) := by decide +kernel
theorem dX7_addSign_54 : decode cX7_addSign 54 = .ok (.iconst 1, 1) := by decide +kernel
theorem dX7_addSign_55 : decode cX7_addSign 55 = .ok (.iadd, 1) := by decide +kernel
theorem dX7_addSign_56 : decode cX7_addSign 56 = .ok (.putfield 15, 3) := by decide +kernel
theorem dX7_addSign_59 : decode cX7_addSign 59 = .ok (.return_, 1) := by decide +kernel
theorem dX9_feed_0 : decode cX9_feed 0 = .ok (.aload_n 0, 1) := by decide +kernel
theorem dX9_feed_1 : decode cX9_feed 1 = .ok (.getfield 10, 3) := by decide +kernel
theorem dX9_feed_4 : decode cX9_feed 4 = .ok (.lload_n 1, 1) := by decide +kernel
theorem dX9_feed_5 : decode cX9_feed 5 = .ok (.invokevirtual 77, 3) := by decide +kernel
theorem dX9_feed_8 : decode cX9_feed 8 = .ok (.aload_n 0, 1) := by decide +kernel
theorem dX9_feed_9 : decode cX9_feed 9 = .ok (.getfield 10, 3) := by decide +kernel
theorem dX9_feed_12 : decode cX9_feed 12 = .ok (.lload_n 3, 1) := by decide +kernel
theorem dX9_feed_13 : decode cX9_feed 13 = .ok (.invokevirtual 77, 3) := by decide +kernel
theorem dX9_feed_16 : decode cX9_feed 16 = .ok (.aload_n 0, 1) := by decide +kernel
theorem dX9_feed_17 : decode cX9_feed 17 = .ok (.getfield 10, 3) := by decide +kernel
theorem dX9_feed_20 : decode cX9_feed 20 = .ok (.lload 5, 2) := by decide +kernel
theorem dX9_feed_22 : decode cX9_feed 22 = .ok (.invokevirtual 77, 3) := by decide +kernel
theorem dX9_feed_25 : decode cX9_feed 25 = .ok (.aload_n 0, 1) := by decide +kernel
theorem dX9_feed_26 : decode cX9_feed 26 = .ok (.getfield 10, 3) := by decide +kernel
theorem dX9_feed_29 : decode cX9_feed 29 = .ok (.getfield 81, 3) := by decide +kernel
theorem dX9_feed_32 : decode cX9_feed 32 = .ok (.ireturn, 1) := by decide +kernel
theorem dX10_feed_0 : decode cX10_feed 0 = .ok (.aload_n 0, 1) := by decide +kernel
theorem dX10_feed_1 : decode cX10_feed 1 = .ok (.iconst 0, 1) := by decide +kernel
theorem dX10_feed_2 : decode cX10_feed 2 = .ok (.putfield 1, 3) := by decide +kernel
theorem dX10_feed_5 : decode cX10_feed 5 = .ok (.aload_n 0, 1) := by decide +kernel
theorem dX10_feed_6 : decode cX10_feed 6 = .ok (.lload_n 1, 1) := by decide +kernel
theorem dX10_feed_7 : decode cX10_feed 7 = .ok (.invokevirtual 7, 3) := by decide +kernel
theorem dX10_feed_10 : decode cX10_feed 10 = .ok (.aload_n 0, 1) := by decide +kernel
theorem dX10_feed_11 : decode cX10_feed 11 = .ok (.lload_n 3, 1) := by decide +kernel
theorem dX10_feed_12 : decode cX10_feed 12 = .ok (.invokevirtual 7, 3) := by decide +kernel
theorem dX10_feed_15 : decode cX10_feed 15 = .ok (.aload_n 0, 1) := by decide +kernel
theorem dX10_feed_16 : decode cX10_feed 16 = .ok (.lload 5, 2) := by decide +kernel
theorem dX10_feed_18 : decode cX10_feed 18 = .ok (.invokevirtual 7, 3) := by decide +kernel
theorem dX10_feed_21 : decode cX10_feed 21 = .ok (.aload_n 0, 1) := by decide +kernel
theorem dX10_feed_22 : decode cX10_feed 22 = .ok (.getfield 11, 3) := by decide +kernel
theorem dX10_feed_25 : decode cX10_feed 25 = .ok (.ireturn, 1) := by decide +kernel
theorem dX10_lay_0 : decode cX10_lay 0 = .ok (.bipush 56, 2) := by decide +kernel
theorem dX10_lay_2 : decode cX10_lay 2 = .ok (.istore_n 3, 1) := by decide +kernel
theorem dX10_lay_3 : decode cX10_lay 3 = .ok (.iload_n 3, 1) := by decide +kernel
theorem dX10_lay_4 : decode cX10_lay 4 = .ok (.ifCond .lt 71, 3) := by decide +kernel
theorem dX10_lay_7 : decode cX10_lay 7 = .ok (.lload_n 1, 1) := by decide +kernel
theorem dX10_lay_8 : decode cX10_lay 8 = .ok (.iload_n 3, 1) := by decide +kernel
theorem dX10_lay_9 : decode cX10_lay 9 = .ok (.lshr, 1) := by decide +kernel
theorem dX10_lay_10 : decode cX10_lay 10 = .ok (.l2i, 1) := by decide +kernel
theorem dX10_lay_11 : decode cX10_lay 11 = .ok (.sipush 255, 3) := by decide +kernel
theorem dX10_lay_14 : decode cX10_lay 14 = .ok (.iand, 1) := by decide +kernel
theorem dX10_lay_15 : decode cX10_lay 15 = .ok (.istore 4, 2) := by decide +kernel
theorem dX10_lay_17 : decode cX10_lay 17 = .ok (.iload 4, 2) := by decide +kernel
theorem dX10_lay_19 : decode cX10_lay 19 = .ok (.bipush 10, 2) := by decide +kernel
theorem dX10_lay_21 : decode cX10_lay 21 = .ok (.if_icmp .eq 17, 3) := by decide +kernel
theorem dX10_lay_24 : decode cX10_lay 24 = .ok (.iload 4, 2) := by decide +kernel
theorem dX10_lay_26 : decode cX10_lay 26 = .ok (.bipush 32, 2) := by decide +kernel
theorem dX10_lay_28 : decode cX10_lay 28 = .ok (.if_icmp .lt 41, 3) := by decide +kernel
theorem dX10_lay_31 : decode cX10_lay 31 = .ok (.iload 4, 2) := by decide +kernel
theorem dX10_lay_33 : decode cX10_lay 33 = .ok (.bipush 126, 2) := by decide +kernel
theorem dX10_lay_35 : decode cX10_lay 35 = .ok (.if_icmp .gt 34, 3) := by decide +kernel
theorem dX10_lay_38 : decode cX10_lay 38 = .ok (.aload_n 0, 1) := by decide +kernel
theorem dX10_lay_39 : decode cX10_lay 39 = .ok (.getfield 11, 3) := by decide +kernel
theorem dX10_lay_42 : decode cX10_lay 42 = .ok (.sipush 1000, 3) := by decide +kernel
theorem dX10_lay_45 : decode cX10_lay 45 = .ok (.if_icmp .ge 24, 3) := by decide +kernel
theorem dX10_lay_48 : decode cX10_lay 48 = .ok (.aload_n 0, 1) := by decide +kernel
theorem dX10_lay_49 : decode cX10_lay 49 = .ok (.getfield 14, 3) := by decide +kernel
theorem dX10_lay_52 : decode cX10_lay 52 = .ok (.aload_n 0, 1) := by decide +kernel
theorem dX10_lay_53 : decode cX10_lay 53 = .ok (.getfield 11, 3) := by decide +kernel
theorem dX10_lay_56 : decode cX10_lay 56 = .ok (.iload 4, 2) := by decide +kernel
theorem dX10_lay_58 : decode cX10_lay 58 = .ok (.iastore, 1) := by decide +kernel
theorem dX10_lay_59 : decode cX10_lay 59 = .ok (.aload_n 0, 1) := by decide +kernel
theorem dX10_lay_60 : decode cX10_lay 60 = .ok (.dup, 1) := by decide +kernel
theorem dX10_lay_61 : decode cX10_lay 61 = .ok (.getfield 11, 3) := by decide +kernel
theorem dX10_lay_64 : decode cX10_lay 64 = .ok (.iconst 1, 1) := by decide +kernel
theorem dX10_lay_65 : decode cX10_lay 65 = .ok (.iadd, 1) := by decide +kernel
theorem dX10_lay_66 : decode cX10_lay 66 = .ok (.putfield 11, 3) := by decide +kernel
theorem dX10_lay_69 : decode cX10_lay 69 = .ok (.iinc 3 (-8), 3) := by decide +kernel
theorem dX10_lay_72 : decode cX10_lay 72 = .ok (.goto (-69), 3) := by decide +kernel
theorem dX10_lay_75 : decode cX10_lay 75 = .ok (.return_, 1) := by decide +kernel
theorem dL_law_40 : decode cL_law 40 = .ok (.tableswitch 1459 0 29 #[136, 283, 348, 385, 422, 495, 556, 581, 618, 698, 735, 772, 809, 834, 871, 908, 945, 982, 1007, 1020, 1045, 1110, 1147, 1196, 1221, 1246, 1295, 1384, 1409, 1434], 136) := by decide +kernel
theorem dL_law_176 : decode cL_law 176 = .ok (.aload_n 1, 1) := by decide +kernel
theorem dL_law_177 : decode cL_law 177 = .ok (.aload_n 0, 1) := by decide +kernel
theorem dL_law_178 : decode cL_law 178 = .ok (.iload 4, 2) := by decide +kernel
theorem dL_law_180 : decode cL_law 180 = .ok (.iconst 1, 1) := by decide +kernel
theorem dL_law_181 : decode cL_law 181 = .ok (.iadd, 1) := by decide +kernel
theorem dL_law_182 : decode cL_law 182 = .ok (.iaload, 1) := by decide +kernel
theorem dL_law_183 : decode cL_law 183 = .ok (.i2l, 1) := by decide +kernel
theorem dL_law_184 : decode cL_law 184 = .ok (.bipush 32, 2) := by decide +kernel
theorem dL_law_186 : decode cL_law 186 = .ok (.lshl, 1) := by decide +kernel
theorem dL_law_187 : decode cL_law 187 = .ok (.aload_n 0, 1) := by decide +kernel
theorem dL_law_188 : decode cL_law 188 = .ok (.iload 4, 2) := by decide +kernel
theorem dL_law_190 : decode cL_law 190 = .ok (.iconst 2, 1) := by decide +kernel
theorem dL_law_191 : decode cL_law 191 = .ok (.iadd, 1) := by decide +kernel
theorem dL_law_192 : decode cL_law 192 = .ok (.iaload, 1) := by decide +kernel
theorem dL_law_193 : decode cL_law 193 = .ok (.i2l, 1) := by decide +kernel
theorem dL_law_194 : decode cL_law 194 = .ok (.ldc2_w 19, 3) := by decide +kernel
theorem dL_law_197 : decode cL_law 197 = .ok (.land, 1) := by decide +kernel
theorem dL_law_198 : decode cL_law 198 = .ok (.lor, 1) := by decide +kernel
theorem dL_law_199 : decode cL_law 199 = .ok (.aload_n 0, 1) := by decide +kernel
theorem dL_law_200 : decode cL_law 200 = .ok (.iload 4, 2) := by decide +kernel
theorem dL_law_202 : decode cL_law 202 = .ok (.iconst 3, 1) := by decide +kernel
theorem dL_law_203 : decode cL_law 203 = .ok (.iadd, 1) := by decide +kernel
theorem dL_law_204 : decode cL_law 204 = .ok (.iaload, 1) := by decide +kernel
theorem dL_law_205 : decode cL_law 205 = .ok (.i2l, 1) := by decide +kernel
theorem dL_law_206 : decode cL_law 206 = .ok (.bipush 32, 2) := by decide +kernel
theorem dL_law_208 : decode cL_law 208 = .ok (.lshl, 1) := by decide +kernel
theorem dL_law_209 : decode cL_law 209 = .ok (.aload_n 0, 1) := by decide +kernel
theorem dL_law_210 : decode cL_law 210 = .ok (.iload 4, 2) := by decide +kernel
theorem dL_law_212 : decode cL_law 212 = .ok (.iconst 4, 1) := by decide +kernel
theorem dL_law_213 : decode cL_law 213 = .ok (.iadd, 1) := by decide +kernel
theorem dL_law_214 : decode cL_law 214 = .ok (.iaload, 1) := by decide +kernel
theorem dL_law_215 : decode cL_law 215 = .ok (.i2l, 1) := by decide +kernel
theorem dL_law_216 : decode cL_law 216 = .ok (.ldc2_w 19, 3) := by decide +kernel
theorem dL_law_219 : decode cL_law 219 = .ok (.land, 1) := by decide +kernel
theorem dL_law_220 : decode cL_law 220 = .ok (.lor, 1) := by decide +kernel
theorem dL_law_221 : decode cL_law 221 = .ok (.aload_n 0, 1) := by decide +kernel
theorem dL_law_222 : decode cL_law 222 = .ok (.iload 4, 2) := by decide +kernel
theorem dL_law_224 : decode cL_law 224 = .ok (.iconst 5, 1) := by decide +kernel
theorem dL_law_225 : decode cL_law 225 = .ok (.iadd, 1) := by decide +kernel
theorem dL_law_226 : decode cL_law 226 = .ok (.iaload, 1) := by decide +kernel
theorem dL_law_227 : decode cL_law 227 = .ok (.i2l, 1) := by decide +kernel
theorem dL_law_228 : decode cL_law 228 = .ok (.bipush 32, 2) := by decide +kernel
theorem dL_law_230 : decode cL_law 230 = .ok (.lshl, 1) := by decide +kernel
theorem dL_law_231 : decode cL_law 231 = .ok (.aload_n 0, 1) := by decide +kernel
theorem dL_law_232 : decode cL_law 232 = .ok (.iload 4, 2) := by decide +kernel
theorem dL_law_234 : decode cL_law 234 = .ok (.bipush 6, 2) := by decide +kernel
theorem dL_law_236 : decode cL_law 236 = .ok (.iadd, 1) := by decide +kernel
theorem dL_law_237 : decode cL_law 237 = .ok (.iaload, 1) := by decide +kernel
theorem dL_law_238 : decode cL_law 238 = .ok (.i2l, 1) := by decide +kernel
theorem dL_law_239 : decode cL_law 239 = .ok (.ldc2_w 19, 3) := by decide +kernel
theorem dL_law_242 : decode cL_law 242 = .ok (.land, 1) := by decide +kernel
theorem dL_law_243 : decode cL_law 243 = .ok (.lor, 1) := by decide +kernel
theorem dL_law_244 : decode cL_law 244 = .ok (.invokevirtual 21, 3) := by decide +kernel
theorem dL_law_247 : decode cL_law 247 = .ok (.aload_n 2, 1) := by decide +kernel
theorem dL_law_248 : decode cL_law 248 = .ok (.aload_n 0, 1) := by decide +kernel
theorem dL_law_249 : decode cL_law 249 = .ok (.iload 4, 2) := by decide +kernel
theorem dL_law_251 : decode cL_law 251 = .ok (.iconst 1, 1) := by decide +kernel
theorem dL_law_252 : decode cL_law 252 = .ok (.iadd, 1) := by decide +kernel
theorem dL_law_253 : decode cL_law 253 = .ok (.iaload, 1) := by decide +kernel
theorem dL_law_254 : decode cL_law 254 = .ok (.i2l, 1) := by decide +kernel
theorem dL_law_255 : decode cL_law 255 = .ok (.bipush 32, 2) := by decide +kernel
theorem dL_law_257 : decode cL_law 257 = .ok (.lshl, 1) := by decide +kernel
theorem dL_law_258 : decode cL_law 258 = .ok (.aload_n 0, 1) := by decide +kernel
theorem dL_law_259 : decode cL_law 259 = .ok (.iload 4, 2) := by decide +kernel
theorem dL_law_261 : decode cL_law 261 = .ok (.iconst 2, 1) := by decide +kernel
theorem dL_law_262 : decode cL_law 262 = .ok (.iadd, 1) := by decide +kernel
theorem dL_law_263 : decode cL_law 263 = .ok (.iaload, 1) := by decide +kernel
theorem dL_law_264 : decode cL_law 264 = .ok (.i2l, 1) := by decide +kernel
theorem dL_law_265 : decode cL_law 265 = .ok (.ldc2_w 19, 3) := by decide +kernel
theorem dL_law_268 : decode cL_law 268 = .ok (.land, 1) := by decide +kernel
theorem dL_law_269 : decode cL_law 269 = .ok (.lor, 1) := by decide +kernel
theorem dL_law_270 : decode cL_law 270 = .ok (.aload_n 0, 1) := by decide +kernel
theorem dL_law_271 : decode cL_law 271 = .ok (.iload 4, 2) := by decide +kernel
theorem dL_law_273 : decode cL_law 273 = .ok (.iconst 3, 1) := by decide +kernel
theorem dL_law_274 : decode cL_law 274 = .ok (.iadd, 1) := by decide +kernel
theorem dL_law_275 : decode cL_law 275 = .ok (.iaload, 1) := by decide +kernel
theorem dL_law_276 : decode cL_law 276 = .ok (.i2l, 1) := by decide +kernel
theorem dL_law_277 : decode cL_law 277 = .ok (.bipush 32, 2) := by decide +kernel
theorem dL_law_279 : decode cL_law 279 = .ok (.lshl, 1) := by decide +kernel
theorem dL_law_280 : decode cL_law 280 = .ok (.aload_n 0, 1) := by decide +kernel
theorem dL_law_281 : decode cL_law 281 = .ok (.iload 4, 2) := by decide +kernel
theorem dL_law_283 : decode cL_law 283 = .ok (.iconst 4, 1) := by decide +kernel
theorem dL_law_284 : decode cL_law 284 = .ok (.iadd, 1) := by decide +kernel
theorem dL_law_285 : decode cL_law 285 = .ok (.iaload, 1) := by decide +kernel
theorem dL_law_286 : decode cL_law 286 = .ok (.i2l, 1) := by decide +kernel
theorem dL_law_287 : decode cL_law 287 = .ok (.ldc2_w 19, 3) := by decide +kernel
theorem dL_law_290 : decode cL_law 290 = .ok (.land, 1) := by decide +kernel
theorem dL_law_291 : decode cL_law 291 = .ok (.lor, 1) := by decide +kernel
theorem dL_law_292 : decode cL_law 292 = .ok (.aload_n 0, 1) := by decide +kernel
theorem dL_law_293 : decode cL_law 293 = .ok (.iload 4, 2) := by decide +kernel
theorem dL_law_295 : decode cL_law 295 = .ok (.iconst 5, 1) := by decide +kernel
theorem dL_law_296 : decode cL_law 296 = .ok (.iadd, 1) := by decide +kernel
theorem dL_law_297 : decode cL_law 297 = .ok (.iaload, 1) := by decide +kernel
theorem dL_law_298 : decode cL_law 298 = .ok (.i2l, 1) := by decide +kernel
theorem dL_law_299 : decode cL_law 299 = .ok (.bipush 32, 2) := by decide +kernel
theorem dL_law_301 : decode cL_law 301 = .ok (.lshl, 1) := by decide +kernel
theorem dL_law_302 : decode cL_law 302 = .ok (.aload_n 0, 1) := by decide +kernel
theorem dL_law_303 : decode cL_law 303 = .ok (.iload 4, 2) := by decide +kernel
theorem dL_law_305 : decode cL_law 305 = .ok (.bipush 6, 2) := by decide +kernel
theorem dL_law_307 : decode cL_law 307 = .ok (.iadd, 1) := by decide +kernel
theorem dL_law_308 : decode cL_law 308 = .ok (.iaload, 1) := by decide +kernel
theorem dL_law_309 : decode cL_law 309 = .ok (.i2l, 1) := by decide +kernel
theorem dL_law_310 : decode cL_law 310 = .ok (.ldc2_w 19, 3) := by decide +kernel
theorem dL_law_313 : decode cL_law 313 = .ok (.land, 1) := by decide +kernel
theorem dL_law_314 : decode cL_law 314 = .ok (.lor, 1) := by decide +kernel
theorem dL_law_315 : decode cL_law 315 = .ok (.invokevirtual 25, 3) := by decide +kernel
theorem dL_law_318 : decode cL_law 318 = .ok (.if_icmp .eq 1181, 3) := by decide +kernel
theorem dL_law_321 : decode cL_law 321 = .ok (.iconst 0, 1) := by decide +kernel
theorem dL_law_322 : decode cL_law 322 = .ok (.ireturn, 1) := by decide +kernel
theorem zf_len : Cond.fieldLink RX7 15 "NamesUnder$Tape" "length" "I" ∈ zT := zin_ok (i := 156) (by decide +kernel)
theorem zf_sig : Cond.fieldLink RX7 9 "NamesUnder$Tape" "signs" "[C" ∈ zT := zin_ok (i := 152) (by decide +kernel)
theorem zf_tap : Cond.fieldLink RX9 10 "NamesUnder" "tape" "LNamesUnder$Tape;" ∈ zT := zin_ok (i := 521) (by decide +kernel)
theorem zf_len9 : Cond.fieldLink RX9 81 "NamesUnder$Tape" "length" "I" ∈ zT := zin_ok (i := 157) (by decide +kernel)
theorem zf_thr : Cond.fieldLink RX10 1 "NamesUnderModel" "thrown" "I" ∈ zT := zin_ok (i := 1294) (by decide +kernel)
theorem zf_tpd : Cond.fieldLink RX10 11 "NamesUnderModel" "taped" "I" ∈ zT := zin_ok (i := 1296) (by decide +kernel)
theorem zf_tp : Cond.fieldLink RX10 14 "NamesUnderModel" "tape" "[I" ∈ zT := zin_ok (i := 1295) (by decide +kernel)
theorem zw_add : ∀ w ∈ zcw RX7 25 2 yX7_addSign cX7_addSign 3 none, w ∈ zT := zchk_ok (is := [557, 559, 118, 560, 0]) (by decide +kernel)
theorem zw_take : ∀ w ∈ zcw RX9 77 2 yX7_take cX7_take 4 none, w ∈ zT := zchk_ok (is := [553, 554, 118, 556, 555]) (by decide +kernel)
theorem zw_lay : ∀ w ∈ zcw RX10 7 2 yX10_lay cX10_lay 5 none, w ∈ zT := zchk_ok (is := [1268, 1270, 127, 1272, 65]) (by decide +kernel)
theorem zw_feed : ∀ w ∈ zcw RL 21 2 yX9_feed cX9_feed 7 (some .int), w ∈ zT := zchk_ok (is := [549, 550, 117, 552, 551]) (by decide +kernel)
theorem zw_mfeed : ∀ w ∈ zcw RL 25 2 yX10_feed cX10_feed 7 (some .int), w ∈ zT := zchk_ok (is := [1264, 1265, 127, 1267, 1266]) (by decide +kernel)
theorem zf_msk : Cond.constantLong RL 19 4294967295 ∈ zT := zin_ok (i := 1814) (by decide +kernel)
end
section
/-! feed: how many signs come, by both -/
def zkb (x : Int32) : Nat := if x = 10 ∨ (¬ x < 32 ∧ ¬ 126 < x) then 1 else 0
theorem zkb_le (x : Int32) : zkb x ≤ 1 := by
  unfold zkb
  split <;> omega
def zsh (i : Nat) : Int32 := 56 - 8 * nI i
def zby (v : Int64) (i : Nat) : Int32 := (v.toUInt64 >>> ((zsh i).toInt64.toUInt64 &&& Int64.toUInt64 63)).toInt64.toInt32 &&& 255
def zbm (v : Int64) (i : Nat) : Int32 := (v >>> ((zsh i).toInt64 &&& 63)).toInt32 &&& 255
theorem zsh_nn : ∀ i, i < 8 → ¬ zsh i < 0 := by decide +kernel
theorem zsh_8 : zsh 8 < 0 := by decide +kernel
theorem zsh_dn : ∀ i, i < 8 → zsh i + Int32.ofInt (-8) = zsh (i + 1) := by decide +kernel
theorem zbits (k : Nat) (hk : k + 8 ≤ 64) (x : BitVec 64) : (x >>> k).setWidth 32 &&& 255#32 = (x.sshiftRight k).setWidth 32 &&& 255#32 := by
  apply BitVec.eq_of_getLsbD_eq
  intro j hj
  rw [BitVec.getLsbD_and, BitVec.getLsbD_and]
  by_cases h8 : j < 8
  · congr 1
    rw [BitVec.getLsbD_setWidth, BitVec.getLsbD_setWidth, BitVec.getLsbD_ushiftRight, BitVec.getLsbD_sshiftRight]
    have h1 : k + j < 64 := by omega
    simp [h1, show ¬ 64 ≤ j by omega]
  · have h2 : ∀ j, j < 32 → ¬ j < 8 → (255#32).getLsbD j = false := by decide +kernel
    rw [h2 j hj h8]
    simp
theorem zbyu (v : Int64) (k : Nat) (hk : k + 8 ≤ 64) : ((v.toUInt64 >>> UInt64.ofNat k).toInt64.toInt32 &&& 255).toBitVec = (v.toBitVec >>> k).setWidth 32 &&& 255#32 := by
  have hm : k % 18446744073709551616 % 64 = k := by omega
  rw [Int32.toBitVec_and]
  show (BitVec.signExtend 32 (v.toUInt64 >>> UInt64.ofNat k).toBitVec) &&& 255#32 = _
  rw [BitVec.signExtend_eq_setWidth_of_le _ (by decide), UInt64.toBitVec_shiftRight]
  congr 2
  show v.toBitVec >>> ((UInt64.ofNat k).toBitVec % 64#64) = _
  rw [BitVec.ushiftRight_eq']
  congr 1
theorem zbys (v : Int64) (k : Nat) (hk : k + 8 ≤ 64) : ((v >>> Int64.ofNat k).toInt32 &&& 255).toBitVec = (v.toBitVec.sshiftRight k).setWidth 32 &&& 255#32 := by
  have hm : ∀ k, k < 57 → ((Int64.ofNat k).toBitVec.smod 64).toNat = k := by decide +kernel
  rw [Int32.toBitVec_and]
  show (BitVec.signExtend 32 (v >>> Int64.ofNat k).toBitVec) &&& 255#32 = _
  rw [BitVec.signExtend_eq_setWidth_of_le _ (by decide), Int64.toBitVec_shiftRight]
  congr 2
  show v.toBitVec.sshiftRight ((Int64.ofNat k).toBitVec.smod 64).toNat = _
  rw [hm k (by omega)]
theorem zbyte (v : Int64) : ∀ i, i < 8 → zby v i = zbm v i := by
  intro i hi
  have key : ∀ k : Nat, k + 8 ≤ 64 → (zsh i).toInt64.toUInt64 &&& Int64.toUInt64 63 = UInt64.ofNat k → (zsh i).toInt64 &&& 63 = Int64.ofNat k → zby v i = zbm v i := by
    intro k hk e1 e2
    unfold zby zbm
    rw [e1, e2]
    apply Int32.toBitVec_inj.mp
    rw [zbyu v k hk, zbys v k hk, zbits k hk v.toBitVec]
  have e : ∀ i, i < 8 → (zsh i).toInt64.toUInt64 &&& Int64.toUInt64 63 = UInt64.ofNat (56 - 8 * i) ∧ (zsh i).toInt64 &&& 63 = Int64.ofNat (56 - 8 * i) := by decide +kernel
  exact key (56 - 8 * i) (by omega) (e i hi).1 (e i hi).2
noncomputable def zcn (f : Nat → Int32) (n : Nat) : Nat := Nat.rec (motive := fun _ => Nat) 0 (fun i a => a + zkb (f i)) n
theorem zcn_s (f : Nat → Int32) (n : Nat) : zcn f (n + 1) = zcn f n + zkb (f n) := rfl
theorem zcn_le (f : Nat → Int32) (n : Nat) : zcn f n ≤ n := by
  induction n with
  | zero => exact Nat.le_refl 0
  | succ n ih =>
    rw [zcn_s]
    have := zkb_le (f n)
    omega
theorem zcn_eq {f g : Nat → Int32} : ∀ n, (∀ i, i < n → f i = g i) → zcn f n = zcn g n := by
  intro n
  induction n with
  | zero => exact fun _ => rfl
  | succ n ih =>
    intro h
    rw [zcn_s, zcn_s, ih (fun i hi => h i (by omega)), h n (by omega)]
abbrev zwt (cA : Nat → ClassId) (t sg : Nat) (gs : List Value) (f : Nat → Int32) : va_W := [(t, .inr (6, gs)), (sg, .inl (cA 2, 1000, .inl f))]
def zgt (sg n : Nat) (gs : List Value) : Prop := gs[0]? = some (.ref sg) ∧ gs[1]? = some (.int (nI n)) ∧ gs.length = 4
def zqt (cA : Nat → ClassId) (t sg n : Nat) (u : va_W) : Prop := ∃ (gs : List Value) (f : Nat → Int32), u = zwt cA t sg gs f ∧ zgt sg n gs
theorem zgt_put {sg n : Nat} {gs : List Value} (h : zgt sg n gs) (x : Int32) (hx : x = nI (n + 1)) : zgt sg (n + 1) (gs.set 1 (.int x)) := by
  obtain ⟨h0, h1, h4⟩ := h
  have hl : 1 < gs.length := by omega
  refine ⟨?_, ?_, by simp [h4]⟩
  · rw [List.getElem?_set_ne (by decide)]
    exact h0
  · rw [List.getElem?_set_self hl, hx]
set_option maxHeartbeats 4000000 in
theorem zc_add (l : Launch) (dC : Nat → ClassId) (dI : Nat → Nat → Nat) (cA : Nat → ClassId) (d t sg n : Nat) (gs : List Value) (f : Nat → Int32) (x : Int32) (sz : Nat) (hn : n < 1000) (hg : zgt sg n gs) :
    Met l yX7_addSign (.code yX7_addSign cX7_addSign 3 none :: zT) { frames := d, cells := 0, slots := 0, locals := 40 * d } (va_Pc [.ref t, .int x] (zB dC dI cA (zwt cA t sg gs f) sz)) (va_Qv (zqt cA t sg (n + zkb x)) (zend dC dI cA (va_A (zwt cA t sg gs f) sz)) (va_A (zwt cA t sg gs f) sz)) 0 0 (va_A (zwt cA t sg gs f) sz) := by
  refine Met.ofW (cc := cX7_addSign) (maxL := 3) (ret := none) (by decide) rfl ?_
  intro p e s m args below meth c s₁ B hml hv
  obtain ⟨rfl, hsz, hP, hK, hD0, hz9⟩ := hv
  have hx := B.exec
  have hb := B.bytes
  have hr := B.returns
  have hts : ∀ w ∈ zT, w.before _ s = true := fun w hw => atoms_spec (ws := .code yX7_addSign cX7_addSign 3 none :: zT) B.pre w (List.mem_cons_of_mem _ hw)
  have hown : s.vm.findClass RX7 = some m.cls := findClass_of_methodNamed B.named
  have hlocks := B.notSynchronized
  subst hsz
  have hD := hD0.self (sz := s.heap.size)
  generalize va_A (zwt cA t sg gs f) s.heap.size = A at hD ⊢
  have hS : va_S A s.heap s.heap [] := va_S.rf
  have hl := lv_entry ([.ref t, .int x]) (n := 3) (Nat.le_of_ble_eq_true rfl)
  rw [lg_entry_eq]
  generalize (lg_sl ([.ref t, .int x]) ++ List.replicate (3 - (lg_sl ([.ref t, .int x])).length) Slot.unset).toArray = ls at hl ⊢
  have hl : lv_has ls 3 [(0, .ref t), (1, .int x)] := hl
  have hend : ∀ (gs' : List Value) (f' : Nat → Int32) (H : Heap) (locs : List Loc) (ls : Array Slot), zgt sg (n + zkb x) gs' → va_P (dC, dI) vwCl (zwt cA t sg gs' f') H → va_D A (zwt cA t sg gs' f') → va_S A s.heap H locs → W p l e { frames := d, cells := 0, slots := 0, locals := 40 * d } s m [Value.ref t, Value.int x].toArray below meth c H locs 0 0 (MQ below (va_Qv (zqt cA t sg (n + zkb x)) (zend dC dI cA A) A) [Value.ref t, Value.int x].toArray s 0 0 A) (F0 m 59 ls []) := by
    intro gs' f' H locs ls hg' hP' hD' hS'
    exact W.vret hx hb hr (fun t9 ht hW => ⟨⟨_, rfl, ⟨gs', f', rfl, hg'⟩, by rw [ht]; exact hP', va_K.moved hW.alike hK, hD'⟩, hS'.F ht⟩) hS'.2.2 dX7_addSign_59
  have hno : zkb x = 0 → W p l e { frames := d, cells := 0, slots := 0, locals := 40 * d } s m [Value.ref t, Value.int x].toArray below meth c s.heap [] 0 0 (MQ below (va_Qv (zqt cA t sg (n + zkb x)) (zend dC dI cA A) A) [Value.ref t, Value.int x].toArray s 0 0 A) (F0 m 22 ls []) := by
    intro h0
    refine lv_iconst (v := 0) hx hb dX7_addSign_22 (by decide) ?_
    refine lv_istore_n (lv' := [(2, .int 0), (0, .ref t), (1, .int x)]) hx hb dX7_addSign_23 rfl hl (by decide) rfl (fun ls hl => ?_)
    refine lv_iload_n hx hb dX7_addSign_24 rfl (lv_at hl 0 rfl) ?_
    refine lv_if_eq (tgt := 59) hx hb dX7_addSign_25 (by decide) (fun _ => ?_) (fun c9 => absurd rfl c9)
    exact hend gs f s.heap [] ls (by rw [h0]; exact hg) hP hD hS
  have hyes : zkb x = 1 → W p l e { frames := d, cells := 0, slots := 0, locals := 40 * d } s m [Value.ref t, Value.int x].toArray below meth c s.heap [] 0 0 (MQ below (va_Qv (zqt cA t sg (n + zkb x)) (zend dC dI cA A) A) [Value.ref t, Value.int x].toArray s 0 0 A) (F0 m 18 ls []) := by
    intro h1
    refine lv_iconst (v := 1) hx hb dX7_addSign_18 (by decide) ?_
    refine lv_goto (tgt := 23) hx hb dX7_addSign_19 (by decide) ?_
    refine lv_istore_n (lv' := [(2, .int 1), (0, .ref t), (1, .int x)]) hx hb dX7_addSign_23 rfl hl (by decide) rfl (fun ls hl => ?_)
    refine lv_iload_n hx hb dX7_addSign_24 rfl (lv_at hl 0 rfl) ?_
    refine lv_if_eq (tgt := 59) hx hb dX7_addSign_25 (by decide) (fun c9 => absurd c9 (by decide)) (fun _ => ?_)
    refine lv_aload_n hx hb dX7_addSign_28 rfl (lv_at hl 1 rfl) ?_
    refine va_get (D := (dC, dI)) (ci := 6) (v := .int (nI n)) (C := RX7) (T := TX7) (N := 4) hx hb hts zin6 hown hK hP 0 rfl rfl 1 (by decide) (hts _ zf_len) (fun _ h9 => h9) hg.2.1 dX7_addSign_29 ?_
    refine lv_sipush (v := 1000) hx hb dX7_addSign_32 (by decide) ?_
    refine lv_icmp_ge (tgt := 59) hx hb dX7_addSign_35 (by decide) (fun c9 => absurd c9 (nI_ge (a := n) (b := 1000) hn (by decide))) (fun _ => ?_)
    refine lv_aload_n hx hb dX7_addSign_38 rfl (lv_at hl 1 rfl) ?_
    refine va_get (D := (dC, dI)) (ci := 6) (v := .ref sg) (C := RX7) (T := TX7) (N := 4) hx hb hts zin6 hown hK hP 0 rfl rfl 0 (by decide) (hts _ zf_sig) (fun _ h9 => h9) hg.1 dX7_addSign_39 ?_
    refine lv_aload_n hx hb dX7_addSign_42 rfl (lv_at hl 1 rfl) ?_
    refine va_get (D := (dC, dI)) (ci := 6) (v := .int (nI n)) (C := RX7) (T := TX7) (N := 4) hx hb hts zin6 hown hK hP 0 rfl rfl 1 (by decide) (hts _ zf_len) (fun _ h9 => h9) hg.2.1 dX7_addSign_43 ?_
    refine lv_iload_n hx hb dX7_addSign_46 rfl (lv_at hl 2 rfl) ?_
    refine lv_i2c hx hb dX7_addSign_47 rfl ?_
    refine va_cast hx hb hK hP hD hS 1 2 rfl rfl (vp_in_nI hn (by decide)) dX7_addSign_48 (fun H locs hP hD hS => ?_)
    obtain ⟨f2, hf2⟩ : ∃ f2 : Nat → Int32, f2 = upd f (nI n).toNatClampNeg (vp_nar .char ((x.toUInt32 % 65536).toInt32)) := ⟨_, rfl⟩
    rw [← hf2] at hP hD
    have hP : va_P (dC, dI) vwCl (zwt cA t sg gs f2) H := hP
    have hD : va_D A (zwt cA t sg gs f2) := hD
    refine lv_aload_n hx hb dX7_addSign_49 rfl (lv_at hl 1 rfl) ?_
    refine lv_dup hx hb dX7_addSign_50 rfl ?_
    refine va_get (D := (dC, dI)) (ci := 6) (v := .int (nI n)) (C := RX7) (T := TX7) (N := 4) hx hb hts zin6 hown hK hP 0 rfl rfl 1 (by decide) (hts _ zf_len) (fun _ h9 => h9) hg.2.1 dX7_addSign_51 ?_
    refine lv_iconst (v := 1) hx hb dX7_addSign_54 (by decide) ?_
    refine lv_iadd hx hb dX7_addSign_55 ?_
    refine lv_topi (fun x1 ex1 => ?_)
    refine va_put (D := (dC, dI)) (ci := 6) (v := .int x1) (ty := .int) (C := RX7) (T := TX7) (N := 4) hx hb hts zin6 tyX7 tyX7_ok nmX7 hown hK hP hD hS 0 rfl rfl 1 (by decide) (hts _ zf_len) (fun _ h9 => h9) rfl (by decide +kernel) rfl rfl (by rw [hg.2.2]; decide) dX7_addSign_56 (fun H locs hP hD hS => ?_)
    have hP : va_P (dC, dI) vwCl (zwt cA t sg (gs.set 1 (.int x1)) f2) H := hP
    have hD : va_D A (zwt cA t sg (gs.set 1 (.int x1)) f2) := hD
    exact hend _ f2 H locs ls (by rw [h1]; exact zgt_put hg x1 (ex1.trans (nI_1 n))) hP hD hS
  have hP : va_P (dC, dI) vwCl (zwt cA t sg gs f) s.heap := hP
  refine lv_iload_n hx hb dX7_addSign_0 rfl (lv_at hl 1 rfl) ?_
  refine lv_bipush (v := 10) hx hb dX7_addSign_1 (by decide) ?_
  refine lv_icmp_eq (tgt := 18) hx hb dX7_addSign_3 (by decide) (fun c1 => hyes (by unfold zkb; rw [if_pos (Or.inl c1)])) (fun c1 => ?_)
  refine lv_iload_n hx hb dX7_addSign_6 rfl (lv_at hl 1 rfl) ?_
  refine lv_bipush (v := 32) hx hb dX7_addSign_7 (by decide) ?_
  refine lv_icmp_lt (tgt := 22) hx hb dX7_addSign_9 (by decide) (fun c2 => hno (by unfold zkb; rw [if_neg (fun q => q.elim c1 (fun z => z.1 c2))])) (fun c2 => ?_)
  refine lv_iload_n hx hb dX7_addSign_12 rfl (lv_at hl 1 rfl) ?_
  refine lv_bipush (v := 126) hx hb dX7_addSign_13 (by decide) ?_
  refine lv_icmp_gt (tgt := 22) hx hb dX7_addSign_15 (by decide) (fun c3 => hno (by unfold zkb; rw [if_neg (fun q => q.elim c1 (fun z => z.2 c3))])) (fun c3 => ?_)
  exact hyes (by unfold zkb; rw [if_pos (Or.inr ⟨c2, c3⟩)])
set_option maxHeartbeats 4000000 in
theorem zc_take (l : Launch) (dC : Nat → ClassId) (dI : Nat → Nat → Nat) (cA : Nat → ClassId) (d t sg n : Nat) (gs : List Value) (f : Nat → Int32) (v : Int64) (sz : Nat) (hn : n + 8 ≤ 1000) (hg : zgt sg n gs) :
    Met l yX7_take (.code yX7_take cX7_take 4 none :: zT) { frames := d + 1, cells := 0, slots := 0, locals := 40 * (d + 1) } (va_Pc [.ref t, .long v] (zB dC dI cA (zwt cA t sg gs f) sz)) (va_Qv (zqt cA t sg (n + zcn (zby v) 8)) (zend dC dI cA (va_A (zwt cA t sg gs f) sz)) (va_A (zwt cA t sg gs f) sz)) 0 0 (va_A (zwt cA t sg gs f) sz) := by
  refine Met.ofW (cc := cX7_take) (maxL := 4) (ret := none) (by decide) rfl ?_
  intro p e s m args below meth c s₁ B hml hv
  obtain ⟨rfl, hsz, hP, hK, hD0, hz9⟩ := hv
  have hx := B.exec
  have hb := B.bytes
  have hr := B.returns
  have hts : ∀ w ∈ zT, w.before _ s = true := fun w hw => atoms_spec (ws := .code yX7_take cX7_take 4 none :: zT) B.pre w (List.mem_cons_of_mem _ hw)
  have hown : s.vm.findClass RX7 = some m.cls := findClass_of_methodNamed B.named
  have hlocks := B.notSynchronized
  subst hsz
  have hD := hD0.self (sz := s.heap.size)
  have hA : ∀ q, s.heap.size ≤ q → va_A (zwt cA t sg gs f) s.heap.size q := fun q h => Or.inr h
  generalize va_A (zwt cA t sg gs f) s.heap.size = A at hD hA ⊢
  have hS : va_S A s.heap s.heap [] := va_S.rf
  have hl := lv_entry ([.ref t, .long v]) (n := 4) (Nat.le_of_ble_eq_true rfl)
  rw [lg_entry_eq]
  generalize (lg_sl ([.ref t, .long v]) ++ List.replicate (4 - (lg_sl ([.ref t, .long v])).length) Slot.unset).toArray = ls at hl ⊢
  have hl : lv_has ls 4 [(0, .ref t), (1, .long v)] := hl
  have loop : ∀ (k i : Nat), i + k = 8 → ∀ (gs' : List Value) (f' : Nat → Int32) (H : Heap) (locs : List Loc) (ls : Array Slot), zgt sg (n + zcn (zby v) i) gs' → va_P (dC, dI) vwCl (zwt cA t sg gs' f') H → va_D A (zwt cA t sg gs' f') → va_S A s.heap H locs → lv_has ls 4 [(3, .int (zsh i)), (0, .ref t), (1, .long v)] → W p l e { frames := d + 1, cells := 0, slots := 0, locals := 40 * (d + 1) } s m [Value.ref t, Value.long v].toArray below meth c H locs 0 0 (MQ below (va_Qv (zqt cA t sg (n + zcn (zby v) 8)) (zend dC dI cA A) A) [Value.ref t, Value.long v].toArray s 0 0 A) (F0 m 3 ls []) := by
    intro k
    induction k with
    | zero =>
      intro i hi gs' f' H locs ls hg' hP' hD' hS' hl'
      have e8 : i = 8 := by omega
      subst e8
      refine lv_iload_n hx hb dX7_take_3 rfl (lv_at hl' 0 rfl) ?_
      refine lv_if_lt (tgt := 25) hx hb dX7_take_4 (by decide) (fun _ => ?_) (fun c9 => absurd zsh_8 c9)
      exact W.vret hx hb hr (fun t9 ht hW => ⟨⟨_, rfl, ⟨gs', f', rfl, hg'⟩, by rw [ht]; exact hP', va_K.moved hW.alike hK, hD'⟩, hS'.F ht⟩) hS'.2.2 dX7_take_25
    | succ k ih =>
      intro i hi gs' f' H locs ls hg' hP' hD' hS' hl'
      have hi8 : i < 8 := by omega
      have hcl := zcn_le (zby v) i
      refine lv_iload_n hx hb dX7_take_3 rfl (lv_at hl' 0 rfl) ?_
      refine lv_if_lt (tgt := 25) hx hb dX7_take_4 (by decide) (fun c9 => absurd c9 (zsh_nn i hi8)) (fun _ => ?_)
      refine lv_aload_n hx hb dX7_take_7 rfl (lv_at hl' 1 rfl) ?_
      refine lv_lload_n hx hb dX7_take_8 rfl (lv_at hl' 2 rfl) ?_
      refine lv_iload_n hx hb dX7_take_9 rfl (lv_at hl' 0 rfl) ?_
      refine lv_lushr hx hb dX7_take_10 rfl ?_
      refine lv_l2i hx hb dX7_take_11 rfl ?_
      refine lv_sipush (v := 255) hx hb dX7_take_12 (by decide) ?_
      refine lv_iand hx hb dX7_take_15 ?_
      have hM := zc_add l dC dI cA d t sg (n + zcn (zby v) i) gs' f' (zby v i) H.size (by omega) hg'
      have hR9 := zrun (e := e) (below := below) (meth := meth) (locs := locs) (nc := 0) (ns := 0) (own := RX7) (idx := 25) (kd := 2) (n := 1) (R := { frames := d + 1, cells := 0, slots := 0, locals := 40 * (d + 1) }) (cst := [.int (zby v i), .ref t]) (crest := []) (ls := ls) hx hb hml hown hts hK hP' hD' hl'.1 hM hz9 zw_add (fun q => by omega) (by decide +kernel) (by decide) (fun q => by omega) ⟨Nat.le_refl _, Nat.le_refl _⟩ ⟨Nat.le_refl _, Nat.le_refl _⟩ rfl (by decide) rfl (fun _ => ⟨t, _, rfl, fun _ => va_recv hK hP' (ci := 6) (q0 := 0) rfl rfl⟩) (Or.inr (Or.inl ⟨rfl, rfl⟩)) dX7_take_16
      have hF := zfree hD' hS' hA
      refine va_callv hR9 hS' (fun q _ h => hF q h) hF (fun u t9 H1 locs1 ht hvm hw hB hz1 hk1 hS1 => ?_)
      obtain ⟨gs2, f2, rfl, hg2⟩ := hw
      obtain ⟨hP1, hK1, hD1⟩ := hB
      rw [ht] at hP1
      refine lv_iinc (v := zsh (i + 1)) (lv' := [(3, .int (zsh (i + 1))), (0, .ref t), (1, .long v)]) hx hb dX7_take_19 hl' (k := 0) rfl (zsh_dn i hi8) (by decide) rfl (fun ls2 hl2 => ?_)
      refine lv_goto (tgt := 3) hx hb dX7_take_22 (by decide) ?_
      exact ih (i + 1) (by omega) gs2 f2 H1 locs1 ls2 (by rw [zcn_s, ← Nat.add_assoc]; exact hg2) hP1 (hD1.weaken (fun _ q _ z => hF q.1 z)) hS1 hl2
  refine lv_bipush (v := 56) hx hb dX7_take_0 (by decide) ?_
  refine lv_istore_n (lv' := [(3, .int 56), (0, .ref t), (1, .long v)]) hx hb dX7_take_2 rfl hl (by decide) rfl (fun ls hl => ?_)
  exact loop 8 0 rfl gs f s.heap [] ls hg hP hD hS hl
end
section
/-! the reference's lay; both feeds -/
abbrev zwm (cA : Nat → ClassId) (o tp : Nat) (gs : List Value) (f : Nat → Int32) : va_W := [(o, .inr (9, gs)), (tp, .inl (cA 0, 1000, .inl f))]
def zgm (tp n : Nat) (gs : List Value) : Prop := gs[1]? = some (.ref tp) ∧ gs[2]? = some (.int (nI n)) ∧ gs.length = 58
def zqm (cA : Nat → ClassId) (o tp n : Nat) (u : va_W) : Prop := ∃ (gs : List Value) (f : Nat → Int32), u = zwm cA o tp gs f ∧ zgm tp n gs
theorem zgm_put {tp n : Nat} {gs : List Value} (h : zgm tp n gs) (x : Int32) (hx : x = nI (n + 1)) : zgm tp (n + 1) (gs.set 2 (.int x)) := by
  obtain ⟨h0, h1, h4⟩ := h
  have hl : 2 < gs.length := by omega
  refine ⟨?_, ?_, by simp [h4]⟩
  · rw [List.getElem?_set_ne (by decide)]
    exact h0
  · rw [List.getElem?_set_self hl, hx]
theorem zgm_thr {tp n : Nat} {gs : List Value} (h : zgm tp n gs) (x : Value) : zgm tp n (gs.set 0 x) := by
  obtain ⟨h0, h1, h4⟩ := h
  refine ⟨?_, ?_, by simp [h4]⟩
  · rw [List.getElem?_set_ne (by decide)]
    exact h0
  · rw [List.getElem?_set_ne (by decide)]
    exact h1
set_option maxHeartbeats 4000000 in
theorem zc_lay (l : Launch) (dC : Nat → ClassId) (dI : Nat → Nat → Nat) (cA : Nat → ClassId) (d o tp n : Nat) (gs : List Value) (f : Nat → Int32) (v : Int64) (sz : Nat) (hn : n + 8 ≤ 1000) (hg : zgm tp n gs) :
    Met l yX10_lay (.code yX10_lay cX10_lay 5 none :: zT) { frames := d, cells := 0, slots := 0, locals := 40 * d } (va_Pc [.ref o, .long v] (zB dC dI cA (zwm cA o tp gs f) sz)) (va_Qv (zqm cA o tp (n + zcn (zbm v) 8)) (zend dC dI cA (va_A (zwm cA o tp gs f) sz)) (va_A (zwm cA o tp gs f) sz)) 0 0 (va_A (zwm cA o tp gs f) sz) := by
  refine Met.ofW (cc := cX10_lay) (maxL := 5) (ret := none) (by decide) rfl ?_
  intro p e s m args below meth c s₁ B hml hv
  obtain ⟨rfl, hsz, hP, hK, hD0, hz9⟩ := hv
  have hx := B.exec
  have hb := B.bytes
  have hr := B.returns
  have hts : ∀ w ∈ zT, w.before _ s = true := fun w hw => atoms_spec (ws := .code yX10_lay cX10_lay 5 none :: zT) B.pre w (List.mem_cons_of_mem _ hw)
  have hown : s.vm.findClass RX10 = some m.cls := findClass_of_methodNamed B.named
  have hlocks := B.notSynchronized
  subst hsz
  have hD := hD0.self (sz := s.heap.size)
  have hA : ∀ q, s.heap.size ≤ q → va_A (zwm cA o tp gs f) s.heap.size q := fun q h => Or.inr h
  generalize va_A (zwm cA o tp gs f) s.heap.size = A at hD hA ⊢
  have hS : va_S A s.heap s.heap [] := va_S.rf
  have hl := lv_entry ([.ref o, .long v]) (n := 5) (Nat.le_of_ble_eq_true rfl)
  rw [lg_entry_eq]
  generalize (lg_sl ([.ref o, .long v]) ++ List.replicate (5 - (lg_sl ([.ref o, .long v])).length) Slot.unset).toArray = ls at hl ⊢
  have hl : lv_has ls 5 [(0, .ref o), (1, .long v)] := hl
  have loop : ∀ (k i : Nat), i + k = 8 → ∀ (gs' : List Value) (f' : Nat → Int32) (H : Heap) (locs : List Loc) (ls : Array Slot), zgm tp (n + zcn (zbm v) i) gs' → va_P (dC, dI) vwCl (zwm cA o tp gs' f') H → va_D A (zwm cA o tp gs' f') → va_S A s.heap H locs → lv_has ls 5 [(3, .int (zsh i)), (0, .ref o), (1, .long v)] → W p l e { frames := d, cells := 0, slots := 0, locals := 40 * d } s m [Value.ref o, Value.long v].toArray below meth c H locs 0 0 (MQ below (va_Qv (zqm cA o tp (n + zcn (zbm v) 8)) (zend dC dI cA A) A) [Value.ref o, Value.long v].toArray s 0 0 A) (F0 m 3 ls []) := by
    intro k
    induction k with
    | zero =>
      intro i hi gs' f' H locs ls hg' hP' hD' hS' hl'
      have e8 : i = 8 := by omega
      subst e8
      refine lv_iload_n hx hb dX10_lay_3 rfl (lv_at hl' 0 rfl) ?_
      refine lv_if_lt (tgt := 75) hx hb dX10_lay_4 (by decide) (fun _ => ?_) (fun c9 => absurd zsh_8 c9)
      exact W.vret hx hb hr (fun t9 ht hW => ⟨⟨_, rfl, ⟨gs', f', rfl, hg'⟩, by rw [ht]; exact hP', va_K.moved hW.alike hK, hD'⟩, hS'.F ht⟩) hS'.2.2 dX10_lay_75
    | succ k ih =>
      intro i hi gs' f' H locs ls hg' hP' hD' hS' hl'
      have hi8 : i < 8 := by omega
      have hcl := zcn_le (zbm v) i
      have nxt : ∀ (gs2 : List Value) (f2 : Nat → Int32) (H1 : Heap) (locs1 : List Loc) (ls2 : Array Slot), zgm tp (n + zcn (zbm v) (i + 1)) gs2 → va_P (dC, dI) vwCl (zwm cA o tp gs2 f2) H1 → va_D A (zwm cA o tp gs2 f2) → va_S A s.heap H1 locs1 → lv_has ls2 5 [(4, .int (zbm v i)), (3, .int (zsh i)), (0, .ref o), (1, .long v)] → W p l e { frames := d, cells := 0, slots := 0, locals := 40 * d } s m [Value.ref o, Value.long v].toArray below meth c H1 locs1 0 0 (MQ below (va_Qv (zqm cA o tp (n + zcn (zbm v) 8)) (zend dC dI cA A) A) [Value.ref o, Value.long v].toArray s 0 0 A) (F0 m 69 ls2 []) := by
        intro gs2 f2 H1 locs1 ls2 hg2 hP1 hD1 hS1 hl2
        refine lv_iinc (v := zsh (i + 1)) (lv' := [(3, .int (zsh (i + 1))), (4, .int (zbm v i)), (0, .ref o), (1, .long v)]) hx hb dX10_lay_69 hl2 (k := 1) rfl (zsh_dn i hi8) (by decide) rfl (fun ls3 hl3 => ?_)
        refine lv_goto (tgt := 3) hx hb dX10_lay_72 (by decide) ?_
        exact ih (i + 1) (by omega) gs2 f2 H1 locs1 ls3 hg2 hP1 hD1 hS1 (lv_sub hl3 [0, 2, 3] rfl)
      refine lv_iload_n hx hb dX10_lay_3 rfl (lv_at hl' 0 rfl) ?_
      refine lv_if_lt (tgt := 75) hx hb dX10_lay_4 (by decide) (fun c9 => absurd c9 (zsh_nn i hi8)) (fun _ => ?_)
      refine lv_lload_n hx hb dX10_lay_7 rfl (lv_at hl' 2 rfl) ?_
      refine lv_iload_n hx hb dX10_lay_8 rfl (lv_at hl' 0 rfl) ?_
      refine lv_lshr hx hb dX10_lay_9 rfl ?_
      refine lv_l2i hx hb dX10_lay_10 rfl ?_
      refine lv_sipush (v := 255) hx hb dX10_lay_11 (by decide) ?_
      refine lv_iand hx hb dX10_lay_14 ?_
      refine lv_istore (x := zbm v i) (lv' := [(4, .int (zbm v i)), (3, .int (zsh i)), (0, .ref o), (1, .long v)]) hx hb dX10_lay_15 hl' (by decide) rfl (fun ls hl => ?_)
      have hno : zkb (zbm v i) = 0 → W p l e { frames := d, cells := 0, slots := 0, locals := 40 * d } s m [Value.ref o, Value.long v].toArray below meth c H locs 0 0 (MQ below (va_Qv (zqm cA o tp (n + zcn (zbm v) 8)) (zend dC dI cA A) A) [Value.ref o, Value.long v].toArray s 0 0 A) (F0 m 69 ls []) := fun h0 => nxt gs' f' H locs ls (by rw [zcn_s, h0]; exact hg') hP' hD' hS' hl
      have hyes : zkb (zbm v i) = 1 → W p l e { frames := d, cells := 0, slots := 0, locals := 40 * d } s m [Value.ref o, Value.long v].toArray below meth c H locs 0 0 (MQ below (va_Qv (zqm cA o tp (n + zcn (zbm v) 8)) (zend dC dI cA A) A) [Value.ref o, Value.long v].toArray s 0 0 A) (F0 m 38 ls []) := by
        intro h1
        refine lv_aload_n hx hb dX10_lay_38 rfl (lv_at hl 2 rfl) ?_
        refine va_get (D := (dC, dI)) (ci := 9) (v := .int (nI (n + zcn (zbm v) i))) (C := RX10) (T := TX10) (N := 58) hx hb hts zin9 hown hK hP' 0 rfl rfl 2 (by decide) (hts _ zf_tpd) (fun _ h9 => h9) hg'.2.1 dX10_lay_39 ?_
        refine lv_sipush (v := 1000) hx hb dX10_lay_42 (by decide) ?_
        refine lv_icmp_ge (tgt := 69) hx hb dX10_lay_45 (by decide) (fun c9 => absurd c9 (nI_ge (a := n + zcn (zbm v) i) (b := 1000) (by omega) (by decide))) (fun _ => ?_)
        refine lv_aload_n hx hb dX10_lay_48 rfl (lv_at hl 2 rfl) ?_
        refine va_get (D := (dC, dI)) (ci := 9) (v := .ref tp) (C := RX10) (T := TX10) (N := 58) hx hb hts zin9 hown hK hP' 0 rfl rfl 1 (by decide) (hts _ zf_tp) (fun _ h9 => h9) hg'.1 dX10_lay_49 ?_
        refine lv_aload_n hx hb dX10_lay_52 rfl (lv_at hl 2 rfl) ?_
        refine va_get (D := (dC, dI)) (ci := 9) (v := .int (nI (n + zcn (zbm v) i))) (C := RX10) (T := TX10) (N := 58) hx hb hts zin9 hown hK hP' 0 rfl rfl 2 (by decide) (hts _ zf_tpd) (fun _ h9 => h9) hg'.2.1 dX10_lay_53 ?_
        refine lv_iload hx hb dX10_lay_56 (lv_at hl 0 rfl) ?_
        refine va_iast hx hb hK hP' hD' hS' 1 0 rfl rfl (vp_in_nI (show n + zcn (zbm v) i < 1000 by omega) (by decide)) dX10_lay_58 (fun H locs hP hD hS => ?_)
        obtain ⟨f2, hf2⟩ : ∃ f2 : Nat → Int32, f2 = upd f' (nI (n + zcn (zbm v) i)).toNatClampNeg (zbm v i) := ⟨_, rfl⟩
        rw [← hf2] at hP hD
        have hP : va_P (dC, dI) vwCl (zwm cA o tp gs' f2) H := hP
        have hD : va_D A (zwm cA o tp gs' f2) := hD
        refine lv_aload_n hx hb dX10_lay_59 rfl (lv_at hl 2 rfl) ?_
        refine lv_dup hx hb dX10_lay_60 rfl ?_
        refine va_get (D := (dC, dI)) (ci := 9) (v := .int (nI (n + zcn (zbm v) i))) (C := RX10) (T := TX10) (N := 58) hx hb hts zin9 hown hK hP 0 rfl rfl 2 (by decide) (hts _ zf_tpd) (fun _ h9 => h9) hg'.2.1 dX10_lay_61 ?_
        refine lv_iconst (v := 1) hx hb dX10_lay_64 (by decide) ?_
        refine lv_iadd hx hb dX10_lay_65 ?_
        refine lv_topi (fun x1 ex1 => ?_)
        refine va_put (D := (dC, dI)) (ci := 9) (v := .int x1) (ty := .int) (C := RX10) (T := TX10) (N := 58) hx hb hts zin9 tyX10 tyX10_ok nmX10 hown hK hP hD hS 0 rfl rfl 2 (by decide) (hts _ zf_tpd) (fun _ h9 => h9) rfl (by decide +kernel) rfl rfl (by rw [hg'.2.2]; decide) dX10_lay_66 (fun H locs hP hD hS => ?_)
        have hP : va_P (dC, dI) vwCl (zwm cA o tp (gs'.set 2 (.int x1)) f2) H := hP
        have hD : va_D A (zwm cA o tp (gs'.set 2 (.int x1)) f2) := hD
        exact nxt _ f2 H locs ls (by rw [zcn_s, h1, ← Nat.add_assoc]; exact zgm_put hg' x1 (ex1.trans (nI_1 _))) hP hD hS hl
      refine lv_iload hx hb dX10_lay_17 (lv_at hl 0 rfl) ?_
      refine lv_bipush (v := 10) hx hb dX10_lay_19 (by decide) ?_
      refine lv_icmp_eq (tgt := 38) hx hb dX10_lay_21 (by decide) (fun c1 => hyes (by unfold zkb; rw [if_pos (Or.inl c1)])) (fun c1 => ?_)
      refine lv_iload hx hb dX10_lay_24 (lv_at hl 0 rfl) ?_
      refine lv_bipush (v := 32) hx hb dX10_lay_26 (by decide) ?_
      refine lv_icmp_lt (tgt := 69) hx hb dX10_lay_28 (by decide) (fun c2 => hno (by unfold zkb; rw [if_neg (fun q => q.elim c1 (fun z => z.1 c2))])) (fun c2 => ?_)
      refine lv_iload hx hb dX10_lay_31 (lv_at hl 0 rfl) ?_
      refine lv_bipush (v := 126) hx hb dX10_lay_33 (by decide) ?_
      refine lv_icmp_gt (tgt := 69) hx hb dX10_lay_35 (by decide) (fun c3 => hno (by unfold zkb; rw [if_neg (fun q => q.elim c1 (fun z => z.2 c3))])) (fun c3 => ?_)
      exact hyes (by unfold zkb; rw [if_pos (Or.inr ⟨c2, c3⟩)])
  refine lv_bipush (v := 56) hx hb dX10_lay_0 (by decide) ?_
  refine lv_istore_n (lv' := [(3, .int 56), (0, .ref o), (1, .long v)]) hx hb dX10_lay_2 rfl hl (by decide) rfl (fun ls hl => ?_)
  exact loop 8 0 rfl gs f s.heap [] ls hg hP hD hS hl
set_option maxHeartbeats 4000000 in
theorem zc_mfeed (l : Launch) (dC : Nat → ClassId) (dI : Nat → Nat → Nat) (cA : Nat → ClassId) (d o tp : Nat) (gs : List Value) (f : Nat → Int32) (va vb vc : Int64) (sz : Nat) (hg : zgm tp 0 gs) :
    Met l yX10_feed (.code yX10_feed cX10_feed 7 (some .int) :: zT) { frames := d + 1, cells := 0, slots := 0, locals := 40 * (d + 1) } (va_Pc [.ref o, .long va, .long vb, .long vc] (zB dC dI cA (zwm cA o tp gs f) sz)) (va_Qi (fun r (_ : Unit) => r = nI (zcn (zbm va) 8 + zcn (zbm vb) 8 + zcn (zbm vc) 8)) (fun _ _ => True) (va_A (zwm cA o tp gs f) sz)) 0 0 (va_A (zwm cA o tp gs f) sz) := by
  refine Met.ofW (cc := cX10_feed) (maxL := 7) (ret := some .int) (by decide) rfl ?_
  intro p e s m args below meth c s₁ B hml hv
  obtain ⟨rfl, hsz, hP, hK, hD0, hz9⟩ := hv
  have hx := B.exec
  have hb := B.bytes
  have hr := B.returns
  have hts : ∀ w ∈ zT, w.before _ s = true := fun w hw => atoms_spec (ws := .code yX10_feed cX10_feed 7 (some .int) :: zT) B.pre w (List.mem_cons_of_mem _ hw)
  have hown : s.vm.findClass RX10 = some m.cls := findClass_of_methodNamed B.named
  have hlocks := B.notSynchronized
  subst hsz
  have hD := hD0.self (sz := s.heap.size)
  have hA : ∀ q, s.heap.size ≤ q → va_A (zwm cA o tp gs f) s.heap.size q := fun q h => Or.inr h
  generalize va_A (zwm cA o tp gs f) s.heap.size = A at hD hA ⊢
  have hS : va_S A s.heap s.heap [] := va_S.rf
  have hl := lv_entry ([.ref o, .long va, .long vb, .long vc]) (n := 7) (Nat.le_of_ble_eq_true rfl)
  rw [lg_entry_eq]
  generalize (lg_sl ([.ref o, .long va, .long vb, .long vc]) ++ List.replicate (7 - (lg_sl ([.ref o, .long va, .long vb, .long vc])).length) Slot.unset).toArray = ls at hl ⊢
  have hl : lv_has ls 7 [(0, .ref o), (1, .long va), (3, .long vb), (5, .long vc)] := hl
  have h1a := zcn_le (zbm va) 8
  have h1b := zcn_le (zbm vb) 8
  have hP : va_P (dC, dI) vwCl (zwm cA o tp gs f) s.heap := hP
  refine lv_aload_n hx hb dX10_feed_0 rfl (lv_at hl 0 rfl) ?_
  refine lv_iconst (v := 0) hx hb dX10_feed_1 (by decide) ?_
  refine va_put (D := (dC, dI)) (ci := 9) (v := .int 0) (ty := .int) (C := RX10) (T := TX10) (N := 58) hx hb hts zin9 tyX10 tyX10_ok nmX10 hown hK hP hD hS 0 rfl rfl 0 (by decide) (hts _ zf_thr) (fun _ h9 => h9) rfl (by decide +kernel) rfl rfl (by rw [hg.2.2]; decide) dX10_feed_2 (fun H locs hP hD hS => ?_)
  have hP : va_P (dC, dI) vwCl (zwm cA o tp (gs.set 0 (.int 0)) f) H := hP
  have hD : va_D A (zwm cA o tp (gs.set 0 (.int 0)) f) := hD
  have hg := zgm_thr hg (.int 0)
  generalize gs.set 0 (.int 0) = gs at hP hD hg
  have step : ∀ (n pc : Nat) (vv : Int64) (gs : List Value) (f : Nat → Int32) (H : Heap) (locs : List Loc), n + 8 ≤ 1000 → decode cX10_feed pc = .ok (.invokevirtual 7, 3) → zgm tp n gs → va_P (dC, dI) vwCl (zwm cA o tp gs f) H → va_D A (zwm cA o tp gs f) → va_S A s.heap H locs → (∀ (gs : List Value) (f : Nat → Int32) (H : Heap) (locs : List Loc), zgm tp (n + zcn (zbm vv) 8) gs → va_P (dC, dI) vwCl (zwm cA o tp gs f) H → va_D A (zwm cA o tp gs f) → va_S A s.heap H locs → W p l e { frames := d + 1, cells := 0, slots := 0, locals := 40 * (d + 1) } s m [Value.ref o, Value.long va, Value.long vb, Value.long vc].toArray below meth c H locs 0 0 (MQ below (va_Qi (fun r (_ : Unit) => r = nI (zcn (zbm va) 8 + zcn (zbm vb) 8 + zcn (zbm vc) 8)) (fun _ _ => True) A) [Value.ref o, Value.long va, Value.long vb, Value.long vc].toArray s 0 0 A) (F0 m (pc + 3) ls [])) → W p l e { frames := d + 1, cells := 0, slots := 0, locals := 40 * (d + 1) } s m [Value.ref o, Value.long va, Value.long vb, Value.long vc].toArray below meth c H locs 0 0 (MQ below (va_Qi (fun r (_ : Unit) => r = nI (zcn (zbm va) 8 + zcn (zbm vb) 8 + zcn (zbm vc) 8)) (fun _ _ => True) A) [Value.ref o, Value.long va, Value.long vb, Value.long vc].toArray s 0 0 A) (F0 m pc ls [.long vv, .ref o]) := by
    intro n pc vv gs f H locs hn hdg hg' hP' hD' hS' kk
    have hM := zc_lay l dC dI cA d o tp n gs f vv H.size hn hg'
    have hR9 := zrun (e := e) (below := below) (meth := meth) (locs := locs) (nc := 0) (ns := 0) (own := RX10) (idx := 7) (kd := 2) (n := 1) (R := { frames := d + 1, cells := 0, slots := 0, locals := 40 * (d + 1) }) (cst := [.long vv, .ref o]) (crest := []) (ls := ls) hx hb hml hown hts hK hP' hD' hl.1 hM hz9 zw_lay (fun q => by omega) (by decide +kernel) (by decide) (fun q => by omega) ⟨Nat.le_refl _, Nat.le_refl _⟩ ⟨Nat.le_refl _, Nat.le_refl _⟩ rfl (by decide) rfl (fun _ => ⟨o, _, rfl, fun _ => va_recv hK hP' (ci := 9) (q0 := 0) rfl rfl⟩) (Or.inr (Or.inl ⟨rfl, rfl⟩)) hdg
    have hF := zfree hD' hS' hA
    refine va_callv hR9 hS' (fun q _ h => hF q h) hF (fun u t9 H1 locs1 ht hvm hw hB hz1 hk1 hS1 => ?_)
    obtain ⟨gs2, f2, rfl, hg2⟩ := hw
    obtain ⟨hP1, hK1, hD1⟩ := hB
    rw [ht] at hP1
    exact kk gs2 f2 H1 locs1 hg2 hP1 (hD1.weaken (fun _ q _ z => hF q.1 z)) hS1
  refine lv_aload_n hx hb dX10_feed_5 rfl (lv_at hl 0 rfl) ?_
  refine lv_lload_n hx hb dX10_feed_6 rfl (lv_at hl 1 rfl) ?_
  refine step 0 7 va gs f H locs (by omega) dX10_feed_7 hg hP hD hS (fun gs f H locs hg hP hD hS => ?_)
  refine lv_aload_n hx hb dX10_feed_10 rfl (lv_at hl 0 rfl) ?_
  refine lv_lload_n hx hb dX10_feed_11 rfl (lv_at hl 2 rfl) ?_
  refine step _ 12 vb gs f H locs (by omega) dX10_feed_12 hg hP hD hS (fun gs f H locs hg hP hD hS => ?_)
  refine lv_aload_n hx hb dX10_feed_15 rfl (lv_at hl 0 rfl) ?_
  refine lv_lload hx hb dX10_feed_16 (lv_at hl 3 rfl) ?_
  refine step _ 18 vc gs f H locs (by omega) dX10_feed_18 hg hP hD hS (fun gs f H locs hg hP hD hS => ?_)
  refine lv_aload_n hx hb dX10_feed_21 rfl (lv_at hl 0 rfl) ?_
  refine va_get (D := (dC, dI)) (ci := 9) (C := RX10) (T := TX10) (N := 58) hx hb hts zin9 hown hK hP 0 rfl rfl 2 (by decide) (hts _ zf_tpd) (fun _ h9 => h9) hg.2.1 dX10_feed_22 ?_
  exact W.iret hx hb hr (fun t ht hW => ⟨⟨_, (), rfl, by rw [Nat.zero_add], trivial⟩, hS.F ht⟩) hS.2.2 dX10_feed_25
abbrev zwx (cA : Nat → ClassId) (o t sg : Nat) (gx gs : List Value) (f : Nat → Int32) : va_W := [(o, .inr (8, gx)), (t, .inr (6, gs)), (sg, .inl (cA 2, 1000, .inl f))]
set_option maxHeartbeats 4000000 in
theorem zc_feed (l : Launch) (dC : Nat → ClassId) (dI : Nat → Nat → Nat) (cA : Nat → ClassId) (d o t sg : Nat) (gx gs : List Value) (f : Nat → Int32) (va vb vc : Int64) (sz : Nat) (hgx : gx[0]? = some (.ref t)) (hg : zgt sg 0 gs) :
    Met l yX9_feed (.code yX9_feed cX9_feed 7 (some .int) :: zT) { frames := d + 2, cells := 0, slots := 0, locals := 40 * (d + 2) } (va_Pc [.ref o, .long va, .long vb, .long vc] (zB dC dI cA (zwx cA o t sg gx gs f) sz)) (va_Qi (fun r (_ : Unit) => r = nI (zcn (zby va) 8 + zcn (zby vb) 8 + zcn (zby vc) 8)) (fun _ _ => True) (va_A (zwx cA o t sg gx gs f) sz)) 0 0 (va_A (zwx cA o t sg gx gs f) sz) := by
  refine Met.ofW (cc := cX9_feed) (maxL := 7) (ret := some .int) (by decide) rfl ?_
  intro p e s m args below meth c s₁ B hml hv
  obtain ⟨rfl, hsz, hP, hK, hD0, hz9⟩ := hv
  have hx := B.exec
  have hb := B.bytes
  have hr := B.returns
  have hts : ∀ w ∈ zT, w.before _ s = true := fun w hw => atoms_spec (ws := .code yX9_feed cX9_feed 7 (some .int) :: zT) B.pre w (List.mem_cons_of_mem _ hw)
  have hown : s.vm.findClass RX9 = some m.cls := findClass_of_methodNamed B.named
  have hlocks := B.notSynchronized
  subst hsz
  have hD := hD0.self (sz := s.heap.size)
  have hA : ∀ q, s.heap.size ≤ q → va_A (zwx cA o t sg gx gs f) s.heap.size q := fun q h => Or.inr h
  generalize va_A (zwx cA o t sg gx gs f) s.heap.size = A at hD hA ⊢
  have hS : va_S A s.heap s.heap [] := va_S.rf
  have hl := lv_entry ([.ref o, .long va, .long vb, .long vc]) (n := 7) (Nat.le_of_ble_eq_true rfl)
  rw [lg_entry_eq]
  generalize (lg_sl ([.ref o, .long va, .long vb, .long vc]) ++ List.replicate (7 - (lg_sl ([.ref o, .long va, .long vb, .long vc])).length) Slot.unset).toArray = ls at hl ⊢
  have hl : lv_has ls 7 [(0, .ref o), (1, .long va), (3, .long vb), (5, .long vc)] := hl
  have h1a := zcn_le (zby va) 8
  have h1b := zcn_le (zby vb) 8
  have hP : va_P (dC, dI) vwCl (zwx cA o t sg gx gs f) s.heap := hP
  have step : ∀ (n pc : Nat) (vv : Int64) (gs : List Value) (f : Nat → Int32) (H : Heap) (locs : List Loc), n + 8 ≤ 1000 → decode cX9_feed pc = .ok (.invokevirtual 77, 3) → zgt sg n gs → va_P (dC, dI) vwCl (zwx cA o t sg gx gs f) H → va_D A (zwx cA o t sg gx gs f) → va_S A s.heap H locs → (∀ (gs : List Value) (f : Nat → Int32) (H : Heap) (locs : List Loc), zgt sg (n + zcn (zby vv) 8) gs → va_P (dC, dI) vwCl (zwx cA o t sg gx gs f) H → va_D A (zwx cA o t sg gx gs f) → va_S A s.heap H locs → W p l e { frames := d + 2, cells := 0, slots := 0, locals := 40 * (d + 2) } s m [Value.ref o, Value.long va, Value.long vb, Value.long vc].toArray below meth c H locs 0 0 (MQ below (va_Qi (fun r (_ : Unit) => r = nI (zcn (zby va) 8 + zcn (zby vb) 8 + zcn (zby vc) 8)) (fun _ _ => True) A) [Value.ref o, Value.long va, Value.long vb, Value.long vc].toArray s 0 0 A) (F0 m (pc + 3) ls [])) → W p l e { frames := d + 2, cells := 0, slots := 0, locals := 40 * (d + 2) } s m [Value.ref o, Value.long va, Value.long vb, Value.long vc].toArray below meth c H locs 0 0 (MQ below (va_Qi (fun r (_ : Unit) => r = nI (zcn (zby va) 8 + zcn (zby vb) 8 + zcn (zby vc) 8)) (fun _ _ => True) A) [Value.ref o, Value.long va, Value.long vb, Value.long vc].toArray s 0 0 A) (F0 m pc ls [.long vv, .ref t]) := by
    intro n pc vv gs f H locs hn hdg hg' hP' hD' hS' kk
    have hPc : va_P (dC, dI) vwCl (zwt cA t sg gs f) H := hP'.sub [1, 2] rfl
    have hDc : va_D A (zwt cA t sg gs f) := hD'.sub [1, 2] (by decide) rfl
    have hM := zc_take l dC dI cA d t sg n gs f vv H.size hn hg'
    have hR9 := zrun (e := e) (below := below) (meth := meth) (locs := locs) (nc := 0) (ns := 0) (own := RX9) (idx := 77) (kd := 2) (n := 1) (R := { frames := d + 2, cells := 0, slots := 0, locals := 40 * (d + 2) }) (cst := [.long vv, .ref t]) (crest := []) (ls := ls) hx hb hml hown hts hK hPc hDc hl.1 hM hz9 zw_take (fun q => by omega) (by decide +kernel) (by decide) (fun q => by omega) ⟨Nat.le_refl _, Nat.le_refl _⟩ ⟨Nat.le_refl _, Nat.le_refl _⟩ rfl (by decide) rfl (fun _ => ⟨t, _, rfl, fun _ => va_recv hK hPc (ci := 6) (q0 := 0) rfl rfl⟩) (Or.inr (Or.inl ⟨rfl, rfl⟩)) hdg
    have hF := zfree hDc hS' hA
    refine va_callv hR9 hS' (fun q _ h => hF q h) hF (fun u t9 H1 locs1 ht hvm hw hB hz1 hk1 hS1 => ?_)
    obtain ⟨gs2, f2, rfl, hg2⟩ := hw
    obtain ⟨hP1, hK1, hD1⟩ := hB
    rw [ht] at hP1
    obtain ⟨hP2, hD2⟩ := va_join (wr := [(o, .inr (8, gx))]) (w1 := zwt cA t sg gs2 f2) hP' hD' [1, 2] [0] rfl rfl (by decide) (by decide) hk1 hF hP1 hD1
    exact kk gs2 f2 H1 locs1 hg2 hP2 hD2 hS1
  refine lv_aload_n hx hb dX9_feed_0 rfl (lv_at hl 0 rfl) ?_
  refine va_get (D := (dC, dI)) (ci := 8) (C := RX9) (T := TX9) (N := 9) hx hb hts zin8 hown hK hP 0 rfl rfl 0 (by decide) (hts _ zf_tap) (fun _ h9 => h9) hgx dX9_feed_1 ?_
  refine lv_lload_n hx hb dX9_feed_4 rfl (lv_at hl 1 rfl) ?_
  refine step 0 5 va gs f s.heap [] (by omega) dX9_feed_5 hg hP hD hS (fun gs f H locs hg hP hD hS => ?_)
  refine lv_aload_n hx hb dX9_feed_8 rfl (lv_at hl 0 rfl) ?_
  refine va_get (D := (dC, dI)) (ci := 8) (C := RX9) (T := TX9) (N := 9) hx hb hts zin8 hown hK hP 0 rfl rfl 0 (by decide) (hts _ zf_tap) (fun _ h9 => h9) hgx dX9_feed_9 ?_
  refine lv_lload_n hx hb dX9_feed_12 rfl (lv_at hl 2 rfl) ?_
  refine step _ 13 vb gs f H locs (by omega) dX9_feed_13 hg hP hD hS (fun gs f H locs hg hP hD hS => ?_)
  refine lv_aload_n hx hb dX9_feed_16 rfl (lv_at hl 0 rfl) ?_
  refine va_get (D := (dC, dI)) (ci := 8) (C := RX9) (T := TX9) (N := 9) hx hb hts zin8 hown hK hP 0 rfl rfl 0 (by decide) (hts _ zf_tap) (fun _ h9 => h9) hgx dX9_feed_17 ?_
  refine lv_lload hx hb dX9_feed_20 (lv_at hl 3 rfl) ?_
  refine step _ 22 vc gs f H locs (by omega) dX9_feed_22 hg hP hD hS (fun gs f H locs hg hP hD hS => ?_)
  refine lv_aload_n hx hb dX9_feed_25 rfl (lv_at hl 0 rfl) ?_
  refine va_get (D := (dC, dI)) (ci := 8) (C := RX9) (T := TX9) (N := 9) hx hb hts zin8 hown hK hP 0 rfl rfl 0 (by decide) (hts _ zf_tap) (fun _ h9 => h9) hgx dX9_feed_26 ?_
  refine va_get (D := (dC, dI)) (ci := 6) (C := RX7) (T := TX7) (N := 4) hx hb hts zin6 hown hK hP 1 rfl rfl 1 (by decide) (hts _ zf_len9) (fun _ h9 => h9) hg.2.1 dX9_feed_29 ?_
  exact W.iret hx hb hr (fun t ht hW => ⟨⟨_, (), rfl, by rw [Nat.zero_add], trivial⟩, hS.F ht⟩) hS.2.2 dX9_feed_32
end
section
/-! the law's case 0: feed against feed -/
theorem zvi1 : vp_in ((0 : Int32) + 1) 7 := by unfold vp_in; decide
theorem zvi2 : vp_in ((0 : Int32) + 2) 7 := by unfold vp_in; decide
theorem zvi3 : vp_in ((0 : Int32) + 3) 7 := by unfold vp_in; decide
theorem zvi4 : vp_in ((0 : Int32) + 4) 7 := by unfold vp_in; decide
theorem zvi5 : vp_in ((0 : Int32) + 5) 7 := by unfold vp_in; decide
theorem zvi6 : vp_in ((0 : Int32) + 6) 7 := by unfold vp_in; decide
theorem zr40 : zgo zzm zzc zzd (zbox 0) 7 40 100 0 20 23 zzl [] zzh zzn zzs = .ok (40, zzl, [.retAddr 7], zzh, zzn, zzs) := zeq_ok (by decide +kernel)
theorem zr1499 : zgo zzm zzc zzd (zbox 0) 7 99999 50 0 20 1499 [(4, .int 0), (0, .float 0)] [] [] zzn zzs = .ok (1506, [(4, .int 7), (0, .float 0)], [.int 1], [], zzn, zzs) := zeq_ok (by decide +kernel)
theorem zlaw_lv {ad : List Nat} {g : ZG} {clv : ZL} (h : zls ad g zzl clv) : ∃ a3 a2 a1 : Nat, clv = [(4, .int 0), (3, .ref a3), (2, .ref a2), (1, .ref a1), (0, .ref g.2.1)] ∧ ad[201]? = some a3 ∧ ad[155]? = some a2 ∧ ad[0]? = some a1 := by
  unfold zzl at h
  obtain ⟨⟨i4, c4⟩, q4, rfl, e4, f4, h⟩ := zls_cons h
  obtain ⟨⟨i3, c3⟩, q3, rfl, e3, f3, h⟩ := zls_cons h
  obtain ⟨⟨i2, c2⟩, q2, rfl, e2, f2, h⟩ := zls_cons h
  obtain ⟨⟨i1, c1⟩, q1, rfl, e1, f1, h⟩ := zls_cons h
  obtain ⟨⟨i0, c0⟩, q0, rfl, e0, f0, h⟩ := zls_cons h
  cases zls_nil h
  obtain ⟨a3, w3, rfl⟩ := f3
  obtain ⟨a2, w2, rfl⟩ := f2
  obtain ⟨a1, w1, rfl⟩ := f1
  cases e4; cases e3; cases e2; cases e1; cases e0
  cases (show c4 = _ from f4)
  cases (show c0 = _ from f0)
  exact ⟨a3, a2, a1, rfl, w3, w2, w1⟩
set_option maxRecDepth 20000 in
/-- the cells of the class's tape, and of the reference's -/
theorem zlaw_x {g : ZG} {cA : Nat → ClassId} {ws : va_W} {a1 : Nat} (r1 : zh g cA zzh ws) (h : (zad ws)[0]? = some a1) : ∃ (t sg : Nat) (gx gs : List Value) (f : Nat → Int32), ws[0]? = some (a1, .inr (8, gx)) ∧ ws[1]? = some (t, .inr (6, gs)) ∧ ws[2]? = some (sg, .inl (cA 2, 1000, .inl f)) ∧ gx[0]? = some (.ref t) ∧ zgt sg 0 gs := by
  obtain ⟨w0, k0, z0⟩ := zh_at r1 (k := 0) rfl h
  obtain ⟨gx, rfl, y0⟩ := zobj z0
  obtain ⟨c1, x1, x2⟩ := zvs_get y0 (k := 0) rfl
  obtain ⟨t, h1, rfl⟩ := x2
  obtain ⟨w1, k1, z1⟩ := zh_at r1 (k := 1) rfl h1
  obtain ⟨gs, rfl, y1⟩ := zobj z1
  obtain ⟨c2, x3, x4⟩ := zvs_get y1 (k := 0) rfl
  obtain ⟨sg, h2, rfl⟩ := x4
  obtain ⟨c3, x5, x6⟩ := zvs_get y1 (k := 1) rfl
  cases (show c3 = _ from x6)
  obtain ⟨w2, k2, z2⟩ := zh_at r1 (k := 2) rfl h2
  obtain ⟨arr, rfl, y2⟩ := zarr z2
  obtain ⟨f, rfl, -⟩ := y2.1 z23
  exact ⟨t, sg, gx, gs, f, k0, k1, k2, x1, x3, x5, zvs_len y1⟩
set_option maxRecDepth 20000 in
theorem zlaw_m {g : ZG} {cA : Nat → ClassId} {ws : va_W} {a2 : Nat} (r1 : zh g cA zzh ws) (h : (zad ws)[155]? = some a2) : ∃ (tp : Nat) (gs : List Value) (f : Nat → Int32), ws[155]? = some (a2, .inr (9, gs)) ∧ ws[156]? = some (tp, .inl (cA 0, 1000, .inl f)) ∧ zgm tp 0 gs := by
  obtain ⟨w0, k0, z0⟩ := zh_at r1 (k := 155) rfl h
  obtain ⟨gs, rfl, y0⟩ := zobj z0
  obtain ⟨c1, x1, x2⟩ := zvs_get y0 (k := 1) rfl
  obtain ⟨tp, h1, rfl⟩ := x2
  obtain ⟨c2, x3, x4⟩ := zvs_get y0 (k := 2) rfl
  cases (show c2 = _ from x4)
  obtain ⟨w1, k1, z1⟩ := zh_at r1 (k := 156) rfl h1
  obtain ⟨arr, rfl, y1⟩ := zarr z1
  obtain ⟨f, rfl, -⟩ := y1.1 (Nat.succ_pos 2)
  exact ⟨tp, gs, f, k0, k1, x1, x3, zvs_len y0⟩
set_option maxHeartbeats 4000000 in
theorem zo0 : zOK0 (zbox 0) := by
  intro p l e s m args below meth c Q dC dI cA g A hg0 _ hE F Hf
  refine zgo_sound zzcl zztab 100 0 20 23 zzl [] zzh zzn zzs _ zr40 zme0 rfl p l e room_1 s m args below meth c Q dC dI cA g A (F _ hE) ?_
  obtain ⟨hx, hb, hml, hown, hts, hK, hA, hE9, hg7, hRd, hRb, hI, hz9, hscr⟩ := F _ hE
  obtain ⟨xs, hX, hbl, hbA, hxs, hL⟩ := hscr rfl
  have hb : c.code = cL_law := hb
  have hml : c.maxLocals = 7 := hml
  have hown : s.vm.findClass RL = some m.cls := hown
  intro ws H locs ls clv cst ⟨r1, r2, r3, r4, r5, r6, r7⟩
  obtain ⟨c7, r8, rfl, hc7, r7⟩ := zvs_cons r7
  cases zvs_nil r7
  cases (show c7 = _ from hc7)
  obtain ⟨a3, a2, a1, rfl, w3, w2, w1⟩ := zlaw_lv r6
  obtain ⟨t, sg, gx, gs, f, k0, k1, k2, hgx, hgt⟩ := zlaw_x r1 w1
  obtain ⟨tp, gm, fm, k3, k4, hgm⟩ := zlaw_m r1 w2
  have hl := r5
  have hPx : va_P (dC, dI) vwCl (zwx cA a1 t sg gx gs f) H := r2.sub [0, 1, 2] (by simp [k0, k1, k2])
  have hDx : va_D A (zwx cA a1 t sg gx gs f) := r3.sub [0, 1, 2] (by decide) (by simp [k0, k1, k2])
  have hz0 := hE 7 (0, 0) rfl
  have hz1 : (g.1 7).toInt = 0 := by have := hz0.1; have := hz0.2; simp only at *; omega
  refine lv_tableIn (off := 136) (tgt := 176) hx hb dL_law_40 (by rw [hz1]; decide) (by rw [hz1]; decide) (by rw [hz1]; rfl) (by decide) ?_
  refine lv_aload_n hx hb dL_law_176 rfl (lv_at hl 3 rfl) ?_
  refine lv_aload_n hx hb dL_law_177 rfl (lv_at hl 4 rfl) ?_
  refine lv_iload hx hb dL_law_178 (lv_at hl 0 rfl) ?_
  refine lv_iconst (v := 1) hx hb dL_law_180 (by decide) ?_
  refine lv_iadd hx hb dL_law_181 ?_
  refine va_sld hx hb hX hbl hbA r4 zvi1 dL_law_182 ?_
  refine lv_i2l hx hb dL_law_183 rfl ?_
  refine lv_bipush (v := 32) hx hb dL_law_184 (by decide) ?_
  refine lv_lshl hx hb dL_law_186 rfl ?_
  refine lv_aload_n hx hb dL_law_187 rfl (lv_at hl 4 rfl) ?_
  refine lv_iload hx hb dL_law_188 (lv_at hl 0 rfl) ?_
  refine lv_iconst (v := 2) hx hb dL_law_190 (by decide) ?_
  refine lv_iadd hx hb dL_law_191 ?_
  refine va_sld hx hb hX hbl hbA r4 zvi2 dL_law_192 ?_
  refine lv_i2l hx hb dL_law_193 rfl ?_
  refine lv_ldc2 hx hb hown (hts _ zf_msk) dL_law_194 ?_
  refine lv_land hx hb dL_law_197 ?_
  refine lv_lor hx hb dL_law_198 ?_
  refine lv_topl (fun v1 ev1 => ?_)
  refine lv_aload_n hx hb dL_law_199 rfl (lv_at hl 4 rfl) ?_
  refine lv_iload hx hb dL_law_200 (lv_at hl 0 rfl) ?_
  refine lv_iconst (v := 3) hx hb dL_law_202 (by decide) ?_
  refine lv_iadd hx hb dL_law_203 ?_
  refine va_sld hx hb hX hbl hbA r4 zvi3 dL_law_204 ?_
  refine lv_i2l hx hb dL_law_205 rfl ?_
  refine lv_bipush (v := 32) hx hb dL_law_206 (by decide) ?_
  refine lv_lshl hx hb dL_law_208 rfl ?_
  refine lv_aload_n hx hb dL_law_209 rfl (lv_at hl 4 rfl) ?_
  refine lv_iload hx hb dL_law_210 (lv_at hl 0 rfl) ?_
  refine lv_iconst (v := 4) hx hb dL_law_212 (by decide) ?_
  refine lv_iadd hx hb dL_law_213 ?_
  refine va_sld hx hb hX hbl hbA r4 zvi4 dL_law_214 ?_
  refine lv_i2l hx hb dL_law_215 rfl ?_
  refine lv_ldc2 hx hb hown (hts _ zf_msk) dL_law_216 ?_
  refine lv_land hx hb dL_law_219 ?_
  refine lv_lor hx hb dL_law_220 ?_
  refine lv_topl (fun v2 ev2 => ?_)
  refine lv_aload_n hx hb dL_law_221 rfl (lv_at hl 4 rfl) ?_
  refine lv_iload hx hb dL_law_222 (lv_at hl 0 rfl) ?_
  refine lv_iconst (v := 5) hx hb dL_law_224 (by decide) ?_
  refine lv_iadd hx hb dL_law_225 ?_
  refine va_sld hx hb hX hbl hbA r4 zvi5 dL_law_226 ?_
  refine lv_i2l hx hb dL_law_227 rfl ?_
  refine lv_bipush (v := 32) hx hb dL_law_228 (by decide) ?_
  refine lv_lshl hx hb dL_law_230 rfl ?_
  refine lv_aload_n hx hb dL_law_231 rfl (lv_at hl 4 rfl) ?_
  refine lv_iload hx hb dL_law_232 (lv_at hl 0 rfl) ?_
  refine lv_bipush (v := 6) hx hb dL_law_234 (by decide) ?_
  refine lv_iadd hx hb dL_law_236 ?_
  refine va_sld hx hb hX hbl hbA r4 zvi6 dL_law_237 ?_
  refine lv_i2l hx hb dL_law_238 rfl ?_
  refine lv_ldc2 hx hb hown (hts _ zf_msk) dL_law_239 ?_
  refine lv_land hx hb dL_law_242 ?_
  refine lv_lor hx hb dL_law_243 ?_
  refine lv_topl (fun v3 ev3 => ?_)
  have hM := zc_feed l dC dI cA 0 a1 t sg gx gs f v1 v2 v3 H.size hgx hgt
  have hR9 := zrun (e := e) (below := below) (meth := meth) (locs := locs) (nc := zzn) (ns := zzs) (own := RL) (idx := 21) (kd := 2) (n := 3) (R := room_1) (cst := [.long v3, .long v2, .long v1, .ref a1]) (crest := []) (ls := ls) hx hb hml hown hts hK hPx hDx hl.1 hM hz9 zw_feed (fun q => by omega) (by decide +kernel) (by decide) (fun q => by omega) (by decide) (by decide) rfl (by decide) rfl (fun _ => ⟨a1, _, rfl, fun _ => va_recv hK hPx (ci := 8) (q0 := 0) rfl rfl⟩) (Or.inr (Or.inl ⟨rfl, rfl⟩)) dL_law_244
  have hF := zfree hDx r4 hA
  refine va_calli hR9 r4 (fun q _ h => hF q h) hF (fun x1 u t9 H1 locs1 ht hvm hw hB hz1 hk1 hS1 => ?_)
  obtain ⟨hPm, hDm⟩ := va_join (wr := zwm cA a2 tp gm fm) (w1 := []) r2 r3 [0, 1, 2] [155, 156] (by simp [k0, k1, k2]) (by simp [k3, k4]) (by decide) (by decide) hk1 hF (fun k q h => by simp at h) ⟨fun i j p q h => by simp at h, fun k q h => by simp at h⟩
  have hPm : va_P (dC, dI) vwCl (zwm cA a2 tp gm fm) H1 := hPm
  have hDm : va_D A (zwm cA a2 tp gm fm) := hDm
  refine lv_aload_n hx hb dL_law_247 rfl (lv_at hl 2 rfl) ?_
  refine lv_aload_n hx hb dL_law_248 rfl (lv_at hl 4 rfl) ?_
  refine lv_iload hx hb dL_law_249 (lv_at hl 0 rfl) ?_
  refine lv_iconst (v := 1) hx hb dL_law_251 (by decide) ?_
  refine lv_iadd hx hb dL_law_252 ?_
  refine va_sld hx hb hX hbl hbA hS1 zvi1 dL_law_253 ?_
  refine lv_i2l hx hb dL_law_254 rfl ?_
  refine lv_bipush (v := 32) hx hb dL_law_255 (by decide) ?_
  refine lv_lshl hx hb dL_law_257 rfl ?_
  refine lv_aload_n hx hb dL_law_258 rfl (lv_at hl 4 rfl) ?_
  refine lv_iload hx hb dL_law_259 (lv_at hl 0 rfl) ?_
  refine lv_iconst (v := 2) hx hb dL_law_261 (by decide) ?_
  refine lv_iadd hx hb dL_law_262 ?_
  refine va_sld hx hb hX hbl hbA hS1 zvi2 dL_law_263 ?_
  refine lv_i2l hx hb dL_law_264 rfl ?_
  refine lv_ldc2 hx hb hown (hts _ zf_msk) dL_law_265 ?_
  refine lv_land hx hb dL_law_268 ?_
  refine lv_lor hx hb dL_law_269 ?_
  refine lv_topl (fun y1 ey1 => ?_)
  refine lv_aload_n hx hb dL_law_270 rfl (lv_at hl 4 rfl) ?_
  refine lv_iload hx hb dL_law_271 (lv_at hl 0 rfl) ?_
  refine lv_iconst (v := 3) hx hb dL_law_273 (by decide) ?_
  refine lv_iadd hx hb dL_law_274 ?_
  refine va_sld hx hb hX hbl hbA hS1 zvi3 dL_law_275 ?_
  refine lv_i2l hx hb dL_law_276 rfl ?_
  refine lv_bipush (v := 32) hx hb dL_law_277 (by decide) ?_
  refine lv_lshl hx hb dL_law_279 rfl ?_
  refine lv_aload_n hx hb dL_law_280 rfl (lv_at hl 4 rfl) ?_
  refine lv_iload hx hb dL_law_281 (lv_at hl 0 rfl) ?_
  refine lv_iconst (v := 4) hx hb dL_law_283 (by decide) ?_
  refine lv_iadd hx hb dL_law_284 ?_
  refine va_sld hx hb hX hbl hbA hS1 zvi4 dL_law_285 ?_
  refine lv_i2l hx hb dL_law_286 rfl ?_
  refine lv_ldc2 hx hb hown (hts _ zf_msk) dL_law_287 ?_
  refine lv_land hx hb dL_law_290 ?_
  refine lv_lor hx hb dL_law_291 ?_
  refine lv_topl (fun y2 ey2 => ?_)
  refine lv_aload_n hx hb dL_law_292 rfl (lv_at hl 4 rfl) ?_
  refine lv_iload hx hb dL_law_293 (lv_at hl 0 rfl) ?_
  refine lv_iconst (v := 5) hx hb dL_law_295 (by decide) ?_
  refine lv_iadd hx hb dL_law_296 ?_
  refine va_sld hx hb hX hbl hbA hS1 zvi5 dL_law_297 ?_
  refine lv_i2l hx hb dL_law_298 rfl ?_
  refine lv_bipush (v := 32) hx hb dL_law_299 (by decide) ?_
  refine lv_lshl hx hb dL_law_301 rfl ?_
  refine lv_aload_n hx hb dL_law_302 rfl (lv_at hl 4 rfl) ?_
  refine lv_iload hx hb dL_law_303 (lv_at hl 0 rfl) ?_
  refine lv_bipush (v := 6) hx hb dL_law_305 (by decide) ?_
  refine lv_iadd hx hb dL_law_307 ?_
  refine va_sld hx hb hX hbl hbA hS1 zvi6 dL_law_308 ?_
  refine lv_i2l hx hb dL_law_309 rfl ?_
  refine lv_ldc2 hx hb hown (hts _ zf_msk) dL_law_310 ?_
  refine lv_land hx hb dL_law_313 ?_
  refine lv_lor hx hb dL_law_314 ?_
  refine lv_topl (fun y3 ey3 => ?_)
  have hM2 := zc_mfeed l dC dI cA 0 a2 tp gm fm y1 y2 y3 H1.size hgm
  have hR8 := zrun (e := e) (below := below) (meth := meth) (locs := locs1) (nc := zzn + 0) (ns := zzs + 0) (own := RL) (idx := 25) (kd := 2) (n := 3) (R := room_1) (cst := [.long y3, .long y2, .long y1, .ref a2, .int x1]) (crest := [.int x1]) (ls := ls) hx hb hml hown hts hK hPm hDm hl.1 hM2 hz9 zw_mfeed (fun q => by omega) (by decide +kernel) (by decide) (fun q => by omega) (by decide) (by decide) rfl (Nat.le_of_ble_eq_true rfl) rfl (fun _ => ⟨a2, _, rfl, fun _ => va_recv hK hPm (ci := 9) (q0 := 0) rfl rfl⟩) (Or.inr (Or.inl ⟨rfl, rfl⟩)) dL_law_315
  have hF2 := zfree hDm hS1 hA
  refine va_calli hR8 hS1 (fun q _ h => hF2 q h) hF2 (fun x2 u2 t8 H2 locs2 ht2 hvm2 hw2 hB2 hz2 hk2 hS2 => ?_)
  have hEq : x1 = x2 := by
    rw [hw, hw2]
    have e1 : v1 = y1 := ev1.trans ey1.symm
    have e2 : v2 = y2 := ev2.trans ey2.symm
    have e3 : v3 = y3 := ev3.trans ey3.symm
    subst e1
    subst e2
    subst e3
    rw [zcn_eq 8 (zbyte v1), zcn_eq 8 (zbyte v2), zcn_eq 8 (zbyte v3)]
  refine lv_icmp_eq (tgt := 1499) hx hb dL_law_318 (by decide) (fun _ => ?_) (fun c9 => absurd hEq c9)
  have hW := zgo_sound zzcl zztab 50 0 20 1499 [(4, .int 0), (0, .float 0)] [] [] zzn zzs _ zr1499 zme0 rfl p l e room_1 s m args below meth c Q dC dI cA g A (F _ hE) (Hf _ _ _ _ (by decide) (by decide))
  exact hW [] H2 locs2 ls _ [] ⟨⟨rfl, fun k e w q => by simp at q, fun k a q => by rw [hg0] at q; simp at q⟩, fun k q h => by simp at h, ⟨fun i j p q h => by simp at h, fun k q h => by simp at h⟩, hS2, lv_sub hl [0, 4] rfl, ⟨rfl, rfl, rfl, rfl, trivial⟩, trivial⟩
end
section
/-! the law behind its case 8's first call: tables of their own -/
def zzm8 : List ZMe := [(RL, yL_law, cL_law, 7, (some .boolean), 600000, 7300000),
  (RX10, yX10_layer, cX10_layer, 5, (some .int), 0, 0),
  (RX10, yX10_isCut, cX10_isCut, 3, (some .boolean), 0, 0),
  (RX10, yX10_isPlace, cX10_isPlace, 2, (some .boolean), 0, 0),
  (RX10, yX10_within, cX10_within, 3, (some .boolean), 0, 0),
  (RX10, yX10_thrown, cX10_thrown, 1, (some .int), 0, 0)]
def zu0 : List ZI := [(23, .iload 4, 2, []), (25, .aload_n 0, 1, []), (26, .arraylength, 1, []), (27, .bipush 7, 2, []), (29, .isub, 1, []), (30, .if_icmp .gt 1475, 3, []), (681, .istore 5, 2, []), (683, .aload_n 2, 1, []), (684, .aload_n 0, 1, []), (685, .iload 4, 2, []), (687, .iconst 1, 1, []), (688, .iadd, 1, []), (689, .iaload, 1, []), (690, .aload_n 0, 1, []), (691, .iload 4, 2, []), (693, .iconst 2, 1, []), (694, .iadd, 1, []), (695, .iaload, 1, []), (696, .aload_n 0, 1, []), (697, .iload 4, 2, []), (699, .iconst 3, 1, []), (700, .iadd, 1, []), (701, .iaload, 1, []), (702, .invokevirtual 64, 3, [2, 1, 3, 9, 1558, 1559, 127, 1561, 1560]), (705, .istore 6, 2, []), (707, .aload_n 2, 1, []), (708, .invokevirtual 65, 3, [2, 5, 0, 9, 1260, 1261, 127, 1263, 1262]), (711, .iload 5, 2, []), (713, .if_icmp .eq 5, 3, []), (718, .iload 5, 2, []), (720, .ifCond .ne 15, 3, []), (735, .goto 764, 3, []), (1499, .iinc 4 7, 3, []), (1502, .goto (-1479), 3, []), (1505, .iconst 1, 1, []), (1506, .ireturn, 1, [])]
def zu1 : List ZI := [(0, .aload_n 0, 1, []), (1, .aload_n 0, 1, []), (2, .iload_n 1, 1, []), (3, .iload_n 2, 1, []), (4, .invokevirtual 283, 3, [2, 2, 2, 9, 1554, 1556, 127, 1557, 77]), (7, .ifCond .eq 16, 3, []), (23, .iconst 1, 1, []), (24, .putfield 1, 3, [9, 0, 0, 0, 1294]), (27, .aload_n 0, 1, []), (28, .getfield 1, 3, [9, 0, 1294]), (31, .ifCond .le 5, 3, []), (34, .iconst 0, 1, []), (35, .ireturn, 1, [])]
def zu2 : List ZI := [(0, .aload_n 0, 1, []), (1, .iload_n 1, 1, []), (2, .invokevirtual 277, 3, [2, 3, 1, 9, 1531, 1533, 127, 1534, 74]), (5, .ifCond .eq 21, 3, []), (26, .iconst 0, 1, []), (27, .ireturn, 1, [])]
def zu3 : List ZI := [(0, .iload_n 1, 1, []), (1, .iconst 0, 1, []), (2, .bipush 11, 2, []), (4, .invokestatic 244, 3, [0, 4, 3, 0, 1482, 1483, 127, 1484]), (7, .ifCond .eq 16, 3, []), (10, .aload_n 0, 1, []), (11, .getfield 83, 3, [9, 17, 1311]), (14, .iload_n 1, 1, []), (15, .baload, 1, []), (16, .ifCond .eq 7, 3, []), (23, .iconst 0, 1, []), (24, .ireturn, 1, [])]
def zu4 : List ZI := [(0, .iload_n 0, 1, []), (1, .iload_n 1, 1, []), (2, .if_icmp .lt 12, 3, []), (5, .iload_n 0, 1, []), (6, .iload_n 2, 1, []), (7, .if_icmp .gt 7, 3, []), (10, .iconst 1, 1, []), (11, .goto 4, 3, []), (14, .iconst 0, 1, []), (15, .ireturn, 1, [])]
def zu5 : List ZI := [(0, .aload_n 0, 1, []), (1, .getfield 1, 3, [9, 0, 1294]), (4, .ireturn, 1, [])]
def zzc8 : List (List ZI) := [zu0, zu1, zu2, zu3, zu4, zu5]
theorem zv0_ok : ∀ q ∈ zu0, zok zzm8 (RL, yL_law, cL_law, 7, (some .boolean), 600000, 7300000) q = true := List.all_eq_true.mp (by decide +kernel)
theorem zv1_ok : ∀ q ∈ zu1, zok zzm8 (RX10, yX10_layer, cX10_layer, 5, (some .int), 0, 0) q = true := List.all_eq_true.mp (by decide +kernel)
theorem zv2_ok : ∀ q ∈ zu2, zok zzm8 (RX10, yX10_isCut, cX10_isCut, 3, (some .boolean), 0, 0) q = true := List.all_eq_true.mp (by decide +kernel)
theorem zv3_ok : ∀ q ∈ zu3, zok zzm8 (RX10, yX10_isPlace, cX10_isPlace, 2, (some .boolean), 0, 0) q = true := List.all_eq_true.mp (by decide +kernel)
theorem zv4_ok : ∀ q ∈ zu4, zok zzm8 (RX10, yX10_within, cX10_within, 3, (some .boolean), 0, 0) q = true := List.all_eq_true.mp (by decide +kernel)
theorem zv5_ok : ∀ q ∈ zu5, zok zzm8 (RX10, yX10_thrown, cX10_thrown, 1, (some .int), 0, 0) q = true := List.all_eq_true.mp (by decide +kernel)
theorem zztab8 : zTab zzm8 zzc8 := by
  intro k me tb h1 h2
  match k, h1, h2 with
  | 0, h1, h2 => cases h1; cases h2; exact zv0_ok
  | 1, h1, h2 => cases h1; cases h2; exact zv1_ok
  | 2, h1, h2 => cases h1; cases h2; exact zv2_ok
  | 3, h1, h2 => cases h1; cases h2; exact zv3_ok
  | 4, h1, h2 => cases h1; cases h2; exact zv4_ok
  | 5, h1, h2 => cases h1; cases h2; exact zv5_ok
  | n + 6, h1, h2 => cases h1
noncomputable def zdrive8 (N : Nat) (n : Nat) : ZN → Bool := Nat.rec (motive := fun _ => ZN → Bool) (fun _ => false) (fun _ ih box => match zgo zzm8 zzc8 zzd box 7 99999 N 0 20 681 zzl [.int 1] zzh (zzn + 1) (zzs + 6) with
  | .ok r => zfin1 r
  | .error q => (match zget box q.1 with
    | some b => cond (decide (b.1 < q.2) && decide (q.2 ≤ b.2)) (zsk box (b.1, q.2 - 1) q.1 (fun b1 => cond (ih b1) (zsk box (q.2, b.2) q.1 ih) false)) false
    | none => false)) n
theorem zq8 : zdrive8 10000 200 (zbox 8) = true := by decide +kernel
def zOK8 (box : ZN) : Prop := ∀ (p : Program) (l : Launch) (e : Env) (s : State) (m : MethodId) (args : Array Value) (below : List Frame) (meth : Method) (c : Code) (Q : State → Prop) (dC : Nat → ClassId) (dI : Nat → Nat → Nat) (cA : Nat → ClassId) (g : ZG) (A : Nat → Prop), zen box g → (∀ E, zen E g → zF E 7 0 20 zme0 p room_1 s m args meth c dC dI cA g A) → (∀ (lv : ZL) (hp : List ZE) (nc ns : Nat), nc ≤ 600002 → ns ≤ 7302232 → zW p l e room_1 s m args below meth c Q dC dI cA g A 7 1506 lv [.int 1] hp nc ns) → zW p l e room_1 s m args below meth c Q dC dI cA g A 7 681 zzl [.int 1] zzh (zzn + 1) (zzs + 6)
theorem zOK8_split {box b1 b2 : ZN} (t : Nat) {lo hi : Int} (c : Int) (hb : box[t]? = some (lo, hi)) (e1 : box.set t (lo, c - 1) = b1) (e2 : box.set t (c, hi) = b2) (h1 : zOK8 b1) (h2 : zOK8 b2) : zOK8 box := by
  intro p l e s m args below meth cc Q dC dI cA g A hE F Hf
  have hq := hE t _ hb
  by_cases hc : (g.1 t).toInt < c
  · exact h1 p l e s m args below meth cc Q dC dI cA g A (by rw [← e1]; exact zen_set hE hq.1 (by omega)) F Hf
  · exact h2 p l e s m args below meth cc Q dC dI cA g A (by rw [← e2]; exact zen_set hE (by omega) hq.2) F Hf
theorem zOK8_drive (hcl : zCl zzd) (htab : zTab zzm8 zzc8) {N : Nat} : ∀ (n : Nat) (box : ZN), zdrive8 N n box = true → zOK8 box := by
  intro n
  induction n with
  | zero =>
    intro box h
    cases h
  | succ n ih =>
    intro box h
    have h : (match zgo zzm8 zzc8 zzd box 7 99999 N 0 20 681 zzl [.int 1] zzh (zzn + 1) (zzs + 6) with
      | .ok r => zfin1 r
      | .error q => (match zget box q.1 with
        | some b => cond (decide (b.1 < q.2) && decide (q.2 ≤ b.2)) (zsk box (b.1, q.2 - 1) q.1 (fun b1 => cond (zdrive8 N n b1) (zsk box (q.2, b.2) q.1 (zdrive8 N n)) false)) false
        | none => false)) = true := h
    cases hg : zgo zzm8 zzc8 zzd box 7 99999 N 0 20 681 zzl [.int 1] zzh (zzn + 1) (zzs + 6) with
    | ok r =>
      rw [hg] at h
      simp only [zfin1, Bool.and_eq_true] at h
      obtain ⟨h1, ⟨h2, h3⟩, h4⟩ := h
      intro p l e s m args below meth c Q dC dI cA g A hE F Hf
      refine zgo_sound hcl htab N 0 20 681 zzl [.int 1] zzh (zzn + 1) (zzs + 6) r hg zme0 rfl p l e room_1 s m args below meth c Q dC dI cA g A (F box hE) ?_
      obtain ⟨pc, lv, st, hp, nc, ns⟩ := r
      have e1 : pc = 1506 := Nat.beq_eq.mp h1
      subst e1
      match st, h4 with
      | [.int x], h4 =>
        have e2 : x = 1 := of_decide_eq_true h4
        subst e2
        exact Hf lv hp nc ns (Nat.le_of_ble_eq_true h2) (Nat.le_of_ble_eq_true h3)
    | error q =>
      rw [hg] at h
      simp only [zget_eq] at h
      cases hb : box[q.1]? with
      | none => rw [hb] at h; cases h
      | some b =>
        rw [hb] at h
        simp only [zsk_eq] at h
        cases hd : (decide (b.1 < q.2) && decide (q.2 ≤ b.2)) with
        | false => rw [hd] at h; cases h
        | true =>
          rw [hd, cond_true] at h
          cases h1 : zdrive8 N n (box.set q.1 (b.1, q.2 - 1)) with
          | false => rw [h1] at h; cases h
          | true =>
            rw [h1, cond_true] at h
            exact zOK8_split q.1 (lo := b.1) (hi := b.2) q.2 hb rfl rfl (ih _ h1) (ih _ h)
theorem zo8b : zOK8 (zbox 8) := zOK8_drive zzcl zztab8 200 _ zq8
end
section
/-! a throw of NoSuchElementException with a text: its constructor's link is at entry 13 -/
def zXn : String := "java/util/NoSuchElementException"
def z13b : ByteArray := ⟨#[0x2a, 0x2b, 0xb7, 0x00, 0x0d, 0xb1]⟩
theorem z13b_0 : decode z13b 0 = .ok (.aload_n 0, 1) := by decide +kernel
theorem z13b_1 : decode z13b 1 = .ok (.aload_n 1, 1) := by decide +kernel
theorem z13b_2 : decode z13b 2 = .ok (.invokespecial 13, 3) := by decide +kernel
theorem z13b_5 : decode z13b 5 = .ok (.return_, 1) := by decide +kernel
def zownA (own : String) (ic : Nat) : List Cond := Bundle.throwableAtoms ++ Bundle.throwableSAtoms ++ (Bundle.passSAtoms zXn "java/lang/RuntimeException" 13 z13b ++ Bundle.chainSAtoms "java/lang/RuntimeException" ["java/lang/Exception"]) ++
  [.methodLink own ic (Bundle.initS zXn), .instantiable zXn 6, .castable zXn zXn, .selects zXn Bundle.tFill0 Bundle.tFill0, .selects zXn Bundle.tFill Bundle.tFill,
   .lays zXn Bundle.tN "cause" "Ljava/lang/Throwable;", .lays zXn Bundle.tN "stackTrace" Bundle.steD, .lays zXn Bundle.tN "suppressedExceptions" Bundle.listD, .lays zXn Bundle.tN "detailMessage" "Ljava/lang/String;",
   .isRef (.static Bundle.tN "UNASSIGNED_STACK" Bundle.steD), .isRef (.static Bundle.tN "SUPPRESSED_SENTINEL" Bundle.listD),
   .fieldLink Bundle.tN 198 Bundle.tN "backtrace" "Ljava/lang/Object;", .lays Bundle.tN Bundle.tN "backtrace" "Ljava/lang/Object;", .lays zXn Bundle.tN "backtrace" "Ljava/lang/Object;"]
def zatS (own : String) (ic : Nat) : List Cond := (zownA own ic).filter vx_no
set_option maxHeartbeats 1000000 in
theorem zctorS {p : Program} {l : Launch} {e : Env} {R : Room} {s : State} {m₀ : MethodId} {args : Array Value} {below : List Frame} {meth : Method} {c : Code} {W : State} {locs : List Loc} {cells slots : Nat} (X : Stand p l e R s m₀ args below meth c W locs cells slots) (hexec : p.tables.exec = Jvm.exec) (htr : e.platform.stackTraces = false) {own : String} {ic : Nat}
    (hown : s.vm.findClass own = some m₀.cls) 
    (h : ∀ a ∈ zownA own ic, a.before args s = true)
    (hlocs : ∀ x ∈ locs, ∀ cell, s.heap[x.base]? = some cell → cell.vm.isStatics = false)
    {a : Addr} {cX : ClassId} {kX : Class} (hfoundX : s.vm.findClass zXn = some cX) (hkX : s.vm.classes[cX]? = some kX) (hcell : W.heap[a]? = some (freshCell cX kX)) (hnew : s.heap.size ≤ a)
    {msg : Value} (hmsg : msg.isRef = true)
    {g : JFrame} (hg : g.method = m₀) (hsize : g.locals.size = c.maxLocals) (hlocked : g.locked = none) (hentered : g.entered = []) {rest : List Value} (hstack : g.stack = msg :: .ref a :: .ref a :: rest)
    (hd6 : decode c.code g.pc = .ok (.invokespecial ic, 3)) (hd9 : decode c.code (g.pc + 3) = .ok (.athrow, 1)) (hout : ∀ x ∈ c.exceptionTable.toList, covers x (g.pc + 3) = false)
    (hRframes : 2 + 3 < R.frames) (hRlocals : 2 * g.monitorRoom + ((Value.ref a :: rest).map fun v => v.category).sum + (13 * (2 + 1) + 42) ≤ R.locals) (hlocks : meth.locks = false := by first | assumption | exact BodyLoose.notSynchronized (by assumption) | exact Body.notSynchronized (by assumption)) :
    ∃ U : State, Steps p.tables e below (W.setTop g) U ∧ U.status = .running ∧ Ended U below (.threw a) ∧ s.WarmedH U.vm ∧ s.sameButNew ({ U with vm := s.vm } : State) locs cells slots ∧
      ∃ ce, U.heap[a]? = some ce ∧ ce.vm = .none ∧ s.vm.findClass zXn = some ce.cls := by
  have howns : e.platform.frameOwnsMonitors = true := by rw [X.admits.platform]
  have hfin : e.platform.finalization = false := by rw [X.admits.platform]
  have hpl : e.platform.magicAccessors = ({} : Platform).magicAccessors := by rw [X.admits.platform]
  have a' : ∀ x, x ∈ zownA own ic → x.holds args s none s [] = true := fun x hx => h x hx
  obtain ⟨T, Z0, L, -, Y⟩ := ThrowableC.of_atoms (args := args) howns hfin hpl (fun x hx => h x (by simp [zownA, hx]))
  obtain ⟨Z, M, LZ, LM, hnZ⟩ := Init0T.ofS_atoms (args := args) hpl L Y (fun x hx => h x (by simp [zownA, hx]))
  obtain ⟨P1, L1, hP1m, hs1⟩ := PassC.ofS_atoms (args := args) (s := s) hpl (X := zXn) (Y := "java/lang/RuntimeException") (index := 13) (bytes := z13b) (by decide) (by decide) z13b_0 z13b_1 z13b_2 z13b_5 (fun x hx => h x (by simp [zownA, hx]))
  obtain ⟨P2, Ps2, hlen2, L2, hL2, hm2, hsup2, hpass2⟩ := Bundle.chainS (args := args) hpl hnZ ["java/lang/Exception"] "java/lang/RuntimeException" (by decide +kernel) (by decide +kernel) (fun x hx => h x (by simp [zownA, hx]))
  obtain ⟨Ps, hPs⟩ : ∃ Ps, Ps = P2 :: Ps2 := ⟨_, rfl⟩
  have hlen : Ps.length = 2 := by rw [hPs, List.length_cons, hlen2]; rfl
  have hL : ∀ P, P ∈ Ps → P.LinksS e.platform s := by
    intro P hP
    rw [hPs] at hP
    rcases List.mem_cons.mp hP with rfl | hP
    · exact L2
    · exact hL2 P hP
  have hlink1 : P1.sup = firstOf (Z.m T.toThrowableT) (Ps.map (·.toPassT)) := by rw [hPs]; exact Option.some.inj (hs1.symm.trans hm2)
  have hlink : PassesOn (Z.m T.toThrowableT) (Ps.map (·.toPassT)) := by rw [hPs]; exact ⟨hsup2, hpass2⟩
  have hfound : s.vm.findClass zXn = some P1.m.cls := findClass_of_methodNamed hP1m
  cases Option.some.inj (hfoundX.symm.trans hfound)
  obtain ⟨c1, kX', hc1, hk, hord, -, -, hn6⟩ := Cond.instantiable_spec (a' (.instantiable zXn 6) (by simp [zownA]))
  cases Option.some.inj (hc1.symm.trans hfound)
  cases Option.some.inj (hkX.symm.trans hk)
  have hsel0 : selectMethod e.platform s.vm P1.m.cls T.fill0 = .method T.fill0 := by
    obtain ⟨c2, r2, m2, q1, q2, q3, q4, -⟩ := Cond.selects_spec (a' (.selects zXn Bundle.tFill0 Bundle.tFill0) (by simp [zownA]))
    cases Option.some.inj (q1.symm.trans hfound)
    cases Option.some.inj (q2.symm.trans (State.methodFound?_of_named Y.fill0 (by decide)))
    cases Option.some.inj (q3.symm.trans Y.fill0)
    rw [Launch.admits_selectMethod X.admits]; exact q4
  have hselF : selectMethod e.platform s.vm P1.m.cls T.fill = .method T.fill := by
    obtain ⟨c2, r2, m2, q1, q2, q3, q4, -⟩ := Cond.selects_spec (a' (.selects zXn Bundle.tFill Bundle.tFill) (by simp [zownA]))
    cases Option.some.inj (q1.symm.trans hfound)
    cases Option.some.inj (q2.symm.trans (State.methodFound?_of_named Y.fill (by decide)))
    cases Option.some.inj (q3.symm.trans Y.fill)
    rw [Launch.admits_selectMethod X.admits]; exact q4
  obtain ⟨cellS0, hcS0, hiss⟩ := Y.statics
  obtain ⟨u0, hu0⟩ := Cond.staticRefV Y.unassigned L.unassignedStatic L.statics hcS0 hiss (a' (.isRef (.static Bundle.tN "UNASSIGNED_STACK" Bundle.steD)) (by simp [zownA]))
  obtain ⟨sen, hsen⟩ := Cond.staticRefV Y.sentinel L.sentinelStatic L.statics hcS0 hiss (a' (.isRef (.static Bundle.tN "SUPPRESSED_SENTINEL" Bundle.listD)) (by simp [zownA]))
  obtain ⟨ci198, i198, fB, hk198, hg198, ha198, hsB, -, hnB, htB, hffB⟩ := Cond.ownField (t := .object "java/lang/Object") Y.found L.cls (by decide +kernel) (a' (.fieldLink Bundle.tN 198 Bundle.tN "backtrace" "Ljava/lang/Object;") (by simp [zownA])) (a' (.lays Bundle.tN Bundle.tN "backtrace" "Ljava/lang/Object;") (by simp [zownA])) e.platform hpl
  obtain ⟨cellS, hcS', heS, -, hkeep⟩ := X.same.2.2.2.2.2 T.aS cellS0 hcS0
  have hcellS : W.heap[T.aS]? = some cellS := hcS'
  have hout' : ∀ i, (⟨T.aS, i⟩ : Loc) ∉ locs := fun i hmem => by
    have := hlocs _ hmem cellS0 hcS0
    rw [hiss] at this; cases this
  have hknownS : cellS.vm ≠ .unknown := by
    rw [heS]; intro hu
    rw [show cellS0.vm = .unknown from hu] at hiss
    cases hiss
  have hneS : T.aS ≠ a := Nat.ne_of_lt (Nat.lt_of_lt_of_le (Array.getElem?_eq_some_iff.mp hcS0).1 hnew)
  obtain ⟨iM, hffM⟩ := Y.msg
  obtain ⟨tyC, dC, hdC, hdnC⟩ := Cond.laysAt hfound hk Y.cause (a' (.lays zXn Bundle.tN "cause" "Ljava/lang/Throwable;") (by simp [zownA]))
  obtain ⟨tyS, dS, hdS, hdnS⟩ := Cond.laysAt hfound hk Y.stack (a' (.lays zXn Bundle.tN "stackTrace" Bundle.steD) (by simp [zownA]))
  obtain ⟨tyP, dP, hdP, hdnP⟩ := Cond.laysAt hfound hk Y.supp (a' (.lays zXn Bundle.tN "suppressedExceptions" Bundle.listD) (by simp [zownA]))
  obtain ⟨tyM, dM, hdM, hdnM⟩ := Cond.laysAt hfound hk hffM (a' (.lays zXn Bundle.tN "detailMessage" "Ljava/lang/String;") (by simp [zownA]))
  obtain ⟨tyB, dB, hdB, hdnB⟩ := Cond.laysAt hfound hk hffB (a' (.lays zXn Bundle.tN "backtrace" "Ljava/lang/Object;") (by simp [zownA]))
  have bC := Cond.laysApart hdB hdC hdnB hdnC (by rw [hnB, Y.causeName]; decide)
  have bS := Cond.laysApart hdB hdS hdnB hdnS (by rw [hnB, Y.stackName]; decide)
  have bP := Cond.laysApart hdB hdP hdnB hdnP (by rw [hnB, Y.suppName]; decide)
  have hskip : SkipFacts T e.platform s (fun u => u) u0 ((preparedCellV T.toThrowableT (freshCell P1.m.cls kX) a u0 sen).withEntry W.cur) :=
    ⟨{ ci198 := ci198, i198 := i198, fBack := fB }, ⟨hk198, hg198, ha198, hsB⟩, by
      have := fresh_default (c := P1.m.cls) tyB
      rw [htB] at this
      simpa [preparedCellV, Cell.setSlot, Cell.withEntry, Array.getElem?_setIfInBounds, bC, bS, bP, bC.symm, bS.symm, bP.symm, defaultValue] using this, fun _ _ => rfl⟩
  obtain ⟨tm, methC, cdC, kC, vm₁, hnC, -, -, -, -, -, -, -, hW₁, st1⟩ := Steps.initColdS (tb := p.tables) (e := e) (below := below) (s := s) (U := W) X.here hexec X.warmed hpl hown (t := Bundle.initS zXn) rfl rfl (by decide)
    (a' (.methodLink own ic (Bundle.initS zXn)) (by simp [zownA])) (h (.instanceMethod (Bundle.initS zXn)) (by simp [zownA, Bundle.passSAtoms])) (bytes := z13b) (maxL := 2) (h (.code (Bundle.initS zXn) z13b 2 none) (by simp [zownA, Bundle.passSAtoms]))
    (f := g) hg (a := a) (msg := msg) (rest := .ref a :: rest) hstack hd6
  cases Option.some.inj (hnC.symm.trans hP1m)
  have X₁ := X.noted hW₁
  obtain ⟨vm₂, X₂, st2⟩ := X₁.ctorMessageOffV hexec (g := { g with stack := .ref a :: rest }) hg hsize T L Z LZ M LM (P1 :: Ps)
    (fun P hP => by rcases List.mem_cons.mp hP with rfl | hP; exact L1; exact hL P hP) ⟨hlink1, hlink⟩ (u0 := u0) (sen := sen) (self := a) hmsg (cell := freshCell P1.m.cls kX) (cellS := cellS)
    hcell (fun _ => by simp) (by simp) rfl rfl hsel0 hselF hcellS hneS hknownS (by rw [hkeep _ (hout' _)]; exact hu0) (by rw [hkeep _ (hout' _)]; exact hsen)
    (Takes.of_laid hk hord tyC (by rw [Y.causeType]; rfl)) (Takes.of_laid hk hord tyS (by rw [Y.stackType]; exact fits_refV_array _ u0)) (Takes.of_laid hk hord tyP (by rw [Y.suppType]; exact fits_refV_object _ sen))
    (Takes.of_laid hk hord tyM (by rw [Y.msgType]; exact fits_refV_object _ ⟨msg, hmsg⟩)) Y.objLocals hskip htr [] hd6
    (by simp only [List.length_cons, hlen]; omega) (by simp only [List.length_cons, hlen]; exact hRlocals)
  obtain ⟨hwalk, hrun, hended, hWU, hsame⟩ := X₂.athrowLeaves hexec (g := { g with stack := .ref a :: rest, pc := g.pc + 3 }) hg hlocked hentered hout (a := a) (rest := rest) rfl hd9
  obtain ⟨c3, c4, hc3, hc4, hasg⟩ := Cond.castable_spec (a' (.castable zXn zXn) (by simp [zownA]))
  cases Option.some.inj (hc3.symm.trans hfound)
  cases Option.some.inj (hc4.symm.trans hfound)
  have hlt : a < ((W.setVm vm₁).setVm vm₂).heap.size := (Array.getElem?_eq_some_iff.mp hcell).1
  have hU := heapAt_setCell_self (s := (W.setVm vm₁).setVm vm₂) (plainBareV T.toThrowableT (freshCell P1.m.cls kX) a u0 sen msg) hlt
  refine ⟨_, st1 _ (fun acts => ?_), hrun, hended, hWU, hsame.weaken (fun y hy hlt' => ?_) (Nat.le_refl _) (Nat.le_refl _), _, hU, rfl, hfound⟩
  · rw [doInvoke_state]
    exact st2 _ hwalk
  · rcases List.mem_append.mp hy with h1 | h1
    · exact h1
    · exfalso
      have hb : y.base = a := by
        simp only [List.mem_cons, List.not_mem_nil, or_false] at h1
        rcases h1 with rfl | rfl | rfl | rfl | rfl <;> rfl
      rw [hb] at hlt'
      exact Nat.not_lt.mpr hnew hlt'
theorem zthrow {p : Program} {l : Launch} {e : Env} {R : Room} {s : State} {m : MethodId} {args : Array Value} {below : List Frame} {meth : Method} {c : Code} {H : Heap} {locs : List Loc} {cells slots : Nat} {free : Addr → Prop} {ls : Array Slot} {rest : List Value} {Qc : Array Value → State → Outcome → State → Prop} {XC : String → State → State → Prop} {cc : ByteArray} {pc : Nat} (hexec : p.tables.exec = Jvm.exec) (hb : c.code = cc) (hl : l.stackTraces = false) {own text : String} {ik is ic mc ms sa : Nat} {A : Nat → Prop}
    (hown : s.vm.findClass own = some m.cls) 
    (hk : (Cond.classLink own ik zXn).before args s = true) (hini : (Cond.initialized zXn).before args s = true) (hstr : vk_R own is text sa s) (hat : ∀ w ∈ zatS own ic, w.before args s = true)
    (hgood : ∀ w ∈ Cond.classLink own ik zXn :: Cond.initialized zXn :: zatS own ic, vx_ot w = true)
    (hU : vx_Zq Bundle.tN "UNASSIGNED_STACK" Bundle.steD A s s.heap) (hN : vx_Zq Bundle.tN "SUPPRESSED_SENTINEL" Bundle.listD A s s.heap) (hS : va_S A s.heap H locs) (hsize : ls.size = c.maxLocals)
    (d0 : decode cc pc = .ok (.new ik, 3)) (d3 : decode cc (pc + 3) = .ok (.dup, 1)) (d4 : decode cc (pc + 4) = .ok (.ldc is, 2)) (d6 : decode cc (pc + 6) = .ok (.invokespecial ic, 3)) (d9 : decode cc (pc + 9) = .ok (.athrow, 1))
    (hout : ∀ x ∈ c.exceptionTable.toList, covers x (pc + 9) = false)
    (hRframes : 2 + 3 < R.frames) (hRlocals : (rest.map fun v => v.category).sum + (13 * (2 + 1) + 43) ≤ R.locals) (hRcells : cells + 1 ≤ R.cells) (hRslots : slots + 6 ≤ R.slots) (hlocks : meth.locks = false)
    (hx : ∀ t : State, s.vm.Alike t.vm → H.size ≤ t.heap.size → (∀ q : Nat, q < H.size → t.heap[q]? = H[q]?) → XC zXn s t)
    (hf : ∀ z ∈ locs, free z.base) (hc : cells + 1 ≤ mc) (hs : slots + 6 ≤ ms) :
    W p l e R s m args below meth c H locs cells slots (vx_MQ below Qc XC args s mc ms free) (F0 m pc ls rest) := by
  intro T hT X
  have htr : e.platform.stackTraces = false := (show e.platform.stackTraces = l.stackTraces by rw [X.admits.platform]).trans hl
  have Y := vx_rebase X (R' := { frames := R.frames, locals := R.locals, cells := 1, slots := 6 }) (Nat.le_refl _) (Nat.le_refl _) hRcells hRslots
  obtain ⟨s', hA⟩ : ∃ z, z = (T.setVm s.vm).setFrames (.invoking m args :: below) := ⟨_, rfl⟩
  rw [← hA] at Y
  have hvm : s'.vm = s.vm := by rw [hA]; rfl
  have hhp : s'.heap = H := by rw [hA]; exact hT
  have hW0 : s.WarmedH s'.vm := by rw [hvm]; exact State.WarmedH.refl s
  have hat' : ∀ w ∈ zatS own ic, w.before args s' = true := fun w hw => vx_ot_at hW0 hvm.symm (hgood w (List.mem_cons_of_mem _ (List.mem_cons_of_mem _ hw))) (hat w hw)
  have hk' : (Cond.classLink own ik zXn).before args s' = true := vx_ot_at hW0 hvm.symm (hgood _ List.mem_cons_self) hk
  have hini' : (Cond.initialized zXn).before args s' = true := vx_ot_at hW0 hvm.symm (hgood _ (List.mem_cons_of_mem _ List.mem_cons_self)) hini
  have hU' : vx_Zq Bundle.tN "UNASSIGNED_STACK" Bundle.steD A s' s'.heap := by rw [hhp]; exact vx_Zq.moved hW0.alike (hU.kept hS.2.1)
  have hN' : vx_Zq Bundle.tN "SUPPRESSED_SENTINEL" Bundle.listD A s' s'.heap := by rw [hhp]; exact vx_Zq.moved hW0.alike (hN.kept hS.2.1)
  have h : ∀ w ∈ zownA own ic, w.before args s' = true := vx_own hat' (vx_isRefq hU'.1) (vx_isRefq hN'.1) hU'.2.word hN'.2.word
  have hown' : s'.vm.findClass own = some m.cls := by rw [hvm]; exact hown
  have hins : (Cond.instantiable zXn 6).before args s' = true := h _ (by simp [zownA])
  obtain ⟨vm₁, cX, kX, hfX, hkX, -, -, X₁, st1⟩ := Y.newCold hexec (own := own) (C := zXn) (index := ik) (n := 6) hown' hk' hins hini'
    (g := F0 m pc ls rest) rfl (by rw [hb]; exact d0) (Nat.le_refl _) (Nat.le_refl _)
  generalize hT1 : (T.setVm vm₁).pushCell { cls := cX, slots := kX.instanceTypes.map defaultValue, vm := .none } = T1 at X₁ st1
  have hcat : (Value.ref T.heap.size).category = 1 := rfl
  have hcellA : T1.heap[T.heap.size]? = some (freshCell cX kX) := by rw [← hT1]; exact State.heap_pushCell_size _ _
  have d3' : decode c.code (pc + 3) = .ok (.dup, 1) := by rw [hb]; exact d3
  have d4' : decode c.code (pc + 4) = .ok (.ldc is, 2) := by rw [hb]; exact d4
  have hstr' : vk_R own is text sa s' := vk_R.warm hW0 hstr
  obtain ⟨U, hsteps, hrun, hend, hW, hsame, ce, hce, hO⟩ := zctorS X₁ hexec htr (own := own) (ic := ic) hown' h (fun x hx => nomatch hx) hfX hkX hcellA (by rw [hhp, hT]; exact Nat.le_refl _) (msg := .ref sa) rfl
    (g := { method := m, pc := pc + 6, locals := ls, stack := .ref sa :: .ref T.heap.size :: .ref T.heap.size :: rest, locked := none }) rfl hsize rfl rfl (rest := rest) rfl
    (by rw [hb]; exact d6) (by rw [hb]; exact d9) hout hRframes (by simp only [List.map_cons, List.sum_cons, hcat]; omega) hlocks
  obtain ⟨f1, f2⟩ := vx_frame hsame
  rw [hhp] at f1 f2
  have hWs : s.WarmedH U.vm := State.WarmedH.trans hW0 hW
  have hcl : s.vm.findClass zXn = some ce.cls := by
    have h9 := hO.2
    rw [hvm] at h9
    exact h9
  have hall : s.sameButNew ({ U with vm := s.vm } : State) locs mc ms := by
    subst hA
    obtain ⟨e1, e2⟩ := hsame
    rw [State.setFrames_setFrames] at e1
    have h2 : (T.setVm s.vm).sameButNew ({ U with vm := s.vm } : State) [] (0 + 1) (0 + 6) := ⟨e1, e2⟩
    have h3 := X.same.trans h2
    rw [List.append_nil] at h3
    exact h3.mono hc hs
  refine ⟨U, ?_, .threw T.heap.size, hrun, hend, Or.inr ⟨T.heap.size, rfl, zXn, ce, locs, hx U hWs.alike f1 (fun q hq => f2 q hq (fun z hz => nomatch hz)), hce, hO.1, hcl, hWs, hall, hf⟩⟩
  refine st1 _ ?_
  show Steps p.tables e below (T1.setTop { method := m, pc := pc + 3, locals := ls, stack := .ref T.heap.size :: rest, locked := none }) _
  jvm_step X₁.here [X₁.here.top, hexec, d3', Value.category]
  exact X₁.ldcString hexec (own := own) (text := text) (index := is) (a := sa) hown' hstr'.1 hstr'.2
    (g := { method := m, pc := pc + 4, locals := ls, stack := .ref T.heap.size :: .ref T.heap.size :: rest, locked := none }) rfl d4' _ hsteps
end
section
/-! case 8: the class throws, the law catches; the reference books it -/
theorem dX9_layer_0 : decode cX9_layer 0 = .ok (.aload_n 0, 1) := by decide +kernel
theorem dX9_layer_1 : decode cX9_layer 1 = .ok (.iload_n 1, 1) := by decide +kernel
theorem dX9_layer_2 : decode cX9_layer 2 = .ok (.iload_n 2, 1) := by decide +kernel
theorem dX9_layer_3 : decode cX9_layer 3 = .ok (.invokevirtual 142, 3) := by decide +kernel
theorem dX9_layer_6 : decode cX9_layer 6 = .ok (.ifCond .eq 11, 3) := by decide +kernel
theorem dX9_layer_9 : decode cX9_layer 9 = .ok (.iload_n 3, 1) := by decide +kernel
theorem dX9_layer_10 : decode cX9_layer 10 = .ok (.iconst 3, 1) := by decide +kernel
theorem dX9_layer_11 : decode cX9_layer 11 = .ok (.invokestatic 110, 3) := by decide +kernel
theorem dX9_layer_14 : decode cX9_layer 14 = .ok (.ifCond .ne 13, 3) := by decide +kernel
theorem dX9_layer_17 : decode cX9_layer 17 = .ok (.new 145, 3) := by decide +kernel
theorem dX9_layer_20 : decode cX9_layer 20 = .ok (.dup, 1) := by decide +kernel
theorem dX9_layer_21 : decode cX9_layer 21 = .ok (.ldc 147, 2) := by decide +kernel
theorem dX9_layer_23 : decode cX9_layer 23 = .ok (.invokespecial 149, 3) := by decide +kernel
theorem dX9_layer_26 : decode cX9_layer 26 = .ok (.athrow, 1) := by decide +kernel
theorem dL_layer_0 : decode cL_layer 0 = .ok (.aload 4, 2) := by decide +kernel
theorem dL_layer_2 : decode cL_layer 2 = .ok (.iconst 0, 1) := by decide +kernel
theorem dL_layer_3 : decode cL_layer 3 = .ok (.aload_n 0, 1) := by decide +kernel
theorem dL_layer_4 : decode cL_layer 4 = .ok (.iload_n 1, 1) := by decide +kernel
theorem dL_layer_5 : decode cL_layer 5 = .ok (.iload_n 2, 1) := by decide +kernel
theorem dL_layer_6 : decode cL_layer 6 = .ok (.iload_n 3, 1) := by decide +kernel
theorem dL_layer_7 : decode cL_layer 7 = .ok (.invokevirtual 7, 3) := by decide +kernel
theorem dL_layer_10 : decode cL_layer 10 = .ok (.i2l, 1) := by decide +kernel
theorem dL_layer_11 : decode cL_layer 11 = .ok (.lastore, 1) := by decide +kernel
theorem dL_layer_12 : decode cL_layer 12 = .ok (.goto 7, 3) := by decide +kernel
theorem dL_layer_15 : decode cL_layer 15 = .ok (.astore 5, 2) := by decide +kernel
theorem dL_layer_17 : decode cL_layer 17 = .ok (.iconst 1, 1) := by decide +kernel
theorem dL_layer_18 : decode cL_layer 18 = .ok (.ireturn, 1) := by decide +kernel
theorem dL_layer_19 : decode cL_layer 19 = .ok (.iconst 0, 1) := by decide +kernel
theorem dL_layer_20 : decode cL_layer 20 = .ok (.ireturn, 1) := by decide +kernel
theorem dL_law_658 : decode cL_law 658 = .ok (.aload_n 1, 1) := by decide +kernel
theorem dL_law_659 : decode cL_law 659 = .ok (.aload_n 0, 1) := by decide +kernel
theorem dL_law_660 : decode cL_law 660 = .ok (.iload 4, 2) := by decide +kernel
theorem dL_law_662 : decode cL_law 662 = .ok (.iconst 1, 1) := by decide +kernel
theorem dL_law_663 : decode cL_law 663 = .ok (.iadd, 1) := by decide +kernel
theorem dL_law_664 : decode cL_law 664 = .ok (.iaload, 1) := by decide +kernel
theorem dL_law_665 : decode cL_law 665 = .ok (.aload_n 0, 1) := by decide +kernel
theorem dL_law_666 : decode cL_law 666 = .ok (.iload 4, 2) := by decide +kernel
theorem dL_law_668 : decode cL_law 668 = .ok (.iconst 2, 1) := by decide +kernel
theorem dL_law_669 : decode cL_law 669 = .ok (.iadd, 1) := by decide +kernel
theorem dL_law_670 : decode cL_law 670 = .ok (.iaload, 1) := by decide +kernel
theorem dL_law_671 : decode cL_law 671 = .ok (.aload_n 0, 1) := by decide +kernel
theorem dL_law_672 : decode cL_law 672 = .ok (.iload 4, 2) := by decide +kernel
theorem dL_law_674 : decode cL_law 674 = .ok (.iconst 3, 1) := by decide +kernel
theorem dL_law_675 : decode cL_law 675 = .ok (.iadd, 1) := by decide +kernel
theorem dL_law_676 : decode cL_law 676 = .ok (.iaload, 1) := by decide +kernel
theorem dL_law_677 : decode cL_law 677 = .ok (.aload_n 3, 1) := by decide +kernel
theorem dL_law_678 : decode cL_law 678 = .ok (.invokestatic 59, 3) := by decide +kernel
def zfinI (r : ZS) : Bool := zstop (some .boolean) .ireturn && (Nat.beq r.1 29 && ((match r.2.2.1 with
  | [.int x] => decide (x = 0)
  | _ => false) && (zeh r.2.2.2.1 zzh && (Nat.ble r.2.2.2.2.1 0 && Nat.ble r.2.2.2.2.2 0))))
theorem dX9_isCut_29 : decode cX9_isCut 29 = .ok (.ireturn, 1) := by decide +kernel
def zla : ZL := [(0, .ref 0), (1, .retAddr 1), (2, .retAddr 2)]
noncomputable def zdrvI (N : Nat) (n : Nat) : ZN → Bool := Nat.rec (motive := fun _ => ZN → Bool) (fun _ => false) (fun _ ih box => match zgo zzm zzc zzd box 7 99999 N 41 5 0 zla [] zzh 0 0 with
  | .ok r => zfinI r
  | .error q => (match zget box q.1 with
    | some b => cond (decide (b.1 < q.2) && decide (q.2 ≤ b.2)) (zsk box (b.1, q.2 - 1) q.1 (fun b1 => cond (ih b1) (zsk box (q.2, b.2) q.1 ih) false)) false
    | none => false)) n
theorem zqI : zdrvI 1000 100 (zbox 8) = true := by decide +kernel
abbrev zmeI : ZMe := (RX9, yX9_isCut, cX9_isCut, 3, (some .boolean), 0, 0)
/-- isCut on the new object: there is none -/
theorem zc_isCut (l : Launch) (dC : Nat → ClassId) (dI : Nat → Nat → Nat) (cA : Nat → ClassId) (g : ZG) (ws : va_W) (sz : Nat) (cas : List Value) (hg7 : g.1 7 = g.1 0 &&& 31) (hzh : zh g cA zzh ws) (hzv : zvs (zad ws) g [.ref 0, .retAddr 1, .retAddr 2] cas) {N : Nat} : ∀ (n : Nat) (box : ZN), zdrvI N n box = true → zen box g →
    Met l yX9_isCut (.code yX9_isCut cX9_isCut 3 (some .boolean) :: zT) { frames := 5, cells := 0, slots := 0, locals := 40 * 5 } (va_Pc cas (zB dC dI cA ws sz)) (va_Qi (fun x u => zpost (zga g (zad ws)) cA zzh ws u ∧ zv (zad u) (zga g (zad ws)) (.int 0) (.int x)) (zend dC dI cA (va_A ws sz)) (va_A ws sz)) 0 0 (va_A ws sz) := by
  intro n
  induction n with
  | zero =>
    intro box h
    cases h
  | succ n ih =>
    intro box h hE
    have h : (match zgo zzm zzc zzd box 7 99999 N 41 5 0 zla [] zzh 0 0 with
      | .ok r => zfinI r
      | .error q => (match zget box q.1 with
        | some b => cond (decide (b.1 < q.2) && decide (q.2 ≤ b.2)) (zsk box (b.1, q.2 - 1) q.1 (fun b1 => cond (zdrvI N n b1) (zsk box (q.2, b.2) q.1 (zdrvI N n)) false)) false
        | none => false)) = true := h
    cases hgo : zgo zzm zzc zzd box 7 99999 N 41 5 0 zla [] zzh 0 0 with
    | ok r =>
      rw [hgo] at h
      simp only [zfinI, Bool.and_eq_true] at h
      obtain ⟨-, h1, h4, h5, h2, h3⟩ := h
      obtain ⟨pc, lv, st, hp, nc, ns⟩ := r
      have e1 : pc = 29 := Nat.beq_eq.mp h1
      subst e1
      have e5 : hp = zzh := zeh_ok h5
      subst e5
      match st, h4, hgo with
      | [.int x], h4, hgo =>
        have e2 : x = 0 := of_decide_eq_true h4
        subst e2
        have hRun : zRun box 7 41 5 zmeI l dC dI cA (lv_args 0 [.ref 0, .retAddr 1, .retAddr 2]) zzh (29, lv, [.int 0], zzh, nc, ns) := fun p e R s m args below meth c Q g A F hw => zgo_sound zzcl zztab N 41 5 0 zla [] zzh 0 0 _ hgo zmeI rfl p l e R s m args below meth c Q dC dI cA g A F hw
        exact zmeti (v := .int 0) (own := RX9) (by decide) rfl (by decide) hE hg7 hzh hzv (by rw [zslots, zvs_sum hzv]; decide) (Nat.le_of_ble_eq_true h2) (Nat.le_of_ble_eq_true h3) rfl dX9_isCut_29 hRun
    | error q =>
      rw [hgo] at h
      simp only [zget_eq] at h
      cases hb : box[q.1]? with
      | none => rw [hb] at h; cases h
      | some b =>
        rw [hb] at h
        simp only [zsk_eq] at h
        cases hd : (decide (b.1 < q.2) && decide (q.2 ≤ b.2)) with
        | false => rw [hd] at h; cases h
        | true =>
          rw [hd, cond_true] at h
          cases h1 : zdrvI N n (box.set q.1 (b.1, q.2 - 1)) with
          | false => rw [h1] at h; cases h
          | true =>
            rw [h1, cond_true] at h
            have hq := hE q.1 b hb
            by_cases hc : (g.1 q.1).toInt < q.2
            · exact ih _ h1 (zen_set hE hq.1 (by omega))
            · exact ih _ h (zen_set hE (by omega) hq.2)
theorem zw_isCut : ∀ w ∈ zcw RX9 142 2 yX9_isCut cX9_isCut 3 (some .boolean), w ∈ zT := zchk_ok (is := [686, 688, 117, 689, 8]) (by decide +kernel)
theorem zw_layer : ∀ w ∈ zcw RL 7 2 yX9_layer cX9_layer 5 (some .int), w ∈ zT := zchk_ok (is := [1191, 1192, 117, 1194, 1193]) (by decide +kernel)
theorem zw_nse : ∀ w ∈ [Cond.classLink RX9 145 "java/util/NoSuchElementException", Cond.initialized "java/util/NoSuchElementException", Cond.classLink RL 13 "java/util/NoSuchElementException", Cond.methodLink RL 59 yL_layer, Cond.static yL_layer, Cond.initialized RL, Cond.codeWith yL_layer cL_layer 6 (some .int) [(0, 12, 15, 13)]], w ∈ zT := zchk_ok (is := [1195, 131, 1190, 1187, 1188, 116, 1189]) (by decide +kernel)
theorem zw_vx : ∀ w ∈ (zatS RX9 149).filter goodWord, w ∈ lw_tbl := by decide +kernel
theorem zw_vxn : ∀ w ∈ (zatS RX9 149).filter (fun w => !goodWord w), w ∈ [Cond.castable "java/util/NoSuchElementException" "java/util/NoSuchElementException", .declares (Bundle.initS "java/lang/RuntimeException"), .declares (Bundle.initS "java/lang/Exception"), .declares (Bundle.initS "java/lang/Throwable")] := by decide +kernel
theorem zw_vxo : ∀ w ∈ Cond.classLink RX9 145 "java/util/NoSuchElementException" :: Cond.initialized "java/util/NoSuchElementException" :: zatS RX9 149, vx_ot w = true := by decide +kernel
def zBY (dC : Nat → ClassId) (dI : Nat → Nat → Nat) (cA : Nat → ClassId) (ws : va_W) (sz sa : Nat) (U : State) : Prop := zB dC dI cA ws sz U ∧ zY (va_A ws sz) sa U
theorem zBY_blind {dC : Nat → ClassId} {dI : Nat → Nat → Nat} {cA : Nat → ClassId} {ws : va_W} {sz sa : Nat} {cas : List Value} : FrameBlind (va_Pc cas (zBY dC dI cA ws sz sa)) := by
  intro a U g mk q
  obtain ⟨q0, ⟨q1, qP, qK, qD, qX⟩, qY⟩ := q
  exact ⟨q0, ⟨q1, qP, va_K.moved (u := U) (U := U.calling g mk a) (Vm.Alike.refl U.vm) qK, qD, zX.same (s := U) (U := U.calling g mk a) rfl qX⟩, zY_same (u := U) (U := U.calling g mk a) rfl rfl qY⟩
set_option maxHeartbeats 4000000 in
/-- NamesUnder.layer on the new object: it throws -/
theorem zc_layer (l : Launch) (hst : l.stackTraces = false) (dC : Nat → ClassId) (dI : Nat → Nat → Nat) (cA : Nat → ClassId) (g : ZG) (ws : va_W) (sz sa a1 : Nat) (i1 i2 i3 : Int32) (hg7 : g.1 7 = g.1 0 &&& 31) (hE : zen (zbox 8) g) (hzh : zh g cA zzh ws) (ha : (zad ws)[0]? = some a1) (h1 : i1 = g.1 1) (h2 : i2 = g.1 2) :
    vx_Met l yX9_layer (.code yX9_layer cX9_layer 5 (some .int) :: zT) { frames := 8, cells := 1, slots := 6, locals := 40 * 8 } (va_Pc [.ref a1, .int i1, .int i2, .int i3] (zBY dC dI cA ws sz sa)) (va_Qi (fun _ (_ : Unit) => False) (fun _ _ => True) (va_A ws sz)) (vx_X (zpost (zga g (zad ws)) cA zzh ws) (fun E u t => E = "java/util/NoSuchElementException" ∧ zend dC dI cA (va_A ws sz) u t) (va_A ws sz)) 1 6 (va_A ws sz) := by
  refine vx_ofW (cc := cX9_layer) (maxL := 5) (ret := some .int) (by decide) rfl ?_
  intro p e s m args below meth c s₁ B hml htb hv
  obtain ⟨rfl, ⟨hsz, hP, hK, hD0, hz9⟩, hY⟩ := hv
  have hx := B.exec
  have hb := B.bytes
  have hts : ∀ w ∈ zT, w.before _ s = true := fun w hw => atoms_spec (ws := .code yX9_layer cX9_layer 5 (some .int) :: zT) B.pre w (List.mem_cons_of_mem _ hw)
  have hown : s.vm.findClass RX9 = some m.cls := findClass_of_methodNamed B.named
  have hlocks := B.notSynchronized
  subst hsz
  have hD := hD0.self (sz := s.heap.size)
  have hA : ∀ q, s.heap.size ≤ q → va_A ws s.heap.size q := fun q h => Or.inr h
  have hS : va_S (va_A ws s.heap.size) s.heap s.heap [] := va_S.rf
  have hl := lv_entry ([.ref a1, .int i1, .int i2, .int i3]) (n := 5) (Nat.le_of_ble_eq_true rfl)
  rw [lg_entry_eq]
  generalize (lg_sl ([.ref a1, .int i1, .int i2, .int i3]) ++ List.replicate (5 - (lg_sl ([.ref a1, .int i1, .int i2, .int i3])).length) Slot.unset).toArray = ls at hl ⊢
  have hl : lv_has ls 5 [(0, .ref a1), (1, .int i1), (2, .int i2), (3, .int i3)] := hl
  refine lv_aload_n hx hb dX9_layer_0 rfl (lv_at hl 0 rfl) ?_
  refine lv_iload_n hx hb dX9_layer_1 rfl (lv_at hl 1 rfl) ?_
  refine lv_iload_n hx hb dX9_layer_2 rfl (lv_at hl 2 rfl) ?_
  have hM := zc_isCut l dC dI cA g ws s.heap.size [.ref a1, .int i1, .int i2] hg7 hzh ⟨⟨a1, ha, rfl⟩, by rw [h1]; rfl, by rw [h2]; rfl, trivial⟩ 100 (zbox 8) zqI hE
  obtain ⟨w0, k0, z0⟩ := zh_at hzh (k := 0) rfl ha
  obtain ⟨gx, rfl, -⟩ := zobj z0
  have hR9 := zrun (e := e) (below := below) (meth := meth) (locs := []) (nc := 0) (ns := 0) (own := RX9) (idx := 142) (kd := 2) (n := 2) (R := { frames := 8, cells := 1, slots := 6, locals := 40 * 8 }) (cst := [.int i2, .int i1, .ref a1]) (crest := []) (ls := ls) hx hb hml hown hts hK hP hD hl.1 hM hz9 zw_isCut (fun q => by omega) (by decide +kernel) (by decide) (fun q => by omega) (by decide) (by decide) rfl (by decide) rfl (fun _ => ⟨a1, _, rfl, fun _ => va_recv hK hP (ci := 8) (q0 := 0) rfl k0⟩) (Or.inr (Or.inl ⟨rfl, rfl⟩)) dX9_layer_3
  have hF := zfree hD hS hA
  refine va_calli hR9 hS (fun q _ h => hF q h) hF (fun x u t9 H1 locs1 ht hvm hw hB hz1 hk1 hS1 => ?_)
  obtain ⟨hw1, hw2⟩ := hw
  obtain ⟨hP1, hK1, hD1⟩ := hB
  rw [ht] at hP1
  have e0 : x = 0 := Value.int.inj (show Value.int x = .int 0 from hw2)
  refine lv_if_eq (tgt := 17) hx hb dX9_layer_6 (by decide) (fun _ => ?_) (fun c9 => absurd e0 c9)
  have hat : ∀ w ∈ zatS RX9 149, w.before [Value.ref a1, Value.int i1, Value.int i2, Value.int i3].toArray s = true :=
    vx_hat (fun w hw => hts w (List.mem_filter.mpr ⟨zw_vx w hw, (List.mem_filter.mp hw).2⟩)) zw_vxn (vx_c (va_Nw.use rfl hY.2.2.2.1) (vx_c (va_Nw.use rfl hY.2.2.2.2.1) (vx_c (va_Nw.use rfl hY.2.2.2.2.2.1) (vx_c (va_Nw.use rfl hY.2.2.2.2.2.2) vx_n))))
  refine zthrow (A := va_A ws s.heap.size) hx hb hst hown (hts _ (zw_nse _ (by simp [zXn]))) (hts _ (zw_nse _ (by simp [zXn]))) hY.2.2.1 hat zw_vxo hY.1 hY.2.1 hS1 (hl.1.trans hml.symm) dX9_layer_17 dX9_layer_20 dX9_layer_21 dX9_layer_23 dX9_layer_26 (fun z hz => (htb z hz).elim) (by decide) (by decide) (by decide) (by decide) hlocks (fun t hvt hsz hkt => ?_) hS1.2.2 (by decide) (by decide)
  refine ⟨u, hw1, ⟨rfl, ?_, va_K.moved hvt hK, hD1⟩, ⟨Nat.le_trans hS1.1 hsz, fun q q1 q2 => (hkt q (Nat.lt_of_lt_of_le q1 hS1.1)).trans (hS1.2.1 q q1 q2)⟩⟩
  exact hP1.kept (fun k x hx => hkt x.1 ((hP1 k x hx).lt))
theorem zofWH {l : Launch} {y : MethodName} {ws ws' : List Cond} {rm : Room} {Pc : Array Value → State → Prop} {Qc : Array Value → State → Outcome → State → Prop} {mc ms : Nat} {free : Addr → Prop} {cc : ByteArray} {maxL : Nat} {ret : Option FieldType} {hh : List (Nat × Nat × Nat × Nat)}
    (hy : Jvm.plainName y.cls = true) (hw : ws = Cond.codeWith y cc maxL ret hh :: ws')
    (body : ∀ p e s m args below meth c s₁, BodyLoose p l y (headSpec ws rm) cc maxL ret e s m args below meth c s₁ → c.maxLocals = maxL → Pc args s →
      W p l e (headSpec ws rm).room s m args below meth c s.heap [] 0 0 (MQ below Qc args s mc ms free) (entryFrame m args maxL)) : Met l y ws rm Pc Qc mc ms free := by
  refine MetFree.of_bodyS (code := cc) (maxLocals := maxL) (ret := ret) hy ?_ ?_
  · intro args s m h hn
    obtain ⟨m9, meth, c, hn9, h1, h2, h3, h4, -, h5, h6, -⟩ := Cond.codeWith_spec (atoms_spec (ws := ws) h _ (by rw [hw]; exact List.mem_cons_self))
    cases hn.symm.trans hn9
    exact ⟨meth, c, h1, h2, h3, h4, h5, h6⟩
  · intro p e s m args below meth c s₁ B hml hP _
    have hh0 : s₁.heap = s.heap := by rw [B.state]; rfl
    obtain ⟨t, a1, o, b1, b2, b3⟩ := body p e s m args below meth c s₁ B hml hP s₁ hh0 (Stand.of_body B)
    exact ⟨t, o, a1, b1, b2, ⟨b3.1, b3.2⟩⟩
set_option maxHeartbeats 4000000 in
/-- the law's own layer: it catches, and answers 1 -/
theorem zc_llay (l : Launch) (hst : l.stackTraces = false) (dC : Nat → ClassId) (dI : Nat → Nat → Nat) (cA : Nat → ClassId) (g : ZG) (ws : va_W) (sz sa a1 a3 : Nat) (i1 i2 i3 : Int32) (hg7 : g.1 7 = g.1 0 &&& 31) (hE : zen (zbox 8) g) (hzh : zh g cA zzh ws) (ha : (zad ws)[0]? = some a1) (h1 : i1 = g.1 1) (h2 : i2 = g.1 2) :
    Met l yL_layer (.codeWith yL_layer cL_layer 6 (some .int) [(0, 12, 15, 13)] :: zT) { frames := 9, cells := 1, slots := 6, locals := 40 * 9 } (va_Pc [.ref a1, .int i1, .int i2, .int i3, .ref a3] (zBY dC dI cA ws sz sa)) (va_Qi (fun x u => x = 1 ∧ zpost (zga g (zad ws)) cA zzh ws u) (zend dC dI cA (va_A ws sz)) (va_A ws sz)) 1 6 (va_A ws sz) := by
  refine zofWH (cc := cL_layer) (maxL := 6) (ret := some .int) (hh := [(0, 12, 15, 13)]) (by decide) rfl ?_
  intro p e s m args below meth c s₁ B hml hv
  obtain ⟨rfl, ⟨hsz, hP, hK, hD0, hz9⟩, hY⟩ := hv
  have hx := B.exec
  have hb := B.bytes
  have hr := B.returns
  have hts0 := atoms_spec (ws := .codeWith yL_layer cL_layer 6 (some .int) [(0, 12, 15, 13)] :: zT) B.pre
  have hts : ∀ w ∈ zT, w.before _ s = true := fun w hw => hts0 w (List.mem_cons_of_mem _ hw)
  have htb := vx_table (x := yL_layer) B (hts0 _ List.mem_cons_self)
  have hown : s.vm.findClass RL = some m.cls := findClass_of_methodNamed B.named
  have hlocks := B.notSynchronized
  subst hsz
  have hD := hD0.self (sz := s.heap.size)
  have hA : ∀ q, s.heap.size ≤ q → va_A ws s.heap.size q := fun q h => Or.inr h
  have hS : va_S (va_A ws s.heap.size) s.heap s.heap [] := va_S.rf
  have hl := lv_entry ([.ref a1, .int i1, .int i2, .int i3, .ref a3]) (n := 6) (Nat.le_of_ble_eq_true rfl)
  rw [lg_entry_eq]
  generalize (lg_sl ([.ref a1, .int i1, .int i2, .int i3, .ref a3]) ++ List.replicate (6 - (lg_sl ([.ref a1, .int i1, .int i2, .int i3, .ref a3])).length) Slot.unset).toArray = ls at hl ⊢
  have hl : lv_has ls 6 [(0, .ref a1), (1, .int i1), (2, .int i2), (3, .int i3), (4, .ref a3)] := hl
  refine lv_aload hx hb dL_layer_0 (lv_at hl 4 rfl) ?_
  refine lv_iconst (v := 0) hx hb dL_layer_2 (by decide) ?_
  refine lv_aload_n hx hb dL_layer_3 rfl (lv_at hl 0 rfl) ?_
  refine lv_iload_n hx hb dL_layer_4 rfl (lv_at hl 1 rfl) ?_
  refine lv_iload_n hx hb dL_layer_5 rfl (lv_at hl 2 rfl) ?_
  refine lv_iload_n hx hb dL_layer_6 rfl (lv_at hl 3 rfl) ?_
  have hM := zc_layer l hst dC dI cA g ws s.heap.size sa a1 i1 i2 i3 hg7 hE hzh ha h1 h2
  obtain ⟨w0, k0, z0⟩ := zh_at hzh (k := 0) rfl ha
  obtain ⟨gx, rfl, -⟩ := zobj z0
  have w1 := zw_layer (.methodLink RL 7 yX9_layer) (by simp [zcw])
  have w2 := zw_layer (.instanceMethod yX9_layer) (by simp [zcw])
  have w3 := zw_layer (.initialized yX9_layer.cls) (by simp [zcw])
  have w4 := zw_layer (.code yX9_layer cX9_layer 5 (some .int)) (by simp [zcw])
  have w5 := zw_layer (.selects yX9_layer.cls yX9_layer yX9_layer) (by simp [zcw])
  have hroom := lv_room (m := m) (pc := 7) (ls := ls) (rest := [Value.int i3, .int i2, .int i1, .ref a1, .int 0, .ref a3]) (st := [Value.int 0, .ref a3]) (Nat.le_of_ble_eq_true rfl)
  have hF := zfree hD hS hA
  have hR9 := vx_runV (p := p) (e := e) (below := below) (meth := meth) (locs := []) (cells := 0) (slots := 0) (Ts := zT) (own := RL) (C := RX9) (R := { frames := 9, cells := 1, slots := 6, locals := 40 * 9 }) (As := [.int i1, .int i2, .int i3]) (b := a1) (rest := [.int 0, .ref a3]) (g := F0 m 7 ls [.int i3, .int i2, .int i1, .ref a1, .int 0, .ref a3]) ⟨hx, hb, hml, hown, hts⟩ hM ⟨callB_of 3 hts (zT_good1 w4) rfl rfl rfl (hts _ w3) (hts _ w1) (by decide +kernel) (by decide), hts _ w2, hts _ w5⟩ ⟨zBY_blind, va_recv hK hP (ci := 8) (q0 := 0) rfl k0, fun U hU hW => ⟨rfl, ⟨by rw [hU], by rw [hU]; exact hP, va_K.moved hW.alike hK, hD.weaken (fun _ _ _ _ => trivial), hz9.warm hW⟩, zY_call hY hS (fun q h => h) hU hW⟩⟩ rfl rfl hl.1 rfl hroom dL_layer_7 (by decide)
  refine vx_calli hR9 hS (fun q _ h => hF q h) hF (fun q _ h => hF q h) (fun E ce q9 u t9 H1 locs1 ht hvm hpx hBX hz1 hk1 hS1 hce hcv hcl => ?_) (fun x u t9 H1 locs1 ht hvm hw hB hz1 hk1 hS1 => hw.elim)
  obtain ⟨rfl, hP1, hK1, hD1⟩ := hBX
  rw [ht] at hP1
  refine vx_catch1 (own := RL) (name := "java/util/NoSuchElementException") hown ⟨0, 12, 15, 13⟩ [] (by rw [htb]; rfl) (by decide) (by decide) (hts _ (zw_nse _ (by simp))) (va_Nw.use rfl hY.2.2.2.1) hce hcv hcl ?_
  refine lv_astore (lv' := [(5, .ref q9), (0, .ref a1), (1, .int i1), (2, .int i2), (3, .int i3), (4, .ref a3)]) hx hb dL_layer_15 hl (by decide) rfl (fun ls hl => ?_)
  refine lv_iconst (v := 1) hx hb dL_layer_17 (by decide) ?_
  exact W.iret hx hb hr (fun t ht hW => ⟨⟨1, u, rfl, ⟨rfl, hpx⟩, by rw [ht]; exact hP1, va_K.moved hW.alike hK, hD1⟩, hS1.F ht⟩) hS1.2.2 dL_layer_18
end
section
/-! the law's case 8 -/
theorem zr40_8 : zgo zzm zzc zzd (zbox 8) 7 40 100 0 20 23 zzl [] zzh zzn zzs = .ok (40, zzl, [.retAddr 7], zzh, zzn, zzs) := zeq_ok (by decide +kernel)
set_option maxHeartbeats 4000000 in
theorem zo8 : zOK0 (zbox 8) := by
  intro p l e s m args below meth c Q dC dI cA g A hg0 hL8 hE F Hf
  obtain ⟨hst, sa, hY⟩ := hL8
  refine zgo_sound zzcl zztab 100 0 20 23 zzl [] zzh zzn zzs _ zr40_8 zme0 rfl p l e room_1 s m args below meth c Q dC dI cA g A (F _ hE) ?_
  obtain ⟨hx, hb, hml, hown, hts, hK, hA, hE9, hg7, hRd, hRb, hI, hz9, hscr⟩ := F _ hE
  obtain ⟨xs, hX, hbl, hbA, hxs, hL⟩ := hscr rfl
  have hb : c.code = cL_law := hb
  have hml : c.maxLocals = 7 := hml
  have hown : s.vm.findClass RL = some m.cls := hown
  intro ws H locs ls clv cst ⟨r1, r2, r3, r4, r5, r6, r7⟩
  obtain ⟨c7, r8, rfl, hc7, r7⟩ := zvs_cons r7
  cases zvs_nil r7
  cases (show c7 = _ from hc7)
  have r6' := r6
  obtain ⟨a3, a2, a1, rfl, w3, w2, w1⟩ := zlaw_lv r6
  have hl := r5
  have hz0 := hE 7 (8, 8) rfl
  have hz1 : (g.1 7).toInt = 8 := by have := hz0.1; have := hz0.2; simp only at *; omega
  refine lv_tableIn (off := 618) (tgt := 658) hx hb dL_law_40 (by rw [hz1]; decide) (by rw [hz1]; decide) (by rw [hz1]; rfl) (by decide) ?_
  refine lv_aload_n hx hb dL_law_658 rfl (lv_at hl 3 rfl) ?_
  refine lv_aload_n hx hb dL_law_659 rfl (lv_at hl 4 rfl) ?_
  refine lv_iload hx hb dL_law_660 (lv_at hl 0 rfl) ?_
  refine lv_iconst (v := 1) hx hb dL_law_662 (by decide) ?_
  refine lv_iadd hx hb dL_law_663 ?_
  refine va_sld hx hb hX hbl hbA r4 zvi1 dL_law_664 ?_
  refine lv_aload_n hx hb dL_law_665 rfl (lv_at hl 4 rfl) ?_
  refine lv_iload hx hb dL_law_666 (lv_at hl 0 rfl) ?_
  refine lv_iconst (v := 2) hx hb dL_law_668 (by decide) ?_
  refine lv_iadd hx hb dL_law_669 ?_
  refine va_sld hx hb hX hbl hbA r4 zvi2 dL_law_670 ?_
  refine lv_aload_n hx hb dL_law_671 rfl (lv_at hl 4 rfl) ?_
  refine lv_iload hx hb dL_law_672 (lv_at hl 0 rfl) ?_
  refine lv_iconst (v := 3) hx hb dL_law_674 (by decide) ?_
  refine lv_iadd hx hb dL_law_675 ?_
  refine va_sld hx hb hX hbl hbA r4 zvi3 dL_law_676 ?_
  refine lv_aload_n hx hb dL_law_677 rfl (lv_at hl 1 rfl) ?_
  have hM := zc_llay l hst dC dI cA g ws H.size sa a1 a3 (xs ((0 : Int32) + 1).toNatClampNeg) (xs ((0 : Int32) + 2).toNatClampNeg) (xs ((0 : Int32) + 3).toNatClampNeg) hg7 hE r1 w1 (hxs 1 (by decide)).symm (hxs 2 (by decide)).symm
  have hF := zfree r3 r4 hA
  have hroom := lv_room (m := m) (pc := 678) (ls := ls) (rest := [Value.ref a3, .int (xs ((0 : Int32) + 3).toNatClampNeg), .int (xs ((0 : Int32) + 2).toNatClampNeg), .int (xs ((0 : Int32) + 1).toNatClampNeg), .ref a1]) (st := []) (Nat.le_of_ble_eq_true rfl)
  have hG : GoodIn zT (va_wsS RL 59 yL_layer (.codeWith yL_layer cL_layer 6 (some .int) [(0, 12, 15, 13)] :: zT)) := by
    intro w hw
    unfold va_wsS at hw
    rcases List.mem_append.mp hw with h | h
    · exact zT_good w (zw_nse w (by simp at h; rcases h with rfl | rfl | rfl <;> simp [yL_layer]))
    · exact zT_good1 (zw_nse _ (by simp)) w h
  have hR9 := vx_runSW (p := p) (e := e) (below := below) (meth := meth) (locs := locs) (cells := zzn) (slots := zzs) (Ts := zT) (own := RL) (R := room_1) (hh := [(0, 12, 15, 13)]) (As := [.ref a1, .int (xs ((0 : Int32) + 1).toNatClampNeg), .int (xs ((0 : Int32) + 2).toNatClampNeg), .int (xs ((0 : Int32) + 3).toNatClampNeg), .ref a3]) (rest := []) (g := F0 m 678 ls [.ref a3, .int (xs ((0 : Int32) + 3).toNatClampNeg), .int (xs ((0 : Int32) + 2).toNatClampNeg), .int (xs ((0 : Int32) + 1).toNatClampNeg), .ref a1]) ⟨hx, hb, hml, hown, hts⟩ hM (vx_cwSW 5 hts hG rfl rfl rfl (by decide +kernel) (by decide)) ⟨zBY_blind, fun U hU hW => ⟨rfl, ⟨by rw [hU], by rw [hU]; exact r2, va_K.moved hW.alike hK, r3.weaken (fun _ _ _ _ => trivial), hz9.warm hW⟩, zY_call hY r4 hF hU hW⟩⟩ rfl rfl hl.1 rfl hroom dL_law_678 (by decide)
  refine va_calli hR9 r4 (fun q _ h => hF q h) hF (fun x1 u t9 H1 locs1 ht hvm hw hB hz1 hk1 hS1 => ?_)
  obtain ⟨rfl, hw1, hw2⟩ := hw
  obtain ⟨hP1, hK1, hD1⟩ := hB
  rw [ht] at hP1
  exact zo8b p l e s m args below meth c Q dC dI cA g A hE F Hf u H1 locs1 ls _ _ ⟨zh_g (g := zga g (zad ws)) rfl rfl (fun k a z => by rw [hg0] at z; simp at z) hw1, hP1, hD1.weaken (fun _ q _ z => hF q.1 z), hS1, r5, zls_mono hw2 r6', rfl, trivial⟩
end
section
/-! THE CLAIM OUT OF ONE WALK OF THE LAW'S BODY. Your part is whole_start (and what it stands on); all else here is the same for every law, but numbers. -/
def R_law : String := "NamesUnderLaw"
def lw_P (b : Addr) (xs : List Int32) (args : Array Value) (s : State) : Prop := args = #[.ref b] ∧ s.IntsAt b xs ∧ xs.length ≤ 7 ∧ (Jvm.Cond.and given_1 narrow_1).before args s = true
def lw_Q (_ : Array Value) (s : State) (o : Outcome) (t : State) : Prop := o = .returned (some (.int 1)) ∧ Framed s o t [] 600002 7302232
def lw_Z (below : List Frame) (a : Array Value) (s : State) : State → Prop := fun t => ∃ o, t.status = .running ∧ Ended t below o ∧ lw_Q a s o t
/-- the law's own end, with 1 on the stack, nothing written that was there before, its room as the claim has it -/
theorem lw_ret {p : Program} {l : Launch} {e : Env} {s : State} {m : MethodId} {below : List Frame} {meth : Method} {c : Code} {b : Nat} (hx : p.tables.exec = Jvm.exec) (hb : c.code = code) (hr : meth.sig.returnType = ret) (hlocks : meth.locks = false) {pc : Nat} {H : Heap} {ls : Array Slot} (hdg : decode code pc = .ok (.ireturn, 1)) : W p l e room_1 s m #[Value.ref b] below meth c H [] 600002 7302232 (lw_Z below #[Value.ref b] s) (F0 m pc ls [.int 1]) := by
  intro T hT X
  obtain ⟨fs, hret, hrun, hended, hW, hframe⟩ := X.leave (v := some (.int 1)) (hlocks := hlocks) (fun h => by rw [hr] at h; cases h)
  have hmeth' : T.vm.method? m = some meth := X.method'
  refine ⟨T.setFrames fs, ?_, .returned (some (.int 1)), hrun, hended, rfl, ⟨_, rfl⟩, hW, hframe⟩
  jvm_step X.here [X.here.top, hx, hb, hdg, hmeth', hr, ret, narrow_b1]
  (try refine ⟨rfl, ?_⟩); (try refine ⟨rfl, ?_⟩)
  first | (intro acts; rw [hret _ acts rfl rfl rfl]) | rw [hret _ _ rfl rfl rfl]
  exact Steps.refl _
/-- what holds at the law's entry: the machine, the code, the tables' words (any of lw_tbl by 'hts w (by decide +kernel)'), the script of L ints xs at the cell b, what the Statement gives of the start (any of its parts by flat_of_before) -/
def lw_At (p : Program) (s : State) (m : MethodId) (meth : Method) (c : Code) (b L : Nat) (xs : Nat → Int32) : Prop :=
  p.tables.exec = Jvm.exec ∧ c.code = code ∧ meth.sig.returnType = ret ∧ c.maxLocals = 7 ∧ s.vm.findClass R_law = some m.cls ∧ (∀ w ∈ lw_tbl, w.before #[Value.ref b] s = true) ∧ va_X b L xs s s.heap ∧ b < s.heap.size ∧ meth.locks = false ∧ (Jvm.Cond.and given_1 narrow_1).before #[Value.ref b] s = true
theorem zstr {l : Launch} (h : l.flags = flags0) : l.stackTraces = false := by
  unfold Launch.stackTraces
  rw [h]
  decide +kernel
theorem dL_law_1506 : decode cL_law 1506 = .ok (.ireturn, 1) := by decide +kernel

theorem Vm_cls {s : State} {args : Array Value} (hts : ∀ w ∈ zT, w.before args s = true) : s.vm.findClass RX9 = some (Classical.choose (Cond.instantiable_spec (hts (.instantiable RX9 9) (zin_ok (i := 139) (by decide +kernel))))) := (Classical.choose_spec (Cond.instantiable_spec (hts (.instantiable RX9 9) (zin_ok (i := 139) (by decide +kernel))))).choose_spec.1
/-- the classes' and the arrays' numbers at the start -/
theorem zworld {s : State} {args : Array Value} (hts : ∀ w ∈ zT, w.before args s = true) (hw : ∀ w ∈ lw_tbl, w.before args s = true) : ∃ (dC : Nat → ClassId) (dI : Nat → Nat → Nat) (cA : Nat → ClassId), va_K (dC, dI) vwCl (ztys cA) s ∧ zX s := by
  obtain ⟨c0, i0, k0⟩ := u_known (C := RX1) (T := TX1) (N := 7) (n := 7) hts zin0 (hts (.instantiable RX1 7) (zin_ok (i := 491) (by decide +kernel)))
  obtain ⟨c1, i1, k1⟩ := u_known (C := RX2) (T := TX2) (N := 6) (n := 6) hts zin1 (hts (.instantiable RX2 6) (zin_ok (i := 176) (by decide +kernel)))
  obtain ⟨c2, i2, k2⟩ := u_known (C := RX3) (T := TX3) (N := 7) (n := 7) hts zin2 (hts (.instantiable RX3 7) (zin_ok (i := 343) (by decide +kernel)))
  obtain ⟨c3, i3, k3⟩ := u_known (C := RX4) (T := TX4) (N := 12) (n := 12) hts zin3 (hts (.instantiable RX4 12) (zin_ok (i := 387) (by decide +kernel)))
  obtain ⟨c4, i4, k4⟩ := u_known (C := RX5) (T := TX5) (N := 14) (n := 14) hts zin4 (hts (.instantiable RX5 14) (zin_ok (i := 433) (by decide +kernel)))
  obtain ⟨c5, i5, k5⟩ := u_known (C := RX6) (T := TX6) (N := 19) (n := 19) hts zin5 (hts (.instantiable RX6 19) (zin_ok (i := 274) (by decide +kernel)))
  obtain ⟨c6, i6, k6⟩ := u_known (C := RX7) (T := TX7) (N := 4) (n := 4) hts zin6 (hts (.instantiable RX7 4) (zin_ok (i := 147) (by decide +kernel)))
  obtain ⟨c7, i7, k7⟩ := u_known (C := RX8) (T := TX8) (N := 11) (n := 11) hts zin7 (hts (.instantiable RX8 11) (zin_ok (i := 210) (by decide +kernel)))
  obtain ⟨c8, i8, k8⟩ := u_known (C := RX9) (T := TX9) (N := 9) (n := 9) hts zin8 (hts (.instantiable RX9 9) (zin_ok (i := 139) (by decide +kernel)))
  obtain ⟨c9, i9, k9⟩ := u_known (C := RX10) (T := TX10) (N := 58) (n := 58) hts zin9 (hts (.instantiable RX10 58) (zin_ok (i := 1271) (by decide +kernel)))
  obtain ⟨t0, q0, m0, f0, g0, h0⟩ := Cond.arrayClass_spec (hts (.arrayClass .int) (zin_ok (i := 207) (by decide +kernel)))
  obtain ⟨t1, q1, m1, f1, g1, h1⟩ := Cond.arrayClass_spec (hts (.arrayClass .boolean) (zin_ok (i := 206) (by decide +kernel)))
  obtain ⟨t2, q2, m2, f2, g2, h2⟩ := Cond.arrayClass_spec (hts (.arrayClass .char) (zin_ok (i := 174) (by decide +kernel)))
  obtain ⟨t3, q3, m3, f3, g3, h3⟩ := Cond.arrayClass_spec (hts (.arrayClass .long) (zin_ok (i := 1469) (by decide +kernel)))
  have o4 : va_AO "NamesUnder$Wall" s := va_AO.of (hw (.arrayOver (.object "NamesUnder$Wall")) (List.mem_of_getElem? (i := 209) (by decide +kernel)))
  obtain ⟨m4, t4, q4, a4, _, g4, h4, f4⟩ := Cond.arrayOver_spec o4
  have o5 : va_AO "NamesUnder$Order" s := va_AO.of (hw (.arrayOver (.object "NamesUnder$Order")) (List.mem_of_getElem? (i := 342) (by decide +kernel)))
  obtain ⟨m5, t5, q5, a5, _, g5, h5, f5⟩ := Cond.arrayOver_spec o5
  refine ⟨fun k => match k with
    | 0 => c0
    | 1 => c1
    | 2 => c2
    | 3 => c3
    | 4 => c4
    | 5 => c5
    | 6 => c6
    | 7 => c7
    | 8 => c8
    | _ => c9, fun k => match k with
    | 0 => i0
    | 1 => i1
    | 2 => i2
    | 3 => i3
    | 4 => i4
    | 5 => i5
    | 6 => i6
    | 7 => i7
    | 8 => i8
    | _ => i9, fun k => match k with
    | 0 => t0
    | 1 => t1
    | 2 => t2
    | 3 => t3
    | 4 => t4
    | _ => t5, ⟨fun k q hq => ?_, fun k q hq => ?_⟩, fun w hw9 => ?_, o4, o5⟩
  · match k, hq with
    | 0, hq => cases hq; exact k0
    | 1, hq => cases hq; exact k1
    | 2, hq => cases hq; exact k2
    | 3, hq => cases hq; exact k3
    | 4, hq => cases hq; exact k4
    | 5, hq => cases hq; exact k5
    | 6, hq => cases hq; exact k6
    | 7, hq => cases hq; exact k7
    | 8, hq => cases hq; exact k8
    | 9, hq => cases hq; exact k9
    | n + 10, hq => simp [vwCl] at hq
  · match k, hq with
    | 0, hq => cases hq; exact ⟨fun n z => ⟨(fun k h => by cases h), q0, g0, m0, h0⟩, f0⟩
    | 1, hq => cases hq; exact ⟨fun n z => ⟨(fun k h => by cases h), q1, g1, m1, h1⟩, f1⟩
    | 2, hq => cases hq; exact ⟨fun n z => ⟨(fun k h => by cases h), q2, g2, m2, h2⟩, f2⟩
    | 3, hq => cases hq; exact ⟨fun n z => ⟨(fun k h => by cases h), q3, g3, m3, h3⟩, f3⟩
    | 4, hq => cases hq; exact ⟨fun n z => ⟨(fun k h => by cases h), q4, g4, m4, h4⟩, q4, m4, g4, h4, a4, f4⟩
    | 5, hq => cases hq; exact ⟨fun n z => ⟨(fun k h => by cases h), q5, g5, m5, h5⟩, q5, m5, g5, h5, a5, f5⟩
    | n + 6, hq => simp [ztys] at hq
  · have h1 := hw w (List.mem_filter.mp hw9).1
    have h2 := (List.mem_filter.mp hw9).2
    cases w with
    | methodLinkNest a i x b => exact va_Nw.of rfl h1
    | _ => cases h2
theorem zrunL_ok {L : Nat} (h : zrunL L = true) : ∃ (lv : ZL) (hp : List ZE) (nc ns : Nat), zgo zzm zzc zzd [] L 99999 5000 0 20 0 [(0, .float 0)] [] [] 0 0 = .ok (1506, lv, [.int 1], hp, nc, ns) ∧ nc ≤ 600002 ∧ ns ≤ 7302232 := by
  unfold zrunL at h
  cases hg : zgo zzm zzc zzd [] L 99999 5000 0 20 0 [(0, .float 0)] [] [] 0 0 with
  | error q => rw [hg] at h; cases h
  | ok r =>
    rw [hg] at h
    simp only [zfin1, Bool.and_eq_true] at h
    obtain ⟨h1, ⟨h2, h3⟩, h4⟩ := h
    obtain ⟨pc, lv, st, hp, nc, ns⟩ := r
    have e1 : pc = 1506 := Nat.beq_eq.mp h1
    subst e1
    match st, h4 with
    | [.int x], h4 =>
      have e2 : x = 1 := of_decide_eq_true h4
      subst e2
      exact ⟨lv, hp, nc, ns, rfl, Nat.le_of_ble_eq_true h2, Nat.le_of_ble_eq_true h3⟩
theorem zen_box {g : ZG} {j : Nat} (h7 : g.1 7 = nI j) (hj : j < 32) : zen (zbox j) g := by
  have hb : ∀ x : Int32, -2147483648 ≤ x.toInt ∧ x.toInt ≤ 2147483647 := fun x => ⟨Int32.le_toInt x, by have := Int32.toInt_lt x; omega⟩
  intro t q hq
  match t, hq with
  | 0, hq => cases hq; exact hb _
  | 1, hq => cases hq; exact hb _
  | 2, hq => cases hq; exact hb _
  | 3, hq => cases hq; exact hb _
  | 4, hq => cases hq; exact hb _
  | 5, hq => cases hq; exact hb _
  | 6, hq => cases hq; exact hb _
  | 7, hq =>
    cases hq
    rw [h7, nI_toInt (by omega)]
    exact ⟨Int.le_refl _, Int.le_refl _⟩
  | n + 8, hq => simp [zbox] at hq
set_option maxRecDepth 100000 in
set_option maxHeartbeats 4000000 in
theorem whole_start {p : Program} {e : Env} {s : State} {m : MethodId} {below : List Frame} {meth : Method} {c : Code} (l : Launch) (hst : l.stackTraces = false) {b L : Nat} {xs : Nat → Int32} (hL : L ≤ 7) (C0 : lw_At p s m meth c b L xs) : W p l e room_1 s m #[Value.ref b] below meth c s.heap [] 0 0 (lw_Z below #[Value.ref b] s) (entryFrame m ([Value.ref b] : List Value).toArray 7) := by
  obtain ⟨hx, hb, hr, hml, hown, hw, hX, hbl, hlocks, hgv⟩ := C0
  have hts : ∀ w ∈ zT, w.before #[Value.ref b] s = true := fun w h => hw w (List.mem_filter.mp h).1
  obtain ⟨dC, dI, cA, hK, hz9⟩ := zworld hts hw
  have hA : ∀ q : Nat, s.heap.size ≤ q → (fun q : Nat => s.heap.size ≤ q) q := fun _ h => h
  have hbA : ¬ (fun q : Nat => s.heap.size ≤ q) b := Nat.not_le.mpr hbl
  obtain ⟨g, hg⟩ : ∃ g : ZG, g = (fun j => if j = 7 then xs 0 &&& 31 else xs j, b, []) := ⟨_, rfl⟩
  have hg1 : ∀ j, j < 7 → g.1 j = xs j := by
    intro j hj
    rw [hg]
    show (if j = 7 then xs 0 &&& 31 else xs j) = xs j
    rw [if_neg (by omega)]
  have hg7 : g.1 7 = xs 0 &&& 31 := by
    rw [hg]
    rfl
  have hg77 : g.1 7 = g.1 0 &&& 31 := by rw [hg7, hg1 0 (by omega)]
  have hg2 : g.2.1 = b := by rw [hg]
  have hg3 : g.2.2 = [] := by rw [hg]
  have F : ∀ E, zen E g → zF E L 0 20 zme0 p room_1 s m #[Value.ref b] meth c dC dI cA g (fun q : Nat => s.heap.size ≤ q) := fun E hE =>
    ⟨hx, hb, hml, hown, hts, hK, hA, hE, hg77, by decide, by decide, fun h => absurd h (by decide), hz9, fun _ => ⟨xs, by rw [hg2]; exact hX, by rw [hg2]; exact hbl, by rw [hg2]; exact hbA, fun j hj => hg1 j (by omega), by omega⟩⟩
  have Hf : ∀ (lv : ZL) (hp : List ZE) (nc ns : Nat), nc ≤ 600002 → ns ≤ 7302232 → zW p l e room_1 s m #[Value.ref b] below meth c (lw_Z below #[Value.ref b] s) dC dI cA g (fun q : Nat => s.heap.size ≤ q) 7 1506 lv [.int 1] hp nc ns := by
    intro lv hp nc ns h1 h2 ws H locs ls clv cst ⟨r1, r2, r3, r4, r5, r6, r7⟩
    obtain ⟨c1, cr, rfl, h7, h8⟩ := zvs_cons r7
    cases zvs_nil h8
    cases (show c1 = _ from h7)
    refine va_forget (fun q hq => r4.2.2 q hq) ?_
    refine W.widen h1 h2 ?_
    exact lw_ret hx hb hr hlocks dL_law_1506
  have hl := lv_entry ([.ref b]) (n := 7) (Nat.le_of_ble_eq_true rfl)
  rw [lg_entry_eq]
  generalize (lg_sl ([.ref b]) ++ List.replicate (7 - (lg_sl ([.ref b])).length) Slot.unset).toArray = ls at hl ⊢
  have hl : lv_has ls 7 [(0, .ref b)] := hl
  have hE0 : zen [] g := fun t q h => by simp at h
  have hrel : zrel dC dI cA g (fun q : Nat => s.heap.size ≤ q) s.heap 7 [(0, .float 0)] [] [] [] s.heap [] ls [(0, .ref b)] [] :=
    ⟨⟨rfl, fun k e w q => by simp at q, fun k a q => by rw [hg3] at q; simp at q⟩, fun k q h => by simp at h, ⟨fun i j p q h => by simp at h, fun k q h => by simp at h⟩, va_S.rf, hl, ⟨rfl, by show Value.ref b = .ref g.2.1; rw [hg2], trivial⟩, trivial⟩
  have hshort : zrunL L = true → W p l e room_1 s m #[Value.ref b] below meth c s.heap [] 0 0 (lw_Z below #[Value.ref b] s) (F0 m 0 ls []) := by
    intro h
    obtain ⟨lv, hp, nc, ns, h1, h2, h3⟩ := zrunL_ok h
    exact zgo_sound zzcl zztab 5000 0 20 0 [(0, .float 0)] [] [] 0 0 _ h1 zme0 rfl p l e room_1 s m #[Value.ref b] below meth c _ dC dI cA g _ (F _ hE0) (Hf lv hp nc ns h2 h3) [] s.heap [] ls [(0, .ref b)] [] hrel
  rcases (show L = 0 ∨ L = 1 ∨ L = 2 ∨ L = 3 ∨ L = 4 ∨ L = 5 ∨ L = 6 ∨ L = 7 by omega) with rfl | rfl | rfl | rfl | rfl | rfl | rfl | rfl
  · exact hshort zrL0
  · exact hshort zrL1
  · exact hshort zrL2
  · exact hshort zrL3
  · exact hshort zrL4
  · exact hshort zrL5
  · exact hshort zrL6
  · refine zgo_sound zzcl zztab 5000 0 20 0 [(0, .float 0)] [] [] 0 0 _ zrL7 zme0 rfl p l e room_1 s m #[Value.ref b] below meth c _ dC dI cA g _ (F _ hE0) ?_ [] s.heap [] ls [(0, .ref b)] [] hrel
    have hY : zL8 l s (fun q : Nat => s.heap.size ≤ q) := by
      have hfl := flat_of_before _ hgv
      have hnA : ∀ a : Nat, a < s.heap.size → ¬ (fun q : Nat => s.heap.size ≤ q) a := fun a h => Nat.not_le.mpr h
      obtain ⟨k9, cf, i9, sa, -, -, -, -, -, h9⟩ := Cond.stringRef_spec (cls := RX9) (index := 147) (text := "no such cut") (Vm_cls hts) (hw (.stringRef RX9 147 "no such cut") (List.mem_of_getElem? (i := 1234) (by decide +kernel)))
      refine ⟨hst, sa, vx_Zqof (args := #[Value.ref b]) (hw _ (List.mem_of_getElem? (i := 1222) (by decide +kernel))) (hw _ (List.mem_of_getElem? (i := 128) (by decide +kernel))) (hfl _ (by decide +kernel)) hnA, vx_Zqof (args := #[Value.ref b]) (hw _ (List.mem_of_getElem? (i := 1224) (by decide +kernel))) (hw _ (List.mem_of_getElem? (i := 128) (by decide +kernel))) (hfl _ (by decide +kernel)) hnA, vk_R.of (A := #[Value.ref b]) (hw (.stringRef RX9 147 "no such cut") (List.mem_of_getElem? (i := 1234) (by decide +kernel))) h9, va_Nw.of rfl (hw _ (List.mem_of_getElem? (i := 1197) (by decide +kernel))), va_Nw.of rfl (hw _ (List.mem_of_getElem? (i := 1199) (by decide +kernel))), va_Nw.of rfl (hw _ (List.mem_of_getElem? (i := 1201) (by decide +kernel))), va_Nw.of rfl (hw _ (List.mem_of_getElem? (i := 1203) (by decide +kernel)))⟩
    obtain ⟨j, hj, hxj⟩ := pk_andE (xs 0) (m := 31) 5 (by decide)
    have hE := zen_box (g := g) (hg7.trans hxj) hj
    have fin : ∀ j : Nat, j < 32 → zen (zbox j) g → zW p l e room_1 s m #[Value.ref b] below meth c (lw_Z below #[Value.ref b] s) dC dI cA g (fun q : Nat => s.heap.size ≤ q) 7 23 zzl [] zzh zzn zzs := by
      intro j hj hE
      match j, hj with
      | 0, _ => exact zo0 p l e s m #[Value.ref b] below meth c _ dC dI cA g _ hg3 hY hE F Hf
      | 1, _ => exact zo1 zzcl zztab p l e s m #[Value.ref b] below meth c _ dC dI cA g _ hE F Hf
      | 2, _ => exact zo2 zzcl zztab p l e s m #[Value.ref b] below meth c _ dC dI cA g _ hE F Hf
      | 3, _ => exact zo3 zzcl zztab p l e s m #[Value.ref b] below meth c _ dC dI cA g _ hE F Hf
      | 4, _ => exact zo4 zzcl zztab p l e s m #[Value.ref b] below meth c _ dC dI cA g _ hE F Hf
      | 5, _ => exact zo5 zzcl zztab p l e s m #[Value.ref b] below meth c _ dC dI cA g _ hE F Hf
      | 6, _ => exact zo6 zzcl zztab p l e s m #[Value.ref b] below meth c _ dC dI cA g _ hE F Hf
      | 7, _ => exact zo7 zzcl zztab p l e s m #[Value.ref b] below meth c _ dC dI cA g _ hE F Hf
      | 8, _ => exact zo8 p l e s m #[Value.ref b] below meth c _ dC dI cA g _ hg3 hY hE F Hf
      | 9, _ => exact zo9 zzcl zztab p l e s m #[Value.ref b] below meth c _ dC dI cA g _ hE F Hf
      | 10, _ => exact zo10 zzcl zztab p l e s m #[Value.ref b] below meth c _ dC dI cA g _ hE F Hf
      | 11, _ => exact zo11 zzcl zztab p l e s m #[Value.ref b] below meth c _ dC dI cA g _ hE F Hf
      | 12, _ => exact zo12 zzcl zztab p l e s m #[Value.ref b] below meth c _ dC dI cA g _ hE F Hf
      | 13, _ => exact zo13 zzcl zztab p l e s m #[Value.ref b] below meth c _ dC dI cA g _ hE F Hf
      | 14, _ => exact zo14 zzcl zztab p l e s m #[Value.ref b] below meth c _ dC dI cA g _ hE F Hf
      | 15, _ => exact zo15 zzcl zztab p l e s m #[Value.ref b] below meth c _ dC dI cA g _ hE F Hf
      | 16, _ => exact zo16 zzcl zztab p l e s m #[Value.ref b] below meth c _ dC dI cA g _ hE F Hf
      | 17, _ => exact zo17 zzcl zztab p l e s m #[Value.ref b] below meth c _ dC dI cA g _ hE F Hf
      | 18, _ => exact zo18 zzcl zztab p l e s m #[Value.ref b] below meth c _ dC dI cA g _ hE F Hf
      | 19, _ => exact zo19 zzcl zztab p l e s m #[Value.ref b] below meth c _ dC dI cA g _ hE F Hf
      | 20, _ => exact zo20 zzcl zztab p l e s m #[Value.ref b] below meth c _ dC dI cA g _ hE F Hf
      | 21, _ => exact zo21 zzcl zztab p l e s m #[Value.ref b] below meth c _ dC dI cA g _ hE F Hf
      | 22, _ => exact zo22 zzcl zztab p l e s m #[Value.ref b] below meth c _ dC dI cA g _ hE F Hf
      | 23, _ => exact zo23 zzcl zztab p l e s m #[Value.ref b] below meth c _ dC dI cA g _ hE F Hf
      | 24, _ => exact zo24 zzcl zztab p l e s m #[Value.ref b] below meth c _ dC dI cA g _ hE F Hf
      | 25, _ => exact zo25 zzcl zztab p l e s m #[Value.ref b] below meth c _ dC dI cA g _ hE F Hf
      | 26, _ => exact zo26 zzcl zztab p l e s m #[Value.ref b] below meth c _ dC dI cA g _ hE F Hf
      | 27, _ => exact zo27 zzcl zztab p l e s m #[Value.ref b] below meth c _ dC dI cA g _ hE F Hf
      | 28, _ => exact zo28 zzcl zztab p l e s m #[Value.ref b] below meth c _ dC dI cA g _ hE F Hf
      | 29, _ => exact zo29 zzcl zztab p l e s m #[Value.ref b] below meth c _ dC dI cA g _ hE F Hf
      | 30, _ => exact zo30 zzcl zztab p l e s m #[Value.ref b] below meth c _ dC dI cA g _ hE F Hf
      | 31, _ => exact zo31 zzcl zztab p l e s m #[Value.ref b] below meth c _ dC dI cA g _ hE F Hf
      | n + 32, hj => exact absurd hj (by omega)
    exact fin j (by omega) hE
set_option maxHeartbeats 4000000 in
theorem lw_walk (l : Launch) (hst : l.stackTraces = false) (b : Addr) (xs : List Int32) : MetFree l x (headSpec (Jvm.Cond.code x code maxLocals ret :: tables_1) room_1) (lw_P b xs) (fun _ _ _ _ _ => True) lw_Q := by
  refine MetFree.of_bodyS (code := code) (maxLocals := maxLocals) (ret := ret) (by decide) ?_ ?_
  · intro args s m h hn
    obtain ⟨meth, c, h1, h2, h3, h4, h5, h6, -, -⟩ := Cond.code_spec hn (atoms_spec (ws := Jvm.Cond.code x code maxLocals ret :: tables_1) h _ List.mem_cons_self)
    exact ⟨meth, c, h1, h2, h3, h4, h5, h6⟩
  · intro p e s m args below meth c s₁ B hml0 hP _
    obtain ⟨rfl, hx, hbd, hgv⟩ := hP
    obtain ⟨scr, harrAt, hlist, hof, hsmall⟩ := hx
    obtain ⟨hcb, hkn, -, -⟩ := State.arrayAt?_spec harrAt
    have hown : s.vm.findClass R_law = some m.cls := findClass_of_methodNamed B.named
    have hts0 : ∀ c ∈ (Jvm.Cond.code x code maxLocals ret :: tables_1), c.before #[Value.ref b] s = true := atoms_spec (ws := Jvm.Cond.code x code maxLocals ret :: tables_1) B.pre
    have hts : ∀ w ∈ lw_tbl, w.before #[Value.ref b] s = true := k2_hts_sels lw_privs (fun w hw => hts0 w (List.mem_cons_of_mem _ hw)) lw_privs_ok
    have hml : c.maxLocals = 7 := B.maxLocals_eq (hts0 _ List.mem_cons_self)
    have X₀ : Stand p l e room_1 s m #[Value.ref b] below meth c s₁ [] 0 0 := Stand.of_body B
    have hh0 : s₁.heap = s.heap := by rw [B.state]; rfl
    have hsz : scr.slots.size = xs.length := by rw [← Array.length_toList, hlist, List.length_map]
    have hval : ∀ j : Nat, j < xs.length → scr.slots[j]? = some (.int (xs.getD j 0)) := fun j hj => by
      rw [← Array.getElem?_toList, hlist]
      simp [hj]
    have hbl : b < s.heap.size := (Array.getElem?_eq_some_iff.mp hcb).1
    have hX : va_X b xs.length (fun j => xs.getD j 0) s s.heap := ⟨scr, hcb, hof, hkn, hsz, hval⟩
    have K : W p l e room_1 s m #[Value.ref b] below meth c s₁.heap [] 0 0 (lw_Z below #[Value.ref b] s) (entryFrame m ([Value.ref b] : List Value).toArray 7) := by
      rw [hh0]
      exact whole_start l hst hbd ⟨B.exec, B.bytes, B.returns, hml, hown, hts, hX, hbl, B.notSynchronized, hgv⟩
    obtain ⟨t, a1, o, b1, b2, b3⟩ := K s₁ rfl X₀
    exact ⟨t, o, a1, b1, b2, b3⟩
theorem lw_pre_spec {args : Array Value} {s : State} (h : (Jvm.Cond.and given_1 narrow_1).before args s = true) (hr : rest_1_c.before args s = true) : ∃ (b : Addr) (xs : List Int32), lw_P b xs args s := by
  have hs := flat_of_before _ h
  have hq := flat_of_before _ hr
  have hc : (Cond.count 1).before args s = true := hs _ (by decide +kernel)
  have harr : (Cond.arrayOf (.arg 0) .int).before args s = true := hs _ (by decide +kernel)
  have hle : (Cond.le (.length (.arg 0)) (.int 7)).before args s = true := hs _ (by decide +kernel)
  have hlen : (Cond.isInt (.length (.arg 0))).before args s = true := hq _ (by decide +kernel)
  have hall : (Cond.all (.arg 0) (.isInt (.elem (.arg 0) (.index 0)))).before args s = true := hq _ (by decide +kernel)
  obtain ⟨b, xs, hb, hx⟩ := State.ints_of_pre rfl harr hlen hall
  have hsm : xs.length < 2 ^ 31 := hx.choose_spec.2.2.2
  have hev : (Term.length (.arg 0)).eval args s none [] s = some (.int xs.length.toInt32) := hx.length_eval hb
  have hv := Cond.le_ints hev (show (Term.int 7).eval args s none [] s = some (.int 7) from rfl)
  have hd : xs.length.toInt32 ≤ 7 := by
    simpa [Cond.before, Cond.holds, hv] using hle
  have hN : xs.length ≤ 7 := (Int32.ofNat_le_ofNat hsm (by decide)).mp (show Int32.ofNat xs.length ≤ Int32.ofNat 7 from hd)
  exact ⟨b, xs, Cond.one_arg hc (show args[0]? = some (.ref b) from hb), hx, hN, h⟩
theorem lw_comes (l : Launch) (hst : l.stackTraces = false) : Comes l x (Jvm.Cond.code x code maxLocals ret :: tables_1) room_1 (fun tb e args s => Calls_1 tb e args s ∧ rest_1 tb e args s ∧ Pre_1 tb e args s)
    (fun _ _ args s o t => lw_Q args s o t) := by
  intro p e ha hc hk s m args below hf hfit hheap happ hpre
  obtain ⟨b, xs, hP⟩ := lw_pre_spec hpre.2.2 hpre.2.1
  obtain ⟨k, o, h1, h2, h3, hQ⟩ := lw_walk l hst b xs p e ha hc hk s m args below hf ((Spec.applies_iff_loose hf).mp happ).1 hP trivial
  exact ⟨k, o, h1, h2, h3, hQ⟩
theorem lw_frame {s t : State} {o : Outcome} {args : Array Value} (h : Framed s o t [] 600002 7302232) :
    Framed s o t (fieldLocs frame_1_writes args s ++ arrayLocs frame_1_arrays args s ++ staticLocs frame_1_statics s) 600002 7302232 := h
theorem lw_limb (L : Cond) (hL : ∀ (args : Array Value) (s t : State), L.after args s (.returned (some (.int 1))) t = true) :
    ArmFor flags0 classFile x code maxLocals ret World_1 tables_1 room_1 Calls_1 rest_1 Pre_1
      (fun tb e a s o t => postC L tb e a s o t ∧ Framed s o t (fieldLocs frame_1_writes a s ++ arrayLocs frame_1_arrays a s ++ staticLocs frame_1_statics s) 600002 7302232) := by
  intro l hfl _ _ p e ha hc hk s m args below hf hfit hheap happ hpre
  obtain ⟨k, o, h1, h2, h3, rfl, hF⟩ := lw_comes l (zstr hfl) p e ha hc hk s m args below hf hfit hheap happ hpre
  exact ⟨k, _, h1, h2, h3, hL args s _, lw_frame hF⟩
theorem i_vc : Claimed_1_1 ∧ Claimed_1_2 := ⟨lw_limb limb_1_1 (fun args s t => by simp [limb_1_1, Cond.after, Cond.holds, Cond.value]), lw_limb limb_1_2 (fun args s t => Cond.after_iff.mpr (by
  first | (rw [show limb_1_2 = Cond.eq .result (.int 1) from rfl, Cond.eq_ints (x := 1) (y := 1) rfl rfl]; simp; done) | (simp [limb_1_2, Cond.value, Term.eval]; done)))⟩
end

section
-- ===== PART A: goes FIRST, ahead of the names: the tables' words, and 'selects' of the private methods out of them =====
/-- a private method of a class that the tables say can be made, by its rows of tables_1 -/
def lw_okq (q : MethodName × Nat) : Prop := (q.1.cls ≠ "java/lang/invoke/MethodHandle" ∧ q.1.cls ≠ "java/lang/invoke/VarHandle") ∧ Cond.instantiable q.1.cls q.2 ∈ tables_1 ∧ Cond.privateMethod q.1 ∈ tables_1 ∧ Cond.instanceMethod q.1 ∈ tables_1
theorem lw_p0 : lw_okq (⟨"NamesUnder$Tape", "addSign", "(I)V"⟩, 4) := ⟨⟨by decide +kernel, by decide +kernel⟩, List.mem_of_getElem? (i := 31) (by decide +kernel), List.mem_of_getElem? (i := 442) (by decide +kernel), List.mem_of_getElem? (i := 443) (by decide +kernel)⟩
theorem lw_p1 : lw_okq (⟨"NamesUnder", "tellName", "(IIZ)I"⟩, 9) := ⟨⟨by decide +kernel, by decide +kernel⟩, List.mem_of_getElem? (i := 23) (by decide +kernel), List.mem_of_getElem? (i := 450) (by decide +kernel), List.mem_of_getElem? (i := 451) (by decide +kernel)⟩
theorem lw_p2 : lw_okq (⟨"NamesUnder$NameList", "isWord", "(ILNamesUnder$Tape;)Z"⟩, 6) := ⟨⟨by decide +kernel, by decide +kernel⟩, List.mem_of_getElem? (i := 60) (by decide +kernel), List.mem_of_getElem? (i := 475) (by decide +kernel), List.mem_of_getElem? (i := 476) (by decide +kernel)⟩
theorem lw_p3 : lw_okq (⟨"NamesUnder", "forgetFindings", "()V"⟩, 9) := ⟨⟨by decide +kernel, by decide +kernel⟩, List.mem_of_getElem? (i := 23) (by decide +kernel), List.mem_of_getElem? (i := 486) (by decide +kernel), List.mem_of_getElem? (i := 487) (by decide +kernel)⟩
theorem lw_p4 : lw_okq (⟨"NamesUnder", "isPlace", "(I)Z"⟩, 9) := ⟨⟨by decide +kernel, by decide +kernel⟩, List.mem_of_getElem? (i := 23) (by decide +kernel), List.mem_of_getElem? (i := 531) (by decide +kernel), List.mem_of_getElem? (i := 532) (by decide +kernel)⟩
theorem lw_p5 : lw_okq (⟨"NamesUnder$Wall", "canBeMended", "(I)Z"⟩, 11) := ⟨⟨by decide +kernel, by decide +kernel⟩, List.mem_of_getElem? (i := 94) (by decide +kernel), List.mem_of_getElem? (i := 543) (by decide +kernel), List.mem_of_getElem? (i := 544) (by decide +kernel)⟩
theorem lw_p6 : lw_okq (⟨"NamesUnder", "tellTraces", "(II)I"⟩, 9) := ⟨⟨by decide +kernel, by decide +kernel⟩, List.mem_of_getElem? (i := 23) (by decide +kernel), List.mem_of_getElem? (i := 563) (by decide +kernel), List.mem_of_getElem? (i := 564) (by decide +kernel)⟩
theorem lw_p7 : lw_okq (⟨"NamesUnder", "isNameCut", "(II)Z"⟩, 9) := ⟨⟨by decide +kernel, by decide +kernel⟩, List.mem_of_getElem? (i := 23) (by decide +kernel), List.mem_of_getElem? (i := 567) (by decide +kernel), List.mem_of_getElem? (i := 568) (by decide +kernel)⟩
theorem lw_p8 : lw_okq (⟨"NamesUnder", "isCut", "(II)Z"⟩, 9) := ⟨⟨by decide +kernel, by decide +kernel⟩, List.mem_of_getElem? (i := 23) (by decide +kernel), List.mem_of_getElem? (i := 571) (by decide +kernel), List.mem_of_getElem? (i := 572) (by decide +kernel)⟩
theorem lw_p9 : lw_okq (⟨"NamesUnder$NameList", "isFitting", "(ILNamesUnder$Wall;IZ)Z"⟩, 6) := ⟨⟨by decide +kernel, by decide +kernel⟩, List.mem_of_getElem? (i := 60) (by decide +kernel), List.mem_of_getElem? (i := 591) (by decide +kernel), List.mem_of_getElem? (i := 592) (by decide +kernel)⟩
theorem lw_p10 : lw_okq (⟨"NamesUnder$NameList", "hasTraces", "(ILNamesUnder$Wall;I)Z"⟩, 6) := ⟨⟨by decide +kernel, by decide +kernel⟩, List.mem_of_getElem? (i := 60) (by decide +kernel), List.mem_of_getElem? (i := 595) (by decide +kernel), List.mem_of_getElem? (i := 596) (by decide +kernel)⟩
theorem lw_p11 : lw_okq (⟨"NamesUnder$NameList", "isFirstFitting", "(ILNamesUnder$Wall;)Z"⟩, 6) := ⟨⟨by decide +kernel, by decide +kernel⟩, List.mem_of_getElem? (i := 60) (by decide +kernel), List.mem_of_getElem? (i := 599) (by decide +kernel), List.mem_of_getElem? (i := 600) (by decide +kernel)⟩
theorem lw_p12 : lw_okq (⟨"NamesUnder$StoryBook", "findLeastReigns", "()V"⟩, 19) := ⟨⟨by decide +kernel, by decide +kernel⟩, List.mem_of_getElem? (i := 158) (by decide +kernel), List.mem_of_getElem? (i := 623) (by decide +kernel), List.mem_of_getElem? (i := 624) (by decide +kernel)⟩
theorem lw_p13 : lw_okq (⟨"NamesUnder$StoryBook", "gather", "(II)V"⟩, 19) := ⟨⟨by decide +kernel, by decide +kernel⟩, List.mem_of_getElem? (i := 158) (by decide +kernel), List.mem_of_getElem? (i := 633) (by decide +kernel), List.mem_of_getElem? (i := 634) (by decide +kernel)⟩
theorem lw_p14 : lw_okq (⟨"NamesUnder$StoryBook", "weigh", "(IZ)V"⟩, 19) := ⟨⟨by decide +kernel, by decide +kernel⟩, List.mem_of_getElem? (i := 158) (by decide +kernel), List.mem_of_getElem? (i := 637) (by decide +kernel), List.mem_of_getElem? (i := 638) (by decide +kernel)⟩
theorem lw_p15 : lw_okq (⟨"NamesUnder$StoryBook", "addStep", "(III)V"⟩, 19) := ⟨⟨by decide +kernel, by decide +kernel⟩, List.mem_of_getElem? (i := 158) (by decide +kernel), List.mem_of_getElem? (i := 641) (by decide +kernel), List.mem_of_getElem? (i := 642) (by decide +kernel)⟩
def lw_privs_1 : List (MethodName × Nat) := [(⟨"NamesUnder$Tape", "addSign", "(I)V"⟩, 4), (⟨"NamesUnder", "tellName", "(IIZ)I"⟩, 9), (⟨"NamesUnder$NameList", "isWord", "(ILNamesUnder$Tape;)Z"⟩, 6), (⟨"NamesUnder", "forgetFindings", "()V"⟩, 9), (⟨"NamesUnder", "isPlace", "(I)Z"⟩, 9), (⟨"NamesUnder$Wall", "canBeMended", "(I)Z"⟩, 11), (⟨"NamesUnder", "tellTraces", "(II)I"⟩, 9), (⟨"NamesUnder", "isNameCut", "(II)Z"⟩, 9), (⟨"NamesUnder", "isCut", "(II)Z"⟩, 9), (⟨"NamesUnder$NameList", "isFitting", "(ILNamesUnder$Wall;IZ)Z"⟩, 6), (⟨"NamesUnder$NameList", "hasTraces", "(ILNamesUnder$Wall;I)Z"⟩, 6), (⟨"NamesUnder$NameList", "isFirstFitting", "(ILNamesUnder$Wall;)Z"⟩, 6), (⟨"NamesUnder$StoryBook", "findLeastReigns", "()V"⟩, 19), (⟨"NamesUnder$StoryBook", "gather", "(II)V"⟩, 19), (⟨"NamesUnder$StoryBook", "weigh", "(IZ)V"⟩, 19), (⟨"NamesUnder$StoryBook", "addStep", "(III)V"⟩, 19)]
theorem lw_r1 : ∀ q ∈ lw_privs_1, lw_okq q := List.forall_mem_cons.mpr ⟨lw_p0, List.forall_mem_cons.mpr ⟨lw_p1, List.forall_mem_cons.mpr ⟨lw_p2, List.forall_mem_cons.mpr ⟨lw_p3, List.forall_mem_cons.mpr ⟨lw_p4, List.forall_mem_cons.mpr ⟨lw_p5, List.forall_mem_cons.mpr ⟨lw_p6, List.forall_mem_cons.mpr ⟨lw_p7, List.forall_mem_cons.mpr ⟨lw_p8, List.forall_mem_cons.mpr ⟨lw_p9, List.forall_mem_cons.mpr ⟨lw_p10, List.forall_mem_cons.mpr ⟨lw_p11, List.forall_mem_cons.mpr ⟨lw_p12, List.forall_mem_cons.mpr ⟨lw_p13, List.forall_mem_cons.mpr ⟨lw_p14, List.forall_mem_cons.mpr ⟨lw_p15, fun _ h => absurd h List.not_mem_nil⟩⟩⟩⟩⟩⟩⟩⟩⟩⟩⟩⟩⟩⟩⟩⟩
theorem lw_p16 : lw_okq (⟨"NamesUnder$StoryBook", "raise", "(II)V"⟩, 19) := ⟨⟨by decide +kernel, by decide +kernel⟩, List.mem_of_getElem? (i := 158) (by decide +kernel), List.mem_of_getElem? (i := 646) (by decide +kernel), List.mem_of_getElem? (i := 647) (by decide +kernel)⟩
theorem lw_p17 : lw_okq (⟨"NamesUnder$StoryBook", "isPossible", "()Z"⟩, 19) := ⟨⟨by decide +kernel, by decide +kernel⟩, List.mem_of_getElem? (i := 158) (by decide +kernel), List.mem_of_getElem? (i := 650) (by decide +kernel), List.mem_of_getElem? (i := 651) (by decide +kernel)⟩
theorem lw_p18 : lw_okq (⟨"NamesUnder$StoryBook", "pushBehind", "()Z"⟩, 19) := ⟨⟨by decide +kernel, by decide +kernel⟩, List.mem_of_getElem? (i := 158) (by decide +kernel), List.mem_of_getElem? (i := 657) (by decide +kernel), List.mem_of_getElem? (i := 658) (by decide +kernel)⟩
theorem lw_p19 : lw_okq (⟨"NamesUnder$StoryBook", "countFrom", "(I)I"⟩, 19) := ⟨⟨by decide +kernel, by decide +kernel⟩, List.mem_of_getElem? (i := 158) (by decide +kernel), List.mem_of_getElem? (i := 661) (by decide +kernel), List.mem_of_getElem? (i := 662) (by decide +kernel)⟩
theorem lw_p20 : lw_okq (⟨"NamesUnder$StoryBook", "highest", "(I)I"⟩, 19) := ⟨⟨by decide +kernel, by decide +kernel⟩, List.mem_of_getElem? (i := 158) (by decide +kernel), List.mem_of_getElem? (i := 669) (by decide +kernel), List.mem_of_getElem? (i := 670) (by decide +kernel)⟩
theorem lw_p21 : lw_okq (⟨"NamesUnder$StoryBook", "lowest", "(I)I"⟩, 19) := ⟨⟨by decide +kernel, by decide +kernel⟩, List.mem_of_getElem? (i := 158) (by decide +kernel), List.mem_of_getElem? (i := 674) (by decide +kernel), List.mem_of_getElem? (i := 675) (by decide +kernel)⟩
theorem lw_p22 : lw_okq (⟨"NamesUnder", "isBusyHand", "(I)Z"⟩, 9) := ⟨⟨by decide +kernel, by decide +kernel⟩, List.mem_of_getElem? (i := 23) (by decide +kernel), List.mem_of_getElem? (i := 691) (by decide +kernel), List.mem_of_getElem? (i := 692) (by decide +kernel)⟩
theorem lw_p23 : lw_okq (⟨"NamesUnder$StoryBook", "seekFrom", "(I)Z"⟩, 19) := ⟨⟨by decide +kernel, by decide +kernel⟩, List.mem_of_getElem? (i := 158) (by decide +kernel), List.mem_of_getElem? (i := 700) (by decide +kernel), List.mem_of_getElem? (i := 701) (by decide +kernel)⟩
theorem lw_p24 : lw_okq (⟨"NamesUnder$StoryBook", "skipLast", "(III)Z"⟩, 19) := ⟨⟨by decide +kernel, by decide +kernel⟩, List.mem_of_getElem? (i := 158) (by decide +kernel), List.mem_of_getElem? (i := 704) (by decide +kernel), List.mem_of_getElem? (i := 705) (by decide +kernel)⟩
theorem lw_p25 : lw_okq (⟨"NamesUnder$StoryBook", "isPossibleWith", "(IIII)Z"⟩, 19) := ⟨⟨by decide +kernel, by decide +kernel⟩, List.mem_of_getElem? (i := 158) (by decide +kernel), List.mem_of_getElem? (i := 720) (by decide +kernel), List.mem_of_getElem? (i := 721) (by decide +kernel)⟩
theorem lw_p26 : lw_okq (⟨"NamesUnder$StoryBook", "mayHaveStood", "(LNamesUnder$Wall;II)Z"⟩, 19) := ⟨⟨by decide +kernel, by decide +kernel⟩, List.mem_of_getElem? (i := 158) (by decide +kernel), List.mem_of_getElem? (i := 732) (by decide +kernel), List.mem_of_getElem? (i := 733) (by decide +kernel)⟩
theorem lw_p27 : lw_okq (⟨"NamesUnder$StoryBook", "doubtfulOne", "()I"⟩, 19) := ⟨⟨by decide +kernel, by decide +kernel⟩, List.mem_of_getElem? (i := 158) (by decide +kernel), List.mem_of_getElem? (i := 753) (by decide +kernel), List.mem_of_getElem? (i := 754) (by decide +kernel)⟩
theorem lw_p28 : lw_okq (⟨"NamesUnder$StoryBook", "isPossibleWithout", "(II)Z"⟩, 19) := ⟨⟨by decide +kernel, by decide +kernel⟩, List.mem_of_getElem? (i := 158) (by decide +kernel), List.mem_of_getElem? (i := 757) (by decide +kernel), List.mem_of_getElem? (i := 758) (by decide +kernel)⟩
theorem lw_p29 : lw_okq (⟨"NamesUnder$StoryBook", "doubtfulTwo", "()I"⟩, 19) := ⟨⟨by decide +kernel, by decide +kernel⟩, List.mem_of_getElem? (i := 158) (by decide +kernel), List.mem_of_getElem? (i := 761) (by decide +kernel), List.mem_of_getElem? (i := 762) (by decide +kernel)⟩
theorem lw_p30 : lw_okq (⟨"NamesUnder$OrderReader", "advance", "()V"⟩, 12) := ⟨⟨by decide +kernel, by decide +kernel⟩, List.mem_of_getElem? (i := 271) (by decide +kernel), List.mem_of_getElem? (i := 778) (by decide +kernel), List.mem_of_getElem? (i := 779) (by decide +kernel)⟩
theorem lw_p31 : lw_okq (⟨"NamesUnder$OrderReader", "takeWord", "()V"⟩, 12) := ⟨⟨by decide +kernel, by decide +kernel⟩, List.mem_of_getElem? (i := 271) (by decide +kernel), List.mem_of_getElem? (i := 784) (by decide +kernel), List.mem_of_getElem? (i := 785) (by decide +kernel)⟩
def lw_privs_2 : List (MethodName × Nat) := [(⟨"NamesUnder$StoryBook", "raise", "(II)V"⟩, 19), (⟨"NamesUnder$StoryBook", "isPossible", "()Z"⟩, 19), (⟨"NamesUnder$StoryBook", "pushBehind", "()Z"⟩, 19), (⟨"NamesUnder$StoryBook", "countFrom", "(I)I"⟩, 19), (⟨"NamesUnder$StoryBook", "highest", "(I)I"⟩, 19), (⟨"NamesUnder$StoryBook", "lowest", "(I)I"⟩, 19), (⟨"NamesUnder", "isBusyHand", "(I)Z"⟩, 9), (⟨"NamesUnder$StoryBook", "seekFrom", "(I)Z"⟩, 19), (⟨"NamesUnder$StoryBook", "skipLast", "(III)Z"⟩, 19), (⟨"NamesUnder$StoryBook", "isPossibleWith", "(IIII)Z"⟩, 19), (⟨"NamesUnder$StoryBook", "mayHaveStood", "(LNamesUnder$Wall;II)Z"⟩, 19), (⟨"NamesUnder$StoryBook", "doubtfulOne", "()I"⟩, 19), (⟨"NamesUnder$StoryBook", "isPossibleWithout", "(II)Z"⟩, 19), (⟨"NamesUnder$StoryBook", "doubtfulTwo", "()I"⟩, 19), (⟨"NamesUnder$OrderReader", "advance", "()V"⟩, 12), (⟨"NamesUnder$OrderReader", "takeWord", "()V"⟩, 12)]
theorem lw_r2 : ∀ q ∈ lw_privs_2, lw_okq q := List.forall_mem_cons.mpr ⟨lw_p16, List.forall_mem_cons.mpr ⟨lw_p17, List.forall_mem_cons.mpr ⟨lw_p18, List.forall_mem_cons.mpr ⟨lw_p19, List.forall_mem_cons.mpr ⟨lw_p20, List.forall_mem_cons.mpr ⟨lw_p21, List.forall_mem_cons.mpr ⟨lw_p22, List.forall_mem_cons.mpr ⟨lw_p23, List.forall_mem_cons.mpr ⟨lw_p24, List.forall_mem_cons.mpr ⟨lw_p25, List.forall_mem_cons.mpr ⟨lw_p26, List.forall_mem_cons.mpr ⟨lw_p27, List.forall_mem_cons.mpr ⟨lw_p28, List.forall_mem_cons.mpr ⟨lw_p29, List.forall_mem_cons.mpr ⟨lw_p30, List.forall_mem_cons.mpr ⟨lw_p31, fun _ h => absurd h List.not_mem_nil⟩⟩⟩⟩⟩⟩⟩⟩⟩⟩⟩⟩⟩⟩⟩⟩
theorem lw_p32 : lw_okq (⟨"NamesUnder$OrderReader", "isWordOfCell", "(I)Z"⟩, 12) := ⟨⟨by decide +kernel, by decide +kernel⟩, List.mem_of_getElem? (i := 271) (by decide +kernel), List.mem_of_getElem? (i := 788) (by decide +kernel), List.mem_of_getElem? (i := 789) (by decide +kernel)⟩
theorem lw_p33 : lw_okq (⟨"NamesUnder$OrderReader", "takeNumber", "()V"⟩, 12) := ⟨⟨by decide +kernel, by decide +kernel⟩, List.mem_of_getElem? (i := 271) (by decide +kernel), List.mem_of_getElem? (i := 836) (by decide +kernel), List.mem_of_getElem? (i := 837) (by decide +kernel)⟩
theorem lw_p34 : lw_okq (⟨"NamesUnder$OrderReader", "readLine", "(I)Z"⟩, 12) := ⟨⟨by decide +kernel, by decide +kernel⟩, List.mem_of_getElem? (i := 271) (by decide +kernel), List.mem_of_getElem? (i := 843) (by decide +kernel), List.mem_of_getElem? (i := 844) (by decide +kernel)⟩
theorem lw_p35 : lw_okq (⟨"NamesUnder$OrderReader", "refuse", "(I)Z"⟩, 12) := ⟨⟨by decide +kernel, by decide +kernel⟩, List.mem_of_getElem? (i := 271) (by decide +kernel), List.mem_of_getElem? (i := 847) (by decide +kernel), List.mem_of_getElem? (i := 848) (by decide +kernel)⟩
theorem lw_p36 : lw_okq (⟨"NamesUnder$OrderReader", "readTarget", "(I)Z"⟩, 12) := ⟨⟨by decide +kernel, by decide +kernel⟩, List.mem_of_getElem? (i := 271) (by decide +kernel), List.mem_of_getElem? (i := 851) (by decide +kernel), List.mem_of_getElem? (i := 852) (by decide +kernel)⟩
theorem lw_p37 : lw_okq (⟨"NamesUnder$OrderReader", "readWhen", "()Z"⟩, 12) := ⟨⟨by decide +kernel, by decide +kernel⟩, List.mem_of_getElem? (i := 271) (by decide +kernel), List.mem_of_getElem? (i := 856) (by decide +kernel), List.mem_of_getElem? (i := 857) (by decide +kernel)⟩
theorem lw_p38 : lw_okq (⟨"NamesUnder$OrderReader", "takePart", "()Z"⟩, 12) := ⟨⟨by decide +kernel, by decide +kernel⟩, List.mem_of_getElem? (i := 271) (by decide +kernel), List.mem_of_getElem? (i := 860) (by decide +kernel), List.mem_of_getElem? (i := 861) (by decide +kernel)⟩
theorem lw_p39 : lw_okq (⟨"NamesUnder$OrderReader", "endPart", "()V"⟩, 12) := ⟨⟨by decide +kernel, by decide +kernel⟩, List.mem_of_getElem? (i := 271) (by decide +kernel), List.mem_of_getElem? (i := 868) (by decide +kernel), List.mem_of_getElem? (i := 869) (by decide +kernel)⟩
theorem lw_p40 : lw_okq (⟨"NamesUnder$OrderReader", "hold", "(I)V"⟩, 12) := ⟨⟨by decide +kernel, by decide +kernel⟩, List.mem_of_getElem? (i := 271) (by decide +kernel), List.mem_of_getElem? (i := 872) (by decide +kernel), List.mem_of_getElem? (i := 873) (by decide +kernel)⟩
theorem lw_p41 : lw_okq (⟨"NamesUnder$OrderReader", "takeJoint", "()Z"⟩, 12) := ⟨⟨by decide +kernel, by decide +kernel⟩, List.mem_of_getElem? (i := 271) (by decide +kernel), List.mem_of_getElem? (i := 876) (by decide +kernel), List.mem_of_getElem? (i := 877) (by decide +kernel)⟩
theorem lw_p42 : lw_okq (⟨"NamesUnder$OrderReader", "close", "()Z"⟩, 12) := ⟨⟨by decide +kernel, by decide +kernel⟩, List.mem_of_getElem? (i := 271) (by decide +kernel), List.mem_of_getElem? (i := 880) (by decide +kernel), List.mem_of_getElem? (i := 881) (by decide +kernel)⟩
theorem lw_p43 : lw_okq (⟨"NamesUnder$OrderReader", "release", "(I)V"⟩, 12) := ⟨⟨by decide +kernel, by decide +kernel⟩, List.mem_of_getElem? (i := 271) (by decide +kernel), List.mem_of_getElem? (i := 884) (by decide +kernel), List.mem_of_getElem? (i := 885) (by decide +kernel)⟩
theorem lw_p44 : lw_okq (⟨"NamesUnder$Run", "begin", "(I)V"⟩, 14) := ⟨⟨by decide +kernel, by decide +kernel⟩, List.mem_of_getElem? (i := 317) (by decide +kernel), List.mem_of_getElem? (i := 909) (by decide +kernel), List.mem_of_getElem? (i := 910) (by decide +kernel)⟩
theorem lw_p45 : lw_okq (⟨"NamesUnder$Run", "add", "(IIII)V"⟩, 14) := ⟨⟨by decide +kernel, by decide +kernel⟩, List.mem_of_getElem? (i := 317) (by decide +kernel), List.mem_of_getElem? (i := 913) (by decide +kernel), List.mem_of_getElem? (i := 914) (by decide +kernel)⟩
theorem lw_p46 : lw_okq (⟨"NamesUnder$Run", "obey", "(II)V"⟩, 14) := ⟨⟨by decide +kernel, by decide +kernel⟩, List.mem_of_getElem? (i := 317) (by decide +kernel), List.mem_of_getElem? (i := 917) (by decide +kernel), List.mem_of_getElem? (i := 918) (by decide +kernel)⟩
theorem lw_p47 : lw_okq (⟨"NamesUnder$Run", "canDo", "(IIII)Z"⟩, 14) := ⟨⟨by decide +kernel, by decide +kernel⟩, List.mem_of_getElem? (i := 317) (by decide +kernel), List.mem_of_getElem? (i := 921) (by decide +kernel), List.mem_of_getElem? (i := 922) (by decide +kernel)⟩
def lw_privs_3 : List (MethodName × Nat) := [(⟨"NamesUnder$OrderReader", "isWordOfCell", "(I)Z"⟩, 12), (⟨"NamesUnder$OrderReader", "takeNumber", "()V"⟩, 12), (⟨"NamesUnder$OrderReader", "readLine", "(I)Z"⟩, 12), (⟨"NamesUnder$OrderReader", "refuse", "(I)Z"⟩, 12), (⟨"NamesUnder$OrderReader", "readTarget", "(I)Z"⟩, 12), (⟨"NamesUnder$OrderReader", "readWhen", "()Z"⟩, 12), (⟨"NamesUnder$OrderReader", "takePart", "()Z"⟩, 12), (⟨"NamesUnder$OrderReader", "endPart", "()V"⟩, 12), (⟨"NamesUnder$OrderReader", "hold", "(I)V"⟩, 12), (⟨"NamesUnder$OrderReader", "takeJoint", "()Z"⟩, 12), (⟨"NamesUnder$OrderReader", "close", "()Z"⟩, 12), (⟨"NamesUnder$OrderReader", "release", "(I)V"⟩, 12), (⟨"NamesUnder$Run", "begin", "(I)V"⟩, 14), (⟨"NamesUnder$Run", "add", "(IIII)V"⟩, 14), (⟨"NamesUnder$Run", "obey", "(II)V"⟩, 14), (⟨"NamesUnder$Run", "canDo", "(IIII)Z"⟩, 14)]
theorem lw_r3 : ∀ q ∈ lw_privs_3, lw_okq q := List.forall_mem_cons.mpr ⟨lw_p32, List.forall_mem_cons.mpr ⟨lw_p33, List.forall_mem_cons.mpr ⟨lw_p34, List.forall_mem_cons.mpr ⟨lw_p35, List.forall_mem_cons.mpr ⟨lw_p36, List.forall_mem_cons.mpr ⟨lw_p37, List.forall_mem_cons.mpr ⟨lw_p38, List.forall_mem_cons.mpr ⟨lw_p39, List.forall_mem_cons.mpr ⟨lw_p40, List.forall_mem_cons.mpr ⟨lw_p41, List.forall_mem_cons.mpr ⟨lw_p42, List.forall_mem_cons.mpr ⟨lw_p43, List.forall_mem_cons.mpr ⟨lw_p44, List.forall_mem_cons.mpr ⟨lw_p45, List.forall_mem_cons.mpr ⟨lw_p46, List.forall_mem_cons.mpr ⟨lw_p47, fun _ h => absurd h List.not_mem_nil⟩⟩⟩⟩⟩⟩⟩⟩⟩⟩⟩⟩⟩⟩⟩⟩
theorem lw_p48 : lw_okq (⟨"NamesUnder$Run", "standingAt", "(I)I"⟩, 14) := ⟨⟨by decide +kernel, by decide +kernel⟩, List.mem_of_getElem? (i := 317) (by decide +kernel), List.mem_of_getElem? (i := 925) (by decide +kernel), List.mem_of_getElem? (i := 926) (by decide +kernel)⟩
theorem lw_p49 : lw_okq (⟨"NamesUnder$Run", "isBelowTop", "(II)Z"⟩, 14) := ⟨⟨by decide +kernel, by decide +kernel⟩, List.mem_of_getElem? (i := 317) (by decide +kernel), List.mem_of_getElem? (i := 931) (by decide +kernel), List.mem_of_getElem? (i := 932) (by decide +kernel)⟩
theorem lw_p50 : lw_okq (⟨"NamesUnder$Run", "evaluate", "(LNamesUnder$Order;II)I"⟩, 14) := ⟨⟨by decide +kernel, by decide +kernel⟩, List.mem_of_getElem? (i := 317) (by decide +kernel), List.mem_of_getElem? (i := 935) (by decide +kernel), List.mem_of_getElem? (i := 936) (by decide +kernel)⟩
theorem lw_p51 : lw_okq (⟨"NamesUnder$Run", "fact", "(II)I"⟩, 14) := ⟨⟨by decide +kernel, by decide +kernel⟩, List.mem_of_getElem? (i := 317) (by decide +kernel), List.mem_of_getElem? (i := 939) (by decide +kernel), List.mem_of_getElem? (i := 940) (by decide +kernel)⟩
theorem lw_p52 : lw_okq (⟨"NamesUnder$Run", "work", "(IIII)V"⟩, 14) := ⟨⟨by decide +kernel, by decide +kernel⟩, List.mem_of_getElem? (i := 317) (by decide +kernel), List.mem_of_getElem? (i := 946) (by decide +kernel), List.mem_of_getElem? (i := 947) (by decide +kernel)⟩
theorem lw_p53 : lw_okq (⟨"NamesUnder$Run", "findMissed", "(I)I"⟩, 14) := ⟨⟨by decide +kernel, by decide +kernel⟩, List.mem_of_getElem? (i := 317) (by decide +kernel), List.mem_of_getElem? (i := 950) (by decide +kernel), List.mem_of_getElem? (i := 951) (by decide +kernel)⟩
theorem lw_p54 : lw_okq (⟨"NamesUnder$Run", "isAsTold", "(I)Z"⟩, 14) := ⟨⟨by decide +kernel, by decide +kernel⟩, List.mem_of_getElem? (i := 317) (by decide +kernel), List.mem_of_getElem? (i := 969) (by decide +kernel), List.mem_of_getElem? (i := 970) (by decide +kernel)⟩
theorem lw_p55 : lw_okq (⟨"NamesUnder", "highestDone", "(II)I"⟩, 9) := ⟨⟨by decide +kernel, by decide +kernel⟩, List.mem_of_getElem? (i := 23) (by decide +kernel), List.mem_of_getElem? (i := 985) (by decide +kernel), List.mem_of_getElem? (i := 986) (by decide +kernel)⟩
theorem lw_p56 : lw_okq (⟨"NamesUnder", "lowestLeft", "(I)I"⟩, 9) := ⟨⟨by decide +kernel, by decide +kernel⟩, List.mem_of_getElem? (i := 23) (by decide +kernel), List.mem_of_getElem? (i := 994) (by decide +kernel), List.mem_of_getElem? (i := 995) (by decide +kernel)⟩
theorem lw_p57 : lw_okq (⟨"NamesUnder", "sortsDone", "(II)I"⟩, 9) := ⟨⟨by decide +kernel, by decide +kernel⟩, List.mem_of_getElem? (i := 23) (by decide +kernel), List.mem_of_getElem? (i := 1002) (by decide +kernel), List.mem_of_getElem? (i := 1003) (by decide +kernel)⟩
theorem lw_p58 : lw_okq (⟨"NamesUnder", "sortsLeft", "(I)I"⟩, 9) := ⟨⟨by decide +kernel, by decide +kernel⟩, List.mem_of_getElem? (i := 23) (by decide +kernel), List.mem_of_getElem? (i := 1006) (by decide +kernel), List.mem_of_getElem? (i := 1007) (by decide +kernel)⟩
theorem lw_p59 : lw_okq (⟨"NamesUnder$Masonry", "layFrom", "(II)I"⟩, 7) := ⟨⟨by decide +kernel, by decide +kernel⟩, List.mem_of_getElem? (i := 375) (by decide +kernel), List.mem_of_getElem? (i := 1026) (by decide +kernel), List.mem_of_getElem? (i := 1027) (by decide +kernel)⟩
theorem lw_p60 : lw_okq (⟨"NamesUnder$Masonry", "isSuited", "(II)Z"⟩, 7) := ⟨⟨by decide +kernel, by decide +kernel⟩, List.mem_of_getElem? (i := 375) (by decide +kernel), List.mem_of_getElem? (i := 1030) (by decide +kernel), List.mem_of_getElem? (i := 1031) (by decide +kernel)⟩
theorem lw_p61 : lw_okq (⟨"NamesUnder", "placesTold", "()I"⟩, 9) := ⟨⟨by decide +kernel, by decide +kernel⟩, List.mem_of_getElem? (i := 23) (by decide +kernel), List.mem_of_getElem? (i := 1056) (by decide +kernel), List.mem_of_getElem? (i := 1057) (by decide +kernel)⟩
theorem lw_p62 : lw_okq (⟨"NamesUnder", "cutsTold", "()I"⟩, 9) := ⟨⟨by decide +kernel, by decide +kernel⟩, List.mem_of_getElem? (i := 23) (by decide +kernel), List.mem_of_getElem? (i := 1060) (by decide +kernel), List.mem_of_getElem? (i := 1061) (by decide +kernel)⟩
theorem lw_p63 : lw_okq (⟨"NamesUnder", "linesTold", "()I"⟩, 9) := ⟨⟨by decide +kernel, by decide +kernel⟩, List.mem_of_getElem? (i := 23) (by decide +kernel), List.mem_of_getElem? (i := 1064) (by decide +kernel), List.mem_of_getElem? (i := 1065) (by decide +kernel)⟩
def lw_privs_4 : List (MethodName × Nat) := [(⟨"NamesUnder$Run", "standingAt", "(I)I"⟩, 14), (⟨"NamesUnder$Run", "isBelowTop", "(II)Z"⟩, 14), (⟨"NamesUnder$Run", "evaluate", "(LNamesUnder$Order;II)I"⟩, 14), (⟨"NamesUnder$Run", "fact", "(II)I"⟩, 14), (⟨"NamesUnder$Run", "work", "(IIII)V"⟩, 14), (⟨"NamesUnder$Run", "findMissed", "(I)I"⟩, 14), (⟨"NamesUnder$Run", "isAsTold", "(I)Z"⟩, 14), (⟨"NamesUnder", "highestDone", "(II)I"⟩, 9), (⟨"NamesUnder", "lowestLeft", "(I)I"⟩, 9), (⟨"NamesUnder", "sortsDone", "(II)I"⟩, 9), (⟨"NamesUnder", "sortsLeft", "(I)I"⟩, 9), (⟨"NamesUnder$Masonry", "layFrom", "(II)I"⟩, 7), (⟨"NamesUnder$Masonry", "isSuited", "(II)Z"⟩, 7), (⟨"NamesUnder", "placesTold", "()I"⟩, 9), (⟨"NamesUnder", "cutsTold", "()I"⟩, 9), (⟨"NamesUnder", "linesTold", "()I"⟩, 9)]
theorem lw_r4 : ∀ q ∈ lw_privs_4, lw_okq q := List.forall_mem_cons.mpr ⟨lw_p48, List.forall_mem_cons.mpr ⟨lw_p49, List.forall_mem_cons.mpr ⟨lw_p50, List.forall_mem_cons.mpr ⟨lw_p51, List.forall_mem_cons.mpr ⟨lw_p52, List.forall_mem_cons.mpr ⟨lw_p53, List.forall_mem_cons.mpr ⟨lw_p54, List.forall_mem_cons.mpr ⟨lw_p55, List.forall_mem_cons.mpr ⟨lw_p56, List.forall_mem_cons.mpr ⟨lw_p57, List.forall_mem_cons.mpr ⟨lw_p58, List.forall_mem_cons.mpr ⟨lw_p59, List.forall_mem_cons.mpr ⟨lw_p60, List.forall_mem_cons.mpr ⟨lw_p61, List.forall_mem_cons.mpr ⟨lw_p62, List.forall_mem_cons.mpr ⟨lw_p63, fun _ h => absurd h List.not_mem_nil⟩⟩⟩⟩⟩⟩⟩⟩⟩⟩⟩⟩⟩⟩⟩⟩
theorem lw_p64 : lw_okq (⟨"java/lang/Throwable", "fillInStackTrace", "(I)Ljava/lang/Throwable;"⟩, 6) := ⟨⟨by decide +kernel, by decide +kernel⟩, List.mem_of_getElem? (i := 1116) (by decide +kernel), List.mem_of_getElem? (i := 1114) (by decide +kernel), List.mem_of_getElem? (i := 1115) (by decide +kernel)⟩
theorem lw_p65 : lw_okq (⟨"NamesUnderModel", "lay", "(J)V"⟩, 58) := ⟨⟨by decide +kernel, by decide +kernel⟩, List.mem_of_getElem? (i := 1151) (by decide +kernel), List.mem_of_getElem? (i := 1149) (by decide +kernel), List.mem_of_getElem? (i := 1150) (by decide +kernel)⟩
theorem lw_p66 : lw_okq (⟨"NamesUnderModel", "bares", "()V"⟩, 58) := ⟨⟨by decide +kernel, by decide +kernel⟩, List.mem_of_getElem? (i := 1151) (by decide +kernel), List.mem_of_getElem? (i := 1355) (by decide +kernel), List.mem_of_getElem? (i := 1356) (by decide +kernel)⟩
theorem lw_p67 : lw_okq (⟨"NamesUnderModel", "isBlank", "(I)Z"⟩, 58) := ⟨⟨by decide +kernel, by decide +kernel⟩, List.mem_of_getElem? (i := 1151) (by decide +kernel), List.mem_of_getElem? (i := 1359) (by decide +kernel), List.mem_of_getElem? (i := 1360) (by decide +kernel)⟩
theorem lw_p68 : lw_okq (⟨"NamesUnderModel", "areLetters", "(Z)Z"⟩, 58) := ⟨⟨by decide +kernel, by decide +kernel⟩, List.mem_of_getElem? (i := 1151) (by decide +kernel), List.mem_of_getElem? (i := 1366) (by decide +kernel), List.mem_of_getElem? (i := 1367) (by decide +kernel)⟩
theorem lw_p69 : lw_okq (⟨"NamesUnderModel", "isTaped", "(I)Z"⟩, 58) := ⟨⟨by decide +kernel, by decide +kernel⟩, List.mem_of_getElem? (i := 1151) (by decide +kernel), List.mem_of_getElem? (i := 1373) (by decide +kernel), List.mem_of_getElem? (i := 1374) (by decide +kernel)⟩
theorem lw_p70 : lw_okq (⟨"NamesUnderModel", "isName", "(I)Z"⟩, 58) := ⟨⟨by decide +kernel, by decide +kernel⟩, List.mem_of_getElem? (i := 1151) (by decide +kernel), List.mem_of_getElem? (i := 1381) (by decide +kernel), List.mem_of_getElem? (i := 1382) (by decide +kernel)⟩
theorem lw_p71 : lw_okq (⟨"NamesUnderModel", "width", "(I)I"⟩, 58) := ⟨⟨by decide +kernel, by decide +kernel⟩, List.mem_of_getElem? (i := 1151) (by decide +kernel), List.mem_of_getElem? (i := 1385) (by decide +kernel), List.mem_of_getElem? (i := 1386) (by decide +kernel)⟩
theorem lw_p72 : lw_okq (⟨"NamesUnderModel", "areAlike", "(II)Z"⟩, 58) := ⟨⟨by decide +kernel, by decide +kernel⟩, List.mem_of_getElem? (i := 1151) (by decide +kernel), List.mem_of_getElem? (i := 1396) (by decide +kernel), List.mem_of_getElem? (i := 1397) (by decide +kernel)⟩
theorem lw_p73 : lw_okq (⟨"NamesUnderModel", "isWithout", "(III)Z"⟩, 58) := ⟨⟨by decide +kernel, by decide +kernel⟩, List.mem_of_getElem? (i := 1151) (by decide +kernel), List.mem_of_getElem? (i := 1400) (by decide +kernel), List.mem_of_getElem? (i := 1401) (by decide +kernel)⟩
theorem lw_p74 : lw_okq (⟨"NamesUnderModel", "isPlace", "(I)Z"⟩, 58) := ⟨⟨by decide +kernel, by decide +kernel⟩, List.mem_of_getElem? (i := 1151) (by decide +kernel), List.mem_of_getElem? (i := 1412) (by decide +kernel), List.mem_of_getElem? (i := 1413) (by decide +kernel)⟩
theorem lw_p75 : lw_okq (⟨"NamesUnderModel", "lies", "(II)Z"⟩, 58) := ⟨⟨by decide +kernel, by decide +kernel⟩, List.mem_of_getElem? (i := 1151) (by decide +kernel), List.mem_of_getElem? (i := 1419) (by decide +kernel), List.mem_of_getElem? (i := 1420) (by decide +kernel)⟩
theorem lw_p76 : lw_okq (⟨"NamesUnderModel", "isNaming", "(II)Z"⟩, 58) := ⟨⟨by decide +kernel, by decide +kernel⟩, List.mem_of_getElem? (i := 1151) (by decide +kernel), List.mem_of_getElem? (i := 1431) (by decide +kernel), List.mem_of_getElem? (i := 1432) (by decide +kernel)⟩
theorem lw_p77 : lw_okq (⟨"NamesUnderModel", "isCut", "(II)Z"⟩, 58) := ⟨⟨by decide +kernel, by decide +kernel⟩, List.mem_of_getElem? (i := 1151) (by decide +kernel), List.mem_of_getElem? (i := 1435) (by decide +kernel), List.mem_of_getElem? (i := 1436) (by decide +kernel)⟩
theorem lw_p78 : lw_okq (⟨"NamesUnderModel", "doesFit", "(III)Z"⟩, 58) := ⟨⟨by decide +kernel, by decide +kernel⟩, List.mem_of_getElem? (i := 1151) (by decide +kernel), List.mem_of_getElem? (i := 1447) (by decide +kernel), List.mem_of_getElem? (i := 1448) (by decide +kernel)⟩
theorem lw_p79 : lw_okq (⟨"NamesUnderModel", "findStories", "()V"⟩, 58) := ⟨⟨by decide +kernel, by decide +kernel⟩, List.mem_of_getElem? (i := 1151) (by decide +kernel), List.mem_of_getElem? (i := 1463) (by decide +kernel), List.mem_of_getElem? (i := 1464) (by decide +kernel)⟩
def lw_privs_5 : List (MethodName × Nat) := [(⟨"java/lang/Throwable", "fillInStackTrace", "(I)Ljava/lang/Throwable;"⟩, 6), (⟨"NamesUnderModel", "lay", "(J)V"⟩, 58), (⟨"NamesUnderModel", "bares", "()V"⟩, 58), (⟨"NamesUnderModel", "isBlank", "(I)Z"⟩, 58), (⟨"NamesUnderModel", "areLetters", "(Z)Z"⟩, 58), (⟨"NamesUnderModel", "isTaped", "(I)Z"⟩, 58), (⟨"NamesUnderModel", "isName", "(I)Z"⟩, 58), (⟨"NamesUnderModel", "width", "(I)I"⟩, 58), (⟨"NamesUnderModel", "areAlike", "(II)Z"⟩, 58), (⟨"NamesUnderModel", "isWithout", "(III)Z"⟩, 58), (⟨"NamesUnderModel", "isPlace", "(I)Z"⟩, 58), (⟨"NamesUnderModel", "lies", "(II)Z"⟩, 58), (⟨"NamesUnderModel", "isNaming", "(II)Z"⟩, 58), (⟨"NamesUnderModel", "isCut", "(II)Z"⟩, 58), (⟨"NamesUnderModel", "doesFit", "(III)Z"⟩, 58), (⟨"NamesUnderModel", "findStories", "()V"⟩, 58)]
theorem lw_r5 : ∀ q ∈ lw_privs_5, lw_okq q := List.forall_mem_cons.mpr ⟨lw_p64, List.forall_mem_cons.mpr ⟨lw_p65, List.forall_mem_cons.mpr ⟨lw_p66, List.forall_mem_cons.mpr ⟨lw_p67, List.forall_mem_cons.mpr ⟨lw_p68, List.forall_mem_cons.mpr ⟨lw_p69, List.forall_mem_cons.mpr ⟨lw_p70, List.forall_mem_cons.mpr ⟨lw_p71, List.forall_mem_cons.mpr ⟨lw_p72, List.forall_mem_cons.mpr ⟨lw_p73, List.forall_mem_cons.mpr ⟨lw_p74, List.forall_mem_cons.mpr ⟨lw_p75, List.forall_mem_cons.mpr ⟨lw_p76, List.forall_mem_cons.mpr ⟨lw_p77, List.forall_mem_cons.mpr ⟨lw_p78, List.forall_mem_cons.mpr ⟨lw_p79, fun _ h => absurd h List.not_mem_nil⟩⟩⟩⟩⟩⟩⟩⟩⟩⟩⟩⟩⟩⟩⟩⟩
theorem lw_p80 : lw_okq (⟨"NamesUnderModel", "beginsStories", "(I)V"⟩, 58) := ⟨⟨by decide +kernel, by decide +kernel⟩, List.mem_of_getElem? (i := 1151) (by decide +kernel), List.mem_of_getElem? (i := 1467) (by decide +kernel), List.mem_of_getElem? (i := 1468) (by decide +kernel)⟩
theorem lw_p81 : lw_okq (⟨"NamesUnderModel", "cutsOf", "(I)I"⟩, 58) := ⟨⟨by decide +kernel, by decide +kernel⟩, List.mem_of_getElem? (i := 1151) (by decide +kernel), List.mem_of_getElem? (i := 1471) (by decide +kernel), List.mem_of_getElem? (i := 1472) (by decide +kernel)⟩
theorem lw_p82 : lw_okq (⟨"NamesUnderModel", "tells", "(IZ)V"⟩, 58) := ⟨⟨by decide +kernel, by decide +kernel⟩, List.mem_of_getElem? (i := 1151) (by decide +kernel), List.mem_of_getElem? (i := 1475) (by decide +kernel), List.mem_of_getElem? (i := 1476) (by decide +kernel)⟩
theorem lw_p83 : lw_okq (⟨"NamesUnderModel", "letsAll", "()Z"⟩, 58) := ⟨⟨by decide +kernel, by decide +kernel⟩, List.mem_of_getElem? (i := 1151) (by decide +kernel), List.mem_of_getElem? (i := 1479) (by decide +kernel), List.mem_of_getElem? (i := 1480) (by decide +kernel)⟩
theorem lw_p84 : lw_okq (⟨"NamesUnderModel", "lets", "(II)Z"⟩, 58) := ⟨⟨by decide +kernel, by decide +kernel⟩, List.mem_of_getElem? (i := 1151) (by decide +kernel), List.mem_of_getElem? (i := 1483) (by decide +kernel), List.mem_of_getElem? (i := 1484) (by decide +kernel)⟩
theorem lw_p85 : lw_okq (⟨"NamesUnderModel", "isThere", "(IIII)Z"⟩, 58) := ⟨⟨by decide +kernel, by decide +kernel⟩, List.mem_of_getElem? (i := 1151) (by decide +kernel), List.mem_of_getElem? (i := 1487) (by decide +kernel), List.mem_of_getElem? (i := 1488) (by decide +kernel)⟩
theorem lw_p86 : lw_okq (⟨"NamesUnderModel", "countOf", "(II)I"⟩, 58) := ⟨⟨by decide +kernel, by decide +kernel⟩, List.mem_of_getElem? (i := 1151) (by decide +kernel), List.mem_of_getElem? (i := 1491) (by decide +kernel), List.mem_of_getElem? (i := 1492) (by decide +kernel)⟩
theorem lw_p87 : lw_okq (⟨"NamesUnderModel", "reignIn", "(II)I"⟩, 58) := ⟨⟨by decide +kernel, by decide +kernel⟩, List.mem_of_getElem? (i := 1151) (by decide +kernel), List.mem_of_getElem? (i := 1495) (by decide +kernel), List.mem_of_getElem? (i := 1496) (by decide +kernel)⟩
theorem lw_p88 : lw_okq (⟨"NamesUnderModel", "isHand", "(I)Z"⟩, 58) := ⟨⟨by decide +kernel, by decide +kernel⟩, List.mem_of_getElem? (i := 1151) (by decide +kernel), List.mem_of_getElem? (i := 1503) (by decide +kernel), List.mem_of_getElem? (i := 1504) (by decide +kernel)⟩
theorem lw_p89 : lw_okq (⟨"NamesUnderModel", "hasStory", "(I)Z"⟩, 58) := ⟨⟨by decide +kernel, by decide +kernel⟩, List.mem_of_getElem? (i := 1151) (by decide +kernel), List.mem_of_getElem? (i := 1527) (by decide +kernel), List.mem_of_getElem? (i := 1528) (by decide +kernel)⟩
theorem lw_p90 : lw_okq (⟨"NamesUnderModel", "cutAll", "()V"⟩, 58) := ⟨⟨by decide +kernel, by decide +kernel⟩, List.mem_of_getElem? (i := 1151) (by decide +kernel), List.mem_of_getElem? (i := 1535) (by decide +kernel), List.mem_of_getElem? (i := 1536) (by decide +kernel)⟩
theorem lw_p91 : lw_okq (⟨"NamesUnderModel", "readLine", "()V"⟩, 58) := ⟨⟨by decide +kernel, by decide +kernel⟩, List.mem_of_getElem? (i := 1151) (by decide +kernel), List.mem_of_getElem? (i := 1551) (by decide +kernel), List.mem_of_getElem? (i := 1552) (by decide +kernel)⟩
theorem lw_p92 : lw_okq (⟨"NamesUnderModel", "isWord", "(I)Z"⟩, 58) := ⟨⟨by decide +kernel, by decide +kernel⟩, List.mem_of_getElem? (i := 1151) (by decide +kernel), List.mem_of_getElem? (i := 1555) (by decide +kernel), List.mem_of_getElem? (i := 1556) (by decide +kernel)⟩
theorem lw_p93 : lw_okq (⟨"NamesUnderModel", "wrong", "(I)V"⟩, 58) := ⟨⟨by decide +kernel, by decide +kernel⟩, List.mem_of_getElem? (i := 1151) (by decide +kernel), List.mem_of_getElem? (i := 1559) (by decide +kernel), List.mem_of_getElem? (i := 1560) (by decide +kernel)⟩
theorem lw_p94 : lw_okq (⟨"NamesUnderModel", "takeWord", "(I)V"⟩, 58) := ⟨⟨by decide +kernel, by decide +kernel⟩, List.mem_of_getElem? (i := 1151) (by decide +kernel), List.mem_of_getElem? (i := 1564) (by decide +kernel), List.mem_of_getElem? (i := 1565) (by decide +kernel)⟩
theorem lw_p95 : lw_okq (⟨"NamesUnderModel", "hasWord", "(I)Z"⟩, 58) := ⟨⟨by decide +kernel, by decide +kernel⟩, List.mem_of_getElem? (i := 1151) (by decide +kernel), List.mem_of_getElem? (i := 1568) (by decide +kernel), List.mem_of_getElem? (i := 1569) (by decide +kernel)⟩
def lw_privs_6 : List (MethodName × Nat) := [(⟨"NamesUnderModel", "beginsStories", "(I)V"⟩, 58), (⟨"NamesUnderModel", "cutsOf", "(I)I"⟩, 58), (⟨"NamesUnderModel", "tells", "(IZ)V"⟩, 58), (⟨"NamesUnderModel", "letsAll", "()Z"⟩, 58), (⟨"NamesUnderModel", "lets", "(II)Z"⟩, 58), (⟨"NamesUnderModel", "isThere", "(IIII)Z"⟩, 58), (⟨"NamesUnderModel", "countOf", "(II)I"⟩, 58), (⟨"NamesUnderModel", "reignIn", "(II)I"⟩, 58), (⟨"NamesUnderModel", "isHand", "(I)Z"⟩, 58), (⟨"NamesUnderModel", "hasStory", "(I)Z"⟩, 58), (⟨"NamesUnderModel", "cutAll", "()V"⟩, 58), (⟨"NamesUnderModel", "readLine", "()V"⟩, 58), (⟨"NamesUnderModel", "isWord", "(I)Z"⟩, 58), (⟨"NamesUnderModel", "wrong", "(I)V"⟩, 58), (⟨"NamesUnderModel", "takeWord", "(I)V"⟩, 58), (⟨"NamesUnderModel", "hasWord", "(I)Z"⟩, 58)]
theorem lw_r6 : ∀ q ∈ lw_privs_6, lw_okq q := List.forall_mem_cons.mpr ⟨lw_p80, List.forall_mem_cons.mpr ⟨lw_p81, List.forall_mem_cons.mpr ⟨lw_p82, List.forall_mem_cons.mpr ⟨lw_p83, List.forall_mem_cons.mpr ⟨lw_p84, List.forall_mem_cons.mpr ⟨lw_p85, List.forall_mem_cons.mpr ⟨lw_p86, List.forall_mem_cons.mpr ⟨lw_p87, List.forall_mem_cons.mpr ⟨lw_p88, List.forall_mem_cons.mpr ⟨lw_p89, List.forall_mem_cons.mpr ⟨lw_p90, List.forall_mem_cons.mpr ⟨lw_p91, List.forall_mem_cons.mpr ⟨lw_p92, List.forall_mem_cons.mpr ⟨lw_p93, List.forall_mem_cons.mpr ⟨lw_p94, List.forall_mem_cons.mpr ⟨lw_p95, fun _ h => absurd h List.not_mem_nil⟩⟩⟩⟩⟩⟩⟩⟩⟩⟩⟩⟩⟩⟩⟩⟩
theorem lw_p96 : lw_okq (⟨"NamesUnderModel", "all", "(I)V"⟩, 58) := ⟨⟨by decide +kernel, by decide +kernel⟩, List.mem_of_getElem? (i := 1151) (by decide +kernel), List.mem_of_getElem? (i := 1572) (by decide +kernel), List.mem_of_getElem? (i := 1573) (by decide +kernel)⟩
theorem lw_p97 : lw_okq (⟨"NamesUnderModel", "test", "(I)V"⟩, 58) := ⟨⟨by decide +kernel, by decide +kernel⟩, List.mem_of_getElem? (i := 1151) (by decide +kernel), List.mem_of_getElem? (i := 1576) (by decide +kernel), List.mem_of_getElem? (i := 1577) (by decide +kernel)⟩
theorem lw_p98 : lw_okq (⟨"NamesUnderModel", "sums", "(I)V"⟩, 58) := ⟨⟨by decide +kernel, by decide +kernel⟩, List.mem_of_getElem? (i := 1151) (by decide +kernel), List.mem_of_getElem? (i := 1580) (by decide +kernel), List.mem_of_getElem? (i := 1581) (by decide +kernel)⟩
theorem lw_p99 : lw_okq (⟨"NamesUnderModel", "products", "(I)V"⟩, 58) := ⟨⟨by decide +kernel, by decide +kernel⟩, List.mem_of_getElem? (i := 1151) (by decide +kernel), List.mem_of_getElem? (i := 1584) (by decide +kernel), List.mem_of_getElem? (i := 1585) (by decide +kernel)⟩
theorem lw_p100 : lw_okq (⟨"NamesUnderModel", "takePart", "(I)V"⟩, 58) := ⟨⟨by decide +kernel, by decide +kernel⟩, List.mem_of_getElem? (i := 1151) (by decide +kernel), List.mem_of_getElem? (i := 1588) (by decide +kernel), List.mem_of_getElem? (i := 1589) (by decide +kernel)⟩
theorem lw_p101 : lw_okq (⟨"NamesUnderModel", "isSign", "(I)Z"⟩, 58) := ⟨⟨by decide +kernel, by decide +kernel⟩, List.mem_of_getElem? (i := 1151) (by decide +kernel), List.mem_of_getElem? (i := 1592) (by decide +kernel), List.mem_of_getElem? (i := 1593) (by decide +kernel)⟩
theorem lw_p102 : lw_okq (⟨"NamesUnderModel", "emit", "(II)V"⟩, 58) := ⟨⟨by decide +kernel, by decide +kernel⟩, List.mem_of_getElem? (i := 1151) (by decide +kernel), List.mem_of_getElem? (i := 1596) (by decide +kernel), List.mem_of_getElem? (i := 1597) (by decide +kernel)⟩
theorem lw_p103 : lw_okq (⟨"NamesUnderModel", "hasSign", "(I)Z"⟩, 58) := ⟨⟨by decide +kernel, by decide +kernel⟩, List.mem_of_getElem? (i := 1151) (by decide +kernel), List.mem_of_getElem? (i := 1600) (by decide +kernel), List.mem_of_getElem? (i := 1601) (by decide +kernel)⟩
theorem lw_p104 : lw_okq (⟨"NamesUnderModel", "takeSign", "(I)V"⟩, 58) := ⟨⟨by decide +kernel, by decide +kernel⟩, List.mem_of_getElem? (i := 1151) (by decide +kernel), List.mem_of_getElem? (i := 1604) (by decide +kernel), List.mem_of_getElem? (i := 1605) (by decide +kernel)⟩
theorem lw_p105 : lw_okq (⟨"NamesUnderModel", "runs", "(I)V"⟩, 58) := ⟨⟨by decide +kernel, by decide +kernel⟩, List.mem_of_getElem? (i := 1151) (by decide +kernel), List.mem_of_getElem? (i := 1616) (by decide +kernel), List.mem_of_getElem? (i := 1617) (by decide +kernel)⟩
theorem lw_p106 : lw_okq (⟨"NamesUnderModel", "lays", "(IIII)V"⟩, 58) := ⟨⟨by decide +kernel, by decide +kernel⟩, List.mem_of_getElem? (i := 1151) (by decide +kernel), List.mem_of_getElem? (i := 1620) (by decide +kernel), List.mem_of_getElem? (i := 1621) (by decide +kernel)⟩
theorem lw_p107 : lw_okq (⟨"NamesUnderModel", "does", "(II)V"⟩, 58) := ⟨⟨by decide +kernel, by decide +kernel⟩, List.mem_of_getElem? (i := 1151) (by decide +kernel), List.mem_of_getElem? (i := 1624) (by decide +kernel), List.mem_of_getElem? (i := 1625) (by decide +kernel)⟩
theorem lw_p108 : lw_okq (⟨"NamesUnderModel", "findFacts", "(I)V"⟩, 58) := ⟨⟨by decide +kernel, by decide +kernel⟩, List.mem_of_getElem? (i := 1151) (by decide +kernel), List.mem_of_getElem? (i := 1628) (by decide +kernel), List.mem_of_getElem? (i := 1629) (by decide +kernel)⟩
theorem lw_p109 : lw_okq (⟨"NamesUnderModel", "standing", "(I)I"⟩, 58) := ⟨⟨by decide +kernel, by decide +kernel⟩, List.mem_of_getElem? (i := 1151) (by decide +kernel), List.mem_of_getElem? (i := 1632) (by decide +kernel), List.mem_of_getElem? (i := 1633) (by decide +kernel)⟩
theorem lw_p110 : lw_okq (⟨"NamesUnderModel", "canDo", "(III)Z"⟩, 58) := ⟨⟨by decide +kernel, by decide +kernel⟩, List.mem_of_getElem? (i := 1151) (by decide +kernel), List.mem_of_getElem? (i := 1636) (by decide +kernel), List.mem_of_getElem? (i := 1637) (by decide +kernel)⟩
theorem lw_p111 : lw_okq (⟨"NamesUnderModel", "worth", "(I)I"⟩, 58) := ⟨⟨by decide +kernel, by decide +kernel⟩, List.mem_of_getElem? (i := 1151) (by decide +kernel), List.mem_of_getElem? (i := 1640) (by decide +kernel), List.mem_of_getElem? (i := 1641) (by decide +kernel)⟩
def lw_privs_7 : List (MethodName × Nat) := [(⟨"NamesUnderModel", "all", "(I)V"⟩, 58), (⟨"NamesUnderModel", "test", "(I)V"⟩, 58), (⟨"NamesUnderModel", "sums", "(I)V"⟩, 58), (⟨"NamesUnderModel", "products", "(I)V"⟩, 58), (⟨"NamesUnderModel", "takePart", "(I)V"⟩, 58), (⟨"NamesUnderModel", "isSign", "(I)Z"⟩, 58), (⟨"NamesUnderModel", "emit", "(II)V"⟩, 58), (⟨"NamesUnderModel", "hasSign", "(I)Z"⟩, 58), (⟨"NamesUnderModel", "takeSign", "(I)V"⟩, 58), (⟨"NamesUnderModel", "runs", "(I)V"⟩, 58), (⟨"NamesUnderModel", "lays", "(IIII)V"⟩, 58), (⟨"NamesUnderModel", "does", "(II)V"⟩, 58), (⟨"NamesUnderModel", "findFacts", "(I)V"⟩, 58), (⟨"NamesUnderModel", "standing", "(I)I"⟩, 58), (⟨"NamesUnderModel", "canDo", "(III)Z"⟩, 58), (⟨"NamesUnderModel", "worth", "(I)I"⟩, 58)]
theorem lw_r7 : ∀ q ∈ lw_privs_7, lw_okq q := List.forall_mem_cons.mpr ⟨lw_p96, List.forall_mem_cons.mpr ⟨lw_p97, List.forall_mem_cons.mpr ⟨lw_p98, List.forall_mem_cons.mpr ⟨lw_p99, List.forall_mem_cons.mpr ⟨lw_p100, List.forall_mem_cons.mpr ⟨lw_p101, List.forall_mem_cons.mpr ⟨lw_p102, List.forall_mem_cons.mpr ⟨lw_p103, List.forall_mem_cons.mpr ⟨lw_p104, List.forall_mem_cons.mpr ⟨lw_p105, List.forall_mem_cons.mpr ⟨lw_p106, List.forall_mem_cons.mpr ⟨lw_p107, List.forall_mem_cons.mpr ⟨lw_p108, List.forall_mem_cons.mpr ⟨lw_p109, List.forall_mem_cons.mpr ⟨lw_p110, List.forall_mem_cons.mpr ⟨lw_p111, fun _ h => absurd h List.not_mem_nil⟩⟩⟩⟩⟩⟩⟩⟩⟩⟩⟩⟩⟩⟩⟩⟩
theorem lw_p112 : lw_okq (⟨"NamesUnderModel", "doesAgree", "(I)Z"⟩, 58) := ⟨⟨by decide +kernel, by decide +kernel⟩, List.mem_of_getElem? (i := 1151) (by decide +kernel), List.mem_of_getElem? (i := 1655) (by decide +kernel), List.mem_of_getElem? (i := 1656) (by decide +kernel)⟩
theorem lw_p113 : lw_okq (⟨"NamesUnderModel", "findWays", "()V"⟩, 58) := ⟨⟨by decide +kernel, by decide +kernel⟩, List.mem_of_getElem? (i := 1151) (by decide +kernel), List.mem_of_getElem? (i := 1675) (by decide +kernel), List.mem_of_getElem? (i := 1676) (by decide +kernel)⟩
theorem lw_p114 : lw_okq (⟨"NamesUnderModel", "fills", "(II)V"⟩, 58) := ⟨⟨by decide +kernel, by decide +kernel⟩, List.mem_of_getElem? (i := 1151) (by decide +kernel), List.mem_of_getElem? (i := 1679) (by decide +kernel), List.mem_of_getElem? (i := 1680) (by decide +kernel)⟩
theorem lw_p115 : lw_okq (⟨"NamesUnderModel", "doesLie", "(II)Z"⟩, 58) := ⟨⟨by decide +kernel, by decide +kernel⟩, List.mem_of_getElem? (i := 1151) (by decide +kernel), List.mem_of_getElem? (i := 1683) (by decide +kernel), List.mem_of_getElem? (i := 1684) (by decide +kernel)⟩
def lw_privs_8 : List (MethodName × Nat) := [(⟨"NamesUnderModel", "doesAgree", "(I)Z"⟩, 58), (⟨"NamesUnderModel", "findWays", "()V"⟩, 58), (⟨"NamesUnderModel", "fills", "(II)V"⟩, 58), (⟨"NamesUnderModel", "doesLie", "(II)Z"⟩, 58)]
theorem lw_r8 : ∀ q ∈ lw_privs_8, lw_okq q := List.forall_mem_cons.mpr ⟨lw_p112, List.forall_mem_cons.mpr ⟨lw_p113, List.forall_mem_cons.mpr ⟨lw_p114, List.forall_mem_cons.mpr ⟨lw_p115, fun _ h => absurd h List.not_mem_nil⟩⟩⟩⟩
def lw_privs : List (MethodName × Nat) := lw_privs_1 ++ (lw_privs_2 ++ (lw_privs_3 ++ (lw_privs_4 ++ (lw_privs_5 ++ (lw_privs_6 ++ (lw_privs_7 ++ (lw_privs_8)))))))
def lw_tbl : List Cond := k2_sels lw_privs ++ tables_1
theorem lw_privs_ok : ∀ q ∈ lw_privs, lw_okq q := by
  show ∀ q ∈ lw_privs_1 ++ (lw_privs_2 ++ (lw_privs_3 ++ (lw_privs_4 ++ (lw_privs_5 ++ (lw_privs_6 ++ (lw_privs_7 ++ (lw_privs_8))))))), lw_okq q
  exact List.forall_mem_append.mpr ⟨lw_r1, List.forall_mem_append.mpr ⟨lw_r2, List.forall_mem_append.mpr ⟨lw_r3, List.forall_mem_append.mpr ⟨lw_r4, List.forall_mem_append.mpr ⟨lw_r5, List.forall_mem_append.mpr ⟨lw_r6, List.forall_mem_append.mpr ⟨lw_r7, lw_r8⟩⟩⟩⟩⟩⟩⟩
end
section
/-! ===== BEGIN printed: names, fields, word lists, decode rows ===== -/
def RX0 : String := "NamesUnder$Kind"
def TX0 : u_T := fun k => match k with
  | _ => ("", "", "", false)
def tyX0 : Nat → FieldType := fun k => match k with
  | _ => .int
abbrev wsX00 : List Cond := u_ws RX0 TX0 0
theorem nmX0 : ∀ a, a < 0 → ∀ b, b < 0 → a ≠ b → (TX0 a).2.1 ≠ (TX0 b).2.1 := by decide +kernel
theorem tyX0_ok : ∀ k, k < 0 → parseFieldDescriptor (TX0 k).2.2.1 = some (tyX0 k) := by decide +kernel
def RX1 : String := "NamesUnder$Masonry"
def TX1 : u_T := fun k => match k with
  | 0 => ("NamesUnder$Masonry", "told", "[Z", true)
  | 1 => ("NamesUnder$Masonry", "left", "[I", true)
  | 2 => ("NamesUnder$Masonry", "right", "[I", true)
  | 3 => ("NamesUnder$Masonry", "course", "[I", true)
  | 4 => ("NamesUnder$Masonry", "lies", "[I", true)
  | 5 => ("NamesUnder$Masonry", "total", "I", false)
  | _ => ("NamesUnder$Masonry", "fresh", "Z", false)
def tyX1 : Nat → FieldType := fun k => match k with
  | 0 => .array .boolean
  | 1 => .array .int
  | 2 => .array .int
  | 3 => .array .int
  | 4 => .array .int
  | 5 => .int
  | _ => .boolean
abbrev wsX10 : List Cond := u_ws RX1 TX1 7
theorem nmX1 : ∀ a, a < 7 → ∀ b, b < 7 → a ≠ b → (TX1 a).2.1 ≠ (TX1 b).2.1 := by decide +kernel
theorem tyX1_ok : ∀ k, k < 7 → parseFieldDescriptor (TX1 k).2.2.1 = some (tyX1 k) := by decide +kernel
abbrev cX1_init : ByteArray := prog_3_method_1_code
def yX1_init : MethodName := ⟨RX1, "<init>", "()V"⟩
abbrev cX1_tell : ByteArray := prog_3_method_2_code
def yX1_tell : MethodName := ⟨RX1, "tell", "(IIII)V"⟩
abbrev cX1_toldNumber : ByteArray := prog_3_method_3_code
def yX1_toldNumber : MethodName := ⟨RX1, "toldNumber", "(II)I"⟩
abbrev cX1_layAll : ByteArray := prog_3_method_4_code
def yX1_layAll : MethodName := ⟨RX1, "layAll", "()V"⟩
abbrev cX1_layFrom : ByteArray := prog_3_method_5_code
def yX1_layFrom : MethodName := ⟨RX1, "layFrom", "(II)I"⟩
abbrev cX1_isSuited : ByteArray := prog_3_method_6_code
def yX1_isSuited : MethodName := ⟨RX1, "isSuited", "(II)Z"⟩
abbrev cX1_sureBlocks : ByteArray := prog_3_method_7_code
def yX1_sureBlocks : MethodName := ⟨RX1, "sureBlocks", "()I"⟩
def RX2 : String := "NamesUnder$NameList"
def TX2 : u_T := fun k => match k with
  | 0 => ("NamesUnder$NameList", "told", "[Z", true)
  | 1 => ("NamesUnder$NameList", "she", "[Z", true)
  | 2 => ("NamesUnder$NameList", "reign", "[I", true)
  | 3 => ("NamesUnder$NameList", "size", "[I", true)
  | 4 => ("NamesUnder$NameList", "width", "[I", true)
  | _ => ("NamesUnder$NameList", "letters", "[C", true)
def tyX2 : Nat → FieldType := fun k => match k with
  | 0 => .array .boolean
  | 1 => .array .boolean
  | 2 => .array .int
  | 3 => .array .int
  | 4 => .array .int
  | _ => .array .char
abbrev wsX20 : List Cond := u_ws RX2 TX2 6
theorem nmX2 : ∀ a, a < 6 → ∀ b, b < 6 → a ≠ b → (TX2 a).2.1 ≠ (TX2 b).2.1 := by decide +kernel
theorem tyX2_ok : ∀ k, k < 6 → parseFieldDescriptor (TX2 k).2.2.1 = some (tyX2 k) := by decide +kernel
abbrev cX2_init : ByteArray := prog_4_method_1_code
def yX2_init : MethodName := ⟨RX2, "<init>", "()V"⟩
abbrev cX2_isTold : ByteArray := prog_4_method_2_code
def yX2_isTold : MethodName := ⟨RX2, "isTold", "(I)Z"⟩
abbrev cX2_toldNumber : ByteArray := prog_4_method_3_code
def yX2_toldNumber : MethodName := ⟨RX2, "toldNumber", "()I"⟩
abbrev cX2_isOthers : ByteArray := prog_4_method_4_code
def yX2_isOthers : MethodName := ⟨RX2, "isOthers", "(ILNamesUnder$Tape;)Z"⟩
abbrev cX2_isWord : ByteArray := prog_4_method_5_code
def yX2_isWord : MethodName := ⟨RX2, "isWord", "(ILNamesUnder$Tape;)Z"⟩
abbrev cX2_tell : ByteArray := prog_4_method_6_code
def yX2_tell : MethodName := ⟨RX2, "tell", "(ILNamesUnder$Tape;)V"⟩
abbrev cX2_widthOf : ByteArray := prog_4_method_7_code
def yX2_widthOf : MethodName := ⟨RX2, "widthOf", "(I)I"⟩
abbrev cX2_areAlike : ByteArray := prog_4_method_8_code
def yX2_areAlike : MethodName := ⟨RX2, "areAlike", "(II)Z"⟩
abbrev cX2_fitting : ByteArray := prog_4_method_9_code
def yX2_fitting : MethodName := ⟨RX2, "fitting", "(LNamesUnder$Wall;IZ)I"⟩
abbrev cX2_isFitting : ByteArray := prog_4_method_10_code
def yX2_isFitting : MethodName := ⟨RX2, "isFitting", "(ILNamesUnder$Wall;IZ)Z"⟩
abbrev cX2_hasTraces : ByteArray := prog_4_method_11_code
def yX2_hasTraces : MethodName := ⟨RX2, "hasTraces", "(ILNamesUnder$Wall;I)Z"⟩
abbrev cX2_isFirstFitting : ByteArray := prog_4_method_12_code
def yX2_isFirstFitting : MethodName := ⟨RX2, "isFirstFitting", "(ILNamesUnder$Wall;)Z"⟩
abbrev cX2_leastReign : ByteArray := prog_4_method_13_code
def yX2_leastReign : MethodName := ⟨RX2, "leastReign", "(I)I"⟩
def RX3 : String := "NamesUnder$Order"
def TX3 : u_T := fun k => match k with
  | 0 => ("NamesUnder$Order", "lines", "I", false)
  | 1 => ("NamesUnder$Order", "codeSize", "I", false)
  | 2 => ("NamesUnder$Order", "doing", "[I", true)
  | 3 => ("NamesUnder$Order", "target", "[I", true)
  | 4 => ("NamesUnder$Order", "from", "[I", true)
  | 5 => ("NamesUnder$Order", "upto", "[I", true)
  | _ => ("NamesUnder$Order", "code", "[I", false)
def tyX3 : Nat → FieldType := fun k => match k with
  | 0 => .int
  | 1 => .int
  | 2 => .array .int
  | 3 => .array .int
  | 4 => .array .int
  | 5 => .array .int
  | _ => .array .int
abbrev wsX30 : List Cond := u_ws RX3 TX3 7
theorem nmX3 : ∀ a, a < 7 → ∀ b, b < 7 → a ≠ b → (TX3 a).2.1 ≠ (TX3 b).2.1 := by decide +kernel
theorem tyX3_ok : ∀ k, k < 7 → parseFieldDescriptor (TX3 k).2.2.1 = some (tyX3 k) := by decide +kernel
abbrev cX3_init : ByteArray := prog_5_method_1_code
def yX3_init : MethodName := ⟨RX3, "<init>", "(I)V"⟩
abbrev cX3_clear : ByteArray := prog_5_method_2_code
def yX3_clear : MethodName := ⟨RX3, "clear", "()V"⟩
abbrev cX3_addCode : ByteArray := prog_5_method_3_code
def yX3_addCode : MethodName := ⟨RX3, "addCode", "(I)V"⟩
abbrev cX3_copy : ByteArray := prog_5_method_4_code
def yX3_copy : MethodName := ⟨RX3, "copy", "(LNamesUnder$Order;)V"⟩
def RX4 : String := "NamesUnder$OrderReader"
def TX4 : u_T := fun k => match k with
  | 0 => ("NamesUnder$OrderReader", "tape", "LNamesUnder$Tape;", true)
  | 1 => ("NamesUnder$OrderReader", "names", "LNamesUnder$NameList;", true)
  | 2 => ("NamesUnder$OrderReader", "sheet", "LNamesUnder$Order;", true)
  | 3 => ("NamesUnder$OrderReader", "at", "I", false)
  | 4 => ("NamesUnder$OrderReader", "kind", "I", false)
  | 5 => ("NamesUnder$OrderReader", "start", "I", false)
  | 6 => ("NamesUnder$OrderReader", "value", "I", false)
  | 7 => ("NamesUnder$OrderReader", "fault", "I", false)
  | 8 => ("NamesUnder$OrderReader", "held", "[I", true)
  | 9 => ("NamesUnder$OrderReader", "waiting", "I", false)
  | 10 => ("NamesUnder$OrderReader", "within", "I", false)
  | _ => ("NamesUnder$OrderReader", "partNext", "Z", false)
def tyX4 : Nat → FieldType := fun k => match k with
  | 0 => .object "NamesUnder$Tape"
  | 1 => .object "NamesUnder$NameList"
  | 2 => .object "NamesUnder$Order"
  | 3 => .int
  | 4 => .int
  | 5 => .int
  | 6 => .int
  | 7 => .int
  | 8 => .array .int
  | 9 => .int
  | 10 => .int
  | _ => .boolean
abbrev wsX40 : List Cond := u_ws RX4 TX4 12
theorem nmX4 : ∀ a, a < 12 → ∀ b, b < 12 → a ≠ b → (TX4 a).2.1 ≠ (TX4 b).2.1 := by decide +kernel
theorem tyX4_ok : ∀ k, k < 12 → parseFieldDescriptor (TX4 k).2.2.1 = some (tyX4 k) := by decide +kernel
abbrev cX4_init : ByteArray := prog_6_method_1_code
def yX4_init : MethodName := ⟨RX4, "<init>", "(LNamesUnder$Tape;LNamesUnder$NameList;)V"⟩
abbrev cX4_read : ByteArray := prog_6_method_2_code
def yX4_read : MethodName := ⟨RX4, "read", "()I"⟩
abbrev cX4_refuse : ByteArray := prog_6_method_3_code
def yX4_refuse : MethodName := ⟨RX4, "refuse", "(I)Z"⟩
abbrev cX4_readLine : ByteArray := prog_6_method_4_code
def yX4_readLine : MethodName := ⟨RX4, "readLine", "(I)Z"⟩
abbrev cX4_readTarget : ByteArray := prog_6_method_5_code
def yX4_readTarget : MethodName := ⟨RX4, "readTarget", "(I)Z"⟩
abbrev cX4_readWhen : ByteArray := prog_6_method_6_code
def yX4_readWhen : MethodName := ⟨RX4, "readWhen", "()Z"⟩
abbrev cX4_takePart : ByteArray := prog_6_method_7_code
def yX4_takePart : MethodName := ⟨RX4, "takePart", "()Z"⟩
abbrev cX4_takeJoint : ByteArray := prog_6_method_8_code
def yX4_takeJoint : MethodName := ⟨RX4, "takeJoint", "()Z"⟩
abbrev cX4_close : ByteArray := prog_6_method_9_code
def yX4_close : MethodName := ⟨RX4, "close", "()Z"⟩
abbrev cX4_endPart : ByteArray := prog_6_method_10_code
def yX4_endPart : MethodName := ⟨RX4, "endPart", "()V"⟩
abbrev cX4_hold : ByteArray := prog_6_method_11_code
def yX4_hold : MethodName := ⟨RX4, "hold", "(I)V"⟩
abbrev cX4_release : ByteArray := prog_6_method_12_code
def yX4_release : MethodName := ⟨RX4, "release", "(I)V"⟩
abbrev cX4_rankOf : ByteArray := prog_6_method_13_code
def yX4_rankOf : MethodName := ⟨RX4, "rankOf", "(I)I"⟩
abbrev cX4_advance : ByteArray := prog_6_method_14_code
def yX4_advance : MethodName := ⟨RX4, "advance", "()V"⟩
abbrev cX4_takeWord : ByteArray := prog_6_method_15_code
def yX4_takeWord : MethodName := ⟨RX4, "takeWord", "()V"⟩
abbrev cX4_isWordOfCell : ByteArray := prog_6_method_16_code
def yX4_isWordOfCell : MethodName := ⟨RX4, "isWordOfCell", "(I)Z"⟩
abbrev cX4_takeNumber : ByteArray := prog_6_method_17_code
def yX4_takeNumber : MethodName := ⟨RX4, "takeNumber", "()V"⟩
abbrev cX4_kindOfSign : ByteArray := prog_6_method_18_code
def yX4_kindOfSign : MethodName := ⟨RX4, "kindOfSign", "(I)I"⟩
def RX5 : String := "NamesUnder$Run"
def TX5 : u_T := fun k => match k with
  | 0 => ("NamesUnder$Run", "names", "LNamesUnder$NameList;", true)
  | 1 => ("NamesUnder$Run", "walls", "[LNamesUnder$Wall;", true)
  | 2 => ("NamesUnder$Run", "orders", "[LNamesUnder$Order;", true)
  | 3 => ("NamesUnder$Run", "ladder", "[I", true)
  | 4 => ("NamesUnder$Run", "reads", "[Z", true)
  | 5 => ("NamesUnder$Run", "size", "[I", true)
  | 6 => ("NamesUnder$Run", "hand", "[I", true)
  | 7 => ("NamesUnder$Run", "doing", "[I", true)
  | 8 => ("NamesUnder$Run", "name", "[I", true)
  | 9 => ("NamesUnder$Run", "sizeBehind", "[I", true)
  | 10 => ("NamesUnder$Run", "missedBy", "[I", true)
  | 11 => ("NamesUnder$Run", "stack", "[I", true)
  | 12 => ("NamesUnder$Run", "slips", "I", false)
  | _ => ("NamesUnder$Run", "fresh", "Z", false)
def tyX5 : Nat → FieldType := fun k => match k with
  | 0 => .object "NamesUnder$NameList"
  | 1 => .array (.object "NamesUnder$Wall")
  | 2 => .array (.object "NamesUnder$Order")
  | 3 => .array .int
  | 4 => .array .boolean
  | 5 => .array .int
  | 6 => .array .int
  | 7 => .array .int
  | 8 => .array .int
  | 9 => .array .int
  | 10 => .array .int
  | 11 => .array .int
  | 12 => .int
  | _ => .boolean
abbrev wsX50 : List Cond := u_ws RX5 TX5 14
theorem nmX5 : ∀ a, a < 14 → ∀ b, b < 14 → a ≠ b → (TX5 a).2.1 ≠ (TX5 b).2.1 := by decide +kernel
theorem tyX5_ok : ∀ k, k < 14 → parseFieldDescriptor (TX5 k).2.2.1 = some (tyX5 k) := by decide +kernel
abbrev cX5_init : ByteArray := prog_7_method_1_code
def yX5_init : MethodName := ⟨RX5, "<init>", "(LNamesUnder$NameList;[LNamesUnder$Wall;[LNamesUnder$Order;)V"⟩
abbrev cX5_forget : ByteArray := prog_7_method_2_code
def yX5_forget : MethodName := ⟨RX5, "forget", "()V"⟩
abbrev cX5_perform : ByteArray := prog_7_method_3_code
def yX5_perform : MethodName := ⟨RX5, "perform", "()V"⟩
abbrev cX5_begin : ByteArray := prog_7_method_4_code
def yX5_begin : MethodName := ⟨RX5, "begin", "(I)V"⟩
abbrev cX5_add : ByteArray := prog_7_method_5_code
def yX5_add : MethodName := ⟨RX5, "add", "(IIII)V"⟩
abbrev cX5_obey : ByteArray := prog_7_method_6_code
def yX5_obey : MethodName := ⟨RX5, "obey", "(II)V"⟩
abbrev cX5_standingAt : ByteArray := prog_7_method_7_code
def yX5_standingAt : MethodName := ⟨RX5, "standingAt", "(I)I"⟩
abbrev cX5_canDo : ByteArray := prog_7_method_8_code
def yX5_canDo : MethodName := ⟨RX5, "canDo", "(IIII)Z"⟩
abbrev cX5_isBelowTop : ByteArray := prog_7_method_9_code
def yX5_isBelowTop : MethodName := ⟨RX5, "isBelowTop", "(II)Z"⟩
abbrev cX5_work : ByteArray := prog_7_method_10_code
def yX5_work : MethodName := ⟨RX5, "work", "(IIII)V"⟩
abbrev cX5_findMissed : ByteArray := prog_7_method_11_code
def yX5_findMissed : MethodName := ⟨RX5, "findMissed", "(I)I"⟩
abbrev cX5_isAgainst : ByteArray := prog_7_method_12_code
def yX5_isAgainst : MethodName := ⟨RX5, "isAgainst", "(LNamesUnder$Order;I)Z"⟩
abbrev cX5_evaluate : ByteArray := prog_7_method_13_code
def yX5_evaluate : MethodName := ⟨RX5, "evaluate", "(LNamesUnder$Order;II)I"⟩
abbrev cX5_fact : ByteArray := prog_7_method_14_code
def yX5_fact : MethodName := ⟨RX5, "fact", "(II)I"⟩
abbrev cX5_join : ByteArray := prog_7_method_15_code
def yX5_join : MethodName := ⟨RX5, "join", "(III)I"⟩
abbrev cX5_agreeing : ByteArray := prog_7_method_16_code
def yX5_agreeing : MethodName := ⟨RX5, "agreeing", "()I"⟩
abbrev cX5_isAsTold : ByteArray := prog_7_method_17_code
def yX5_isAsTold : MethodName := ⟨RX5, "isAsTold", "(I)Z"⟩
abbrev cX5_cutsTogether : ByteArray := prog_7_method_18_code
def yX5_cutsTogether : MethodName := ⟨RX5, "cutsTogether", "()I"⟩
def RX6 : String := "NamesUnder$StoryBook"
def TX6 : u_T := fun k => match k with
  | 0 => ("NamesUnder$StoryBook", "names", "LNamesUnder$NameList;", true)
  | 1 => ("NamesUnder$StoryBook", "walls", "[LNamesUnder$Wall;", true)
  | 2 => ("NamesUnder$StoryBook", "dates", "[I", true)
  | 3 => ("NamesUnder$StoryBook", "hands", "I", false)
  | 4 => ("NamesUnder$StoryBook", "barred", "Z", false)
  | 5 => ("NamesUnder$StoryBook", "floor", "[I", true)
  | 6 => ("NamesUnder$StoryBook", "ceiling", "[I", true)
  | 7 => ("NamesUnder$StoryBook", "step", "[I", true)
  | 8 => ("NamesUnder$StoryBook", "leastReign", "[I", true)
  | 9 => ("NamesUnder$StoryBook", "leastReignBare", "[I", true)
  | 10 => ("NamesUnder$StoryBook", "earliest", "[I", true)
  | 11 => ("NamesUnder$StoryBook", "keptFloor", "[I", true)
  | 12 => ("NamesUnder$StoryBook", "reignOf", "[I", true)
  | 13 => ("NamesUnder$StoryBook", "chances", "[I", true)
  | 14 => ("NamesUnder$StoryBook", "total", "I", false)
  | 15 => ("NamesUnder$StoryBook", "gathered", "Z", false)
  | 16 => ("NamesUnder$StoryBook", "tallied", "Z", false)
  | 17 => ("NamesUnder$StoryBook", "shown", "I", false)
  | _ => ("NamesUnder$StoryBook", "toSkip", "I", false)
def tyX6 : Nat → FieldType := fun k => match k with
  | 0 => .object "NamesUnder$NameList"
  | 1 => .array (.object "NamesUnder$Wall")
  | 2 => .array .int
  | 3 => .int
  | 4 => .boolean
  | 5 => .array .int
  | 6 => .array .int
  | 7 => .array .int
  | 8 => .array .int
  | 9 => .array .int
  | 10 => .array .int
  | 11 => .array .int
  | 12 => .array .int
  | 13 => .array .int
  | 14 => .int
  | 15 => .boolean
  | 16 => .boolean
  | 17 => .int
  | _ => .int
abbrev wsX60 : List Cond := u_ws RX6 TX6 19
theorem nmX6 : ∀ a, a < 19 → ∀ b, b < 19 → a ≠ b → (TX6 a).2.1 ≠ (TX6 b).2.1 := by decide +kernel
theorem tyX6_ok : ∀ k, k < 19 → parseFieldDescriptor (TX6 k).2.2.1 = some (tyX6 k) := by decide +kernel
abbrev cX6_init : ByteArray := prog_8_method_1_code
def yX6_init : MethodName := ⟨RX6, "<init>", "(LNamesUnder$NameList;[LNamesUnder$Wall;[I)V"⟩
abbrev cX6_forget : ByteArray := prog_8_method_2_code
def yX6_forget : MethodName := ⟨RX6, "forget", "()V"⟩
abbrev cX6_isBusy : ByteArray := prog_8_method_3_code
def yX6_isBusy : MethodName := ⟨RX6, "isBusy", "(I)Z"⟩
abbrev cX6_gatherAll : ByteArray := prog_8_method_4_code
def yX6_gatherAll : MethodName := ⟨RX6, "gatherAll", "()V"⟩
abbrev cX6_findLeastReigns : ByteArray := prog_8_method_5_code
def yX6_findLeastReigns : MethodName := ⟨RX6, "findLeastReigns", "()V"⟩
abbrev cX6_gather : ByteArray := prog_8_method_6_code
def yX6_gather : MethodName := ⟨RX6, "gather", "(II)V"⟩
abbrev cX6_weigh : ByteArray := prog_8_method_7_code
def yX6_weigh : MethodName := ⟨RX6, "weigh", "(IZ)V"⟩
abbrev cX6_addStep : ByteArray := prog_8_method_8_code
def yX6_addStep : MethodName := ⟨RX6, "addStep", "(III)V"⟩
abbrev cX6_raise : ByteArray := prog_8_method_9_code
def yX6_raise : MethodName := ⟨RX6, "raise", "(II)V"⟩
abbrev cX6_isPossible : ByteArray := prog_8_method_10_code
def yX6_isPossible : MethodName := ⟨RX6, "isPossible", "()Z"⟩
abbrev cX6_pushBehind : ByteArray := prog_8_method_11_code
def yX6_pushBehind : MethodName := ⟨RX6, "pushBehind", "()Z"⟩
abbrev cX6_tally : ByteArray := prog_8_method_12_code
def yX6_tally : MethodName := ⟨RX6, "tally", "()V"⟩
abbrev cX6_countFrom : ByteArray := prog_8_method_13_code
def yX6_countFrom : MethodName := ⟨RX6, "countFrom", "(I)I"⟩
abbrev cX6_lowest : ByteArray := prog_8_method_14_code
def yX6_lowest : MethodName := ⟨RX6, "lowest", "(I)I"⟩
abbrev cX6_highest : ByteArray := prog_8_method_15_code
def yX6_highest : MethodName := ⟨RX6, "highest", "(I)I"⟩
abbrev cX6_seek : ByteArray := prog_8_method_16_code
def yX6_seek : MethodName := ⟨RX6, "seek", "(I)Z"⟩
abbrev cX6_seekFrom : ByteArray := prog_8_method_17_code
def yX6_seekFrom : MethodName := ⟨RX6, "seekFrom", "(I)Z"⟩
abbrev cX6_skipLast : ByteArray := prog_8_method_18_code
def yX6_skipLast : MethodName := ⟨RX6, "skipLast", "(III)Z"⟩
abbrev cX6_sureHands : ByteArray := prog_8_method_19_code
def yX6_sureHands : MethodName := ⟨RX6, "sureHands", "()I"⟩
abbrev cX6_mostOf : ByteArray := prog_8_method_20_code
def yX6_mostOf : MethodName := ⟨RX6, "mostOf", "(I)I"⟩
abbrev cX6_handToDate : ByteArray := prog_8_method_21_code
def yX6_handToDate : MethodName := ⟨RX6, "handToDate", "()I"⟩
abbrev cX6_relations : ByteArray := prog_8_method_22_code
def yX6_relations : MethodName := ⟨RX6, "relations", "(II)I"⟩
abbrev cX6_isPossibleWith : ByteArray := prog_8_method_23_code
def yX6_isPossibleWith : MethodName := ⟨RX6, "isPossibleWith", "(IIII)Z"⟩
abbrev cX6_standing : ByteArray := prog_8_method_24_code
def yX6_standing : MethodName := ⟨RX6, "standing", "(LNamesUnder$Wall;I)I"⟩
abbrev cX6_mayHaveStood : ByteArray := prog_8_method_25_code
def yX6_mayHaveStood : MethodName := ⟨RX6, "mayHaveStood", "(LNamesUnder$Wall;II)Z"⟩
abbrev cX6_doubtful : ByteArray := prog_8_method_26_code
def yX6_doubtful : MethodName := ⟨RX6, "doubtful", "()I"⟩
abbrev cX6_doubtfulOne : ByteArray := prog_8_method_27_code
def yX6_doubtfulOne : MethodName := ⟨RX6, "doubtfulOne", "()I"⟩
abbrev cX6_doubtfulTwo : ByteArray := prog_8_method_28_code
def yX6_doubtfulTwo : MethodName := ⟨RX6, "doubtfulTwo", "()I"⟩
abbrev cX6_isPossibleWithout : ByteArray := prog_8_method_29_code
def yX6_isPossibleWithout : MethodName := ⟨RX6, "isPossibleWithout", "(II)Z"⟩
def RX7 : String := "NamesUnder$Tape"
def TX7 : u_T := fun k => match k with
  | 0 => ("NamesUnder$Tape", "signs", "[C", true)
  | 1 => ("NamesUnder$Tape", "length", "I", false)
  | 2 => ("NamesUnder$Tape", "from", "I", false)
  | _ => ("NamesUnder$Tape", "upto", "I", false)
def tyX7 : Nat → FieldType := fun k => match k with
  | 0 => .array .char
  | 1 => .int
  | 2 => .int
  | _ => .int
abbrev wsX70 : List Cond := u_ws RX7 TX7 4
theorem nmX7 : ∀ a, a < 4 → ∀ b, b < 4 → a ≠ b → (TX7 a).2.1 ≠ (TX7 b).2.1 := by decide +kernel
theorem tyX7_ok : ∀ k, k < 4 → parseFieldDescriptor (TX7 k).2.2.1 = some (tyX7 k) := by decide +kernel
abbrev cX7_init : ByteArray := prog_9_method_1_code
def yX7_init : MethodName := ⟨RX7, "<init>", "()V"⟩
abbrev cX7_take : ByteArray := prog_9_method_2_code
def yX7_take : MethodName := ⟨RX7, "take", "(J)V"⟩
abbrev cX7_addSign : ByteArray := prog_9_method_3_code
def yX7_addSign : MethodName := ⟨RX7, "addSign", "(I)V"⟩
abbrev cX7_trim : ByteArray := prog_9_method_4_code
def yX7_trim : MethodName := ⟨RX7, "trim", "()V"⟩
abbrev cX7_isText : ByteArray := prog_9_method_5_code
def yX7_isText : MethodName := ⟨RX7, "isText", "(Z)Z"⟩
def RX8 : String := "NamesUnder$Wall"
def TX8 : u_T := fun k => match k with
  | 0 => ("NamesUnder$Wall", "told", "Z", false)
  | 1 => ("NamesUnder$Wall", "space", "I", false)
  | 2 => ("NamesUnder$Wall", "height", "I", false)
  | 3 => ("NamesUnder$Wall", "sort", "I", false)
  | 4 => ("NamesUnder$Wall", "grammar", "I", false)
  | 5 => ("NamesUnder$Wall", "size", "I", false)
  | 6 => ("NamesUnder$Wall", "hand", "[I", true)
  | 7 => ("NamesUnder$Wall", "doing", "[I", true)
  | 8 => ("NamesUnder$Wall", "name", "[I", true)
  | 9 => ("NamesUnder$Wall", "traceSize", "[I", true)
  | _ => ("NamesUnder$Wall", "trace", "[C", true)
def tyX8 : Nat → FieldType := fun k => match k with
  | 0 => .boolean
  | 1 => .int
  | 2 => .int
  | 3 => .int
  | 4 => .int
  | 5 => .int
  | 6 => .array .int
  | 7 => .array .int
  | 8 => .array .int
  | 9 => .array .int
  | _ => .array .char
abbrev wsX80 : List Cond := u_ws RX8 TX8 11
theorem nmX8 : ∀ a, a < 11 → ∀ b, b < 11 → a ≠ b → (TX8 a).2.1 ≠ (TX8 b).2.1 := by decide +kernel
theorem tyX8_ok : ∀ k, k < 11 → parseFieldDescriptor (TX8 k).2.2.1 = some (tyX8 k) := by decide +kernel
abbrev cX8_init : ByteArray := prog_10_method_1_code
def yX8_init : MethodName := ⟨RX8, "<init>", "()V"⟩
abbrev cX8_tell : ByteArray := prog_10_method_2_code
def yX8_tell : MethodName := ⟨RX8, "tell", "(IIII)V"⟩
abbrev cX8_canLie : ByteArray := prog_10_method_3_code
def yX8_canLie : MethodName := ⟨RX8, "canLie", "(II)Z"⟩
abbrev cX8_canBeMended : ByteArray := prog_10_method_4_code
def yX8_canBeMended : MethodName := ⟨RX8, "canBeMended", "(I)Z"⟩
abbrev cX8_add : ByteArray := prog_10_method_5_code
def yX8_add : MethodName := ⟨RX8, "add", "(III)V"⟩
abbrev cX8_removeTop : ByteArray := prog_10_method_6_code
def yX8_removeTop : MethodName := ⟨RX8, "removeTop", "()V"⟩
abbrev cX8_hasOutOver : ByteArray := prog_10_method_7_code
def yX8_hasOutOver : MethodName := ⟨RX8, "hasOutOver", "(I)Z"⟩
abbrev cX8_tellTraces : ByteArray := prog_10_method_8_code
def yX8_tellTraces : MethodName := ⟨RX8, "tellTraces", "(ILNamesUnder$Tape;)V"⟩
abbrev cX8_isErasedBy : ByteArray := prog_10_method_9_code
def yX8_isErasedBy : MethodName := ⟨RX8, "isErasedBy", "(II)Z"⟩
abbrev cX8_bears : ByteArray := prog_10_method_10_code
def yX8_bears : MethodName := ⟨RX8, "bears", "(I)Z"⟩
def RX9 : String := "NamesUnder"
def TX9 : u_T := fun k => match k with
  | 0 => ("NamesUnder", "tape", "LNamesUnder$Tape;", true)
  | 1 => ("NamesUnder", "names", "LNamesUnder$NameList;", true)
  | 2 => ("NamesUnder", "walls", "[LNamesUnder$Wall;", true)
  | 3 => ("NamesUnder", "dates", "[I", true)
  | 4 => ("NamesUnder", "book", "LNamesUnder$StoryBook;", true)
  | 5 => ("NamesUnder", "orders", "[LNamesUnder$Order;", true)
  | 6 => ("NamesUnder", "reader", "LNamesUnder$OrderReader;", true)
  | 7 => ("NamesUnder", "run", "LNamesUnder$Run;", true)
  | _ => ("NamesUnder", "masonry", "LNamesUnder$Masonry;", true)
def tyX9 : Nat → FieldType := fun k => match k with
  | 0 => .object "NamesUnder$Tape"
  | 1 => .object "NamesUnder$NameList"
  | 2 => .array (.object "NamesUnder$Wall")
  | 3 => .array .int
  | 4 => .object "NamesUnder$StoryBook"
  | 5 => .array (.object "NamesUnder$Order")
  | 6 => .object "NamesUnder$OrderReader"
  | 7 => .object "NamesUnder$Run"
  | _ => .object "NamesUnder$Masonry"
abbrev wsX90 : List Cond := u_ws RX9 TX9 9
theorem nmX9 : ∀ a, a < 9 → ∀ b, b < 9 → a ≠ b → (TX9 a).2.1 ≠ (TX9 b).2.1 := by decide +kernel
theorem tyX9_ok : ∀ k, k < 9 → parseFieldDescriptor (TX9 k).2.2.1 = some (tyX9 k) := by decide +kernel
abbrev cX9_init : ByteArray := prog_1_method_1_code
def yX9_init : MethodName := ⟨RX9, "<init>", "()V"⟩
abbrev cX9_feed : ByteArray := prog_1_method_2_code
def yX9_feed : MethodName := ⟨RX9, "feed", "(JJJ)I"⟩
abbrev cX9_name : ByteArray := prog_1_method_3_code
def yX9_name : MethodName := ⟨RX9, "name", "(IIZ)I"⟩
abbrev cX9_known : ByteArray := prog_1_method_4_code
def yX9_known : MethodName := ⟨RX9, "known", "(II)I"⟩
abbrev cX9_alike : ByteArray := prog_1_method_5_code
def yX9_alike : MethodName := ⟨RX9, "alike", "(II)I"⟩
abbrev cX9_place : ByteArray := prog_1_method_6_code
def yX9_place : MethodName := ⟨RX9, "place", "(IIIII)Z"⟩
abbrev cX9_cut : ByteArray := prog_1_method_7_code
def yX9_cut : MethodName := ⟨RX9, "cut", "(IIII)I"⟩
abbrev cX9_clean : ByteArray := prog_1_method_8_code
def yX9_clean : MethodName := ⟨RX9, "clean", "(I)Z"⟩
abbrev cX9_traces : ByteArray := prog_1_method_9_code
def yX9_traces : MethodName := ⟨RX9, "traces", "(II)I"⟩
abbrev cX9_layer : ByteArray := prog_1_method_10_code
def yX9_layer : MethodName := ⟨RX9, "layer", "(III)I"⟩
abbrev cX9_fits : ByteArray := prog_1_method_11_code
def yX9_fits : MethodName := ⟨RX9, "fits", "(II)I"⟩
abbrev cX9_crowded : ByteArray := prog_1_method_12_code
def yX9_crowded : MethodName := ⟨RX9, "crowded", "(II)I"⟩
abbrev cX9_dated : ByteArray := prog_1_method_13_code
def yX9_dated : MethodName := ⟨RX9, "dated", "(II)Z"⟩
abbrev cX9_stories : ByteArray := prog_1_method_14_code
def yX9_stories : MethodName := ⟨RX9, "stories", "(I)I"⟩
abbrev cX9_story : ByteArray := prog_1_method_15_code
def yX9_story : MethodName := ⟨RX9, "story", "(II)I"⟩
abbrev cX9_odds : ByteArray := prog_1_method_16_code
def yX9_odds : MethodName := ⟨RX9, "odds", "(II)I"⟩
abbrev cX9_between : ByteArray := prog_1_method_17_code
def yX9_between : MethodName := ⟨RX9, "between", "(II)I"⟩
abbrev cX9_stood : ByteArray := prog_1_method_18_code
def yX9_stood : MethodName := ⟨RX9, "stood", "(II)I"⟩
abbrev cX9_next : ByteArray := prog_1_method_19_code
def yX9_next : MethodName := ⟨RX9, "next", "(I)I"⟩
abbrev cX9_doubt : ByteArray := prog_1_method_20_code
def yX9_doubt : MethodName := ⟨RX9, "doubt", "()I"⟩
abbrev cX9_order : ByteArray := prog_1_method_21_code
def yX9_order : MethodName := ⟨RX9, "order", "(I)I"⟩
abbrev cX9_works : ByteArray := prog_1_method_22_code
def yX9_works : MethodName := ⟨RX9, "works", "(IIZ)Z"⟩
abbrev cX9_ran : ByteArray := prog_1_method_23_code
def yX9_ran : MethodName := ⟨RX9, "ran", "(II)I"⟩
abbrev cX9_made : ByteArray := prog_1_method_24_code
def yX9_made : MethodName := ⟨RX9, "made", "(III)I"⟩
abbrev cX9_agrees : ByteArray := prog_1_method_25_code
def yX9_agrees : MethodName := ⟨RX9, "agrees", "(I)I"⟩
abbrev cX9_missed : ByteArray := prog_1_method_26_code
def yX9_missed : MethodName := ⟨RX9, "missed", "(I)I"⟩
abbrev cX9_far : ByteArray := prog_1_method_27_code
def yX9_far : MethodName := ⟨RX9, "far", "(III)I"⟩
abbrev cX9_block : ByteArray := prog_1_method_28_code
def yX9_block : MethodName := ⟨RX9, "block", "(ZIIII)Z"⟩
abbrev cX9_ways : ByteArray := prog_1_method_29_code
def yX9_ways : MethodName := ⟨RX9, "ways", "(I)I"⟩
abbrev cX9_back : ByteArray := prog_1_method_30_code
def yX9_back : MethodName := ⟨RX9, "back", "(I)I"⟩
abbrev cX9_count : ByteArray := prog_1_method_31_code
def yX9_count : MethodName := ⟨RX9, "count", "(I)I"⟩
abbrev cX9_tellName : ByteArray := prog_1_method_32_code
def yX9_tellName : MethodName := ⟨RX9, "tellName", "(IIZ)I"⟩
abbrev cX9_tellTraces : ByteArray := prog_1_method_33_code
def yX9_tellTraces : MethodName := ⟨RX9, "tellTraces", "(II)I"⟩
abbrev cX9_forgetFindings : ByteArray := prog_1_method_34_code
def yX9_forgetFindings : MethodName := ⟨RX9, "forgetFindings", "()V"⟩
abbrev cX9_highestDone : ByteArray := prog_1_method_35_code
def yX9_highestDone : MethodName := ⟨RX9, "highestDone", "(II)I"⟩
abbrev cX9_lowestLeft : ByteArray := prog_1_method_36_code
def yX9_lowestLeft : MethodName := ⟨RX9, "lowestLeft", "(I)I"⟩
abbrev cX9_sortsDone : ByteArray := prog_1_method_37_code
def yX9_sortsDone : MethodName := ⟨RX9, "sortsDone", "(II)I"⟩
abbrev cX9_sortsLeft : ByteArray := prog_1_method_38_code
def yX9_sortsLeft : MethodName := ⟨RX9, "sortsLeft", "(I)I"⟩
abbrev cX9_placesTold : ByteArray := prog_1_method_39_code
def yX9_placesTold : MethodName := ⟨RX9, "placesTold", "()I"⟩
abbrev cX9_cutsTold : ByteArray := prog_1_method_40_code
def yX9_cutsTold : MethodName := ⟨RX9, "cutsTold", "()I"⟩
abbrev cX9_linesTold : ByteArray := prog_1_method_41_code
def yX9_linesTold : MethodName := ⟨RX9, "linesTold", "()I"⟩
abbrev cX9_isPlace : ByteArray := prog_1_method_42_code
def yX9_isPlace : MethodName := ⟨RX9, "isPlace", "(I)Z"⟩
abbrev cX9_isCut : ByteArray := prog_1_method_43_code
def yX9_isCut : MethodName := ⟨RX9, "isCut", "(II)Z"⟩
abbrev cX9_isNameCut : ByteArray := prog_1_method_44_code
def yX9_isNameCut : MethodName := ⟨RX9, "isNameCut", "(II)Z"⟩
abbrev cX9_isBusyHand : ByteArray := prog_1_method_45_code
def yX9_isBusyHand : MethodName := ⟨RX9, "isBusyHand", "(I)Z"⟩
abbrev cX9_isBelow : ByteArray := prog_1_method_46_code
def yX9_isBelow : MethodName := ⟨RX9, "isBelow", "(II)Z"⟩
abbrev cX9_isErasure : ByteArray := prog_1_method_47_code
def yX9_isErasure : MethodName := ⟨RX9, "isErasure", "(I)Z"⟩
abbrev cX9_isLetter : ByteArray := prog_1_method_48_code
def yX9_isLetter : MethodName := ⟨RX9, "isLetter", "(C)Z"⟩
abbrev cX9_isDigit : ByteArray := prog_1_method_49_code
def yX9_isDigit : MethodName := ⟨RX9, "isDigit", "(C)Z"⟩
abbrev cX9_isBlank : ByteArray := prog_1_method_50_code
def yX9_isBlank : MethodName := ⟨RX9, "isBlank", "(C)Z"⟩
def RX10 : String := "NamesUnderModel"
def TX10 : u_T := fun k => match k with
  | 0 => ("NamesUnderModel", "thrown", "I", false)
  | 1 => ("NamesUnderModel", "tape", "[I", true)
  | 2 => ("NamesUnderModel", "taped", "I", false)
  | 3 => ("NamesUnderModel", "size", "I", false)
  | 4 => ("NamesUnderModel", "sort", "[I", true)
  | 5 => ("NamesUnderModel", "place", "[I", true)
  | 6 => ("NamesUnderModel", "value", "[J", true)
  | 7 => ("NamesUnderModel", "at", "I", false)
  | 8 => ("NamesUnderModel", "fault", "I", false)
  | 9 => ("NamesUnderModel", "words", "[J", true)
  | 10 => ("NamesUnderModel", "bareFrom", "I", false)
  | 11 => ("NamesUnderModel", "bareTo", "I", false)
  | 12 => ("NamesUnderModel", "isNamed", "[Z", true)
  | 13 => ("NamesUnderModel", "reignOf", "[I", true)
  | 14 => ("NamesUnderModel", "isShe", "[Z", true)
  | 15 => ("NamesUnderModel", "letters", "[I", true)
  | 16 => ("NamesUnderModel", "letter", "[I", true)
  | 17 => ("NamesUnderModel", "isPlaced", "[Z", true)
  | 18 => ("NamesUnderModel", "space", "[I", true)
  | 19 => ("NamesUnderModel", "height", "[I", true)
  | 20 => ("NamesUnderModel", "sortOf", "[I", true)
  | 21 => ("NamesUnderModel", "grammar", "[I", true)
  | 22 => ("NamesUnderModel", "cuts", "[I", true)
  | 23 => ("NamesUnderModel", "hand", "[I", true)
  | 24 => ("NamesUnderModel", "doing", "[I", true)
  | 25 => ("NamesUnderModel", "nameOn", "[I", true)
  | 26 => ("NamesUnderModel", "traced", "[I", true)
  | 27 => ("NamesUnderModel", "trace", "[I", true)
  | 28 => ("NamesUnderModel", "isChanged", "Z", false)
  | 29 => ("NamesUnderModel", "datedBy", "[I", true)
  | 30 => ("NamesUnderModel", "reigns", "[I", true)
  | 31 => ("NamesUnderModel", "hasCuts", "[Z", true)
  | 32 => ("NamesUnderModel", "storied", "I", false)
  | 33 => ("NamesUnderModel", "storyOf", "[I", true)
  | 34 => ("NamesUnderModel", "leftOut", "I", false)
  | 35 => ("NamesUnderModel", "lines", "[I", true)
  | 36 => ("NamesUnderModel", "lineDo", "[I", true)
  | 37 => ("NamesUnderModel", "lineName", "[I", true)
  | 38 => ("NamesUnderModel", "lineAt", "[I", true)
  | 39 => ("NamesUnderModel", "codes", "I", false)
  | 40 => ("NamesUnderModel", "op", "[I", true)
  | 41 => ("NamesUnderModel", "one", "[I", true)
  | 42 => ("NamesUnderModel", "facts", "[I", true)
  | 43 => ("NamesUnderModel", "pile", "[I", true)
  | 44 => ("NamesUnderModel", "ladder", "[I", true)
  | 45 => ("NamesUnderModel", "canRead", "[Z", true)
  | 46 => ("NamesUnderModel", "madeMany", "[I", true)
  | 47 => ("NamesUnderModel", "madeHand", "[I", true)
  | 48 => ("NamesUnderModel", "madeDoing", "[I", true)
  | 49 => ("NamesUnderModel", "madeName", "[I", true)
  | 50 => ("NamesUnderModel", "slips", "I", false)
  | 51 => ("NamesUnderModel", "isBlock", "[Z", true)
  | 52 => ("NamesUnderModel", "leftEdge", "[I", true)
  | 53 => ("NamesUnderModel", "rightEdge", "[I", true)
  | 54 => ("NamesUnderModel", "course", "[I", true)
  | 55 => ("NamesUnderModel", "gapOf", "[I", true)
  | 56 => ("NamesUnderModel", "ways", "I", false)
  | _ => ("NamesUnderModel", "inGaps", "[I", true)
def tyX10 : Nat → FieldType := fun k => match k with
  | 0 => .int
  | 1 => .array .int
  | 2 => .int
  | 3 => .int
  | 4 => .array .int
  | 5 => .array .int
  | 6 => .array .long
  | 7 => .int
  | 8 => .int
  | 9 => .array .long
  | 10 => .int
  | 11 => .int
  | 12 => .array .boolean
  | 13 => .array .int
  | 14 => .array .boolean
  | 15 => .array .int
  | 16 => .array .int
  | 17 => .array .boolean
  | 18 => .array .int
  | 19 => .array .int
  | 20 => .array .int
  | 21 => .array .int
  | 22 => .array .int
  | 23 => .array .int
  | 24 => .array .int
  | 25 => .array .int
  | 26 => .array .int
  | 27 => .array .int
  | 28 => .boolean
  | 29 => .array .int
  | 30 => .array .int
  | 31 => .array .boolean
  | 32 => .int
  | 33 => .array .int
  | 34 => .int
  | 35 => .array .int
  | 36 => .array .int
  | 37 => .array .int
  | 38 => .array .int
  | 39 => .int
  | 40 => .array .int
  | 41 => .array .int
  | 42 => .array .int
  | 43 => .array .int
  | 44 => .array .int
  | 45 => .array .boolean
  | 46 => .array .int
  | 47 => .array .int
  | 48 => .array .int
  | 49 => .array .int
  | 50 => .int
  | 51 => .array .boolean
  | 52 => .array .int
  | 53 => .array .int
  | 54 => .array .int
  | 55 => .array .int
  | 56 => .int
  | _ => .array .int
abbrev wsX100 : List Cond := u_ws RX10 TX10 58
theorem nmX10 : ∀ a, a < 58 → ∀ b, b < 58 → a ≠ b → (TX10 a).2.1 ≠ (TX10 b).2.1 := by decide +kernel
theorem tyX10_ok : ∀ k, k < 58 → parseFieldDescriptor (TX10 k).2.2.1 = some (tyX10 k) := by decide +kernel
abbrev cX10_feed : ByteArray := prog_12_method_2_code
def yX10_feed : MethodName := ⟨RX10, "feed", "(JJJ)I"⟩
abbrev cX10_lay : ByteArray := prog_12_method_3_code
def yX10_lay : MethodName := ⟨RX10, "lay", "(J)V"⟩
abbrev cX10_init : ByteArray := prog_12_method_4_code
def yX10_init : MethodName := ⟨RX10, "<init>", "()V"⟩
abbrev cX10_isLetter : ByteArray := prog_12_method_5_code
def yX10_isLetter : MethodName := ⟨RX10, "isLetter", "(I)Z"⟩
abbrev cX10_isDigit : ByteArray := prog_12_method_6_code
def yX10_isDigit : MethodName := ⟨RX10, "isDigit", "(I)Z"⟩
abbrev cX10_rank : ByteArray := prog_12_method_7_code
def yX10_rank : MethodName := ⟨RX10, "rank", "(I)I"⟩
abbrev cX10_isSignOf : ByteArray := prog_12_method_8_code
def yX10_isSignOf : MethodName := ⟨RX10, "isSignOf", "(I)Z"⟩
abbrev cX10_cutAll : ByteArray := prog_12_method_9_code
def yX10_cutAll : MethodName := ⟨RX10, "cutAll", "()V"⟩
abbrev cX10_wrong : ByteArray := prog_12_method_10_code
def yX10_wrong : MethodName := ⟨RX10, "wrong", "(I)V"⟩
abbrev cX10_isSign : ByteArray := prog_12_method_11_code
def yX10_isSign : MethodName := ⟨RX10, "isSign", "(I)Z"⟩
abbrev cX10_isWord : ByteArray := prog_12_method_12_code
def yX10_isWord : MethodName := ⟨RX10, "isWord", "(I)Z"⟩
abbrev cX10_takeSign : ByteArray := prog_12_method_13_code
def yX10_takeSign : MethodName := ⟨RX10, "takeSign", "(I)V"⟩
abbrev cX10_hasSign : ByteArray := prog_12_method_14_code
def yX10_hasSign : MethodName := ⟨RX10, "hasSign", "(I)Z"⟩
abbrev cX10_hasWord : ByteArray := prog_12_method_15_code
def yX10_hasWord : MethodName := ⟨RX10, "hasWord", "(I)Z"⟩
abbrev cX10_takeWord : ByteArray := prog_12_method_16_code
def yX10_takeWord : MethodName := ⟨RX10, "takeWord", "(I)V"⟩
abbrev cX10_isBlank : ByteArray := prog_12_method_17_code
def yX10_isBlank : MethodName := ⟨RX10, "isBlank", "(I)Z"⟩
abbrev cX10_bares : ByteArray := prog_12_method_18_code
def yX10_bares : MethodName := ⟨RX10, "bares", "()V"⟩
abbrev cX10_areLetters : ByteArray := prog_12_method_19_code
def yX10_areLetters : MethodName := ⟨RX10, "areLetters", "(Z)Z"⟩
abbrev cX10_within : ByteArray := prog_12_method_20_code
def yX10_within : MethodName := ⟨RX10, "within", "(III)Z"⟩
abbrev cX10_isName : ByteArray := prog_12_method_21_code
def yX10_isName : MethodName := ⟨RX10, "isName", "(I)Z"⟩
abbrev cX10_isTaped : ByteArray := prog_12_method_22_code
def yX10_isTaped : MethodName := ⟨RX10, "isTaped", "(I)Z"⟩
abbrev cX10_name : ByteArray := prog_12_method_23_code
def yX10_name : MethodName := ⟨RX10, "name", "(IIZ)I"⟩
abbrev cX10_widthOf : ByteArray := prog_12_method_24_code
def yX10_widthOf : MethodName := ⟨RX10, "widthOf", "(I)I"⟩
abbrev cX10_width : ByteArray := prog_12_method_25_code
def yX10_width : MethodName := ⟨RX10, "width", "(I)I"⟩
abbrev cX10_known : ByteArray := prog_12_method_26_code
def yX10_known : MethodName := ⟨RX10, "known", "(II)I"⟩
abbrev cX10_isWithout : ByteArray := prog_12_method_27_code
def yX10_isWithout : MethodName := ⟨RX10, "isWithout", "(III)Z"⟩
abbrev cX10_areAlike : ByteArray := prog_12_method_28_code
def yX10_areAlike : MethodName := ⟨RX10, "areAlike", "(II)Z"⟩
abbrev cX10_alike : ByteArray := prog_12_method_29_code
def yX10_alike : MethodName := ⟨RX10, "alike", "(II)I"⟩
abbrev cX10_isPlace : ByteArray := prog_12_method_30_code
def yX10_isPlace : MethodName := ⟨RX10, "isPlace", "(I)Z"⟩
abbrev cX10_place : ByteArray := prog_12_method_31_code
def yX10_place : MethodName := ⟨RX10, "place", "(IIIII)Z"⟩
abbrev cX10_names : ByteArray := prog_12_method_32_code
def yX10_names : MethodName := ⟨RX10, "names", "(I)Z"⟩
abbrev cX10_lies : ByteArray := prog_12_method_33_code
def yX10_lies : MethodName := ⟨RX10, "lies", "(II)Z"⟩
abbrev cX10_cut : ByteArray := prog_12_method_34_code
def yX10_cut : MethodName := ⟨RX10, "cut", "(IIII)I"⟩
abbrev cX10_clean : ByteArray := prog_12_method_35_code
def yX10_clean : MethodName := ⟨RX10, "clean", "(I)Z"⟩
abbrev cX10_isCut : ByteArray := prog_12_method_36_code
def yX10_isCut : MethodName := ⟨RX10, "isCut", "(II)Z"⟩
abbrev cX10_isNaming : ByteArray := prog_12_method_37_code
def yX10_isNaming : MethodName := ⟨RX10, "isNaming", "(II)Z"⟩
abbrev cX10_traces : ByteArray := prog_12_method_38_code
def yX10_traces : MethodName := ⟨RX10, "traces", "(II)I"⟩
abbrev cX10_layer : ByteArray := prog_12_method_39_code
def yX10_layer : MethodName := ⟨RX10, "layer", "(III)I"⟩
abbrev cX10_doesFit : ByteArray := prog_12_method_40_code
def yX10_doesFit : MethodName := ⟨RX10, "doesFit", "(III)Z"⟩
abbrev cX10_fits : ByteArray := prog_12_method_41_code
def yX10_fits : MethodName := ⟨RX10, "fits", "(II)I"⟩
abbrev cX10_crowded : ByteArray := prog_12_method_42_code
def yX10_crowded : MethodName := ⟨RX10, "crowded", "(II)I"⟩
abbrev cX10_dated : ByteArray := prog_12_method_43_code
def yX10_dated : MethodName := ⟨RX10, "dated", "(II)Z"⟩
abbrev cX10_cutsOf : ByteArray := prog_12_method_44_code
def yX10_cutsOf : MethodName := ⟨RX10, "cutsOf", "(I)I"⟩
abbrev cX10_isThere : ByteArray := prog_12_method_45_code
def yX10_isThere : MethodName := ⟨RX10, "isThere", "(IIII)Z"⟩
abbrev cX10_lets : ByteArray := prog_12_method_46_code
def yX10_lets : MethodName := ⟨RX10, "lets", "(II)Z"⟩
abbrev cX10_letsAll : ByteArray := prog_12_method_47_code
def yX10_letsAll : MethodName := ⟨RX10, "letsAll", "()Z"⟩
abbrev cX10_tells : ByteArray := prog_12_method_48_code
def yX10_tells : MethodName := ⟨RX10, "tells", "(IZ)V"⟩
abbrev cX10_beginsStories : ByteArray := prog_12_method_49_code
def yX10_beginsStories : MethodName := ⟨RX10, "beginsStories", "(I)V"⟩
abbrev cX10_findStories : ByteArray := prog_12_method_50_code
def yX10_findStories : MethodName := ⟨RX10, "findStories", "()V"⟩
abbrev cX10_reignIn : ByteArray := prog_12_method_51_code
def yX10_reignIn : MethodName := ⟨RX10, "reignIn", "(II)I"⟩
abbrev cX10_isHand : ByteArray := prog_12_method_52_code
def yX10_isHand : MethodName := ⟨RX10, "isHand", "(I)Z"⟩
abbrev cX10_countOf : ByteArray := prog_12_method_53_code
def yX10_countOf : MethodName := ⟨RX10, "countOf", "(II)I"⟩
abbrev cX10_stories : ByteArray := prog_12_method_54_code
def yX10_stories : MethodName := ⟨RX10, "stories", "(I)I"⟩
abbrev cX10_story : ByteArray := prog_12_method_55_code
def yX10_story : MethodName := ⟨RX10, "story", "(II)I"⟩
abbrev cX10_odds : ByteArray := prog_12_method_56_code
def yX10_odds : MethodName := ⟨RX10, "odds", "(II)I"⟩
abbrev cX10_between : ByteArray := prog_12_method_57_code
def yX10_between : MethodName := ⟨RX10, "between", "(II)I"⟩
abbrev cX10_stood : ByteArray := prog_12_method_58_code
def yX10_stood : MethodName := ⟨RX10, "stood", "(II)I"⟩
abbrev cX10_next : ByteArray := prog_12_method_59_code
def yX10_next : MethodName := ⟨RX10, "next", "(I)I"⟩
abbrev cX10_hasStory : ByteArray := prog_12_method_60_code
def yX10_hasStory : MethodName := ⟨RX10, "hasStory", "(I)Z"⟩
abbrev cX10_doubt : ByteArray := prog_12_method_61_code
def yX10_doubt : MethodName := ⟨RX10, "doubt", "()I"⟩
abbrev cX10_emit : ByteArray := prog_12_method_62_code
def yX10_emit : MethodName := ⟨RX10, "emit", "(II)V"⟩
abbrev cX10_order : ByteArray := prog_12_method_63_code
def yX10_order : MethodName := ⟨RX10, "order", "(I)I"⟩
abbrev cX10_readLine : ByteArray := prog_12_method_64_code
def yX10_readLine : MethodName := ⟨RX10, "readLine", "()V"⟩
abbrev cX10_all : ByteArray := prog_12_method_65_code
def yX10_all : MethodName := ⟨RX10, "all", "(I)V"⟩
abbrev cX10_test : ByteArray := prog_12_method_66_code
def yX10_test : MethodName := ⟨RX10, "test", "(I)V"⟩
abbrev cX10_sums : ByteArray := prog_12_method_67_code
def yX10_sums : MethodName := ⟨RX10, "sums", "(I)V"⟩
abbrev cX10_products : ByteArray := prog_12_method_68_code
def yX10_products : MethodName := ⟨RX10, "products", "(I)V"⟩
abbrev cX10_takePart : ByteArray := prog_12_method_69_code
def yX10_takePart : MethodName := ⟨RX10, "takePart", "(I)V"⟩
abbrev cX10_worth : ByteArray := prog_12_method_70_code
def yX10_worth : MethodName := ⟨RX10, "worth", "(I)I"⟩
abbrev cX10_both : ByteArray := prog_12_method_71_code
def yX10_both : MethodName := ⟨RX10, "both", "(III)I"⟩
abbrev cX10_works : ByteArray := prog_12_method_72_code
def yX10_works : MethodName := ⟨RX10, "works", "(IIZ)Z"⟩
abbrev cX10_lays : ByteArray := prog_12_method_73_code
def yX10_lays : MethodName := ⟨RX10, "lays", "(IIII)V"⟩
abbrev cX10_standing : ByteArray := prog_12_method_74_code
def yX10_standing : MethodName := ⟨RX10, "standing", "(I)I"⟩
abbrev cX10_findFacts : ByteArray := prog_12_method_75_code
def yX10_findFacts : MethodName := ⟨RX10, "findFacts", "(I)V"⟩
abbrev cX10_canDo : ByteArray := prog_12_method_76_code
def yX10_canDo : MethodName := ⟨RX10, "canDo", "(III)Z"⟩
abbrev cX10_does : ByteArray := prog_12_method_77_code
def yX10_does : MethodName := ⟨RX10, "does", "(II)V"⟩
abbrev cX10_runs : ByteArray := prog_12_method_78_code
def yX10_runs : MethodName := ⟨RX10, "runs", "(I)V"⟩
abbrev cX10_ran : ByteArray := prog_12_method_79_code
def yX10_ran : MethodName := ⟨RX10, "ran", "(II)I"⟩
abbrev cX10_made : ByteArray := prog_12_method_80_code
def yX10_made : MethodName := ⟨RX10, "made", "(III)I"⟩
abbrev cX10_doesAgree : ByteArray := prog_12_method_81_code
def yX10_doesAgree : MethodName := ⟨RX10, "doesAgree", "(I)Z"⟩
abbrev cX10_agrees : ByteArray := prog_12_method_82_code
def yX10_agrees : MethodName := ⟨RX10, "agrees", "(I)I"⟩
abbrev cX10_missed : ByteArray := prog_12_method_83_code
def yX10_missed : MethodName := ⟨RX10, "missed", "(I)I"⟩
abbrev cX10_far : ByteArray := prog_12_method_84_code
def yX10_far : MethodName := ⟨RX10, "far", "(III)I"⟩
abbrev cX10_block : ByteArray := prog_12_method_85_code
def yX10_block : MethodName := ⟨RX10, "block", "(ZIIII)Z"⟩
abbrev cX10_doesLie : ByteArray := prog_12_method_86_code
def yX10_doesLie : MethodName := ⟨RX10, "doesLie", "(II)Z"⟩
abbrev cX10_fills : ByteArray := prog_12_method_87_code
def yX10_fills : MethodName := ⟨RX10, "fills", "(II)V"⟩
abbrev cX10_findWays : ByteArray := prog_12_method_88_code
def yX10_findWays : MethodName := ⟨RX10, "findWays", "()V"⟩
abbrev cX10_ways : ByteArray := prog_12_method_89_code
def yX10_ways : MethodName := ⟨RX10, "ways", "(I)I"⟩
abbrev cX10_back : ByteArray := prog_12_method_90_code
def yX10_back : MethodName := ⟨RX10, "back", "(I)I"⟩
abbrev cX10_count : ByteArray := prog_12_method_91_code
def yX10_count : MethodName := ⟨RX10, "count", "(I)I"⟩
def RJx145de : String := "java/io/Serializable"
def TJx145de : u_T := fun k => match k with
  | _ => ("", "", "", false)
def tyJx145de : Nat → FieldType := fun k => match k with
  | _ => .int
abbrev wsJx145de0 : List Cond := u_ws RJx145de TJx145de 0
theorem nmJx145de : ∀ a, a < 0 → ∀ b, b < 0 → a ≠ b → (TJx145de a).2.1 ≠ (TJx145de b).2.1 := by decide +kernel
theorem tyJx145de_ok : ∀ k, k < 0 → parseFieldDescriptor (TJx145de k).2.2.1 = some (tyJx145de k) := by decide +kernel
def RJx9f9b0 : String := "java/lang/CharSequence"
def TJx9f9b0 : u_T := fun k => match k with
  | _ => ("", "", "", false)
def tyJx9f9b0 : Nat → FieldType := fun k => match k with
  | _ => .int
abbrev wsJx9f9b00 : List Cond := u_ws RJx9f9b0 TJx9f9b0 0
theorem nmJx9f9b0 : ∀ a, a < 0 → ∀ b, b < 0 → a ≠ b → (TJx9f9b0 a).2.1 ≠ (TJx9f9b0 b).2.1 := by decide +kernel
theorem tyJx9f9b0_ok : ∀ k, k < 0 → parseFieldDescriptor (TJx9f9b0 k).2.2.1 = some (tyJx9f9b0 k) := by decide +kernel
def RJxb160c : String := "java/lang/Comparable"
def TJxb160c : u_T := fun k => match k with
  | _ => ("", "", "", false)
def tyJxb160c : Nat → FieldType := fun k => match k with
  | _ => .int
abbrev wsJxb160c0 : List Cond := u_ws RJxb160c TJxb160c 0
theorem nmJxb160c : ∀ a, a < 0 → ∀ b, b < 0 → a ≠ b → (TJxb160c a).2.1 ≠ (TJxb160c b).2.1 := by decide +kernel
theorem tyJxb160c_ok : ∀ k, k < 0 → parseFieldDescriptor (TJxb160c k).2.2.1 = some (tyJxb160c k) := by decide +kernel
def RJ6 : String := "java/lang/Integer"
def TJ6 : u_T := fun k => match k with
  | _ => ("", "", "", false)
def tyJ6 : Nat → FieldType := fun k => match k with
  | _ => .int
abbrev wsJ60 : List Cond := u_ws RJ6 TJ6 0
theorem nmJ6 : ∀ a, a < 0 → ∀ b, b < 0 → a ≠ b → (TJ6 a).2.1 ≠ (TJ6 b).2.1 := by decide +kernel
theorem tyJ6_ok : ∀ k, k < 0 → parseFieldDescriptor (TJ6 k).2.2.1 = some (tyJ6 k) := by decide +kernel
abbrev cJ6_bitCount_0f7a4 : ByteArray := prog_17_method_49_code
def yJ6_bitCount_0f7a4 : MethodName := ⟨RJ6, "bitCount", "(I)I"⟩
def RJ9 : String := "java/lang/Math"
def TJ9 : u_T := fun k => match k with
  | _ => ("", "", "", false)
def tyJ9 : Nat → FieldType := fun k => match k with
  | _ => .int
abbrev wsJ90 : List Cond := u_ws RJ9 TJ9 0
theorem nmJ9 : ∀ a, a < 0 → ∀ b, b < 0 → a ≠ b → (TJ9 a).2.1 ≠ (TJ9 b).2.1 := by decide +kernel
theorem tyJ9_ok : ∀ k, k < 0 → parseFieldDescriptor (TJ9 k).2.2.1 = some (tyJ9 k) := by decide +kernel
abbrev cJ9_max_7cf53 : ByteArray := prog_18_method_65_code
def yJ9_max_7cf53 : MethodName := ⟨RJ9, "max", "(II)I"⟩
abbrev cJ9_min_7cf53 : ByteArray := prog_18_method_69_code
def yJ9_min_7cf53 : MethodName := ⟨RJ9, "min", "(II)I"⟩
def RJ0 : String := "java/lang/String"
def TJ0 : u_T := fun k => match k with
  | _ => ("", "", "", false)
def tyJ0 : Nat → FieldType := fun k => match k with
  | _ => .int
abbrev wsJ00 : List Cond := u_ws RJ0 TJ0 0
theorem nmJ0 : ∀ a, a < 0 → ∀ b, b < 0 → a ≠ b → (TJ0 a).2.1 ≠ (TJ0 b).2.1 := by decide +kernel
theorem tyJ0_ok : ∀ k, k < 0 → parseFieldDescriptor (TJ0 k).2.2.1 = some (tyJ0 k) := by decide +kernel
abbrev cJ0_charAt_5068e : ByteArray := prog_20_method_56_code
def yJ0_charAt_5068e : MethodName := ⟨RJ0, "charAt", "(I)C"⟩
abbrev cJ0_isLatin1_aae02 : ByteArray := prog_20_method_154_code
def yJ0_isLatin1_aae02 : MethodName := ⟨RJ0, "isLatin1", "()Z"⟩
abbrev cJ0_checkIndex_df160 : ByteArray := prog_20_method_155_code
def yJ0_checkIndex_df160 : MethodName := ⟨RJ0, "checkIndex", "(II)V"⟩
def RJ1 : String := "java/lang/StringLatin1"
def TJ1 : u_T := fun k => match k with
  | _ => ("", "", "", false)
def tyJ1 : Nat → FieldType := fun k => match k with
  | _ => .int
abbrev wsJ10 : List Cond := u_ws RJ1 TJ1 0
theorem nmJ1 : ∀ a, a < 0 → ∀ b, b < 0 → a ≠ b → (TJ1 a).2.1 ≠ (TJ1 b).2.1 := by decide +kernel
theorem tyJ1_ok : ∀ k, k < 0 → parseFieldDescriptor (TJ1 k).2.2.1 = some (tyJ1 k) := by decide +kernel
abbrev cJ1_charAt_3b067 : ByteArray := prog_21_method_2_code
def yJ1_charAt_3b067 : MethodName := ⟨RJ1, "charAt", "([BI)C"⟩
def RJ2 : String := "java/lang/StringUTF16"
def TJ2 : u_T := fun k => match k with
  | _ => ("", "", "", false)
def tyJ2 : Nat → FieldType := fun k => match k with
  | _ => .int
abbrev wsJ20 : List Cond := u_ws RJ2 TJ2 0
theorem nmJ2 : ∀ a, a < 0 → ∀ b, b < 0 → a ≠ b → (TJ2 a).2.1 ≠ (TJ2 b).2.1 := by decide +kernel
theorem tyJ2_ok : ∀ k, k < 0 → parseFieldDescriptor (TJ2 k).2.2.1 = some (tyJ2 k) := by decide +kernel
abbrev cJ2_getChar_3b067 : ByteArray := prog_22_method_5_code
def yJ2_getChar_3b067 : MethodName := ⟨RJ2, "getChar", "([BI)C"⟩
abbrev cJ2_length_9d52b : ByteArray := prog_22_method_6_code
def yJ2_length_9d52b : MethodName := ⟨RJ2, "length", "([B)I"⟩
abbrev cJ2_charAt_3b067 : ByteArray := prog_22_method_83_code
def yJ2_charAt_3b067 : MethodName := ⟨RJ2, "charAt", "([BI)C"⟩
abbrev cJ2_checkIndex_2214a : ByteArray := prog_22_method_91_code
def yJ2_checkIndex_2214a : MethodName := ⟨RJ2, "checkIndex", "(I[B)V"⟩
def RJ10 : String := "java/lang/System"
def TJ10 : u_T := fun k => match k with
  | _ => ("", "", "", false)
def tyJ10 : Nat → FieldType := fun k => match k with
  | _ => .int
abbrev wsJ100 : List Cond := u_ws RJ10 TJ10 0
theorem nmJ10 : ∀ a, a < 0 → ∀ b, b < 0 → a ≠ b → (TJ10 a).2.1 ≠ (TJ10 b).2.1 := by decide +kernel
theorem tyJ10_ok : ∀ k, k < 0 → parseFieldDescriptor (TJ10 k).2.2.1 = some (tyJ10 k) := by decide +kernel
def RJxfd54e : String := "java/lang/constant/Constable"
def TJxfd54e : u_T := fun k => match k with
  | _ => ("", "", "", false)
def tyJxfd54e : Nat → FieldType := fun k => match k with
  | _ => .int
abbrev wsJxfd54e0 : List Cond := u_ws RJxfd54e TJxfd54e 0
theorem nmJxfd54e : ∀ a, a < 0 → ∀ b, b < 0 → a ≠ b → (TJxfd54e a).2.1 ≠ (TJxfd54e b).2.1 := by decide +kernel
theorem tyJxfd54e_ok : ∀ k, k < 0 → parseFieldDescriptor (TJxfd54e k).2.2.1 = some (tyJxfd54e k) := by decide +kernel
def RJx3cf43 : String := "java/lang/constant/ConstantDesc"
def TJx3cf43 : u_T := fun k => match k with
  | _ => ("", "", "", false)
def tyJx3cf43 : Nat → FieldType := fun k => match k with
  | _ => .int
abbrev wsJx3cf430 : List Cond := u_ws RJx3cf43 TJx3cf43 0
theorem nmJx3cf43 : ∀ a, a < 0 → ∀ b, b < 0 → a ≠ b → (TJx3cf43 a).2.1 ≠ (TJx3cf43 b).2.1 := by decide +kernel
theorem tyJx3cf43_ok : ∀ k, k < 0 → parseFieldDescriptor (TJx3cf43 k).2.2.1 = some (tyJx3cf43 k) := by decide +kernel
def RJ3 : String := "jdk/internal/util/Preconditions"
def TJ3 : u_T := fun k => match k with
  | _ => ("", "", "", false)
def tyJ3 : Nat → FieldType := fun k => match k with
  | _ => .int
abbrev wsJ30 : List Cond := u_ws RJ3 TJ3 0
theorem nmJ3 : ∀ a, a < 0 → ∀ b, b < 0 → a ≠ b → (TJ3 a).2.1 ≠ (TJ3 b).2.1 := by decide +kernel
theorem tyJ3_ok : ∀ k, k < 0 → parseFieldDescriptor (TJ3 k).2.2.1 = some (tyJ3 k) := by decide +kernel
abbrev cJ3_checkIndex_8e157 : ByteArray := prog_28_method_11_code
def yJ3_checkIndex_8e157 : MethodName := ⟨RJ3, "checkIndex", "(IILjava/util/function/BiFunction;)I"⟩
def RL : String := "NamesUnderLaw"
abbrev cL_layer : ByteArray := method_3_code
def yL_layer : MethodName := ⟨RL, "layer", "(LNamesUnder;III[J)I"⟩
abbrev cL_law : ByteArray := code
def yL_law : MethodName := ⟨RL, "law", "([I)Z"⟩
abbrev vwCl : List vw_C := [(RX1, TX1, 7), (RX2, TX2, 6), (RX3, TX3, 7), (RX4, TX4, 12), (RX5, TX5, 14), (RX6, TX6, 19), (RX7, TX7, 4), (RX8, TX8, 11), (RX9, TX9, 9), (RX10, TX10, 58)]
end
section
/-! A machine of values that are known: lists of cells, tokens for what the script holds; run by the kernel. Its steps are the machine's (zx_sound below). -/
abbrev ZL : Type := List (Nat × Value)
abbrev ZE : Type := (Nat × Nat × ZL) ⊕ (Nat × List Value)
abbrev ZS : Type := Nat × ZL × List Value × List ZE × Nat × Nat
abbrev ZX : Type := Except (Nat × Int) ZS
abbrev ZN : Type := List (Int × Int)
def zfail : ZX := .error (1000000, 0)
noncomputable def zn {α : Type} (n : Nat) (k : Nat → α) : α := Nat.rec (motive := fun _ => α) (k 0) (fun m _ => k (m + 1)) n
theorem zn_eq {α : Type} (n : Nat) (k : Nat → α) : zn n k = k n := by cases n <;> rfl
noncomputable def zi {α : Type} (x : Int32) (k : Int32 → α) : α := zn x.toUInt32.toNat (fun n => k (UInt32.ofNat n).toInt32)
theorem zi_eq {α : Type} (x : Int32) (k : Int32 → α) : zi x k = k x := by
  unfold zi
  rw [zn_eq]
  congr 1
  simp
noncomputable def zget {α : Type} (l : List α) : Nat → Option α := List.rec (motive := fun _ => Nat → Option α) (fun _ => none) (fun a _ ih i => Nat.rec (motive := fun _ => Option α) (some a) (fun m _ => ih m) i) l
theorem zget_eq {α : Type} (l : List α) (i : Nat) : zget l i = l[i]? := by
  induction l generalizing i with
  | nil => rfl
  | cons a r ih =>
    cases i with
    | zero => rfl
    | succ m => exact (ih m).trans (by simp)
noncomputable def zsk {α β : Type} (l : List α) (v : α) : Nat → (List α → β) → β := List.rec (motive := fun _ => Nat → (List α → β) → β) (fun _ k => k []) (fun a r ih i k => Nat.rec (motive := fun _ => β) (k (v :: r)) (fun m _ => ih m (fun r' => k (a :: r'))) i) l
theorem zsk_eq {α β : Type} (l : List α) (v : α) (i : Nat) (k : List α → β) : zsk l v i k = k (l.set i v) := by
  induction l generalizing i k with
  | nil => rfl
  | cons a r ih =>
    cases i with
    | zero => rfl
    | succ m => exact (ih m (fun r' => k (a :: r'))).trans (by simp)
noncomputable def zfl {α β : Type} (l : List α) : (List α → β) → β := List.rec (motive := fun _ => (List α → β) → β) (fun k => k []) (fun a _ ih k => ih (fun r => k (a :: r))) l
theorem zfl_eq {α β : Type} (l : List α) (k : List α → β) : zfl l k = k l := by
  induction l generalizing k with
  | nil => rfl
  | cons a r ih => exact ih (fun r => k (a :: r))
noncomputable def zap {α β : Type} (l : List α) (v : α) : (List α → β) → β := List.rec (motive := fun _ => (List α → β) → β) (fun k => k [v]) (fun a _ ih k => ih (fun r => k (a :: r))) l
theorem zap_eq {α β : Type} (l : List α) (v : α) (k : List α → β) : zap l v k = k (l ++ [v]) := by
  induction l generalizing k with
  | nil => rfl
  | cons a r ih => exact ih (fun r => k (a :: r))
noncomputable def zlk (l : ZL) (i : Nat) : Option Value := List.rec (motive := fun _ => Option Value) none (fun p _ ih => cond (Nat.beq p.1 i) (some p.2) ih) l
theorem zlk_cons (p : Nat × Value) (l : ZL) (i : Nat) : zlk (p :: l) i = if p.1 = i then some p.2 else zlk l i := by
  show cond (Nat.beq p.1 i) (some p.2) (zlk l i) = _
  by_cases h : p.1 = i
  · rw [if_pos h, show Nat.beq p.1 i = true from Nat.beq_eq.mpr h]
    rfl
  · rw [if_neg h]
    cases hb : Nat.beq p.1 i with
    | true => exact absurd (Nat.beq_eq.mp hb) h
    | false => rfl
theorem zlk_at {l : ZL} {i : Nat} {v : Value} (h : zlk l i = some v) : ∃ k : Nat, l[k]? = some (i, v) := by
  induction l with
  | nil => cases h
  | cons p r ih =>
    rw [zlk_cons] at h
    by_cases hp : p.1 = i
    · rw [if_pos hp] at h
      refine ⟨0, ?_⟩
      obtain ⟨a, b⟩ := p
      cases hp
      cases h
      rfl
    · rw [if_neg hp] at h
      obtain ⟨k, hk⟩ := ih h
      exact ⟨k + 1, by simpa using hk⟩
/-- an array's store: the place's old row goes -/
def zdrop (us : ZL) (j : Nat) : ZL := us.filter (fun q => !(Nat.beq q.1 j))
theorem zlk_drop {us : ZL} {i j : Nat} (h : i ≠ j) : zlk (zdrop us j) i = zlk us i := by
  induction us with
  | nil => rfl
  | cons p r ih =>
    rw [zlk_cons]
    unfold zdrop at ih ⊢
    rw [List.filter_cons]
    cases hb : Nat.beq p.1 j with
    | true =>
      have hp := Nat.beq_eq.mp hb
      rw [if_neg (by simp), if_neg (by omega)]
      exact ih
    | false =>
      rw [if_pos (by simp), zlk_cons, ih]
theorem zlk_put (us : ZL) (j : Nat) (v : Value) (i : Nat) : zlk ((j, v) :: zdrop us j) i = if i = j then some v else zlk us i := by
  rw [zlk_cons]
  by_cases h : i = j
  · rw [if_pos h, if_pos h.symm]
  · rw [if_neg h, if_neg (fun q => h q.symm), zlk_drop h]
/-! intervals -/
abbrev ZG : Type := (Nat → Int32) × Nat × List Nat
def zen (E : ZN) (g : ZG) : Prop := ∀ (t : Nat) (q : Int × Int), E[t]? = some q → q.1 ≤ (g.1 t).toInt ∧ (g.1 t).toInt ≤ q.2
def zv (ad : List Nat) (g : ZG) (v c : Value) : Prop := match v with
  | .ref k => ∃ a : Nat, ad[k]? = some a ∧ c = .ref a
  | .retAddr t => c = .int (g.1 t)
  | .float _ => c = .ref g.2.1
  | .double _ => False
  | v => c = v
theorem zv_cat {ad : List Nat} {g : ZG} {v c : Value} (h : zv ad g v c) : c.category = v.category := by
  cases v with
  | ref k =>
    obtain ⟨a, -, rfl⟩ := h
    rfl
  | double k => exact h.elim
  | int x =>
    cases (show c = _ from h)
    rfl
  | long x =>
    cases (show c = _ from h)
    rfl
  | float x =>
    cases (show c = _ from h)
    rfl
  | null =>
    cases (show c = _ from h)
    rfl
  | retAddr x =>
    cases (show c = _ from h)
    rfl
theorem zv_mono {ad ad' : List Nat} {g : ZG} (hm : ∀ (k a : Nat), ad[k]? = some a → ad'[k]? = some a) {v c : Value} (h : zv ad g v c) : zv ad' g v c := by
  cases v with
  | ref k =>
    obtain ⟨a, h1, rfl⟩ := h
    exact ⟨a, hm k a h1, rfl⟩
  | double k => exact h.elim
  | int x => exact h
  | long x => exact h
  | float x => exact h
  | null => exact h
  | retAddr x => exact h
def zvs (ad : List Nat) (g : ZG) : List Value → List Value → Prop
  | [], [] => True
  | v :: vs, c :: cs => zv ad g v c ∧ zvs ad g vs cs
  | _, _ => False
theorem zvs_nil {ad : List Nat} {g : ZG} {cs : List Value} (h : zvs ad g [] cs) : cs = [] := by
  cases cs with
  | nil => rfl
  | cons c r => exact h.elim
theorem zvs_cons {ad : List Nat} {g : ZG} {v : Value} {vs cs : List Value} (h : zvs ad g (v :: vs) cs) : ∃ c r, cs = c :: r ∧ zv ad g v c ∧ zvs ad g vs r := by
  cases cs with
  | nil => exact h.elim
  | cons c r => exact ⟨c, r, rfl, h.1, h.2⟩
theorem zvs_mono {ad ad' : List Nat} {g : ZG} (hm : ∀ (k a : Nat), ad[k]? = some a → ad'[k]? = some a) : ∀ {vs cs : List Value}, zvs ad g vs cs → zvs ad' g vs cs := by
  intro vs
  induction vs with
  | nil =>
    intro cs h
    cases zvs_nil h
    trivial
  | cons v vs ih =>
    intro cs h
    obtain ⟨c, r, rfl, h1, h2⟩ := zvs_cons h
    exact ⟨zv_mono hm h1, ih h2⟩
theorem zvs_len {ad : List Nat} {g : ZG} : ∀ {vs cs : List Value}, zvs ad g vs cs → cs.length = vs.length := by
  intro vs
  induction vs with
  | nil =>
    intro cs h
    cases zvs_nil h
    rfl
  | cons v vs ih =>
    intro cs h
    obtain ⟨c, r, rfl, h1, h2⟩ := zvs_cons h
    simp [ih h2]
theorem zvs_get {ad : List Nat} {g : ZG} : ∀ {vs cs : List Value}, zvs ad g vs cs → ∀ {k : Nat} {v : Value}, vs[k]? = some v → ∃ c, cs[k]? = some c ∧ zv ad g v c := by
  intro vs
  induction vs with
  | nil =>
    intro cs h k v hk
    cases hk
  | cons w vs ih =>
    intro cs h k v hk
    obtain ⟨c, r, rfl, h1, h2⟩ := zvs_cons h
    cases k with
    | zero =>
      cases hk
      exact ⟨c, rfl, h1⟩
    | succ k =>
      obtain ⟨c2, h3, h4⟩ := ih h2 (k := k) (by simpa using hk)
      exact ⟨c2, by simpa using h3, h4⟩
theorem zvs_set {ad : List Nat} {g : ZG} {v c : Value} (hv : zv ad g v c) : ∀ {vs cs : List Value}, zvs ad g vs cs → ∀ (k : Nat), zvs ad g (vs.set k v) (cs.set k c) := by
  intro vs
  induction vs with
  | nil =>
    intro cs h k
    cases zvs_nil h
    trivial
  | cons w vs ih =>
    intro cs h k
    obtain ⟨d, r, rfl, h1, h2⟩ := zvs_cons h
    cases k with
    | zero => exact ⟨hv, h2⟩
    | succ k => exact ⟨h1, ih h2 k⟩
theorem zvs_app {ad : List Nat} {g : ZG} : ∀ {vs cs ws ds : List Value}, zvs ad g vs cs → zvs ad g ws ds → zvs ad g (vs ++ ws) (cs ++ ds) := by
  intro vs
  induction vs with
  | nil =>
    intro cs ws ds h h2
    cases zvs_nil h
    exact h2
  | cons w vs ih =>
    intro cs ws ds h h2
    obtain ⟨d, r, rfl, h3, h4⟩ := zvs_cons h
    exact ⟨h3, ih h4 h2⟩
theorem zvs_rev {ad : List Nat} {g : ZG} : ∀ {vs cs : List Value}, zvs ad g vs cs → zvs ad g vs.reverse cs.reverse := by
  intro vs
  induction vs with
  | nil =>
    intro cs h
    cases zvs_nil h
    trivial
  | cons w vs ih =>
    intro cs h
    obtain ⟨d, r, rfl, h3, h4⟩ := zvs_cons h
    rw [List.reverse_cons, List.reverse_cons]
    exact zvs_app (ih h4) ⟨h3, trivial⟩
theorem zvs_take {ad : List Nat} {g : ZG} (n : Nat) : ∀ {vs cs : List Value}, zvs ad g vs cs → zvs ad g (vs.take n) (cs.take n) ∧ zvs ad g (vs.drop n) (cs.drop n) := by
  induction n with
  | zero =>
    intro vs cs h
    exact ⟨by simp [zvs], by simpa using h⟩
  | succ n ih =>
    intro vs cs h
    cases vs with
    | nil =>
      cases zvs_nil h
      exact ⟨trivial, trivial⟩
    | cons v vs =>
      obtain ⟨d, r, rfl, h3, h4⟩ := zvs_cons h
      exact ⟨⟨h3, (ih h4).1⟩, (ih h4).2⟩
theorem zvs_sum {ad : List Nat} {g : ZG} : ∀ {vs cs : List Value}, zvs ad g vs cs → (cs.map fun v => v.category).sum = (vs.map fun v => v.category).sum := by
  intro vs
  induction vs with
  | nil =>
    intro cs h
    cases zvs_nil h
    rfl
  | cons w vs ih =>
    intro cs h
    obtain ⟨d, r, rfl, h3, h4⟩ := zvs_cons h
    simp [zv_cat h3, ih h4]
def zls (ad : List Nat) (g : ZG) : ZL → ZL → Prop
  | [], [] => True
  | v :: vs, c :: cs => v.1 = c.1 ∧ zv ad g v.2 c.2 ∧ zls ad g vs cs
  | _, _ => False
theorem zls_nil {ad : List Nat} {g : ZG} {cs : ZL} (h : zls ad g [] cs) : cs = [] := by
  cases cs with
  | nil => rfl
  | cons c r => exact h.elim
theorem zls_cons {ad : List Nat} {g : ZG} {v : Nat × Value} {vs cs : ZL} (h : zls ad g (v :: vs) cs) : ∃ c r, cs = c :: r ∧ v.1 = c.1 ∧ zv ad g v.2 c.2 ∧ zls ad g vs r := by
  cases cs with
  | nil => exact h.elim
  | cons c r => exact ⟨c, r, rfl, h.1, h.2.1, h.2.2⟩
theorem zls_mono {ad ad' : List Nat} {g : ZG} (hm : ∀ (k a : Nat), ad[k]? = some a → ad'[k]? = some a) : ∀ {vs cs : ZL}, zls ad g vs cs → zls ad' g vs cs := by
  intro vs
  induction vs with
  | nil =>
    intro cs h
    cases zls_nil h
    trivial
  | cons v vs ih =>
    intro cs h
    obtain ⟨c, r, rfl, h1, h2, h3⟩ := zls_cons h
    exact ⟨h1, zv_mono hm h2, ih h3⟩
theorem zls_get {ad : List Nat} {g : ZG} : ∀ {vs cs : ZL}, zls ad g vs cs → ∀ {k : Nat} {i : Nat} {v : Value}, vs[k]? = some (i, v) → ∃ c, cs[k]? = some (i, c) ∧ zv ad g v c := by
  intro vs
  induction vs with
  | nil =>
    intro cs h k i v hk
    cases hk
  | cons w vs ih =>
    intro cs h k i v hk
    obtain ⟨c, r, rfl, h1, h2, h3⟩ := zls_cons h
    cases k with
    | zero =>
      cases hk
      obtain ⟨c1, c2⟩ := c
      cases h1
      exact ⟨c2, rfl, h2⟩
    | succ k =>
      obtain ⟨c2, h4, h5⟩ := ih h3 (k := k) (by simpa using hk)
      exact ⟨c2, by simpa using h4, h5⟩
def zkeep (i : Nat) (q : Nat × Value) : Bool := !(q.1 == i) && !(q.1 + 1 == i && q.2.category == 2)
theorem zls_filter {ad : List Nat} {g : ZG} (i : Nat) : ∀ {vs cs : ZL}, zls ad g vs cs → zls ad g (vs.filter (zkeep i)) (cs.filter (zkeep i)) := by
  intro vs
  induction vs with
  | nil =>
    intro cs h
    cases zls_nil h
    trivial
  | cons v vs ih =>
    intro cs h
    obtain ⟨c, r, rfl, h1, h2, h3⟩ := zls_cons h
    have e : zkeep i c = zkeep i v := by
      unfold zkeep
      rw [h1, zv_cat h2]
    rw [List.filter_cons, List.filter_cons, e]
    cases zkeep i v with
    | true => exact ⟨h1, h2, ih h3⟩
    | false => exact ih h3
theorem zls_args {ad : List Nat} {g : ZG} : ∀ {vs cs : List Value} (i : Nat), zvs ad g vs cs → zls ad g (lv_args i vs) (lv_args i cs) := by
  intro vs
  induction vs with
  | nil =>
    intro cs i h
    cases zvs_nil h
    trivial
  | cons v vs ih =>
    intro cs i h
    obtain ⟨c, r, rfl, h1, h2⟩ := zvs_cons h
    refine ⟨rfl, h1, ?_⟩
    rw [zv_cat h1]
    exact ih _ h2
/-- another base of addresses -/
def zga (g : ZG) (ad : List Nat) : ZG := (g.1, g.2.1, ad)
theorem zv_g {ad : List Nat} {g g' : ZG} (h1 : g'.1 = g.1) (h2 : g'.2.1 = g.2.1) {v c : Value} (h : zv ad g v c) : zv ad g' v c := by
  cases v with
  | ref k => exact h
  | double k => exact h.elim
  | int x => exact h
  | long x => exact h
  | float x => exact (show c = .ref g.2.1 from h).trans (by rw [h2])
  | null => exact h
  | retAddr x => exact (show c = .int (g.1 x) from h).trans (by rw [h1])
theorem zvs_g {ad : List Nat} {g g' : ZG} (h1 : g'.1 = g.1) (h2 : g'.2.1 = g.2.1) : ∀ {vs cs : List Value}, zvs ad g vs cs → zvs ad g' vs cs := by
  intro vs
  induction vs with
  | nil =>
    intro cs h
    cases zvs_nil h
    trivial
  | cons v vs ih =>
    intro cs h
    obtain ⟨c, r, rfl, h3, h4⟩ := zvs_cons h
    exact ⟨zv_g h1 h2 h3, ih h4⟩
end
section
/-! cells: an array by the kind of its elements (0 int, 1 boolean, 2 char, 3 long, 4 Wall, 5 Order), an object by its class in vwCl -/
def zdv (t : Nat) : Value := cond (Nat.blt t 3) (.int 0) (cond (Nat.beq t 3) (.long 0) .null)
noncomputable def zel (t : Nat) (us : ZL) (j : Nat) : Value := match zlk us j with
  | some v => v
  | none => zdv t
theorem zel_put (t : Nat) (us : ZL) (j : Nat) (v : Value) (i : Nat) : zel t ((j, v) :: zdrop us j) i = if i = j then v else zel t us i := by
  unfold zel
  rw [zlk_put]
  by_cases h : i = j
  · rw [if_pos h, if_pos h]
  · rw [if_neg h, if_neg h]
def za (ad : List Nat) (g : ZG) (t : Nat) (us : ZL) (arr : (Nat → Int32) ⊕ (Nat → Int64) ⊕ (Nat → UInt32) ⊕ (Nat → UInt64) ⊕ (Nat → Option Nat)) : Prop :=
  (t < 3 → ∃ f : Nat → Int32, arr = .inl f ∧ ∀ j, zv ad g (zel t us j) (.int (f j))) ∧
  (t = 3 → ∃ f : Nat → Int64, arr = .inr (.inl f) ∧ ∀ j, zel t us j = .long (f j)) ∧
  (3 < t → ∃ f : Nat → Option Nat, arr = .inr (.inr (.inr (.inr f))) ∧ ∀ j, zv ad g (zel t us j) (va_rf (f j)))
def ze (ad : List Nat) (g : ZG) (cA : Nat → ClassId) (e : ZE) (w : va_E) : Prop := match e with
  | .inl x => ∃ arr, w = .inl (cA x.1, x.2.1, arr) ∧ za ad g x.1 x.2.2 arr
  | .inr x => ∃ gs, w = .inr (x.1, gs) ∧ zvs ad g x.2 gs
theorem za_mono {ad ad' : List Nat} {g : ZG} (hm : ∀ (k a : Nat), ad[k]? = some a → ad'[k]? = some a) {t : Nat} {us : ZL} {arr : (Nat → Int32) ⊕ (Nat → Int64) ⊕ (Nat → UInt32) ⊕ (Nat → UInt64) ⊕ (Nat → Option Nat)} (h : za ad g t us arr) : za ad' g t us arr := by
  obtain ⟨h1, h2, h3⟩ := h
  refine ⟨fun q => ?_, h2, fun q => ?_⟩
  · obtain ⟨f, e, hf⟩ := h1 q
    exact ⟨f, e, fun j => zv_mono hm (hf j)⟩
  · obtain ⟨f, e, hf⟩ := h3 q
    exact ⟨f, e, fun j => zv_mono hm (hf j)⟩
theorem ze_mono {ad ad' : List Nat} {g : ZG} {cA : Nat → ClassId} (hm : ∀ (k a : Nat), ad[k]? = some a → ad'[k]? = some a) {e : ZE} {w : va_E} (h : ze ad g cA e w) : ze ad' g cA e w := by
  cases e with
  | inl x =>
    obtain ⟨arr, e1, h1⟩ := h
    exact ⟨arr, e1, za_mono hm h1⟩
  | inr x =>
    obtain ⟨gs, e1, h1⟩ := h
    exact ⟨gs, e1, zvs_mono hm h1⟩
def zad (ws : va_W) : List Nat := ws.map Prod.fst
def zh (g : ZG) (cA : Nat → ClassId) (hp : List ZE) (ws : va_W) : Prop := ws.length = hp.length ∧ (∀ (k : Nat) (e : ZE) (w : Nat × va_E), hp[k]? = some e → ws[k]? = some w → ze (zad ws) g cA e w.2) ∧ ∀ (k a : Nat), g.2.2[k]? = some a → (zad ws)[k]? = some a
theorem zad_get {ws : va_W} {k : Nat} {a : Nat} (h : (zad ws)[k]? = some a) : ∃ w, ws[k]? = some (a, w) := by
  unfold zad at h
  rw [List.getElem?_map] at h
  cases hw : ws[k]? with
  | none => rw [hw] at h; cases h
  | some q =>
    rw [hw] at h
    obtain ⟨x, y⟩ := q
    cases h
    exact ⟨y, rfl⟩
theorem zad_of {ws : va_W} {k a : Nat} {w : va_E} (h : ws[k]? = some (a, w)) : (zad ws)[k]? = some a := by
  unfold zad
  rw [List.getElem?_map, h]
  rfl
theorem zad_set {ws : va_W} {k a : Nat} {w w' : va_E} (h : ws[k]? = some (a, w)) : zad (ws.set k (a, w')) = zad ws := by
  unfold zad
  rw [List.map_set]
  apply List.ext_getElem?
  intro i
  rw [List.getElem?_set]
  by_cases hi : k = i
  · subst hi
    rw [if_pos rfl, List.getElem?_map, h]
    have hl : k < ws.length := (List.getElem?_eq_some_iff.mp h).1
    simp [hl]
  · rw [if_neg hi]
theorem zad_app (ws : va_W) (q : Nat) (w : va_E) (k a : Nat) (h : (zad ws)[k]? = some a) : (zad (ws ++ [(q, w)]))[k]? = some a := by
  unfold zad at h ⊢
  rw [List.map_append, List.getElem?_append_left]
  · exact h
  · exact (List.getElem?_eq_some_iff.mp h).1
/-- a cell that is there -/
theorem zh_at {g : ZG} {cA : Nat → ClassId} {hp : List ZE} {ws : va_W} (h : zh g cA hp ws) {k : Nat} {e : ZE} {a : Nat} (he : hp[k]? = some e) (ha : (zad ws)[k]? = some a) : ∃ w, ws[k]? = some (a, w) ∧ ze (zad ws) g cA e w := by
  obtain ⟨w, hw⟩ := zad_get ha
  exact ⟨w, hw, h.2.1 k e (a, w) he hw⟩
theorem zh_set {g : ZG} {cA : Nat → ClassId} {hp : List ZE} {ws : va_W} (h : zh g cA hp ws) {k a : Nat} {e' : ZE} {w w' : va_E} (hw : ws[k]? = some (a, w)) (he : ze (zad ws) g cA e' w') : zh g cA (hp.set k e') (ws.set k (a, w')) := by
  refine ⟨by simp [h.1], fun i e q h1 h2 => ?_, fun i x hi => by rw [zad_set hw]; exact h.2.2 i x hi⟩
  rw [zad_set hw]
  rw [List.getElem?_set] at h1 h2
  by_cases hi : k = i
  · subst hi
    rw [if_pos rfl] at h1 h2
    split at h1
    · split at h2
      · cases h1
        cases h2
        exact he
      · cases h2
    · cases h1
  · rw [if_neg hi] at h1 h2
    exact h.2.1 i e q h1 h2
theorem zh_app {g : ZG} {cA : Nat → ClassId} {hp : List ZE} {ws : va_W} (h : zh g cA hp ws) (q : Nat) {e' : ZE} {w' : va_E} (he : ze (zad (ws ++ [(q, w')])) g cA e' w') : zh g cA (hp ++ [e']) (ws ++ [(q, w')]) := by
  refine ⟨by simp [h.1], fun i e x h1 h2 => ?_, fun i x hi => zad_app ws q w' i x (h.2.2 i x hi)⟩
  by_cases hi : i < hp.length
  · rw [List.getElem?_append_left hi] at h1
    rw [List.getElem?_append_left (by rw [h.1]; exact hi)] at h2
    exact ze_mono (zad_app ws q w') (h.2.1 i e x h1 h2)
  · rw [List.getElem?_append_right (by omega)] at h1
    rw [List.getElem?_append_right (by rw [h.1]; omega)] at h2
    rw [h.1] at h2
    cases hj : i - hp.length with
    | zero =>
      rw [hj] at h1 h2
      cases h1
      cases h2
      exact he
    | succ n =>
      rw [hj] at h1
      cases h1
theorem zad_last (ws : va_W) (q : Nat) (w : va_E) : (zad (ws ++ [(q, w)]))[ws.length]? = some q := by
  unfold zad
  rw [List.map_append, List.getElem?_append_right (by simp)]
  simp
def ztys (cA : Nat → ClassId) : List (ClassId × FieldType) := [(cA 0, .int), (cA 1, .boolean), (cA 2, .char), (cA 3, .long), (cA 4, .object "NamesUnder$Wall"), (cA 5, .object "NamesUnder$Order")]
def zty (t : Nat) : FieldType := match t with
  | 0 => .int
  | 1 => .boolean
  | 2 => .char
  | 3 => .long
  | 4 => .object "NamesUnder$Wall"
  | _ => .object "NamesUnder$Order"
theorem ztys_at (cA : Nat → ClassId) {t : Nat} (h : t < 6) : (ztys cA)[t]? = some (cA t, zty t) := by
  match t, h with
  | 0, _ => rfl
  | 1, _ => rfl
  | 2, _ => rfl
  | 3, _ => rfl
  | 4, _ => rfl
  | 5, _ => rfl
/-- stores -/
theorem za_putI {ad : List Nat} {g : ZG} {t : Nat} {us : ZL} {f : Nat → Int32} (ht : t < 3) (hf : ∀ j, zv ad g (zel t us j) (.int (f j))) {i : Nat} {v : Value} {x : Int32} (hv : zv ad g v (.int x)) : za ad g t ((i, v) :: zdrop us i) (.inl (upd f i x)) := by
  refine ⟨fun _ => ⟨_, rfl, fun j => ?_⟩, fun h => by omega, fun h => by omega⟩
  rw [zel_put]
  unfold upd
  by_cases h : j = i
  · rw [if_pos h, if_pos h]
    exact hv
  · rw [if_neg h, if_neg h]
    exact hf j
theorem za_putL {ad : List Nat} {g : ZG} {us : ZL} {f : Nat → Int64} (hf : ∀ j, zel 3 us j = .long (f j)) {i : Nat} {x : Int64} : za ad g 3 ((i, .long x) :: zdrop us i) (.inr (.inl (vp_updL f i x))) := by
  refine ⟨fun h => by omega, fun _ => ⟨_, rfl, fun j => ?_⟩, fun h => by omega⟩
  rw [zel_put]
  unfold vp_updL
  by_cases h : j = i
  · rw [if_pos h, if_pos h]
  · rw [if_neg h, if_neg h]
    exact hf j
theorem za_putR {ad : List Nat} {g : ZG} {t : Nat} {us : ZL} {f : Nat → Option Nat} (ht : 3 < t) (hf : ∀ j, zv ad g (zel t us j) (va_rf (f j))) {i : Nat} {v : Value} {x : Nat} (hv : zv ad g v (.ref x)) : za ad g t ((i, v) :: zdrop us i) (.inr (.inr (.inr (.inr (va_up f i (some x)))))) := by
  refine ⟨fun h => by omega, fun h => by omega, fun _ => ⟨_, rfl, fun j => ?_⟩⟩
  rw [zel_put]
  unfold va_up
  by_cases h : j = i
  · rw [if_pos h, if_pos h]
    exact hv
  · rw [if_neg h, if_neg h]
    exact hf j
/-! known ints, and tokens within bounds -/
noncomputable def zrg (E : ZN) (v : Value) (k : Int → Int → Nat → ZX) : ZX := match v with
  | .int x => k x.toInt x.toInt 0
  | .retAddr t => (match zget E t with
    | some q => k q.1 q.2 t
    | none => zfail)
  | _ => zfail
theorem zrg_ok {E : ZN} {g : ZG} {ad : List Nat} {v c : Value} {k : Int → Int → Nat → ZX} {r : ZS} (hE : zen E g) (hv : zv ad g v c) (h : zrg E v k = .ok r) : ∃ (x : Int32) (lo hi : Int) (t : Nat), c = .int x ∧ lo ≤ x.toInt ∧ x.toInt ≤ hi ∧ k lo hi t = .ok r := by
  cases v with
  | int x =>
    cases (show c = _ from hv)
    exact ⟨x, x.toInt, x.toInt, 0, rfl, by omega, by omega, h⟩
  | retAddr t =>
    cases (show c = _ from hv)
    simp only [zrg, zget_eq] at h
    cases hq : E[t]? with
    | none => simp only [hq] at h; cases h
    | some q =>
      simp only [hq] at h
      exact ⟨g.1 t, q.1, q.2, t, rfl, (hE t q hq).1, (hE t q hq).2, h⟩
  | ref k => cases h
  | double k => cases h
  | long x => cases h
  | float x => cases h
  | null => cases h
noncomputable def zI (E : ZN) (v : Value) (k : Int32 → ZX) : ZX := match v with
  | .int x => k x
  | .retAddr t => (match zget E t with
    | some q => cond (decide (q.1 = q.2)) (zi (Int32.ofInt q.1) k) (.error (t, q.1 + 1))
    | none => zfail)
  | _ => zfail
theorem zI_ok {E : ZN} {g : ZG} {ad : List Nat} {v c : Value} {k : Int32 → ZX} {r : ZS} (hE : zen E g) (hv : zv ad g v c) (h : zI E v k = .ok r) : ∃ x : Int32, c = .int x ∧ k x = .ok r := by
  cases v with
  | int x =>
    cases (show c = _ from hv)
    exact ⟨x, rfl, h⟩
  | retAddr t =>
    cases (show c = _ from hv)
    simp only [zI, zget_eq] at h
    cases hq : E[t]? with
    | none => simp only [hq] at h; cases h
    | some q =>
      simp only [hq] at h
      have he := hE t q hq
      by_cases hc : q.1 = q.2
      · rw [decide_eq_true hc] at h
        rw [cond_true, zi_eq] at h
        have hx : (g.1 t).toInt = q.1 := by omega
        rw [← hx, Int32.ofInt_toInt] at h
        exact ⟨g.1 t, rfl, h⟩
      · rw [decide_eq_false hc] at h
        cases h
  | ref k => cases h
  | double k => cases h
  | long x => cases h
  | float x => cases h
  | null => cases h
noncomputable def zlt (lo hi b : Int) (t : Nat) (k : Bool → ZX) : ZX := cond (decide (hi < b)) (k true) (cond (decide (b ≤ lo)) (k false) (.error (t, b)))
theorem zlt_ok {lo hi b : Int} {t : Nat} {k : Bool → ZX} {r : ZS} {z : Int} (h1 : lo ≤ z) (h2 : z ≤ hi) (h : zlt lo hi b t k = .ok r) : k (decide (z < b)) = .ok r := by
  unfold zlt at h
  by_cases ha : hi < b
  · rw [decide_eq_true ha, cond_true] at h
    rw [decide_eq_true (by omega)]
    exact h
  · rw [decide_eq_false ha, cond_false] at h
    by_cases hb : b ≤ lo
    · rw [decide_eq_true hb, cond_true] at h
      rw [decide_eq_false (by omega)]
      exact h
    · rw [decide_eq_false hb] at h
      cases h
def zro (op : ClassFile.Cond) (a b : Int) : Bool := match op with
  | .eq => decide (a = b)
  | .ne => !(decide (a = b))
  | .lt => decide (a < b)
  | .ge => !(decide (a < b))
  | .gt => !(decide (a < b + 1))
  | .le => decide (a < b + 1)
noncomputable def zcp (op : ClassFile.Cond) (lo hi b : Int) (t : Nat) (k : Bool → ZX) : ZX := match op with
  | .eq => zlt lo hi b t (fun d => cond d (k false) (zlt lo hi (b + 1) t k))
  | .ne => zlt lo hi b t (fun d => cond d (k true) (zlt lo hi (b + 1) t (fun d => k (!d))))
  | .lt => zlt lo hi b t k
  | .ge => zlt lo hi b t (fun d => k (!d))
  | .gt => zlt lo hi (b + 1) t (fun d => k (!d))
  | .le => zlt lo hi (b + 1) t k
theorem zcp_ok {op : ClassFile.Cond} {lo hi b : Int} {t : Nat} {k : Bool → ZX} {r : ZS} {z : Int} (h1 : lo ≤ z) (h2 : z ≤ hi) (h : zcp op lo hi b t k = .ok r) : k (zro op z b) = .ok r := by
  cases op with
  | eq =>
    have h3 := zlt_ok h1 h2 (show zlt lo hi b t (fun d => cond d (k false) (zlt lo hi (b + 1) t k)) = .ok r from h)
    show k (decide (z = b)) = .ok r
    by_cases hz : z < b
    · rw [decide_eq_true hz, cond_true] at h3
      rw [decide_eq_false (by omega)]
      exact h3
    · rw [decide_eq_false hz, cond_false] at h3
      have h4 := zlt_ok h1 h2 h3
      rw [show decide (z = b) = decide (z < b + 1) from decide_eq_decide.mpr (by omega)]
      exact h4
  | ne =>
    have h3 := zlt_ok h1 h2 (show zlt lo hi b t (fun d => cond d (k true) (zlt lo hi (b + 1) t (fun d => k (!d)))) = .ok r from h)
    show k (!(decide (z = b))) = .ok r
    by_cases hz : z < b
    · rw [decide_eq_true hz, cond_true] at h3
      rw [decide_eq_false (by omega)]
      exact h3
    · rw [decide_eq_false hz, cond_false] at h3
      have h4 := zlt_ok h1 h2 h3
      rw [show decide (z = b) = decide (z < b + 1) from decide_eq_decide.mpr (by omega)]
      exact h4
  | lt => exact zlt_ok h1 h2 h
  | ge => exact zlt_ok h1 h2 (show zlt lo hi b t (fun d => k (!d)) = .ok r from h)
  | gt => exact zlt_ok h1 h2 (show zlt lo hi (b + 1) t (fun d => k (!d)) = .ok r from h)
  | le => exact zlt_ok h1 h2 (show zlt lo hi (b + 1) t k = .ok r from h)
noncomputable def zcmp (E : ZN) (op : ClassFile.Cond) (x y : Value) (k : Bool → ZX) : ZX := zI E y (fun b => zrg E x (fun lo hi t => zcp op lo hi b.toInt t k))
theorem zcmp_ok {E : ZN} {g : ZG} {ad : List Nat} {op : ClassFile.Cond} {x y cx cy : Value} {k : Bool → ZX} {r : ZS} (hE : zen E g) (hx : zv ad g x cx) (hy : zv ad g y cy) (h : zcmp E op x y k = .ok r) : ∃ a b : Int32, cx = .int a ∧ cy = .int b ∧ k (zro op a.toInt b.toInt) = .ok r := by
  obtain ⟨b, e2, h⟩ := zI_ok hE hy h
  obtain ⟨a, lo, hi, t, e1, h1, h2, h3⟩ := zrg_ok hE hx h
  exact ⟨a, b, e1, e2, zcp_ok h1 h2 h3⟩
def zint (v : Value) : Bool := match v with
  | .int _ => true
  | .retAddr _ => true
  | _ => false
theorem zint_ok {g : ZG} {ad : List Nat} {v c : Value} (h : zint v = true) (hv : zv ad g v c) : ∃ x : Int32, c = .int x := by
  cases v with
  | int x => exact ⟨_, hv⟩
  | retAddr t => exact ⟨_, hv⟩
  | ref k => cases h
  | double k => cases h
  | long x => cases h
  | float x => cases h
  | null => cases h
def zref (v : Value) : Bool := match v with
  | .ref _ => true
  | .float _ => true
  | _ => false
theorem zref_ok {g : ZG} {ad : List Nat} {v c : Value} (h : zref v = true) (hv : zv ad g v c) : ∃ a : Nat, c = .ref a := by
  cases v with
  | int x => cases h
  | retAddr t => cases h
  | ref k =>
    obtain ⟨a, -, e⟩ := hv
    exact ⟨a, e⟩
  | double k => cases h
  | long x => cases h
  | float x => exact ⟨_, hv⟩
  | null => cases h
noncomputable def zrf (hp : List ZE) (v : Value) (k : Nat → ZE → ZX) : ZX := match v with
  | .ref q => (match zget hp q with
    | some e => k q e
    | none => zfail)
  | _ => zfail
theorem zrf_ok {g : ZG} {cA : Nat → ClassId} {hp : List ZE} {ws : va_W} {v c : Value} {k : Nat → ZE → ZX} {r : ZS} (hh : zh g cA hp ws) (hv : zv (zad ws) g v c) (h : zrf hp v k = .ok r) : ∃ (q : Nat) (e : ZE) (a : Nat) (w : va_E), v = .ref q ∧ hp[q]? = some e ∧ c = .ref a ∧ ws[q]? = some (a, w) ∧ ze (zad ws) g cA e w ∧ k q e = .ok r := by
  cases v with
  | ref q =>
    obtain ⟨a, h1, rfl⟩ := hv
    simp only [zrf, zget_eq] at h
    cases hq : hp[q]? with
    | none => simp only [hq] at h; cases h
    | some e =>
      simp only [hq] at h
      obtain ⟨w, h2, h3⟩ := zh_at hh hq h1
      exact ⟨q, e, a, w, rfl, hq, rfl, h2, h3, h⟩
  | int x => cases h
  | retAddr t => cases h
  | double k => cases h
  | long x => cases h
  | float x => cases h
  | null => cases h
theorem za_g {ad : List Nat} {g g' : ZG} (h1 : g'.1 = g.1) (h2 : g'.2.1 = g.2.1) {t : Nat} {us : ZL} {arr : (Nat → Int32) ⊕ (Nat → Int64) ⊕ (Nat → UInt32) ⊕ (Nat → UInt64) ⊕ (Nat → Option Nat)} (h : za ad g t us arr) : za ad g' t us arr := by
  obtain ⟨q1, q2, q3⟩ := h
  refine ⟨fun q => ?_, q2, fun q => ?_⟩
  · obtain ⟨f, e, hf⟩ := q1 q
    exact ⟨f, e, fun j => zv_g h1 h2 (hf j)⟩
  · obtain ⟨f, e, hf⟩ := q3 q
    exact ⟨f, e, fun j => zv_g h1 h2 (hf j)⟩
theorem ze_g {ad : List Nat} {g g' : ZG} {cA : Nat → ClassId} (h1 : g'.1 = g.1) (h2 : g'.2.1 = g.2.1) {e : ZE} {w : va_E} (h : ze ad g cA e w) : ze ad g' cA e w := by
  cases e with
  | inl x =>
    obtain ⟨arr, e1, q⟩ := h
    exact ⟨arr, e1, za_g h1 h2 q⟩
  | inr x =>
    obtain ⟨gs, e1, q⟩ := h
    exact ⟨gs, e1, zvs_g h1 h2 q⟩
theorem zh_g {g g' : ZG} {cA : Nat → ClassId} {hp : List ZE} {ws : va_W} (h1 : g'.1 = g.1) (h2 : g'.2.1 = g.2.1) (h3 : ∀ (k a : Nat), g'.2.2[k]? = some a → (zad ws)[k]? = some a) (h : zh g cA hp ws) : zh g' cA hp ws := ⟨h.1, fun k e w q1 q2 => ze_g h1 h2 (h.2.1 k e w q1 q2), h3⟩
end
section
/-! steps: each is the machine's own -/
abbrev ZRt : Type := Nat → ZL → List Value → List ZE → Nat → Nat → ZX
def zT : List Cond := lw_tbl.filter goodWord
def zrel (dC : Nat → ClassId) (dI : Nat → Nat → Nat) (cA : Nat → ClassId) (g : ZG) (A : Nat → Prop) (H0 : Heap) (nL : Nat) (lv : ZL) (st : List Value) (hp : List ZE) (ws : va_W) (H : Heap) (locs : List Loc) (ls : Array Slot) (clv : ZL) (cst : List Value) : Prop :=
  zh g cA hp ws ∧ va_P (dC, dI) vwCl ws H ∧ va_D A ws ∧ va_S A H0 H locs ∧ lv_has ls nL clv ∧ zls (zad ws) g lv clv ∧ zvs (zad ws) g st cst
def zW (p : Program) (l : Launch) (e : Env) (R : Room) (s : State) (m : MethodId) (args : Array Value) (below : List Frame) (meth : Method) (c : Code) (Q : State → Prop) (dC : Nat → ClassId) (dI : Nat → Nat → Nat) (cA : Nat → ClassId) (g : ZG) (A : Nat → Prop) (nL : Nat) (pc : Nat) (lv : ZL) (st : List Value) (hp : List ZE) (nc ns : Nat) : Prop :=
  ∀ (ws : va_W) (H : Heap) (locs : List Loc) (ls : Array Slot) (clv : ZL) (cst : List Value), zrel dC dI cA g A s.heap nL lv st hp ws H locs ls clv cst → W p l e R s m args below meth c H locs nc ns Q (F0 m pc ls cst)
theorem zblt {i n : Nat} (h : Nat.blt i n = true) : i < n := Nat.le_of_ble_eq_true h
section ZST
variable {p : Program} {l : Launch} {e : Env} {R : Room} {s : State} {m : MethodId} {args : Array Value} {below : List Frame} {meth : Method} {c : Code} {Q : State → Prop} {dC : Nat → ClassId} {dI : Nat → Nat → Nat} {cA : Nat → ClassId} {g : ZG} {A : Nat → Prop} {nL : Nat} {cc : ByteArray} {pc : Nat} {lv : ZL} {st : List Value} {hp : List ZE} {nc ns : Nat} {ret : ZRt} {r : ZS} {E : ZN} {own : String}
theorem zs_push {v : Value} {n : Nat} (hv : ∀ ad, zv ad g v v) (hrow : ∀ (H : Heap) (locs : List Loc) (ls : Array Slot) (cst : List Value), W p l e R s m args below meth c H locs nc ns Q (F0 m (pc + n) ls (v :: cst)) → W p l e R s m args below meth c H locs nc ns Q (F0 m pc ls cst)) (k : zW p l e R s m args below meth c Q dC dI cA g A nL (pc + n) lv (v :: st) hp nc ns) : zW p l e R s m args below meth c Q dC dI cA g A nL pc lv st hp nc ns := by
  intro ws H locs ls clv cst ⟨r1, r2, r3, r4, r5, r6, r7⟩
  exact hrow _ _ _ _ (k ws H locs ls clv (v :: cst) ⟨r1, r2, r3, r4, r5, r6, hv _, r7⟩)
/-- a local read -/
noncomputable def zx_ld (f : Value → Bool) (i n pc : Nat) (lv : ZL) (st : List Value) (hp : List ZE) (nc ns : Nat) (ret : ZRt) : ZX := match zlk lv i with
  | some v => cond (f v) (ret (pc + n) lv (v :: st) hp nc ns) zfail
  | none => zfail
theorem zx_ld_ok {f : Value → Bool} {i n : Nat} (h : zx_ld f i n pc lv st hp nc ns ret = .ok r) : ∃ v, zlk lv i = some v ∧ f v = true ∧ ret (pc + n) lv (v :: st) hp nc ns = .ok r := by
  unfold zx_ld at h
  cases hl : zlk lv i with
  | none => simp only [hl] at h; cases h
  | some v =>
    simp only [hl] at h
    cases hf : f v with
    | false => rw [hf] at h; cases h
    | true => rw [hf] at h; exact ⟨v, rfl, hf, h⟩
theorem zs_lv {ad : List Nat} {ls : Array Slot} {clv : ZL} {i : Nat} {v : Value} (r5 : lv_has ls nL clv) (r6 : zls ad g lv clv) (h : zlk lv i = some v) : ∃ (k : Nat) (cv : Value), clv[k]? = some (i, cv) ∧ ls[i]? = some (.val cv) ∧ zv ad g v cv := by
  obtain ⟨k, hk⟩ := zlk_at h
  obtain ⟨cv, h1, h2⟩ := zls_get r6 hk
  exact ⟨k, cv, h1, lv_at r5 k h1, h2⟩
theorem zs_iload_n (hx : p.tables.exec = Jvm.exec) (hb : c.code = cc) {i : Fin 4} (hdg : decode cc pc = .ok (.iload_n i, 1)) (h : zx_ld zint i.val 1 pc lv st hp nc ns ret = .ok r) (Hk : ∀ (pc : Nat) (lv : ZL) (st : List Value) (hp : List ZE) (nc ns : Nat), ret pc lv st hp nc ns = .ok r → zW p l e R s m args below meth c Q dC dI cA g A nL pc lv st hp nc ns) : zW p l e R s m args below meth c Q dC dI cA g A nL pc lv st hp nc ns := by
  obtain ⟨v, h1, h2, h3⟩ := zx_ld_ok h
  intro ws H locs ls clv cst ⟨r1, r2, r3, r4, r5, r6, r7⟩
  obtain ⟨k, cv, -, h4, h5⟩ := zs_lv r5 r6 h1
  obtain ⟨x, rfl⟩ := zint_ok h2 h5
  exact lv_iload_n hx hb hdg rfl h4 (Hk _ _ _ _ _ _ h3 ws H locs ls clv _ ⟨r1, r2, r3, r4, r5, r6, h5, r7⟩)
theorem zs_iload (hx : p.tables.exec = Jvm.exec) (hb : c.code = cc) {i : Nat} (hdg : decode cc pc = .ok (.iload i, 2)) (h : zx_ld zint i 2 pc lv st hp nc ns ret = .ok r) (Hk : ∀ (pc : Nat) (lv : ZL) (st : List Value) (hp : List ZE) (nc ns : Nat), ret pc lv st hp nc ns = .ok r → zW p l e R s m args below meth c Q dC dI cA g A nL pc lv st hp nc ns) : zW p l e R s m args below meth c Q dC dI cA g A nL pc lv st hp nc ns := by
  obtain ⟨v, h1, h2, h3⟩ := zx_ld_ok h
  intro ws H locs ls clv cst ⟨r1, r2, r3, r4, r5, r6, r7⟩
  obtain ⟨k, cv, -, h4, h5⟩ := zs_lv r5 r6 h1
  obtain ⟨x, rfl⟩ := zint_ok h2 h5
  exact lv_iload hx hb hdg h4 (Hk _ _ _ _ _ _ h3 ws H locs ls clv _ ⟨r1, r2, r3, r4, r5, r6, h5, r7⟩)
theorem zs_aload_n (hx : p.tables.exec = Jvm.exec) (hb : c.code = cc) {i : Fin 4} (hdg : decode cc pc = .ok (.aload_n i, 1)) (h : zx_ld zref i.val 1 pc lv st hp nc ns ret = .ok r) (Hk : ∀ (pc : Nat) (lv : ZL) (st : List Value) (hp : List ZE) (nc ns : Nat), ret pc lv st hp nc ns = .ok r → zW p l e R s m args below meth c Q dC dI cA g A nL pc lv st hp nc ns) : zW p l e R s m args below meth c Q dC dI cA g A nL pc lv st hp nc ns := by
  obtain ⟨v, h1, h2, h3⟩ := zx_ld_ok h
  intro ws H locs ls clv cst ⟨r1, r2, r3, r4, r5, r6, r7⟩
  obtain ⟨k, cv, -, h4, h5⟩ := zs_lv r5 r6 h1
  obtain ⟨x, rfl⟩ := zref_ok h2 h5
  exact lv_aload_n hx hb hdg rfl h4 (Hk _ _ _ _ _ _ h3 ws H locs ls clv _ ⟨r1, r2, r3, r4, r5, r6, h5, r7⟩)
theorem zs_aload (hx : p.tables.exec = Jvm.exec) (hb : c.code = cc) {i : Nat} (hdg : decode cc pc = .ok (.aload i, 2)) (h : zx_ld zref i 2 pc lv st hp nc ns ret = .ok r) (Hk : ∀ (pc : Nat) (lv : ZL) (st : List Value) (hp : List ZE) (nc ns : Nat), ret pc lv st hp nc ns = .ok r → zW p l e R s m args below meth c Q dC dI cA g A nL pc lv st hp nc ns) : zW p l e R s m args below meth c Q dC dI cA g A nL pc lv st hp nc ns := by
  obtain ⟨v, h1, h2, h3⟩ := zx_ld_ok h
  intro ws H locs ls clv cst ⟨r1, r2, r3, r4, r5, r6, r7⟩
  obtain ⟨k, cv, -, h4, h5⟩ := zs_lv r5 r6 h1
  obtain ⟨x, rfl⟩ := zref_ok h2 h5
  exact lv_aload hx hb hdg h4 (Hk _ _ _ _ _ _ h3 ws H locs ls clv _ ⟨r1, r2, r3, r4, r5, r6, h5, r7⟩)
/-- a local written -/
noncomputable def zx_st (f : Value → Bool) (nL i n pc : Nat) (lv : ZL) (st : List Value) (hp : List ZE) (nc ns : Nat) (ret : ZRt) : ZX := match st with
  | v :: st' => cond (f v && Nat.blt i nL) (zfl (lv.filter (zkeep i)) (fun lr => ret (pc + n) ((i, v) :: lr) st' hp nc ns)) zfail
  | [] => zfail
theorem zx_st_ok {f : Value → Bool} {i n : Nat} (h : zx_st f nL i n pc lv st hp nc ns ret = .ok r) : ∃ v st', st = v :: st' ∧ f v = true ∧ i < nL ∧ ret (pc + n) ((i, v) :: lv.filter (zkeep i)) st' hp nc ns = .ok r := by
  cases st with
  | nil => cases h
  | cons v st' =>
    simp only [zx_st] at h
    cases hf : (f v && Nat.blt i nL) with
    | false => rw [hf] at h; cases h
    | true =>
      rw [hf, cond_true, zfl_eq] at h
      rw [Bool.and_eq_true] at hf
      exact ⟨v, st', rfl, hf.1, zblt hf.2, h⟩
theorem zs_istore_n (hx : p.tables.exec = Jvm.exec) (hb : c.code = cc) {i : Fin 4} (hdg : decode cc pc = .ok (.istore_n i, 1)) (h : zx_st zint nL i.val 1 pc lv st hp nc ns ret = .ok r) (Hk : ∀ (pc : Nat) (lv : ZL) (st : List Value) (hp : List ZE) (nc ns : Nat), ret pc lv st hp nc ns = .ok r → zW p l e R s m args below meth c Q dC dI cA g A nL pc lv st hp nc ns) : zW p l e R s m args below meth c Q dC dI cA g A nL pc lv st hp nc ns := by
  obtain ⟨v, st', rfl, h2, h3, h4⟩ := zx_st_ok h
  intro ws H locs ls clv cst ⟨r1, r2, r3, r4, r5, r6, r7⟩
  obtain ⟨cv, cr, rfl, h5, h6⟩ := zvs_cons r7
  obtain ⟨x, rfl⟩ := zint_ok h2 h5
  exact lv_istore_n hx hb hdg rfl r5 h3 rfl (fun ls' hl' => Hk _ _ _ _ _ _ h4 ws H locs ls' _ _ ⟨r1, r2, r3, r4, hl', ⟨rfl, h5, zls_filter i.val r6⟩, h6⟩)
theorem zs_istore (hx : p.tables.exec = Jvm.exec) (hb : c.code = cc) {i : Nat} (hdg : decode cc pc = .ok (.istore i, 2)) (h : zx_st zint nL i 2 pc lv st hp nc ns ret = .ok r) (Hk : ∀ (pc : Nat) (lv : ZL) (st : List Value) (hp : List ZE) (nc ns : Nat), ret pc lv st hp nc ns = .ok r → zW p l e R s m args below meth c Q dC dI cA g A nL pc lv st hp nc ns) : zW p l e R s m args below meth c Q dC dI cA g A nL pc lv st hp nc ns := by
  obtain ⟨v, st', rfl, h2, h3, h4⟩ := zx_st_ok h
  intro ws H locs ls clv cst ⟨r1, r2, r3, r4, r5, r6, r7⟩
  obtain ⟨cv, cr, rfl, h5, h6⟩ := zvs_cons r7
  obtain ⟨x, rfl⟩ := zint_ok h2 h5
  exact lv_istore hx hb hdg r5 h3 rfl (fun ls' hl' => Hk _ _ _ _ _ _ h4 ws H locs ls' _ _ ⟨r1, r2, r3, r4, hl', ⟨rfl, h5, zls_filter i r6⟩, h6⟩)
theorem zs_astore_n (hx : p.tables.exec = Jvm.exec) (hb : c.code = cc) {i : Fin 4} (hdg : decode cc pc = .ok (.astore_n i, 1)) (h : zx_st zref nL i.val 1 pc lv st hp nc ns ret = .ok r) (Hk : ∀ (pc : Nat) (lv : ZL) (st : List Value) (hp : List ZE) (nc ns : Nat), ret pc lv st hp nc ns = .ok r → zW p l e R s m args below meth c Q dC dI cA g A nL pc lv st hp nc ns) : zW p l e R s m args below meth c Q dC dI cA g A nL pc lv st hp nc ns := by
  obtain ⟨v, st', rfl, h2, h3, h4⟩ := zx_st_ok h
  intro ws H locs ls clv cst ⟨r1, r2, r3, r4, r5, r6, r7⟩
  obtain ⟨cv, cr, rfl, h5, h6⟩ := zvs_cons r7
  obtain ⟨x, rfl⟩ := zref_ok h2 h5
  exact lv_astore_n hx hb hdg rfl r5 h3 rfl (fun ls' hl' => Hk _ _ _ _ _ _ h4 ws H locs ls' _ _ ⟨r1, r2, r3, r4, hl', ⟨rfl, h5, zls_filter i.val r6⟩, h6⟩)
theorem zs_astore (hx : p.tables.exec = Jvm.exec) (hb : c.code = cc) {i : Nat} (hdg : decode cc pc = .ok (.astore i, 2)) (h : zx_st zref nL i 2 pc lv st hp nc ns ret = .ok r) (Hk : ∀ (pc : Nat) (lv : ZL) (st : List Value) (hp : List ZE) (nc ns : Nat), ret pc lv st hp nc ns = .ok r → zW p l e R s m args below meth c Q dC dI cA g A nL pc lv st hp nc ns) : zW p l e R s m args below meth c Q dC dI cA g A nL pc lv st hp nc ns := by
  obtain ⟨v, st', rfl, h2, h3, h4⟩ := zx_st_ok h
  intro ws H locs ls clv cst ⟨r1, r2, r3, r4, r5, r6, r7⟩
  obtain ⟨cv, cr, rfl, h5, h6⟩ := zvs_cons r7
  obtain ⟨x, rfl⟩ := zref_ok h2 h5
  exact lv_astore hx hb hdg r5 h3 rfl (fun ls' hl' => Hk _ _ _ _ _ _ h4 ws H locs ls' _ _ ⟨r1, r2, r3, r4, hl', ⟨rfl, h5, zls_filter i r6⟩, h6⟩)
noncomputable def zx_iinc (nL i : Nat) (n : Int) (pc : Nat) (lv : ZL) (st : List Value) (hp : List ZE) (nc ns : Nat) (ret : ZRt) : ZX := match zlk lv i with
  | some (.int x) => cond (Nat.blt i nL) (zi (x + Int32.ofInt n) (fun y => zfl (lv.filter (zkeep i)) (fun lr => ret (pc + 3) ((i, .int y) :: lr) st hp nc ns))) zfail
  | _ => zfail
theorem zs_iinc (hx : p.tables.exec = Jvm.exec) (hb : c.code = cc) {i : Nat} {n : Int} (hdg : decode cc pc = .ok (.iinc i n, 3)) (h : zx_iinc nL i n pc lv st hp nc ns ret = .ok r) (Hk : ∀ (pc : Nat) (lv : ZL) (st : List Value) (hp : List ZE) (nc ns : Nat), ret pc lv st hp nc ns = .ok r → zW p l e R s m args below meth c Q dC dI cA g A nL pc lv st hp nc ns) : zW p l e R s m args below meth c Q dC dI cA g A nL pc lv st hp nc ns := by
  unfold zx_iinc at h
  cases hl : zlk lv i with
  | none => simp only [hl] at h; cases h
  | some v =>
    cases v with
    | int x =>
      simp only [hl] at h
      cases hf : Nat.blt i nL with
      | false => rw [hf] at h; cases h
      | true =>
        rw [hf, cond_true, zi_eq, zfl_eq] at h
        intro ws H locs ls clv cst ⟨r1, r2, r3, r4, r5, r6, r7⟩
        obtain ⟨k, cv, h3, h4, h5⟩ := zs_lv r5 r6 hl
        cases (show cv = _ from h5)
        exact lv_iinc hx hb hdg r5 h3 rfl (zblt hf) rfl (fun ls' hl' => Hk _ _ _ _ _ _ h ws H locs ls' _ _ ⟨r1, r2, r3, r4, hl', ⟨rfl, rfl, zls_filter i r6⟩, r7⟩)
    | ref k => simp only [hl] at h; cases h
    | double k => simp only [hl] at h; cases h
    | long x => simp only [hl] at h; cases h
    | float x => simp only [hl] at h; cases h
    | null => simp only [hl] at h; cases h
    | retAddr x => simp only [hl] at h; cases h
/-- two ints to one -/
noncomputable def zx_bin (E : ZN) (f : Int32 → Int32 → Int32) (pc : Nat) (lv : ZL) (st : List Value) (hp : List ZE) (nc ns : Nat) (ret : ZRt) : ZX := match st with
  | y :: x :: st' => zI E x (fun a => zI E y (fun b => zi (f a b) (fun z => ret (pc + 1) lv (.int z :: st') hp nc ns)))
  | _ => zfail
theorem zs_bin {f : Int32 → Int32 → Int32} (hE : zen E g) (hrow : ∀ (a b : Int32) (H : Heap) (locs : List Loc) (ls : Array Slot) (cst : List Value), W p l e R s m args below meth c H locs nc ns Q (F0 m (pc + 1) ls (.int (f a b) :: cst)) → W p l e R s m args below meth c H locs nc ns Q (F0 m pc ls (.int b :: .int a :: cst))) (h : zx_bin E f pc lv st hp nc ns ret = .ok r) (Hk : ∀ (pc : Nat) (lv : ZL) (st : List Value) (hp : List ZE) (nc ns : Nat), ret pc lv st hp nc ns = .ok r → zW p l e R s m args below meth c Q dC dI cA g A nL pc lv st hp nc ns) : zW p l e R s m args below meth c Q dC dI cA g A nL pc lv st hp nc ns := by
  match st, h with
  | [], h => cases h
  | [_], h => cases h
  | y :: x :: st', h =>
    intro ws H locs ls clv cst ⟨r1, r2, r3, r4, r5, r6, r7⟩
    obtain ⟨cy, cr, rfl, h5, h6⟩ := zvs_cons r7
    obtain ⟨cx, cr, rfl, h7, h8⟩ := zvs_cons h6
    simp only [zx_bin] at h
    obtain ⟨a, rfl, h⟩ := zI_ok hE h7 h
    obtain ⟨b, rfl, h⟩ := zI_ok hE h5 h
    rw [zi_eq] at h
    exact hrow _ _ _ _ _ _ (Hk _ _ _ _ _ _ h ws H locs ls clv _ ⟨r1, r2, r3, r4, r5, r6, rfl, h8⟩)
noncomputable def zx_div (E : ZN) (f : Int32 → Int32 → Int32) (pc : Nat) (lv : ZL) (st : List Value) (hp : List ZE) (nc ns : Nat) (ret : ZRt) : ZX := match st with
  | y :: x :: st' => zI E x (fun a => zI E y (fun b => cond (decide (b = 0)) zfail (zi (f a b) (fun z => ret (pc + 1) lv (.int z :: st') hp nc ns))))
  | _ => zfail
theorem zs_div {f : Int32 → Int32 → Int32} (hE : zen E g) (hrow : ∀ (a b : Int32) (H : Heap) (locs : List Loc) (ls : Array Slot) (cst : List Value), ¬ b = 0 → W p l e R s m args below meth c H locs nc ns Q (F0 m (pc + 1) ls (.int (f a b) :: cst)) → W p l e R s m args below meth c H locs nc ns Q (F0 m pc ls (.int b :: .int a :: cst))) (h : zx_div E f pc lv st hp nc ns ret = .ok r) (Hk : ∀ (pc : Nat) (lv : ZL) (st : List Value) (hp : List ZE) (nc ns : Nat), ret pc lv st hp nc ns = .ok r → zW p l e R s m args below meth c Q dC dI cA g A nL pc lv st hp nc ns) : zW p l e R s m args below meth c Q dC dI cA g A nL pc lv st hp nc ns := by
  match st, h with
  | [], h => cases h
  | [_], h => cases h
  | y :: x :: st', h =>
    intro ws H locs ls clv cst ⟨r1, r2, r3, r4, r5, r6, r7⟩
    obtain ⟨cy, cr, rfl, h5, h6⟩ := zvs_cons r7
    obtain ⟨cx, cr, rfl, h7, h8⟩ := zvs_cons h6
    simp only [zx_div] at h
    obtain ⟨a, rfl, h⟩ := zI_ok hE h7 h
    obtain ⟨b, rfl, h⟩ := zI_ok hE h5 h
    by_cases hb0 : b = 0
    · rw [decide_eq_true hb0] at h
      cases h
    · rw [decide_eq_false hb0, cond_false, zi_eq] at h
      exact hrow _ _ _ _ _ _ hb0 (Hk _ _ _ _ _ _ h ws H locs ls clv _ ⟨r1, r2, r3, r4, r5, r6, rfl, h8⟩)
/-- the law's own 'script[0] & 31' is token 7 -/
def zis (x y : Value) : Bool := match x, y with
  | .retAddr t, .int b => Nat.beq t 0 && decide (b = 31)
  | _, _ => false
noncomputable def zx_and (E : ZN) (pc : Nat) (lv : ZL) (st : List Value) (hp : List ZE) (nc ns : Nat) (ret : ZRt) : ZX := match st with
  | y :: x :: st' => cond (zis x y) (ret (pc + 1) lv (.retAddr 7 :: st') hp nc ns) (zx_bin E (fun a b => a &&& b) pc lv (y :: x :: st') hp nc ns ret)
  | _ => zfail
theorem zs_and (hx : p.tables.exec = Jvm.exec) (hb : c.code = cc) (hE : zen E g) (hg : g.1 7 = g.1 0 &&& 31) (hdg : decode cc pc = .ok (.iand, 1)) (h : zx_and E pc lv st hp nc ns ret = .ok r) (Hk : ∀ (pc : Nat) (lv : ZL) (st : List Value) (hp : List ZE) (nc ns : Nat), ret pc lv st hp nc ns = .ok r → zW p l e R s m args below meth c Q dC dI cA g A nL pc lv st hp nc ns) : zW p l e R s m args below meth c Q dC dI cA g A nL pc lv st hp nc ns := by
  match st, h with
  | [], h => cases h
  | [_], h => cases h
  | y :: x :: st', h =>
    simp only [zx_and] at h
    cases hz : zis x y with
    | false =>
      rw [hz, cond_false] at h
      exact zs_bin hE (fun a b H locs ls cst k => lv_iand hx hb hdg k) h Hk
    | true =>
      rw [hz, cond_true] at h
      intro ws H locs ls clv cst ⟨r1, r2, r3, r4, r5, r6, r7⟩
      obtain ⟨cy, cr, rfl, h5, h6⟩ := zvs_cons r7
      obtain ⟨cx, cr, rfl, h7, h8⟩ := zvs_cons h6
      cases x with
      | retAddr t =>
        cases y with
        | int b =>
          have hz2 : (Nat.beq t 0 && decide (b = 31)) = true := hz
          rw [Bool.and_eq_true] at hz2
          have ht := Nat.beq_eq.mp hz2.1
          have hb31 := of_decide_eq_true hz2.2
          cases (show cx = _ from h7)
          cases (show cy = _ from h5)
          subst ht
          subst hb31
          refine lv_iand hx hb hdg ?_
          rw [← hg]
          exact Hk _ _ _ _ _ _ h ws H locs ls clv _ ⟨r1, r2, r3, r4, r5, r6, rfl, h8⟩
        | _ => cases hz
      | _ => cases hz
/-- jumps -/
noncomputable def zj (pc : Nat) (off : Int) (k : Nat → ZX) : ZX := cond (decide (0 ≤ (pc : Int) + off)) (zn ((pc : Int) + off).toNat k) zfail
theorem zj_ok {off : Int} {k : Nat → ZX} (h : zj pc off k = .ok r) : ∃ tgt : Nat, (pc : Int) + off = (tgt : Int) ∧ k tgt = .ok r := by
  unfold zj at h
  by_cases hc : 0 ≤ (pc : Int) + off
  · rw [decide_eq_true hc, cond_true, zn_eq] at h
    exact ⟨_, by omega, h⟩
  · rw [decide_eq_false hc] at h
    cases h
theorem zs_goto (hx : p.tables.exec = Jvm.exec) (hb : c.code = cc) {off : Int} (hdg : decode cc pc = .ok (.goto off, 3)) (h : zj pc off (fun t => ret t lv st hp nc ns) = .ok r) (Hk : ∀ (pc : Nat) (lv : ZL) (st : List Value) (hp : List ZE) (nc ns : Nat), ret pc lv st hp nc ns = .ok r → zW p l e R s m args below meth c Q dC dI cA g A nL pc lv st hp nc ns) : zW p l e R s m args below meth c Q dC dI cA g A nL pc lv st hp nc ns := by
  obtain ⟨tgt, h1, h2⟩ := zj_ok h
  intro ws H locs ls clv cst ⟨r1, r2, r3, r4, r5, r6, r7⟩
  exact lv_goto hx hb hdg h1 (Hk _ _ _ _ _ _ h2 ws H locs ls clv _ ⟨r1, r2, r3, r4, r5, r6, r7⟩)
theorem zw_icmp (hx : p.tables.exec = Jvm.exec) (hb : c.code = cc) {op : ClassFile.Cond} {off : Int} {tgt : Nat} {H : Heap} {locs : List Loc} {ls : Array Slot} {rest : List Value} {x y : Int32} (hdg : decode cc pc = .ok (.if_icmp op off, 3)) (ht : (pc : Int) + off = (tgt : Int))
    (kt : zro op x.toInt y.toInt = true → W p l e R s m args below meth c H locs nc ns Q (F0 m tgt ls rest)) (kf : zro op x.toInt y.toInt = false → W p l e R s m args below meth c H locs nc ns Q (F0 m (pc + 3) ls rest)) : W p l e R s m args below meth c H locs nc ns Q (F0 m pc ls (.int y :: .int x :: rest)) := by
  have e1 : x = y ↔ x.toInt = y.toInt := Int32.toInt_inj.symm
  have e2 : x < y ↔ x.toInt < y.toInt := Int32.lt_iff_toInt_lt
  have e3 : x ≤ y ↔ x.toInt ≤ y.toInt := Int32.le_iff_toInt_le
  have e4 : y < x ↔ y.toInt < x.toInt := Int32.lt_iff_toInt_lt
  have e5 : y ≤ x ↔ y.toInt ≤ x.toInt := Int32.le_iff_toInt_le
  cases op with
  | eq => exact lv_icmp_eq hx hb hdg ht (fun q => kt (by simp [zro, e1.mp q])) (fun q => kf (by simp only [zro]; exact decide_eq_false (fun z => q (e1.mpr z))))
  | ne => exact lv_icmp_ne hx hb hdg ht (fun q => kt (by simp only [zro]; rw [decide_eq_false (fun z => q (e1.mpr z))]; rfl)) (fun q => kf (by simp only [zro]; rw [decide_eq_true (e1.mp q)]; rfl))
  | lt => exact lv_icmp_lt hx hb hdg ht (fun q => kt (by simp only [zro]; exact decide_eq_true (e2.mp q))) (fun q => kf (by simp only [zro]; exact decide_eq_false (fun z => q (e2.mpr z))))
  | ge => exact lv_icmp_ge hx hb hdg ht (fun q => kt (by simp only [zro]; rw [decide_eq_false (by have := e5.mp q; omega)]; rfl)) (fun q => kf (by simp only [zro]; rw [decide_eq_true (by have : ¬ y.toInt ≤ x.toInt := fun z => q (e5.mpr z); omega)]; rfl))
  | gt => exact lv_icmp_gt hx hb hdg ht (fun q => kt (by simp only [zro]; rw [decide_eq_false (by have := e4.mp q; omega)]; rfl)) (fun q => kf (by simp only [zro]; rw [decide_eq_true (by have : ¬ y.toInt < x.toInt := fun z => q (e4.mpr z); omega)]; rfl))
  | le => exact lv_icmp_le hx hb hdg ht (fun q => kt (by simp only [zro]; exact decide_eq_true (by have := e3.mp q; omega))) (fun q => kf (by simp only [zro]; exact decide_eq_false (by have : ¬ x.toInt ≤ y.toInt := fun z => q (e3.mpr z); omega)))
theorem zw_if (hx : p.tables.exec = Jvm.exec) (hb : c.code = cc) {op : ClassFile.Cond} {off : Int} {tgt : Nat} {H : Heap} {locs : List Loc} {ls : Array Slot} {rest : List Value} {x : Int32} (hdg : decode cc pc = .ok (.ifCond op off, 3)) (ht : (pc : Int) + off = (tgt : Int))
    (kt : zro op x.toInt (0 : Int32).toInt = true → W p l e R s m args below meth c H locs nc ns Q (F0 m tgt ls rest)) (kf : zro op x.toInt (0 : Int32).toInt = false → W p l e R s m args below meth c H locs nc ns Q (F0 m (pc + 3) ls rest)) : W p l e R s m args below meth c H locs nc ns Q (F0 m pc ls (.int x :: rest)) := by
  obtain ⟨y, hy⟩ : ∃ y : Int32, y = 0 := ⟨0, rfl⟩
  rw [← hy] at kt kf
  have e1 : x = y ↔ x.toInt = y.toInt := Int32.toInt_inj.symm
  have e2 : x < y ↔ x.toInt < y.toInt := Int32.lt_iff_toInt_lt
  have e3 : x ≤ y ↔ x.toInt ≤ y.toInt := Int32.le_iff_toInt_le
  have e4 : y < x ↔ y.toInt < x.toInt := Int32.lt_iff_toInt_lt
  have e5 : y ≤ x ↔ y.toInt ≤ x.toInt := Int32.le_iff_toInt_le
  cases op with
  | eq => exact lv_if_eq hx hb hdg ht (fun q => kt (by rw [← hy] at q; simp [zro, e1.mp q])) (fun q => kf (by rw [← hy] at q; simp only [zro]; exact decide_eq_false (fun z => q (e1.mpr z))))
  | ne => exact lv_if_ne hx hb hdg ht (fun q => kt (by rw [← hy] at q; simp only [zro]; rw [decide_eq_false (fun z => q (e1.mpr z))]; rfl)) (fun q => kf (by rw [← hy] at q; simp only [zro]; rw [decide_eq_true (e1.mp q)]; rfl))
  | lt => exact lv_if_lt hx hb hdg ht (fun q => kt (by rw [← hy] at q; simp only [zro]; exact decide_eq_true (e2.mp q))) (fun q => kf (by rw [← hy] at q; simp only [zro]; exact decide_eq_false (fun z => q (e2.mpr z))))
  | ge => exact lv_if_ge hx hb hdg ht (fun q => kt (by rw [← hy] at q; simp only [zro]; rw [decide_eq_false (by have := e5.mp q; omega)]; rfl)) (fun q => kf (by rw [← hy] at q; simp only [zro]; rw [decide_eq_true (by have : ¬ y.toInt ≤ x.toInt := fun z => q (e5.mpr z); omega)]; rfl))
  | gt => exact lv_if_gt hx hb hdg ht (fun q => kt (by rw [← hy] at q; simp only [zro]; rw [decide_eq_false (by have := e4.mp q; omega)]; rfl)) (fun q => kf (by rw [← hy] at q; simp only [zro]; rw [decide_eq_true (by have : ¬ y.toInt < x.toInt := fun z => q (e4.mpr z); omega)]; rfl))
  | le => exact lv_if_le hx hb hdg ht (fun q => kt (by rw [← hy] at q; simp only [zro]; exact decide_eq_true (by have := e3.mp q; omega))) (fun q => kf (by rw [← hy] at q; simp only [zro]; exact decide_eq_false (by have : ¬ x.toInt ≤ y.toInt := fun z => q (e3.mpr z); omega)))
noncomputable def zx_icmp (E : ZN) (op : ClassFile.Cond) (off : Int) (pc : Nat) (lv : ZL) (st : List Value) (hp : List ZE) (nc ns : Nat) (ret : ZRt) : ZX := match st with
  | y :: x :: st' => zcmp E op x y (fun d => zj pc off (fun t => cond d (ret t lv st' hp nc ns) (ret (pc + 3) lv st' hp nc ns)))
  | _ => zfail
theorem zs_icmp (hx : p.tables.exec = Jvm.exec) (hb : c.code = cc) (hE : zen E g) {op : ClassFile.Cond} {off : Int} (hdg : decode cc pc = .ok (.if_icmp op off, 3)) (h : zx_icmp E op off pc lv st hp nc ns ret = .ok r) (Hk : ∀ (pc : Nat) (lv : ZL) (st : List Value) (hp : List ZE) (nc ns : Nat), ret pc lv st hp nc ns = .ok r → zW p l e R s m args below meth c Q dC dI cA g A nL pc lv st hp nc ns) : zW p l e R s m args below meth c Q dC dI cA g A nL pc lv st hp nc ns := by
  match st, h with
  | [], h => cases h
  | [_], h => cases h
  | y :: x :: st', h =>
    intro ws H locs ls clv cst ⟨r1, r2, r3, r4, r5, r6, r7⟩
    obtain ⟨cy, cr, rfl, h5, h6⟩ := zvs_cons r7
    obtain ⟨cx, cr, rfl, h7, h8⟩ := zvs_cons h6
    simp only [zx_icmp] at h
    obtain ⟨a, b, rfl, rfl, h⟩ := zcmp_ok hE h7 h5 h
    obtain ⟨tgt, ht, h⟩ := zj_ok h
    refine zw_icmp hx hb hdg ht (fun q => ?_) (fun q => ?_)
    · rw [q, cond_true] at h
      exact Hk _ _ _ _ _ _ h ws H locs ls clv _ ⟨r1, r2, r3, r4, r5, r6, h8⟩
    · rw [q, cond_false] at h
      exact Hk _ _ _ _ _ _ h ws H locs ls clv _ ⟨r1, r2, r3, r4, r5, r6, h8⟩
noncomputable def zx_if (E : ZN) (op : ClassFile.Cond) (off : Int) (pc : Nat) (lv : ZL) (st : List Value) (hp : List ZE) (nc ns : Nat) (ret : ZRt) : ZX := match st with
  | x :: st' => zcmp E op x (.int 0) (fun d => zj pc off (fun t => cond d (ret t lv st' hp nc ns) (ret (pc + 3) lv st' hp nc ns)))
  | _ => zfail
theorem zs_if (hx : p.tables.exec = Jvm.exec) (hb : c.code = cc) (hE : zen E g) {op : ClassFile.Cond} {off : Int} (hdg : decode cc pc = .ok (.ifCond op off, 3)) (h : zx_if E op off pc lv st hp nc ns ret = .ok r) (Hk : ∀ (pc : Nat) (lv : ZL) (st : List Value) (hp : List ZE) (nc ns : Nat), ret pc lv st hp nc ns = .ok r → zW p l e R s m args below meth c Q dC dI cA g A nL pc lv st hp nc ns) : zW p l e R s m args below meth c Q dC dI cA g A nL pc lv st hp nc ns := by
  match st, h with
  | [], h => cases h
  | x :: st', h =>
    intro ws H locs ls clv cst ⟨r1, r2, r3, r4, r5, r6, r7⟩
    obtain ⟨cx, cr, rfl, h7, h8⟩ := zvs_cons r7
    simp only [zx_if] at h
    obtain ⟨a, b, rfl, e0, h⟩ := zcmp_ok (ad := zad ws) (y := .int 0) (cy := .int 0) hE h7 (show zv (zad ws) g (.int 0) (.int 0) from rfl) h
    cases e0
    obtain ⟨tgt, ht, h⟩ := zj_ok h
    refine zw_if hx hb hdg ht (fun q => ?_) (fun q => ?_)
    · rw [q, cond_true] at h
      exact Hk _ _ _ _ _ _ h ws H locs ls clv _ ⟨r1, r2, r3, r4, r5, r6, h8⟩
    · rw [q, cond_false] at h
      exact Hk _ _ _ _ _ _ h ws H locs ls clv _ ⟨r1, r2, r3, r4, r5, r6, h8⟩
/-- the switch -/
noncomputable def zx_tsw (E : ZN) (dflt lo hi : Int) (offs : List Int) (pc : Nat) (lv : ZL) (st : List Value) (hp : List ZE) (nc ns : Nat) (ret : ZRt) : ZX := match st with
  | x :: st' => zrg E x (fun a b t => zlt a b lo t (fun d => cond d (zj pc dflt (fun q => ret q lv st' hp nc ns)) (zlt a b (hi + 1) t (fun d => cond d (zI E x (fun z => match zget offs (z.toInt - lo).toNat with
    | some off => zj pc off (fun q => ret q lv st' hp nc ns)
    | none => zfail)) (zj pc dflt (fun q => ret q lv st' hp nc ns))))))
  | _ => zfail
theorem zs_tsw (hx : p.tables.exec = Jvm.exec) (hb : c.code = cc) (hE : zen E g) {dflt lo hi : Int} {offs : Array Int} {len : Nat} (hdg : decode cc pc = .ok (.tableswitch dflt lo hi offs, len)) (h : zx_tsw E dflt lo hi offs.toList pc lv st hp nc ns ret = .ok r) (Hk : ∀ (pc : Nat) (lv : ZL) (st : List Value) (hp : List ZE) (nc ns : Nat), ret pc lv st hp nc ns = .ok r → zW p l e R s m args below meth c Q dC dI cA g A nL pc lv st hp nc ns) : zW p l e R s m args below meth c Q dC dI cA g A nL pc lv st hp nc ns := by
  match st, h with
  | [], h => cases h
  | x :: st', h =>
    intro ws H locs ls clv cst ⟨r1, r2, r3, r4, r5, r6, r7⟩
    obtain ⟨cx, cr, rfl, h7, h8⟩ := zvs_cons r7
    simp only [zx_tsw] at h
    obtain ⟨a, l0, h0, t, rfl, b1, b2, h⟩ := zrg_ok hE h7 h
    have h := zlt_ok b1 b2 h
    by_cases q1 : a.toInt < lo
    · rw [decide_eq_true q1, cond_true] at h
      obtain ⟨tgt, ht, h⟩ := zj_ok h
      exact lv_tableOut hx hb hdg (Or.inl q1) ht (Hk _ _ _ _ _ _ h ws H locs ls clv _ ⟨r1, r2, r3, r4, r5, r6, h8⟩)
    · rw [decide_eq_false q1, cond_false] at h
      have h := zlt_ok b1 b2 h
      by_cases q2 : a.toInt < hi + 1
      · rw [decide_eq_true q2, cond_true] at h
        obtain ⟨z, e1, h⟩ := zI_ok hE h7 h
        cases e1
        rw [zget_eq, Array.getElem?_toList] at h
        cases ho : offs[(a.toInt - lo).toNat]? with
        | none => simp only [ho] at h; cases h
        | some off =>
          simp only [ho] at h
          obtain ⟨tgt, ht, h⟩ := zj_ok h
          exact lv_tableIn hx hb hdg q1 (by omega) ho ht (Hk _ _ _ _ _ _ h ws H locs ls clv _ ⟨r1, r2, r3, r4, r5, r6, h8⟩)
      · rw [decide_eq_false q2, cond_false] at h
        obtain ⟨tgt, ht, h⟩ := zj_ok h
        exact lv_tableOut hx hb hdg (Or.inr (by omega)) ht (Hk _ _ _ _ _ _ h ws H locs ls clv _ ⟨r1, r2, r3, r4, r5, r6, h8⟩)
/-- the stack -/
noncomputable def zx_dup (pc : Nat) (lv : ZL) (st : List Value) (hp : List ZE) (nc ns : Nat) (ret : ZRt) : ZX := match st with
  | v :: st' => cond (Nat.beq v.category 1) (ret (pc + 1) lv (v :: v :: st') hp nc ns) zfail
  | _ => zfail
theorem zs_dup (hx : p.tables.exec = Jvm.exec) (hb : c.code = cc) (hdg : decode cc pc = .ok (.dup, 1)) (h : zx_dup pc lv st hp nc ns ret = .ok r) (Hk : ∀ (pc : Nat) (lv : ZL) (st : List Value) (hp : List ZE) (nc ns : Nat), ret pc lv st hp nc ns = .ok r → zW p l e R s m args below meth c Q dC dI cA g A nL pc lv st hp nc ns) : zW p l e R s m args below meth c Q dC dI cA g A nL pc lv st hp nc ns := by
  match st, h with
  | [], h => cases h
  | v :: st', h =>
    intro ws H locs ls clv cst ⟨r1, r2, r3, r4, r5, r6, r7⟩
    obtain ⟨cv, cr, rfl, h7, h8⟩ := zvs_cons r7
    simp only [zx_dup] at h
    cases hc : Nat.beq v.category 1 with
    | false => rw [hc] at h; cases h
    | true =>
      rw [hc, cond_true] at h
      exact lv_dup hx hb hdg ((zv_cat h7).trans (Nat.beq_eq.mp hc)) (Hk _ _ _ _ _ _ h ws H locs ls clv _ ⟨r1, r2, r3, r4, r5, r6, h7, h7, h8⟩)
noncomputable def zx_dup2 (pc : Nat) (lv : ZL) (st : List Value) (hp : List ZE) (nc ns : Nat) (ret : ZRt) : ZX := match st with
  | v :: w :: st' => cond (Nat.beq v.category 1 && Nat.beq w.category 1) (ret (pc + 1) lv (v :: w :: v :: w :: st') hp nc ns) zfail
  | _ => zfail
theorem zs_dup2 (hx : p.tables.exec = Jvm.exec) (hb : c.code = cc) (hdg : decode cc pc = .ok (.dup2, 1)) (h : zx_dup2 pc lv st hp nc ns ret = .ok r) (Hk : ∀ (pc : Nat) (lv : ZL) (st : List Value) (hp : List ZE) (nc ns : Nat), ret pc lv st hp nc ns = .ok r → zW p l e R s m args below meth c Q dC dI cA g A nL pc lv st hp nc ns) : zW p l e R s m args below meth c Q dC dI cA g A nL pc lv st hp nc ns := by
  match st, h with
  | [], h => cases h
  | [_], h => cases h
  | v :: w :: st', h =>
    intro ws H locs ls clv cst ⟨r1, r2, r3, r4, r5, r6, r7⟩
    obtain ⟨cv, cr, rfl, h7, h8⟩ := zvs_cons r7
    obtain ⟨cw, cr, rfl, h9, h10⟩ := zvs_cons h8
    simp only [zx_dup2] at h
    cases hc : (Nat.beq v.category 1 && Nat.beq w.category 1) with
    | false => rw [hc] at h; cases h
    | true =>
      rw [hc, cond_true] at h
      rw [Bool.and_eq_true] at hc
      exact lv_dup2_11 hx hb hdg ((zv_cat h7).trans (Nat.beq_eq.mp hc.1)) ((zv_cat h9).trans (Nat.beq_eq.mp hc.2)) (Hk _ _ _ _ _ _ h ws H locs ls clv _ ⟨r1, r2, r3, r4, r5, r6, h7, h9, h7, h9, h10⟩)
noncomputable def zx_pop (pc : Nat) (lv : ZL) (st : List Value) (hp : List ZE) (nc ns : Nat) (ret : ZRt) : ZX := match st with
  | v :: st' => cond (Nat.beq v.category 1) (ret (pc + 1) lv st' hp nc ns) zfail
  | _ => zfail
theorem zs_pop (hx : p.tables.exec = Jvm.exec) (hb : c.code = cc) (hdg : decode cc pc = .ok (.pop, 1)) (h : zx_pop pc lv st hp nc ns ret = .ok r) (Hk : ∀ (pc : Nat) (lv : ZL) (st : List Value) (hp : List ZE) (nc ns : Nat), ret pc lv st hp nc ns = .ok r → zW p l e R s m args below meth c Q dC dI cA g A nL pc lv st hp nc ns) : zW p l e R s m args below meth c Q dC dI cA g A nL pc lv st hp nc ns := by
  match st, h with
  | [], h => cases h
  | v :: st', h =>
    intro ws H locs ls clv cst ⟨r1, r2, r3, r4, r5, r6, r7⟩
    obtain ⟨cv, cr, rfl, h7, h8⟩ := zvs_cons r7
    simp only [zx_pop] at h
    cases hc : Nat.beq v.category 1 with
    | false => rw [hc] at h; cases h
    | true =>
      rw [hc, cond_true] at h
      exact lv_pop hx hb hdg ((zv_cat h7).trans (Nat.beq_eq.mp hc)) (Hk _ _ _ _ _ _ h ws H locs ls clv _ ⟨r1, r2, r3, r4, r5, r6, h8⟩)
end ZST
end
section
/-! steps on cells -/
def zin (i : Nat) (w : Cond) : Bool := decide (lw_tbl[i]? = some w) && goodWord w
theorem zin_ok {i : Nat} {w : Cond} (h : zin i w = true) : w ∈ zT := by
  unfold zin at h
  rw [Bool.and_eq_true] at h
  exact List.mem_filter.mpr ⟨List.mem_of_getElem? (of_decide_eq_true h.1), h.2⟩
/-- words that a warm-up may move: links between nest mates; rows over two classes -/
def znst (w : Cond) : Bool := match w with
  | .methodLinkNest _ _ _ _ => true
  | _ => false
def zNl : List Cond := lw_tbl.filter znst
def zinN (i : Nat) (w : Cond) : Bool := decide (lw_tbl[i]? = some w) && znst w
theorem zinN_ok {i : Nat} {w : Cond} (h : zinN i w = true) : w ∈ zNl := by
  unfold zinN at h
  rw [Bool.and_eq_true] at h
  exact List.mem_filter.mpr ⟨List.mem_of_getElem? (of_decide_eq_true h.1), h.2⟩
def zX (U : State) : Prop := (∀ w ∈ zNl, va_Nw w U) ∧ va_AO "NamesUnder$Wall" U ∧ va_AO "NamesUnder$Order" U
theorem zX.warm {s U : State} (hW : s.WarmedH U.vm) (h : zX s) : zX U := by
  refine ⟨fun w hw => ?_, va_AO.moved hW.alike h.2.1, va_AO.moved hW.alike h.2.2⟩
  have h1 := h.1 w hw
  have h2 := (List.mem_filter.mp hw).2
  cases w with
  | methodLinkNest a i x b => exact va_Nw.warmM hW h1
  | _ => cases h2
theorem zX.same {s U : State} (hv : s.vm = U.vm) (h : zX s) : zX U := by
  have ha : s.vm.Alike U.vm := by rw [hv]; exact Vm.Alike.refl _
  refine ⟨fun w hw => ?_, va_AO.moved ha h.2.1, va_AO.moved ha h.2.2⟩
  have h1 := h.1 w hw
  have h2 := (List.mem_filter.mp hw).2
  cases w with
  | methodLinkNest a i x b => exact va_Nw.same rfl hv h1
  | _ => cases h2
def zchk : List Cond → List Nat → Bool
  | [], _ => true
  | w :: ws, i :: is => zin i w && zchk ws is
  | _ :: _, [] => false
theorem zchk_ok {ws : List Cond} : ∀ {is : List Nat}, zchk ws is = true → ∀ w ∈ ws, w ∈ zT := by
  induction ws with
  | nil => exact fun _ w h => absurd h List.not_mem_nil
  | cons v ws ih =>
    intro is h w hw
    cases is with
    | nil => cases h
    | cons i is =>
      have h2 : (zin i v && zchk ws is) = true := h
      rw [Bool.and_eq_true] at h2
      rcases List.mem_cons.mp hw with rfl | h3
      · exact zin_ok h2.1
      · exact ih h2.2 w h3
theorem zra_eq {U : State} {c1 c2 : ClassId} {ty : FieldType} (h1 : va_RA U c1 ty) (h2 : va_RA U c2 ty) : c1 = c2 := by
  cases ty with
  | object C =>
    obtain ⟨_, _, _, _, _, e1⟩ := h1
    obtain ⟨_, _, _, _, _, e2⟩ := h2
    exact Option.some.inj (e1.symm.trans e2)
  | _ => exact Option.some.inj ((show U.vm.findClass _ = some c1 from h1).symm.trans (show U.vm.findClass _ = some c2 from h2))
def zix (a : Int32) (n : Nat) : Bool := decide (0 ≤ a.toInt) && decide (a.toInt < (n : Int))
theorem zix_ok {a : Int32} {n : Nat} (h : zix a n = true) : vp_in a n := by
  unfold zix at h
  rw [Bool.and_eq_true] at h
  exact vp_in_iff.mpr ⟨of_decide_eq_true h.1, of_decide_eq_true h.2⟩
noncomputable def zek {α : Type} (t : Nat) (us : ZL) (j : Nat) (k : Value → α) : α := match zlk us j with
  | some v => k v
  | none => k (zdv t)
theorem zek_eq {α : Type} (t : Nat) (us : ZL) (j : Nat) (k : Value → α) : zek t us j k = k (zel t us j) := by
  unfold zek zel
  cases zlk us j <;> rfl
noncomputable def zup {α : Type} (us : ZL) (j : Nat) (v : Value) (k : ZL → α) : α := zn j (fun j => zfl (zdrop us j) (fun lr => k ((j, v) :: lr)))
theorem zup_eq {α : Type} (us : ZL) (j : Nat) (v : Value) (k : ZL → α) : zup us j v k = k ((j, v) :: zdrop us j) := by
  unfold zup
  rw [zn_eq, zfl_eq]
theorem zobj {ad : List Nat} {g : ZG} {cA : Nat → ClassId} {x : Nat × List Value} {w : va_E} (h : ze ad g cA (.inr x) w) : ∃ gs, w = .inr (x.1, gs) ∧ zvs ad g x.2 gs := h
theorem zarr {ad : List Nat} {g : ZG} {cA : Nat → ClassId} {x : Nat × Nat × ZL} {w : va_E} (h : ze ad g cA (.inl x) w) : ∃ arr, w = .inl (cA x.1, x.2.1, arr) ∧ za ad g x.1 x.2.2 arr := h
def zkd (kd : Nat) (w : Value) : Bool := match kd with
  | 0 => zint w
  | 1 => (match w with
    | .int x => decide (x = 0) || decide (x = 1)
    | _ => false)
  | _ => (match w with
    | .ref _ => true
    | _ => false)
def zkt (kd : Nat) (ty : FieldType) : Bool := match kd, ty with
  | 0, .int => true
  | 1, .boolean => true
  | 2, .object _ => true
  | 2, .array _ => true
  | _, _ => false
theorem zkd_ok {ad : List Nat} {g : ZG} {kd : Nat} {ty : FieldType} {w cw : Value} (h : zkd kd w = true) (ht : zkt kd ty = true) (hv : zv ad g w cw) : narrow ty cw = cw ∧ fits ty cw = true := by
  match kd, h, ht with
  | 0, h, ht =>
    obtain ⟨x, rfl⟩ := zint_ok (show zint w = true from h) hv
    cases ty with
    | int => exact ⟨rfl, rfl⟩
    | _ => cases ht
  | 1, h, ht =>
    cases w with
    | int x =>
      cases (show cw = _ from hv)
      have h2 : (decide (x = 0) || decide (x = 1)) = true := h
      rw [Bool.or_eq_true] at h2
      cases ty with
      | boolean =>
        rcases h2 with h2 | h2
        · cases of_decide_eq_true h2
          exact ⟨rfl, rfl⟩
        · cases of_decide_eq_true h2
          exact ⟨rfl, rfl⟩
      | _ => cases ht
    | _ => cases h
  | 2, h, ht =>
    cases w with
    | ref q =>
      obtain ⟨a, -, rfl⟩ := hv
      cases ty with
      | object C => exact ⟨rfl, rfl⟩
      | array C => exact ⟨rfl, rfl⟩
      | _ => cases ht
    | _ => cases h
  | n + 3, h, ht => simp [zkt] at ht
theorem z13 : (1 : Nat) < 3 := by decide
theorem z23 : (2 : Nat) < 3 := by decide
theorem z34 : (3 : Nat) < 4 := by decide
theorem z35 : (3 : Nat) < 5 := by decide
section ZHP
variable {p : Program} {l : Launch} {e : Env} {R : Room} {s : State} {m : MethodId} {args : Array Value} {below : List Frame} {meth : Method} {c : Code} {Q : State → Prop} {dC : Nat → ClassId} {dI : Nat → Nat → Nat} {cA : Nat → ClassId} {g : ZG} {A : Nat → Prop} {nL : Nat} {cc : ByteArray} {pc : Nat} {lv : ZL} {st : List Value} {hp : List ZE} {nc ns : Nat} {ret : ZRt} {r : ZS} {E : ZN} {own : String}
noncomputable def zx_getf (ci f : Nat) (pc : Nat) (lv : ZL) (st : List Value) (hp : List ZE) (nc ns : Nat) (ret : ZRt) : ZX := match st with
  | v :: st' => zrf hp v (fun _ e => match e with
    | .inr x => cond (Nat.beq x.1 ci) (match zget x.2 f with
      | some w => ret (pc + 3) lv (w :: st') hp nc ns
      | none => zfail) zfail
    | .inl _ => zfail)
  | [] => zfail
theorem zs_getf (hx : p.tables.exec = Jvm.exec) (hb : c.code = cc) (hown : s.vm.findClass own = some m.cls) (hts : ∀ w ∈ zT, w.before args s = true) (hK : va_K (dC, dI) vwCl (ztys cA) s) {idx ci f N : Nat} {C : String} {T : u_T} (hin : ∀ w ∈ u_ws C T N, w ∈ zT) (hc : vwCl[ci]? = some (C, T, N)) (hf : f < N) (hlk : Cond.fieldLink own idx (T f).1 (T f).2.1 (T f).2.2.1 ∈ zT) (hdg : decode cc pc = .ok (.getfield idx, 3)) (h : zx_getf ci f pc lv st hp nc ns ret = .ok r) (Hk : ∀ (pc : Nat) (lv : ZL) (st : List Value) (hp : List ZE) (nc ns : Nat), ret pc lv st hp nc ns = .ok r → zW p l e R s m args below meth c Q dC dI cA g A nL pc lv st hp nc ns) : zW p l e R s m args below meth c Q dC dI cA g A nL pc lv st hp nc ns := by
  match st, h with
  | [], h => cases h
  | v :: st', h =>
    intro ws H locs ls clv cst ⟨r1, r2, r3, r4, r5, r6, r7⟩
    obtain ⟨cv, cr, rfl, h7, h8⟩ := zvs_cons r7
    simp only [zx_getf] at h
    obtain ⟨q, e, a, w, rfl, hq, rfl, hw, hze, h⟩ := zrf_ok r1 h7 h
    cases e with
    | inl x => cases h
    | inr x =>
      simp only at h
      obtain ⟨gs, rfl, hgs⟩ := zobj hze
      cases hb1 : Nat.beq x.1 ci with
      | false => rw [hb1] at h; cases h
      | true =>
        rw [hb1, cond_true, zget_eq] at h
        have e1 := Nat.beq_eq.mp hb1
        cases hv : x.2[f]? with
        | none => simp only [hv] at h; cases h
        | some u =>
          simp only [hv] at h
          obtain ⟨cu, h9, h10⟩ := zvs_get hgs hv
          rw [e1] at hw
          exact va_get hx hb hts hin hown hK r2 q hw hc f hf (hts _ hlk) (fun _ z => z) h9 hdg (Hk _ _ _ _ _ _ h ws H locs ls clv _ ⟨r1, r2, r3, r4, r5, r6, h10, h8⟩)
noncomputable def zx_putf (ci f kd : Nat) (pc : Nat) (lv : ZL) (st : List Value) (hp : List ZE) (nc ns : Nat) (ret : ZRt) : ZX := match st with
  | w :: v :: st' => zrf hp v (fun q e => match e with
    | .inr x => cond (Nat.beq x.1 ci && zkd kd w) (match zget x.2 f with
      | some _ => zsk x.2 w f (fun fs => zsk hp (.inr (ci, fs)) q (fun hp' => ret (pc + 3) lv st' hp' nc ns))
      | none => zfail) zfail
    | .inl _ => zfail)
  | _ => zfail
theorem zx_putf_ok {ci f kd : Nat} {w v : Value} {st' : List Value} {ws : va_W} {cv : Value} (r1 : zh g cA hp ws) (h7 : zv (zad ws) g v cv) (h : zx_putf ci f kd pc lv (w :: v :: st') hp nc ns ret = .ok r) : ∃ (q a : Nat) (fs gs : List Value), cv = .ref a ∧ ws[q]? = some (a, .inr (ci, gs)) ∧ zvs (zad ws) g fs gs ∧ zkd kd w = true ∧ f < gs.length ∧ ret (pc + 3) lv st' (hp.set q (.inr (ci, fs.set f w))) nc ns = .ok r := by
  simp only [zx_putf] at h
  obtain ⟨q, e, a, w2, rfl, hq, rfl, hw, hze, h⟩ := zrf_ok r1 h7 h
  cases e with
  | inl x => cases h
  | inr x =>
    simp only at h
    obtain ⟨gs, rfl, hgs⟩ := zobj hze
    cases hb1 : (Nat.beq x.1 ci && zkd kd w) with
    | false => rw [hb1] at h; cases h
    | true =>
      rw [hb1, cond_true, zget_eq] at h
      rw [Bool.and_eq_true] at hb1
      have e1 := Nat.beq_eq.mp hb1.1
      cases hv : x.2[f]? with
      | none => simp only [hv] at h; cases h
      | some u =>
        simp only [hv] at h
        rw [zsk_eq, zsk_eq] at h
        rw [e1] at hw
        obtain ⟨cu, h9, -⟩ := zvs_get hgs hv
        exact ⟨q, a, x.2, gs, rfl, hw, hgs, hb1.2, (List.getElem?_eq_some_iff.mp h9).1, h⟩
theorem zs_putf (hx : p.tables.exec = Jvm.exec) (hb : c.code = cc) (hown : s.vm.findClass own = some m.cls) (hts : ∀ w ∈ zT, w.before args s = true) (hK : va_K (dC, dI) vwCl (ztys cA) s) {idx ci f kd N : Nat} {C : String} {T : u_T} {ty0 : Nat → FieldType} {ty : FieldType} (hin : ∀ w ∈ u_ws C T N, w ∈ zT) (hty : ∀ k, k < N → parseFieldDescriptor (T k).2.2.1 = some (ty0 k)) (hnm : ∀ a, a < N → ∀ b, b < N → a ≠ b → (T a).2.1 ≠ (T b).2.1) (hc : vwCl[ci]? = some (C, T, N)) (hf : f < N) (hlk : Cond.fieldLink own idx (T f).1 (T f).2.1 (T f).2.2.1 ∈ zT) (hfin : (T f).2.2.2 = false) (hd : parseFieldDescriptor (T f).2.2.1 = some ty) (hkt : zkt kd ty = true) (hdg : decode cc pc = .ok (.putfield idx, 3)) (h : zx_putf ci f kd pc lv st hp nc ns ret = .ok r) (Hk : ∀ (pc : Nat) (lv : ZL) (st : List Value) (hp : List ZE) (nc ns : Nat), ret pc lv st hp nc ns = .ok r → zW p l e R s m args below meth c Q dC dI cA g A nL pc lv st hp nc ns) : zW p l e R s m args below meth c Q dC dI cA g A nL pc lv st hp nc ns := by
  match st, h with
  | [], h => cases h
  | [_], h => cases h
  | w :: v :: st', h =>
    intro ws H locs ls clv cst ⟨r1, r2, r3, r4, r5, r6, r7⟩
    obtain ⟨cw, cr, rfl, h5, h6⟩ := zvs_cons r7
    obtain ⟨cv, cr, rfl, h7, h8⟩ := zvs_cons h6
    obtain ⟨q, a, fs, gs, rfl, hw, hgs, hkd, hlen, h⟩ := zx_putf_ok r1 h7 h
    obtain ⟨hn, hfit⟩ := zkd_ok hkd hkt h5
    refine va_put hx hb hts hin ty0 hty hnm hown hK r2 r3 r4 q hw hc f hf (hts _ hlk) (fun _ z => z) hfin hd hn hfit hlen hdg (fun H1 locs1 p1 p2 p3 => ?_)
    refine Hk _ _ _ _ _ _ h _ H1 locs1 ls clv _ ⟨zh_set r1 hw ⟨gs.set f cw, rfl, zvs_set h5 hgs f⟩, p1, p2, p3, r5, ?_, ?_⟩
    · rw [zad_set hw]; exact r6
    · rw [zad_set hw]; exact h8
theorem zs_putF (hx : p.tables.exec = Jvm.exec) (hb : c.code = cc) (hown : s.vm.findClass own = some m.cls) (hts : ∀ w ∈ zT, w.before args s = true) (hK : va_K (dC, dI) vwCl (ztys cA) s) {idx ci f kd N : Nat} {C : String} {T : u_T} {ty0 : Nat → FieldType} {ty : FieldType} (hin : ∀ w ∈ u_ws C T N, w ∈ zT) (hty : ∀ k, k < N → parseFieldDescriptor (T k).2.2.1 = some (ty0 k)) (hnm : ∀ a, a < N → ∀ b, b < N → a ≠ b → (T a).2.1 ≠ (T b).2.1) (hc : vwCl[ci]? = some (C, T, N)) (hf : f < N) (hlk : Cond.fieldLink own idx (T f).1 (T f).2.1 (T f).2.2.1 ∈ zT) (hfin : (T f).2.2.2 = true) (hi : meth.name = "<init>") (hdecl : (T f).1 = own) (hd : parseFieldDescriptor (T f).2.2.1 = some ty) (hkt : zkt kd ty = true) (hdg : decode cc pc = .ok (.putfield idx, 3)) (h : zx_putf ci f kd pc lv st hp nc ns ret = .ok r) (Hk : ∀ (pc : Nat) (lv : ZL) (st : List Value) (hp : List ZE) (nc ns : Nat), ret pc lv st hp nc ns = .ok r → zW p l e R s m args below meth c Q dC dI cA g A nL pc lv st hp nc ns) : zW p l e R s m args below meth c Q dC dI cA g A nL pc lv st hp nc ns := by
  match st, h with
  | [], h => cases h
  | [_], h => cases h
  | w :: v :: st', h =>
    intro ws H locs ls clv cst ⟨r1, r2, r3, r4, r5, r6, r7⟩
    obtain ⟨cw, cr, rfl, h5, h6⟩ := zvs_cons r7
    obtain ⟨cv, cr, rfl, h7, h8⟩ := zvs_cons h6
    obtain ⟨q, a, fs, gs, rfl, hw, hgs, hkd, hlen, h⟩ := zx_putf_ok r1 h7 h
    obtain ⟨hn, hfit⟩ := zkd_ok hkd hkt h5
    refine va_putF hx hb hts hin ty0 hty hnm hown hK r2 r3 r4 q hw hc f hf (hts _ hlk) (fun _ z => z) hfin hi hdecl hd hn hfit hlen hdg (fun H1 locs1 p1 p2 p3 => ?_)
    refine Hk _ _ _ _ _ _ h _ H1 locs1 ls clv _ ⟨zh_set r1 hw ⟨gs.set f cw, rfl, zvs_set h5 hgs f⟩, p1, p2, p3, r5, ?_, ?_⟩
    · rw [zad_set hw]; exact r6
    · rw [zad_set hw]; exact h8
/-- arrays read -/
noncomputable def zx_ald (E : ZN) (ok : Nat → Bool) (pc : Nat) (lv : ZL) (st : List Value) (hp : List ZE) (nc ns : Nat) (ret : ZRt) : ZX := match st with
  | j :: v :: st' => zrf hp v (fun _ e => match e with
    | .inl x => cond (ok x.1) (zI E j (fun a => cond (zix a x.2.1) (zek x.1 x.2.2 a.toNatClampNeg (fun w => ret (pc + 1) lv (w :: st') hp nc ns)) zfail)) zfail
    | .inr _ => zfail)
  | _ => zfail
theorem zx_ald_ok {ok : Nat → Bool} {j v : Value} {st' : List Value} {ws : va_W} {cj cv : Value} (hE : zen E g) (r1 : zh g cA hp ws) (h5 : zv (zad ws) g j cj) (h7 : zv (zad ws) g v cv) (h : zx_ald E ok pc lv (j :: v :: st') hp nc ns ret = .ok r) : ∃ (q a : Nat) (x : Nat × Nat × ZL) (w : va_E) (i : Int32), cv = .ref a ∧ cj = .int i ∧ ws[q]? = some (a, w) ∧ ze (zad ws) g cA (.inl x) w ∧ ok x.1 = true ∧ vp_in i x.2.1 ∧ ret (pc + 1) lv (zel x.1 x.2.2 i.toNatClampNeg :: st') hp nc ns = .ok r := by
  simp only [zx_ald] at h
  obtain ⟨q, e, a, w2, rfl, hq, rfl, hw, hze, h⟩ := zrf_ok r1 h7 h
  cases e with
  | inr x => cases h
  | inl x =>
    simp only at h
    cases ho : ok x.1 with
    | false => rw [ho] at h; cases h
    | true =>
      rw [ho, cond_true] at h
      obtain ⟨i, rfl, h⟩ := zI_ok hE h5 h
      cases hi : zix i x.2.1 with
      | false => rw [hi] at h; cases h
      | true =>
        rw [hi, cond_true, zek_eq] at h
        exact ⟨q, a, x, w2, i, rfl, rfl, hw, hze, ho, zix_ok hi, h⟩
theorem zs_iald (hx : p.tables.exec = Jvm.exec) (hb : c.code = cc) (hK : va_K (dC, dI) vwCl (ztys cA) s) (hE : zen E g) (hdg : decode cc pc = .ok (.iaload, 1)) (h : zx_ald E (fun t => Nat.beq t 0) pc lv st hp nc ns ret = .ok r) (Hk : ∀ (pc : Nat) (lv : ZL) (st : List Value) (hp : List ZE) (nc ns : Nat), ret pc lv st hp nc ns = .ok r → zW p l e R s m args below meth c Q dC dI cA g A nL pc lv st hp nc ns) : zW p l e R s m args below meth c Q dC dI cA g A nL pc lv st hp nc ns := by
  match st, h with
  | [], h => cases h
  | [_], h => cases h
  | j :: v :: st', h =>
    intro ws H locs ls clv cst ⟨r1, r2, r3, r4, r5, r6, r7⟩
    obtain ⟨cj, cr, rfl, h5, h6⟩ := zvs_cons r7
    obtain ⟨cv, cr, rfl, h7, h8⟩ := zvs_cons h6
    obtain ⟨q, a, ⟨t, n, us⟩, w, i, rfl, rfl, hw, hze, ho, hi, h⟩ := zx_ald_ok hE r1 h5 h7 h
    cases Nat.beq_eq.mp ho
    obtain ⟨arr, rfl, hza⟩ := zarr hze
    obtain ⟨f, rfl, hf⟩ := hza.1 (Nat.succ_pos 2)
    exact va_iald hx hb hK r2 q 0 hw rfl hi hdg (Hk _ _ _ _ _ _ h ws H locs ls clv _ ⟨r1, r2, r3, r4, r5, r6, hf _, h8⟩)
theorem zs_zald (hx : p.tables.exec = Jvm.exec) (hb : c.code = cc) (hK : va_K (dC, dI) vwCl (ztys cA) s) (hE : zen E g) (hdg : decode cc pc = .ok (.baload, 1)) (h : zx_ald E (fun t => Nat.beq t 1) pc lv st hp nc ns ret = .ok r) (Hk : ∀ (pc : Nat) (lv : ZL) (st : List Value) (hp : List ZE) (nc ns : Nat), ret pc lv st hp nc ns = .ok r → zW p l e R s m args below meth c Q dC dI cA g A nL pc lv st hp nc ns) : zW p l e R s m args below meth c Q dC dI cA g A nL pc lv st hp nc ns := by
  match st, h with
  | [], h => cases h
  | [_], h => cases h
  | j :: v :: st', h =>
    intro ws H locs ls clv cst ⟨r1, r2, r3, r4, r5, r6, r7⟩
    obtain ⟨cj, cr, rfl, h5, h6⟩ := zvs_cons r7
    obtain ⟨cv, cr, rfl, h7, h8⟩ := zvs_cons h6
    obtain ⟨q, a, ⟨t, n, us⟩, w, i, rfl, rfl, hw, hze, ho, hi, h⟩ := zx_ald_ok hE r1 h5 h7 h
    cases Nat.beq_eq.mp ho
    obtain ⟨arr, rfl, hza⟩ := zarr hze
    obtain ⟨f, rfl, hf⟩ := hza.1 z13
    exact va_zald hx hb hK r2 q 1 hw rfl hi hdg (Hk _ _ _ _ _ _ h ws H locs ls clv _ ⟨r1, r2, r3, r4, r5, r6, hf _, h8⟩)
theorem zs_cald (hx : p.tables.exec = Jvm.exec) (hb : c.code = cc) (hK : va_K (dC, dI) vwCl (ztys cA) s) (hE : zen E g) (hdg : decode cc pc = .ok (.caload, 1)) (h : zx_ald E (fun t => Nat.beq t 2) pc lv st hp nc ns ret = .ok r) (Hk : ∀ (pc : Nat) (lv : ZL) (st : List Value) (hp : List ZE) (nc ns : Nat), ret pc lv st hp nc ns = .ok r → zW p l e R s m args below meth c Q dC dI cA g A nL pc lv st hp nc ns) : zW p l e R s m args below meth c Q dC dI cA g A nL pc lv st hp nc ns := by
  match st, h with
  | [], h => cases h
  | [_], h => cases h
  | j :: v :: st', h =>
    intro ws H locs ls clv cst ⟨r1, r2, r3, r4, r5, r6, r7⟩
    obtain ⟨cj, cr, rfl, h5, h6⟩ := zvs_cons r7
    obtain ⟨cv, cr, rfl, h7, h8⟩ := zvs_cons h6
    obtain ⟨q, a, ⟨t, n, us⟩, w, i, rfl, rfl, hw, hze, ho, hi, h⟩ := zx_ald_ok hE r1 h5 h7 h
    cases Nat.beq_eq.mp ho
    obtain ⟨arr, rfl, hza⟩ := zarr hze
    obtain ⟨f, rfl, hf⟩ := hza.1 z23
    exact va_cald hx hb hK r2 q 2 hw rfl hi hdg (Hk _ _ _ _ _ _ h ws H locs ls clv _ ⟨r1, r2, r3, r4, r5, r6, hf _, h8⟩)
theorem zs_lald (hx : p.tables.exec = Jvm.exec) (hb : c.code = cc) (hK : va_K (dC, dI) vwCl (ztys cA) s) (hE : zen E g) (hdg : decode cc pc = .ok (.laload, 1)) (h : zx_ald E (fun t => Nat.beq t 3) pc lv st hp nc ns ret = .ok r) (Hk : ∀ (pc : Nat) (lv : ZL) (st : List Value) (hp : List ZE) (nc ns : Nat), ret pc lv st hp nc ns = .ok r → zW p l e R s m args below meth c Q dC dI cA g A nL pc lv st hp nc ns) : zW p l e R s m args below meth c Q dC dI cA g A nL pc lv st hp nc ns := by
  match st, h with
  | [], h => cases h
  | [_], h => cases h
  | j :: v :: st', h =>
    intro ws H locs ls clv cst ⟨r1, r2, r3, r4, r5, r6, r7⟩
    obtain ⟨cj, cr, rfl, h5, h6⟩ := zvs_cons r7
    obtain ⟨cv, cr, rfl, h7, h8⟩ := zvs_cons h6
    obtain ⟨q, a, ⟨t, n, us⟩, w, i, rfl, rfl, hw, hze, ho, hi, h⟩ := zx_ald_ok hE r1 h5 h7 h
    cases Nat.beq_eq.mp ho
    obtain ⟨arr, rfl, hza⟩ := zarr hze
    obtain ⟨f, rfl, hf⟩ := hza.2.1 rfl
    refine va_lald hx hb hK r2 q 3 hw rfl hi hdg (Hk _ _ _ _ _ _ h ws H locs ls clv _ ⟨r1, r2, r3, r4, r5, r6, ?_, h8⟩)
    rw [hf i.toNatClampNeg]
    rfl
theorem zs_aald (hx : p.tables.exec = Jvm.exec) (hb : c.code = cc) (hK : va_K (dC, dI) vwCl (ztys cA) s) (hE : zen E g) (hdg : decode cc pc = .ok (.aaload, 1)) (h : zx_ald E (fun t => Nat.beq t 4 || Nat.beq t 5) pc lv st hp nc ns ret = .ok r) (Hk : ∀ (pc : Nat) (lv : ZL) (st : List Value) (hp : List ZE) (nc ns : Nat), ret pc lv st hp nc ns = .ok r → zW p l e R s m args below meth c Q dC dI cA g A nL pc lv st hp nc ns) : zW p l e R s m args below meth c Q dC dI cA g A nL pc lv st hp nc ns := by
  match st, h with
  | [], h => cases h
  | [_], h => cases h
  | j :: v :: st', h =>
    intro ws H locs ls clv cst ⟨r1, r2, r3, r4, r5, r6, r7⟩
    obtain ⟨cj, cr, rfl, h5, h6⟩ := zvs_cons r7
    obtain ⟨cv, cr, rfl, h7, h8⟩ := zvs_cons h6
    obtain ⟨q, a, ⟨t, n, us⟩, w, i, rfl, rfl, hw, hze, ho, hi, h⟩ := zx_ald_ok hE r1 h5 h7 h
    obtain ⟨arr, rfl, hza⟩ := zarr hze
    rw [Bool.or_eq_true] at ho
    rcases ho with ho | ho
    · cases Nat.beq_eq.mp ho
      obtain ⟨f, rfl, hf⟩ := hza.2.2 z34
      exact va_aldq hx hb hK r2 q 4 hw rfl hi hdg (Hk _ _ _ _ _ _ h ws H locs ls clv _ ⟨r1, r2, r3, r4, r5, r6, hf _, h8⟩)
    · cases Nat.beq_eq.mp ho
      obtain ⟨f, rfl, hf⟩ := hza.2.2 z35
      exact va_aldq hx hb hK r2 q 5 hw rfl hi hdg (Hk _ _ _ _ _ _ h ws H locs ls clv _ ⟨r1, r2, r3, r4, r5, r6, hf _, h8⟩)
/-- arrays written: 'f' says whether the value may be, and what is kept of it -/
noncomputable def zx_ast (E : ZN) (t0 : Nat) (f : Value → (Value → ZX) → ZX) (pc : Nat) (lv : ZL) (st : List Value) (hp : List ZE) (nc ns : Nat) (ret : ZRt) : ZX := match st with
  | x :: j :: v :: st' => f x (fun x => zrf hp v (fun q e => match e with
    | .inl y => cond (Nat.beq y.1 t0) (zI E j (fun a => cond (zix a y.2.1) (zup y.2.2 a.toNatClampNeg x (fun us => zsk hp (.inl (t0, y.2.1, us)) q (fun hp' => ret (pc + 1) lv st' hp' nc ns))) zfail)) zfail
    | .inr _ => zfail))
  | _ => zfail
theorem zx_ast_ok {t0 : Nat} {x j v : Value} {st' : List Value} {ws : va_W} {cj cv : Value} (hE : zen E g) (r1 : zh g cA hp ws) (h5 : zv (zad ws) g j cj) (h7 : zv (zad ws) g v cv)
    (h : zrf hp v (fun q e => match e with
    | .inl y => cond (Nat.beq y.1 t0) (zI E j (fun a => cond (zix a y.2.1) (zup y.2.2 a.toNatClampNeg x (fun us => zsk hp (.inl (t0, y.2.1, us)) q (fun hp' => ret (pc + 1) lv st' hp' nc ns))) zfail)) zfail
    | .inr _ => zfail) = .ok r) : ∃ (q a n : Nat) (us : ZL) (w : va_E) (i : Int32), cv = .ref a ∧ cj = .int i ∧ ws[q]? = some (a, w) ∧ ze (zad ws) g cA (.inl (t0, n, us)) w ∧ vp_in i n ∧ ret (pc + 1) lv st' (hp.set q (.inl (t0, n, (i.toNatClampNeg, x) :: zdrop us i.toNatClampNeg))) nc ns = .ok r := by
  obtain ⟨q, e, a, w2, rfl, hq, rfl, hw, hze, h⟩ := zrf_ok r1 h7 h
  cases e with
  | inr x => cases h
  | inl y =>
    obtain ⟨t, n, us⟩ := y
    simp only at h
    cases ho : Nat.beq t t0 with
    | false => rw [ho] at h; cases h
    | true =>
      cases Nat.beq_eq.mp ho
      rw [ho, cond_true] at h
      obtain ⟨i, rfl, h⟩ := zI_ok hE h5 h
      cases hi : zix i n with
      | false => rw [hi] at h; cases h
      | true =>
        rw [hi, cond_true, zup_eq, zsk_eq] at h
        exact ⟨q, a, n, us, w2, i, rfl, rfl, hw, hze, zix_ok hi, h⟩
noncomputable def zfi (v : Value) (k : Value → ZX) : ZX := cond (zint v) (k v) zfail
theorem zs_iast (hx : p.tables.exec = Jvm.exec) (hb : c.code = cc) (hK : va_K (dC, dI) vwCl (ztys cA) s) (hE : zen E g) (hdg : decode cc pc = .ok (.iastore, 1)) (h : zx_ast E 0 zfi pc lv st hp nc ns ret = .ok r) (Hk : ∀ (pc : Nat) (lv : ZL) (st : List Value) (hp : List ZE) (nc ns : Nat), ret pc lv st hp nc ns = .ok r → zW p l e R s m args below meth c Q dC dI cA g A nL pc lv st hp nc ns) : zW p l e R s m args below meth c Q dC dI cA g A nL pc lv st hp nc ns := by
  match st, h with
  | [], h => cases h
  | [_], h => cases h
  | [_, _], h => cases h
  | x :: j :: v :: st', h =>
    intro ws H locs ls clv cst ⟨r1, r2, r3, r4, r5, r6, r7⟩
    obtain ⟨cx, cr, rfl, h3, h4⟩ := zvs_cons r7
    obtain ⟨cj, cr, rfl, h5, h6⟩ := zvs_cons h4
    obtain ⟨cv, cr, rfl, h7, h8⟩ := zvs_cons h6
    simp only [zx_ast, zfi] at h
    cases hz : zint x with
    | false => rw [hz] at h; cases h
    | true =>
      rw [hz, cond_true] at h
      obtain ⟨y, rfl⟩ := zint_ok hz h3
      obtain ⟨q, a, n, us, w, i, rfl, rfl, hw, hze, hi, h⟩ := zx_ast_ok hE r1 h5 h7 h
      obtain ⟨arr, rfl, hza⟩ := zarr hze
      obtain ⟨f, rfl, hf⟩ := hza.1 (Nat.succ_pos 2)
      refine va_iast hx hb hK r2 r3 r4 q 0 hw rfl hi hdg (fun H1 locs1 p1 p2 p3 => ?_)
      refine Hk _ _ _ _ _ _ h _ H1 locs1 ls clv _ ⟨zh_set r1 hw ⟨_, rfl, za_putI (Nat.succ_pos 2) hf h3⟩, p1, p2, p3, r5, ?_, ?_⟩
      · rw [zad_set hw]; exact r6
      · rw [zad_set hw]; exact h8
noncomputable def zfz (E : ZN) (v : Value) (k : Value → ZX) : ZX := zI E v (fun x => zi (vp_nar .boolean x) (fun y => k (.int y)))
theorem zs_zast (hx : p.tables.exec = Jvm.exec) (hb : c.code = cc) (hK : va_K (dC, dI) vwCl (ztys cA) s) (hE : zen E g) (hdg : decode cc pc = .ok (.bastore, 1)) (h : zx_ast E 1 (zfz E) pc lv st hp nc ns ret = .ok r) (Hk : ∀ (pc : Nat) (lv : ZL) (st : List Value) (hp : List ZE) (nc ns : Nat), ret pc lv st hp nc ns = .ok r → zW p l e R s m args below meth c Q dC dI cA g A nL pc lv st hp nc ns) : zW p l e R s m args below meth c Q dC dI cA g A nL pc lv st hp nc ns := by
  match st, h with
  | [], h => cases h
  | [_], h => cases h
  | [_, _], h => cases h
  | x :: j :: v :: st', h =>
    intro ws H locs ls clv cst ⟨r1, r2, r3, r4, r5, r6, r7⟩
    obtain ⟨cx, cr, rfl, h3, h4⟩ := zvs_cons r7
    obtain ⟨cj, cr, rfl, h5, h6⟩ := zvs_cons h4
    obtain ⟨cv, cr, rfl, h7, h8⟩ := zvs_cons h6
    simp only [zx_ast, zfz] at h
    obtain ⟨y, rfl, h⟩ := zI_ok hE h3 h
    rw [zi_eq] at h
    obtain ⟨q, a, n, us, w, i, rfl, rfl, hw, hze, hi, h⟩ := zx_ast_ok hE r1 h5 h7 h
    obtain ⟨arr, rfl, hza⟩ := zarr hze
    obtain ⟨f, rfl, hf⟩ := hza.1 z13
    refine va_zast hx hb hK r2 r3 r4 q 1 hw rfl hi hdg (fun H1 locs1 p1 p2 p3 => ?_)
    refine Hk _ _ _ _ _ _ h _ H1 locs1 ls clv _ ⟨zh_set r1 hw ⟨_, rfl, za_putI z13 hf rfl⟩, p1, p2, p3, r5, ?_, ?_⟩
    · rw [zad_set hw]; exact r6
    · rw [zad_set hw]; exact h8
noncomputable def zfL (v : Value) (k : Value → ZX) : ZX := match v with
  | .long x => k (.long x)
  | _ => zfail
theorem zs_last (hx : p.tables.exec = Jvm.exec) (hb : c.code = cc) (hK : va_K (dC, dI) vwCl (ztys cA) s) (hE : zen E g) (hdg : decode cc pc = .ok (.lastore, 1)) (h : zx_ast E 3 zfL pc lv st hp nc ns ret = .ok r) (Hk : ∀ (pc : Nat) (lv : ZL) (st : List Value) (hp : List ZE) (nc ns : Nat), ret pc lv st hp nc ns = .ok r → zW p l e R s m args below meth c Q dC dI cA g A nL pc lv st hp nc ns) : zW p l e R s m args below meth c Q dC dI cA g A nL pc lv st hp nc ns := by
  match st, h with
  | [], h => cases h
  | [_], h => cases h
  | [_, _], h => cases h
  | x :: j :: v :: st', h =>
    intro ws H locs ls clv cst ⟨r1, r2, r3, r4, r5, r6, r7⟩
    obtain ⟨cx, cr, rfl, h3, h4⟩ := zvs_cons r7
    obtain ⟨cj, cr, rfl, h5, h6⟩ := zvs_cons h4
    obtain ⟨cv, cr, rfl, h7, h8⟩ := zvs_cons h6
    simp only [zx_ast] at h
    cases x with
    | long y =>
      cases (show cx = _ from h3)
      simp only [zfL] at h
      obtain ⟨q, a, n, us, w, i, rfl, rfl, hw, hze, hi, h⟩ := zx_ast_ok hE r1 h5 h7 h
      obtain ⟨arr, rfl, hza⟩ := zarr hze
      obtain ⟨f, rfl, hf⟩ := hza.2.1 rfl
      refine va_last hx hb hK r2 r3 r4 q 3 hw rfl hi hdg (fun H1 locs1 p1 p2 p3 => ?_)
      refine Hk _ _ _ _ _ _ h _ H1 locs1 ls clv _ ⟨zh_set r1 hw ⟨_, rfl, za_putL hf⟩, p1, p2, p3, r5, ?_, ?_⟩
      · rw [zad_set hw]; exact r6
      · rw [zad_set hw]; exact h8
    | _ => cases h
/-- an object into a row of objects: 4 is a row of Wall (class 7), 5 of Order (class 2) -/
noncomputable def zfo (hp : List ZE) (ci : Nat) (v : Value) (k : Value → ZX) : ZX := zrf hp v (fun q e => match e with
  | .inr x => cond (Nat.beq x.1 ci) (k (.ref q)) zfail
  | .inl _ => zfail)
theorem zs_aast (hx : p.tables.exec = Jvm.exec) (hb : c.code = cc) (hK : va_K (dC, dI) vwCl (ztys cA) s) (hE : zen E g) {t ci : Nat} (hw0 : t = 4 ∧ ci = 7 ∨ t = 5 ∧ ci = 2) (hdg : decode cc pc = .ok (.aastore, 1)) (h : zx_ast E t (zfo hp ci) pc lv st hp nc ns ret = .ok r) (Hk : ∀ (pc : Nat) (lv : ZL) (st : List Value) (hp : List ZE) (nc ns : Nat), ret pc lv st hp nc ns = .ok r → zW p l e R s m args below meth c Q dC dI cA g A nL pc lv st hp nc ns) : zW p l e R s m args below meth c Q dC dI cA g A nL pc lv st hp nc ns := by
  match st, h with
  | [], h => cases h
  | [_], h => cases h
  | [_, _], h => cases h
  | x :: j :: v :: st', h =>
    intro ws H locs ls clv cst ⟨r1, r2, r3, r4, r5, r6, r7⟩
    obtain ⟨cx, cr, rfl, h3, h4⟩ := zvs_cons r7
    obtain ⟨cj, cr, rfl, h5, h6⟩ := zvs_cons h4
    obtain ⟨cv, cr, rfl, h7, h8⟩ := zvs_cons h6
    simp only [zx_ast, zfo] at h
    obtain ⟨q2, e2, a2, w2, rfl, hq2, rfl, hw2, hze2, h⟩ := zrf_ok r1 h3 h
    cases e2 with
    | inl y => cases h
    | inr y =>
      simp only at h
      obtain ⟨gs, rfl, -⟩ := zobj hze2
      cases hb1 : Nat.beq y.1 ci with
      | false => rw [hb1] at h; cases h
      | true =>
        rw [hb1, cond_true] at h
        have e1 := Nat.beq_eq.mp hb1
        rw [e1] at hw2
        obtain ⟨q, a, n, us, w, i, rfl, rfl, hw, hze, hi, hz9⟩ := zx_ast_ok hE r1 h5 h7 h
        obtain ⟨arr, rfl, hza⟩ := zarr hze
        rcases hw0 with ⟨rfl, rfl⟩ | ⟨rfl, rfl⟩
        · obtain ⟨f, rfl, hf⟩ := hza.2.2 z34
          refine va_astq hx hb hK r2 r3 r4 q 4 q2 7 (r := (RX8, TX8, 11)) hw rfl hw2 rfl hi hdg (fun H1 locs1 p1 p2 p3 => ?_)
          refine Hk _ _ _ _ _ _ hz9 _ H1 locs1 ls clv _ ⟨zh_set r1 hw ⟨_, rfl, za_putR z34 hf h3⟩, p1, p2, p3, r5, ?_, ?_⟩
          · rw [zad_set hw]; exact r6
          · rw [zad_set hw]; exact h8
        · obtain ⟨f, rfl, hf⟩ := hza.2.2 z35
          refine va_astq hx hb hK r2 r3 r4 q 5 q2 2 (r := (RX3, TX3, 7)) hw rfl hw2 rfl hi hdg (fun H1 locs1 p1 p2 p3 => ?_)
          refine Hk _ _ _ _ _ _ hz9 _ H1 locs1 ls clv _ ⟨zh_set r1 hw ⟨_, rfl, za_putR z35 hf h3⟩, p1, p2, p3, r5, ?_, ?_⟩
          · rw [zad_set hw]; exact r6
          · rw [zad_set hw]; exact h8
noncomputable def zx_alen (pc : Nat) (lv : ZL) (st : List Value) (hp : List ZE) (nc ns : Nat) (ret : ZRt) : ZX := match st with
  | v :: st' => zrf hp v (fun _ e => match e with
    | .inl x => cond (Nat.blt x.1 6) (zi (Int32.ofNat x.2.1) (fun n => ret (pc + 1) lv (.int n :: st') hp nc ns)) zfail
    | .inr _ => zfail)
  | _ => zfail
theorem zs_alen (hx : p.tables.exec = Jvm.exec) (hb : c.code = cc) (hK : va_K (dC, dI) vwCl (ztys cA) s) (hdg : decode cc pc = .ok (.arraylength, 1)) (h : zx_alen pc lv st hp nc ns ret = .ok r) (Hk : ∀ (pc : Nat) (lv : ZL) (st : List Value) (hp : List ZE) (nc ns : Nat), ret pc lv st hp nc ns = .ok r → zW p l e R s m args below meth c Q dC dI cA g A nL pc lv st hp nc ns) : zW p l e R s m args below meth c Q dC dI cA g A nL pc lv st hp nc ns := by
  match st, h with
  | [], h => cases h
  | v :: st', h =>
    intro ws H locs ls clv cst ⟨r1, r2, r3, r4, r5, r6, r7⟩
    obtain ⟨cv, cr, rfl, h7, h8⟩ := zvs_cons r7
    simp only [zx_alen] at h
    obtain ⟨q, e, a, w2, rfl, hq, rfl, hw, hze, h⟩ := zrf_ok r1 h7 h
    cases e with
    | inr x => cases h
    | inl x =>
      simp only at h
      obtain ⟨arr, rfl, hza⟩ := zarr hze
      cases hb1 : Nat.blt x.1 6 with
      | false => rw [hb1] at h; cases h
      | true =>
        rw [hb1, cond_true, zi_eq] at h
        exact va_alen hx hb hK r2 q x.1 hw (ztys_at cA (zblt hb1)) rfl hdg (Hk _ _ _ _ _ _ h ws H locs ls clv _ ⟨r1, r2, r3, r4, r5, r6, rfl, h8⟩)
end ZHP
end
section
/-! cells that are made; rows copied; the script -/
section ZMK
variable {p : Program} {l : Launch} {e : Env} {R : Room} {s : State} {m : MethodId} {args : Array Value} {below : List Frame} {meth : Method} {c : Code} {Q : State → Prop} {dC : Nat → ClassId} {dI : Nat → Nat → Nat} {cA : Nat → ClassId} {g : ZG} {A : Nat → Prop} {nL : Nat} {cc : ByteArray} {pc : Nat} {lv : ZL} {st : List Value} {hp : List ZE} {nc ns : Nat} {ret : ZRt} {r : ZS} {E : ZN} {own : String}
/-- bc, bs: the room that the method has -/
noncomputable def zx_new (fs : List Value) (ci N bc bs : Nat) (pc : Nat) (lv : ZL) (st : List Value) (hp : List ZE) (nc ns : Nat) (ret : ZRt) : ZX :=
  cond (Nat.ble (nc + 1) bc && Nat.ble (ns + N) bs) (zn hp.length (fun q => zap hp (.inr (ci, fs)) (fun hp' => zn (nc + 1) (fun nc' => zn (ns + N) (fun ns' => ret (pc + 3) lv (.ref q :: st) hp' nc' ns'))))) zfail
theorem zs_new (hx : p.tables.exec = Jvm.exec) (hb : c.code = cc) (hown : s.vm.findClass own = some m.cls) (hts : ∀ w ∈ zT, w.before args s = true) (hK : va_K (dC, dI) vwCl (ztys cA) s) (hA : ∀ q, s.heap.size ≤ q → A q) {idx ci N bc bs : Nat} {C : String} {T : u_T} {ty0 : Nat → FieldType} {fs : List Value} (hRc : bc ≤ R.cells) (hRs : bs ≤ R.slots) (hin : ∀ w ∈ u_ws C T N, w ∈ zT) (hty : ∀ k, k < N → parseFieldDescriptor (T k).2.2.1 = some (ty0 k)) (hc : vwCl[ci]? = some (C, T, N)) (hfs : ∀ j, j < N → defaultValue (ty0 j) = vp_V fs j) (hfv : ∀ ad, zvs ad g fs fs) (h1 : Cond.classLink own idx C ∈ zT) (h2 : Cond.instantiable C N ∈ zT) (h3 : Cond.initialized C ∈ zT) (hdg : decode cc pc = .ok (.new idx, 3)) (h : zx_new fs ci N bc bs pc lv st hp nc ns ret = .ok r) (Hk : ∀ (pc : Nat) (lv : ZL) (st : List Value) (hp : List ZE) (nc ns : Nat), ret pc lv st hp nc ns = .ok r → zW p l e R s m args below meth c Q dC dI cA g A nL pc lv st hp nc ns) : zW p l e R s m args below meth c Q dC dI cA g A nL pc lv st hp nc ns := by
  unfold zx_new at h
  cases hb1 : (Nat.ble (nc + 1) bc && Nat.ble (ns + N) bs) with
  | false => rw [hb1] at h; cases h
  | true =>
    rw [hb1, cond_true, zn_eq, zap_eq, zn_eq, zn_eq] at h
    rw [Bool.and_eq_true] at hb1
    have b1 := Nat.le_of_ble_eq_true hb1.1
    have b2 := Nat.le_of_ble_eq_true hb1.2
    intro ws H locs ls clv cst ⟨r1, r2, r3, r4, r5, r6, r7⟩
    refine va_new hx hb hts hin ty0 hty hown (hts _ h1) (hts _ h2) (hts _ h3) hK r2 r3 r4 hA hc hfs (Nat.le_trans b1 hRc) (Nat.le_trans b2 hRs) hdg (fun q H1 p1 p2 p3 => ?_)
    refine Hk _ _ _ _ _ _ h _ H1 locs ls clv _ ⟨zh_app r1 q ⟨fs, rfl, hfv _⟩, p1, p2, p3, r5, zls_mono (zad_app ws q _) r6, ⟨q, ?_, rfl⟩, zvs_mono (zad_app ws q _) r7⟩
    rw [← r1.1]
    exact zad_last ws q _
noncomputable def zx_newa (E : ZN) (t bc bs k : Nat) (pc : Nat) (lv : ZL) (st : List Value) (hp : List ZE) (nc ns : Nat) (ret : ZRt) : ZX := match st with
  | v :: st' => zI E v (fun n => zn n.toNatClampNeg (fun N => cond (decide (0 ≤ n.toInt) && (Nat.ble N 50000 && (Nat.ble (nc + 1) bc && Nat.ble (ns + N) bs))) (zn hp.length (fun q => zap hp (.inl (t, N, [])) (fun hp' => zn (nc + 1) (fun nc' => zn (ns + N) (fun ns' => ret (pc + k) lv (.ref q :: st') hp' nc' ns'))))) zfail))
  | _ => zfail
theorem zx_newa_ok {t bc bs k : Nat} {v cv : Value} {st' : List Value} {ad : List Nat} (hE : zen E g) (hv : zv ad g v cv) (h : zx_newa E t bc bs k pc lv (v :: st') hp nc ns ret = .ok r) : ∃ n : Int32, cv = .int n ∧ ¬ n < 0 ∧ n.toNatClampNeg ≤ 50000 ∧ nc + 1 ≤ bc ∧ ns + n.toNatClampNeg ≤ bs ∧ ret (pc + k) lv (.ref hp.length :: st') (hp ++ [.inl (t, n.toNatClampNeg, [])]) (nc + 1) (ns + n.toNatClampNeg) = .ok r := by
  simp only [zx_newa] at h
  obtain ⟨n, rfl, h⟩ := zI_ok hE hv h
  rw [zn_eq] at h
  cases hb1 : (decide (0 ≤ n.toInt) && (Nat.ble n.toNatClampNeg 50000 && (Nat.ble (nc + 1) bc && Nat.ble (ns + n.toNatClampNeg) bs))) with
  | false => rw [hb1] at h; cases h
  | true =>
    rw [hb1, cond_true, zn_eq, zap_eq, zn_eq, zn_eq] at h
    rw [Bool.and_eq_true, Bool.and_eq_true, Bool.and_eq_true] at hb1
    refine ⟨n, rfl, fun q => ?_, Nat.le_of_ble_eq_true hb1.2.1, Nat.le_of_ble_eq_true hb1.2.2.1, Nat.le_of_ble_eq_true hb1.2.2.2, h⟩
    have e1 := of_decide_eq_true hb1.1
    have e2 : n.toInt < (0 : Int32).toInt := Int32.lt_iff_toInt_lt.mp q
    have e3 : (0 : Int32).toInt = 0 := rfl
    omega
def za0 (t N : Nat) : vp_A := cond (Nat.blt t 3) (N, .inl (fun _ => 0)) (N, .inr (.inl (fun _ => 0)))
theorem zs_newa (hx : p.tables.exec = Jvm.exec) (hb : c.code = cc) (hts : ∀ w ∈ zT, w.before args s = true) (hK : va_K (dC, dI) vwCl (ztys cA) s) (hE : zen E g) (hA : ∀ q, s.heap.size ≤ q → A q) {t bc bs : Nat} {at0 : ArrayType} (hRc : bc ≤ R.cells) (hRs : bs ≤ R.slots) (ht : t < 4) (hat : newarray.typeOf at0 = zty t) (h1 : Cond.arrayClass (newarray.typeOf at0) ∈ zT) (hdg : decode cc pc = .ok (.newarray at0, 2)) (h : zx_newa E t bc bs 2 pc lv st hp nc ns ret = .ok r) (Hk : ∀ (pc : Nat) (lv : ZL) (st : List Value) (hp : List ZE) (nc ns : Nat), ret pc lv st hp nc ns = .ok r → zW p l e R s m args below meth c Q dC dI cA g A nL pc lv st hp nc ns) : zW p l e R s m args below meth c Q dC dI cA g A nL pc lv st hp nc ns := by
  match st, h with
  | [], h => cases h
  | v :: st', h =>
    intro ws H locs ls clv cst ⟨r1, r2, r3, r4, r5, r6, r7⟩
    obtain ⟨cv, cr, rfl, h7, h8⟩ := zvs_cons r7
    obtain ⟨n, rfl, n0, n1, n2, n3, h⟩ := zx_newa_ok hE h7 h
    have e0 : ∀ c1 : ClassId, vp_cell c1 (za0 t n.toNatClampNeg) = arrV c1 n.toNatClampNeg (fun _ => defaultValue (zty t)) := by
      intro c1
      match t, ht with
      | 0, _ => rfl
      | 1, _ => rfl
      | 2, _ => rfl
      | 3, _ => rfl
    have e1 : componentBytes (zty t) ≤ 8 := by
      match t, ht with
      | 0, _ => decide
      | 1, _ => decide
      | 2, _ => decide
      | 3, _ => decide
    refine va_newa hx hb (hts _ h1) hat hK r2 r3 r4 hA e0 n0 rfl (Nat.le_trans (Nat.mul_le_mul n1 e1) (by decide)) (Nat.le_trans n2 hRc) (Nat.le_trans n3 hRs) hdg (fun q c1 H1 k1 p1 p2 p3 => ?_)
    have e2 : c1 = cA t := by
      have w1 := (k1.2 6 (c1, zty t) rfl).2
      have w2 := (hK.2 t (cA t, zty t) (ztys_at cA (by omega))).2
      exact zra_eq w1 w2
    subst e2
    have e3 : ∃ arr, (za0 t n.toNatClampNeg) = (n.toNatClampNeg, arr) ∧ ∀ ad, za ad g t [] arr := by
      match t, ht with
      | 0, _ => exact ⟨_, rfl, fun ad => ⟨fun _ => ⟨_, rfl, fun j => rfl⟩, fun q => by omega, fun q => by omega⟩⟩
      | 1, _ => exact ⟨_, rfl, fun ad => ⟨fun _ => ⟨_, rfl, fun j => rfl⟩, fun q => by omega, fun q => by omega⟩⟩
      | 2, _ => exact ⟨_, rfl, fun ad => ⟨fun _ => ⟨_, rfl, fun j => rfl⟩, fun q => by omega, fun q => by omega⟩⟩
      | 3, _ => exact ⟨_, rfl, fun ad => ⟨fun q => by omega, fun _ => ⟨_, rfl, fun j => rfl⟩, fun q => by omega⟩⟩
    obtain ⟨arr, e4, e5⟩ := e3
    refine Hk _ _ _ _ _ _ h _ H1 locs ls clv _ ⟨zh_app r1 q ⟨arr, by rw [e4], e5 _⟩, p1, p2, p3, r5, zls_mono (zad_app ws q _) r6, ⟨q, ?_, rfl⟩, zvs_mono (zad_app ws q _) h8⟩
    rw [← r1.1]
    exact zad_last ws q _
theorem zs_anewa (hx : p.tables.exec = Jvm.exec) (hb : c.code = cc) (hown : s.vm.findClass own = some m.cls) (hts : ∀ w ∈ zT, w.before args s = true) (hK : va_K (dC, dI) vwCl (ztys cA) s) (hE : zen E g) (hA : ∀ q, s.heap.size ≤ q → A q) {idx t bc bs : Nat} {C : String} (hRc : bc ≤ R.cells) (hRs : bs ≤ R.slots) (ht : t = 4 ∨ t = 5) (hat : zty t = .object C) (h1 : Cond.classLink own idx C ∈ zT) (h2 : va_AO C s) (hdg : decode cc pc = .ok (.anewarray idx, 3)) (h : zx_newa E t bc bs 3 pc lv st hp nc ns ret = .ok r) (Hk : ∀ (pc : Nat) (lv : ZL) (st : List Value) (hp : List ZE) (nc ns : Nat), ret pc lv st hp nc ns = .ok r → zW p l e R s m args below meth c Q dC dI cA g A nL pc lv st hp nc ns) : zW p l e R s m args below meth c Q dC dI cA g A nL pc lv st hp nc ns := by
  match st, h with
  | [], h => cases h
  | v :: st', h =>
    intro ws H locs ls clv cst ⟨r1, r2, r3, r4, r5, r6, r7⟩
    obtain ⟨cv, cr, rfl, h7, h8⟩ := zvs_cons r7
    obtain ⟨n, rfl, n0, n1, n2, n3, h⟩ := zx_newa_ok hE h7 h
    refine va_newq hx hb hown (hts _ h1) h2 hK r2 r3 r4 hA n0 rfl (by omega) (Nat.le_trans n2 hRc) (Nat.le_trans n3 hRs) hdg (fun q c1 H1 k1 p1 p2 p3 => ?_)
    have e2 : c1 = cA t := by
      have w1 := (k1.2 6 (c1, .object C) rfl).2
      have w2 := (hK.2 t (cA t, zty t) (ztys_at cA (by omega))).2
      rw [hat] at w2
      exact zra_eq w1 w2
    subst e2
    have e5 : ∀ ad, za ad g t [] (.inr (.inr (.inr (.inr (fun _ => none))))) := by
      intro ad
      refine ⟨fun q => by omega, fun q => by omega, fun _ => ⟨_, rfl, fun j => ?_⟩⟩
      rcases ht with rfl | rfl
      · rfl
      · rfl
    refine Hk _ _ _ _ _ _ h _ H1 locs ls clv _ ⟨zh_app r1 q ⟨_, rfl, e5 _⟩, p1, p2, p3, r5, zls_mono (zad_app ws q _) r6, ⟨q, ?_, rfl⟩, zvs_mono (zad_app ws q _) h8⟩
    rw [← r1.1]
    exact zad_last ws q _
/-- the script -/
noncomputable def zx_sld (E : ZN) (L : Nat) (pc : Nat) (lv : ZL) (st : List Value) (hp : List ZE) (nc ns : Nat) (ret : ZRt) : ZX := match st with
  | j :: .float _ :: st' => zI E j (fun a => cond (zix a L) (zn a.toNatClampNeg (fun i => ret (pc + 1) lv (.retAddr i :: st') hp nc ns)) zfail)
  | _ => zfail
theorem zs_sld (hx : p.tables.exec = Jvm.exec) (hb : c.code = cc) (hE : zen E g) {L : Nat} {xs : Nat → Int32} (hX : va_X g.2.1 L xs s s.heap) (hbl : g.2.1 < s.heap.size) (hbA : ¬ A g.2.1) (hxs : ∀ j, j < L → g.1 j = xs j) (hL : L < 2 ^ 31) (hdg : decode cc pc = .ok (.iaload, 1)) (h : zx_sld E L pc lv st hp nc ns ret = .ok r) (Hk : ∀ (pc : Nat) (lv : ZL) (st : List Value) (hp : List ZE) (nc ns : Nat), ret pc lv st hp nc ns = .ok r → zW p l e R s m args below meth c Q dC dI cA g A nL pc lv st hp nc ns) : zW p l e R s m args below meth c Q dC dI cA g A nL pc lv st hp nc ns := by
  match st, h with
  | [], h => cases h
  | [_], h => cases h
  | j :: .float _ :: st', h =>
    intro ws H locs ls clv cst ⟨r1, r2, r3, r4, r5, r6, r7⟩
    obtain ⟨cj, cr, rfl, h5, h6⟩ := zvs_cons r7
    obtain ⟨cv, cr, rfl, h7, h8⟩ := zvs_cons h6
    cases (show cv = _ from h7)
    simp only [zx_sld] at h
    obtain ⟨a, rfl, h⟩ := zI_ok hE h5 h
    cases hi : zix a L with
    | false => rw [hi] at h; cases h
    | true =>
      rw [hi, cond_true, zn_eq] at h
      refine va_sld hx hb hX hbl hbA r4 (zix_ok hi) hdg (Hk _ _ _ _ _ _ h ws H locs ls clv _ ⟨r1, r2, r3, r4, r5, r6, ?_, h8⟩)
      obtain ⟨i, i1, i2⟩ := vp_in_of (zix_ok hi) hL
      show Value.int (xs a.toNatClampNeg) = .int (g.1 a.toNatClampNeg)
      rw [i2, nI_clamp (by omega), hxs i i1]
noncomputable def zx_slen (L : Nat) (pc : Nat) (lv : ZL) (st : List Value) (hp : List ZE) (nc ns : Nat) (ret : ZRt) : ZX := match st with
  | .float _ :: st' => ret (pc + 1) lv (.int (Int32.ofNat L) :: st') hp nc ns
  | _ => zfail
theorem zs_slen (hx : p.tables.exec = Jvm.exec) (hb : c.code = cc) {L : Nat} {xs : Nat → Int32} (hX : va_X g.2.1 L xs s s.heap) (hbl : g.2.1 < s.heap.size) (hbA : ¬ A g.2.1) (hdg : decode cc pc = .ok (.arraylength, 1)) (h : zx_slen L pc lv st hp nc ns ret = .ok r) (Hk : ∀ (pc : Nat) (lv : ZL) (st : List Value) (hp : List ZE) (nc ns : Nat), ret pc lv st hp nc ns = .ok r → zW p l e R s m args below meth c Q dC dI cA g A nL pc lv st hp nc ns) : zW p l e R s m args below meth c Q dC dI cA g A nL pc lv st hp nc ns := by
  match st, h with
  | [], h => cases h
  | .float _ :: st', h =>
    intro ws H locs ls clv cst ⟨r1, r2, r3, r4, r5, r6, r7⟩
    obtain ⟨cv, cr, rfl, h7, h8⟩ := zvs_cons r7
    cases (show cv = _ from h7)
    exact va_slen hx hb hX hbl hbA r4 hdg (Hk _ _ _ _ _ _ h ws H locs ls clv _ ⟨r1, r2, r3, r4, r5, r6, rfl, h8⟩)
/-- Object.<init> -/
noncomputable def zx_obj (pc : Nat) (lv : ZL) (st : List Value) (hp : List ZE) (nc ns : Nat) (ret : ZRt) : ZX := match st with
  | v :: st' => cond (zref v && Nat.ble (st'.map fun v => v.category).sum 8) (ret (pc + 3) lv st' hp nc ns) zfail
  | _ => zfail
theorem zs_obj (hx : p.tables.exec = Jvm.exec) (hb : c.code = cc) (hml : c.maxLocals = nL) (hown : s.vm.findClass own = some m.cls) (hts : ∀ w ∈ zT, w.before args s = true) {idx : Nat} (hRf : 1 ≤ R.frames) (hRl : 40 ≤ R.locals) (h1 : Cond.methodLink own idx objectInit ∈ zT) (h2 : Cond.instanceMethod objectInit ∈ zT) (h3 : Cond.code objectInit ⟨#[0xb1]⟩ 1 none ∈ zT) (hdg : decode cc pc = .ok (.invokespecial idx, 3)) (h : zx_obj pc lv st hp nc ns ret = .ok r) (Hk : ∀ (pc : Nat) (lv : ZL) (st : List Value) (hp : List ZE) (nc ns : Nat), ret pc lv st hp nc ns = .ok r → zW p l e R s m args below meth c Q dC dI cA g A nL pc lv st hp nc ns) : zW p l e R s m args below meth c Q dC dI cA g A nL pc lv st hp nc ns := by
  match st, h with
  | [], h => cases h
  | v :: st', h =>
    intro ws H locs ls clv cst ⟨r1, r2, r3, r4, r5, r6, r7⟩
    obtain ⟨cv, cr, rfl, h7, h8⟩ := zvs_cons r7
    simp only [zx_obj] at h
    cases hb1 : (zref v && Nat.ble (st'.map fun v => v.category).sum 8) with
    | false => rw [hb1] at h; cases h
    | true =>
      rw [hb1, cond_true] at h
      rw [Bool.and_eq_true] at hb1
      obtain ⟨a, rfl⟩ := zref_ok hb1.1 h7
      have hs8 : (cr.map fun v => v.category).sum ≤ 8 := by
        rw [zvs_sum h8]
        exact Nat.le_of_ble_eq_true hb1.2
      have hroom := lv_room (m := m) (pc := pc) (ls := ls) (rest := Value.ref a :: cr) hs8
      refine W.objInit hx hb hown (hts _ h1) (hts _ h2) (hts _ h3) (g := F0 m pc ls (.ref a :: cr)) rfl (by rw [hml]; exact r5.1) rfl hdg hRf (by omega) ?_
      exact Hk _ _ _ _ _ _ h ws H locs ls clv _ ⟨r1, r2, r3, r4, r5, r6, h8⟩
/-- System.arraycopy, ints -/
noncomputable def zcy (us0 us1 : ZL) (sp dp n : Nat) : ZL := Nat.rec (motive := fun _ => ZL) us1 (fun i acc => (dp + i, zel 0 us0 (sp + i)) :: zdrop acc (dp + i)) n
theorem zcy_el (us0 us1 : ZL) (sp dp n j : Nat) : zel 0 (zcy us0 us1 sp dp n) j = if dp ≤ j ∧ j < dp + n then zel 0 us0 (sp + (j - dp)) else zel 0 us1 j := by
  induction n with
  | zero =>
    rw [if_neg (by omega)]
    rfl
  | succ n ih =>
    show zel 0 ((dp + n, zel 0 us0 (sp + n)) :: zdrop (zcy us0 us1 sp dp n) (dp + n)) j = _
    rw [zel_put, ih]
    by_cases h : j = dp + n
    · rw [if_pos h, if_pos (by omega)]
      congr 1
      omega
    · rw [if_neg h]
      by_cases h2 : dp ≤ j ∧ j < dp + n
      · rw [if_pos h2, if_pos (by omega)]
      · rw [if_neg h2, if_neg (by omega)]
noncomputable def zx_cpy (E : ZN) (pc : Nat) (lv : ZL) (st : List Value) (hp : List ZE) (nc ns : Nat) (ret : ZRt) : ZX := match st with
  | vn :: vd :: v1 :: vs :: v0 :: st' => zI E vn (fun n => zI E vd (fun dp => zI E vs (fun sp => zrf hp v0 (fun _ e0 => zrf hp v1 (fun q1 e1 => match e0, e1 with
    | .inl x0, .inl x1 => cond (Nat.beq x0.1 0 && (Nat.beq x1.1 0 && (decide (0 ≤ n.toInt) && (decide (0 ≤ dp.toInt) && (decide (0 ≤ sp.toInt) && (Nat.ble (sp.toNatClampNeg + n.toNatClampNeg) x0.2.1 && (Nat.ble (dp.toNatClampNeg + n.toNatClampNeg) x1.2.1 && Nat.ble (st'.map fun v => v.category).sum 8)))))))
        (zfl (zcy x0.2.2 x1.2.2 sp.toNatClampNeg dp.toNatClampNeg n.toNatClampNeg) (fun us => zsk hp (.inl (0, x1.2.1, us)) q1 (fun hp' => ret (pc + 3) lv st' hp' nc ns))) zfail
    | _, _ => zfail)))))
  | _ => zfail
theorem zn0 {z : Int32} (h : decide (0 ≤ z.toInt) = true) : ¬ z < 0 := by
  intro q
  have e1 := of_decide_eq_true h
  have e2 : z.toInt < (0 : Int32).toInt := Int32.lt_iff_toInt_lt.mp q
  have e3 : (0 : Int32).toInt = 0 := rfl
  omega
theorem zs_cpy (hx : p.tables.exec = Jvm.exec) (hb : c.code = cc) (hml : c.maxLocals = nL) (hown : s.vm.findClass own = some m.cls) (hts : ∀ w ∈ zT, w.before args s = true) (hK : va_K (dC, dI) vwCl (ztys cA) s) (hE : zen E g) {idx : Nat} (hRf : 1 ≤ R.frames) (hRl : 40 ≤ R.locals) (h1 : Cond.methodLink own idx arraycopyName ∈ zT) (h2 : Cond.native arraycopyName ∈ zT) (h3 : Cond.static arraycopyName ∈ zT) (h4 : Cond.initialized "java/lang/System" ∈ zT) (hdg : decode cc pc = .ok (.invokestatic idx, 3)) (h : zx_cpy E pc lv st hp nc ns ret = .ok r) (Hk : ∀ (pc : Nat) (lv : ZL) (st : List Value) (hp : List ZE) (nc ns : Nat), ret pc lv st hp nc ns = .ok r → zW p l e R s m args below meth c Q dC dI cA g A nL pc lv st hp nc ns) : zW p l e R s m args below meth c Q dC dI cA g A nL pc lv st hp nc ns := by
  match st, h with
  | [], h => cases h
  | [_], h => cases h
  | [_, _], h => cases h
  | [_, _, _], h => cases h
  | [_, _, _, _], h => cases h
  | vn :: vd :: v1 :: vs :: v0 :: st', h =>
    intro ws H locs ls clv cst ⟨r1, r2, r3, r4, r5, r6, r7⟩
    obtain ⟨cn, cr, rfl, g1, g2⟩ := zvs_cons r7
    obtain ⟨cd, cr, rfl, g3, g4⟩ := zvs_cons g2
    obtain ⟨c1, cr, rfl, g5, g6⟩ := zvs_cons g4
    obtain ⟨cs, cr, rfl, g7, g8⟩ := zvs_cons g6
    obtain ⟨c0, cr, rfl, g9, g10⟩ := zvs_cons g8
    simp only [zx_cpy] at h
    obtain ⟨n, rfl, h⟩ := zI_ok hE g1 h
    obtain ⟨dp, rfl, h⟩ := zI_ok hE g3 h
    obtain ⟨sp, rfl, h⟩ := zI_ok hE g7 h
    obtain ⟨q0, e0, a0, w0, rfl, hq0, rfl, hw0, hz0, h⟩ := zrf_ok r1 g9 h
    obtain ⟨q1, e1, a1, w1, rfl, hq1, rfl, hw1, hz1, h⟩ := zrf_ok r1 g5 h
    cases e0 with
    | inr x0 => cases h
    | inl x0 =>
      cases e1 with
      | inr x1 => cases h
      | inl x1 =>
        obtain ⟨t0, n0, us0⟩ := x0
        obtain ⟨t1, n1, us1⟩ := x1
        simp only at h
        cases hb1 : (Nat.beq t0 0 && (Nat.beq t1 0 && (decide (0 ≤ n.toInt) && (decide (0 ≤ dp.toInt) && (decide (0 ≤ sp.toInt) && (Nat.ble (sp.toNatClampNeg + n.toNatClampNeg) n0 && (Nat.ble (dp.toNatClampNeg + n.toNatClampNeg) n1 && Nat.ble (st'.map fun v => v.category).sum 8))))))) with
        | false => rw [hb1] at h; cases h
        | true =>
          rw [hb1, cond_true, zfl_eq, zsk_eq] at h
          have hz9 := h
          simp only [Bool.and_eq_true] at hb1
          obtain ⟨b1, b2, b3, b4, b5, b6, b7, b8⟩ := hb1
          cases Nat.beq_eq.mp b1
          cases Nat.beq_eq.mp b2
          obtain ⟨ar0, rfl, hza0⟩ := zarr hz0
          obtain ⟨ar1, rfl, hza1⟩ := zarr hz1
          obtain ⟨f0, rfl, hf0⟩ := hza0.1 (Nat.succ_pos 2)
          obtain ⟨f1, rfl, hf1⟩ := hza1.1 (Nat.succ_pos 2)
          have hs8 : (cr.map fun v => v.category).sum ≤ 8 := by
            rw [zvs_sum g10]
            exact Nat.le_of_ble_eq_true b8
          have hnf : nativeFrameWords "java/lang/System" "arraycopy" 5 = 7 := by decide
          refine va_copyi hx hb (hml.trans r5.1.symm) hown (hts _ h1) (hts _ h2) (hts _ h3) (hts _ h4) hK r2 r3 r4 q0 q1 0 0 (ty := .int) hw0 hw1 rfl rfl rfl (zn0 b5) (zn0 b4) (zn0 b3) (Nat.le_of_ble_eq_true b6) (Nat.le_of_ble_eq_true b7) (fun i _ => rfl) hRf (by rw [hnf]; omega) hdg (fun H1 locs1 p1 p2 p3 => ?_)
          refine Hk _ _ _ _ _ _ hz9 _ H1 locs1 ls clv _ ⟨zh_set r1 hw1 ⟨_, rfl, ⟨fun _ => ⟨_, rfl, fun j => ?_⟩, fun q => absurd (show (0 : Nat) = 3 from q) (by decide), fun q => absurd (show (3 : Nat) < 0 from q) (by decide)⟩⟩, p1, p2, p3, r5, ?_, ?_⟩
          · rw [zcy_el]
            unfold va_cpy
            by_cases hj : dp.toNatClampNeg ≤ j ∧ j < dp.toNatClampNeg + n.toNatClampNeg
            · rw [if_pos hj, if_pos hj]
              exact hf0 _
            · rw [if_neg hj, if_neg hj]
              exact hf1 _
          · rw [zad_set hw1]; exact r6
          · rw [zad_set hw1]; exact g10
/-- Math.max -/
noncomputable def zx_max (E : ZN) (bc bs : Nat) (pc : Nat) (lv : ZL) (st : List Value) (hp : List ZE) (nc ns : Nat) (ret : ZRt) : ZX := match st with
  | y :: x :: st' => zI E x (fun a => zI E y (fun b => cond (Nat.ble (st'.map fun v => v.category).sum 8 && (Nat.ble nc bc && Nat.ble ns bs)) (zi (if a < b then b else a) (fun z => ret (pc + 3) lv (.int z :: st') hp nc ns)) zfail))
  | _ => zfail
theorem zs_max (hx : p.tables.exec = Jvm.exec) (hb : c.code = cc) (hml : c.maxLocals = nL) (hown : s.vm.findClass own = some m.cls) (hts : ∀ w ∈ zT, w.before args s = true) (hE : zen E g) {idx bc bs : Nat} (hRc : bc ≤ R.cells) (hRs : bs ≤ R.slots) (hRf : 1 ≤ R.frames) (hRl : 40 ≤ R.locals) (h1 : Cond.methodLink own idx Lib.Math.max.name ∈ zT) (h2 : Cond.static Lib.Math.max.name ∈ zT) (h3 : Cond.initialized "java/lang/Math" ∈ zT) (h4 : Cond.code Lib.Math.max.name Lib.Math.max.code 2 (some .int) ∈ zT) (hdg : decode cc pc = .ok (.invokestatic idx, 3)) (h : zx_max E bc bs pc lv st hp nc ns ret = .ok r) (Hk : ∀ (pc : Nat) (lv : ZL) (st : List Value) (hp : List ZE) (nc ns : Nat), ret pc lv st hp nc ns = .ok r → zW p l e R s m args below meth c Q dC dI cA g A nL pc lv st hp nc ns) : zW p l e R s m args below meth c Q dC dI cA g A nL pc lv st hp nc ns := by
  match st, h with
  | [], h => cases h
  | [_], h => cases h
  | y :: x :: st', h =>
    intro ws H locs ls clv cst ⟨r1, r2, r3, r4, r5, r6, r7⟩
    obtain ⟨cy, cr, rfl, h5, h6⟩ := zvs_cons r7
    obtain ⟨cx, cr, rfl, h7, h8⟩ := zvs_cons h6
    simp only [zx_max] at h
    obtain ⟨a, rfl, h⟩ := zI_ok hE h7 h
    obtain ⟨b, rfl, h⟩ := zI_ok hE h5 h
    cases hb1 : (Nat.ble (st'.map fun v => v.category).sum 8 && (Nat.ble nc bc && Nat.ble ns bs)) with
    | false => rw [hb1] at h; cases h
    | true =>
      rw [hb1, cond_true, zi_eq] at h
      simp only [Bool.and_eq_true] at hb1
      have hs8 : (cr.map fun v => v.category).sum ≤ 8 := by
        rw [zvs_sum h8]
        exact Nat.le_of_ble_eq_true hb1.1
      exact va_mmax hx hb (hml.trans r5.1.symm) hown (hts _ h1) (hts _ h2) (hts _ h3) (hts _ h4) hRf (by omega) (Nat.le_trans (Nat.le_of_ble_eq_true hb1.2.1) hRc) (Nat.le_trans (Nat.le_of_ble_eq_true hb1.2.2) hRs) hdg (Hk _ _ _ _ _ _ h ws H locs ls clv _ ⟨r1, r2, r3, r4, r5, r6, rfl, h8⟩)
end ZMK
end
section
/-! the machine of known values, and what its tables must say -/
abbrev ZMe : Type := String × MethodName × ByteArray × Nat × Option FieldType × Nat × Nat
abbrev ZI : Type := Nat × Instr × Nat × List Nat
def zl (i : Instr) : Nat := match i with
  | .iconst _ => 1
  | .lconst _ => 1
  | .bipush _ => 2
  | .sipush _ => 3
  | .ldc _ => 2
  | .ldc2_w _ => 3
  | .iload _ => 2
  | .aload _ => 2
  | .istore _ => 2
  | .astore _ => 2
  | .iinc _ _ => 3
  | .if_icmp _ _ => 3
  | .ifCond _ _ => 3
  | .goto _ => 3
  | .getfield _ => 3
  | .putfield _ => 3
  | .new _ => 3
  | .newarray _ => 2
  | .anewarray _ => 3
  | .invokespecial _ => 3
  | .invokestatic _ => 3
  | .invokevirtual _ => 3
  | _ => 1
def zlok (i : Instr) (len : Nat) : Bool := match i with
  | .tableswitch _ _ _ _ => true
  | i => Nat.beq len (zl i)
def zfl1 (ci f : Nat) (k : String → u_T → Nat → Bool) : Bool := match vwCl[ci]? with
  | some q => Nat.blt f q.2.2 && k q.1 q.2.1 q.2.2
  | none => false
theorem zfl1_ok {ci f : Nat} {k : String → u_T → Nat → Bool} (h : zfl1 ci f k = true) : ∃ C T N, vwCl[ci]? = some (C, T, N) ∧ f < N ∧ k C T N = true := by
  unfold zfl1 at h
  cases hq : vwCl[ci]? with
  | none => rw [hq] at h; cases h
  | some q =>
    rw [hq] at h
    simp only [Bool.and_eq_true] at h
    exact ⟨q.1, q.2.1, q.2.2, rfl, zblt h.1, h.2⟩
def zpf (kd : Nat) (ds : String) : Bool := match parseFieldDescriptor ds with
  | some ty => zkt kd ty
  | none => false
theorem zpf_ok {kd : Nat} {ds : String} (h : zpf kd ds = true) : ∃ ty, parseFieldDescriptor ds = some ty ∧ zkt kd ty = true := by
  unfold zpf at h
  cases hq : parseFieldDescriptor ds with
  | none => rw [hq] at h; cases h
  | some ty => rw [hq] at h; exact ⟨ty, rfl, h⟩
/-- the words that an instruction of a method needs -/
def zlk0 (own : String) (y : MethodName) (ins : Instr) (lk : List Nat) : Bool := match ins with
  | .getfield idx => (match lk with
    | [ci, f, i] => zfl1 ci f (fun _ T _ => zin i (.fieldLink own idx (T f).1 (T f).2.1 (T f).2.2.1))
    | _ => false)
  | .putfield idx => (match lk with
    | [ci, f, kd, fin, i] => zfl1 ci f (fun _ T _ => zin i (.fieldLink own idx (T f).1 (T f).2.1 (T f).2.2.1) && (zpf kd (T f).2.2.1 && cond (Nat.beq fin 0) (decide ((T f).2.2.2 = false)) (decide ((T f).2.2.2 = true) && (decide ((T f).1 = own) && decide (y.name = "<init>")))))
    | _ => false)
  | .new idx => (match lk with
    | [ci, n, i1, i2, i3] => zfl1 ci 0 (fun C _ N => Nat.beq n N && (zin i1 (.classLink own idx C) && (zin i2 (.instantiable C N) && zin i3 (.initialized C))))
    | _ => false)
  | .newarray at0 => (match lk with
    | [t, i] => Nat.blt t 4 && (decide (newarray.typeOf at0 = zty t) && zin i (.arrayClass (newarray.typeOf at0)))
    | _ => false)
  | .anewarray idx => (match lk with
    | [t, i1, _] => (match zty t with
      | .object C => (Nat.beq t 4 || Nat.beq t 5) && zin i1 (.classLink own idx C)
      | _ => false)
    | _ => false)
  | .ldc idx => (match lk with
    | [v, i] => zin i (.constant own idx (Int32.ofNat v))
    | _ => false)
  | .ldc2_w idx => (match lk with
    | [v, i] => zin i (.constantLong own idx (Int64.ofNat v))
    | _ => false)
  | .aastore => (match lk with
    | [t, ci] => (Nat.beq t 4 && Nat.beq ci 7) || (Nat.beq t 5 && Nat.beq ci 2)
    | _ => false)
  | _ => true
def zpl (v : Value) : Bool := match v with
  | .int _ => true
  | .long _ => true
  | .null => true
  | _ => false
theorem zpl_ok {g : ZG} {ad : List Nat} : ∀ {fs : List Value}, fs.all zpl = true → zvs ad g fs fs := by
  intro fs
  induction fs with
  | nil => exact fun _ => trivial
  | cons v fs ih =>
    intro h
    rw [List.all_cons, Bool.and_eq_true] at h
    refine ⟨?_, ih h.2⟩
    cases v with
    | int x => rfl
    | long x => rfl
    | null => rfl
    | _ => cases h.1
/-- one instruction that neither calls nor ends -/
noncomputable def zx (zd : List (List Value)) (E : ZN) (L k : Nat) (nL bc bs : Nat) (ins : Instr) (lk : List Nat) (pc : Nat) (lv : ZL) (st : List Value) (hp : List ZE) (nc ns : Nat) (ret : ZRt) : ZX := match ins with
  | .iconst n => zi (Int32.ofInt n) (fun x => ret (pc + 1) lv (.int x :: st) hp nc ns)
  | .bipush n => zi (Int8.ofInt n).toInt32 (fun x => ret (pc + 2) lv (.int x :: st) hp nc ns)
  | .sipush n => zi (Int16.ofInt n).toInt32 (fun x => ret (pc + 3) lv (.int x :: st) hp nc ns)
  | .ldc _ => (match lk with
    | [v, _] => zi (Int32.ofNat v) (fun x => ret (pc + 2) lv (.int x :: st) hp nc ns)
    | _ => zfail)
  | .ldc2_w _ => (match lk with
    | [v, _] => ret (pc + 3) lv (.long (Int64.ofNat v) :: st) hp nc ns
    | _ => zfail)
  | .iload_n i => zx_ld zint i.val 1 pc lv st hp nc ns ret
  | .iload i => zx_ld zint i 2 pc lv st hp nc ns ret
  | .aload_n i => zx_ld zref i.val 1 pc lv st hp nc ns ret
  | .aload i => zx_ld zref i 2 pc lv st hp nc ns ret
  | .istore_n i => zx_st zint nL i.val 1 pc lv st hp nc ns ret
  | .istore i => zx_st zint nL i 2 pc lv st hp nc ns ret
  | .astore_n i => zx_st zref nL i.val 1 pc lv st hp nc ns ret
  | .astore i => zx_st zref nL i 2 pc lv st hp nc ns ret
  | .iinc i n => zx_iinc nL i n pc lv st hp nc ns ret
  | .iadd => zx_bin E (fun a b => a + b) pc lv st hp nc ns ret
  | .isub => zx_bin E (fun a b => a - b) pc lv st hp nc ns ret
  | .imul => zx_bin E (fun a b => a * b) pc lv st hp nc ns ret
  | .ior => zx_bin E (fun a b => a ||| b) pc lv st hp nc ns ret
  | .ishl => zx_bin E (fun a b => a <<< (b &&& 31)) pc lv st hp nc ns ret
  | .ishr => zx_bin E (fun a b => a >>> (b &&& 31)) pc lv st hp nc ns ret
  | .idiv => zx_div E (fun a b => a / b) pc lv st hp nc ns ret
  | .irem => zx_div E (fun a b => a - a / b * b) pc lv st hp nc ns ret
  | .iand => zx_and E pc lv st hp nc ns ret
  | .if_icmp op off => zx_icmp E op off pc lv st hp nc ns ret
  | .ifCond op off => zx_if E op off pc lv st hp nc ns ret
  | .goto off => zj pc off (fun t => ret t lv st hp nc ns)
  | .tableswitch dflt lo hi offs => zx_tsw E dflt lo hi offs.toList pc lv st hp nc ns ret
  | .dup => zx_dup pc lv st hp nc ns ret
  | .dup2 => zx_dup2 pc lv st hp nc ns ret
  | .pop => zx_pop pc lv st hp nc ns ret
  | .getfield _ => (match lk with
    | [ci, f, _] => zx_getf ci f pc lv st hp nc ns ret
    | _ => zfail)
  | .putfield _ => (match lk with
    | [ci, f, kd, _, _] => zx_putf ci f kd pc lv st hp nc ns ret
    | _ => zfail)
  | .iaload => cond (Nat.beq k 0) (zx_sld E L pc lv st hp nc ns ret) (zx_ald E (fun t => Nat.beq t 0) pc lv st hp nc ns ret)
  | .baload => zx_ald E (fun t => Nat.beq t 1) pc lv st hp nc ns ret
  | .caload => zx_ald E (fun t => Nat.beq t 2) pc lv st hp nc ns ret
  | .laload => zx_ald E (fun t => Nat.beq t 3) pc lv st hp nc ns ret
  | .aaload => zx_ald E (fun t => Nat.beq t 4 || Nat.beq t 5) pc lv st hp nc ns ret
  | .iastore => zx_ast E 0 zfi pc lv st hp nc ns ret
  | .bastore => zx_ast E 1 (zfz E) pc lv st hp nc ns ret
  | .lastore => zx_ast E 3 zfL pc lv st hp nc ns ret
  | .aastore => (match lk with
    | [t, ci] => zx_ast E t (zfo hp ci) pc lv st hp nc ns ret
    | _ => zfail)
  | .arraylength => cond (Nat.beq k 0) (zx_slen L pc lv st hp nc ns ret) (zx_alen pc lv st hp nc ns ret)
  | .new _ => (match lk with
    | [ci, n, _, _, _] => (match zget zd ci with
      | some fs => zx_new fs ci n bc bs pc lv st hp nc ns ret
      | none => zfail)
    | _ => zfail)
  | .newarray _ => (match lk with
    | [t, _] => zx_newa E t bc bs 2 pc lv st hp nc ns ret
    | _ => zfail)
  | .anewarray _ => (match lk with
    | [t, _, _] => zx_newa E t bc bs 3 pc lv st hp nc ns ret
    | _ => zfail)
  | _ => zfail
/-- what is known of the classes -/
def zCl (zd : List (List Value)) : Prop := ∀ (ci : Nat) (C : String) (T : u_T) (N : Nat), vwCl[ci]? = some (C, T, N) → (∀ w ∈ u_ws C T N, w ∈ zT) ∧ ∃ ty0 : Nat → FieldType, (∀ k, k < N → parseFieldDescriptor (T k).2.2.1 = some (ty0 k)) ∧ (∀ a, a < N → ∀ b, b < N → a ≠ b → (T a).2.1 ≠ (T b).2.1) ∧ ∃ fs, zd[ci]? = some fs ∧ fs.all zpl = true ∧ ∀ j, j < N → defaultValue (ty0 j) = vp_V fs j
section ZMA
variable {p : Program} {l : Launch} {e : Env} {R : Room} {s : State} {m : MethodId} {args : Array Value} {below : List Frame} {meth : Method} {c : Code} {Q : State → Prop} {dC : Nat → ClassId} {dI : Nat → Nat → Nat} {cA : Nat → ClassId} {g : ZG} {A : Nat → Prop} {nL : Nat} {cc : ByteArray} {pc : Nat} {lv : ZL} {st : List Value} {hp : List ZE} {nc ns : Nat} {ret : ZRt} {r : ZS} {E : ZN} {own : String}
set_option maxHeartbeats 4000000 in
theorem zx_sound {zd : List (List Value)} {L k bc bs len : Nat} {y : MethodName} {ins : Instr} {lk : List Nat} (hcl : zCl zd) (hz9 : zX s) (hx : p.tables.exec = Jvm.exec) (hb : c.code = cc) (hown : s.vm.findClass own = some m.cls) (hts : ∀ w ∈ zT, w.before args s = true) (hK : va_K (dC, dI) vwCl (ztys cA) s) (hA : ∀ q, s.heap.size ≤ q → A q) (hE : zen E g) (hg : g.1 7 = g.1 0 &&& 31) (hRc : bc ≤ R.cells) (hRs : bs ≤ R.slots) (hI : y.name = "<init>" → meth.name = "<init>")
    (hscr : k = 0 → ∃ xs : Nat → Int32, va_X g.2.1 L xs s s.heap ∧ g.2.1 < s.heap.size ∧ ¬ A g.2.1 ∧ (∀ j, j < L → g.1 j = xs j) ∧ L < 2 ^ 31)
    (hdg : decode cc pc = .ok (ins, len)) (hlen : zlok ins len = true) (hlk : zlk0 own y ins lk = true) (h : zx zd E L k nL bc bs ins lk pc lv st hp nc ns ret = .ok r) (Hk : ∀ (pc : Nat) (lv : ZL) (st : List Value) (hp : List ZE) (nc ns : Nat), ret pc lv st hp nc ns = .ok r → zW p l e R s m args below meth c Q dC dI cA g A nL pc lv st hp nc ns) : zW p l e R s m args below meth c Q dC dI cA g A nL pc lv st hp nc ns := by
  cases ins with
  | iconst n =>
    cases Nat.beq_eq.mp (show Nat.beq len 1 = true from hlen)
    simp only [zx, zi_eq] at h
    exact zs_push (v := .int _) (fun _ => rfl) (fun H locs ls cst w => lv_iconst hx hb hdg rfl w) (Hk _ _ _ _ _ _ h)
  | bipush n =>
    cases Nat.beq_eq.mp (show Nat.beq len 2 = true from hlen)
    simp only [zx, zi_eq] at h
    exact zs_push (v := .int _) (fun _ => rfl) (fun H locs ls cst w => lv_bipush hx hb hdg rfl w) (Hk _ _ _ _ _ _ h)
  | sipush n =>
    cases Nat.beq_eq.mp (show Nat.beq len 3 = true from hlen)
    simp only [zx, zi_eq] at h
    exact zs_push (v := .int _) (fun _ => rfl) (fun H locs ls cst w => lv_sipush hx hb hdg rfl w) (Hk _ _ _ _ _ _ h)
  | ldc idx =>
    cases Nat.beq_eq.mp (show Nat.beq len 2 = true from hlen)
    match lk, hlk, h with
    | [v, i], hlk, h =>
      simp only [zx, zi_eq] at h
      exact zs_push (v := .int _) (fun _ => rfl) (fun H locs ls cst w => lv_ldc hx hb hown (hts _ (zin_ok hlk)) hdg w) (Hk _ _ _ _ _ _ h)
    | [], hlk, h => cases hlk
    | [_], hlk, h => cases hlk
    | _ :: _ :: _ :: _, hlk, h => cases hlk
  | ldc2_w idx =>
    cases Nat.beq_eq.mp (show Nat.beq len 3 = true from hlen)
    match lk, hlk, h with
    | [v, i], hlk, h =>
      simp only [zx] at h
      exact zs_push (v := .long _) (fun _ => rfl) (fun H locs ls cst w => lv_ldc2 hx hb hown (hts _ (zin_ok hlk)) hdg w) (Hk _ _ _ _ _ _ h)
    | [], hlk, h => cases hlk
    | [_], hlk, h => cases hlk
    | _ :: _ :: _ :: _, hlk, h => cases hlk
  | iload_n i =>
    cases Nat.beq_eq.mp (show Nat.beq len 1 = true from hlen)
    exact zs_iload_n hx hb hdg h Hk
  | iload i =>
    cases Nat.beq_eq.mp (show Nat.beq len 2 = true from hlen)
    exact zs_iload hx hb hdg h Hk
  | aload_n i =>
    cases Nat.beq_eq.mp (show Nat.beq len 1 = true from hlen)
    exact zs_aload_n hx hb hdg h Hk
  | aload i =>
    cases Nat.beq_eq.mp (show Nat.beq len 2 = true from hlen)
    exact zs_aload hx hb hdg h Hk
  | istore_n i =>
    cases Nat.beq_eq.mp (show Nat.beq len 1 = true from hlen)
    exact zs_istore_n hx hb hdg h Hk
  | istore i =>
    cases Nat.beq_eq.mp (show Nat.beq len 2 = true from hlen)
    exact zs_istore hx hb hdg h Hk
  | astore_n i =>
    cases Nat.beq_eq.mp (show Nat.beq len 1 = true from hlen)
    exact zs_astore_n hx hb hdg h Hk
  | astore i =>
    cases Nat.beq_eq.mp (show Nat.beq len 2 = true from hlen)
    exact zs_astore hx hb hdg h Hk
  | iinc i n =>
    cases Nat.beq_eq.mp (show Nat.beq len 3 = true from hlen)
    exact zs_iinc hx hb hdg h Hk
  | iadd =>
    cases Nat.beq_eq.mp (show Nat.beq len 1 = true from hlen)
    exact zs_bin hE (fun a b H locs ls cst w => lv_iadd hx hb hdg w) h Hk
  | isub =>
    cases Nat.beq_eq.mp (show Nat.beq len 1 = true from hlen)
    exact zs_bin hE (fun a b H locs ls cst w => lv_isub hx hb hdg w) h Hk
  | imul =>
    cases Nat.beq_eq.mp (show Nat.beq len 1 = true from hlen)
    exact zs_bin hE (fun a b H locs ls cst w => lv_imul hx hb hdg w) h Hk
  | ior =>
    cases Nat.beq_eq.mp (show Nat.beq len 1 = true from hlen)
    exact zs_bin hE (fun a b H locs ls cst w => lv_ior hx hb hdg w) h Hk
  | ishl =>
    cases Nat.beq_eq.mp (show Nat.beq len 1 = true from hlen)
    exact zs_bin hE (fun a b H locs ls cst w => lv_ishl hx hb hdg w) h Hk
  | ishr =>
    cases Nat.beq_eq.mp (show Nat.beq len 1 = true from hlen)
    exact zs_bin hE (fun a b H locs ls cst w => lv_ishr hx hb hdg w) h Hk
  | idiv =>
    cases Nat.beq_eq.mp (show Nat.beq len 1 = true from hlen)
    exact zs_div hE (fun a b H locs ls cst hne w => lv_idiv hx hb hdg hne w) h Hk
  | irem =>
    cases Nat.beq_eq.mp (show Nat.beq len 1 = true from hlen)
    exact zs_div hE (fun a b H locs ls cst hne w => lv_irem hx hb hdg hne w) h Hk
  | iand =>
    cases Nat.beq_eq.mp (show Nat.beq len 1 = true from hlen)
    exact zs_and hx hb hE hg hdg h Hk
  | if_icmp op off =>
    cases Nat.beq_eq.mp (show Nat.beq len 3 = true from hlen)
    exact zs_icmp hx hb hE hdg h Hk
  | ifCond op off =>
    cases Nat.beq_eq.mp (show Nat.beq len 3 = true from hlen)
    exact zs_if hx hb hE hdg h Hk
  | goto off =>
    cases Nat.beq_eq.mp (show Nat.beq len 3 = true from hlen)
    exact zs_goto hx hb hdg h Hk
  | tableswitch dflt lo hi offs => exact zs_tsw hx hb hE hdg h Hk
  | dup =>
    cases Nat.beq_eq.mp (show Nat.beq len 1 = true from hlen)
    exact zs_dup hx hb hdg h Hk
  | dup2 =>
    cases Nat.beq_eq.mp (show Nat.beq len 1 = true from hlen)
    exact zs_dup2 hx hb hdg h Hk
  | pop =>
    cases Nat.beq_eq.mp (show Nat.beq len 1 = true from hlen)
    exact zs_pop hx hb hdg h Hk
  | getfield idx =>
    cases Nat.beq_eq.mp (show Nat.beq len 3 = true from hlen)
    match lk, hlk, h with
    | [ci, f, i], hlk, h =>
      simp only [zlk0] at hlk
      obtain ⟨C, T, N, h1, h2, h3⟩ := zfl1_ok hlk
      exact zs_getf hx hb hown hts hK (hcl ci C T N h1).1 h1 h2 (zin_ok h3) hdg h Hk
    | [], hlk, h => cases hlk
    | [_], hlk, h => cases hlk
    | [_, _], hlk, h => cases hlk
    | _ :: _ :: _ :: _ :: _, hlk, h => cases hlk
  | putfield idx =>
    cases Nat.beq_eq.mp (show Nat.beq len 3 = true from hlen)
    match lk, hlk, h with
    | [ci, f, kd, fin, i], hlk, h =>
      simp only [zlk0] at hlk
      obtain ⟨C, T, N, h1, h2, h3⟩ := zfl1_ok hlk
      rw [Bool.and_eq_true, Bool.and_eq_true] at h3
      obtain ⟨h4, h5, h6⟩ := h3
      obtain ⟨ty, h7, h8⟩ := zpf_ok h5
      obtain ⟨q1, ty0, q2, q3, -⟩ := hcl ci C T N h1
      cases hf : Nat.beq fin 0 with
      | true =>
        rw [hf, cond_true] at h6
        exact zs_putf hx hb hown hts hK q1 q2 q3 h1 h2 (zin_ok h4) (of_decide_eq_true h6) h7 h8 hdg h Hk
      | false =>
        rw [hf, cond_false, Bool.and_eq_true, Bool.and_eq_true] at h6
        exact zs_putF hx hb hown hts hK q1 q2 q3 h1 h2 (zin_ok h4) (of_decide_eq_true h6.1) (hI (of_decide_eq_true h6.2.2)) (of_decide_eq_true h6.2.1) h7 h8 hdg h Hk
    | [], hlk, h => cases hlk
    | [_], hlk, h => cases hlk
    | [_, _], hlk, h => cases hlk
    | [_, _, _], hlk, h => cases hlk
    | [_, _, _, _], hlk, h => cases hlk
    | _ :: _ :: _ :: _ :: _ :: _ :: _, hlk, h => cases hlk
  | iaload =>
    cases Nat.beq_eq.mp (show Nat.beq len 1 = true from hlen)
    simp only [zx] at h
    cases hk : Nat.beq k 0 with
    | true =>
      rw [hk, cond_true] at h
      obtain ⟨xs, q1, q2, q3, q4, q5⟩ := hscr (Nat.beq_eq.mp hk)
      exact zs_sld hx hb hE q1 q2 q3 q4 q5 hdg h Hk
    | false =>
      rw [hk, cond_false] at h
      exact zs_iald hx hb hK hE hdg h Hk
  | baload =>
    cases Nat.beq_eq.mp (show Nat.beq len 1 = true from hlen)
    exact zs_zald hx hb hK hE hdg h Hk
  | caload =>
    cases Nat.beq_eq.mp (show Nat.beq len 1 = true from hlen)
    exact zs_cald hx hb hK hE hdg h Hk
  | laload =>
    cases Nat.beq_eq.mp (show Nat.beq len 1 = true from hlen)
    exact zs_lald hx hb hK hE hdg h Hk
  | aaload =>
    cases Nat.beq_eq.mp (show Nat.beq len 1 = true from hlen)
    exact zs_aald hx hb hK hE hdg h Hk
  | iastore =>
    cases Nat.beq_eq.mp (show Nat.beq len 1 = true from hlen)
    exact zs_iast hx hb hK hE hdg h Hk
  | bastore =>
    cases Nat.beq_eq.mp (show Nat.beq len 1 = true from hlen)
    exact zs_zast hx hb hK hE hdg h Hk
  | lastore =>
    cases Nat.beq_eq.mp (show Nat.beq len 1 = true from hlen)
    exact zs_last hx hb hK hE hdg h Hk
  | aastore =>
    cases Nat.beq_eq.mp (show Nat.beq len 1 = true from hlen)
    match lk, hlk, h with
    | [t, ci], hlk, h =>
      have h1 : ((Nat.beq t 4 && Nat.beq ci 7) || (Nat.beq t 5 && Nat.beq ci 2)) = true := hlk
      rw [Bool.or_eq_true, Bool.and_eq_true, Bool.and_eq_true] at h1
      exact zs_aast hx hb hK hE (h1.imp (fun q => ⟨Nat.beq_eq.mp q.1, Nat.beq_eq.mp q.2⟩) (fun q => ⟨Nat.beq_eq.mp q.1, Nat.beq_eq.mp q.2⟩)) hdg h Hk
    | [], hlk, h => cases hlk
    | [_], hlk, h => cases hlk
    | _ :: _ :: _ :: _, hlk, h => cases hlk
  | arraylength =>
    cases Nat.beq_eq.mp (show Nat.beq len 1 = true from hlen)
    simp only [zx] at h
    cases hk : Nat.beq k 0 with
    | true =>
      rw [hk, cond_true] at h
      obtain ⟨xs, q1, q2, q3, q4, q5⟩ := hscr (Nat.beq_eq.mp hk)
      exact zs_slen hx hb q1 q2 q3 hdg h Hk
    | false =>
      rw [hk, cond_false] at h
      exact zs_alen hx hb hK hdg h Hk
  | new idx =>
    cases Nat.beq_eq.mp (show Nat.beq len 3 = true from hlen)
    match lk, hlk, h with
    | [ci, n, i1, i2, i3], hlk, h =>
      simp only [zlk0] at hlk
      obtain ⟨C, T, N, h1, h2, h3⟩ := zfl1_ok hlk
      rw [Bool.and_eq_true, Bool.and_eq_true, Bool.and_eq_true] at h3
      obtain ⟨h4, h5, h6, h7⟩ := h3
      cases Nat.beq_eq.mp h4
      obtain ⟨q1, ty0, q2, q3, fs, q4, q5, q6⟩ := hcl ci C T n h1
      simp only [zx, zget_eq, q4] at h
      exact zs_new hx hb hown hts hK hA hRc hRs q1 q2 h1 q6 (fun ad => zpl_ok q5) (zin_ok h5) (zin_ok h6) (zin_ok h7) hdg h Hk
    | [], hlk, h => cases hlk
    | [_], hlk, h => cases hlk
    | [_, _], hlk, h => cases hlk
    | [_, _, _], hlk, h => cases hlk
    | [_, _, _, _], hlk, h => cases hlk
    | _ :: _ :: _ :: _ :: _ :: _ :: _, hlk, h => cases hlk
  | newarray at0 =>
    cases Nat.beq_eq.mp (show Nat.beq len 2 = true from hlen)
    match lk, hlk, h with
    | [t, i], hlk, h =>
      have h1 : (Nat.blt t 4 && (decide (newarray.typeOf at0 = zty t) && zin i (.arrayClass (newarray.typeOf at0)))) = true := hlk
      rw [Bool.and_eq_true, Bool.and_eq_true] at h1
      exact zs_newa hx hb hts hK hE hA hRc hRs (zblt h1.1) (of_decide_eq_true h1.2.1) (zin_ok h1.2.2) hdg h Hk
    | [], hlk, h => cases hlk
    | [_], hlk, h => cases hlk
    | _ :: _ :: _ :: _, hlk, h => cases hlk
  | anewarray idx =>
    cases Nat.beq_eq.mp (show Nat.beq len 3 = true from hlen)
    match lk, hlk, h with
    | [t, i1, i2], hlk, h =>
      simp only [zlk0] at hlk
      cases hz : zty t with
      | object C =>
        rw [hz] at hlk
        simp only [Bool.and_eq_true, Bool.or_eq_true] at hlk
        have ho : va_AO C s := by
          rcases hlk.1 with z | z
          · cases Nat.beq_eq.mp z
            cases hz
            exact hz9.2.1
          · cases Nat.beq_eq.mp z
            cases hz
            exact hz9.2.2
        exact zs_anewa hx hb hown hts hK hE hA hRc hRs (hlk.1.imp Nat.beq_eq.mp Nat.beq_eq.mp) hz (zin_ok hlk.2) ho hdg h Hk
      | _ => rw [hz] at hlk; cases hlk
    | [], hlk, h => cases hlk
    | [_], hlk, h => cases hlk
    | [_, _], hlk, h => cases hlk
    | _ :: _ :: _ :: _ :: _, hlk, h => cases hlk
  | _ => cases h
end ZMA
end
section
/-! calls, and the run -/
def zcw (own : String) (idx kd : Nat) (y : MethodName) (cc : ByteArray) (mL : Nat) (rt : Option FieldType) : List Cond := match kd with
  | 0 => [.methodLink own idx y, .static y, .initialized y.cls, .code y cc mL rt]
  | 1 => [.static y, .initialized y.cls, .code y cc mL rt]
  | 2 => [.methodLink own idx y, .instanceMethod y, .initialized y.cls, .code y cc mL rt, .selects y.cls y y]
  | 4 => [.methodLink own idx y, .instanceMethod y, .initialized y.cls, .code y cc mL rt]
  | _ => [.instanceMethod y, .initialized y.cls, .code y cc mL rt]
def zcwk (own : String) (idx kd : Nat) (y : MethodName) (cc : ByteArray) (mL : Nat) (rt : Option FieldType) (is : List Nat) : Bool := cond (Nat.beq kd 1 || Nat.beq kd 5) (match is with
  | i :: is => zinN i (.methodLinkNest own idx y "NamesUnder") && zchk (zcw own idx kd y cc mL rt) is
  | [] => false) (zchk (zcw own idx kd y cc mL rt) is)
theorem zcwk_ok {own : String} {idx kd : Nat} {y : MethodName} {cc : ByteArray} {mL : Nat} {rt : Option FieldType} {is : List Nat} (h : zcwk own idx kd y cc mL rt is = true) : (∀ w ∈ zcw own idx kd y cc mL rt, w ∈ zT) ∧ (kd = 1 ∨ kd = 5 → Cond.methodLinkNest own idx y "NamesUnder" ∈ zNl) := by
  unfold zcwk at h
  cases hk : (Nat.beq kd 1 || Nat.beq kd 5) with
  | true =>
    rw [hk, cond_true] at h
    cases is with
    | nil => cases h
    | cons i is =>
      simp only [Bool.and_eq_true] at h
      exact ⟨zchk_ok h.2, fun _ => zinN_ok h.1⟩
  | false =>
    rw [hk, cond_false] at h
    refine ⟨zchk_ok h, fun q => ?_⟩
    rcases q with rfl | rfl
    · cases hk
    · cases hk
def zcal (zm : List ZMe) (own : String) (idx kd kc n ci : Nat) (is : List Nat) : Bool := match zm[kc]? with
  | some me => zcwk own idx kd me.2.1 me.2.2.1 me.2.2.2.1 me.2.2.2.2.1 is && (decide (me.2.1.cls ≠ "java/lang/invoke/MethodHandle" ∧ me.2.1.cls ≠ "java/lang/invoke/VarHandle" ∧ (parseMethodDescriptor me.2.1.desc).map (fun d => d.parameters.length) = some n) && (Nat.ble me.2.2.2.1 21 && (Jvm.plainName me.2.1.cls && (decide (me.1 = me.2.1.cls) && (cond (Nat.ble kd 1) true (zfl1 ci 0 (fun C _ _ => decide (C = me.2.1.cls))) && (cond (Nat.ble kd 3) true (decide (me.2.1.name = "<init>" ∧ me.2.2.2.2.1 = none)) && !(Nat.beq kc 0)))))))
  | none => false
def zlkc (zm : List ZMe) (own : String) (ins : Instr) (lk : List Nat) : Bool := match ins with
  | .invokespecial idx => (match lk with
    | kd :: kc :: n :: ci :: is => cond (Nat.beq kd 6) (zchk [.methodLink own idx objectInit, .instanceMethod objectInit, .code objectInit ⟨#[0xb1]⟩ 1 none] is) ((Nat.beq kd 4 || Nat.beq kd 5) && zcal zm own idx kd kc n ci is)
    | _ => false)
  | .invokestatic idx => (match lk with
    | kd :: kc :: n :: ci :: is => cond (Nat.beq kd 7) (zchk [.methodLink own idx arraycopyName, .native arraycopyName, .static arraycopyName, .initialized "java/lang/System"] is) (cond (Nat.beq kd 8) (zchk [.methodLink own idx Lib.Math.max.name, .static Lib.Math.max.name, .initialized "java/lang/Math", .code Lib.Math.max.name Lib.Math.max.code 2 (some .int)] is) ((Nat.beq kd 0 || Nat.beq kd 1) && zcal zm own idx kd kc n ci is))
    | _ => false)
  | .invokevirtual idx => (match lk with
    | kd :: kc :: n :: ci :: is => Nat.beq kd 2 && zcal zm own idx kd kc n ci is
    | _ => false)
  | _ => true
def zok (zm : List ZMe) (me : ZMe) (q : ZI) : Bool := decide (decode me.2.2.1 q.1 = .ok (q.2.1, q.2.2.1)) && (zlok q.2.1 q.2.2.1 && (zlk0 me.1 me.2.1 q.2.1 q.2.2.2 && zlkc zm me.1 q.2.1 q.2.2.2))
def zTab (zm : List ZMe) (zc : List (List ZI)) : Prop := ∀ (k : Nat) (me : ZMe) (tb : List ZI), zm[k]? = some me → zc[k]? = some tb → ∀ q ∈ tb, zok zm me q = true
noncomputable def zft (tb : List ZI) (pc : Nat) : Option ZI := List.rec (motive := fun _ => Option ZI) none (fun q _ ih => cond (Nat.beq q.1 pc) (some q) ih) tb
theorem zft_ok {tb : List ZI} {pc : Nat} {q : ZI} (h : zft tb pc = some q) : q ∈ tb ∧ q.1 = pc := by
  induction tb with
  | nil => cases h
  | cons a r ih =>
    have h2 : cond (Nat.beq a.1 pc) (some a) (zft r pc) = some q := h
    cases hb : Nat.beq a.1 pc with
    | true =>
      rw [hb, cond_true] at h2
      cases h2
      exact ⟨List.mem_cons_self, Nat.beq_eq.mp hb⟩
    | false =>
      rw [hb, cond_false] at h2
      exact ⟨List.mem_cons_of_mem _ (ih h2).1, (ih h2).2⟩
def zstop (rt : Option FieldType) (i : Instr) : Bool := match rt with
  | none => (match i with
    | .return_ => true
    | _ => false)
  | some _ => (match i with
    | .ireturn => true
    | _ => false)
def zrt (ty : FieldType) (v : Value) : Bool := match ty with
  | .int => zkd 0 v
  | .boolean => zkd 1 v
  | _ => false
def zrcv (hp : List ZE) (v : Option Value) (q : Nat → Option ZE) (ci : Nat) : Bool := match v with
  | some (.ref k) => (match q k with
    | some (.inr x) => Nat.beq x.1 ci
    | _ => false)
  | _ => false
noncomputable def zback (me : ZMe) (bc bs : Nat) (rest : List Value) (pc : Nat) (lv : ZL) (nc ns : Nat) (r : ZS) (ret : ZRt) : ZX :=
  cond (Nat.ble r.2.2.2.2.1 bc && Nat.ble r.2.2.2.2.2 bs) (zn (nc + bc) (fun nc' => zn (ns + bs) (fun ns' => match me.2.2.2.2.1, r.2.2.1 with
    | none, [] => ret (pc + 3) lv rest r.2.2.2.1 nc' ns'
    | some ty, [v] => cond (zrt ty v) (ret (pc + 3) lv (v :: rest) r.2.2.2.1 nc' ns') zfail
    | _, _ => zfail))) zfail
noncomputable def zfin (zc : List (List ZI)) (kc : Nat) (rt : Option FieldType) (pc : Nat) (x : ZX) : ZX := match zget zc kc with
  | some tb => (match zft tb pc with
    | some q => cond (zstop rt q.2.1) x zfail
    | none => zfail)
  | none => zfail
theorem zfin_ok {zc : List (List ZI)} {kc pc : Nat} {rt : Option FieldType} {x : ZX} {r : ZS} (h : zfin zc kc rt pc x = .ok r) : (∃ (tb : List ZI) (q : ZI), zc[kc]? = some tb ∧ q ∈ tb ∧ q.1 = pc ∧ zstop rt q.2.1 = true) ∧ x = .ok r := by
  unfold zfin at h
  rw [zget_eq] at h
  cases hc : zc[kc]? with
  | none => rw [hc] at h; cases h
  | some tb =>
    rw [hc] at h
    simp only at h
    cases hf : zft tb pc with
    | none => rw [hf] at h; cases h
    | some q =>
      rw [hf] at h
      simp only at h
      cases hs : zstop rt q.2.1 with
      | false => rw [hs] at h; cases h
      | true =>
        rw [hs, cond_true] at h
        exact ⟨⟨tb, q, rfl, (zft_ok hf).1, (zft_ok hf).2, hs⟩, h⟩
noncomputable def zinv (zm : List ZMe) (zc : List (List ZI)) (rec9 : Nat → Nat → ZRt) (k d bc bs kd kc n ci : Nat) (pc : Nat) (lv : ZL) (st : List Value) (hp : List ZE) (nc ns : Nat) : ZX := match zget zm kc with
  | some me => zn (cond (Nat.ble kd 1) n (n + 1)) (fun na => cond (Nat.beq (st.take na).length na && (Nat.ble ((st.drop na).map fun v => v.category).sum 8 && (Nat.ble ((st.take na).map fun v => v.category).sum me.2.2.2.1 && (Nat.ble (nc + me.2.2.2.2.2.1) bc && (Nat.ble (ns + me.2.2.2.2.2.2) bs && cond (Nat.ble kd 1) true (zrcv hp (zget st n) (zget hp) ci))))))
      (Nat.rec (motive := fun _ => ZX) zfail (fun d' _ => zfl (st.take na).reverse (fun as => zfl (st.drop na) (fun rest => zfl (lv_args 0 as) (fun la => match rec9 kc d' 0 la [] hp 0 0 with
        | .error x => .error x
        | .ok r => zfin zc kc me.2.2.2.2.1 r.1 (zback me me.2.2.2.2.2.1 me.2.2.2.2.2.2 rest pc lv nc ns r (rec9 k d)))))) d) zfail)
  | none => zfail
noncomputable def zcl (zm : List ZMe) (zc : List (List ZI)) (E : ZN) (rec9 : Nat → Nat → ZRt) (k d bc bs : Nat) (lk : List Nat) (pc : Nat) (lv : ZL) (st : List Value) (hp : List ZE) (nc ns : Nat) : ZX := match lk with
  | kd :: kc :: n :: ci :: _ => cond (Nat.beq kd 6) (cond (Nat.ble 1 d) (zx_obj pc lv st hp nc ns (rec9 k d)) zfail) (cond (Nat.beq kd 7) (cond (Nat.ble 1 d) (zx_cpy E pc lv st hp nc ns (rec9 k d)) zfail) (cond (Nat.beq kd 8) (cond (Nat.ble 1 d) (zx_max E bc bs pc lv st hp nc ns (rec9 k d)) zfail) (zinv zm zc rec9 k d bc bs kd kc n ci pc lv st hp nc ns)))
  | _ => zfail
noncomputable def zdo (zm : List ZMe) (zc : List (List ZI)) (zd : List (List Value)) (E : ZN) (L : Nat) (rec9 : Nat → Nat → ZRt) (k d : Nat) (me : ZMe) (ins : Instr) (lk : List Nat) (pc : Nat) (lv : ZL) (st : List Value) (hp : List ZE) (nc ns : Nat) : ZX := match ins with
  | .invokespecial _ => zcl zm zc E rec9 k d me.2.2.2.2.2.1 me.2.2.2.2.2.2 lk pc lv st hp nc ns
  | .invokestatic _ => zcl zm zc E rec9 k d me.2.2.2.2.2.1 me.2.2.2.2.2.2 lk pc lv st hp nc ns
  | .invokevirtual _ => zcl zm zc E rec9 k d me.2.2.2.2.2.1 me.2.2.2.2.2.2 lk pc lv st hp nc ns
  | ins => zx zd E L k me.2.2.2.1 me.2.2.2.2.2.1 me.2.2.2.2.2.2 ins lk pc lv st hp nc ns (rec9 k d)
noncomputable def zstep (zm : List ZMe) (zc : List (List ZI)) (zd : List (List Value)) (E : ZN) (L sp : Nat) (rec9 : Nat → Nat → ZRt) (k d : Nat) (pc : Nat) (lv : ZL) (st : List Value) (hp : List ZE) (nc ns : Nat) : ZX := zn pc (fun pc => match zget zm k, zget zc k with
  | some me, some tb => (match zft tb pc with
    | some q => cond (zstop me.2.2.2.2.1 q.2.1 || (Nat.beq k 0 && Nat.beq pc sp)) (.ok (pc, lv, st, hp, nc, ns)) (zdo zm zc zd E L rec9 k d me q.2.1 q.2.2.2 pc lv st hp nc ns)
    | none => zfail)
  | _, _ => zfail)
noncomputable def zgo (zm : List ZMe) (zc : List (List ZI)) (zd : List (List Value)) (E : ZN) (L sp : Nat) (n : Nat) : Nat → Nat → ZRt := Nat.rec (motive := fun _ => Nat → Nat → ZRt) (fun _ _ _ _ _ _ _ _ => zfail) (fun _ ih => zstep zm zc zd E L sp ih) n
def zF (E : ZN) (L k d : Nat) (me : ZMe) (p : Program) (R : Room) (s : State) (m : MethodId) (args : Array Value) (meth : Method) (c : Code) (dC : Nat → ClassId) (dI : Nat → Nat → Nat) (cA : Nat → ClassId) (g : ZG) (A : Nat → Prop) : Prop :=
  p.tables.exec = Jvm.exec ∧ c.code = me.2.2.1 ∧ c.maxLocals = me.2.2.2.1 ∧ s.vm.findClass me.1 = some m.cls ∧ (∀ w ∈ zT, w.before args s = true) ∧ va_K (dC, dI) vwCl (ztys cA) s ∧ (∀ q, s.heap.size ≤ q → A q) ∧ zen E g ∧ g.1 7 = g.1 0 &&& 31 ∧ (d ≤ R.frames ∧ 40 * d ≤ R.locals) ∧ (me.2.2.2.2.2.1 ≤ R.cells ∧ me.2.2.2.2.2.2 ≤ R.slots) ∧ (me.2.1.name = "<init>" → meth.name = "<init>") ∧ zX s ∧
  (k = 0 → ∃ xs : Nat → Int32, va_X g.2.1 L xs s s.heap ∧ g.2.1 < s.heap.size ∧ ¬ A g.2.1 ∧ (∀ j, j < L → g.1 j = xs j) ∧ L < 2 ^ 31)
def zB (dC : Nat → ClassId) (dI : Nat → Nat → Nat) (cA : Nat → ClassId) (ws : va_W) (sz : Nat) (U : State) : Prop := U.heap.size = sz ∧ va_P (dC, dI) vwCl ws U.heap ∧ va_K (dC, dI) vwCl (ztys cA) U ∧ va_D (fun _ => True) ws ∧ zX U
theorem zB_blind {dC : Nat → ClassId} {dI : Nat → Nat → Nat} {cA : Nat → ClassId} {ws : va_W} {sz : Nat} {cas : List Value} : FrameBlind (va_Pc cas (zB dC dI cA ws sz)) := by
  intro a U g mk q
  obtain ⟨q0, q1, qP, qK, qD, qX⟩ := q
  exact ⟨q0, q1, qP, va_K.moved (u := U) (U := U.calling g mk a) (Vm.Alike.refl U.vm) qK, qD, zX.same (s := U) (U := U.calling g mk a) rfl qX⟩
def zpost (g : ZG) (cA : Nat → ClassId) (hp : List ZE) (ws u : va_W) : Prop := zh g cA hp u ∧ ∀ (k a : Nat), (zad ws)[k]? = some a → (zad u)[k]? = some a
def zend (dC : Nat → ClassId) (dI : Nat → Nat → Nat) (cA : Nat → ClassId) (A : Nat → Prop) (u : va_W) (t : State) : Prop := va_P (dC, dI) vwCl u t.heap ∧ va_K (dC, dI) vwCl (ztys cA) t ∧ va_D A u
/-- a run of a method from its entry to its return is its contract -/
def zRun (E : ZN) (L k d : Nat) (me : ZMe) (l : Launch) (dC : Nat → ClassId) (dI : Nat → Nat → Nat) (cA : Nat → ClassId) (la : ZL) (hp : List ZE) (r : ZS) : Prop :=
  ∀ (p : Program) (e : Env) (R : Room) (s : State) (m : MethodId) (args : Array Value) (below : List Frame) (meth : Method) (c : Code) (Q : State → Prop) (g : ZG) (A : Nat → Prop), zF E L k d me p R s m args meth c dC dI cA g A →
    zW p l e R s m args below meth c Q dC dI cA g A me.2.2.2.1 r.1 r.2.1 r.2.2.1 r.2.2.2.1 r.2.2.2.2.1 r.2.2.2.2.2 → zW p l e R s m args below meth c Q dC dI cA g A me.2.2.2.1 0 la [] hp 0 0
section ZME
variable {E : ZN} {L kc d : Nat} {own : String} {y : MethodName} {cc : ByteArray} {mL bc bs : Nat} {l : Launch} {dC : Nat → ClassId} {dI : Nat → Nat → Nat} {cA : Nat → ClassId} {g : ZG} {as cas : List Value} {hp hp' : List ZE} {ws : va_W} {sz pc' nc' ns' : Nat} {lv' : ZL}
theorem zmetv (hpl : Jvm.plainName y.cls = true) (hoy : own = y.cls) (hkc : ¬ kc = 0) (hE : zen E g) (hg7 : g.1 7 = g.1 0 &&& 31) (hzh : zh g cA hp ws) (hzv : zvs (zad ws) g as cas) (hlen : (lg_sl cas).length ≤ mL) (hnc : nc' ≤ bc) (hns : ns' ≤ bs) (hdec : decode cc pc' = .ok (.return_, 1))
    (H0 : zRun E L kc d (own, y, cc, mL, none, bc, bs) l dC dI cA (lv_args 0 as) hp (pc', lv', [], hp', nc', ns')) :
    Met l y (.code y cc mL none :: zT) { frames := d, cells := bc, slots := bs, locals := 40 * d } (va_Pc cas (zB dC dI cA ws sz)) (va_Qv (zpost (zga g (zad ws)) cA hp' ws) (zend dC dI cA (va_A ws sz)) (va_A ws sz)) bc bs (va_A ws sz) := by
  refine Met.ofW (cc := cc) (maxL := mL) (ret := none) hpl rfl ?_
  intro p e s m args below meth c s₁ B hml hv
  obtain ⟨rfl, hsz, hP, hK, hD0, hz9⟩ := hv
  have hx := B.exec
  have hb := B.bytes
  have hr := B.returns
  have hts := atoms_spec (ws := .code y cc mL none :: zT) B.pre
  have hown : s.vm.findClass y.cls = some m.cls := findClass_of_methodNamed B.named
  have hlocks := B.notSynchronized
  have hin : meth.name = y.name := (name_of_methodNamed B.named B.method).1
  subst hsz
  have hD := hD0.self (sz := s.heap.size)
  have hS : va_S (va_A ws s.heap.size) s.heap s.heap [] := va_S.rf
  have hl := lv_entry cas (n := mL) hlen
  rw [lg_entry_eq]
  generalize (lg_sl cas ++ List.replicate (mL - (lg_sl cas).length) Slot.unset).toArray = ls at hl ⊢
  have F : zF E L kc d (own, y, cc, mL, none, bc, bs) p { frames := d, cells := bc, slots := bs, locals := 40 * d } s m cas.toArray meth c dC dI cA (zga g (zad ws)) (va_A ws s.heap.size) :=
    ⟨hx, hb, hml, by rw [hoy]; exact hown, fun w hw => hts w (List.mem_cons_of_mem _ hw), hK, fun q h => Or.inr h, hE, hg7, ⟨Nat.le_refl _, Nat.le_refl _⟩, ⟨Nat.le_refl _, Nat.le_refl _⟩, fun h => hin.trans h, hz9, fun h => absurd h hkc⟩
  refine H0 p e _ s m _ below meth c _ (zga g (zad ws)) (va_A ws s.heap.size) F ?_ ws s.heap [] ls (lv_args 0 cas) [] ⟨zh_g (g := g) rfl rfl (fun _ _ h => h) hzh, hP, hD, hS, hl, zls_args 0 (zvs_g (g := g) (g' := zga g (zad ws)) rfl rfl hzv), trivial⟩
  intro ws' H locs ls' clv cst ⟨r1, r2, r3, r4, r5, r6, r7⟩
  cases zvs_nil r7
  refine W.widen hnc hns ?_
  exact W.vret hx hb hr (fun t ht hW => ⟨⟨ws', rfl, ⟨r1, r1.2.2⟩, by rw [ht]; exact r2, va_K.moved hW.alike hK, r3⟩, r4.F ht⟩) r4.2.2 hdec
theorem zrt_ok {ad : List Nat} {g : ZG} {ty : FieldType} {v cv : Value} (h : zrt ty v = true) (hv : zv ad g v cv) : ∃ x : Int32, cv = .int x ∧ narrow ty (.int x) = .int x := by
  cases ty with
  | int =>
    obtain ⟨x, rfl⟩ := zint_ok (show zint v = true from h) hv
    exact ⟨x, rfl, rfl⟩
  | boolean =>
    have h1 := (zkd_ok (ty := .boolean) (show zkd 1 v = true from h) rfl hv).1
    cases v with
    | int x =>
      cases (show cv = _ from hv)
      exact ⟨x, rfl, h1⟩
    | _ => cases h
  | _ => cases h
theorem zmeti {ty : FieldType} {v : Value} (hpl : Jvm.plainName y.cls = true) (hoy : own = y.cls) (hkc : ¬ kc = 0) (hE : zen E g) (hg7 : g.1 7 = g.1 0 &&& 31) (hzh : zh g cA hp ws) (hzv : zvs (zad ws) g as cas) (hlen : (lg_sl cas).length ≤ mL) (hnc : nc' ≤ bc) (hns : ns' ≤ bs) (hv9 : zrt ty v = true) (hdec : decode cc pc' = .ok (.ireturn, 1))
    (H0 : zRun E L kc d (own, y, cc, mL, some ty, bc, bs) l dC dI cA (lv_args 0 as) hp (pc', lv', [v], hp', nc', ns')) :
    Met l y (.code y cc mL (some ty) :: zT) { frames := d, cells := bc, slots := bs, locals := 40 * d } (va_Pc cas (zB dC dI cA ws sz)) (va_Qi (fun x u => zpost (zga g (zad ws)) cA hp' ws u ∧ zv (zad u) (zga g (zad ws)) v (.int x)) (zend dC dI cA (va_A ws sz)) (va_A ws sz)) bc bs (va_A ws sz) := by
  refine Met.ofW (cc := cc) (maxL := mL) (ret := some ty) hpl rfl ?_
  intro p e s m args below meth c s₁ B hml hv
  obtain ⟨rfl, hsz, hP, hK, hD0, hz9⟩ := hv
  have hx := B.exec
  have hb := B.bytes
  have hr := B.returns
  have hts := atoms_spec (ws := .code y cc mL (some ty) :: zT) B.pre
  have hown : s.vm.findClass y.cls = some m.cls := findClass_of_methodNamed B.named
  have hlocks := B.notSynchronized
  have hin : meth.name = y.name := (name_of_methodNamed B.named B.method).1
  subst hsz
  have hD := hD0.self (sz := s.heap.size)
  have hS : va_S (va_A ws s.heap.size) s.heap s.heap [] := va_S.rf
  have hl := lv_entry cas (n := mL) hlen
  rw [lg_entry_eq]
  generalize (lg_sl cas ++ List.replicate (mL - (lg_sl cas).length) Slot.unset).toArray = ls at hl ⊢
  have F : zF E L kc d (own, y, cc, mL, some ty, bc, bs) p { frames := d, cells := bc, slots := bs, locals := 40 * d } s m cas.toArray meth c dC dI cA (zga g (zad ws)) (va_A ws s.heap.size) :=
    ⟨hx, hb, hml, by rw [hoy]; exact hown, fun w hw => hts w (List.mem_cons_of_mem _ hw), hK, fun q h => Or.inr h, hE, hg7, ⟨Nat.le_refl _, Nat.le_refl _⟩, ⟨Nat.le_refl _, Nat.le_refl _⟩, fun h => hin.trans h, hz9, fun h => absurd h hkc⟩
  refine H0 p e _ s m _ below meth c _ (zga g (zad ws)) (va_A ws s.heap.size) F ?_ ws s.heap [] ls (lv_args 0 cas) [] ⟨zh_g (g := g) rfl rfl (fun _ _ h => h) hzh, hP, hD, hS, hl, zls_args 0 (zvs_g (g := g) (g' := zga g (zad ws)) rfl rfl hzv), trivial⟩
  intro ws' H locs ls' clv cst ⟨r1, r2, r3, r4, r5, r6, r7⟩
  obtain ⟨cv, cr, rfl, h1, h2⟩ := zvs_cons r7
  cases zvs_nil h2
  obtain ⟨x, rfl, hnar⟩ := zrt_ok hv9 h1
  refine W.widen hnc hns ?_
  exact W.zret hx hb hr hnar (fun t ht hW => ⟨⟨x, ws', rfl, ⟨⟨r1, r1.2.2⟩, h1⟩, by rw [ht]; exact r2, va_K.moved hW.alike hK, r3⟩, r4.F ht⟩) r4.2.2 hdec
end ZME
theorem zT_good : GoodIn zT zT := fun w hw => ⟨hw, good_of_word (List.mem_filter.mp hw).2⟩
theorem zT_good1 {w : Cond} (h : w ∈ zT) : GoodIn zT (w :: zT) := fun v hv => (List.mem_cons.mp hv).elim (fun q => by rw [q]; exact zT_good w h) (zT_good v)
theorem zfree {A : Nat → Prop} {ws : va_W} {H0 H : Heap} {locs : List Loc} (hD : va_D A ws) (hS : va_S A H0 H locs) (hA : ∀ q, H0.size ≤ q → A q) : ∀ q, va_A ws H.size q → A q := by
  intro q h
  rcases h with ⟨k, e, h⟩ | h
  · exact hD.2 k (q, e) h
  · exact hA q (Nat.le_trans hS.1 h)
theorem zslots : ∀ (cas : List Value), (lg_sl cas).length = (cas.map fun v => v.category).sum := by
  intro cas
  induction cas with
  | nil => rfl
  | cons v r ih =>
    have e : lg_sl (v :: r) = (if v.category = 2 then [.val v, .second] else [.val v]) ++ lg_sl r := rfl
    rw [e, List.length_append, ih, List.map_cons, List.sum_cons]
    rcases lv_cat v with h | h
    · rw [h, if_neg (by decide)]
      rfl
    · rw [h, if_pos rfl]
      rfl
section ZCA
variable {p : Program} {l : Launch} {e : Env} {R : Room} {s : State} {m : MethodId} {args : Array Value} {below : List Frame} {meth : Method} {c : Code} {dC : Nat → ClassId} {dI : Nat → Nat → Nat} {cA : Nat → ClassId} {g : ZG} {A : Nat → Prop} {nL : Nat} {cc : ByteArray} {pc : Nat} {nc ns : Nat} {own : String}
/-- the call itself, by its kind -/
theorem zrun {y : MethodName} {idx kd n mL mc ms d' : Nat} {rt : Option FieldType} {bytes : ByteArray} {ins : Instr} {Qc : Array Value → State → Outcome → State → Prop} {ws : va_W} {H : Heap} {locs : List Loc} {ls : Array Slot} {cst cas crest : List Value}
    (hx : p.tables.exec = Jvm.exec) (hb : c.code = cc) (hml : c.maxLocals = nL) (hown : s.vm.findClass own = some m.cls) (hts : ∀ w ∈ zT, w.before args s = true) (hK : va_K (dC, dI) vwCl (ztys cA) s) (hP : va_P (dC, dI) vwCl ws H) (hD : va_D A ws) (hls : ls.size = nL)
    (hM : Met l y (.code y bytes mL rt :: zT) { frames := d', cells := mc, slots := ms, locals := 40 * d' } (va_Pc cas (zB dC dI cA ws H.size)) Qc mc ms (va_A ws H.size))
    (hz9 : zX s) (hw : ∀ w ∈ zcw own idx kd y bytes mL rt, w ∈ zT) (hnest : kd = 1 ∨ kd = 5 → Cond.methodLinkNest own idx y "NamesUnder" ∈ zNl) (hd : y.cls ≠ "java/lang/invoke/MethodHandle" ∧ y.cls ≠ "java/lang/invoke/VarHandle" ∧ (parseMethodDescriptor y.desc).map (fun d => d.parameters.length) = some n) (hm : mL ≤ 21) (hi : kd = 4 ∨ kd = 5 → y.name = "<init>" ∧ rt = none)
    (hR : d' + 1 ≤ R.frames ∧ 40 * (d' + 1) ≤ R.locals) (hf : nc + mc ≤ R.cells ∧ ns + ms ≤ R.slots)
    (hst : cst = cas.reverse ++ crest) (h8 : (crest.map fun v => v.category).sum ≤ 8) (hn : cas.length = if kd ≤ 1 then n else n + 1)
    (hrc : 2 ≤ kd → ∃ (b : Nat) (as2 : List Value), cas = .ref b :: as2 ∧ (kd = 2 → ∃ cell : Cell, H[b]? = some cell ∧ cell.vm.isStatics = false ∧ s.vm.findClass y.cls = some cell.cls))
    (hins : (kd = 0 ∨ kd = 1) ∧ ins = .invokestatic idx ∨ kd = 2 ∧ ins = .invokevirtual idx ∨ (kd = 4 ∨ kd = 5) ∧ ins = .invokespecial idx) (hdg : decode cc pc = .ok (ins, 3)) :
    va_Run p l e R s m args below meth c H locs nc ns mc ms (F0 m pc ls cst) crest (Qc cas.toArray) (va_A ws H.size) := by
  have hroom := lv_room (m := m) (pc := pc) (ls := ls) (rest := cst) h8
  have hpre : ∀ U : State, U.heap = H → s.WarmedH U.vm → va_Pc cas (zB dC dI cA ws H.size) cas.toArray U := fun U hU hW => ⟨rfl, by rw [hU], by rw [hU]; exact hP, va_K.moved hW.alike hK, hD.weaken (fun _ _ _ _ => trivial), hz9.warm hW⟩
  have hR2 : 8 + (mL + 11) + 40 * d' ≤ R.locals := by omega
  rcases hins with ⟨h0 | h0, rfl⟩ | ⟨h0, rfl⟩ | ⟨h0 | h0, rfl⟩
  · subst h0
    rw [if_pos (by decide)] at hn
    have w1 := hw (.methodLink own idx y) (by simp [zcw])
    have w2 := hw (.static y) (by simp [zcw])
    have w3 := hw (.initialized y.cls) (by simp [zcw])
    have w4 := hw (.code y bytes mL rt) (by simp [zcw])
    exact va_runS (Ts := zT) (own := own) ⟨hx, hb, hml, hown, hts⟩ hM ⟨callB_of n hts (zT_good1 w4) rfl rfl rfl (hts _ w3) (hts _ w1) hd ⟨hR.1, hR2⟩, hts _ w2⟩ ⟨zB_blind, hpre⟩ rfl hn hls hst hroom hdg hf
  · subst h0
    rw [if_pos (by decide)] at hn
    have w1 := hz9.1 _ (hnest (Or.inl rfl))
    have w2 := hw (.static y) (by simp [zcw])
    have w3 := hw (.initialized y.cls) (by simp [zcw])
    have w4 := hw (.code y bytes mL rt) (by simp [zcw])
    exact va_runSN (Ts := zT) (own := own) ⟨hx, hb, hml, hown, hts⟩ hM ⟨va_cnB n hts (zT_good1 w4) rfl rfl rfl w1 (hts _ w3) hd ⟨hR.1, hR2⟩, hts _ w2, trivial⟩ ⟨zB_blind, hpre⟩ rfl hn hls hst hroom hdg hf
  · subst h0
    rw [if_neg (by decide)] at hn
    have w1 := hw (.methodLink own idx y) (by simp [zcw])
    have w2 := hw (.instanceMethod y) (by simp [zcw])
    have w3 := hw (.initialized y.cls) (by simp [zcw])
    have w4 := hw (.code y bytes mL rt) (by simp [zcw])
    have w5 := hw (.selects y.cls y y) (by simp [zcw])
    obtain ⟨b, as2, rfl, hcell⟩ := hrc (by decide)
    have hcell := hcell rfl
    exact va_runV (Ts := zT) (own := own) (C := y.cls) (As := as2) (b := b) ⟨hx, hb, hml, hown, hts⟩ hM ⟨callB_of n hts (zT_good1 w4) rfl rfl rfl (hts _ w3) (hts _ w1) hd ⟨hR.1, hR2⟩, hts _ w2, hts _ w5⟩ ⟨zB_blind, hcell, hpre⟩ rfl (by simpa using hn) hls (by rw [hst]; simp) hroom hdg hf
  · subst h0
    rw [if_neg (by decide)] at hn
    have w1 := hw (.methodLink own idx y) (by simp [zcw])
    have w2 := hw (.instanceMethod y) (by simp [zcw])
    have w3 := hw (.initialized y.cls) (by simp [zcw])
    have w4 := hw (.code y bytes mL rt) (by simp [zcw])
    obtain ⟨b, as2, rfl, -⟩ := hrc (by decide)
    obtain ⟨i1, rfl⟩ := hi (Or.inl rfl)
    exact va_runI (Ts := zT) (own := own) (As := as2) (b := b) ⟨hx, hb, hml, hown, hts⟩ hM ⟨callB_of n hts (zT_good1 w4) rfl rfl rfl (hts _ w3) (hts _ w1) hd ⟨hR.1, hR2⟩, i1, hts _ w2⟩ ⟨zB_blind, hpre⟩ rfl (by simpa using hn) hls (by rw [hst]; simp) hroom hdg hf
  · subst h0
    rw [if_neg (by decide)] at hn
    have w1 := hz9.1 _ (hnest (Or.inr rfl))
    have w2 := hw (.instanceMethod y) (by simp [zcw])
    have w3 := hw (.initialized y.cls) (by simp [zcw])
    have w4 := hw (.code y bytes mL rt) (by simp [zcw])
    obtain ⟨b, as2, rfl, -⟩ := hrc (by decide)
    obtain ⟨i1, rfl⟩ := hi (Or.inr rfl)
    exact va_runIN (Ts := zT) (own := own) (As := as2) (b := b) ⟨hx, hb, hml, hown, hts⟩ hM ⟨va_cnB n hts (zT_good1 w4) rfl rfl rfl w1 (hts _ w3) hd ⟨hR.1, hR2⟩, i1, hts _ w2⟩ ⟨zB_blind, hpre⟩ rfl (by simpa using hn) hls (by rw [hst]; simp) hroom hdg hf
end ZCA
end
section
/-! every run of the machine of known values is a run of the machine -/
def zP (zm : List ZMe) (zc : List (List ZI)) (zd : List (List Value)) (E : ZN) (L sp n : Nat) : Prop := ∀ (k d pc : Nat) (lv : ZL) (st : List Value) (hp : List ZE) (nc ns : Nat) (r : ZS), zgo zm zc zd E L sp n k d pc lv st hp nc ns = .ok r →
  ∀ (me : ZMe), zm[k]? = some me → ∀ (p : Program) (l : Launch) (e : Env) (R : Room) (s : State) (m : MethodId) (args : Array Value) (below : List Frame) (meth : Method) (c : Code) (Q : State → Prop) (dC : Nat → ClassId) (dI : Nat → Nat → Nat) (cA : Nat → ClassId) (g : ZG) (A : Nat → Prop), zF E L k d me p R s m args meth c dC dI cA g A →
    zW p l e R s m args below meth c Q dC dI cA g A me.2.2.2.1 r.1 r.2.1 r.2.2.1 r.2.2.2.1 r.2.2.2.2.1 r.2.2.2.2.2 → zW p l e R s m args below meth c Q dC dI cA g A me.2.2.2.1 pc lv st hp nc ns
theorem zrcv_ok {hp : List ZE} {v : Option Value} {ci : Nat} (h : zrcv hp v (zget hp) ci = true) : ∃ (k : Nat) (x : Nat × List Value), v = some (.ref k) ∧ hp[k]? = some (.inr x) ∧ x.1 = ci := by
  unfold zrcv at h
  cases v with
  | none => cases h
  | some w =>
    cases w with
    | ref k =>
      simp only [zget_eq] at h
      cases hq : hp[k]? with
      | none => rw [hq] at h; cases h
      | some q =>
        cases q with
        | inl x => rw [hq] at h; cases h
        | inr x =>
          rw [hq] at h
          exact ⟨k, x, rfl, hq, Nat.beq_eq.mp h⟩
    | _ => cases h
theorem ztake_rev {α : Type} {st : List α} {n : Nat} {v : α} (h : st[n]? = some v) : ∃ r, (st.take (n + 1)).reverse = v :: r := by
  have hl : n < st.length := (List.getElem?_eq_some_iff.mp h).1
  have e : st.take (n + 1) = st.take n ++ [v] := by
    rw [List.take_add_one, h]
    rfl
  rw [e, List.reverse_append]
  exact ⟨_, rfl⟩
section ZRN
variable {p : Program} {l : Launch} {e : Env} {R : Room} {s : State} {m : MethodId} {args : Array Value} {below : List Frame} {meth : Method} {c : Code} {Q : State → Prop} {dC : Nat → ClassId} {dI : Nat → Nat → Nat} {cA : Nat → ClassId} {g : ZG} {A : Nat → Prop} {pc : Nat} {lv : ZL} {st : List Value} {hp : List ZE} {nc ns : Nat} {r : ZS} {E : ZN}
set_option maxHeartbeats 4000000 in
theorem zs_inv {zm : List ZMe} {zc : List (List ZI)} {zd : List (List Value)} {L sp N k d kd kc n ci idx : Nat} {is : List Nat} {ins : Instr} {me : ZMe} (htab : zTab zm zc) (IH : zP zm zc zd E L sp N) (hme : zm[k]? = some me) (F : zF E L k d me p R s m args meth c dC dI cA g A) (hcal : zcal zm me.1 idx kd kc n ci is = true)
    (hins : (kd = 0 ∨ kd = 1) ∧ ins = .invokestatic idx ∨ kd = 2 ∧ ins = .invokevirtual idx ∨ (kd = 4 ∨ kd = 5) ∧ ins = .invokespecial idx) (hdg : decode me.2.2.1 pc = .ok (ins, 3))
    (h : zinv zm zc (zgo zm zc zd E L sp N) k d me.2.2.2.2.2.1 me.2.2.2.2.2.2 kd kc n ci pc lv st hp nc ns = .ok r)
    (hr : zW p l e R s m args below meth c Q dC dI cA g A me.2.2.2.1 r.1 r.2.1 r.2.2.1 r.2.2.2.1 r.2.2.2.2.1 r.2.2.2.2.2) : zW p l e R s m args below meth c Q dC dI cA g A me.2.2.2.1 pc lv st hp nc ns := by
  unfold zinv at h
  unfold zcal at hcal
  rw [zget_eq] at h
  cases hmc : zm[kc]? with
  | none => simp only [hmc] at h; cases h
  | some me2 =>
    obtain ⟨own2, y2, cc2, mL2, rt2, bc2, bs2⟩ := me2
    simp only [hmc] at h hcal
    rw [zn_eq] at h
    simp only [Bool.and_eq_true] at hcal
    obtain ⟨c1, c2, c3, c4, c5, c6, c7, c8⟩ := hcal
    generalize hna : cond (Nat.ble kd 1) n (n + 1) = na at h
    cases hck : (Nat.beq (st.take na).length na && (Nat.ble ((st.drop na).map fun v => v.category).sum 8 && (Nat.ble ((st.take na).map fun v => v.category).sum mL2 && (Nat.ble (nc + bc2) me.2.2.2.2.2.1 && (Nat.ble (ns + bs2) me.2.2.2.2.2.2 && cond (Nat.ble kd 1) true (zrcv hp (zget st n) (zget hp) ci)))))) with
    | false => rw [hck] at h; cases h
    | true =>
      rw [hck, cond_true] at h
      simp only [Bool.and_eq_true] at hck
      obtain ⟨k1, k2, k3, k4, k5, k6⟩ := hck
      cases d with
      | zero => cases h
      | succ d' =>
        simp only [zfl_eq] at h
        cases hrun : zgo zm zc zd E L sp N kc d' 0 (lv_args 0 (st.take na).reverse) [] hp 0 0 with
        | error x => simp only [hrun] at h; cases h
        | ok r2 =>
          simp only [hrun] at h
          have hW2 := IH kc d' 0 _ [] hp 0 0 r2 hrun
          obtain ⟨hend, h⟩ := zfin_ok h
          have hkc : ¬ kc = 0 := by
            intro q
            rw [q] at c8
            cases c8
          obtain ⟨tb, q, t1, t2, t3, t4⟩ := hend
          have hq := htab kc _ tb hmc t1 q t2
          unfold zok at hq
          simp only [Bool.and_eq_true] at hq
          have hdec := of_decide_eq_true hq.1
          have hst : zstop rt2 q.2.1 = true := t4
          have F0' := F
          obtain ⟨hx, hb, hml, hown, hts, hK, hA, hE, hg7, hRd, hRb, hI, hz9, -⟩ := F
          intro ws H locs ls clv cst ⟨r1, r2', r3, r4, r5, r6, r7⟩
          obtain ⟨z1, z2⟩ := zvs_take na r7
          have hcs : cst = ((cst.take na).reverse).reverse ++ cst.drop na := by
            rw [List.reverse_reverse, List.take_append_drop]
          have h8 : ((cst.drop na).map fun v => v.category).sum ≤ 8 := by
            rw [zvs_sum z2]
            exact Nat.le_of_ble_eq_true k2
          have hlen : (lg_sl (cst.take na).reverse).length ≤ mL2 := by
            rw [zslots]
            have e1 : (((cst.take na).reverse).map fun v => v.category).sum = ((cst.take na).map fun v => v.category).sum := by
              rw [List.map_reverse, List.sum_reverse]
            rw [e1, zvs_sum z1]
            exact Nat.le_of_ble_eq_true k3
          have hn9 : ((cst.take na).reverse).length = if kd ≤ 1 then n else n + 1 := by
            rw [List.length_reverse, zvs_len z1, Nat.beq_eq.mp k1, ← hna]
            by_cases hk1 : kd ≤ 1
            · rw [if_pos hk1, Nat.ble_eq_true_of_le hk1]
              rfl
            · rw [if_neg hk1]
              cases hb9 : Nat.ble kd 1 with
              | true => exact absurd (Nat.le_of_ble_eq_true hb9) hk1
              | false => rfl
          have hrc : 2 ≤ kd → ∃ (b : Nat) (as2 : List Value), (cst.take na).reverse = .ref b :: as2 ∧ (kd = 2 → ∃ cell : Cell, H[b]? = some cell ∧ cell.vm.isStatics = false ∧ s.vm.findClass y2.cls = some cell.cls) := by
            intro hk2
            have hb9 : Nat.ble kd 1 = false := by
              cases hb9 : Nat.ble kd 1 with
              | true => exact absurd (Nat.le_of_ble_eq_true hb9) (by omega)
              | false => rfl
            rw [hb9, cond_false] at k6 c6 hna
            obtain ⟨kk, x, e1, e2, e3⟩ := zrcv_ok k6
            rw [zget_eq] at e1
            subst hna
            obtain ⟨cr, e4, e5⟩ := zvs_get r7 e1
            obtain ⟨a, e6, rfl⟩ := e5
            obtain ⟨as2, e7⟩ := ztake_rev e4
            refine ⟨a, as2, e7, fun _ => ?_⟩
            obtain ⟨w, e8, e9⟩ := zh_at r1 e2 e6
            obtain ⟨gs, rfl, -⟩ := zobj e9
            obtain ⟨C, T, NN, f1, f2, f3⟩ := zfl1_ok c6
            rw [e3] at e8
            have hv := va_recv hK r2' f1 e8
            rw [show C = y2.cls from of_decide_eq_true f3] at hv
            exact hv
          have hRR : d' + 1 ≤ R.frames ∧ 40 * (d' + 1) ≤ R.locals := hRd
          have hfit : nc + bc2 ≤ R.cells ∧ ns + bs2 ≤ R.slots := ⟨Nat.le_trans (Nat.le_of_ble_eq_true k4) hRb.1, Nat.le_trans (Nat.le_of_ble_eq_true k5) hRb.2⟩
          have hi9 : kd = 4 ∨ kd = 5 → y2.name = "<init>" ∧ rt2 = none := by
            intro hk
            have hb9 : Nat.ble kd 3 = false := by rcases hk with rfl | rfl <;> rfl
            rw [hb9, cond_false] at c7
            exact of_decide_eq_true c7
          have hoy : own2 = y2.cls := of_decide_eq_true c5
          have hfree := zfree r3 r4 hA
          unfold zback at h
          cases hbk : (Nat.ble r2.2.2.2.2.1 bc2 && Nat.ble r2.2.2.2.2.2 bs2) with
          | false => rw [hbk] at h; cases h
          | true =>
            rw [hbk, cond_true, zn_eq, zn_eq] at h
            rw [Bool.and_eq_true] at hbk
            have b1 := Nat.le_of_ble_eq_true hbk.1
            have b2 := Nat.le_of_ble_eq_true hbk.2
            obtain ⟨pc2, lv2, st2, hp2, nc2, ns2⟩ := r2
            have hRun : zRun E L kc d' (own2, y2, cc2, mL2, rt2, bc2, bs2) l dC dI cA (lv_args 0 (st.take na).reverse) hp (pc2, lv2, st2, hp2, nc2, ns2) := fun p e R s m args below meth c Q g A => hW2 _ hmc p l e R s m args below meth c Q dC dI cA g A
            have t3' : q.1 = pc2 := t3
            rw [t3'] at hdec
            cases rt2 with
            | none =>
              cases st2 with
              | cons _ _ => cases h
              | nil =>
                simp only at h
                have hd1 : decode cc2 pc2 = .ok (.return_, 1) := by
                  obtain ⟨q1, q2, q3, q4⟩ := q
                  cases q2 with
                  | return_ =>
                    have e9 : q3 = 1 := Nat.beq_eq.mp (show Nat.beq q3 1 = true from hq.2.1)
                    rw [e9] at hdec
                    exact hdec
                  | _ => cases hst
                have hM := zmetv (l := l) (dC := dC) (dI := dI) (cA := cA) (g := g) (ws := ws) (sz := H.size) (cas := (cst.take na).reverse) c4 hoy hkc hE hg7 r1 (zvs_rev z1) hlen b1 b2 hd1 hRun
                have hR9 := zrun (e := e) (below := below) (meth := meth) (locs := locs) (nc := nc) (ns := ns) hx hb hml hown hts hK r2' r3 r5.1 hM hz9 (zcwk_ok c1).1 (zcwk_ok c1).2 (of_decide_eq_true c2) (Nat.le_of_ble_eq_true c3) hi9 hRR hfit hcs h8 hn9 hrc hins hdg
                refine va_callv hR9 r4 (fun q _ h => hfree q h) hfree (fun u t H1 locs1 ht hvm hw hB hz1 hk1 hS => ?_)
                obtain ⟨hw1, hw2⟩ := hw
                obtain ⟨hP1, hK1, hD1⟩ := hB
                rw [ht] at hP1
                exact (IH k (d' + 1) (pc + 3) lv _ hp2 _ _ r h) me hme p l e R s m args below meth c Q dC dI cA g A F0' hr u H1 locs1 ls clv _ ⟨zh_g (g := zga g (zad ws)) rfl rfl (fun k a z => hw2 k a (r1.2.2 k a z)) hw1, hP1, hD1.weaken (fun _ q _ z => hfree q.1 z), hS, r5, zls_mono hw2 r6, zvs_mono hw2 z2⟩
            | some ty =>
              cases st2 with
              | nil => cases h
              | cons v st3 =>
                cases st3 with
                | cons _ _ => cases h
                | nil =>
                  simp only at h
                  cases hzt : zrt ty v with
                  | false => rw [hzt] at h; cases h
                  | true =>
                    rw [hzt, cond_true] at h
                    have hd1 : decode cc2 pc2 = .ok (.ireturn, 1) := by
                      obtain ⟨q1, q2, q3, q4⟩ := q
                      cases q2 with
                      | ireturn =>
                        have e9 : q3 = 1 := Nat.beq_eq.mp (show Nat.beq q3 1 = true from hq.2.1)
                        rw [e9] at hdec
                        exact hdec
                      | _ => cases hst
                    have hM := zmeti (l := l) (dC := dC) (dI := dI) (cA := cA) (g := g) (ws := ws) (sz := H.size) (cas := (cst.take na).reverse) c4 hoy hkc hE hg7 r1 (zvs_rev z1) hlen b1 b2 hzt hd1 hRun
                    have hR9 := zrun (e := e) (below := below) (meth := meth) (locs := locs) (nc := nc) (ns := ns) hx hb hml hown hts hK r2' r3 r5.1 hM hz9 (zcwk_ok c1).1 (zcwk_ok c1).2 (of_decide_eq_true c2) (Nat.le_of_ble_eq_true c3) hi9 hRR hfit hcs h8 hn9 hrc hins hdg
                    refine va_calli hR9 r4 (fun q _ h => hfree q h) hfree (fun x u t H1 locs1 ht hvm hw hB hz1 hk1 hS => ?_)
                    obtain ⟨⟨hw1, hw2⟩, hw3⟩ := hw
                    obtain ⟨hP1, hK1, hD1⟩ := hB
                    rw [ht] at hP1
                    exact (IH k (d' + 1) (pc + 3) lv _ hp2 _ _ r h) me hme p l e R s m args below meth c Q dC dI cA g A F0' hr u H1 locs1 ls clv _ ⟨zh_g (g := zga g (zad ws)) rfl rfl (fun k a z => hw2 k a (r1.2.2 k a z)) hw1, hP1, hD1.weaken (fun _ q _ z => hfree q.1 z), hS, r5, zls_mono hw2 r6, zv_g (g := zga g (zad ws)) rfl rfl hw3, zvs_mono hw2 z2⟩
set_option maxHeartbeats 4000000 in
theorem zgo_sound {zm : List ZMe} {zc : List (List ZI)} {zd : List (List Value)} {L sp : Nat} (hcl : zCl zd) (htab : zTab zm zc) : ∀ N : Nat, zP zm zc zd E L sp N := by
  intro N
  induction N with
  | zero =>
    intro k d pc lv st hp nc ns r h
    cases h
  | succ N IH =>
    intro k d pc lv st hp nc ns r h
    have h : zstep zm zc zd E L sp (zgo zm zc zd E L sp N) k d pc lv st hp nc ns = .ok r := h
    unfold zstep at h
    rw [zn_eq, zget_eq, zget_eq] at h
    cases hm : zm[k]? with
    | none => rw [hm] at h; cases h
    | some me =>
      cases hc : zc[k]? with
      | none => rw [hm, hc] at h; cases h
      | some tb =>
        rw [hm, hc] at h
        simp only at h
        cases hf : zft tb pc with
        | none => rw [hf] at h; cases h
        | some q =>
          rw [hf] at h
          simp only at h
          obtain ⟨f1, f2⟩ := zft_ok hf
          have hq := htab k me tb hm hc q f1
          unfold zok at hq
          simp only [Bool.and_eq_true] at hq
          obtain ⟨q1, q2, q3, q4⟩ := hq
          have hdg := of_decide_eq_true q1
          rw [f2] at hdg
          cases hs : (zstop me.2.2.2.2.1 q.2.1 || (Nat.beq k 0 && Nat.beq pc sp)) with
          | true =>
            rw [hs, cond_true] at h
            cases h
            exact fun me2 hm2 p l e R s m args below meth c Q dC dI cA g A F hw => hw
          | false =>
            rw [hs, cond_false] at h
            obtain ⟨pq, ins, len, lk⟩ := q
            intro me2 hm2 p l e R s m args below meth c Q dC dI cA g A F hw
            cases hm2
            have Hk : ∀ (pc : Nat) (lv : ZL) (st : List Value) (hp : List ZE) (nc ns : Nat), zgo zm zc zd E L sp N k d pc lv st hp nc ns = .ok r → zW p l e R s m args below meth c Q dC dI cA g A me.2.2.2.1 pc lv st hp nc ns := fun pc lv st hp nc ns h => IH k d pc lv st hp nc ns r h me hm p l e R s m args below meth c Q dC dI cA g A F hw
            have F0' := F
            obtain ⟨hx, hb, hml, hown, hts, hK, hA, hE, hg7, hRd, hRb, hI, hz9, hscr⟩ := F
            cases ins with
            | invokespecial idx =>
              have e9 : len = 3 := Nat.beq_eq.mp (show Nat.beq len 3 = true from q2)
              subst e9
              have h : zcl zm zc E (zgo zm zc zd E L sp N) k d me.2.2.2.2.2.1 me.2.2.2.2.2.2 lk pc lv st hp nc ns = .ok r := h
              match lk, h, q4 with
              | kd :: kc :: n :: ci :: is, h, q4 =>
                simp only [zcl] at h
                have q5 : cond (Nat.beq kd 6) (zchk [.methodLink me.1 idx objectInit, .instanceMethod objectInit, .code objectInit ⟨#[0xb1]⟩ 1 none] is) ((Nat.beq kd 4 || Nat.beq kd 5) && zcal zm me.1 idx kd kc n ci is) = true := q4
                cases h6 : Nat.beq kd 6 with
                | true =>
                  rw [h6, cond_true] at h q5
                  cases hd1 : Nat.ble 1 d with
                  | false => rw [hd1] at h; cases h
                  | true =>
                    rw [hd1, cond_true] at h
                    have hd2 := Nat.le_of_ble_eq_true hd1
                    have w := zchk_ok q5
                    exact zs_obj hx hb hml hown hts (Nat.le_trans hd2 hRd.1) (by omega) (w _ (by simp)) (w _ (by simp)) (w _ (by simp)) hdg h Hk
                | false =>
                  rw [h6, cond_false] at h q5
                  rw [Bool.and_eq_true, Bool.or_eq_true] at q5
                  cases h7 : Nat.beq kd 7 with
                  | true =>
                    have e7 := Nat.beq_eq.mp h7
                    rcases q5.1 with z | z
                    · have := Nat.beq_eq.mp z
                      omega
                    · have := Nat.beq_eq.mp z
                      omega
                  | false =>
                    rw [h7, cond_false] at h
                    cases h8 : Nat.beq kd 8 with
                    | true =>
                      have e8 := Nat.beq_eq.mp h8
                      rcases q5.1 with z | z
                      · have := Nat.beq_eq.mp z
                        omega
                      · have := Nat.beq_eq.mp z
                        omega
                    | false =>
                      rw [h8, cond_false] at h
                      exact zs_inv htab IH hm F0' q5.2 (Or.inr (Or.inr ⟨q5.1.imp Nat.beq_eq.mp Nat.beq_eq.mp, rfl⟩)) hdg h hw
              | [], h, q4 => cases h
              | [_], h, q4 => cases h
              | [_, _], h, q4 => cases h
              | [_, _, _], h, q4 => cases h
            | invokestatic idx =>
              have e9 : len = 3 := Nat.beq_eq.mp (show Nat.beq len 3 = true from q2)
              subst e9
              have h : zcl zm zc E (zgo zm zc zd E L sp N) k d me.2.2.2.2.2.1 me.2.2.2.2.2.2 lk pc lv st hp nc ns = .ok r := h
              match lk, h, q4 with
              | kd :: kc :: n :: ci :: is, h, q4 =>
                simp only [zcl] at h
                have q5 : cond (Nat.beq kd 7) (zchk [.methodLink me.1 idx arraycopyName, .native arraycopyName, .static arraycopyName, .initialized "java/lang/System"] is) (cond (Nat.beq kd 8) (zchk [.methodLink me.1 idx Lib.Math.max.name, .static Lib.Math.max.name, .initialized "java/lang/Math", .code Lib.Math.max.name Lib.Math.max.code 2 (some .int)] is) ((Nat.beq kd 0 || Nat.beq kd 1) && zcal zm me.1 idx kd kc n ci is)) = true := q4
                cases h7 : Nat.beq kd 7 with
                | true =>
                  have e7 := Nat.beq_eq.mp h7
                  cases h6 : Nat.beq kd 6 with
                  | true =>
                    have := Nat.beq_eq.mp h6
                    omega
                  | false =>
                    rw [h6, cond_false, h7, cond_true] at h
                    rw [h7, cond_true] at q5
                    cases hd1 : Nat.ble 1 d with
                    | false => rw [hd1] at h; cases h
                    | true =>
                      rw [hd1, cond_true] at h
                      have hd2 := Nat.le_of_ble_eq_true hd1
                      have w := zchk_ok q5
                      exact zs_cpy hx hb hml hown hts hK hE (Nat.le_trans hd2 hRd.1) (by omega) (w _ (by simp)) (w _ (by simp)) (w _ (by simp)) (w _ (by simp)) hdg h Hk
                | false =>
                  rw [h7, cond_false] at q5
                  cases h8 : Nat.beq kd 8 with
                  | true =>
                    have e8 := Nat.beq_eq.mp h8
                    cases h6 : Nat.beq kd 6 with
                    | true =>
                      have := Nat.beq_eq.mp h6
                      omega
                    | false =>
                      rw [h6, cond_false, h7, cond_false, h8, cond_true] at h
                      rw [h8, cond_true] at q5
                      cases hd1 : Nat.ble 1 d with
                      | false => rw [hd1] at h; cases h
                      | true =>
                        rw [hd1, cond_true] at h
                        have hd2 := Nat.le_of_ble_eq_true hd1
                        have w := zchk_ok q5
                        exact zs_max hx hb hml hown hts hE hRb.1 hRb.2 (Nat.le_trans hd2 hRd.1) (by omega) (w _ (by simp)) (w _ (by simp)) (w _ (by simp)) (w _ (by simp)) hdg h Hk
                  | false =>
                    rw [h8, cond_false] at q5
                    rw [Bool.and_eq_true, Bool.or_eq_true] at q5
                    cases h6 : Nat.beq kd 6 with
                    | true =>
                      have e6 := Nat.beq_eq.mp h6
                      rcases q5.1 with z | z
                      · have := Nat.beq_eq.mp z
                        omega
                      · have := Nat.beq_eq.mp z
                        omega
                    | false =>
                      rw [h6, cond_false, h7, cond_false, h8, cond_false] at h
                      exact zs_inv htab IH hm F0' q5.2 (Or.inl ⟨q5.1.imp Nat.beq_eq.mp Nat.beq_eq.mp, rfl⟩) hdg h hw
              | [], h, q4 => cases h
              | [_], h, q4 => cases h
              | [_, _], h, q4 => cases h
              | [_, _, _], h, q4 => cases h
            | invokevirtual idx =>
              have e9 : len = 3 := Nat.beq_eq.mp (show Nat.beq len 3 = true from q2)
              subst e9
              have h : zcl zm zc E (zgo zm zc zd E L sp N) k d me.2.2.2.2.2.1 me.2.2.2.2.2.2 lk pc lv st hp nc ns = .ok r := h
              match lk, h, q4 with
              | kd :: kc :: n :: ci :: is, h, q4 =>
                simp only [zcl] at h
                have q5 : (Nat.beq kd 2 && zcal zm me.1 idx kd kc n ci is) = true := q4
                rw [Bool.and_eq_true] at q5
                have e2 := Nat.beq_eq.mp q5.1
                subst e2
                exact zs_inv htab IH hm F0' q5.2 (Or.inr (Or.inl ⟨rfl, rfl⟩)) hdg h hw
              | [], h, q4 => cases h
              | [_], h, q4 => cases h
              | [_, _], h, q4 => cases h
              | [_, _, _], h, q4 => cases h
            | _ => exact zx_sound (y := me.2.1) hcl hz9 hx hb hown hts hK hA hE hg7 hRb.1 hRb.2 hI hscr hdg q2 q3 h Hk
end ZRN
end
section
/-! numbers that are not known: linear expressions over them, bounds, and what follows -/
abbrev SE : Type := Int × List (Nat × Int)
def svl (ρ : Nat → Int) : List (Nat × Int) → Int
  | [] => 0
  | q :: r => q.2 * ρ q.1 + svl ρ r
def sev (ρ : Nat → Int) (e : SE) : Int := e.1 + svl ρ e.2
def sc (x : Int) : SE := (x, [])
def sy (t : Nat) : SE := (0, [(t, 1)])
theorem sev_c (ρ : Nat → Int) (x : Int) : sev ρ (sc x) = x := by simp [sev, sc, svl]
theorem sev_y (ρ : Nat → Int) (t : Nat) : sev ρ (sy t) = ρ t := by simp [sev, sy, svl]
def sins (q : Nat × Int) : List (Nat × Int) → List (Nat × Int)
  | [] => [q]
  | r :: t => cond (Nat.beq q.1 r.1) (cond (decide (q.2 + r.2 = 0)) t ((q.1, q.2 + r.2) :: t)) (cond (Nat.blt q.1 r.1) (q :: r :: t) (r :: sins q t))
theorem sins_ev (ρ : Nat → Int) (q : Nat × Int) (l : List (Nat × Int)) : svl ρ (sins q l) = q.2 * ρ q.1 + svl ρ l := by
  induction l with
  | nil => rfl
  | cons r t ih =>
    unfold sins
    cases h1 : Nat.beq q.1 r.1 with
    | true =>
      have e1 : q.1 = r.1 := Nat.beq_eq.mp h1
      rw [cond_true]
      by_cases h2 : q.2 + r.2 = 0
      · rw [decide_eq_true h2, cond_true]
        have h3 : q.2 = -r.2 := by omega
        simp only [svl, e1, h3]
        rw [Int.neg_mul]
        omega
      · rw [decide_eq_false h2, cond_false]
        simp only [svl, e1]
        rw [Int.add_mul]
        omega
    | false =>
      rw [cond_false]
      cases h2 : Nat.blt q.1 r.1 with
      | true => rfl
      | false =>
        simp only [cond_false, svl, ih]
        omega
def smrg : List (Nat × Int) → List (Nat × Int) → List (Nat × Int)
  | [], b => b
  | q :: a, b => sins q (smrg a b)
theorem smrg_ev (ρ : Nat → Int) (a b : List (Nat × Int)) : svl ρ (smrg a b) = svl ρ a + svl ρ b := by
  induction a with
  | nil => simp [smrg, svl]
  | cons q a ih =>
    simp only [smrg, sins_ev, svl, ih]
    omega
def sadd (a b : SE) : SE := (a.1 + b.1, smrg a.2 b.2)
theorem sadd_ev (ρ : Nat → Int) (a b : SE) : sev ρ (sadd a b) = sev ρ a + sev ρ b := by
  simp only [sev, sadd, smrg_ev]
  omega
def smulL (k : Int) : List (Nat × Int) → List (Nat × Int)
  | [] => []
  | q :: r => (q.1, k * q.2) :: smulL k r
theorem smulL_ev (ρ : Nat → Int) (k : Int) (l : List (Nat × Int)) : svl ρ (smulL k l) = k * svl ρ l := by
  induction l with
  | nil => simp [smulL, svl]
  | cons q r ih =>
    simp only [smulL, svl, ih]
    rw [Int.mul_add, Int.mul_assoc]
def smul (k : Int) (a : SE) : SE := cond (decide (k = 0)) (0, []) (k * a.1, smulL k a.2)
theorem smul_ev (ρ : Nat → Int) (k : Int) (a : SE) : sev ρ (smul k a) = k * sev ρ a := by
  unfold smul
  by_cases h : k = 0
  · rw [decide_eq_true h, h]
    simp [sev, svl]
  · rw [decide_eq_false h]
    simp only [cond_false, sev, smulL_ev]
    rw [Int.mul_add]
def sneg (a : SE) : SE := smul (-1) a
theorem sneg_ev (ρ : Nat → Int) (a : SE) : sev ρ (sneg a) = - sev ρ a := by
  unfold sneg
  rw [smul_ev]
  omega
def ssub (a b : SE) : SE := sadd a (sneg b)
theorem ssub_ev (ρ : Nat → Int) (a b : SE) : sev ρ (ssub a b) = sev ρ a - sev ρ b := by
  unfold ssub
  rw [sadd_ev, sneg_ev]
  omega
def saddc (a : SE) (x : Int) : SE := (a.1 + x, a.2)
theorem saddc_ev (ρ : Nat → Int) (a : SE) (x : Int) : sev ρ (saddc a x) = sev ρ a + x := by
  simp only [sev, saddc]
  omega
def slbeq : List (Nat × Int) → List (Nat × Int) → Bool
  | [], [] => true
  | q :: a, r :: b => Nat.beq q.1 r.1 && (decide (q.2 = r.2) && slbeq a b)
  | _, _ => false
theorem slbeq_ok : ∀ {a b : List (Nat × Int)}, slbeq a b = true → a = b := by
  intro a
  induction a with
  | nil =>
    intro b h
    cases b with
    | nil => rfl
    | cons r b => cases h
  | cons q a ih =>
    intro b h
    cases b with
    | nil => cases h
    | cons r b =>
      simp only [slbeq, Bool.and_eq_true, decide_eq_true_eq] at h
      obtain ⟨h1, h2, h3⟩ := h
      rw [ih h3]
      rw [Prod.ext (Nat.beq_eq.mp h1) h2]
def sbeq (a b : SE) : Bool := decide (a.1 = b.1) && slbeq a.2 b.2
theorem sbeq_ok {a b : SE} (h : sbeq a b = true) : a = b := by
  simp only [sbeq, Bool.and_eq_true, decide_eq_true_eq] at h
  exact Prod.ext h.1 (slbeq_ok h.2)
/-! bounds: the newest first; relations: expressions that are not negative -/
abbrev SB : Type := List (Nat × Int × Int)
abbrev SK : Type := SB × List SE
def sK (ρ : Nat → Int) (K : SK) : Prop := (∀ q ∈ K.1, q.2.1 ≤ ρ q.1 ∧ ρ q.1 ≤ q.2.2) ∧ ∀ r ∈ K.2, 0 ≤ sev ρ r
def sbd (t : Nat) : SB → Option (Int × Int)
  | [] => none
  | q :: r => cond (Nat.beq q.1 t) (some q.2) (sbd t r)
theorem sbd_ok {ρ : Nat → Int} {t : Nat} {q : Int × Int} : ∀ {B : SB}, (∀ q ∈ B, q.2.1 ≤ ρ q.1 ∧ ρ q.1 ≤ q.2.2) → sbd t B = some q → q.1 ≤ ρ t ∧ ρ t ≤ q.2 := by
  intro B
  induction B with
  | nil =>
    intro _ h
    cases h
  | cons a B ih =>
    intro hB h
    unfold sbd at h
    cases hb : Nat.beq a.1 t with
    | true =>
      rw [hb, cond_true] at h
      cases h
      rw [← Nat.beq_eq.mp hb]
      exact hB a List.mem_cons_self
    | false =>
      rw [hb, cond_false] at h
      exact ih (fun q hq => hB q (List.mem_cons_of_mem _ hq)) h
def smn (B : SB) : List (Nat × Int) → Int → Option Int
  | [], a => some a
  | q :: r, a => match sbd q.1 B with
    | some b => smn B r (a + cond (decide (0 ≤ q.2)) (q.2 * b.1) (q.2 * b.2))
    | none => none
theorem smn_ok {ρ : Nat → Int} {B : SB} (hB : ∀ q ∈ B, q.2.1 ≤ ρ q.1 ∧ ρ q.1 ≤ q.2.2) : ∀ {l : List (Nat × Int)} {a b : Int}, smn B l a = some b → b ≤ a + svl ρ l := by
  intro l
  induction l with
  | nil =>
    intro a b h
    cases h
    simp [svl]
  | cons q r ih =>
    intro a b h
    unfold smn at h
    cases hs : sbd q.1 B with
    | none => rw [hs] at h; cases h
    | some z =>
      rw [hs] at h
      have h1 := ih h
      have h2 := sbd_ok hB hs
      simp only [svl]
      by_cases hc : 0 ≤ q.2
      · rw [decide_eq_true hc, cond_true] at h1
        have := Int.mul_le_mul_of_nonneg_left h2.1 hc
        omega
      · rw [decide_eq_false hc, cond_false] at h1
        have h5 : q.2 * z.2 ≤ q.2 * ρ q.1 := Int.mul_le_mul_of_nonpos_left (by omega) h2.2
        omega
def snn (B : SB) (e : SE) : Bool := match smn B e.2 e.1 with
  | some b => decide (0 ≤ b)
  | none => false
theorem snn_ok {ρ : Nat → Int} {B : SB} (hB : ∀ q ∈ B, q.2.1 ≤ ρ q.1 ∧ ρ q.1 ≤ q.2.2) {e : SE} (h : snn B e = true) : 0 ≤ sev ρ e := by
  unfold snn at h
  cases hm : smn B e.2 e.1 with
  | none => rw [hm] at h; cases h
  | some b =>
    rw [hm] at h
    have h1 := smn_ok hB hm
    have h2 : 0 ≤ b := of_decide_eq_true h
    unfold sev
    omega
def sany {α : Type} (f : α → Bool) : List α → Bool
  | [] => false
  | a :: r => cond (f a) true (sany f r)
theorem sany_ok {α : Type} {f : α → Bool} : ∀ {l : List α}, sany f l = true → ∃ a ∈ l, f a = true := by
  intro l
  induction l with
  | nil => intro h; cases h
  | cons a r ih =>
    intro h
    unfold sany at h
    cases hf : f a with
    | true => exact ⟨a, List.mem_cons_self, hf⟩
    | false =>
      rw [hf, cond_false] at h
      obtain ⟨b, h1, h2⟩ := ih h
      exact ⟨b, List.mem_cons_of_mem _ h1, h2⟩
/-- what can help: a number of both, of the same sign -/
def shp1 (t : Nat) (c : Int) : List (Nat × Int) → Bool
  | [] => false
  | q :: r => cond (Nat.beq q.1 t) (cond (decide (0 < c)) (decide (0 < q.2)) (decide (q.2 < 0))) (shp1 t c r)
def shp0 (e : List (Nat × Int)) : List (Nat × Int) → Bool
  | [] => false
  | q :: r => cond (shp1 q.1 q.2 e) true (shp0 e r)
def shlp (f : SE → Bool) (e : SE) : List SE → Bool
  | [] => false
  | r :: rs => cond (cond (shp0 e.2 r.2) (f (ssub e r)) false) true (shlp f e rs)
theorem shlp_ok {f : SE → Bool} {e : SE} : ∀ {l : List SE}, shlp f e l = true → ∃ r ∈ l, f (ssub e r) = true := by
  intro l
  induction l with
  | nil => intro h; cases h
  | cons a r ih =>
    intro h
    unfold shlp at h
    cases hs : shp0 e.2 a.2 with
    | false =>
      rw [hs, cond_false, cond_false] at h
      obtain ⟨b, h1, h2⟩ := ih h
      exact ⟨b, List.mem_cons_of_mem _ h1, h2⟩
    | true =>
      rw [hs, cond_true] at h
      cases hf : f (ssub e a) with
      | true => exact ⟨a, List.mem_cons_self, hf⟩
      | false =>
        rw [hf, cond_false] at h
        obtain ⟨b, h1, h2⟩ := ih h
        exact ⟨b, List.mem_cons_of_mem _ h1, h2⟩
def snn1 (K : SK) (e : SE) : Bool := cond (snn K.1 e) true (shlp (fun d => snn K.1 d) e K.2)
theorem snn1_ok {ρ : Nat → Int} {K : SK} (hK : sK ρ K) {e : SE} (h : snn1 K e = true) : 0 ≤ sev ρ e := by
  unfold snn1 at h
  cases hs : snn K.1 e with
  | true => exact snn_ok hK.1 hs
  | false =>
    rw [hs, cond_false] at h
    obtain ⟨r, h1, h2⟩ := shlp_ok h
    have h3 := snn_ok hK.1 h2
    rw [ssub_ev] at h3
    have := hK.2 r h1
    omega
/-- what is known says that e is not negative -/
def sent (K : SK) (e : SE) : Bool := cond (snn1 K e) true (shlp (fun d => snn1 K d) e K.2)
theorem sent_ok {ρ : Nat → Int} {K : SK} (hK : sK ρ K) {e : SE} (h : sent K e = true) : 0 ≤ sev ρ e := by
  unfold sent at h
  cases hs : snn1 K e with
  | true => exact snn1_ok hK hs
  | false =>
    rw [hs, cond_false] at h
    obtain ⟨r, h1, h2⟩ := shlp_ok h
    have h3 := snn1_ok hK h2
    rw [ssub_ev] at h3
    have := hK.2 r h1
    omega
/-- a is not above b -/
def sle (K : SK) (a b : SE) : Bool := sent K (ssub b a)
theorem sle_ok {ρ : Nat → Int} {K : SK} (hK : sK ρ K) {a b : SE} (h : sle K a b = true) : sev ρ a ≤ sev ρ b := by
  have := sent_ok hK h
  rw [ssub_ev] at this
  omega
def sin (K : SK) (e : SE) (lo hi : Int) : Bool := sent K (saddc e (-lo)) && sent K (ssub (sc hi) e)
theorem sin_ok {ρ : Nat → Int} {K : SK} (hK : sK ρ K) {e : SE} {lo hi : Int} (h : sin K e lo hi = true) : lo ≤ sev ρ e ∧ sev ρ e ≤ hi := by
  unfold sin at h
  rw [Bool.and_eq_true] at h
  have h1 := sent_ok hK h.1
  have h2 := sent_ok hK h.2
  rw [saddc_ev] at h1
  rw [ssub_ev, sev_c] at h2
  omega
/-! what a branch teaches: an expression that is not negative -/
def sput (K : SK) (e : SE) : SK := match e.2 with
  | [(t, a)] => (match sbd t K.1 with
    | some b => cond (decide (0 < a)) (cond (decide (b.1 < -(e.1 / a))) ((t, -(e.1 / a), b.2) :: K.1, K.2) K) (cond (decide (a < 0)) (cond (decide (e.1 / (-a) < b.2)) ((t, b.1, e.1 / (-a)) :: K.1, K.2) K) K)
    | none => K)
  | [] => K
  | _ => cond (snn K.1 e) K (K.1, e :: K.2)
theorem sput_ok {ρ : Nat → Int} {K : SK} (hK : sK ρ K) {e : SE} (h : 0 ≤ sev ρ e) : sK ρ (sput K e) := by
  obtain ⟨x, l⟩ := e
  match l, h with
  | [], h => exact hK
  | [(t, a)], h =>
    show sK ρ (match sbd t K.1 with
    | some b => cond (decide (0 < a)) (cond (decide (b.1 < -(x / a))) ((t, -(x / a), b.2) :: K.1, K.2) K) (cond (decide (a < 0)) (cond (decide (x / (-a) < b.2)) ((t, b.1, x / (-a)) :: K.1, K.2) K) K)
    | none => K)
    have h : 0 ≤ x + (a * ρ t + 0) := h
    cases hs : sbd t K.1 with
    | none => exact hK
    | some b =>
      have hb := sbd_ok hK.1 hs
      simp only
      by_cases h1 : 0 < a
      · rw [decide_eq_true h1, cond_true]
        by_cases h2 : b.1 < -(x / a)
        · rw [decide_eq_true h2, cond_true]
          refine ⟨fun q hq => ?_, hK.2⟩
          rcases List.mem_cons.mp hq with rfl | hq
          · refine ⟨?_, hb.2⟩
            show -(x / a) ≤ ρ t
            have h3 : -(ρ t) ≤ x / a := by
              rw [Int.le_ediv_iff_mul_le h1]
              rw [Int.neg_mul, Int.mul_comm]
              omega
            omega
          · exact hK.1 q hq
        · rw [decide_eq_false h2]
          exact hK
      · rw [decide_eq_false h1, cond_false]
        by_cases h2 : a < 0
        · rw [decide_eq_true h2, cond_true]
          by_cases h4 : x / (-a) < b.2
          · rw [decide_eq_true h4, cond_true]
            refine ⟨fun q hq => ?_, hK.2⟩
            rcases List.mem_cons.mp hq with rfl | hq
            · refine ⟨hb.1, ?_⟩
              show ρ t ≤ x / (-a)
              rw [Int.le_ediv_iff_mul_le (by omega)]
              rw [Int.mul_neg, Int.mul_comm]
              omega
            · exact hK.1 q hq
          · rw [decide_eq_false h4]
            exact hK
        · rw [decide_eq_false h2]
          exact hK
  | q1 :: q2 :: q3, h =>
    show sK ρ (cond (snn K.1 (x, q1 :: q2 :: q3)) K (K.1, (x, q1 :: q2 :: q3) :: K.2))
    cases snn K.1 (x, q1 :: q2 :: q3) with
    | true => exact hK
    | false =>
      refine ⟨hK.1, fun r hr => ?_⟩
      rcases List.mem_cons.mp hr with rfl | hr
      · exact h
      · exact hK.2 r hr
/-- it can't be that e is not negative -/
def sbad (K : SK) (e : SE) : Bool := sent K (ssub (sc (-1)) e)
theorem sbad_ok {ρ : Nat → Int} {K : SK} (hK : sK ρ K) {e : SE} (h : sbad K e = true) : ¬ 0 ≤ sev ρ e := by
  have := sent_ok hK h
  rw [ssub_ev, sev_c] at this
  omega
/-- e is not 0: an end of its bounds goes -/
def sne (K : SK) (e : SE) : SK := cond (sent K e) (sput K (saddc e (-1))) (cond (sent K (sneg e)) (sput K (saddc (sneg e) (-1))) K)
theorem sne_ok {ρ : Nat → Int} {K : SK} (hK : sK ρ K) {e : SE} (h : sev ρ e ≠ 0) : sK ρ (sne K e) := by
  unfold sne
  cases h1 : sent K e with
  | true =>
    have := sent_ok hK h1
    refine sput_ok hK ?_
    rw [saddc_ev]
    omega
  | false =>
    rw [cond_false]
    cases h2 : sent K (sneg e) with
    | true =>
      have := sent_ok hK h2
      rw [sneg_ev] at this
      refine sput_ok hK ?_
      rw [saddc_ev, sneg_ev]
      omega
    | false => exact hK
/-! made plain, for the kernel -/
def sn {α : Type} (n : Nat) (k : Nat → α) : α := match n with
  | 0 => k 0
  | m + 1 => k (m + 1)
theorem sn_eq {α : Type} (n : Nat) (k : Nat → α) : sn n k = k n := by cases n <;> rfl
def sfi {α : Type} (x : Int) (k : Int → α) : α := match x with
  | .ofNat n => sn n (fun n => k (.ofNat n))
  | .negSucc n => sn n (fun n => k (.negSucc n))
theorem sfi_eq {α : Type} (x : Int) (k : Int → α) : sfi x k = k x := by
  cases x <;> simp [sfi, sn_eq]
def sfl {α : Type} : List (Nat × Int) → (List (Nat × Int) → α) → α
  | [], k => k []
  | q :: r, k => sn q.1 (fun a => sfi q.2 (fun b => sfl r (fun r => k ((a, b) :: r))))
theorem sfl_eq {α : Type} (l : List (Nat × Int)) (k : List (Nat × Int) → α) : sfl l k = k l := by
  induction l generalizing k with
  | nil => rfl
  | cons q r ih => simp only [sfl, sn_eq, sfi_eq, ih]
def sfe {α : Type} (e : SE) (k : SE → α) : α := sfi e.1 (fun a => sfl e.2 (fun l => k (a, l)))
theorem sfe_eq {α : Type} (e : SE) (k : SE → α) : sfe e k = k e := by
  simp only [sfe, sfi_eq, sfl_eq]
def sll {α β : Type} (l : List α) (k : List α → β) : β := match l with
  | [] => k []
  | a :: r => sll r (fun r => k (a :: r))
theorem sll_eq {α β : Type} (l : List α) (k : List α → β) : sll l k = k l := by
  induction l generalizing k with
  | nil => rfl
  | cons a r ih => exact ih (fun r => k (a :: r))
end
section
/-! states of which some numbers are not known, and what they say of the machine's -/
abbrev SV : Type := Nat × Nat × SE
abbrev SM : Type := Nat × SE × SE × SE
abbrev SFt : Type := Nat × List SE
abbrev SMS : Type := List SM × List SFt
abbrev SW : Type := SMS × Nat × SK × Nat × Nat
abbrev SL : Type := List (Nat × SV)
abbrev SS : Type := Nat × SL × List SV × SW
abbrev SX : Type := Option (List SS)
abbrev SRt : Type := Nat → SL → List SV → SW → SX
/-- a kind of cells: its first place in the world, the stride, how many; an object's class and fields (0: a number; 1: cell of a kind, the first or the one of the same number), or a row's kind of elements, whether its length is kept in a kind, length, kind of cells -/
abbrev SF : Type := Nat × Nat × Nat × ((Nat × List (Nat × Nat × Nat)) ⊕ (Nat × Nat × Nat × Nat))
abbrev SMem : Type := Nat → Nat → Nat → Int
abbrev SAd : Type := Nat → Nat → Nat
/-- what may be written: kinds with their fields; and of rows from where on -/
abbrev SWr : Type := List (Nat × Nat) × List (Nat × Int)
def sub (x : SX) (xs : List SS) : Prop := ∃ ys, x = some ys ∧ ∀ X ∈ ys, X ∈ xs
theorem sub_none {xs : List SS} (h : sub none xs) : False := by
  obtain ⟨ys, h, -⟩ := h
  cases h
theorem sub_cond {c : Bool} {x : SX} {xs : List SS} (h : sub (cond c x none) xs) : c = true ∧ sub x xs := by
  cases c with
  | true => exact ⟨rfl, h⟩
  | false => exact (sub_none h).elim
def sapp (a b : SX) : SX := match a with
  | none => none
  | some x => (match b with
    | none => none
    | some y => some (x ++ y))
theorem sub_app {a b : SX} {xs : List SS} (h : sub (sapp a b) xs) : sub a xs ∧ sub b xs := by
  unfold sapp at h
  cases a with
  | none => exact (sub_none h).elim
  | some x =>
    cases b with
    | none => exact (sub_none h).elim
    | some y =>
      obtain ⟨ys, h1, h2⟩ := h
      cases h1
      exact ⟨⟨x, rfl, fun X hX => h2 X (List.mem_append_left _ hX)⟩, ⟨y, rfl, fun X hX => h2 X (List.mem_append_right _ hX)⟩⟩
/-! which numbers an expression names -/
def sbl (n : Nat) : List (Nat × Int) → Bool
  | [] => true
  | q :: r => Nat.blt q.1 n && sbl n r
def sbe (n : Nat) (e : SE) : Bool := sbl n e.2
theorem sbl_ev {n : Nat} {ρ ρ' : Nat → Int} (ha : ∀ t, t < n → ρ' t = ρ t) : ∀ {l : List (Nat × Int)}, sbl n l = true → svl ρ' l = svl ρ l := by
  intro l
  induction l with
  | nil => intro _; rfl
  | cons q r ih =>
    intro h
    simp only [sbl, Bool.and_eq_true] at h
    simp only [svl, ih h.2, ha q.1 (zblt h.1)]
theorem sbe_ev {n : Nat} {ρ ρ' : Nat → Int} (ha : ∀ t, t < n → ρ' t = ρ t) {e : SE} (h : sbe n e = true) : sev ρ' e = sev ρ e := by
  unfold sev
  rw [sbl_ev ha h]
def sall {α : Type} (f : α → Bool) : List α → Bool
  | [] => true
  | a :: r => cond (f a) (sall f r) false
theorem sall_ok {α : Type} {f : α → Bool} : ∀ {l : List α}, sall f l = true → ∀ a ∈ l, f a = true := by
  intro l
  induction l with
  | nil => intro _ a h; cases h
  | cons b r ih =>
    intro h a ha
    unfold sall at h
    cases hf : f b with
    | false => rw [hf] at h; cases h
    | true =>
      rw [hf, cond_true] at h
      rcases List.mem_cons.mp ha with rfl | ha
      · exact hf
      · exact ih h a ha
def sbM (n : Nat) (q : SM) : Bool := sbe n q.2.1 && (sbe n q.2.2.1 && sbe n q.2.2.2)
def sbK (n : Nat) (K : SK) : Bool := sall (fun q => Nat.blt q.1 n) K.1 && sall (sbe n) K.2
def sbF (n : Nat) (q : SFt) : Bool := sall (sbe n) q.2
def sbW (n : Nat) (w : SW) : Bool := sall (sbM n) w.1.1 && (sall (sbF n) w.1.2 && sbK n w.2.2.1)
def sbS (n : Nat) (lv : SL) (st : List SV) (w : SW) : Bool := sall (fun q => sbe n q.2.2.2) lv && (sall (fun v => sbe n v.2.2) st && sbW n w)
/-! values -/
def sv (fm : List SF) (scr : Nat) (ρ : Nat → Int) (ad : SAd) (v : SV) (c : Value) : Prop :=
  (v.1 = 0 ∧ ∃ x : Int32, c = .int x ∧ x.toInt = sev ρ v.2.2) ∨ (v.1 = 1 ∧ ∃ x : Int64, c = .long x ∧ x.toInt = sev ρ v.2.2) ∨
  (v.1 = 2 ∧ ∃ (j : Nat) (en : SF), (j : Int) = sev ρ v.2.2 ∧ fm[v.2.1]? = some en ∧ j < en.2.2.1 ∧ c = .ref (ad v.2.1 j)) ∨ (v.1 = 3 ∧ c = .ref scr)
def scat (v : SV) : Nat := cond (Nat.beq v.1 1) 2 1
theorem sv_cat {fm : List SF} {scr : Nat} {ρ : Nat → Int} {ad : SAd} {v : SV} {c : Value} (h : sv fm scr ρ ad v c) : c.category = scat v := by
  unfold scat
  rcases h with ⟨h, x, rfl, -⟩ | ⟨h, x, rfl, -⟩ | ⟨h, j, en, -, -, -, rfl⟩ | ⟨h, rfl⟩ <;> rw [h] <;> rfl
theorem sv_ag {fm : List SF} {scr : Nat} {ρ ρ' : Nat → Int} {ad : SAd} {n : Nat} (ha : ∀ t, t < n → ρ' t = ρ t) {v : SV} {c : Value} (hb : sbe n v.2.2 = true) (h : sv fm scr ρ ad v c) : sv fm scr ρ' ad v c := by
  unfold sv at h ⊢
  rw [sbe_ev ha hb]
  exact h
def svs (fm : List SF) (scr : Nat) (ρ : Nat → Int) (ad : SAd) : List SV → List Value → Prop
  | [], [] => True
  | v :: vs, c :: cs => sv fm scr ρ ad v c ∧ svs fm scr ρ ad vs cs
  | _, _ => False
def sls (fm : List SF) (scr : Nat) (ρ : Nat → Int) (ad : SAd) : SL → ZL → Prop
  | [], [] => True
  | v :: vs, c :: cs => v.1 = c.1 ∧ sv fm scr ρ ad v.2 c.2 ∧ sls fm scr ρ ad vs cs
  | _, _ => False
section SVS
variable {fm : List SF} {scr : Nat} {ρ ρ' : Nat → Int} {ad ad' : SAd}
theorem svs_nil {cs : List Value} (h : svs fm scr ρ ad [] cs) : cs = [] := by
  cases cs with
  | nil => rfl
  | cons c r => exact h.elim
theorem svs_cons {v : SV} {vs : List SV} {cs : List Value} (h : svs fm scr ρ ad (v :: vs) cs) : ∃ c r, cs = c :: r ∧ sv fm scr ρ ad v c ∧ svs fm scr ρ ad vs r := by
  cases cs with
  | nil => exact h.elim
  | cons c r => exact ⟨c, r, rfl, h.1, h.2⟩
theorem svs_mono (P : SV → Bool) (hm : ∀ v c, P v = true → sv fm scr ρ ad v c → sv fm scr ρ' ad' v c) : ∀ {vs : List SV} {cs : List Value}, (∀ v ∈ vs, P v = true) → svs fm scr ρ ad vs cs → svs fm scr ρ' ad' vs cs := by
  intro vs
  induction vs with
  | nil =>
    intro cs _ h
    cases svs_nil h
    trivial
  | cons v vs ih =>
    intro cs hp h
    obtain ⟨c, r, rfl, h1, h2⟩ := svs_cons h
    exact ⟨hm v c (hp v List.mem_cons_self) h1, ih (fun v hv => hp v (List.mem_cons_of_mem _ hv)) h2⟩
theorem svs_len : ∀ {vs : List SV} {cs : List Value}, svs fm scr ρ ad vs cs → cs.length = vs.length := by
  intro vs
  induction vs with
  | nil =>
    intro cs h
    cases svs_nil h
    rfl
  | cons v vs ih =>
    intro cs h
    obtain ⟨c, r, rfl, h1, h2⟩ := svs_cons h
    simp [ih h2]
theorem svs_get : ∀ {vs : List SV} {cs : List Value}, svs fm scr ρ ad vs cs → ∀ {k : Nat} {v : SV}, vs[k]? = some v → ∃ c, cs[k]? = some c ∧ sv fm scr ρ ad v c := by
  intro vs
  induction vs with
  | nil =>
    intro cs h k v hk
    cases hk
  | cons w vs ih =>
    intro cs h k v hk
    obtain ⟨c, r, rfl, h1, h2⟩ := svs_cons h
    cases k with
    | zero =>
      cases hk
      exact ⟨c, rfl, h1⟩
    | succ k =>
      obtain ⟨c2, h3, h4⟩ := ih h2 (k := k) (by simpa using hk)
      exact ⟨c2, by simpa using h3, h4⟩
theorem svs_app : ∀ {vs : List SV} {cs : List Value} {ws : List SV} {ds : List Value}, svs fm scr ρ ad vs cs → svs fm scr ρ ad ws ds → svs fm scr ρ ad (vs ++ ws) (cs ++ ds) := by
  intro vs
  induction vs with
  | nil =>
    intro cs ws ds h h2
    cases svs_nil h
    exact h2
  | cons w vs ih =>
    intro cs ws ds h h2
    obtain ⟨d, r, rfl, h3, h4⟩ := svs_cons h
    exact ⟨h3, ih h4 h2⟩
theorem svs_rev : ∀ {vs : List SV} {cs : List Value}, svs fm scr ρ ad vs cs → svs fm scr ρ ad vs.reverse cs.reverse := by
  intro vs
  induction vs with
  | nil =>
    intro cs h
    cases svs_nil h
    trivial
  | cons w vs ih =>
    intro cs h
    obtain ⟨d, r, rfl, h3, h4⟩ := svs_cons h
    rw [List.reverse_cons, List.reverse_cons]
    exact svs_app (ih h4) ⟨h3, trivial⟩
theorem svs_take (n : Nat) : ∀ {vs : List SV} {cs : List Value}, svs fm scr ρ ad vs cs → svs fm scr ρ ad (vs.take n) (cs.take n) ∧ svs fm scr ρ ad (vs.drop n) (cs.drop n) := by
  induction n with
  | zero =>
    intro vs cs h
    exact ⟨by simp [svs], by simpa using h⟩
  | succ n ih =>
    intro vs cs h
    cases vs with
    | nil =>
      cases svs_nil h
      exact ⟨trivial, trivial⟩
    | cons v vs =>
      obtain ⟨d, r, rfl, h3, h4⟩ := svs_cons h
      exact ⟨⟨h3, (ih h4).1⟩, (ih h4).2⟩
theorem svs_sum : ∀ {vs : List SV} {cs : List Value}, svs fm scr ρ ad vs cs → (cs.map fun v => v.category).sum = (vs.map scat).sum := by
  intro vs
  induction vs with
  | nil =>
    intro cs h
    cases svs_nil h
    rfl
  | cons w vs ih =>
    intro cs h
    obtain ⟨d, r, rfl, h3, h4⟩ := svs_cons h
    simp [sv_cat h3, ih h4]
theorem sls_nil {cs : ZL} (h : sls fm scr ρ ad [] cs) : cs = [] := by
  cases cs with
  | nil => rfl
  | cons c r => exact h.elim
theorem sls_cons {v : Nat × SV} {vs : SL} {cs : ZL} (h : sls fm scr ρ ad (v :: vs) cs) : ∃ c r, cs = c :: r ∧ v.1 = c.1 ∧ sv fm scr ρ ad v.2 c.2 ∧ sls fm scr ρ ad vs r := by
  cases cs with
  | nil => exact h.elim
  | cons c r => exact ⟨c, r, rfl, h.1, h.2.1, h.2.2⟩
theorem sls_mono (P : SV → Bool) (hm : ∀ v c, P v = true → sv fm scr ρ ad v c → sv fm scr ρ' ad' v c) : ∀ {vs : SL} {cs : ZL}, (∀ q ∈ vs, P q.2 = true) → sls fm scr ρ ad vs cs → sls fm scr ρ' ad' vs cs := by
  intro vs
  induction vs with
  | nil =>
    intro cs _ h
    cases sls_nil h
    trivial
  | cons v vs ih =>
    intro cs hp h
    obtain ⟨c, r, rfl, h1, h2, h3⟩ := sls_cons h
    exact ⟨h1, hm _ _ (hp v List.mem_cons_self) h2, ih (fun v hv => hp v (List.mem_cons_of_mem _ hv)) h3⟩
def slk (l : SL) (i : Nat) : Option SV := match l with
  | [] => none
  | q :: r => cond (Nat.beq q.1 i) (some q.2) (slk r i)
theorem sls_get {i : Nat} {v : SV} : ∀ {vs : SL} {cs : ZL}, sls fm scr ρ ad vs cs → slk vs i = some v → ∃ (k : Nat) (c : Value), cs[k]? = some (i, c) ∧ sv fm scr ρ ad v c := by
  intro vs
  induction vs with
  | nil =>
    intro cs h hk
    cases hk
  | cons w vs ih =>
    intro cs h hk
    obtain ⟨c, r, rfl, h1, h2, h3⟩ := sls_cons h
    unfold slk at hk
    cases hb : Nat.beq w.1 i with
    | true =>
      rw [hb, cond_true] at hk
      cases hk
      have e1 : c.1 = i := h1.symm.trans (Nat.beq_eq.mp hb)
      obtain ⟨c1, c2⟩ := c
      cases e1
      exact ⟨0, c2, rfl, h2⟩
    | false =>
      rw [hb, cond_false] at hk
      obtain ⟨k, c2, h4, h5⟩ := ih h3 hk
      exact ⟨k + 1, c2, by simpa using h4, h5⟩
def skeep (i : Nat) (q : Nat × SV) : Bool := !(q.1 == i) && !(q.1 + 1 == i && scat q.2 == 2)
theorem sls_filter (i : Nat) : ∀ {vs : SL} {cs : ZL}, sls fm scr ρ ad vs cs → sls fm scr ρ ad (vs.filter (skeep i)) (cs.filter (zkeep i)) := by
  intro vs
  induction vs with
  | nil =>
    intro cs h
    cases sls_nil h
    trivial
  | cons v vs ih =>
    intro cs h
    obtain ⟨c, r, rfl, h1, h2, h3⟩ := sls_cons h
    have e : zkeep i c = skeep i v := by
      unfold zkeep skeep
      rw [h1, sv_cat h2]
    rw [List.filter_cons, List.filter_cons, e]
    cases skeep i v with
    | true => exact ⟨h1, h2, ih h3⟩
    | false => exact ih h3
def sargs (i : Nat) : List SV → SL
  | [] => []
  | v :: vs => (i, v) :: sargs (cond (Nat.beq v.1 1) (i + 2) (i + 1)) vs
theorem sls_args : ∀ {vs : List SV} {cs : List Value} (i : Nat), svs fm scr ρ ad vs cs → sls fm scr ρ ad (sargs i vs) (lv_args i cs) := by
  intro vs
  induction vs with
  | nil =>
    intro cs i h
    cases svs_nil h
    trivial
  | cons v vs ih =>
    intro cs i h
    obtain ⟨c, r, rfl, h1, h2⟩ := svs_cons h
    refine ⟨rfl, h1, ?_⟩
    rw [sv_cat h1]
    unfold scat
    cases Nat.beq v.1 1 with
    | true => exact ih _ h2
    | false => exact ih _ h2
end SVS
/-! the heap -/
def spos (en : SF) (j : Nat) : Nat := en.1 + en.2.1 * j
def slen (M : SMem) (j : Nat) (a : Nat × Nat × Nat × Nat) : Nat := cond (Nat.beq a.2.1 0) a.2.2.1 (M a.2.2.1 j 0).toNat
def sHo (ad : SAd) (M : SMem) (f j : Nat) (o : Nat × List (Nat × Nat × Nat)) (w : va_E) : Prop :=
  ∃ gs : List Value, w = .inr (o.1, gs) ∧ gs.length = o.2.length ∧ ∀ i sp, o.2[i]? = some sp → (sp.1 = 0 → ∃ x : Int32, gs[i]? = some (.int x) ∧ x.toInt = M f j i) ∧ (sp.1 = 1 → gs[i]? = some (.ref (ad sp.2.1 (cond (Nat.beq sp.2.2 0) 0 j))))
def sHa (ad : SAd) (M : SMem) (cA : Nat → ClassId) (f j : Nat) (a : Nat × Nat × Nat × Nat) (w : va_E) : Prop :=
  (a.1 < 3 → ∃ h : Nat → Int32, w = .inl (cA a.1, slen M j a, .inl h) ∧ ∀ i, (h i).toInt = M f j i) ∧
  (a.1 = 3 → ∃ h : Nat → Int64, w = .inl (cA a.1, slen M j a, .inr (.inl h)) ∧ ∀ i, (h i).toInt = M f j i) ∧
  (3 < a.1 → ∃ h : Nat → Option Nat, w = .inl (cA a.1, slen M j a, .inr (.inr (.inr (.inr h)))) ∧ ∀ i, i < slen M j a → h i = some (ad a.2.2.2 i))
def sHe (ad : SAd) (M : SMem) (cA : Nat → ClassId) (f j : Nat) (en : SF) (w : va_E) : Prop := match en.2.2.2 with
  | .inl o => sHo ad M f j o w
  | .inr a => sHa ad M cA f j a w
def sH (fm : List SF) (ad : SAd) (M : SMem) (cA : Nat → ClassId) (ws : va_W) : Prop := ∀ (f : Nat) (en : SF), fm[f]? = some en → ∀ j, j < en.2.2.1 → ∃ w, ws[spos en j]? = some (ad f j, w) ∧ sHe ad M cA f j en w
def sInj (fm : List SF) : Prop := ∀ (f f' : Nat) (en en' : SF), fm[f]? = some en → fm[f']? = some en' → ∀ j j', j < en.2.2.1 → j' < en'.2.2.1 → spos en j = spos en' j' → f = f' ∧ j = j'
/-- what always holds of the numbers: for each kind (0: an object, by the field; else a row) bounds; bounds of single places -/
abbrev SRg : Type := List (Nat × List (Int × Int)) × List (Nat × Nat × Int × Int)
def srg (rg : SRg) (f i : Nat) : Option (Int × Int) := match rg.1[f]? with
  | some q => q.2[cond (Nat.beq q.1 0) i 0]?
  | none => none
def scl (rg : SRg) (f i : Nat) : Nat := match rg.1[f]? with
  | some q => cond (Nat.beq q.1 0) i 0
  | none => i
def sI (rg : SRg) (M : SMem) : Prop := (∀ f i q, srg rg f i = some q → ∀ j, q.1 ≤ M f j i ∧ M f j i ≤ q.2) ∧ ∀ q ∈ rg.2, ∀ j, q.2.2.1 ≤ M q.1 j q.2.1 ∧ M q.1 j q.2.1 ≤ q.2.2.2
def smo (fI : Nat → List Int → SMem → Prop) (ρ : Nat → Int) (M : SMem) (ms : SMS) : Prop := (∀ q ∈ ms.1, ∃ j i : Nat, (j : Int) = sev ρ q.2.1 ∧ (i : Int) = sev ρ q.2.2.1 ∧ M q.1 j i = sev ρ q.2.2.2) ∧
  ∀ q ∈ ms.2, fI q.1 (q.2.map (sev ρ)) M
def sfr (rg : SRg) (M0 M : SMem) (ad0 ad : SAd) (wr : SWr) : Prop := (∀ f j i, (f, scl rg f i) ∉ wr.1 → M f j i = M0 f j i) ∧ (∀ f j, (f, 999999) ∉ wr.1 → ad f j = ad0 f j) ∧ ∀ q ∈ wr.2, ∀ j i : Nat, (i : Int) < q.2 → M q.1 j i = M0 q.1 j i
def sRel (fm : List SF) (rg : SRg) (X : SMem → Prop) (fI : Nat → List Int → SMem → Prop) (wr : SWr) (scr n0 : Nat) (ρ0 : Nat → Int) (M0 : SMem) (ad0 : SAd) (dC : Nat → ClassId) (dI : Nat → Nat → Nat) (cA : Nat → ClassId) (A : Nat → Prop) (H0 : Heap) (nL : Nat) (lv : SL) (st : List SV) (w : SW) (ρ : Nat → Int) (M : SMem) (ad : SAd) (ws : va_W) (H : Heap) (locs : List Loc) (ls : Array Slot) (clv : ZL) (cst : List Value) : Prop :=
  ((∀ t, t < n0 → ρ t = ρ0 t) ∧ n0 ≤ w.2.1 ∧ sK ρ w.2.2.1) ∧ (sH fm ad M cA ws ∧ (sI rg M ∧ X M) ∧ smo fI ρ M w.1 ∧ sfr rg M0 M ad0 ad wr) ∧ va_P (dC, dI) vwCl ws H ∧ va_D A ws ∧ va_S A H0 H locs ∧ lv_has ls nL clv ∧ sls fm scr ρ ad lv clv ∧ svs fm scr ρ ad st cst
/-- from each state of the machine that is as told, it comes to Q; cells and slots are counted from nc0, ns0 on -/
def sW (p : Program) (l : Launch) (e : Env) (R : Room) (s : State) (m : MethodId) (args : Array Value) (below : List Frame) (meth : Method) (c : Code) (Q : State → Prop) (dC : Nat → ClassId) (dI : Nat → Nat → Nat) (cA : Nat → ClassId) (A : Nat → Prop) (nL : Nat) (fm : List SF) (rg : SRg) (X : SMem → Prop) (fI : Nat → List Int → SMem → Prop) (wr : SWr) (scr n0 : Nat) (ρ0 : Nat → Int) (M0 : SMem) (ad0 : SAd) (nc0 ns0 : Nat) (pc : Nat) (lv : SL) (st : List SV) (w : SW) : Prop :=
  ∀ (ρ : Nat → Int) (M : SMem) (ad : SAd) (ws : va_W) (H : Heap) (locs : List Loc) (ls : Array Slot) (clv : ZL) (cst : List Value), sRel fm rg X fI wr scr n0 ρ0 M0 ad0 dC dI cA A s.heap nL lv st w ρ M ad ws H locs ls clv cst → W p l e R s m args below meth c H locs (nc0 + w.2.2.2.1) (ns0 + w.2.2.2.2) Q (F0 m pc ls cst)
end
section
/-! steps: each is the machine's own -/
def snw (w : SW) (lo hi : Int) : SW := (w.1, w.2.1 + 1, ((w.2.1, lo, hi) :: w.2.2.1.1, w.2.2.1.2), w.2.2.2)
/-- a number that is new -/
def snew (lv : SL) (st : List SV) (w : SW) (lo hi : Int) (k : SE → SW → SX) : SX := cond (sbS w.2.1 lv st w) (sn w.2.1 (fun n => k (sy n) (w.1, n + 1, ((n, lo, hi) :: w.2.2.1.1, w.2.2.1.2), w.2.2.2))) none
def swK (w : SW) (K : SK) : SW := (w.1, w.2.1, K, w.2.2.2)
section SST
variable {p : Program} {l : Launch} {e : Env} {R : Room} {s : State} {m : MethodId} {args : Array Value} {below : List Frame} {meth : Method} {c : Code} {Q : State → Prop} {dC : Nat → ClassId} {dI : Nat → Nat → Nat} {cA : Nat → ClassId} {A : Nat → Prop} {nL : Nat} {fm : List SF} {rg : SRg} {X : SMem → Prop} {fI : Nat → List Int → SMem → Prop} {wr : SWr} {scr n0 : Nat} {ρ0 : Nat → Int} {M0 : SMem} {ad0 : SAd} {nc0 ns0 : Nat} {cc : ByteArray} {pc : Nat} {lv : SL} {st : List SV} {w : SW} {ret : SRt} {xs : List SS} {own : String}
theorem sK_ag {n : Nat} {ρ ρ' : Nat → Int} (ha : ∀ t, t < n → ρ' t = ρ t) {K : SK} (hb : sbK n K = true) (h : sK ρ K) : sK ρ' K := by
  unfold sbK at hb
  rw [Bool.and_eq_true] at hb
  refine ⟨fun q hq => ?_, fun r hr => ?_⟩
  · rw [ha q.1 (zblt (sall_ok hb.1 q hq))]
    exact h.1 q hq
  · rw [sbe_ev ha (sall_ok hb.2 r hr)]
    exact h.2 r hr
theorem smap_ag {n : Nat} {ρ ρ' : Nat → Int} (ha : ∀ t, t < n → ρ' t = ρ t) : ∀ {l : List SE}, sall (sbe n) l = true → l.map (sev ρ') = l.map (sev ρ) := by
  intro l h
  exact List.map_congr_left fun e he => sbe_ev ha (sall_ok h e he)
theorem smo_ag {n : Nat} {ρ ρ' : Nat → Int} (ha : ∀ t, t < n → ρ' t = ρ t) {M : SMem} {ms : SMS} (h1 : sall (sbM n) ms.1 = true) (h2 : sall (sbF n) ms.2 = true) (h : smo fI ρ M ms) : smo fI ρ' M ms := by
  refine ⟨fun q hq => ?_, fun q hq => ?_⟩
  · have hb := sall_ok h1 q hq
    simp only [sbM, Bool.and_eq_true] at hb
    rw [sbe_ev ha hb.1, sbe_ev ha hb.2.1, sbe_ev ha hb.2.2]
    exact h.1 q hq
  · rw [smap_ag ha (sall_ok h2 q hq)]
    exact h.2 q hq
theorem svs_ag {n : Nat} {ρ ρ' : Nat → Int} {ad : SAd} (ha : ∀ t, t < n → ρ' t = ρ t) {vs : List SV} {cs : List Value} (hb : sall (fun v => sbe n v.2.2) vs = true) (h : svs fm scr ρ ad vs cs) : svs fm scr ρ' ad vs cs :=
  svs_mono (fun v => sbe n v.2.2) (fun _ _ h1 h2 => sv_ag ha h1 h2) (sall_ok hb) h
theorem sls_ag {n : Nat} {ρ ρ' : Nat → Int} {ad : SAd} (ha : ∀ t, t < n → ρ' t = ρ t) {vs : SL} {cs : ZL} (hb : sall (fun q => sbe n q.2.2.2) vs = true) (h : sls fm scr ρ ad vs cs) : sls fm scr ρ' ad vs cs :=
  sls_mono (fun v => sbe n v.2.2) (fun _ _ h1 h2 => sv_ag ha h1 h2) (sall_ok hb) h
theorem snew_ok {ρ : Nat → Int} {M : SMem} {ad : SAd} {ws : va_W} {H : Heap} {locs : List Loc} {ls : Array Slot} {clv : ZL} {cst : List Value} {x lo hi : Int} {k : SE → SW → SX} (hr : sRel fm rg X fI wr scr n0 ρ0 M0 ad0 dC dI cA A s.heap nL lv st w ρ M ad ws H locs ls clv cst) (h1 : lo ≤ x) (h2 : x ≤ hi) (h : sub (snew lv st w lo hi k) xs) :
    ∃ ρ' : Nat → Int, (∀ t, t < w.2.1 → ρ' t = ρ t) ∧ sbS w.2.1 lv st w = true ∧ sev ρ' (sy w.2.1) = x ∧ sRel fm rg X fI wr scr n0 ρ0 M0 ad0 dC dI cA A s.heap nL lv st (snw w lo hi) ρ' M ad ws H locs ls clv cst ∧ sub (k (sy w.2.1) (snw w lo hi)) xs := by
  obtain ⟨hb, h⟩ := sub_cond h
  rw [sn_eq] at h
  obtain ⟨⟨ag, hn, hK⟩, ⟨r1, hI, hmo, hfr⟩, r2, r3, r4, r5, r6, r7⟩ := hr
  have ha : ∀ t, t < w.2.1 → (fun t => if t = w.2.1 then x else ρ t) t = ρ t := fun t ht => if_neg (by omega)
  have hb2 := hb
  simp only [sbS, sbW, Bool.and_eq_true] at hb2
  obtain ⟨b1, b2, b3, b4, b5⟩ := hb2
  refine ⟨fun t => if t = w.2.1 then x else ρ t, ha, hb, by rw [sev_y]; exact if_pos rfl, ⟨⟨fun t ht => (ha t (Nat.lt_of_lt_of_le ht hn)).trans (ag t ht), Nat.le_succ_of_le hn, ?_⟩, ⟨r1, hI, smo_ag ha b3 b4 hmo, hfr⟩, r2, r3, r4, r5, sls_ag ha b1 r6, svs_ag ha b2 r7⟩, h⟩
  have hK2 := sK_ag ha b5 hK
  refine ⟨fun q hq => ?_, hK2.2⟩
  rcases List.mem_cons.mp hq with rfl | hq
  · show lo ≤ (if w.2.1 = w.2.1 then x else ρ w.2.1) ∧ (if w.2.1 = w.2.1 then x else ρ w.2.1) ≤ hi
    rw [if_pos rfl]
    exact ⟨h1, h2⟩
  · exact hK2.1 q hq
theorem sv_int {ρ : Nat → Int} {ad : SAd} {v : SV} {cv : Value} (h0 : Nat.beq v.1 0 = true) (h : sv fm scr ρ ad v cv) : ∃ x : Int32, cv = .int x ∧ x.toInt = sev ρ v.2.2 := by
  have h0 := Nat.beq_eq.mp h0
  rcases h with ⟨-, h⟩ | ⟨h, -⟩ | ⟨h, -⟩ | ⟨h, -⟩
  · exact h
  · omega
  · omega
  · omega
theorem sv_lng {ρ : Nat → Int} {ad : SAd} {v : SV} {cv : Value} (h0 : Nat.beq v.1 1 = true) (h : sv fm scr ρ ad v cv) : ∃ x : Int64, cv = .long x ∧ x.toInt = sev ρ v.2.2 := by
  have h0 := Nat.beq_eq.mp h0
  rcases h with ⟨h, -⟩ | ⟨-, h⟩ | ⟨h, -⟩ | ⟨h, -⟩
  · omega
  · exact h
  · omega
  · omega
theorem sv_ref {ρ : Nat → Int} {ad : SAd} {v : SV} {cv : Value} (h0 : Nat.ble 2 v.1 = true) (h : sv fm scr ρ ad v cv) : ∃ a : Nat, cv = .ref a := by
  have h0 := Nat.le_of_ble_eq_true h0
  rcases h with ⟨h, -⟩ | ⟨h, -⟩ | ⟨h, j, en, -, -, -, h2⟩ | ⟨h, h2⟩
  · omega
  · omega
  · exact ⟨_, h2⟩
  · exact ⟨_, h2⟩
theorem sv_mkI {ρ : Nat → Int} {ad : SAd} {e : SE} {x : Int32} (h : x.toInt = sev ρ e) : sv fm scr ρ ad (0, 0, e) (.int x) := Or.inl ⟨rfl, x, rfl, h⟩
theorem sv_mkL {ρ : Nat → Int} {ad : SAd} {e : SE} {x : Int64} (h : x.toInt = sev ρ e) : sv fm scr ρ ad (1, 0, e) (.long x) := Or.inr (Or.inl ⟨rfl, x, rfl, h⟩)
/-- a value that is known is put on the stack -/
theorem ss_push {v : SV} {cv : Value} {n : Nat} (hv : ∀ ρ ad, sv fm scr ρ ad v cv) (hrow : ∀ (H : Heap) (locs : List Loc) (ls : Array Slot) (cst : List Value), W p l e R s m args below meth c H locs (nc0 + w.2.2.2.1) (ns0 + w.2.2.2.2) Q (F0 m (pc + n) ls (cv :: cst)) → W p l e R s m args below meth c H locs (nc0 + w.2.2.2.1) (ns0 + w.2.2.2.2) Q (F0 m pc ls cst)) (h : sub (ret (pc + n) lv (v :: st) w) xs) (Hk : ∀ (pc : Nat) (lv : SL) (st : List SV) (w : SW), sub (ret pc lv st w) xs → sW p l e R s m args below meth c Q dC dI cA A nL fm rg X fI wr scr n0 ρ0 M0 ad0 nc0 ns0 pc lv st w) : sW p l e R s m args below meth c Q dC dI cA A nL fm rg X fI wr scr n0 ρ0 M0 ad0 nc0 ns0 pc lv st w := by
  intro ρ M ad ws H locs ls clv cst ⟨⟨ag, hn, hK⟩, ⟨r1, hI, hmo, hfr⟩, r2, r3, r4, r5, r6, r7⟩
  exact hrow _ _ _ _ (Hk _ _ _ _ h ρ M ad ws H locs ls clv (cv :: cst) ⟨⟨ag, hn, hK⟩, ⟨r1, hI, hmo, hfr⟩, r2, r3, r4, r5, r6, hv _ _, r7⟩)
/-- a local read -/
def sx_ld (f : SV → Bool) (i n pc : Nat) (lv : SL) (st : List SV) (w : SW) (ret : SRt) : SX := match slk lv i with
  | some v => cond (f v) (ret (pc + n) lv (v :: st) w) none
  | none => none
theorem sx_ld_ok {f : SV → Bool} {i n : Nat} (h : sub (sx_ld f i n pc lv st w ret) xs) : ∃ v, slk lv i = some v ∧ f v = true ∧ sub (ret (pc + n) lv (v :: st) w) xs := by
  unfold sx_ld at h
  cases hl : slk lv i with
  | none => rw [hl] at h; exact (sub_none h).elim
  | some v =>
    rw [hl] at h
    obtain ⟨h1, h2⟩ := sub_cond h
    exact ⟨v, rfl, h1, h2⟩
def sti (v : SV) : Bool := Nat.beq v.1 0
def stl (v : SV) : Bool := Nat.beq v.1 1
def str (v : SV) : Bool := Nat.ble 2 v.1
theorem ss_ld {f : SV → Bool} {i n : Nat} (hrow : ∀ (v : SV) (ρ : Nat → Int) (ad : SAd) (cv : Value) (H : Heap) (locs : List Loc) (ls : Array Slot) (cst : List Value), f v = true → sv fm scr ρ ad v cv → ls[i]? = some (.val cv) → W p l e R s m args below meth c H locs (nc0 + w.2.2.2.1) (ns0 + w.2.2.2.2) Q (F0 m (pc + n) ls (cv :: cst)) → W p l e R s m args below meth c H locs (nc0 + w.2.2.2.1) (ns0 + w.2.2.2.2) Q (F0 m pc ls cst)) (h : sub (sx_ld f i n pc lv st w ret) xs) (Hk : ∀ (pc : Nat) (lv : SL) (st : List SV) (w : SW), sub (ret pc lv st w) xs → sW p l e R s m args below meth c Q dC dI cA A nL fm rg X fI wr scr n0 ρ0 M0 ad0 nc0 ns0 pc lv st w) : sW p l e R s m args below meth c Q dC dI cA A nL fm rg X fI wr scr n0 ρ0 M0 ad0 nc0 ns0 pc lv st w := by
  obtain ⟨v, h1, h2, h3⟩ := sx_ld_ok h
  intro ρ M ad ws H locs ls clv cst ⟨⟨ag, hn, hK⟩, ⟨r1, hI, hmo, hfr⟩, r2, r3, r4, r5, r6, r7⟩
  obtain ⟨k, cv, h4, h5⟩ := sls_get r6 h1
  exact hrow v ρ ad cv H locs ls cst h2 h5 (lv_at r5 k h4) (Hk _ _ _ _ h3 ρ M ad ws H locs ls clv _ ⟨⟨ag, hn, hK⟩, ⟨r1, hI, hmo, hfr⟩, r2, r3, r4, r5, r6, h5, r7⟩)
/-- a local written -/
def sx_st (f : SV → Bool) (nL i n pc : Nat) (lv : SL) (st : List SV) (w : SW) (ret : SRt) : SX := match st with
  | v :: st' => cond (f v && Nat.blt i nL) (sll (lv.filter (skeep i)) (fun lr => ret (pc + n) ((i, v) :: lr) st' w)) none
  | [] => none
theorem sx_st_ok {f : SV → Bool} {i n : Nat} (h : sub (sx_st f nL i n pc lv st w ret) xs) : ∃ v st', st = v :: st' ∧ f v = true ∧ i < nL ∧ sub (ret (pc + n) ((i, v) :: lv.filter (skeep i)) st' w) xs := by
  cases st with
  | nil => exact (sub_none h).elim
  | cons v st' =>
    obtain ⟨h1, h2⟩ := sub_cond h
    rw [sll_eq] at h2
    rw [Bool.and_eq_true] at h1
    exact ⟨v, st', rfl, h1.1, zblt h1.2, h2⟩
theorem ss_st {f : SV → Bool} {i n : Nat} (hrow : ∀ (v : SV) (ρ : Nat → Int) (ad : SAd) (cv : Value) (H : Heap) (locs : List Loc) (ls : Array Slot) (cst : List Value) (clv : ZL), f v = true → sv fm scr ρ ad v cv → lv_has ls nL clv → i < nL → (∀ ls' : Array Slot, lv_has ls' nL ((i, cv) :: clv.filter (zkeep i)) → W p l e R s m args below meth c H locs (nc0 + w.2.2.2.1) (ns0 + w.2.2.2.2) Q (F0 m (pc + n) ls' cst)) → W p l e R s m args below meth c H locs (nc0 + w.2.2.2.1) (ns0 + w.2.2.2.2) Q (F0 m pc ls (cv :: cst))) (h : sub (sx_st f nL i n pc lv st w ret) xs) (Hk : ∀ (pc : Nat) (lv : SL) (st : List SV) (w : SW), sub (ret pc lv st w) xs → sW p l e R s m args below meth c Q dC dI cA A nL fm rg X fI wr scr n0 ρ0 M0 ad0 nc0 ns0 pc lv st w) : sW p l e R s m args below meth c Q dC dI cA A nL fm rg X fI wr scr n0 ρ0 M0 ad0 nc0 ns0 pc lv st w := by
  obtain ⟨v, st', rfl, h2, h3, h4⟩ := sx_st_ok h
  intro ρ M ad ws H locs ls clv cst ⟨⟨ag, hn, hK⟩, ⟨r1, hI, hmo, hfr⟩, r2, r3, r4, r5, r6, r7⟩
  obtain ⟨cv, cr, rfl, h5, h6⟩ := svs_cons r7
  exact hrow v ρ ad cv H locs ls cr clv h2 h5 r5 h3 (fun ls' hl' => Hk _ _ _ _ h4 ρ M ad ws H locs ls' _ _ ⟨⟨ag, hn, hK⟩, ⟨r1, hI, hmo, hfr⟩, r2, r3, r4, hl', ⟨rfl, h5, sls_filter i r6⟩, h6⟩)
end SST
end
section
/-! numbers and branches -/
theorem si32 (x : Int32) : -2147483648 ≤ x.toInt ∧ x.toInt ≤ 2147483647 := by
  have h1 := Int32.le_toInt x
  have h2 := Int32.toInt_lt x
  omega
theorem si64 (x : Int64) : -9223372036854775808 ≤ x.toInt ∧ x.toInt ≤ 9223372036854775807 := by
  have h1 := Int64.le_toInt x
  have h2 := Int64.toInt_lt x
  omega
theorem sbm32 {x : Int} (h1 : -2147483648 ≤ x) (h2 : x ≤ 2147483647) : x.bmod (2 ^ 32) = x := by
  rw [Int.bmod_def]
  split <;> omega
theorem sbm64 {x : Int} (h1 : -9223372036854775808 ≤ x) (h2 : x ≤ 9223372036854775807) : x.bmod (2 ^ 64) = x := by
  rw [Int.bmod_def]
  split <;> omega
theorem siadd {x y : Int32} {z : Int} (h : -2147483648 ≤ z ∧ z ≤ 2147483647) (e : x.toInt + y.toInt = z) : (x + y).toInt = z := by
  rw [Int32.toInt_add, e, sbm32 h.1 h.2]
theorem sisub {x y : Int32} {z : Int} (h : -2147483648 ≤ z ∧ z ≤ 2147483647) (e : x.toInt - y.toInt = z) : (x - y).toInt = z := by
  rw [Int32.toInt_sub, e, sbm32 h.1 h.2]
theorem simul {x y : Int32} {z : Int} (h : -2147483648 ≤ z ∧ z ≤ 2147483647) (e : x.toInt * y.toInt = z) : (x * y).toInt = z := by
  rw [Int32.toInt_mul, e, sbm32 h.1 h.2]
theorem sladd {x y : Int64} {z : Int} (h : -9223372036854775808 ≤ z ∧ z ≤ 9223372036854775807) (e : x.toInt + y.toInt = z) : (x + y).toInt = z := by
  rw [Int64.toInt_add, e, sbm64 h.1 h.2]
theorem slsub {x y : Int64} {z : Int} (h : -9223372036854775808 ≤ z ∧ z ≤ 9223372036854775807) (e : x.toInt - y.toInt = z) : (x - y).toInt = z := by
  rw [Int64.toInt_sub, e, sbm64 h.1 h.2]
theorem slmul {x y : Int64} {z : Int} (h : -9223372036854775808 ≤ z ∧ z ≤ 9223372036854775807) (e : x.toInt * y.toInt = z) : (x * y).toInt = z := by
  rw [Int64.toInt_mul, e, sbm64 h.1 h.2]
theorem siand {x y : Int32} {k : Nat} (h : y.toInt = (k : Int)) : 0 ≤ (x &&& y).toInt ∧ (x &&& y).toInt ≤ (k : Int) := by
  have hy : y.toBitVec.toInt = (k : Int) := h
  have h2 := y.toBitVec.toInt_eq_toNat_cond
  have hk : k < 2147483648 := by
    have := (si32 y).2
    omega
  have h3 : y.toBitVec.toNat = k := by
    rw [hy] at h2
    split at h2
    · omega
    · have := y.toBitVec.isLt
      omega
  have h4 : (x &&& y).toBitVec.toNat ≤ k := by
    rw [Int32.toBitVec_and, BitVec.toNat_and, h3]
    exact Nat.and_le_right
  have h5 : (x &&& y).toInt = ((x &&& y).toBitVec.toNat : Int) := by
    show (x &&& y).toBitVec.toInt = _
    rw [BitVec.toInt_eq_toNat_cond]
    split
    · rfl
    · omega
  omega
/-! branches: what is not possible has no way on -/
def sfK {α : Type} (K : SK) (k : SK → α) : α := match K with
  | (B, r) => (match B with
    | [] => k ([], r)
    | q :: B => sfi q.2.1 (fun a => sfi q.2.2 (fun b => k ((q.1, a, b) :: B, r))))
theorem sfK_eq {α : Type} (K : SK) (k : SK → α) : sfK K k = k K := by
  obtain ⟨B, r⟩ := K
  cases B with
  | nil => rfl
  | cons q B => simp [sfK, sfi_eq]
def sge (K : SK) (e : SE) (k : SK → SX) : SX := cond (sbad K e) (some []) (sfe e (fun e => sfK (sput K e) k))
theorem sge_ok {ρ : Nat → Int} {K : SK} {e : SE} {k : SK → SX} {xs : List SS} (hK : sK ρ K) (h : sub (sge K e k) xs) (he : 0 ≤ sev ρ e) : ∃ K', sK ρ K' ∧ sub (k K') xs := by
  unfold sge at h
  cases hb : sbad K e with
  | true => exact (sbad_ok hK hb he).elim
  | false =>
    rw [hb, cond_false, sfe_eq, sfK_eq] at h
    exact ⟨_, sput_ok hK he, h⟩
def seq0 (K : SK) (e : SE) (k : SK → SX) : SX := sge K e (fun K => sge K (sneg e) k)
theorem seq0_ok {ρ : Nat → Int} {K : SK} {e : SE} {k : SK → SX} {xs : List SS} (hK : sK ρ K) (h : sub (seq0 K e k) xs) (he : sev ρ e = 0) : ∃ K', sK ρ K' ∧ sub (k K') xs := by
  obtain ⟨K1, h1, h2⟩ := sge_ok hK h (by omega)
  exact sge_ok h1 h2 (by rw [sneg_ev]; omega)
def sne0 (K : SK) (e : SE) (k : SK → SX) : SX := cond (sent K e && sent K (sneg e)) (some []) (sfK (sne K e) k)
theorem sne0_ok {ρ : Nat → Int} {K : SK} {e : SE} {k : SK → SX} {xs : List SS} (hK : sK ρ K) (h : sub (sne0 K e k) xs) (he : sev ρ e ≠ 0) : ∃ K', sK ρ K' ∧ sub (k K') xs := by
  unfold sne0 at h
  cases hb : (sent K e && sent K (sneg e)) with
  | true =>
    rw [Bool.and_eq_true] at hb
    have h1 := sent_ok hK hb.1
    have h2 := sent_ok hK hb.2
    rw [sneg_ev] at h2
    omega
  | false =>
    rw [hb, cond_false, sfK_eq] at h
    exact ⟨_, sne_ok hK he, h⟩
/-- by the kind of the test -/
def scn (op : ClassFile.Cond) (K : SK) (e : SE) (k : SK → SX) : SX := match op with
  | .eq => seq0 K e k
  | .ne => sne0 K e k
  | .lt => sge K (saddc (sneg e) (-1)) k
  | .ge => sge K e k
  | .gt => sge K (saddc e (-1)) k
  | .le => sge K (sneg e) k
def scnN (op : ClassFile.Cond) (K : SK) (e : SE) (k : SK → SX) : SX := match op with
  | .eq => sne0 K e k
  | .ne => seq0 K e k
  | .lt => sge K e k
  | .ge => sge K (saddc (sneg e) (-1)) k
  | .gt => sge K (sneg e) k
  | .le => sge K (saddc e (-1)) k
def sCmp (op : ClassFile.Cond) (x : Int) : Prop := match op with
  | .eq => x = 0
  | .ne => x ≠ 0
  | .lt => x < 0
  | .ge => 0 ≤ x
  | .gt => 0 < x
  | .le => x ≤ 0
theorem scn_ok {op : ClassFile.Cond} {ρ : Nat → Int} {K : SK} {e : SE} {k : SK → SX} {xs : List SS} (hK : sK ρ K) (h : sub (scn op K e k) xs) (he : sCmp op (sev ρ e)) : ∃ K', sK ρ K' ∧ sub (k K') xs := by
  cases op with
  | eq => exact seq0_ok hK h he
  | ne => exact sne0_ok hK h he
  | lt => exact sge_ok hK h (by have he : sev ρ e < 0 := he; rw [saddc_ev, sneg_ev]; omega)
  | ge => exact sge_ok hK h he
  | gt => exact sge_ok hK h (by have he : 0 < sev ρ e := he; rw [saddc_ev]; omega)
  | le => exact sge_ok hK h (by have he : sev ρ e ≤ 0 := he; rw [sneg_ev]; omega)
theorem scnN_ok {op : ClassFile.Cond} {ρ : Nat → Int} {K : SK} {e : SE} {k : SK → SX} {xs : List SS} (hK : sK ρ K) (h : sub (scnN op K e k) xs) (he : ¬ sCmp op (sev ρ e)) : ∃ K', sK ρ K' ∧ sub (k K') xs := by
  cases op with
  | eq => exact sne0_ok hK h he
  | ne => exact seq0_ok hK h (by have he : ¬ sev ρ e ≠ 0 := he; omega)
  | lt => exact sge_ok hK h (by have he : ¬ sev ρ e < 0 := he; omega)
  | ge => exact sge_ok hK h (by have he : ¬ 0 ≤ sev ρ e := he; rw [saddc_ev, sneg_ev]; omega)
  | gt => exact sge_ok hK h (by have he : ¬ 0 < sev ρ e := he; rw [sneg_ev]; omega)
  | le => exact sge_ok hK h (by have he : ¬ sev ρ e ≤ 0 := he; rw [saddc_ev]; omega)
end
section
/-! one instruction each: numbers, branches, the stack -/
theorem sbm32h {x : Int} (h1 : 2147483648 ≤ x) (h2 : x ≤ 4294967295) : x.bmod (2 ^ 32) = x - 4294967296 := by
  rw [Int.bmod_def]
  split <;> omega
def slin (lv : SL) (st : List SV) (w : SW) (lo hi : Int) (e : SE) (k : SE → SW → SX) : SX := cond (sin w.2.2.1 e lo hi) (sfe e (fun e => k e w)) (snew lv st w lo hi k)
/-- the sum of two ints: what passes the greatest int is told apart, if it can pass it by little -/
def saddI (lv : SL) (st : List SV) (w : SW) (e : SE) (k : SE → SW → SX) : SX := cond (sin w.2.2.1 e (-2147483648) 2147483647) (sfe e (fun e => k e w)) (cond (sin w.2.2.1 e (-2147483648) 2147484671) (sapp (sge w.2.2.1 (ssub (sc 2147483647) e) (fun K => sfe e (fun e => k e (swK w K)))) (sge w.2.2.1 (saddc e (-2147483648)) (fun K => sfe (saddc e (-4294967296)) (fun e => k e (swK w K))))) (snew lv st w (-2147483648) 2147483647 k))
def sisc (e : SE) : Bool := match e.2 with
  | [] => true
  | _ => false
theorem sisc_ok {e : SE} (h : sisc e = true) (ρ : Nat → Int) : sev ρ e = e.1 := by
  obtain ⟨x, l⟩ := e
  cases l with
  | nil => simp [sev, svl]
  | cons q l => cases h
def smulE (x y : SE) : Option SE := cond (sisc y) (some (smul y.1 x)) (cond (sisc x) (some (smul x.1 y)) none)
theorem smulE_ok {x y e : SE} (h : smulE x y = some e) (ρ : Nat → Int) : sev ρ x * sev ρ y = sev ρ e := by
  unfold smulE at h
  cases hy : sisc y with
  | true =>
    rw [hy, cond_true] at h
    cases h
    rw [smul_ev, sisc_ok hy, Int.mul_comm]
  | false =>
    rw [hy, cond_false] at h
    cases hx : sisc x with
    | true =>
      rw [hx, cond_true] at h
      cases h
      rw [smul_ev, sisc_ok hx]
    | false => rw [hx] at h; cases h
section SOP
variable {p : Program} {l : Launch} {e : Env} {R : Room} {s : State} {m : MethodId} {args : Array Value} {below : List Frame} {meth : Method} {c : Code} {Q : State → Prop} {dC : Nat → ClassId} {dI : Nat → Nat → Nat} {cA : Nat → ClassId} {A : Nat → Prop} {nL : Nat} {fm : List SF} {rg : SRg} {X : SMem → Prop} {fI : Nat → List Int → SMem → Prop} {wr : SWr} {scr n0 : Nat} {ρ0 : Nat → Int} {M0 : SMem} {ad0 : SAd} {nc0 ns0 : Nat} {cc : ByteArray} {pc : Nat} {lv : SL} {st : List SV} {w : SW} {ret : SRt} {xs : List SS} {own : String}
theorem srel_K {ρ : Nat → Int} {M : SMem} {ad : SAd} {ws : va_W} {H : Heap} {locs : List Loc} {ls : Array Slot} {clv : ZL} {cst : List Value} {K : SK} (hr : sRel fm rg X fI wr scr n0 ρ0 M0 ad0 dC dI cA A s.heap nL lv st w ρ M ad ws H locs ls clv cst) (h : sK ρ K) : sRel fm rg X fI wr scr n0 ρ0 M0 ad0 dC dI cA A s.heap nL lv st (swK w K) ρ M ad ws H locs ls clv cst := ⟨⟨hr.1.1, hr.1.2.1, h⟩, hr.2⟩
theorem srel_sK {ρ : Nat → Int} {M : SMem} {ad : SAd} {ws : va_W} {H : Heap} {locs : List Loc} {ls : Array Slot} {clv : ZL} {cst : List Value} (hr : sRel fm rg X fI wr scr n0 ρ0 M0 ad0 dC dI cA A s.heap nL lv st w ρ M ad ws H locs ls clv cst) : sK ρ w.2.2.1 := hr.1.2.2
theorem snew_k {ρ : Nat → Int} {M : SMem} {ad : SAd} {ws : va_W} {H : Heap} {locs : List Loc} {ls : Array Slot} {clv : ZL} {cst : List Value} {lo hi z : Int} {k : SE → SW → SX} (hr : sRel fm rg X fI wr scr n0 ρ0 M0 ad0 dC dI cA A s.heap nL lv st w ρ M ad ws H locs ls clv cst) (h1 : lo ≤ z) (h2 : z ≤ hi) (h : sub (snew lv st w lo hi k) xs) : ∃ (ρ' : Nat → Int) (e' : SE) (w' : SW), z = sev ρ' e' ∧ sRel fm rg X fI wr scr n0 ρ0 M0 ad0 dC dI cA A s.heap nL lv st w' ρ' M ad ws H locs ls clv cst ∧ sub (k e' w') xs ∧ w'.2.2.2 = w.2.2.2 := by
  obtain ⟨ρ', -, -, h3, h4, h5⟩ := snew_ok hr h1 h2 h
  exact ⟨ρ', _, _, h3.symm, h4, h5, rfl⟩
theorem slin_ok {ρ : Nat → Int} {M : SMem} {ad : SAd} {ws : va_W} {H : Heap} {locs : List Loc} {ls : Array Slot} {clv : ZL} {cst : List Value} {lo hi z : Int} {e : SE} {k : SE → SW → SX} (hr : sRel fm rg X fI wr scr n0 ρ0 M0 ad0 dC dI cA A s.heap nL lv st w ρ M ad ws H locs ls clv cst) (h1 : lo ≤ z) (h2 : z ≤ hi) (hz : lo ≤ sev ρ e ∧ sev ρ e ≤ hi → z = sev ρ e) (h : sub (slin lv st w lo hi e k) xs) : ∃ (ρ' : Nat → Int) (e' : SE) (w' : SW), z = sev ρ' e' ∧ sRel fm rg X fI wr scr n0 ρ0 M0 ad0 dC dI cA A s.heap nL lv st w' ρ' M ad ws H locs ls clv cst ∧ sub (k e' w') xs ∧ w'.2.2.2 = w.2.2.2 := by
  unfold slin at h
  cases hs : sin w.2.2.1 e lo hi with
  | true =>
    rw [hs, cond_true, sfe_eq] at h
    exact ⟨ρ, e, w, hz (sin_ok (srel_sK hr) hs), hr, h, rfl⟩
  | false =>
    rw [hs, cond_false] at h
    exact snew_k hr h1 h2 h
theorem saddI_ok {ρ : Nat → Int} {M : SMem} {ad : SAd} {ws : va_W} {H : Heap} {locs : List Loc} {ls : Array Slot} {clv : ZL} {cst : List Value} {z : Int} {a b : Int32} {e : SE} {k : SE → SW → SX} (hr : sRel fm rg X fI wr scr n0 ρ0 M0 ad0 dC dI cA A s.heap nL lv st w ρ M ad ws H locs ls clv cst) (hz : z = (a + b).toInt) (he : a.toInt + b.toInt = sev ρ e) (h : sub (saddI lv st w e k) xs) : ∃ (ρ' : Nat → Int) (e' : SE) (w' : SW), z = sev ρ' e' ∧ sRel fm rg X fI wr scr n0 ρ0 M0 ad0 dC dI cA A s.heap nL lv st w' ρ' M ad ws H locs ls clv cst ∧ sub (k e' w') xs ∧ w'.2.2.2 = w.2.2.2 := by
  unfold saddI at h
  have h0 := si32 (a + b)
  rw [← hz] at h0
  cases hs : sin w.2.2.1 e (-2147483648) 2147483647 with
  | true =>
    rw [hs, cond_true, sfe_eq] at h
    have := sin_ok (srel_sK hr) hs
    exact ⟨ρ, e, w, by rw [hz, siadd this he], hr, h, rfl⟩
  | false =>
    rw [hs, cond_false] at h
    cases hs2 : sin w.2.2.1 e (-2147483648) 2147484671 with
    | true =>
      rw [hs2, cond_true] at h
      have hb := sin_ok (srel_sK hr) hs2
      obtain ⟨h3, h4⟩ := sub_app h
      by_cases hc : sev ρ e ≤ 2147483647
      · obtain ⟨K, k1, k2⟩ := sge_ok (srel_sK hr) h3 (by rw [ssub_ev, sev_c]; omega)
        rw [sfe_eq] at k2
        exact ⟨ρ, e, _, by rw [hz, siadd ⟨hb.1, hc⟩ he], srel_K hr k1, k2, rfl⟩
      · obtain ⟨K, k1, k2⟩ := sge_ok (srel_sK hr) h4 (by rw [saddc_ev]; omega)
        rw [sfe_eq] at k2
        refine ⟨ρ, _, _, ?_, srel_K hr k1, k2, rfl⟩
        rw [saddc_ev, hz, Int32.toInt_add, he, sbm32h (by omega) (by omega)]
        omega
    | false =>
      rw [hs2, cond_false] at h
      exact snew_k hr h0.1 h0.2 h
/-- two values to one -/
def sx_bin (ta tb tc : Nat) (op : SL → List SV → SW → SE → SE → (SE → SW → SX) → SX) (pc : Nat) (lv : SL) (st : List SV) (w : SW) (ret : SRt) : SX := match st with
  | y :: x :: st' => cond (Nat.beq x.1 ta && Nat.beq y.1 tb) (op lv st' w x.2.2 y.2.2 (fun e w => ret (pc + 1) lv ((tc, 0, e) :: st') w)) none
  | _ => none
def sfit (t : Nat) (v : Value) (z : Int) : Prop := (t = 0 ∧ ∃ x : Int32, v = .int x ∧ x.toInt = z) ∨ (t = 1 ∧ ∃ x : Int64, v = .long x ∧ x.toInt = z)
theorem sfit_sv {ρ : Nat → Int} {ad : SAd} {t : Nat} {v : Value} {e : SE} (h : sfit t v (sev ρ e)) : sv fm scr ρ ad (t, 0, e) v := by
  rcases h with ⟨rfl, x, rfl, h⟩ | ⟨rfl, x, rfl, h⟩
  · exact Or.inl ⟨rfl, x, rfl, h⟩
  · exact Or.inr (Or.inl ⟨rfl, x, rfl, h⟩)
theorem sv_fit {ρ : Nat → Int} {ad : SAd} {t : Nat} {v : SV} {cv : Value} (ht : Nat.beq v.1 t = true) (h2 : t < 2) (h : sv fm scr ρ ad v cv) : sfit t cv (sev ρ v.2.2) := by
  have ht := Nat.beq_eq.mp ht
  rcases h with ⟨h, x⟩ | ⟨h, x⟩ | ⟨h, -⟩ | ⟨h, -⟩
  · exact Or.inl ⟨by omega, x⟩
  · exact Or.inr ⟨by omega, x⟩
  · omega
  · omega
theorem ss_bin {ta tb tc : Nat} {op : SL → List SV → SW → SE → SE → (SE → SW → SX) → SX} (ha : ta < 2) (hb2 : tb < 2)
    (hop : ∀ (st : List SV) (x y : SE) (ρ : Nat → Int) (M : SMem) (ad : SAd) (ws : va_W) (H : Heap) (locs : List Loc) (ls : Array Slot) (clv : ZL) (cst : List Value) (a b : Value) (k : SE → SW → SX), sRel fm rg X fI wr scr n0 ρ0 M0 ad0 dC dI cA A s.heap nL lv st w ρ M ad ws H locs ls clv cst → sfit ta a (sev ρ x) → sfit tb b (sev ρ y) → sub (op lv st w x y k) xs → ∃ (cv : Value) (z : Int), sfit tc cv z ∧ (∃ (ρ' : Nat → Int) (e' : SE) (w' : SW), z = sev ρ' e' ∧ sRel fm rg X fI wr scr n0 ρ0 M0 ad0 dC dI cA A s.heap nL lv st w' ρ' M ad ws H locs ls clv cst ∧ sub (k e' w') xs ∧ w'.2.2.2 = w.2.2.2) ∧ (W p l e R s m args below meth c H locs (nc0 + w.2.2.2.1) (ns0 + w.2.2.2.2) Q (F0 m (pc + 1) ls (cv :: cst)) → W p l e R s m args below meth c H locs (nc0 + w.2.2.2.1) (ns0 + w.2.2.2.2) Q (F0 m pc ls (b :: a :: cst))))
    (h : sub (sx_bin ta tb tc op pc lv st w ret) xs) (Hk : ∀ (pc : Nat) (lv : SL) (st : List SV) (w : SW), sub (ret pc lv st w) xs → sW p l e R s m args below meth c Q dC dI cA A nL fm rg X fI wr scr n0 ρ0 M0 ad0 nc0 ns0 pc lv st w) : sW p l e R s m args below meth c Q dC dI cA A nL fm rg X fI wr scr n0 ρ0 M0 ad0 nc0 ns0 pc lv st w := by
  match st, h with
  | [], h => exact (sub_none h).elim
  | [_], h => exact (sub_none h).elim
  | y :: x :: st', h =>
    obtain ⟨h0, h⟩ := sub_cond h
    rw [Bool.and_eq_true] at h0
    intro ρ M ad ws H locs ls clv cst ⟨⟨ag, hn, hK⟩, ⟨r1, hI, hmo, hfr⟩, r2, r3, r4, r5, r6, r7⟩
    obtain ⟨cy, cr, rfl, h5, h6⟩ := svs_cons r7
    obtain ⟨cx, cr, rfl, h7, h8⟩ := svs_cons h6
    obtain ⟨cv, z, h9, ⟨ρ', e', w', h10, h11, h12, h13⟩, h14⟩ := hop st' x.2.2 y.2.2 ρ M ad ws H locs ls clv cr cx cy _ ⟨⟨ag, hn, hK⟩, ⟨r1, hI, hmo, hfr⟩, r2, r3, r4, r5, r6, h8⟩ (sv_fit h0.1 ha h7) (sv_fit h0.2 hb2 h5) h
    apply h14
    have := Hk _ _ _ _ h12 ρ' M ad ws H locs ls clv (cv :: cr) ⟨h11.1, h11.2.1, h11.2.2.1, h11.2.2.2.1, h11.2.2.2.2.1, h11.2.2.2.2.2.1, h11.2.2.2.2.2.2.1, sfit_sv (by rw [h10] at h9; exact h9), h11.2.2.2.2.2.2.2⟩
    rw [h13] at this
    exact this
theorem sfit0 {v : Value} {z : Int} (h : sfit 0 v z) : ∃ x : Int32, v = .int x ∧ x.toInt = z := by
  rcases h with ⟨-, h⟩ | ⟨h, -⟩
  · exact h
  · cases h
theorem sfit1 {v : Value} {z : Int} (h : sfit 1 v z) : ∃ x : Int64, v = .long x ∧ x.toInt = z := by
  rcases h with ⟨h, -⟩ | ⟨-, h⟩
  · cases h
  · exact h
theorem sfitI (x : Int32) : sfit 0 (.int x) x.toInt := Or.inl ⟨rfl, x, rfl, rfl⟩
theorem sfitL (x : Int64) : sfit 1 (.long x) x.toInt := Or.inr ⟨rfl, x, rfl, rfl⟩
def o_new (lo hi : Int) (lv : SL) (st : List SV) (w : SW) (_ _ : SE) (k : SE → SW → SX) : SX := snew lv st w lo hi k
def o_iadd (lv : SL) (st : List SV) (w : SW) (x y : SE) (k : SE → SW → SX) : SX := saddI lv st w (sadd x y) k
def o_sub (lo hi : Int) (lv : SL) (st : List SV) (w : SW) (x y : SE) (k : SE → SW → SX) : SX := slin lv st w lo hi (ssub x y) k
def o_add (lo hi : Int) (lv : SL) (st : List SV) (w : SW) (x y : SE) (k : SE → SW → SX) : SX := slin lv st w lo hi (sadd x y) k
def o_mul (lo hi : Int) (lv : SL) (st : List SV) (w : SW) (x y : SE) (k : SE → SW → SX) : SX := match smulE x y with
  | some e => slin lv st w lo hi e k
  | none => snew lv st w lo hi k
def o_and (lv : SL) (st : List SV) (w : SW) (_ y : SE) (k : SE → SW → SX) : SX := cond (sisc y && decide (0 ≤ y.1)) (snew lv st w 0 y.1 k) (snew lv st w (-2147483648) 2147483647 k)
def o_div (lv : SL) (st : List SV) (w : SW) (_ y : SE) (k : SE → SW → SX) : SX := cond (sisc y && decide (y.1 ≠ 0)) (snew lv st w (-2147483648) 2147483647 k) none
theorem ss_newI {f : Int32 → Int32 → Int32} (hrow : ∀ (a b : Int32) (H : Heap) (locs : List Loc) (ls : Array Slot) (cst : List Value), W p l e R s m args below meth c H locs (nc0 + w.2.2.2.1) (ns0 + w.2.2.2.2) Q (F0 m (pc + 1) ls (.int (f a b) :: cst)) → W p l e R s m args below meth c H locs (nc0 + w.2.2.2.1) (ns0 + w.2.2.2.2) Q (F0 m pc ls (.int b :: .int a :: cst))) (h : sub (sx_bin 0 0 0 (o_new (-2147483648) 2147483647) pc lv st w ret) xs) (Hk : ∀ (pc : Nat) (lv : SL) (st : List SV) (w : SW), sub (ret pc lv st w) xs → sW p l e R s m args below meth c Q dC dI cA A nL fm rg X fI wr scr n0 ρ0 M0 ad0 nc0 ns0 pc lv st w) : sW p l e R s m args below meth c Q dC dI cA A nL fm rg X fI wr scr n0 ρ0 M0 ad0 nc0 ns0 pc lv st w := by
  refine ss_bin (by decide) (by decide) ?_ h Hk
  intro st x y ρ M ad ws H locs ls clv cst a b k hr ha hb2 h
  obtain ⟨a, rfl, -⟩ := sfit0 ha
  obtain ⟨b, rfl, -⟩ := sfit0 hb2
  exact ⟨_, _, sfitI (f a b), snew_k hr (si32 _).1 (si32 _).2 h, hrow a b H locs ls cst⟩
theorem ss_newL {f : Int64 → Int64 → Int64} (hrow : ∀ (a b : Int64) (H : Heap) (locs : List Loc) (ls : Array Slot) (cst : List Value), W p l e R s m args below meth c H locs (nc0 + w.2.2.2.1) (ns0 + w.2.2.2.2) Q (F0 m (pc + 1) ls (.long (f a b) :: cst)) → W p l e R s m args below meth c H locs (nc0 + w.2.2.2.1) (ns0 + w.2.2.2.2) Q (F0 m pc ls (.long b :: .long a :: cst))) (h : sub (sx_bin 1 1 1 (o_new (-9223372036854775808) 9223372036854775807) pc lv st w ret) xs) (Hk : ∀ (pc : Nat) (lv : SL) (st : List SV) (w : SW), sub (ret pc lv st w) xs → sW p l e R s m args below meth c Q dC dI cA A nL fm rg X fI wr scr n0 ρ0 M0 ad0 nc0 ns0 pc lv st w) : sW p l e R s m args below meth c Q dC dI cA A nL fm rg X fI wr scr n0 ρ0 M0 ad0 nc0 ns0 pc lv st w := by
  refine ss_bin (by decide) (by decide) ?_ h Hk
  intro st x y ρ M ad ws H locs ls clv cst a b k hr ha hb2 h
  obtain ⟨a, rfl, -⟩ := sfit1 ha
  obtain ⟨b, rfl, -⟩ := sfit1 hb2
  exact ⟨_, _, sfitL (f a b), snew_k hr (si64 _).1 (si64 _).2 h, hrow a b H locs ls cst⟩
theorem ss_newS {f : Int64 → Int32 → Int64} (hrow : ∀ (a : Int64) (b : Int32) (H : Heap) (locs : List Loc) (ls : Array Slot) (cst : List Value), W p l e R s m args below meth c H locs (nc0 + w.2.2.2.1) (ns0 + w.2.2.2.2) Q (F0 m (pc + 1) ls (.long (f a b) :: cst)) → W p l e R s m args below meth c H locs (nc0 + w.2.2.2.1) (ns0 + w.2.2.2.2) Q (F0 m pc ls (.int b :: .long a :: cst))) (h : sub (sx_bin 1 0 1 (o_new (-9223372036854775808) 9223372036854775807) pc lv st w ret) xs) (Hk : ∀ (pc : Nat) (lv : SL) (st : List SV) (w : SW), sub (ret pc lv st w) xs → sW p l e R s m args below meth c Q dC dI cA A nL fm rg X fI wr scr n0 ρ0 M0 ad0 nc0 ns0 pc lv st w) : sW p l e R s m args below meth c Q dC dI cA A nL fm rg X fI wr scr n0 ρ0 M0 ad0 nc0 ns0 pc lv st w := by
  refine ss_bin (by decide) (by decide) ?_ h Hk
  intro st x y ρ M ad ws H locs ls clv cst a b k hr ha hb2 h
  obtain ⟨a, rfl, -⟩ := sfit1 ha
  obtain ⟨b, rfl, -⟩ := sfit0 hb2
  exact ⟨_, _, sfitL (f a b), snew_k hr (si64 _).1 (si64 _).2 h, hrow a b H locs ls cst⟩
theorem ss_iadd (hx : p.tables.exec = Jvm.exec) (hb : c.code = cc) (hdg : decode cc pc = .ok (.iadd, 1)) (h : sub (sx_bin 0 0 0 o_iadd pc lv st w ret) xs) (Hk : ∀ (pc : Nat) (lv : SL) (st : List SV) (w : SW), sub (ret pc lv st w) xs → sW p l e R s m args below meth c Q dC dI cA A nL fm rg X fI wr scr n0 ρ0 M0 ad0 nc0 ns0 pc lv st w) : sW p l e R s m args below meth c Q dC dI cA A nL fm rg X fI wr scr n0 ρ0 M0 ad0 nc0 ns0 pc lv st w := by
  refine ss_bin (by decide) (by decide) ?_ h Hk
  intro st x y ρ M ad ws H locs ls clv cst a b k hr ha hb2 h
  obtain ⟨a, rfl, e1⟩ := sfit0 ha
  obtain ⟨b, rfl, e2⟩ := sfit0 hb2
  exact ⟨_, _, sfitI (a + b), saddI_ok hr rfl (by rw [sadd_ev, e1, e2]) h, lv_iadd hx hb hdg⟩
theorem ss_isub (hx : p.tables.exec = Jvm.exec) (hb : c.code = cc) (hdg : decode cc pc = .ok (.isub, 1)) (h : sub (sx_bin 0 0 0 (o_sub (-2147483648) 2147483647) pc lv st w ret) xs) (Hk : ∀ (pc : Nat) (lv : SL) (st : List SV) (w : SW), sub (ret pc lv st w) xs → sW p l e R s m args below meth c Q dC dI cA A nL fm rg X fI wr scr n0 ρ0 M0 ad0 nc0 ns0 pc lv st w) : sW p l e R s m args below meth c Q dC dI cA A nL fm rg X fI wr scr n0 ρ0 M0 ad0 nc0 ns0 pc lv st w := by
  refine ss_bin (by decide) (by decide) ?_ h Hk
  intro st x y ρ M ad ws H locs ls clv cst a b k hr ha hb2 h
  obtain ⟨a, rfl, e1⟩ := sfit0 ha
  obtain ⟨b, rfl, e2⟩ := sfit0 hb2
  exact ⟨_, _, sfitI (a - b), slin_ok hr (si32 _).1 (si32 _).2 (fun q => sisub q (by rw [ssub_ev, e1, e2])) h, lv_isub hx hb hdg⟩
theorem ss_imul (hx : p.tables.exec = Jvm.exec) (hb : c.code = cc) (hdg : decode cc pc = .ok (.imul, 1)) (h : sub (sx_bin 0 0 0 (o_mul (-2147483648) 2147483647) pc lv st w ret) xs) (Hk : ∀ (pc : Nat) (lv : SL) (st : List SV) (w : SW), sub (ret pc lv st w) xs → sW p l e R s m args below meth c Q dC dI cA A nL fm rg X fI wr scr n0 ρ0 M0 ad0 nc0 ns0 pc lv st w) : sW p l e R s m args below meth c Q dC dI cA A nL fm rg X fI wr scr n0 ρ0 M0 ad0 nc0 ns0 pc lv st w := by
  refine ss_bin (by decide) (by decide) ?_ h Hk
  intro st x y ρ M ad ws H locs ls clv cst a b k hr ha hb2 h
  obtain ⟨a, rfl, e1⟩ := sfit0 ha
  obtain ⟨b, rfl, e2⟩ := sfit0 hb2
  refine ⟨_, _, sfitI (a * b), ?_, lv_imul hx hb hdg⟩
  unfold o_mul at h
  cases hm : smulE x y with
  | some e => rw [hm] at h; exact slin_ok hr (si32 _).1 (si32 _).2 (fun q => simul q (by rw [e1, e2]; exact smulE_ok hm ρ)) h
  | none => rw [hm] at h; exact snew_k hr (si32 _).1 (si32 _).2 h
theorem ss_ladd (hx : p.tables.exec = Jvm.exec) (hb : c.code = cc) (hdg : decode cc pc = .ok (.ladd, 1)) (h : sub (sx_bin 1 1 1 (o_add (-9223372036854775808) 9223372036854775807) pc lv st w ret) xs) (Hk : ∀ (pc : Nat) (lv : SL) (st : List SV) (w : SW), sub (ret pc lv st w) xs → sW p l e R s m args below meth c Q dC dI cA A nL fm rg X fI wr scr n0 ρ0 M0 ad0 nc0 ns0 pc lv st w) : sW p l e R s m args below meth c Q dC dI cA A nL fm rg X fI wr scr n0 ρ0 M0 ad0 nc0 ns0 pc lv st w := by
  refine ss_bin (by decide) (by decide) ?_ h Hk
  intro st x y ρ M ad ws H locs ls clv cst a b k hr ha hb2 h
  obtain ⟨a, rfl, e1⟩ := sfit1 ha
  obtain ⟨b, rfl, e2⟩ := sfit1 hb2
  exact ⟨_, _, sfitL (a + b), slin_ok hr (si64 _).1 (si64 _).2 (fun q => sladd q (by rw [sadd_ev, e1, e2])) h, lv_ladd hx hb hdg⟩
theorem ss_lsub (hx : p.tables.exec = Jvm.exec) (hb : c.code = cc) (hdg : decode cc pc = .ok (.lsub, 1)) (h : sub (sx_bin 1 1 1 (o_sub (-9223372036854775808) 9223372036854775807) pc lv st w ret) xs) (Hk : ∀ (pc : Nat) (lv : SL) (st : List SV) (w : SW), sub (ret pc lv st w) xs → sW p l e R s m args below meth c Q dC dI cA A nL fm rg X fI wr scr n0 ρ0 M0 ad0 nc0 ns0 pc lv st w) : sW p l e R s m args below meth c Q dC dI cA A nL fm rg X fI wr scr n0 ρ0 M0 ad0 nc0 ns0 pc lv st w := by
  refine ss_bin (by decide) (by decide) ?_ h Hk
  intro st x y ρ M ad ws H locs ls clv cst a b k hr ha hb2 h
  obtain ⟨a, rfl, e1⟩ := sfit1 ha
  obtain ⟨b, rfl, e2⟩ := sfit1 hb2
  exact ⟨_, _, sfitL (a - b), slin_ok hr (si64 _).1 (si64 _).2 (fun q => slsub q (by rw [ssub_ev, e1, e2])) h, lv_lsub hx hb hdg⟩
theorem ss_lmul (hx : p.tables.exec = Jvm.exec) (hb : c.code = cc) (hdg : decode cc pc = .ok (.lmul, 1)) (h : sub (sx_bin 1 1 1 (o_mul (-9223372036854775808) 9223372036854775807) pc lv st w ret) xs) (Hk : ∀ (pc : Nat) (lv : SL) (st : List SV) (w : SW), sub (ret pc lv st w) xs → sW p l e R s m args below meth c Q dC dI cA A nL fm rg X fI wr scr n0 ρ0 M0 ad0 nc0 ns0 pc lv st w) : sW p l e R s m args below meth c Q dC dI cA A nL fm rg X fI wr scr n0 ρ0 M0 ad0 nc0 ns0 pc lv st w := by
  refine ss_bin (by decide) (by decide) ?_ h Hk
  intro st x y ρ M ad ws H locs ls clv cst a b k hr ha hb2 h
  obtain ⟨a, rfl, e1⟩ := sfit1 ha
  obtain ⟨b, rfl, e2⟩ := sfit1 hb2
  refine ⟨_, _, sfitL (a * b), ?_, lv_lmul hx hb hdg⟩
  unfold o_mul at h
  cases hm : smulE x y with
  | some e => rw [hm] at h; exact slin_ok hr (si64 _).1 (si64 _).2 (fun q => slmul q (by rw [e1, e2]; exact smulE_ok hm ρ)) h
  | none => rw [hm] at h; exact snew_k hr (si64 _).1 (si64 _).2 h
theorem ss_iand (hx : p.tables.exec = Jvm.exec) (hb : c.code = cc) (hdg : decode cc pc = .ok (.iand, 1)) (h : sub (sx_bin 0 0 0 o_and pc lv st w ret) xs) (Hk : ∀ (pc : Nat) (lv : SL) (st : List SV) (w : SW), sub (ret pc lv st w) xs → sW p l e R s m args below meth c Q dC dI cA A nL fm rg X fI wr scr n0 ρ0 M0 ad0 nc0 ns0 pc lv st w) : sW p l e R s m args below meth c Q dC dI cA A nL fm rg X fI wr scr n0 ρ0 M0 ad0 nc0 ns0 pc lv st w := by
  refine ss_bin (by decide) (by decide) ?_ h Hk
  intro st x y ρ M ad ws H locs ls clv cst a b k hr ha hb2 h
  obtain ⟨a, rfl, e1⟩ := sfit0 ha
  obtain ⟨b, rfl, e2⟩ := sfit0 hb2
  refine ⟨_, _, sfitI (a &&& b), ?_, lv_iand hx hb hdg⟩
  unfold o_and at h
  cases hc : (sisc y && decide (0 ≤ y.1)) with
  | true =>
    rw [hc, cond_true] at h
    rw [Bool.and_eq_true] at hc
    have h0 : 0 ≤ y.1 := of_decide_eq_true hc.2
    have h1 := siand (x := a) (y := b) (k := y.1.toNat) (by rw [e2, sisc_ok hc.1]; omega)
    exact snew_k hr h1.1 (by omega) h
  | false => rw [hc, cond_false] at h; exact snew_k hr (si32 _).1 (si32 _).2 h
theorem ss_div {f : Int32 → Int32 → Int32} (hrow : ∀ (a b : Int32) (H : Heap) (locs : List Loc) (ls : Array Slot) (cst : List Value), ¬ b = 0 → W p l e R s m args below meth c H locs (nc0 + w.2.2.2.1) (ns0 + w.2.2.2.2) Q (F0 m (pc + 1) ls (.int (f a b) :: cst)) → W p l e R s m args below meth c H locs (nc0 + w.2.2.2.1) (ns0 + w.2.2.2.2) Q (F0 m pc ls (.int b :: .int a :: cst))) (h : sub (sx_bin 0 0 0 o_div pc lv st w ret) xs) (Hk : ∀ (pc : Nat) (lv : SL) (st : List SV) (w : SW), sub (ret pc lv st w) xs → sW p l e R s m args below meth c Q dC dI cA A nL fm rg X fI wr scr n0 ρ0 M0 ad0 nc0 ns0 pc lv st w) : sW p l e R s m args below meth c Q dC dI cA A nL fm rg X fI wr scr n0 ρ0 M0 ad0 nc0 ns0 pc lv st w := by
  refine ss_bin (by decide) (by decide) ?_ h Hk
  intro st x y ρ M ad ws H locs ls clv cst a b k hr ha hb2 h
  obtain ⟨a, rfl, e1⟩ := sfit0 ha
  obtain ⟨b, rfl, e2⟩ := sfit0 hb2
  obtain ⟨hc, h⟩ := sub_cond h
  rw [Bool.and_eq_true] at hc
  have h0 : y.1 ≠ 0 := of_decide_eq_true hc.2
  refine ⟨_, _, sfitI (f a b), snew_k hr (si32 _).1 (si32 _).2 h, hrow a b H locs ls cst ?_⟩
  intro q
  rw [q, sisc_ok hc.1] at e2
  exact h0 e2.symm
end SOP
end
section
/-! other instructions of numbers: made wider or narrower, compared, jumps, the stack, locals -/
def sAG : Nat := 13
def sg1 (K : SK) (a b : SM) : SK := cond (snn K.1 (saddc b.2.2.2 (-1))) (cond (sbeq a.2.1 b.2.1 && (sent K (ssub a.2.2.1 b.2.2.1) && !(sent K (saddc (ssub a.2.2.1 b.2.2.1) (-1))))) (sput K (saddc (ssub a.2.2.1 b.2.2.1) (-1))) K) K
def sgr (a : SM) : List SM → SK → (SK → SX) → SX
  | [], K, k => k K
  | b :: r, K, k => sfK (sg1 K a b) (fun K => sgr a r K k)
def sgl (ms : List SM) : List SM → SK → (SK → SX) → SX
  | [], K, k => k K
  | a :: r, K, k => sgr a ms K (fun K => sgl ms r K k)
/-- where a row of the sort kept has its end, of value 0, another value stands elsewhere -/
def sag (ms : List SM) (K : SK) (k : SK → SX) : SX := match ms.filter (fun q => Nat.beq q.1 sAG && sbeq q.2.2.2 (sc 0)) with
  | [] => k K
  | a :: r => sll (a :: r) (fun l => sll (ms.filter (fun q => Nat.beq q.1 sAG && !(sbeq q.2.2.2 (sc 0)))) (fun l2 => sgl l2 l K k))
section SAG
variable {fI : Nat → List Int → SMem → Prop} {ρ : Nat → Int} {M : SMem} {ms : List SM} {fs : List SFt} {xs : List SS}
theorem sg1_ok {K : SK} {a b : SM} (hf : a.1 = b.1) (hv : a.2.2.2 = sc 0) (ha : ∃ j i : Nat, (j : Int) = sev ρ a.2.1 ∧ (i : Int) = sev ρ a.2.2.1 ∧ M a.1 j i = sev ρ a.2.2.2) (hb : ∃ j i : Nat, (j : Int) = sev ρ b.2.1 ∧ (i : Int) = sev ρ b.2.2.1 ∧ M b.1 j i = sev ρ b.2.2.2) (hK : sK ρ K) : sK ρ (sg1 K a b) := by
  unfold sg1
  cases hn : snn K.1 (saddc b.2.2.2 (-1)) with
  | false => exact hK
  | true =>
    rw [cond_true]
    have hn := snn_ok hK.1 hn
    rw [saddc_ev] at hn
    cases hc : (sbeq a.2.1 b.2.1 && (sent K (ssub a.2.2.1 b.2.2.1) && !(sent K (saddc (ssub a.2.2.1 b.2.2.1) (-1))))) with
    | false => exact hK
    | true =>
      simp only [Bool.and_eq_true] at hc
      obtain ⟨h1, h3, -⟩ := hc
      have h3 := sent_ok hK h3
      rw [ssub_ev] at h3
      obtain ⟨j, i, e1, e2, e3⟩ := ha
      obtain ⟨j', i', f1, f2, f3⟩ := hb
      rw [sbeq_ok h1] at e1
      have ej : j = j' := by omega
      subst ej
      rw [hf, hv, sev_c] at e3
      refine sput_ok hK ?_
      rw [saddc_ev, ssub_ev]
      by_cases hi : i = i'
      · exfalso
        subst hi
        omega
      · omega
theorem sgr_ok {a : SM} (hf : a.1 = sAG) (hv : a.2.2.2 = sc 0) (ha : ∃ j i : Nat, (j : Int) = sev ρ a.2.1 ∧ (i : Int) = sev ρ a.2.2.1 ∧ M a.1 j i = sev ρ a.2.2.2) : ∀ {l : List SM} {K : SK} {k : SK → SX}, (∀ b ∈ l, b.1 = sAG ∧ ∃ j i : Nat, (j : Int) = sev ρ b.2.1 ∧ (i : Int) = sev ρ b.2.2.1 ∧ M b.1 j i = sev ρ b.2.2.2) → sK ρ K → sub (sgr a l K k) xs → ∃ K', sK ρ K' ∧ sub (k K') xs := by
  intro l
  induction l with
  | nil => exact fun _ hK h => ⟨_, hK, h⟩
  | cons b r ih =>
    intro K k hl hK h
    unfold sgr at h
    rw [sfK_eq] at h
    have hb := hl b List.mem_cons_self
    exact ih (fun b hb => hl b (List.mem_cons_of_mem _ hb)) (sg1_ok (hf.trans hb.1.symm) hv ha hb.2 hK) h
theorem sgl_ok {l0 : List SM} (h0 : ∀ b ∈ l0, b.1 = sAG ∧ ∃ j i : Nat, (j : Int) = sev ρ b.2.1 ∧ (i : Int) = sev ρ b.2.2.1 ∧ M b.1 j i = sev ρ b.2.2.2) : ∀ {l : List SM} {K : SK} {k : SK → SX}, (∀ b ∈ l, (b.1 = sAG ∧ b.2.2.2 = sc 0) ∧ ∃ j i : Nat, (j : Int) = sev ρ b.2.1 ∧ (i : Int) = sev ρ b.2.2.1 ∧ M b.1 j i = sev ρ b.2.2.2) → sK ρ K → sub (sgl l0 l K k) xs → ∃ K', sK ρ K' ∧ sub (k K') xs := by
  intro l
  induction l with
  | nil => exact fun _ hK h => ⟨_, hK, h⟩
  | cons a r ih =>
    intro K k hl hK h
    have ha := hl a List.mem_cons_self
    obtain ⟨K', h1, h2⟩ := sgr_ok ha.1.1 ha.1.2 ha.2 h0 hK h
    exact ih (fun b hb => hl b (List.mem_cons_of_mem _ hb)) h1 h2
theorem sag_ok {K : SK} {k : SK → SX} (hm : ∀ q ∈ ms, ∃ j i : Nat, (j : Int) = sev ρ q.2.1 ∧ (i : Int) = sev ρ q.2.2.1 ∧ M q.1 j i = sev ρ q.2.2.2) (hK : sK ρ K) (h : sub (sag ms K k) xs) : ∃ K', sK ρ K' ∧ sub (k K') xs := by
  unfold sag at h
  have h0 : ∀ b ∈ ms.filter (fun q => Nat.beq q.1 sAG && sbeq q.2.2.2 (sc 0)), (b.1 = sAG ∧ b.2.2.2 = sc 0) ∧ ∃ j i : Nat, (j : Int) = sev ρ b.2.1 ∧ (i : Int) = sev ρ b.2.2.1 ∧ M b.1 j i = sev ρ b.2.2.2 := by
    intro b hb
    rw [List.mem_filter, Bool.and_eq_true] at hb
    exact ⟨⟨Nat.beq_eq.mp hb.2.1, sbeq_ok hb.2.2⟩, hm b hb.1⟩
  have h1 : ∀ b ∈ ms.filter (fun q => Nat.beq q.1 sAG && !(sbeq q.2.2.2 (sc 0))), b.1 = sAG ∧ ∃ j i : Nat, (j : Int) = sev ρ b.2.1 ∧ (i : Int) = sev ρ b.2.2.1 ∧ M b.1 j i = sev ρ b.2.2.2 := by
    intro b hb
    rw [List.mem_filter, Bool.and_eq_true] at hb
    exact ⟨Nat.beq_eq.mp hb.2.1, hm b hb.1⟩
  generalize ms.filter (fun q => Nat.beq q.1 sAG && sbeq q.2.2.2 (sc 0)) = l at h h0
  match l, h, h0 with
  | [], h, _ => exact ⟨_, hK, h⟩
  | a :: r, h, h0 =>
    simp only [sll_eq] at h
    exact sgl_ok h1 h0 hK h
end SAG
theorem s2c (x : Int32) : 0 ≤ (x.toUInt32 % 65536).toInt32.toInt ∧ (x.toUInt32 % 65536).toInt32.toInt ≤ 65535 ∧ (0 ≤ x.toInt ∧ x.toInt ≤ 65535 → (x.toUInt32 % 65536).toInt32.toInt = x.toInt) := by
  have h1 : (x.toUInt32 % 65536).toInt32.toInt = ((x.toUInt32 % 65536).toBitVec).toInt := rfl
  have h2 : (x.toUInt32 % 65536).toBitVec.toNat = x.toBitVec.toNat % 65536 := by
    show (x.toUInt32 % 65536).toNat = _
    rw [UInt32.toNat_mod]
    rfl
  have h3 : x.toInt = x.toBitVec.toInt := rfl
  rw [h1, h3, BitVec.toInt_eq_toNat_cond, BitVec.toInt_eq_toNat_cond, h2]
  have h4 := x.toBitVec.isLt
  constructor
  · split <;> omega
  · constructor
    · split <;> omega
    · intro h5
      split at h5
      · split <;> omega
      · omega
def sjmp (pc : Nat) (off : Int) (k : Nat → SX) : SX := cond (decide (0 ≤ (pc : Int) + off)) (sn ((pc : Int) + off).toNat k) none
theorem sjmp_ok {pc : Nat} {off : Int} {k : Nat → SX} {xs : List SS} (h : sub (sjmp pc off k) xs) : ∃ tgt : Nat, (pc : Int) + off = (tgt : Int) ∧ sub (k tgt) xs := by
  obtain ⟨h1, h2⟩ := sub_cond h
  rw [sn_eq] at h2
  have h1 : 0 ≤ (pc : Int) + off := of_decide_eq_true h1
  exact ⟨_, by omega, h2⟩
theorem szro {op : ClassFile.Cond} {x y : Int} : zro op x y = true ↔ sCmp op (x - y) := by
  cases op <;> simp only [zro, sCmp, Bool.not_eq_true', decide_eq_true_eq, decide_eq_false_iff_not] <;> omega
def sx_un (ta tc : Nat) (op : SL → List SV → SW → SE → (SE → SW → SX) → SX) (pc : Nat) (lv : SL) (st : List SV) (w : SW) (ret : SRt) : SX := match st with
  | x :: st' => cond (Nat.beq x.1 ta) (op lv st' w x.2.2 (fun e w => ret (pc + 1) lv ((tc, 0, e) :: st') w)) none
  | _ => none
def o_id (_ : SL) (_ : List SV) (w : SW) (x : SE) (k : SE → SW → SX) : SX := k x w
def o_lin (lo hi : Int) (lv : SL) (st : List SV) (w : SW) (x : SE) (k : SE → SW → SX) : SX := slin lv st w lo hi x k
def sx_lcmp (pc : Nat) (lv : SL) (st : List SV) (w : SW) (ret : SRt) : SX := match st with
  | y :: x :: st' => cond (Nat.beq x.1 1 && Nat.beq y.1 1) (sfe (ssub x.2.2 y.2.2) (fun d => sapp (sge w.2.2.1 (saddc (sneg d) (-1)) (fun K => ret (pc + 1) lv ((0, 0, sc (-1)) :: st') (swK w K))) (sapp (seq0 w.2.2.1 d (fun K => ret (pc + 1) lv ((0, 0, sc 0) :: st') (swK w K))) (sge w.2.2.1 (saddc d (-1)) (fun K => ret (pc + 1) lv ((0, 0, sc 1) :: st') (swK w K)))))) none
  | _ => none
def sx_br (op : ClassFile.Cond) (off : Int) (pc : Nat) (lv : SL) (st : List SV) (w : SW) (d : SE) (ret : SRt) : SX := sfe d (fun d => sapp (sjmp pc off (fun t => scn op w.2.2.1 d (fun K => sag w.1.1 K (fun K => ret t lv st (swK w K))))) (scnN op w.2.2.1 d (fun K => sag w.1.1 K (fun K => ret (pc + 3) lv st (swK w K)))))
def sx_icmp (op : ClassFile.Cond) (off : Int) (pc : Nat) (lv : SL) (st : List SV) (w : SW) (ret : SRt) : SX := match st with
  | y :: x :: st' => cond (Nat.beq x.1 0 && Nat.beq y.1 0) (sx_br op off pc lv st' w (ssub x.2.2 y.2.2) ret) none
  | _ => none
def sx_if (op : ClassFile.Cond) (off : Int) (pc : Nat) (lv : SL) (st : List SV) (w : SW) (ret : SRt) : SX := match st with
  | x :: st' => cond (Nat.beq x.1 0) (sx_br op off pc lv st' w x.2.2 ret) none
  | _ => none
def sx_cs (K : SK) (x : SE) : List Int → Int → (Int → SK → SX) → SX
  | [], _, _ => some []
  | o :: os, v, k => sapp (seq0 K (saddc x (-v)) (k o)) (sx_cs K x os (v + 1) k)
theorem sx_cs_ok {ρ : Nat → Int} {K : SK} {x : SE} {k : Int → SK → SX} {xs : List SS} (hK : sK ρ K) {o : Int} : ∀ {os : List Int} {v : Int}, v ≤ sev ρ x → os[(sev ρ x - v).toNat]? = some o → sub (sx_cs K x os v k) xs → ∃ K', sK ρ K' ∧ sub (k o K') xs := by
  intro os
  induction os with
  | nil => intro v _ h; simp at h
  | cons a os ih =>
    intro v hv h hs
    obtain ⟨h1, h2⟩ := sub_app hs
    by_cases hc : sev ρ x = v
    · rw [hc, Int.sub_self] at h
      cases h
      exact seq0_ok hK h1 (by rw [saddc_ev]; omega)
    · refine ih (by omega) ?_ h2
      have e : (sev ρ x - v).toNat = (sev ρ x - (v + 1)).toNat + 1 := by omega
      rw [e, List.getElem?_cons_succ] at h
      exact h
def sx_tsw (dflt lo hi : Int) (offs : List Int) (pc : Nat) (lv : SL) (st : List SV) (w : SW) (ret : SRt) : SX := match st with
  | x :: st' => cond (Nat.beq x.1 0 && decide (hi < lo + offs.length)) (sapp (sjmp pc dflt (fun t => sapp (sge w.2.2.1 (ssub (sc (lo - 1)) x.2.2) (fun K => ret t lv st' (swK w K))) (sge w.2.2.1 (saddc x.2.2 (-(hi + 1))) (fun K => ret t lv st' (swK w K))))) (sx_cs w.2.2.1 x.2.2 offs lo (fun o K => sjmp pc o (fun t => ret t lv st' (swK w K))))) none
  | _ => none
def sx_dup (pc : Nat) (lv : SL) (st : List SV) (w : SW) (ret : SRt) : SX := match st with
  | v :: st' => cond (Nat.beq (scat v) 1) (ret (pc + 1) lv (v :: v :: st') w) none
  | _ => none
def sx_dup2 (pc : Nat) (lv : SL) (st : List SV) (w : SW) (ret : SRt) : SX := match st with
  | v :: u :: st' => cond (Nat.beq (scat v) 1 && Nat.beq (scat u) 1) (ret (pc + 1) lv (v :: u :: v :: u :: st') w) none
  | _ => none
def sx_pop (pc : Nat) (lv : SL) (st : List SV) (w : SW) (ret : SRt) : SX := match st with
  | v :: st' => cond (Nat.beq (scat v) 1) (ret (pc + 1) lv st' w) none
  | _ => none
def sx_iinc (nL i : Nat) (n : Int) (pc : Nat) (lv : SL) (st : List SV) (w : SW) (ret : SRt) : SX := match slk lv i with
  | some v => cond (sti v && Nat.blt i nL) (saddI lv st w (saddc v.2.2 (Int32.ofInt n).toInt) (fun e w => sll (lv.filter (skeep i)) (fun lr => ret (pc + 3) ((i, (0, 0, e)) :: lr) st w))) none
  | none => none
section SMO
variable {p : Program} {l : Launch} {e : Env} {R : Room} {s : State} {m : MethodId} {args : Array Value} {below : List Frame} {meth : Method} {c : Code} {Q : State → Prop} {dC : Nat → ClassId} {dI : Nat → Nat → Nat} {cA : Nat → ClassId} {A : Nat → Prop} {nL : Nat} {fm : List SF} {rg : SRg} {X : SMem → Prop} {fI : Nat → List Int → SMem → Prop} {wr : SWr} {scr n0 : Nat} {ρ0 : Nat → Int} {M0 : SMem} {ad0 : SAd} {nc0 ns0 : Nat} {cc : ByteArray} {pc : Nat} {lv : SL} {st : List SV} {w : SW} {ret : SRt} {xs : List SS} {own : String}
theorem ss_un {ta tc : Nat} {op : SL → List SV → SW → SE → (SE → SW → SX) → SX} (ha : ta < 2)
    (hop : ∀ (st : List SV) (x : SE) (ρ : Nat → Int) (M : SMem) (ad : SAd) (ws : va_W) (H : Heap) (locs : List Loc) (ls : Array Slot) (clv : ZL) (cst : List Value) (a : Value) (k : SE → SW → SX), sRel fm rg X fI wr scr n0 ρ0 M0 ad0 dC dI cA A s.heap nL lv st w ρ M ad ws H locs ls clv cst → sfit ta a (sev ρ x) → sub (op lv st w x k) xs → ∃ (cv : Value) (z : Int), sfit tc cv z ∧ (∃ (ρ' : Nat → Int) (e' : SE) (w' : SW), z = sev ρ' e' ∧ sRel fm rg X fI wr scr n0 ρ0 M0 ad0 dC dI cA A s.heap nL lv st w' ρ' M ad ws H locs ls clv cst ∧ sub (k e' w') xs ∧ w'.2.2.2 = w.2.2.2) ∧ (W p l e R s m args below meth c H locs (nc0 + w.2.2.2.1) (ns0 + w.2.2.2.2) Q (F0 m (pc + 1) ls (cv :: cst)) → W p l e R s m args below meth c H locs (nc0 + w.2.2.2.1) (ns0 + w.2.2.2.2) Q (F0 m pc ls (a :: cst))))
    (h : sub (sx_un ta tc op pc lv st w ret) xs) (Hk : ∀ (pc : Nat) (lv : SL) (st : List SV) (w : SW), sub (ret pc lv st w) xs → sW p l e R s m args below meth c Q dC dI cA A nL fm rg X fI wr scr n0 ρ0 M0 ad0 nc0 ns0 pc lv st w) : sW p l e R s m args below meth c Q dC dI cA A nL fm rg X fI wr scr n0 ρ0 M0 ad0 nc0 ns0 pc lv st w := by
  match st, h with
  | [], h => exact (sub_none h).elim
  | x :: st', h =>
    obtain ⟨h0, h⟩ := sub_cond h
    intro ρ M ad ws H locs ls clv cst ⟨⟨ag, hn, hK⟩, ⟨r1, hI, hmo, hfr⟩, r2, r3, r4, r5, r6, r7⟩
    obtain ⟨cx, cr, rfl, h7, h8⟩ := svs_cons r7
    obtain ⟨cv, z, h9, ⟨ρ', e', w', h10, h11, h12, h13⟩, h14⟩ := hop st' x.2.2 ρ M ad ws H locs ls clv cr cx _ ⟨⟨ag, hn, hK⟩, ⟨r1, hI, hmo, hfr⟩, r2, r3, r4, r5, r6, h8⟩ (sv_fit h0 ha h7) h
    apply h14
    have := Hk _ _ _ _ h12 ρ' M ad ws H locs ls clv (cv :: cr) ⟨h11.1, h11.2.1, h11.2.2.1, h11.2.2.2.1, h11.2.2.2.2.1, h11.2.2.2.2.2.1, h11.2.2.2.2.2.2.1, sfit_sv (by rw [h10] at h9; exact h9), h11.2.2.2.2.2.2.2⟩
    rw [h13] at this
    exact this
theorem ss_i2l (hx : p.tables.exec = Jvm.exec) (hb : c.code = cc) (hdg : decode cc pc = .ok (.i2l, 1)) (h : sub (sx_un 0 1 o_id pc lv st w ret) xs) (Hk : ∀ (pc : Nat) (lv : SL) (st : List SV) (w : SW), sub (ret pc lv st w) xs → sW p l e R s m args below meth c Q dC dI cA A nL fm rg X fI wr scr n0 ρ0 M0 ad0 nc0 ns0 pc lv st w) : sW p l e R s m args below meth c Q dC dI cA A nL fm rg X fI wr scr n0 ρ0 M0 ad0 nc0 ns0 pc lv st w := by
  refine ss_un (by decide) ?_ h Hk
  intro st x ρ M ad ws H locs ls clv cst a k hr ha h
  obtain ⟨a, rfl, e1⟩ := sfit0 ha
  exact ⟨_, _, sfitL a.toInt64, ⟨ρ, x, w, by rw [Int32.toInt_toInt64, e1], hr, h, rfl⟩, lv_i2l hx hb hdg rfl⟩
theorem ss_l2i (hx : p.tables.exec = Jvm.exec) (hb : c.code = cc) (hdg : decode cc pc = .ok (.l2i, 1)) (h : sub (sx_un 1 0 (o_lin (-2147483648) 2147483647) pc lv st w ret) xs) (Hk : ∀ (pc : Nat) (lv : SL) (st : List SV) (w : SW), sub (ret pc lv st w) xs → sW p l e R s m args below meth c Q dC dI cA A nL fm rg X fI wr scr n0 ρ0 M0 ad0 nc0 ns0 pc lv st w) : sW p l e R s m args below meth c Q dC dI cA A nL fm rg X fI wr scr n0 ρ0 M0 ad0 nc0 ns0 pc lv st w := by
  refine ss_un (by decide) ?_ h Hk
  intro st x ρ M ad ws H locs ls clv cst a k hr ha h
  obtain ⟨a, rfl, e1⟩ := sfit1 ha
  exact ⟨_, _, sfitI a.toInt32, slin_ok hr (si32 _).1 (si32 _).2 (fun q => by rw [Int64.toInt_toInt32, e1, sbm32 q.1 q.2]) h, lv_l2i hx hb hdg rfl⟩
theorem ss_i2c (hx : p.tables.exec = Jvm.exec) (hb : c.code = cc) (hdg : decode cc pc = .ok (.i2c, 1)) (h : sub (sx_un 0 0 (o_lin 0 65535) pc lv st w ret) xs) (Hk : ∀ (pc : Nat) (lv : SL) (st : List SV) (w : SW), sub (ret pc lv st w) xs → sW p l e R s m args below meth c Q dC dI cA A nL fm rg X fI wr scr n0 ρ0 M0 ad0 nc0 ns0 pc lv st w) : sW p l e R s m args below meth c Q dC dI cA A nL fm rg X fI wr scr n0 ρ0 M0 ad0 nc0 ns0 pc lv st w := by
  refine ss_un (by decide) ?_ h Hk
  intro st x ρ M ad ws H locs ls clv cst a k hr ha h
  obtain ⟨a, rfl, e1⟩ := sfit0 ha
  have h2 := s2c a
  exact ⟨_, _, sfitI (a.toUInt32 % 65536).toInt32, slin_ok hr h2.1 h2.2.1 (fun q => by rw [← e1] at q ⊢; exact h2.2.2 q) h, lv_i2c hx hb hdg rfl⟩
theorem ss_lcmp (hx : p.tables.exec = Jvm.exec) (hb : c.code = cc) (hdg : decode cc pc = .ok (.lcmp, 1)) (h : sub (sx_lcmp pc lv st w ret) xs) (Hk : ∀ (pc : Nat) (lv : SL) (st : List SV) (w : SW), sub (ret pc lv st w) xs → sW p l e R s m args below meth c Q dC dI cA A nL fm rg X fI wr scr n0 ρ0 M0 ad0 nc0 ns0 pc lv st w) : sW p l e R s m args below meth c Q dC dI cA A nL fm rg X fI wr scr n0 ρ0 M0 ad0 nc0 ns0 pc lv st w := by
  match st, h with
  | [], h => exact (sub_none h).elim
  | [_], h => exact (sub_none h).elim
  | y :: x :: st', h =>
    obtain ⟨h0, h⟩ := sub_cond h
    rw [Bool.and_eq_true] at h0
    rw [sfe_eq] at h
    intro ρ M ad ws H locs ls clv cst ⟨⟨ag, hn, hK⟩, ⟨r1, hI, hmo, hfr⟩, r2, r3, r4, r5, r6, r7⟩
    obtain ⟨cy, cr, rfl, h5, h6⟩ := svs_cons r7
    obtain ⟨cx, cr, rfl, h7, h8⟩ := svs_cons h6
    obtain ⟨a, rfl, e1⟩ := sv_lng h0.1 h7
    obtain ⟨b, rfl, e2⟩ := sv_lng h0.2 h5
    obtain ⟨k1, k2⟩ := sub_app h
    obtain ⟨k2, k3⟩ := sub_app k2
    refine W.lcmp hx hb hdg ?_
    unfold lg_cmp
    by_cases c1 : a > b
    · rw [if_pos c1]
      have c1 : b.toInt < a.toInt := Int64.lt_iff_toInt_lt.mp c1
      obtain ⟨K, q1, q2⟩ := sge_ok hK k3 (by rw [saddc_ev, ssub_ev]; omega)
      exact Hk _ _ _ _ q2 ρ M ad ws H locs ls clv _ ⟨⟨ag, hn, q1⟩, ⟨r1, hI, hmo, hfr⟩, r2, r3, r4, r5, r6, sv_mkI (by rw [sev_c]; rfl), h8⟩
    · rw [if_neg c1]
      have c1 : ¬ b.toInt < a.toInt := fun q => c1 (Int64.lt_iff_toInt_lt.mpr q)
      by_cases c2 : a = b
      · rw [if_pos c2]
        obtain ⟨K, q1, q2⟩ := seq0_ok hK k2 (by rw [ssub_ev, ← e1, ← e2, c2]; omega)
        exact Hk _ _ _ _ q2 ρ M ad ws H locs ls clv _ ⟨⟨ag, hn, q1⟩, ⟨r1, hI, hmo, hfr⟩, r2, r3, r4, r5, r6, sv_mkI (by rw [sev_c]; rfl), h8⟩
      · rw [if_neg c2]
        have c2 : a.toInt ≠ b.toInt := fun q => c2 (Int64.toInt_inj.mp q)
        obtain ⟨K, q1, q2⟩ := sge_ok hK k1 (by rw [saddc_ev, sneg_ev, ssub_ev]; omega)
        exact Hk _ _ _ _ q2 ρ M ad ws H locs ls clv _ ⟨⟨ag, hn, q1⟩, ⟨r1, hI, hmo, hfr⟩, r2, r3, r4, r5, r6, sv_mkI (by rw [sev_c]; rfl), h8⟩
theorem ss_br {op : ClassFile.Cond} {off : Int} {d : SE} {ρ : Nat → Int} {M : SMem} {ad : SAd} {ws : va_W} {H : Heap} {locs : List Loc} {ls : Array Slot} {clv : ZL} {cst : List Value} (hr : sRel fm rg X fI wr scr n0 ρ0 M0 ad0 dC dI cA A s.heap nL lv st w ρ M ad ws H locs ls clv cst) (h : sub (sx_br op off pc lv st w d ret) xs) (Hk : ∀ (pc : Nat) (lv : SL) (st : List SV) (w : SW), sub (ret pc lv st w) xs → sW p l e R s m args below meth c Q dC dI cA A nL fm rg X fI wr scr n0 ρ0 M0 ad0 nc0 ns0 pc lv st w) : ∃ tgt : Nat, (pc : Int) + off = (tgt : Int) ∧ (sCmp op (sev ρ d) → W p l e R s m args below meth c H locs (nc0 + w.2.2.2.1) (ns0 + w.2.2.2.2) Q (F0 m tgt ls cst)) ∧ (¬ sCmp op (sev ρ d) → W p l e R s m args below meth c H locs (nc0 + w.2.2.2.1) (ns0 + w.2.2.2.2) Q (F0 m (pc + 3) ls cst)) := by
  unfold sx_br at h
  rw [sfe_eq] at h
  obtain ⟨h1, h2⟩ := sub_app h
  obtain ⟨tgt, ht, h1⟩ := sjmp_ok h1
  refine ⟨tgt, ht, fun q => ?_, fun q => ?_⟩
  · obtain ⟨K, q1, q2⟩ := scn_ok (srel_sK hr) h1 q
    obtain ⟨K, q1, q2⟩ := sag_ok hr.2.1.2.2.1.1 q1 q2
    exact Hk _ _ _ _ q2 ρ M ad ws H locs ls clv _ (srel_K hr q1)
  · obtain ⟨K, q1, q2⟩ := scnN_ok (srel_sK hr) h2 q
    obtain ⟨K, q1, q2⟩ := sag_ok hr.2.1.2.2.1.1 q1 q2
    exact Hk _ _ _ _ q2 ρ M ad ws H locs ls clv _ (srel_K hr q1)
theorem ss_icmp (hx : p.tables.exec = Jvm.exec) (hb : c.code = cc) {op : ClassFile.Cond} {off : Int} (hdg : decode cc pc = .ok (.if_icmp op off, 3)) (h : sub (sx_icmp op off pc lv st w ret) xs) (Hk : ∀ (pc : Nat) (lv : SL) (st : List SV) (w : SW), sub (ret pc lv st w) xs → sW p l e R s m args below meth c Q dC dI cA A nL fm rg X fI wr scr n0 ρ0 M0 ad0 nc0 ns0 pc lv st w) : sW p l e R s m args below meth c Q dC dI cA A nL fm rg X fI wr scr n0 ρ0 M0 ad0 nc0 ns0 pc lv st w := by
  match st, h with
  | [], h => exact (sub_none h).elim
  | [_], h => exact (sub_none h).elim
  | y :: x :: st', h =>
    obtain ⟨h0, h⟩ := sub_cond h
    rw [Bool.and_eq_true] at h0
    intro ρ M ad ws H locs ls clv cst ⟨⟨ag, hn, hK⟩, ⟨r1, hI, hmo, hfr⟩, r2, r3, r4, r5, r6, r7⟩
    obtain ⟨cy, cr, rfl, h5, h6⟩ := svs_cons r7
    obtain ⟨cx, cr, rfl, h7, h8⟩ := svs_cons h6
    obtain ⟨a, rfl, e1⟩ := sv_int h0.1 h7
    obtain ⟨b, rfl, e2⟩ := sv_int h0.2 h5
    obtain ⟨tgt, ht, k1, k2⟩ := ss_br ⟨⟨ag, hn, hK⟩, ⟨r1, hI, hmo, hfr⟩, r2, r3, r4, r5, r6, h8⟩ h Hk
    rw [ssub_ev, ← e1, ← e2] at k1 k2
    refine zw_icmp hx hb hdg ht (fun q => k1 (szro.mp q)) (fun q => k2 (fun z => ?_))
    rw [szro.mpr z] at q
    cases q
theorem ss_if (hx : p.tables.exec = Jvm.exec) (hb : c.code = cc) {op : ClassFile.Cond} {off : Int} (hdg : decode cc pc = .ok (.ifCond op off, 3)) (h : sub (sx_if op off pc lv st w ret) xs) (Hk : ∀ (pc : Nat) (lv : SL) (st : List SV) (w : SW), sub (ret pc lv st w) xs → sW p l e R s m args below meth c Q dC dI cA A nL fm rg X fI wr scr n0 ρ0 M0 ad0 nc0 ns0 pc lv st w) : sW p l e R s m args below meth c Q dC dI cA A nL fm rg X fI wr scr n0 ρ0 M0 ad0 nc0 ns0 pc lv st w := by
  match st, h with
  | [], h => exact (sub_none h).elim
  | x :: st', h =>
    obtain ⟨h0, h⟩ := sub_cond h
    intro ρ M ad ws H locs ls clv cst ⟨⟨ag, hn, hK⟩, ⟨r1, hI, hmo, hfr⟩, r2, r3, r4, r5, r6, r7⟩
    obtain ⟨cx, cr, rfl, h7, h8⟩ := svs_cons r7
    obtain ⟨a, rfl, e1⟩ := sv_int h0 h7
    obtain ⟨tgt, ht, k1, k2⟩ := ss_br ⟨⟨ag, hn, hK⟩, ⟨r1, hI, hmo, hfr⟩, r2, r3, r4, r5, r6, h8⟩ h Hk
    have e3 : a.toInt - (0 : Int32).toInt = sev ρ x.2.2 := by
      have : (0 : Int32).toInt = 0 := rfl
      omega
    rw [← e3] at k1 k2
    refine zw_if hx hb hdg ht (fun q => k1 (szro.mp q)) (fun q => k2 (fun z => ?_))
    rw [szro.mpr z] at q
    cases q
theorem ss_goto (hx : p.tables.exec = Jvm.exec) (hb : c.code = cc) {off : Int} (hdg : decode cc pc = .ok (.goto off, 3)) (h : sub (sjmp pc off (fun t => ret t lv st w)) xs) (Hk : ∀ (pc : Nat) (lv : SL) (st : List SV) (w : SW), sub (ret pc lv st w) xs → sW p l e R s m args below meth c Q dC dI cA A nL fm rg X fI wr scr n0 ρ0 M0 ad0 nc0 ns0 pc lv st w) : sW p l e R s m args below meth c Q dC dI cA A nL fm rg X fI wr scr n0 ρ0 M0 ad0 nc0 ns0 pc lv st w := by
  obtain ⟨tgt, h1, h2⟩ := sjmp_ok h
  intro ρ M ad ws H locs ls clv cst ⟨⟨ag, hn, hK⟩, ⟨r1, hI, hmo, hfr⟩, r2, r3, r4, r5, r6, r7⟩
  exact lv_goto hx hb hdg h1 (Hk _ _ _ _ h2 ρ M ad ws H locs ls clv _ ⟨⟨ag, hn, hK⟩, ⟨r1, hI, hmo, hfr⟩, r2, r3, r4, r5, r6, r7⟩)
theorem ss_tsw (hx : p.tables.exec = Jvm.exec) (hb : c.code = cc) {dflt lo hi : Int} {offs : Array Int} {len : Nat} (hdg : decode cc pc = .ok (.tableswitch dflt lo hi offs, len)) (h : sub (sx_tsw dflt lo hi offs.toList pc lv st w ret) xs) (Hk : ∀ (pc : Nat) (lv : SL) (st : List SV) (w : SW), sub (ret pc lv st w) xs → sW p l e R s m args below meth c Q dC dI cA A nL fm rg X fI wr scr n0 ρ0 M0 ad0 nc0 ns0 pc lv st w) : sW p l e R s m args below meth c Q dC dI cA A nL fm rg X fI wr scr n0 ρ0 M0 ad0 nc0 ns0 pc lv st w := by
  match st, h with
  | [], h => exact (sub_none h).elim
  | x :: st', h =>
    obtain ⟨h0, h⟩ := sub_cond h
    rw [Bool.and_eq_true] at h0
    have hl : hi < lo + offs.toList.length := of_decide_eq_true h0.2
    intro ρ M ad ws H locs ls clv cst ⟨⟨ag, hn, hK⟩, ⟨r1, hI, hmo, hfr⟩, r2, r3, r4, r5, r6, r7⟩
    obtain ⟨cx, cr, rfl, h7, h8⟩ := svs_cons r7
    obtain ⟨a, rfl, e1⟩ := sv_int h0.1 h7
    obtain ⟨h1, h2⟩ := sub_app h
    obtain ⟨tgt, ht, h1⟩ := sjmp_ok h1
    obtain ⟨h3, h4⟩ := sub_app h1
    by_cases q1 : a.toInt < lo
    · obtain ⟨K, z1, z2⟩ := sge_ok hK h3 (by rw [ssub_ev, sev_c]; omega)
      exact lv_tableOut hx hb hdg (Or.inl q1) ht (Hk _ _ _ _ z2 ρ M ad ws H locs ls clv _ ⟨⟨ag, hn, z1⟩, ⟨r1, hI, hmo, hfr⟩, r2, r3, r4, r5, r6, h8⟩)
    · by_cases q2 : a.toInt < hi + 1
      · have hlt : (a.toInt - lo).toNat < offs.toList.length := by omega
        have ho : offs[(a.toInt - lo).toNat]? = some (offs.toList[(a.toInt - lo).toNat]) := by
          rw [← Array.getElem?_toList, List.getElem?_eq_getElem hlt]
        have ho2 : offs.toList[(sev ρ x.2.2 - lo).toNat]? = some (offs.toList[(a.toInt - lo).toNat]) := by
          rw [← e1, List.getElem?_eq_getElem hlt]
        obtain ⟨K, z1, z2⟩ := sx_cs_ok hK (by omega) ho2 h2
        obtain ⟨tgt2, ht2, z2⟩ := sjmp_ok z2
        exact lv_tableIn hx hb hdg q1 (by omega) ho ht2 (Hk _ _ _ _ z2 ρ M ad ws H locs ls clv _ ⟨⟨ag, hn, z1⟩, ⟨r1, hI, hmo, hfr⟩, r2, r3, r4, r5, r6, h8⟩)
      · obtain ⟨K, z1, z2⟩ := sge_ok hK h4 (by rw [saddc_ev]; omega)
        exact lv_tableOut hx hb hdg (Or.inr (by omega)) ht (Hk _ _ _ _ z2 ρ M ad ws H locs ls clv _ ⟨⟨ag, hn, z1⟩, ⟨r1, hI, hmo, hfr⟩, r2, r3, r4, r5, r6, h8⟩)
theorem ss_dup (hx : p.tables.exec = Jvm.exec) (hb : c.code = cc) (hdg : decode cc pc = .ok (.dup, 1)) (h : sub (sx_dup pc lv st w ret) xs) (Hk : ∀ (pc : Nat) (lv : SL) (st : List SV) (w : SW), sub (ret pc lv st w) xs → sW p l e R s m args below meth c Q dC dI cA A nL fm rg X fI wr scr n0 ρ0 M0 ad0 nc0 ns0 pc lv st w) : sW p l e R s m args below meth c Q dC dI cA A nL fm rg X fI wr scr n0 ρ0 M0 ad0 nc0 ns0 pc lv st w := by
  match st, h with
  | [], h => exact (sub_none h).elim
  | v :: st', h =>
    obtain ⟨h0, h⟩ := sub_cond h
    intro ρ M ad ws H locs ls clv cst ⟨⟨ag, hn, hK⟩, ⟨r1, hI, hmo, hfr⟩, r2, r3, r4, r5, r6, r7⟩
    obtain ⟨cv, cr, rfl, h7, h8⟩ := svs_cons r7
    exact lv_dup hx hb hdg ((sv_cat h7).trans (Nat.beq_eq.mp h0)) (Hk _ _ _ _ h ρ M ad ws H locs ls clv _ ⟨⟨ag, hn, hK⟩, ⟨r1, hI, hmo, hfr⟩, r2, r3, r4, r5, r6, h7, h7, h8⟩)
theorem ss_dup2 (hx : p.tables.exec = Jvm.exec) (hb : c.code = cc) (hdg : decode cc pc = .ok (.dup2, 1)) (h : sub (sx_dup2 pc lv st w ret) xs) (Hk : ∀ (pc : Nat) (lv : SL) (st : List SV) (w : SW), sub (ret pc lv st w) xs → sW p l e R s m args below meth c Q dC dI cA A nL fm rg X fI wr scr n0 ρ0 M0 ad0 nc0 ns0 pc lv st w) : sW p l e R s m args below meth c Q dC dI cA A nL fm rg X fI wr scr n0 ρ0 M0 ad0 nc0 ns0 pc lv st w := by
  match st, h with
  | [], h => exact (sub_none h).elim
  | [_], h => exact (sub_none h).elim
  | v :: u :: st', h =>
    obtain ⟨h0, h⟩ := sub_cond h
    rw [Bool.and_eq_true] at h0
    intro ρ M ad ws H locs ls clv cst ⟨⟨ag, hn, hK⟩, ⟨r1, hI, hmo, hfr⟩, r2, r3, r4, r5, r6, r7⟩
    obtain ⟨cv, cr, rfl, h7, h8⟩ := svs_cons r7
    obtain ⟨cw, cr, rfl, h9, h10⟩ := svs_cons h8
    exact lv_dup2_11 hx hb hdg ((sv_cat h7).trans (Nat.beq_eq.mp h0.1)) ((sv_cat h9).trans (Nat.beq_eq.mp h0.2)) (Hk _ _ _ _ h ρ M ad ws H locs ls clv _ ⟨⟨ag, hn, hK⟩, ⟨r1, hI, hmo, hfr⟩, r2, r3, r4, r5, r6, h7, h9, h7, h9, h10⟩)
theorem ss_pop (hx : p.tables.exec = Jvm.exec) (hb : c.code = cc) (hdg : decode cc pc = .ok (.pop, 1)) (h : sub (sx_pop pc lv st w ret) xs) (Hk : ∀ (pc : Nat) (lv : SL) (st : List SV) (w : SW), sub (ret pc lv st w) xs → sW p l e R s m args below meth c Q dC dI cA A nL fm rg X fI wr scr n0 ρ0 M0 ad0 nc0 ns0 pc lv st w) : sW p l e R s m args below meth c Q dC dI cA A nL fm rg X fI wr scr n0 ρ0 M0 ad0 nc0 ns0 pc lv st w := by
  match st, h with
  | [], h => exact (sub_none h).elim
  | v :: st', h =>
    obtain ⟨h0, h⟩ := sub_cond h
    intro ρ M ad ws H locs ls clv cst ⟨⟨ag, hn, hK⟩, ⟨r1, hI, hmo, hfr⟩, r2, r3, r4, r5, r6, r7⟩
    obtain ⟨cv, cr, rfl, h7, h8⟩ := svs_cons r7
    exact lv_pop hx hb hdg ((sv_cat h7).trans (Nat.beq_eq.mp h0)) (Hk _ _ _ _ h ρ M ad ws H locs ls clv _ ⟨⟨ag, hn, hK⟩, ⟨r1, hI, hmo, hfr⟩, r2, r3, r4, r5, r6, h8⟩)
theorem ss_iinc (hx : p.tables.exec = Jvm.exec) (hb : c.code = cc) {i : Nat} {n : Int} (hdg : decode cc pc = .ok (.iinc i n, 3)) (h : sub (sx_iinc nL i n pc lv st w ret) xs) (Hk : ∀ (pc : Nat) (lv : SL) (st : List SV) (w : SW), sub (ret pc lv st w) xs → sW p l e R s m args below meth c Q dC dI cA A nL fm rg X fI wr scr n0 ρ0 M0 ad0 nc0 ns0 pc lv st w) : sW p l e R s m args below meth c Q dC dI cA A nL fm rg X fI wr scr n0 ρ0 M0 ad0 nc0 ns0 pc lv st w := by
  unfold sx_iinc at h
  cases hl : slk lv i with
  | none => rw [hl] at h; exact (sub_none h).elim
  | some v =>
    rw [hl] at h
    obtain ⟨h0, h⟩ := sub_cond h
    rw [Bool.and_eq_true] at h0
    intro ρ M ad ws H locs ls clv cst ⟨⟨ag, hn, hK⟩, ⟨r1, hI, hmo, hfr⟩, r2, r3, r4, r5, r6, r7⟩
    obtain ⟨k, cv, h4, h5⟩ := sls_get r6 hl
    obtain ⟨x, rfl, e1⟩ := sv_int h0.1 h5
    obtain ⟨ρ', e', w', h10, h11, h12, h13⟩ := saddI_ok (z := (x + Int32.ofInt n).toInt) (a := x) (b := Int32.ofInt n) ⟨⟨ag, hn, hK⟩, ⟨r1, hI, hmo, hfr⟩, r2, r3, r4, r5, r6, r7⟩ rfl (by rw [saddc_ev, e1]) h
    rw [sll_eq] at h12
    refine lv_iinc hx hb hdg r5 h4 rfl (zblt h0.2) rfl (fun ls' hl' => ?_)
    have := Hk _ _ _ _ h12 ρ' M ad ws H locs ls' _ cst ⟨h11.1, h11.2.1, h11.2.2.1, h11.2.2.2.1, h11.2.2.2.2.1, hl', ⟨rfl, sv_mkI h10, sls_filter i h11.2.2.2.2.2.2.1⟩, h11.2.2.2.2.2.2.2⟩
    rw [h13] at this
    exact this
end SMO
end
section
/-! what is kept of the heap's numbers beyond bounds; facts; one number written -/
def cstep (c v : Int) (h : Nat) : Option Nat := if c = 1 then some (h + 1) else if c = 2 then (if 0 ≤ v ∧ v ≤ 6 then some (h + 1) else none) else if c = 3 then (if 1 ≤ h then some h else none) else if 4 ≤ c ∧ c ≤ 10 then (if 2 ≤ h then some (h - 1) else none) else none
/-- codes run one behind another: how high the pile is then -/
def crun (o a : Nat → Int) : Nat → Nat → Nat → Option Nat
  | 0, _, h => some h
  | n + 1, i, h => match cstep (o i) (a i) h with
    | some h' => crun o a n (i + 1) h'
    | none => none
theorem crun_succ (o a : Nat → Int) (n i h : Nat) : crun o a (n + 1) i h = match cstep (o i) (a i) h with
    | some h' => crun o a n (i + 1) h'
    | none => none := rfl
theorem crun_app (o a : Nat → Int) : ∀ (n m i h x : Nat), crun o a n i h = some x → crun o a (n + m) i h = crun o a m (i + n) x := by
  intro n
  induction n with
  | zero =>
    intro m i h x hx
    cases hx
    rw [Nat.zero_add, Nat.add_zero]
  | succ n ih =>
    intro m i h x hx
    have e : n + 1 + m = (n + m) + 1 := by omega
    rw [e, crun_succ]
    rw [crun_succ] at hx
    cases hc : cstep (o i) (a i) h with
    | none => rw [hc] at hx; cases hx
    | some h' =>
      rw [hc] at hx
      simp only at hx ⊢
      rw [ih m (i + 1) h' x hx, show i + 1 + n = i + (n + 1) from by omega]
theorem crun_congr {o a o' a' : Nat → Int} : ∀ (n i k h : Nat), (∀ j, j < n → o' (k + j) = o (i + j) ∧ a' (k + j) = a (i + j)) → crun o' a' n k h = crun o a n i h := by
  intro n
  induction n with
  | zero => intros; rfl
  | succ n ih =>
    intro i k h hj
    rw [crun_succ, crun_succ]
    have h0 := hj 0 (by omega)
    rw [Nat.add_zero, Nat.add_zero] at h0
    rw [h0.1, h0.2]
    cases cstep (o i) (a i) h with
    | none => rfl
    | some h' =>
      refine ih (i + 1) (k + 1) h' (fun j hj2 => ?_)
      have := hj (j + 1) (by omega)
      have e1 : k + (j + 1) = k + 1 + j := by omega
      have e2 : i + (j + 1) = i + 1 + j := by omega
      rw [e1, e2] at this
      exact this
def sSeg (M : SMem) (a b : Int) : Prop := ∃ n a' : Nat, a = (a' : Int) ∧ b = a + (n : Int) ∧ ∀ h, crun (M 41 0) (M 42 0) n (6600 + a') h = some (h + 1)
def sDr (M : SMem) (c n : Int) : Prop := ∀ k : Nat, (k : Int) < n → ∃ a m x : Nat, M 40 0 (72 + k) = (a : Int) ∧ crun (M 41 0) (M 42 0) m (6600 + a) 0 = some x ∧ M 41 0 (6600 + a + m) = 0 ∧ ((a + m : Nat) : Int) < c
def sG (M : SMem) (r : Nat) : Prop := M 37 0 r ≤ 12 ∧ ∀ k : Nat, (k : Int) < M 37 0 r → ∃ a m x : Nat, M 40 0 (12 * r + k) = (a : Int) ∧ crun (M 41 0) (M 42 0) m (1100 * r + a) 0 = some x ∧ M 41 0 (1100 * r + a + m) = 0 ∧ a + m ≤ 1099
def sGa (M : SMem) (x : Int) : Prop := ∀ r : Nat, r < 6 → (r : Int) ≠ x → sG M r
def sCpl (M : SMem) (r k : Int) : Prop := ∀ r' j : Nat, r = (r' : Int) → (j : Int) < k → M 40 0 (12 * r' + j) = M 40 0 (72 + j)
def sCpc (M : SMem) (r k : Int) : Prop := ∀ r' j : Nat, r = (r' : Int) → (j : Int) < k → M 41 0 (1100 * r' + j) = M 41 0 (6600 + j) ∧ M 42 0 (1100 * r' + j) = M 42 0 (6600 + j)
def sWft (M : SMem) (i h : Int) : Prop := ∃ i' h' n x : Nat, i = (i' : Int) ∧ h = (h' : Int) ∧ crun (M 41 0) (M 42 0) n i' h' = some x ∧ M 41 0 (i' + n) = 0 ∧ h' + n ≤ 1099 ∧ i' + n ≤ 7699
def sEa (M : SMem) : Prop := ∀ r l : Nat, l < 12 → (l : Int) < M 74 r 0 → M 99 r l ≤ M 106 r 0
def sEs (M : SMem) (c n : Int) : Prop := ∀ l : Nat, (l : Int) < n → M 104 0 l ≤ c
def sfI (k : Nat) (ps : List Int) (M : SMem) : Prop := match k, ps with
  | 0, [a, b] => sSeg M a b
  | 1, [c, n] => sDr M c n
  | 2, [x] => sGa M x
  | 3, [r, k] => sCpl M r k
  | 4, [r, k] => sCpc M r k
  | 5, [i, h] => sWft M i h
  | 6, [] => sEa M
  | 7, [c, n] => sEs M c n
  | _, _ => False
def sD1 (r : Nat) (v : Int) : Prop := (r = 0 ∧ v = 0) ∨ (r % 2 = 1 ∧ 0 ≤ v ∧ v ≤ 2) ∨ (r % 2 = 0 ∧ 0 < r ∧ (v = 0 ∨ (3 ≤ v ∧ v ≤ 4)))
def sX (M : SMem) : Prop := (∀ i : Nat, sD1 (i % 6) (M 29 0 i)) ∧ (∀ p q : Nat, 1 ≤ q → q < 6 → (q : Int) < M 27 0 p → M 29 0 (6 * p + q) ≠ 0) ∧ ∀ p : Nat, 0 ≤ M 50 0 (6 * p)
/-! one number written -/
def supd (M : SMem) (f j i : Nat) (v : Int) : SMem := fun f' j' i' => if f' = f ∧ j' = j ∧ i' = i then v else M f' j' i'
theorem supd_at (M : SMem) (f j i : Nat) (v : Int) : supd M f j i v f j i = v := if_pos ⟨rfl, rfl, rfl⟩
theorem supd_f {M : SMem} {f j i : Nat} {v : Int} {f' j' i' : Nat} (h : f' ≠ f) : supd M f j i v f' j' i' = M f' j' i' := if_neg (fun q => h q.1)
theorem supd_j {M : SMem} {f j i : Nat} {v : Int} {f' j' i' : Nat} (h : j' ≠ j) : supd M f j i v f' j' i' = M f' j' i' := if_neg (fun q => h q.2.1)
theorem supd_i {M : SMem} {f j i : Nat} {v : Int} {f' j' i' : Nat} (h : i' ≠ i) : supd M f j i v f' j' i' = M f' j' i' := if_neg (fun q => h q.2.2)
theorem supd_ff {M : SMem} {f j i : Nat} {v : Int} {f' : Nat} (h : f' ≠ f) : supd M f j i v f' = M f' := by
  funext j' i'
  exact supd_f h
/-- the kinds: rows whose length is kept have it in a kind of no cells -/
def sfmok (fm : List SF) : Prop := ∀ (f : Nat) (en : SF) (a : Nat × Nat × Nat × Nat), fm[f]? = some en → en.2.2.2 = .inr a → a.2.1 ≠ 0 → fm.length ≤ a.2.2.1
section SMEM
variable {fm : List SF} {rg : SRg} {ad : SAd} {M M' : SMem} {cA : Nat → ClassId} {ws : va_W} {f j : Nat} {en : SF}
theorem slen_congr {a : Nat × Nat × Nat × Nat} (h : a.2.1 ≠ 0 → M' a.2.2.1 j 0 = M a.2.2.1 j 0) : slen M' j a = slen M j a := by
  unfold slen
  cases hb : Nat.beq a.2.1 0 with
  | true => rfl
  | false =>
    have : a.2.1 ≠ 0 := fun q => by rw [q] at hb; cases hb
    rw [cond_false, cond_false, h this]
theorem sHe_congr {w : va_E} (hm : ∀ i, M' f j i = M f j i) (hl : ∀ a, en.2.2.2 = .inr a → a.2.1 ≠ 0 → M' a.2.2.1 j 0 = M a.2.2.1 j 0) (h : sHe ad M cA f j en w) : sHe ad M' cA f j en w := by
  unfold sHe at h ⊢
  cases he : en.2.2.2 with
  | inl o =>
    rw [he] at h
    obtain ⟨gs, h1, h2, h3⟩ := h
    exact ⟨gs, h1, h2, fun i sp hs => ⟨fun q => by rw [hm]; exact (h3 i sp hs).1 q, (h3 i sp hs).2⟩⟩
  | inr a =>
    rw [he] at h
    simp only at h ⊢
    have e := slen_congr (M := M) (M' := M') (j := j) (hl a he)
    unfold sHa at h ⊢
    rw [e]
    refine ⟨fun q => ?_, fun q => ?_, h.2.2⟩
    · obtain ⟨g, h1, h2⟩ := h.1 q
      exact ⟨g, h1, fun i => by rw [hm]; exact h2 i⟩
    · obtain ⟨g, h1, h2⟩ := h.2.1 q
      exact ⟨g, h1, fun i => by rw [hm]; exact h2 i⟩
theorem sH_set (hI : sInj fm) (hk : sfmok fm) (h : sH fm ad M cA ws) (hen : fm[f]? = some en) (hj : j < en.2.2.1) {i : Nat} {v : Int} {w' : va_E} (hw' : sHe ad (supd M f j i v) cA f j en w') : sH fm ad (supd M f j i v) cA (ws.set (spos en j) (ad f j, w')) := by
  intro f' en' hen' j' hj'
  obtain ⟨w0, hw0, -⟩ := h f en hen j hj
  have hlt : spos en j < ws.length := (List.getElem?_eq_some_iff.mp hw0).1
  by_cases hp : spos en' j' = spos en j
  · obtain ⟨rfl, rfl⟩ := hI f' f en' en hen' hen j' j hj' hj hp
    cases hen.symm.trans hen'
    exact ⟨w', by rw [List.getElem?_set_self hlt], hw'⟩
  · obtain ⟨w, h1, h2⟩ := h f' en' hen' j' hj'
    refine ⟨w, by rw [List.getElem?_set_ne (fun q => hp q.symm)]; exact h1, sHe_congr (M := M) (fun i' => ?_) (fun a ha hz => ?_) h2⟩
    · by_cases hf : f' = f
      · subst hf
        cases hen.symm.trans hen'
        have : j' ≠ j := fun q => hp (by rw [q])
        exact supd_j this
      · exact supd_f hf
    · have h3 := hk f' en' a hen' ha hz
      have h4 : f < fm.length := (List.getElem?_eq_some_iff.mp hen).1
      exact supd_f (by omega)
theorem sfr_put {M0 : SMem} {ad0 : SAd} {wr : SWr} {i : Nat} {v : Int} (h : sfr rg M0 M ad0 ad wr) (hw : (f, scl rg f i) ∈ wr.1) (hb : ∀ q ∈ wr.2, q.1 = f → q.2 ≤ (i : Int)) : sfr rg M0 (supd M f j i v) ad0 ad wr := by
  refine ⟨fun f' j' i' hn => ?_, h.2.1, fun q hq j' i' hi => ?_⟩
  · rw [← h.1 f' j' i' hn]
    by_cases hf : f' = f
    · subst hf
      by_cases hi : i' = i
      · subst hi
        exact absurd hw hn
      · exact supd_i hi
    · exact supd_f hf
  · rw [← h.2.2 q hq j' i' hi]
    by_cases hf : q.1 = f
    · have := hb q hq hf
      exact supd_i (by omega)
    · exact supd_f hf
theorem sI_put {i : Nat} {v : Int} (h : sI rg M) (h1 : ∀ q, srg rg f i = some q → q.1 ≤ v ∧ v ≤ q.2) (h2 : ∀ q ∈ rg.2, q.1 ≠ f) : sI rg (supd M f j i v) := by
  refine ⟨fun f' i' q hq j' => ?_, fun q hq j' => ?_⟩
  · by_cases hc : f' = f ∧ j' = j ∧ i' = i
    · obtain ⟨rfl, rfl, rfl⟩ := hc
      rw [supd_at]
      exact h1 q hq
    · rw [show supd M f j i v f' j' i' = M f' j' i' from if_neg hc]
      exact h.1 f' i' q hq j'
  · rw [supd_f (h2 q hq)]
    exact h.2 q hq j'
end SMEM
/-! memos -/
def smf (ms : List SM) (f : Nat) (j i : SE) : Option SE := match ms with
  | [] => none
  | q :: r => cond (Nat.beq q.1 f && (sbeq q.2.2.1 i && sbeq q.2.1 j)) (some q.2.2.2) (smf r f j i)
theorem smf_mem {f : Nat} {j i v : SE} : ∀ {ms : List SM}, smf ms f j i = some v → (f, j, i, v) ∈ ms := by
  intro ms
  induction ms with
  | nil => intro h; cases h
  | cons q r ih =>
    intro h
    unfold smf at h
    cases hb : (Nat.beq q.1 f && (sbeq q.2.2.1 i && sbeq q.2.1 j)) with
    | true =>
      rw [hb, cond_true] at h
      simp only [Bool.and_eq_true] at hb
      obtain ⟨q1, q2, q3, q4⟩ := q
      have e1 := Nat.beq_eq.mp hb.1
      have e2 := sbeq_ok hb.2.1
      have e3 := sbeq_ok hb.2.2
      simp only at e1 e2 e3 h
      cases h
      subst e1 e2 e3
      exact List.mem_cons_self
    | false =>
      rw [hb, cond_false] at h
      exact List.mem_cons_of_mem _ (ih h)
theorem smf_ok {fI : Nat → List Int → SMem → Prop} {ρ : Nat → Int} {M : SMem} {ms : SMS} {f jn i0 : Nat} {j i v : SE} (h : smo fI ρ M ms) (hm : smf ms.1 f j i = some v) (hj : (jn : Int) = sev ρ j) (hi : (i0 : Int) = sev ρ i) : M f jn i0 = sev ρ v := by
  obtain ⟨j', i', h1, h2, h3⟩ := h.1 _ (smf_mem hm)
  have e1 : j' = jn := by simp only at h1; omega
  have e2 : i' = i0 := by simp only at h2; omega
  subst e1 e2
  exact h3
/-- what is written kills memos of the same kind that may be of the same place -/
def sdis (K : SK) (a b : SE) : Bool := sent K (saddc (ssub a b) (-1)) || sent K (saddc (ssub b a) (-1))
theorem sdis_ok {ρ : Nat → Int} {K : SK} (hK : sK ρ K) {a b : SE} (h : sdis K a b = true) : sev ρ a ≠ sev ρ b := by
  unfold sdis at h
  rw [Bool.or_eq_true] at h
  rcases h with h | h
  · have := sent_ok hK h
    rw [saddc_ev, ssub_ev] at this
    omega
  · have := sent_ok hK h
    rw [saddc_ev, ssub_ev] at this
    omega
def smk (K : SK) (f : Nat) (j i : SE) (q : SM) : Bool := cond (Nat.beq q.1 f) (cond (sbeq q.2.1 j && sbeq q.2.2.1 i) false (cond (sdis K q.2.2.1 i) true (sdis K q.2.1 j))) true
theorem smk_ok {ρ : Nat → Int} {K : SK} (hK : sK ρ K) {f jn i0 : Nat} {j i : SE} {q : SM} (h : smk K f j i q = true) (hj : (jn : Int) = sev ρ j) (hi : (i0 : Int) = sev ρ i) {M : SMem} {v : Int} (hq : ∃ j i : Nat, (j : Int) = sev ρ q.2.1 ∧ (i : Int) = sev ρ q.2.2.1 ∧ M q.1 j i = sev ρ q.2.2.2) : ∃ j i : Nat, (j : Int) = sev ρ q.2.1 ∧ (i : Int) = sev ρ q.2.2.1 ∧ supd M f jn i0 v q.1 j i = sev ρ q.2.2.2 := by
  obtain ⟨j', i', h1, h2, h3⟩ := hq
  refine ⟨j', i', h1, h2, ?_⟩
  rw [← h3]
  unfold smk at h
  cases hb : Nat.beq q.1 f with
  | false => exact supd_f (fun e => by rw [Nat.beq_eq.mpr e] at hb; cases hb)
  | true =>
    rw [hb, cond_true] at h
    cases hc : (sbeq q.2.1 j && sbeq q.2.2.1 i) with
    | true => rw [hc] at h; cases h
    | false =>
      rw [hc, cond_false] at h
      cases hd : sdis K q.2.2.1 i with
      | true =>
        have := sdis_ok hK hd
        exact supd_i (fun e => by rw [e] at h2; omega)
      | false =>
        rw [hd, cond_false] at h
        have := sdis_ok hK h
        exact supd_j (fun e => by rw [e] at h1; omega)
end
section
/-! what facts hang on: they live on where that is as it was -/
def sfdv (k : Nat) (ps : List Int) : List (Nat × Int × Int) := match k, ps with
  | 0, [a, b] => [(41, 6600 + a, 6600 + b), (42, 6600 + a, 6600 + b)]
  | 1, [c, n] => [(40, 72, 72 + n), (41, 6600, 6600 + c), (42, 6600, 6600 + c)]
  | 2, [_] => [(37, 0, 6), (40, 0, 72), (41, 0, 6600), (42, 0, 6600)]
  | 3, [r, k] => [(40, 12 * r, 12 * r + k), (40, 72, 72 + k)]
  | 4, [r, k] => [(41, 1100 * r, 1100 * r + k), (41, 6600, 6600 + k), (42, 1100 * r, 1100 * r + k), (42, 6600, 6600 + k)]
  | 5, [_, _] => [(41, 0, 7700), (42, 0, 7700)]
  | 6, [] => [(74, 0, 1), (99, 0, 12), (106, 0, 1)]
  | 7, [_, n] => [(104, 0, n)]
  | _, _ => []
def sfde (k : Nat) (ps : List SE) : List (Nat × SE × SE) := match k, ps with
  | 0, [a, b] => [(41, saddc a 6600, saddc b 6600), (42, saddc a 6600, saddc b 6600)]
  | 1, [c, n] => [(40, sc 72, saddc n 72), (41, sc 6600, saddc c 6600), (42, sc 6600, saddc c 6600)]
  | 2, [_] => [(37, sc 0, sc 6), (40, sc 0, sc 72), (41, sc 0, sc 6600), (42, sc 0, sc 6600)]
  | 3, [r, k] => [(40, smul 12 r, sadd (smul 12 r) k), (40, sc 72, saddc k 72)]
  | 4, [r, k] => [(41, smul 1100 r, sadd (smul 1100 r) k), (41, sc 6600, saddc k 6600), (42, smul 1100 r, sadd (smul 1100 r) k), (42, sc 6600, saddc k 6600)]
  | 5, [_, _] => [(41, sc 0, sc 7700), (42, sc 0, sc 7700)]
  | 6, [] => [(74, sc 0, sc 1), (99, sc 0, sc 12), (106, sc 0, sc 1)]
  | 7, [_, n] => [(104, sc 0, n)]
  | _, _ => []
theorem sfde_ev (ρ : Nat → Int) (k : Nat) (ps : List SE) : (sfde k ps).map (fun q => (q.1, sev ρ q.2.1, sev ρ q.2.2)) = sfdv k (ps.map (sev ρ)) := by
  unfold sfde
  split <;> simp only [sfdv, List.map, saddc_ev, sev_c, smul_ev, sadd_ev, Int.add_comm]
  rename_i h0 h1 h2 h3 h4 h5 h6 h7
  split
  · rename_i heq; match ps, heq, h0 with
    | [a, b], _, h0 => exact (h0 a b rfl rfl).elim
  · rename_i heq; match ps, heq, h1 with
    | [a, b], _, h1 => exact (h1 a b rfl rfl).elim
  · rename_i heq; match ps, heq, h2 with
    | [a], _, h2 => exact (h2 a rfl rfl).elim
  · rename_i heq; match ps, heq, h3 with
    | [a, b], _, h3 => exact (h3 a b rfl rfl).elim
  · rename_i heq; match ps, heq, h4 with
    | [a, b], _, h4 => exact (h4 a b rfl rfl).elim
  · rename_i heq; match ps, heq, h5 with
    | [a, b], _, h5 => exact (h5 a b rfl rfl).elim
  · rename_i heq; match ps, heq, h6 with
    | [], _, h6 => exact (h6 rfl rfl).elim
  · rename_i heq; match ps, heq, h7 with
    | [a, b], _, h7 => exact (h7 a b rfl rfl).elim
  · rfl
theorem sfI_congr {k : Nat} {ps : List Int} {M M' : SMem} (hd : ∀ q ∈ sfdv k ps, ∀ j i : Nat, q.2.1 ≤ (i : Int) → (i : Int) < q.2.2 → M' q.1 j i = M q.1 j i) (h : sfI k ps M) : sfI k ps M' := by
  match k, ps, h with
  | 0, [a, b], h =>
    obtain ⟨n, a', rfl, rfl, h3⟩ := (show sSeg M a b from h)
    refine (show sSeg M' _ _ from ⟨n, a', rfl, rfl, fun h => ?_⟩)
    rw [← h3 h]
    have d41 := hd (41, 6600 + (a' : Int), 6600 + ((a' : Int) + n)) (by simp [sfdv]) 0
    have d42 := hd (42, 6600 + (a' : Int), 6600 + ((a' : Int) + n)) (by simp [sfdv]) 0
    simp only at d41 d42
    exact crun_congr n _ _ h (fun j hj => ⟨d41 _ (by omega) (by omega), d42 _ (by omega) (by omega)⟩)
  | 1, [c, n], h =>
    refine (show sDr M' c n from fun k hk => ?_)
    obtain ⟨a, m, x, h1, h2, h3, h4⟩ := (show sDr M c n from h) k hk
    have d40 := hd (40, 72, 72 + n) (by simp [sfdv]) 0
    have d41 := hd (41, 6600, 6600 + c) (by simp [sfdv]) 0
    have d42 := hd (42, 6600, 6600 + c) (by simp [sfdv]) 0
    simp only at d40 d41 d42
    refine ⟨a, m, x, ?_, ?_, ?_, h4⟩
    · rw [d40 _ (by omega) (by omega)]; exact h1
    · rw [← h2]
      exact crun_congr m _ _ 0 (fun j hj => ⟨d41 _ (by omega) (by omega), d42 _ (by omega) (by omega)⟩)
    · rw [d41 _ (by omega) (by omega)]; exact h3
  | 2, [x], h =>
    have d37 := hd (37, 0, 6) (by simp [sfdv]) 0
    have d40 := hd (40, 0, 72) (by simp [sfdv]) 0
    have d41 := hd (41, 0, 6600) (by simp [sfdv]) 0
    have d42 := hd (42, 0, 6600) (by simp [sfdv]) 0
    simp only at d37 d40 d41 d42
    refine (show sGa M' x from fun r hr hx => ?_)
    obtain ⟨g1, g2⟩ := (show sGa M x from h) r hr hx
    unfold sG
    rw [d37 r (by omega) (by omega)]
    refine ⟨g1, fun k hk => ?_⟩
    obtain ⟨a, m, x, h1, h2, h3, h4⟩ := g2 k hk
    refine ⟨a, m, x, ?_, ?_, ?_, h4⟩
    · rw [d40 _ (by omega) (by omega)]; exact h1
    · rw [← h2]
      exact crun_congr m _ _ 0 (fun j hj => ⟨d41 _ (by omega) (by omega), d42 _ (by omega) (by omega)⟩)
    · rw [d41 _ (by omega) (by omega)]; exact h3
  | 3, [r, k], h =>
    have d1 := hd (40, 12 * r, 12 * r + k) (by simp [sfdv]) 0
    have d2 := hd (40, 72, 72 + k) (by simp [sfdv]) 0
    simp only at d1 d2
    refine (show sCpl M' r k from fun r' j hr hj => ?_)
    rw [d1 _ (by omega) (by omega), d2 _ (by omega) (by omega)]
    exact (show sCpl M r k from h) r' j hr hj
  | 4, [r, k], h =>
    have d1 := hd (41, 1100 * r, 1100 * r + k) (by simp [sfdv]) 0
    have d2 := hd (41, 6600, 6600 + k) (by simp [sfdv]) 0
    have d3 := hd (42, 1100 * r, 1100 * r + k) (by simp [sfdv]) 0
    have d4 := hd (42, 6600, 6600 + k) (by simp [sfdv]) 0
    simp only at d1 d2 d3 d4
    refine (show sCpc M' r k from fun r' j hr hj => ?_)
    rw [d1 _ (by omega) (by omega), d2 _ (by omega) (by omega), d3 _ (by omega) (by omega), d4 _ (by omega) (by omega)]
    exact (show sCpc M r k from h) r' j hr hj
  | 5, [i, h0], h =>
    have d1 := hd (41, 0, 7700) (by simp [sfdv]) 0
    have d2 := hd (42, 0, 7700) (by simp [sfdv]) 0
    simp only at d1 d2
    obtain ⟨i', h', n, x, e1, e2, h1, h2, h3, h4⟩ := (show sWft M i h0 from h)
    refine (show sWft M' i h0 from ⟨i', h', n, x, e1, e2, ?_, ?_, h3, h4⟩)
    · rw [← h1]
      exact crun_congr n _ _ h' (fun j hj => ⟨d1 _ (by omega) (by omega), d2 _ (by omega) (by omega)⟩)
    · rw [d1 _ (by omega) (by omega)]; exact h2
  | 6, [], h =>
    refine (show sEa M' from fun r l h12 hl => ?_)
    have d1 := hd (74, 0, 1) (by simp [sfdv]) r 0 (by decide) (by decide)
    have d3 := hd (106, 0, 1) (by simp [sfdv]) r 0 (by decide) (by decide)
    simp only at d1 d3
    have d2 := hd (99, 0, 12) (by simp [sfdv]) r l (by simp only; omega) (by simp only; omega)
    simp only at d2
    rw [d1] at hl
    rw [d3, d2]
    exact (show sEa M from h) r l h12 hl
  | 7, [c, n], h =>
    have d1 := hd (104, 0, n) (by simp [sfdv]) 0
    simp only at d1
    refine (show sEs M' c n from fun l hl => ?_)
    rw [d1 _ (by omega) (by omega)]
    exact (show sEs M c n from h) l hl
end
section
/-! numbers of the heap read -/
def smm (w : SW) (f : Nat) (j i v : SE) : SW := (((f, j, i, v) :: w.1.1, w.1.2), w.2)
def sldk (rg : SRg) (f cn : Nat) (j i : SE) (lv : SL) (st : List SV) (w : SW) (k : SE → SW → SX) : SX := match smf w.1.1 f j i with
  | some v => k v w
  | none => (match srg rg f cn with
    | some q => cond (decide (q.1 = q.2)) (k (sc q.1) (smm w f j i (sc q.1))) (snew lv st w q.1 q.2 (fun e w => k e (smm w f j i e)))
    | none => none)
/-- an index by sixes -/
def sres (K : SK) (i : SE) (k : SE → SE → SX) (kn : SX) : SX := sfe (i.1 % 6, i.2.filter (fun q => !(decide (q.2 % 6 = 0)))) (fun e => sfe (i.1 / 6, (i.2.filter (fun q => decide (q.2 % 6 = 0))).map (fun q => (q.1, q.2 / 6))) (fun P => cond (sin K e 0 5) (cond (sbeq (sadd (smul 6 P) e) i) (k e P) none)
  (sfe (saddc e (-6)) (fun e => sfe (saddc P 1) (fun P => cond (sin K e 0 5) (cond (sbeq (sadd (smul 6 P) e) i) (k e P) none) kn)))))
theorem sres_ok {ρ : Nat → Int} {K : SK} (hK : sK ρ K) {i : SE} {k : SE → SE → SX} {kn : SX} {xs : List SS} (h : sub (sres K i k kn) xs) : (∃ e P, sev ρ i = 6 * sev ρ P + sev ρ e ∧ 0 ≤ sev ρ e ∧ sev ρ e ≤ 5 ∧ sub (k e P) xs) ∨ sub kn xs := by
  unfold sres at h
  rw [sfe_eq, sfe_eq] at h
  generalize (i.1 % 6, i.2.filter (fun q => !(decide (q.2 % 6 = 0)))) = e at h
  generalize (i.1 / 6, (i.2.filter (fun q => decide (q.2 % 6 = 0))).map (fun q => (q.1, q.2 / 6))) = P at h
  cases h1 : sin K e 0 5 with
  | true =>
    rw [h1, cond_true] at h
    obtain ⟨h2, h3⟩ := sub_cond h
    have h4 := sin_ok hK h1
    refine Or.inl ⟨e, P, ?_, h4.1, h4.2, h3⟩
    rw [← sbeq_ok h2, sadd_ev, smul_ev]
  | false =>
    rw [h1, cond_false, sfe_eq, sfe_eq] at h
    generalize saddc e (-6) = e at h
    generalize saddc P 1 = P at h
    cases h1 : sin K e 0 5 with
    | true =>
      rw [h1, cond_true] at h
      obtain ⟨h2, h3⟩ := sub_cond h
      have h4 := sin_ok hK h1
      refine Or.inl ⟨e, P, ?_, h4.1, h4.2, h3⟩
      rw [← sbeq_ok h2, sadd_ev, smul_ev]
    | false =>
      rw [h1, cond_false] at h
      exact Or.inr h
def sgd (ms : List SM) (P : SE) (q : Int) (K : SK) : Bool := match smf ms 27 (sc 0) P with
  | some c => sent K (saddc c (-(q + 1)))
  | none => false
def sldDq (j i P : SE) (q lo hi : Int) (lv : SL) (st : List SV) (w : SW) (k : SE → SW → SX) (K : SK) : SX := sapp (cond (sgd w.1.1 P q K) (some []) (k (sc 0) (smm (swK w K) 29 j i (sc 0)))) (snew lv st (swK w K) lo hi (fun e w => k e (smm w 29 j i e)))
def sldD (rg : SRg) (j i : SE) (lv : SL) (st : List SV) (w : SW) (k : SE → SW → SX) : SX := sres w.2.2.1 i (fun e P => sapp (seq0 w.2.2.1 e (fun K => k (sc 0) (smm (swK w K) 29 j i (sc 0)))) (sapp (seq0 w.2.2.1 (saddc e (-1)) (sldDq j i P 1 1 2 lv st w k)) (sapp (seq0 w.2.2.1 (saddc e (-2)) (sldDq j i P 2 3 4 lv st w k)) (sapp (seq0 w.2.2.1 (saddc e (-3)) (sldDq j i P 3 1 2 lv st w k)) (sapp (seq0 w.2.2.1 (saddc e (-4)) (sldDq j i P 4 3 4 lv st w k)) (seq0 w.2.2.1 (saddc e (-5)) (sldDq j i P 5 1 2 lv st w k))))))) (sldk rg 29 0 j i lv st w k)
def sldN (rg : SRg) (j i : SE) (lv : SL) (st : List SV) (w : SW) (k : SE → SW → SX) : SX := sres w.2.2.1 i (fun e _ => sapp (seq0 w.2.2.1 e (fun K => snew lv st (swK w K) 0 7 (fun e w => k e (smm w 50 j i e)))) (sge w.2.2.1 (saddc e (-1)) (fun K => snew lv st (swK w K) (-1) 7 (fun e w => k e (smm w 50 j i e))))) (sldk rg 50 0 j i lv st w k)
/-- codes that run -/
def swf (K : SK) (i : SE) : List SFt → Option SE
  | [] => none
  | q :: r => cond (Nat.beq q.1 5) (match q.2 with
    | [a, h] => cond (sent K (ssub a i) && sent K (ssub i a)) (some h) (swf K i r)
    | _ => swf K i r) (swf K i r)
def swn (w : SW) (K : SK) (i h : SE) : SW := ((w.1.1, (5, [i, h]) :: w.1.2.filter (fun q => !(Nat.beq q.1 5))), w.2.1, K, w.2.2.2)
def sldOh (j i h : SE) (lv : SL) (st : List SV) (w : SW) (k : SE → SW → SX) : SX := sfe (saddc i 1) (fun i1 => sfe (saddc h 1) (fun h1 => sfe (saddc h (-1)) (fun h2 =>
  sapp (k (sc 0) (smm w 41 j i (sc 0))) (sapp (sge w.2.2.1 (ssub (sc 1098) h) (fun K => sge K (ssub (sc 7698) i) (fun K => k (sc 1) (smm (swn w K i1 h1) 41 j i (sc 1))))) (sapp (sge w.2.2.1 (ssub (sc 1098) h) (fun K => sge K (ssub (sc 7698) i) (fun K => snew lv ((0, 0, j) :: (0, 0, i) :: st) (swn w K i1 h1) 0 6 (fun e w => k (sc 2) (smm (smm w 42 j i e) 41 j i (sc 2)))))) (sapp (sge w.2.2.1 (saddc h (-1)) (fun K => sge K (ssub (sc 7698) i) (fun K => k (sc 3) (smm (swn w K i1 h) 41 j i (sc 3))))) (sge w.2.2.1 (saddc h (-2)) (fun K => sge K (ssub (sc 7698) i) (fun K => snew lv ((0, 0, j) :: (0, 0, i) :: st) (swn w K i1 h2) 4 10 (fun e w => k e (smm w 41 j i e))))))))))) 
def sldO (rg : SRg) (j i : SE) (lv : SL) (st : List SV) (w : SW) (k : SE → SW → SX) : SX := match swf w.2.2.1 i w.1.2 with
  | some h => sldOh j i h lv st w k
  | none => sldk rg 41 0 j i lv st w k
def shas6 (fs : List SFt) : Bool := sany (fun q => Nat.beq q.1 6) fs
/-- where a line of an order ends -/
def sldU (rg : SRg) (j i : SE) (lv : SL) (st : List SV) (w : SW) (k : SE → SW → SX) : SX := sldk rg 99 0 j i lv st w (fun v w => cond (shas6 w.1.2 && sin w.2.2.1 i 0 11) (match smf w.1.1 74 j (sc 0) with
  | some n => cond (sent w.2.2.1 (saddc (ssub n i) (-1))) (match smf w.1.1 99 j i with
    | some v => sldk rg 106 0 j (sc 0) lv st w (fun L w => cond (sent w.2.2.1 (ssub L v)) (k v w) (sfK (sput w.2.2.1 (ssub L v)) (fun K => k v (swK w K))))
    | none => none) (k v w)
  | none => k v w) (k v w))
def sldx (rg : SRg) (f cn : Nat) (j i : SE) (lv : SL) (st : List SV) (w : SW) (k : SE → SW → SX) : SX := match smf w.1.1 f j i with
  | some v => cond (Nat.beq f 99) (sldU rg j i lv st w k) (k v w)
  | none => cond (Nat.beq f 29) (sldD rg j i lv st w k) (cond (Nat.beq f 50) (sldN rg j i lv st w k) (cond (Nat.beq f 41) (sldO rg j i lv st w k) (cond (Nat.beq f 99) (sldU rg j i lv st w k) (sldk rg f cn j i lv st w k))))
section SLD
variable {p : Program} {l : Launch} {e : Env} {R : Room} {s : State} {m : MethodId} {args : Array Value} {below : List Frame} {meth : Method} {c : Code} {Q : State → Prop} {dC : Nat → ClassId} {dI : Nat → Nat → Nat} {cA : Nat → ClassId} {A : Nat → Prop} {nL : Nat} {fm : List SF} {rg : SRg} {wr : SWr} {scr n0 : Nat} {ρ0 : Nat → Int} {M0 : SMem} {ad0 : SAd} {nc0 ns0 : Nat} {cc : ByteArray} {pc : Nat} {lv : SL} {st : List SV} {w : SW} {ret : SRt} {xs : List SS} {own : String}
variable {ρ : Nat → Int} {M : SMem} {ad : SAd} {ws : va_W} {H : Heap} {locs : List Loc} {ls : Array Slot} {clv : ZL} {cst : List Value} {f cn jn i0 : Nat} {j i : SE} {k : SE → SW → SX}
theorem srel_memo (hr : sRel fm rg sX sfI wr scr n0 ρ0 M0 ad0 dC dI cA A s.heap nL lv st w ρ M ad ws H locs ls clv cst) {v : SE} (hj : (jn : Int) = sev ρ j) (hi : (i0 : Int) = sev ρ i) (hv : M f jn i0 = sev ρ v) : sRel fm rg sX sfI wr scr n0 ρ0 M0 ad0 dC dI cA A s.heap nL lv st (smm w f j i v) ρ M ad ws H locs ls clv cst := by
  obtain ⟨⟨ag, hn, hK⟩, ⟨r1, hI, hmo, hfr⟩, rr⟩ := hr
  refine ⟨⟨ag, hn, hK⟩, ⟨r1, hI, ⟨fun q hq => ?_, hmo.2⟩, hfr⟩, rr⟩
  rcases List.mem_cons.mp hq with rfl | hq
  · exact ⟨jn, i0, hj, hi, hv⟩
  · exact hmo.1 q hq
theorem sbS_st {n : Nat} (h : sbS n lv st w = true) : sall (fun v => sbe n v.2.2) st = true := by
  simp only [sbS, Bool.and_eq_true] at h
  exact h.2.1
theorem sbS_ms {n : Nat} (h : sbS n lv st w = true) : sall (sbM n) w.1.1 = true := by
  simp only [sbS, sbW, Bool.and_eq_true] at h
  exact h.2.2.1
/-- a number that is new, kept as a memo -/
theorem snew_memo {z : Int} (hr : sRel fm rg sX sfI wr scr n0 ρ0 M0 ad0 dC dI cA A s.heap nL lv st w ρ M ad ws H locs ls clv cst) (hb : (∀ n, sall (fun v => sbe n v.2.2) st = true → sbe n j = true ∧ sbe n i = true)) {lo hi : Int} (hj : (jn : Int) = sev ρ j) (hi0 : (i0 : Int) = sev ρ i) (hz : M f jn i0 = z) (h1 : lo ≤ z) (h2 : z ≤ hi) (h : sub (snew lv st w lo hi (fun e w => k e (smm w f j i e))) xs) : ∃ (ρ' : Nat → Int) (e' : SE) (w' : SW), z = sev ρ' e' ∧ sRel fm rg sX sfI wr scr n0 ρ0 M0 ad0 dC dI cA A s.heap nL lv st w' ρ' M ad ws H locs ls clv cst ∧ sub (k e' w') xs ∧ w'.2.2.2 = w.2.2.2 ∧ ∀ e, (∀ n, sall (fun v => sbe n v.2.2) st = true → sall (sbM n) w.1.1 = true → sbe n e = true) → sev ρ' e = sev ρ e := by
  obtain ⟨ρ', ha, hS, h3, h4, h5⟩ := snew_ok hr h1 h2 h
  obtain ⟨b1, b2⟩ := hb _ (sbS_st hS)
  exact ⟨ρ', _, _, h3.symm, srel_memo h4 (by rw [sbe_ev ha b1]; exact hj) (by rw [sbe_ev ha b2]; exact hi0) (hz.trans h3.symm), h5, rfl, fun e he => sbe_ev ha (he _ (sbS_st hS) (sbS_ms hS))⟩
theorem sknow_memo {z : Int} (hr : sRel fm rg sX sfI wr scr n0 ρ0 M0 ad0 dC dI cA A s.heap nL lv st w ρ M ad ws H locs ls clv cst) {v : SE} {w' : SW} (hj : (jn : Int) = sev ρ j) (hi0 : (i0 : Int) = sev ρ i) (hz : M f jn i0 = z) (hv : z = sev ρ v) (hw : sRel fm rg sX sfI wr scr n0 ρ0 M0 ad0 dC dI cA A s.heap nL lv st w' ρ M ad ws H locs ls clv cst) (hc : w'.2.2.2 = w.2.2.2) (h : sub (k v (smm w' f j i v)) xs) : ∃ (ρ' : Nat → Int) (e' : SE) (w' : SW), z = sev ρ' e' ∧ sRel fm rg sX sfI wr scr n0 ρ0 M0 ad0 dC dI cA A s.heap nL lv st w' ρ' M ad ws H locs ls clv cst ∧ sub (k e' w') xs ∧ w'.2.2.2 = w.2.2.2 ∧ ∀ e, (∀ n, sall (fun v => sbe n v.2.2) st = true → sall (sbM n) w.1.1 = true → sbe n e = true) → sev ρ' e = sev ρ e :=
  ⟨ρ, v, _, hv, srel_memo hw hj hi0 (hz.trans hv), h, hc, fun _ _ => rfl⟩
theorem sldk_ok {z : Int} (hr : sRel fm rg sX sfI wr scr n0 ρ0 M0 ad0 dC dI cA A s.heap nL lv st w ρ M ad ws H locs ls clv cst) (hb : (∀ n, sall (fun v => sbe n v.2.2) st = true → sbe n j = true ∧ sbe n i = true)) (hcn : srg rg f i0 = srg rg f cn) (hj : (jn : Int) = sev ρ j) (hi0 : (i0 : Int) = sev ρ i) (hz : M f jn i0 = z) (h : sub (sldk rg f cn j i lv st w k) xs) : ∃ (ρ' : Nat → Int) (e' : SE) (w' : SW), z = sev ρ' e' ∧ sRel fm rg sX sfI wr scr n0 ρ0 M0 ad0 dC dI cA A s.heap nL lv st w' ρ' M ad ws H locs ls clv cst ∧ sub (k e' w') xs ∧ w'.2.2.2 = w.2.2.2 ∧ ∀ e, (∀ n, sall (fun v => sbe n v.2.2) st = true → sall (sbM n) w.1.1 = true → sbe n e = true) → sev ρ' e = sev ρ e := by
  unfold sldk at h
  cases hm : smf w.1.1 f j i with
  | some v =>
    rw [hm] at h
    exact ⟨ρ, v, w, hz.symm.trans (smf_ok hr.2.1.2.2.1 hm hj hi0), hr, h, rfl, fun _ _ => rfl⟩
  | none =>
    rw [hm] at h
    simp only at h
    cases hq : srg rg f cn with
    | none => rw [hq] at h; exact (sub_none h).elim
    | some q =>
      rw [hq] at h
      have hI := hr.2.1.2.1.1.1 f i0 q (hcn.trans hq) jn
      rw [hz] at hI
      cases hc : decide (q.1 = q.2) with
      | true =>
        simp only [hc, cond_true] at h
        have e1 : q.1 = q.2 := of_decide_eq_true hc
        exact sknow_memo hr hj hi0 hz (by rw [sev_c]; omega) hr rfl h
      | false =>
        simp only [hc, cond_false] at h
        exact snew_memo hr hb hj hi0 hz hI.1 hI.2 h
theorem lokw {z : Int} (h : ∃ (ρ' : Nat → Int) (e' : SE) (w' : SW), z = sev ρ' e' ∧ sRel fm rg sX sfI wr scr n0 ρ0 M0 ad0 dC dI cA A s.heap nL lv st w' ρ' M ad ws H locs ls clv cst ∧ sub (k e' w') xs ∧ w'.2.2.2 = w.2.2.2 ∧ ∀ e, (∀ n, sall (fun v => sbe n v.2.2) st = true → sall (sbM n) w.1.1 = true → sbe n e = true) → sev ρ' e = sev ρ e) : ∃ (ρ' : Nat → Int) (e' : SE) (w' : SW), z = sev ρ' e' ∧ sRel fm rg sX sfI wr scr n0 ρ0 M0 ad0 dC dI cA A s.heap nL lv st w' ρ' M ad ws H locs ls clv cst ∧ sub (k e' w') xs ∧ w'.2.2.2 = w.2.2.2 ∧ ∀ e, (∀ n, sall (fun v => sbe n v.2.2) st = true → sbe n e = true) → sev ρ' e = sev ρ e := by
  obtain ⟨ρ', e', w', a1, a2, a3, a4, a5⟩ := h
  exact ⟨ρ', e', w', a1, a2, a3, a4, fun e he => a5 e (fun n hn _ => he n hn)⟩
theorem sldDq_ok {z q lo hi : Int} {P : SE} {K : SK} (hr : sRel fm rg sX sfI wr scr n0 ρ0 M0 ad0 dC dI cA A s.heap nL lv st w ρ M ad ws H locs ls clv cst) (hK : sK ρ K) (hb : (∀ n, sall (fun v => sbe n v.2.2) st = true → sbe n j = true ∧ sbe n i = true)) (hj : (jn : Int) = sev ρ j) (hi0 : (i0 : Int) = sev ρ i) (hz : M 29 jn i0 = z) (h0 : z = 0 ∨ lo ≤ z ∧ z ≤ hi) (hg : sgd w.1.1 P q K = true → z ≠ 0) (h : sub (sldDq j i P q lo hi lv st w k K) xs) : ∃ (ρ' : Nat → Int) (e' : SE) (w' : SW), z = sev ρ' e' ∧ sRel fm rg sX sfI wr scr n0 ρ0 M0 ad0 dC dI cA A s.heap nL lv st w' ρ' M ad ws H locs ls clv cst ∧ sub (k e' w') xs ∧ w'.2.2.2 = w.2.2.2 ∧ ∀ e, (∀ n, sall (fun v => sbe n v.2.2) st = true → sbe n e = true) → sev ρ' e = sev ρ e := by
  unfold sldDq at h
  obtain ⟨h1, h2⟩ := sub_app h
  rcases h0 with h0 | h0
  · cases hc : sgd w.1.1 P q K with
    | true => exact absurd h0 (hg hc)
    | false =>
      rw [hc, cond_false] at h1
      exact lokw (sknow_memo hr hj hi0 hz (by rw [sev_c]; exact h0) (srel_K hr hK) rfl h1)
  · obtain ⟨ρ', e', w', a1, a2, a3, a4, a5⟩ := snew_memo (srel_K hr hK) hb hj hi0 hz h0.1 h0.2 h2
    exact ⟨ρ', e', w', a1, a2, a3, a4, fun e he => a5 e (fun n hn _ => he n hn)⟩
theorem sldD_ok {z : Int} (hr : sRel fm rg sX sfI wr scr n0 ρ0 M0 ad0 dC dI cA A s.heap nL lv st w ρ M ad ws H locs ls clv cst) (hb : (∀ n, sall (fun v => sbe n v.2.2) st = true → sbe n j = true ∧ sbe n i = true)) (hcn : srg rg 29 i0 = srg rg 29 0) (hj : (jn : Int) = sev ρ j) (hj0 : jn = 0) (hi0 : (i0 : Int) = sev ρ i) (hz : M 29 jn i0 = z) (h : sub (sldD rg j i lv st w k) xs) : ∃ (ρ' : Nat → Int) (e' : SE) (w' : SW), z = sev ρ' e' ∧ sRel fm rg sX sfI wr scr n0 ρ0 M0 ad0 dC dI cA A s.heap nL lv st w' ρ' M ad ws H locs ls clv cst ∧ sub (k e' w') xs ∧ w'.2.2.2 = w.2.2.2 ∧ ∀ e, (∀ n, sall (fun v => sbe n v.2.2) st = true → sbe n e = true) → sev ρ' e = sev ρ e := by
  unfold sldD at h
  subst hj0
  have hK := srel_sK hr
  rcases sres_ok hK h with ⟨e, P, e1, e2, e3, h⟩ | h
  · have hX := hr.2.1.2.1.2
    have hd := hX.1 i0
    rw [hz] at hd
    obtain ⟨p, hp⟩ : ∃ p : Nat, sev ρ P = (p : Int) := ⟨(sev ρ P).toNat, by omega⟩
    have hguard : ∀ q : Nat, 1 ≤ q → sev ρ e = (q : Int) → ∀ K, sK ρ K → sgd w.1.1 P (q : Int) K = true → z ≠ 0 := by
      intro q hq he K hK2 hg
      unfold sgd at hg
      cases hm : smf w.1.1 27 (sc 0) P with
      | none => rw [hm] at hg; cases hg
      | some c =>
        rw [hm] at hg
        have h5 := sent_ok hK2 hg
        rw [saddc_ev] at h5
        have h6 := smf_ok (jn := 0) (i0 := p) hr.2.1.2.2.1 hm (by rw [sev_c]; rfl) hp.symm
        have h7 := hX.2.1 p q hq (by omega) (by rw [h6]; omega)
        have h8 : 6 * p + q = i0 := by omega
        rw [h8, hz] at h7
        exact h7
    obtain ⟨k0, h⟩ := sub_app h
    obtain ⟨k1, h⟩ := sub_app h
    obtain ⟨k2, h⟩ := sub_app h
    obtain ⟨k3, h⟩ := sub_app h
    obtain ⟨k4, k5⟩ := sub_app h
    have hm : i0 % 6 = (sev ρ e).toNat := by omega
    rw [hm] at hd
    unfold sD1 at hd
    have c6 : sev ρ e = 0 ∨ sev ρ e = 1 ∨ sev ρ e = 2 ∨ sev ρ e = 3 ∨ sev ρ e = 4 ∨ sev ρ e = 5 := by omega
    rcases c6 with c | c | c | c | c | c <;> rw [c] at hd
    · obtain ⟨K, q1, q2⟩ := seq0_ok hK k0 c
      exact lokw (sknow_memo hr hj hi0 hz (by rw [sev_c]; omega) (srel_K hr q1) rfl q2)
    · obtain ⟨K, q1, q2⟩ := seq0_ok hK k1 (by rw [saddc_ev]; omega)
      exact sldDq_ok hr q1 hb hj hi0 hz (by omega) (hguard 1 (by omega) c K q1) q2
    · obtain ⟨K, q1, q2⟩ := seq0_ok hK k2 (by rw [saddc_ev]; omega)
      exact sldDq_ok hr q1 hb hj hi0 hz (by omega) (hguard 2 (by omega) c K q1) q2
    · obtain ⟨K, q1, q2⟩ := seq0_ok hK k3 (by rw [saddc_ev]; omega)
      exact sldDq_ok hr q1 hb hj hi0 hz (by omega) (hguard 3 (by omega) c K q1) q2
    · obtain ⟨K, q1, q2⟩ := seq0_ok hK k4 (by rw [saddc_ev]; omega)
      exact sldDq_ok hr q1 hb hj hi0 hz (by omega) (hguard 4 (by omega) c K q1) q2
    · obtain ⟨K, q1, q2⟩ := seq0_ok hK k5 (by rw [saddc_ev]; omega)
      exact sldDq_ok hr q1 hb hj hi0 hz (by omega) (hguard 5 (by omega) c K q1) q2
  · exact lokw (sldk_ok hr hb hcn hj hi0 hz h)
theorem sldN_ok {z : Int} (hr : sRel fm rg sX sfI wr scr n0 ρ0 M0 ad0 dC dI cA A s.heap nL lv st w ρ M ad ws H locs ls clv cst) (hb : (∀ n, sall (fun v => sbe n v.2.2) st = true → sbe n j = true ∧ sbe n i = true)) (hcn : srg rg 50 i0 = srg rg 50 0) (hrn : srg rg 50 0 = some (-1, 7)) (hj : (jn : Int) = sev ρ j) (hj0 : jn = 0) (hi0 : (i0 : Int) = sev ρ i) (hz : M 50 jn i0 = z) (h : sub (sldN rg j i lv st w k) xs) : ∃ (ρ' : Nat → Int) (e' : SE) (w' : SW), z = sev ρ' e' ∧ sRel fm rg sX sfI wr scr n0 ρ0 M0 ad0 dC dI cA A s.heap nL lv st w' ρ' M ad ws H locs ls clv cst ∧ sub (k e' w') xs ∧ w'.2.2.2 = w.2.2.2 ∧ ∀ e, (∀ n, sall (fun v => sbe n v.2.2) st = true → sbe n e = true) → sev ρ' e = sev ρ e := by
  unfold sldN at h
  subst hj0
  have hK := srel_sK hr
  rcases sres_ok hK h with ⟨e, P, e1, e2, e3, h⟩ | h
  · have hX := hr.2.1.2.1.2
    have hI := hr.2.1.2.1.1.1 50 i0 _ (hcn.trans hrn) 0
    rw [hz] at hI
    obtain ⟨k0, k1⟩ := sub_app h
    by_cases c : sev ρ e = 0
    · obtain ⟨K, q1, q2⟩ := seq0_ok hK k0 c
      have h8 : i0 = 6 * (sev ρ P).toNat := by omega
      have h9 := hX.2.2 (sev ρ P).toNat
      rw [← h8, hz] at h9
      obtain ⟨ρ', e', w', a1, a2, a3, a4, a5⟩ := snew_memo (srel_K hr q1) hb hj hi0 hz h9 hI.2 q2
      exact ⟨ρ', e', w', a1, a2, a3, a4, fun e he => a5 e (fun n hn _ => he n hn)⟩
    · obtain ⟨K, q1, q2⟩ := sge_ok hK k1 (by rw [saddc_ev]; omega)
      obtain ⟨ρ', e', w', a1, a2, a3, a4, a5⟩ := snew_memo (srel_K hr q1) hb hj hi0 hz hI.1 hI.2 q2
      exact ⟨ρ', e', w', a1, a2, a3, a4, fun e he => a5 e (fun n hn _ => he n hn)⟩
  · exact lokw (sldk_ok hr hb hcn hj hi0 hz h)
end SLD
end
section
/-! codes that run, ends of lines; all loads -/
section SLE
variable {p : Program} {l : Launch} {e : Env} {R : Room} {s : State} {m : MethodId} {args : Array Value} {below : List Frame} {meth : Method} {c : Code} {Q : State → Prop} {dC : Nat → ClassId} {dI : Nat → Nat → Nat} {cA : Nat → ClassId} {A : Nat → Prop} {nL : Nat} {fm : List SF} {rg : SRg} {wr : SWr} {scr n0 : Nat} {ρ0 : Nat → Int} {M0 : SMem} {ad0 : SAd} {nc0 ns0 : Nat} {cc : ByteArray} {pc : Nat} {lv : SL} {st : List SV} {w : SW} {ret : SRt} {xs : List SS} {own : String}
variable {ρ : Nat → Int} {M : SMem} {ad : SAd} {ws : va_W} {H : Heap} {locs : List Loc} {ls : Array Slot} {clv : ZL} {cst : List Value} {f cn jn i0 : Nat} {j i : SE} {k : SE → SW → SX}
theorem swf_ok {K : SK} (hK : sK ρ K) {h : SE} : ∀ {fs : List SFt}, (∀ q ∈ fs, sfI q.1 (q.2.map (sev ρ)) M) → swf K i fs = some h → sWft M (sev ρ i) (sev ρ h) := by
  intro fs
  induction fs with
  | nil => intro _ h; cases h
  | cons q r ih =>
    intro hf hs
    have ih2 := ih (fun q hq => hf q (List.mem_cons_of_mem _ hq))
    obtain ⟨q1, q2⟩ := q
    unfold swf at hs
    cases hb : Nat.beq q1 5 with
    | false => simp only [hb, cond_false] at hs; exact ih2 hs
    | true =>
      simp only [hb, cond_true] at hs
      cases Nat.beq_eq.mp hb
      have h0 := hf _ List.mem_cons_self
      match q2, hs, h0 with
      | [a, h'], hs, h0 =>
        simp only at hs
        cases hc : (sent K (ssub a i) && sent K (ssub i a)) with
        | false => rw [hc, cond_false] at hs; exact ih2 hs
        | true =>
          rw [hc, cond_true] at hs
          cases hs
          rw [Bool.and_eq_true] at hc
          have e1 := sent_ok hK hc.1
          have e2 := sent_ok hK hc.2
          rw [ssub_ev] at e1 e2
          have e3 : sev ρ a = sev ρ i := by omega
          have h1 : sWft M (sev ρ a) (sev ρ h) := h0
          rw [e3] at h1
          exact h1
      | [], hs, h0 => exact ih2 hs
      | [_], hs, h0 => exact ih2 hs
      | _ :: _ :: _ :: _, hs, h0 => exact ih2 hs
theorem srel_wn {K : SK} {i1 h1 : SE} (hr : sRel fm rg sX sfI wr scr n0 ρ0 M0 ad0 dC dI cA A s.heap nL lv st w ρ M ad ws H locs ls clv cst) (hK : sK ρ K) (hw : sWft M (sev ρ i1) (sev ρ h1)) : sRel fm rg sX sfI wr scr n0 ρ0 M0 ad0 dC dI cA A s.heap nL lv st (swn w K i1 h1) ρ M ad ws H locs ls clv cst := by
  obtain ⟨⟨ag, hn, -⟩, ⟨r1, hI, hmo, hfr⟩, rr⟩ := hr
  refine ⟨⟨ag, hn, hK⟩, ⟨r1, hI, ⟨hmo.1, fun q hq => ?_⟩, hfr⟩, rr⟩
  rcases List.mem_cons.mp hq with rfl | hq
  · exact hw
  · exact hmo.2 q (List.mem_filter.mp hq).1
theorem sldOh_ok {z : Int} {h0 : SE} (hr : sRel fm rg sX sfI wr scr n0 ρ0 M0 ad0 dC dI cA A s.heap nL lv st w ρ M ad ws H locs ls clv cst) (hb : (∀ n, sall (fun v => sbe n v.2.2) st = true → sbe n j = true ∧ sbe n i = true)) (hro : ∀ x, srg rg 41 x = some (0, 10)) (hj : (jn : Int) = sev ρ j) (hj0 : jn = 0) (hi0 : (i0 : Int) = sev ρ i) (hz : M 41 jn i0 = z) (hw : sWft M (sev ρ i) (sev ρ h0)) (h : sub (sldOh j i h0 lv st w k) xs) : ∃ (ρ' : Nat → Int) (e' : SE) (w' : SW), z = sev ρ' e' ∧ sRel fm rg sX sfI wr scr n0 ρ0 M0 ad0 dC dI cA A s.heap nL lv st w' ρ' M ad ws H locs ls clv cst ∧ sub (k e' w') xs ∧ w'.2.2.2 = w.2.2.2 ∧ ∀ e, (∀ n, sall (fun v => sbe n v.2.2) st = true → sbe n e = true) → sev ρ' e = sev ρ e := by
  unfold sldOh at h
  subst hj0
  rw [sfe_eq, sfe_eq, sfe_eq] at h
  have hK := srel_sK hr
  obtain ⟨k0, h⟩ := sub_app h
  obtain ⟨k1, h⟩ := sub_app h
  obtain ⟨k2, h⟩ := sub_app h
  obtain ⟨k3, k4⟩ := sub_app h
  obtain ⟨i', h', n, x, e1, e2, w1, w2, w3, w4⟩ := hw
  have ei : i' = i0 := by omega
  subst ei
  by_cases hz0 : z = 0
  · exact lokw (sknow_memo hr hj hi0 hz (by rw [sev_c]; exact hz0) hr rfl k0)
  · cases n with
    | zero => exact absurd (hz.symm.trans w2) hz0
    | succ n =>
      rw [crun_succ] at w1
      rw [hz] at w1
      have hI := hr.2.1.2.1.1.1 41 i' _ (hro i') 0
      rw [hz] at hI
      have enx : i' + (n + 1) = (i' + 1) + n := by omega
      rw [enx] at w2
      have hc : z = 1 ∨ z = 2 ∨ z = 3 ∨ (4 ≤ z ∧ z ≤ 10) := by simp only at hI; omega
      rcases hc with hc | hc | hc | hc
      · rw [show cstep z (M 42 0 i') h' = some (h' + 1) from by unfold cstep; rw [if_pos hc]] at w1
        obtain ⟨K, q1, q2⟩ := sge_ok hK k1 (by rw [ssub_ev, sev_c]; omega)
        obtain ⟨K, q1, q2⟩ := sge_ok q1 q2 (by rw [ssub_ev, sev_c]; omega)
        exact lokw (sknow_memo hr hj hi0 hz (by rw [sev_c]; exact hc) (srel_wn hr q1 ⟨i' + 1, h' + 1, n, x, by rw [saddc_ev]; omega, by rw [saddc_ev]; omega, w1, w2, by omega, by omega⟩) rfl q2)
      · obtain ⟨K, q1, q2⟩ := sge_ok hK k2 (by rw [ssub_ev, sev_c]; omega)
        obtain ⟨K, q1, q2⟩ := sge_ok q1 q2 (by rw [ssub_ev, sev_c]; omega)
        have h6 : 0 ≤ M 42 0 i' ∧ M 42 0 i' ≤ 6 := by
          by_cases h6 : 0 ≤ M 42 0 i' ∧ M 42 0 i' ≤ 6
          · exact h6
          · rw [show cstep z (M 42 0 i') h' = none from by unfold cstep; rw [if_neg (by omega), if_pos hc, if_neg h6]] at w1
            cases w1
        rw [show cstep z (M 42 0 i') h' = some (h' + 1) from by unfold cstep; rw [if_neg (by omega), if_pos hc, if_pos h6]] at w1
        have hrn := srel_wn (i1 := saddc i 1) (h1 := saddc h0 1) hr q1 ⟨i' + 1, h' + 1, n, x, by rw [saddc_ev]; omega, by rw [saddc_ev]; omega, w1, w2, by omega, by omega⟩
        obtain ⟨ρ', ha, hS, h3, h4, h5⟩ := snew_ok (lo := 0) (hi := 6) (x := M 42 0 i') (st := st) hrn h6.1 h6.2 (k := fun e w => k (sc 2) (smm (smm w 42 j i e) 41 j i (sc 2))) (by
          unfold snew at q2 ⊢
          obtain ⟨b1, b2⟩ := sub_cond q2
          have b3 : sbS (swn w K (saddc i 1) (saddc h0 1)).2.1 lv st (swn w K (saddc i 1) (saddc h0 1)) = true := by
            simp only [sbS, sall, Bool.and_eq_true] at b1 ⊢
            refine ⟨b1.1, ?_, b1.2.2⟩
            have b4 := b1.2.1
            cases c1 : sbe (swn w K (saddc i 1) (saddc h0 1)).2.1 j with
            | false => rw [c1] at b4; cases b4
            | true =>
              cases c2 : sbe (swn w K (saddc i 1) (saddc h0 1)).2.1 i with
              | false => rw [c1, c2] at b4; cases b4
              | true => rw [c1, c2] at b4; exact b4
          rw [b3]
          exact b2)
        obtain ⟨b1, b2⟩ := hb _ (sbS_st hS)
        have hj2 : ((0 : Nat) : Int) = sev ρ' j := by rw [sbe_ev ha b1]; exact hj
        have hi2 : (i' : Int) = sev ρ' i := by rw [sbe_ev ha b2]; exact hi0
        exact ⟨ρ', sc 2, _, by rw [sev_c]; exact hc, srel_memo (srel_memo h4 hj2 hi2 h3.symm) hj2 hi2 (by rw [sev_c]; exact hz.trans hc), h5, rfl, fun e he => sbe_ev ha (he _ (sbS_st hS))⟩
      · have h6 : 1 ≤ h' := by
          by_cases h6 : 1 ≤ h'
          · exact h6
          · rw [show cstep z (M 42 0 i') h' = none from by unfold cstep; rw [if_neg (by omega), if_neg (by omega), if_pos hc, if_neg h6]] at w1
            cases w1
        rw [show cstep z (M 42 0 i') h' = some h' from by unfold cstep; rw [if_neg (by omega), if_neg (by omega), if_pos hc, if_pos h6]] at w1
        obtain ⟨K, q1, q2⟩ := sge_ok hK k3 (by rw [saddc_ev]; omega)
        obtain ⟨K, q1, q2⟩ := sge_ok q1 q2 (by rw [ssub_ev, sev_c]; omega)
        exact lokw (sknow_memo hr hj hi0 hz (by rw [sev_c]; exact hc) (srel_wn hr q1 ⟨i' + 1, h', n, x, by rw [saddc_ev]; omega, e2, w1, w2, by omega, by omega⟩) rfl q2)
      · have h6 : 2 ≤ h' := by
          by_cases h6 : 2 ≤ h'
          · exact h6
          · rw [show cstep z (M 42 0 i') h' = none from by unfold cstep; rw [if_neg (by omega), if_neg (by omega), if_neg (by omega), if_pos hc, if_neg h6]] at w1
            cases w1
        rw [show cstep z (M 42 0 i') h' = some (h' - 1) from by unfold cstep; rw [if_neg (by omega), if_neg (by omega), if_neg (by omega), if_pos hc, if_pos h6]] at w1
        obtain ⟨K, q1, q2⟩ := sge_ok hK k4 (by rw [saddc_ev]; omega)
        obtain ⟨K, q1, q2⟩ := sge_ok q1 q2 (by rw [ssub_ev, sev_c]; omega)
        have hrn := srel_wn (i1 := saddc i 1) (h1 := saddc h0 (-1)) hr q1 ⟨i' + 1, h' - 1, n, x, by rw [saddc_ev]; omega, by rw [saddc_ev]; omega, w1, w2, by omega, by omega⟩
        have q3 : sub (snew lv st (swn w K (saddc i 1) (saddc h0 (-1))) 4 10 (fun e w => k e (smm w 41 j i e))) xs := by
          unfold snew at q2 ⊢
          obtain ⟨b1, b2⟩ := sub_cond q2
          have b3 : sbS (swn w K (saddc i 1) (saddc h0 (-1))).2.1 lv st (swn w K (saddc i 1) (saddc h0 (-1))) = true := by
            simp only [sbS, sall, Bool.and_eq_true] at b1 ⊢
            refine ⟨b1.1, ?_, b1.2.2⟩
            have b4 := b1.2.1
            cases c1 : sbe (swn w K (saddc i 1) (saddc h0 (-1))).2.1 j with
            | false => rw [c1] at b4; cases b4
            | true =>
              cases c2 : sbe (swn w K (saddc i 1) (saddc h0 (-1))).2.1 i with
              | false => rw [c1, c2] at b4; cases b4
              | true => rw [c1, c2] at b4; exact b4
          rw [b3]
          exact b2
        obtain ⟨ρ', e', w', a1, a2, a3, a4, a5⟩ := snew_memo hrn hb hj hi0 hz hc.1 hc.2 q3
        exact ⟨ρ', e', w', a1, a2, a3, a4, fun e he => a5 e (fun n hn _ => he n hn)⟩
theorem sldO_ok {z : Int} (hr : sRel fm rg sX sfI wr scr n0 ρ0 M0 ad0 dC dI cA A s.heap nL lv st w ρ M ad ws H locs ls clv cst) (hb : (∀ n, sall (fun v => sbe n v.2.2) st = true → sbe n j = true ∧ sbe n i = true)) (hro : ∀ x, srg rg 41 x = some (0, 10)) (hj : (jn : Int) = sev ρ j) (hj0 : jn = 0) (hi0 : (i0 : Int) = sev ρ i) (hz : M 41 jn i0 = z) (h : sub (sldO rg j i lv st w k) xs) : ∃ (ρ' : Nat → Int) (e' : SE) (w' : SW), z = sev ρ' e' ∧ sRel fm rg sX sfI wr scr n0 ρ0 M0 ad0 dC dI cA A s.heap nL lv st w' ρ' M ad ws H locs ls clv cst ∧ sub (k e' w') xs ∧ w'.2.2.2 = w.2.2.2 ∧ ∀ e, (∀ n, sall (fun v => sbe n v.2.2) st = true → sbe n e = true) → sev ρ' e = sev ρ e := by
  unfold sldO at h
  cases hs : swf w.2.2.1 i w.1.2 with
  | some h0 =>
    rw [hs] at h
    exact sldOh_ok hr hb hro hj hj0 hi0 hz (swf_ok (srel_sK hr) hr.2.1.2.2.1.2 hs) h
  | none =>
    rw [hs] at h
    exact lokw (sldk_ok hr hb ((hro _).trans (hro _).symm) hj hi0 hz h)
theorem shas6_ok {fs : List SFt} (h : shas6 fs = true) (hf : ∀ q ∈ fs, sfI q.1 (q.2.map (sev ρ)) M) : sEa M := by
  obtain ⟨q, h1, h2⟩ := sany_ok h
  have h3 := hf q h1
  obtain ⟨q1, q2⟩ := q
  cases Nat.beq_eq.mp h2
  cases q2 with
  | nil => exact h3
  | cons a r => exact h3.elim
theorem sldU_ok {z : Int} (hr : sRel fm rg sX sfI wr scr n0 ρ0 M0 ad0 dC dI cA A s.heap nL lv st w ρ M ad ws H locs ls clv cst) (hb : (∀ n, sall (fun v => sbe n v.2.2) st = true → sbe n j = true ∧ sbe n i = true)) (hc99 : srg rg 99 i0 = srg rg 99 0) (hj : (jn : Int) = sev ρ j) (hi0 : (i0 : Int) = sev ρ i) (hz : M 99 jn i0 = z) (h : sub (sldU rg j i lv st w k) xs) : ∃ (ρ' : Nat → Int) (e' : SE) (w' : SW), z = sev ρ' e' ∧ sRel fm rg sX sfI wr scr n0 ρ0 M0 ad0 dC dI cA A s.heap nL lv st w' ρ' M ad ws H locs ls clv cst ∧ sub (k e' w') xs ∧ w'.2.2.2 = w.2.2.2 ∧ ∀ e, (∀ n, sall (fun v => sbe n v.2.2) st = true → sbe n e = true) → sev ρ' e = sev ρ e := by
  unfold sldU at h
  obtain ⟨ρ', v, w', a1, a2, a3, a4, a5⟩ := lokw (sldk_ok hr hb hc99 hj hi0 hz h)
  have hj' : (jn : Int) = sev ρ' j := by rw [a5 j (fun n hn => (hb n hn).1)]; exact hj
  have hi' : (i0 : Int) = sev ρ' i := by rw [a5 i (fun n hn => (hb n hn).2)]; exact hi0
  cases hc : (shas6 w'.1.2 && sin w'.2.2.1 i 0 11) with
  | false =>
    rw [hc, cond_false] at a3
    exact ⟨ρ', v, w', a1, a2, a3, a4, a5⟩
  | true =>
    rw [hc, cond_true] at a3
    rw [Bool.and_eq_true] at hc
    cases hm : smf w'.1.1 74 j (sc 0) with
    | none =>
      rw [hm] at a3
      exact ⟨ρ', v, w', a1, a2, a3, a4, a5⟩
    | some n =>
      rw [hm] at a3
      simp only at a3
      cases hd : sent w'.2.2.1 (saddc (ssub n i) (-1)) with
      | false =>
        rw [hd, cond_false] at a3
        exact ⟨ρ', v, w', a1, a2, a3, a4, a5⟩
      | true =>
        rw [hd, cond_true] at a3
        have h1 := shas6_ok hc.1 a2.2.1.2.2.1.2
        have h2 := sin_ok (srel_sK a2) hc.2
        have h3 := sent_ok (srel_sK a2) hd
        rw [saddc_ev, ssub_ev] at h3
        have h4 := smf_ok (jn := jn) (i0 := 0) a2.2.1.2.2.1 hm hj' (by rw [sev_c]; rfl)
        have h5 := h1 jn i0 (by omega) (by omega)
        rw [hz] at h5
        cases hv : smf w'.1.1 99 j i with
        | none => rw [hv] at a3; exact (sub_none a3).elim
        | some v2 =>
          rw [hv] at a3
          simp only at a3
          have h6 := smf_ok a2.2.1.2.2.1 hv hj' hi'
          have hb2 : ∀ n, sall (fun v => sbe n v.2.2) st = true → sbe n j = true ∧ sbe n (sc 0) = true := fun n hn => ⟨(hb n hn).1, rfl⟩
          obtain ⟨ρ2, L, w2, b1, b2, b3, b4, b5⟩ := sldk_ok a2 hb2 rfl hj' (by rw [sev_c]; rfl) rfl a3
          have e2 : sev ρ2 v2 = sev ρ' v2 := b5 v2 (fun n _ hn => by
            have := sall_ok hn _ (smf_mem hv)
            simp only [sbM, Bool.and_eq_true] at this
            exact this.2.2)
          have ea : ∀ e, (∀ n, sall (fun v => sbe n v.2.2) st = true → sbe n e = true) → sev ρ2 e = sev ρ e := fun e he => (b5 e (fun n hn _ => he n hn)).trans (a5 e he)
          cases hs : sent w2.2.2.1 (ssub L v2) with
          | true =>
            rw [hs, cond_true] at b3
            exact ⟨ρ2, v2, w2, by rw [e2, ← h6, hz], b2, b3, b4.trans a4, ea⟩
          | false =>
            rw [hs, cond_false, sfK_eq] at b3
            exact ⟨ρ2, v2, _, by rw [e2, ← h6, hz], srel_K b2 (sput_ok (srel_sK b2) (by rw [ssub_ev, e2, ← h6, ← b1, hz]; omega)), b3, b4.trans a4, ea⟩
end SLE
end
section
/-! fields and rows -/
/-- what is taken of the kinds and the bounds -/
def sST (fm : List SF) (rg : SRg) : Prop := sInj fm ∧ sfmok fm ∧ rg.2 = [] ∧ (∀ x, srg rg 41 x = some (0, 10)) ∧ srg rg 50 0 = some (-1, 7) ∧ (∀ (f : Nat) (en : SF) (a : Nat × Nat × Nat × Nat), fm[f]? = some en → en.2.2.2 = .inr a → ∀ x, srg rg f x = srg rg f 0 ∧ scl rg f x = 0) ∧ (∀ f, f ∈ [27, 29, 37, 40, 41, 42, 50, 104] → ∀ en, fm[f]? = some en → en.2.2.1 = 1) ∧ (∀ (f : Nat) (en : SF) (a : Nat × Nat × Nat × Nat), fm[f]? = some en → en.2.2.2 = .inr a → a.2.1 ≠ 0 → ∀ x, srg rg a.2.2.1 x = srg rg a.2.2.1 0) ∧ ∀ x, srg rg 29 x = srg rg 29 0
def sidx (rg : SRg) (a : Nat × Nat × Nat × Nat) (j i : SE) (lv : SL) (st : List SV) (w : SW) (k : SW → SX) : SX := cond (Nat.beq a.2.1 0) (cond (sin w.2.2.1 i 0 ((a.2.2.1 : Int) - 1)) (k w) none) (sldk rg a.2.2.1 0 j (sc 0) lv st w (fun L w => cond (sent w.2.2.1 i && sent w.2.2.1 (saddc (ssub L i) (-1))) (k w) none))
noncomputable def srow (fm : List SF) (f : Nat) (k : SF → Nat × Nat × Nat × Nat → SX) : SX := match zget fm f with
  | some en => (match en.2.2.2 with
    | .inr a => k en a
    | .inl _ => none)
  | none => none
noncomputable def sobj (fm : List SF) (f : Nat) (k : SF → Nat × List (Nat × Nat × Nat) → SX) : SX := match zget fm f with
  | some en => (match en.2.2.2 with
    | .inl o => k en o
    | .inr _ => none)
  | none => none
theorem srow_ok {fm : List SF} {f : Nat} {k : SF → Nat × Nat × Nat × Nat → SX} {xs : List SS} (h : sub (srow fm f k) xs) : ∃ en a, fm[f]? = some en ∧ en.2.2.2 = .inr a ∧ sub (k en a) xs := by
  unfold srow at h
  rw [zget_eq] at h
  cases hf : fm[f]? with
  | none => rw [hf] at h; exact (sub_none h).elim
  | some en =>
    rw [hf] at h
    simp only at h
    cases he : en.2.2.2 with
    | inl o => rw [he] at h; exact (sub_none h).elim
    | inr a => rw [he] at h; exact ⟨en, a, rfl, he, h⟩
theorem sobj_ok {fm : List SF} {f : Nat} {k : SF → Nat × List (Nat × Nat × Nat) → SX} {xs : List SS} (h : sub (sobj fm f k) xs) : ∃ en o, fm[f]? = some en ∧ en.2.2.2 = .inl o ∧ sub (k en o) xs := by
  unfold sobj at h
  rw [zget_eq] at h
  cases hf : fm[f]? with
  | none => rw [hf] at h; exact (sub_none h).elim
  | some en =>
    rw [hf] at h
    simp only at h
    cases he : en.2.2.2 with
    | inr o => rw [he] at h; exact (sub_none h).elim
    | inl a => rw [he] at h; exact ⟨en, a, rfl, he, h⟩
theorem sclamp {x : Int32} (h : 0 ≤ x.toInt) : (x.toNatClampNeg : Int) = x.toInt := by
  show (x.toInt.toNat : Int) = x.toInt
  omega
noncomputable def sx_ald (fm : List SF) (rg : SRg) (t tc : Nat) (pc : Nat) (lv : SL) (st : List SV) (w : SW) (ret : SRt) : SX := match st with
  | i :: v :: st' => cond (Nat.beq i.1 0 && Nat.beq v.1 2) (srow fm v.2.1 (fun _ a => cond (Nat.beq a.1 t) (sidx rg a v.2.2 i.2.2 lv st w (fun w => sldx rg v.2.1 0 v.2.2 i.2.2 lv st w (fun e w => ret (pc + 1) lv ((tc, 0, e) :: st') w))) none)) none
  | _ => none
noncomputable def sx_aald (fm : List SF) (rg : SRg) (pc : Nat) (lv : SL) (st : List SV) (w : SW) (ret : SRt) : SX := match st with
  | i :: v :: st' => cond (Nat.beq i.1 0 && Nat.beq v.1 2) (srow fm v.2.1 (fun _ a => cond (Nat.beq a.1 4 || Nat.beq a.1 5) (sidx rg a v.2.2 i.2.2 lv st w (fun w => match zget fm a.2.2.2 with
    | some en2 => cond (Nat.ble a.2.2.1 en2.2.2.1 && Nat.beq a.2.1 0) (ret (pc + 1) lv ((2, a.2.2.2, i.2.2) :: st') w) none
    | none => none)) none)) none
  | _ => none
noncomputable def sx_getf (fm : List SF) (rg : SRg) (ci fi : Nat) (pc : Nat) (lv : SL) (st : List SV) (w : SW) (ret : SRt) : SX := match st with
  | v :: st' => cond (Nat.beq v.1 2) (sobj fm v.2.1 (fun en o => cond (Nat.beq o.1 ci) (match zget o.2 fi with
    | some sp => cond (Nat.beq sp.1 0) (sldk rg v.2.1 fi v.2.2 (sc (fi : Int)) lv st w (fun e w => ret (pc + 3) lv ((0, 0, e) :: st') w)) (cond (Nat.beq sp.1 1) (match zget fm sp.2.1 with
      | some en2 => cond (cond (Nat.beq sp.2.2 0) (Nat.ble 1 en2.2.2.1) (Nat.ble en.2.2.1 en2.2.2.1)) (ret (pc + 3) lv ((2, sp.2.1, cond (Nat.beq sp.2.2 0) (sc 0) v.2.2) :: st') w) none
      | none => none) none)
    | none => none) none)) none
  | _ => none
section SRO
variable {p : Program} {l : Launch} {e : Env} {R : Room} {s : State} {m : MethodId} {args : Array Value} {below : List Frame} {meth : Method} {c : Code} {Q : State → Prop} {dC : Nat → ClassId} {dI : Nat → Nat → Nat} {cA : Nat → ClassId} {A : Nat → Prop} {nL : Nat} {fm : List SF} {rg : SRg} {wr : SWr} {scr n0 : Nat} {ρ0 : Nat → Int} {M0 : SMem} {ad0 : SAd} {nc0 ns0 : Nat} {cc : ByteArray} {pc : Nat} {lv : SL} {st : List SV} {w : SW} {ret : SRt} {xs : List SS} {own : String}
variable {ρ : Nat → Int} {M : SMem} {ad : SAd} {ws : va_W} {H : Heap} {locs : List Loc} {ls : Array Slot} {clv : ZL} {cst : List Value} {f cn jn i0 : Nat} {j i : SE}
theorem sldx_ok {k : SE → SW → SX} {z : Int} {en : SF} {a : Nat × Nat × Nat × Nat} (hS : sST fm rg) (hen : fm[f]? = some en) (ha : en.2.2.2 = .inr a) (hjn : jn < en.2.2.1) (hr : sRel fm rg sX sfI wr scr n0 ρ0 M0 ad0 dC dI cA A s.heap nL lv st w ρ M ad ws H locs ls clv cst) (hb : (∀ n, sall (fun v => sbe n v.2.2) st = true → sbe n j = true ∧ sbe n i = true)) (hj : (jn : Int) = sev ρ j) (hi0 : (i0 : Int) = sev ρ i) (hz : M f jn i0 = z) (h : sub (sldx rg f 0 j i lv st w k) xs) : ∃ (ρ' : Nat → Int) (e' : SE) (w' : SW), z = sev ρ' e' ∧ sRel fm rg sX sfI wr scr n0 ρ0 M0 ad0 dC dI cA A s.heap nL lv st w' ρ' M ad ws H locs ls clv cst ∧ sub (k e' w') xs ∧ w'.2.2.2 = w.2.2.2 ∧ ∀ e, (∀ n, sall (fun v => sbe n v.2.2) st = true → sbe n e = true) → sev ρ' e = sev ρ e := by
  obtain ⟨s1, s2, s3, s4, s5, s6, s7, s8, s9⟩ := hS
  have hcn := (s6 f en a hen ha i0).1
  have hone : f ∈ [27, 29, 37, 40, 41, 42, 50, 104] → jn = 0 := fun q => by
    have := s7 f q en hen
    omega
  unfold sldx at h
  cases hm : smf w.1.1 f j i with
  | some v =>
    rw [hm] at h
    simp only at h
    cases h9 : Nat.beq f 99 with
    | true =>
      rw [h9, cond_true] at h
      cases Nat.beq_eq.mp h9
      exact sldU_ok hr hb hcn hj hi0 hz h
    | false =>
      rw [h9, cond_false] at h
      exact ⟨ρ, v, w, hz.symm.trans (smf_ok hr.2.1.2.2.1 hm hj hi0), hr, h, rfl, fun _ _ => rfl⟩
  | none =>
    rw [hm] at h
    simp only at h
    cases h1 : Nat.beq f 29 with
    | true =>
      rw [h1, cond_true] at h
      cases Nat.beq_eq.mp h1
      exact sldD_ok hr hb hcn hj (hone (by simp)) hi0 hz h
    | false =>
      rw [h1, cond_false] at h
      cases h2 : Nat.beq f 50 with
      | true =>
        rw [h2, cond_true] at h
        cases Nat.beq_eq.mp h2
        exact sldN_ok hr hb hcn s5 hj (hone (by simp)) hi0 hz h
      | false =>
        rw [h2, cond_false] at h
        cases h3 : Nat.beq f 41 with
        | true =>
          rw [h3, cond_true] at h
          cases Nat.beq_eq.mp h3
          exact sldO_ok hr hb s4 hj (hone (by simp)) hi0 hz h
        | false =>
          rw [h3, cond_false] at h
          cases h4 : Nat.beq f 99 with
          | true =>
            rw [h4, cond_true] at h
            cases Nat.beq_eq.mp h4
            exact sldU_ok hr hb hcn hj hi0 hz h
          | false =>
            rw [h4, cond_false] at h
            exact lokw (sldk_ok hr hb hcn hj hi0 hz h)
/-- the index is within the row -/
theorem sidx_ok {k : SW → SX} {en : SF} {a : Nat × Nat × Nat × Nat} (hS : sST fm rg) (hen : fm[f]? = some en) (ha : en.2.2.2 = .inr a) (hr : sRel fm rg sX sfI wr scr n0 ρ0 M0 ad0 dC dI cA A s.heap nL lv st w ρ M ad ws H locs ls clv cst) (hb : (∀ n, sall (fun v => sbe n v.2.2) st = true → sbe n j = true ∧ sbe n i = true)) (hj : (jn : Int) = sev ρ j) (h : sub (sidx rg a j i lv st w k) xs) : ∃ (ρ' : Nat → Int) (w' : SW), 0 ≤ sev ρ i ∧ sev ρ i < (slen M jn a : Int) ∧ sRel fm rg sX sfI wr scr n0 ρ0 M0 ad0 dC dI cA A s.heap nL lv st w' ρ' M ad ws H locs ls clv cst ∧ sub (k w') xs ∧ w'.2.2.2 = w.2.2.2 ∧ ∀ e, (∀ n, sall (fun v => sbe n v.2.2) st = true → sbe n e = true) → sev ρ' e = sev ρ e := by
  unfold sidx at h
  cases hc : Nat.beq a.2.1 0 with
  | true =>
    rw [hc, cond_true] at h
    obtain ⟨h1, h2⟩ := sub_cond h
    have h3 := sin_ok (srel_sK hr) h1
    refine ⟨ρ, w, h3.1, ?_, hr, h2, rfl, fun _ _ => rfl⟩
    unfold slen
    rw [hc, cond_true]
    omega
  | false =>
    rw [hc, cond_false] at h
    have hne : a.2.1 ≠ 0 := fun q => by rw [q] at hc; cases hc
    obtain ⟨ρ', L, w', a1, a2, a3, a4, a5⟩ := sldk_ok (f := a.2.2.1) (jn := jn) (i0 := 0) hr (fun n hn => ⟨(hb n hn).1, rfl⟩) rfl hj (by rw [sev_c]; rfl) rfl h
    obtain ⟨h1, h2⟩ := sub_cond a3
    rw [Bool.and_eq_true] at h1
    have h3 := sent_ok (srel_sK a2) h1.1
    have h4 := sent_ok (srel_sK a2) h1.2
    rw [saddc_ev, ssub_ev] at h4
    have e1 : sev ρ' i = sev ρ i := a5 i (fun n hn _ => (hb n hn).2)
    refine ⟨ρ', w', by omega, ?_, a2, h2, a4, fun e he => a5 e (fun n hn _ => he n hn)⟩
    unfold slen
    rw [hc, cond_false]
    omega
theorem sst2 {i v : SV} {st' : List SV} {n : Nat} (h : sall (fun v => sbe n v.2.2) (i :: v :: st') = true) : sbe n v.2.2 = true ∧ sbe n i.2.2 = true := by
  have h1 := sall_ok h i List.mem_cons_self
  have h2 := sall_ok h v (List.mem_cons_of_mem _ List.mem_cons_self)
  exact ⟨h2, h1⟩
/-- a row's element: what the machine's own row has -/
theorem ss_ald {t tc : Nat} (hS : sST fm rg) (hrow : ∀ (f jn : Nat) (en : SF) (a : Nat × Nat × Nat × Nat) (wv : va_E) (iv : Int32) (M : SMem) (ad : SAd) (ws : va_W) (H : Heap) (locs : List Loc) (ls : Array Slot) (cst : List Value), a.1 = t → va_P (dC, dI) vwCl ws H → ws[spos en jn]? = some (ad f jn, wv) → sHa ad M cA f jn a wv → vp_in iv (slen M jn a) → ∃ cv, sfit tc cv (M f jn iv.toNatClampNeg) ∧ (W p l e R s m args below meth c H locs (nc0 + w.2.2.2.1) (ns0 + w.2.2.2.2) Q (F0 m (pc + 1) ls (cv :: cst)) → W p l e R s m args below meth c H locs (nc0 + w.2.2.2.1) (ns0 + w.2.2.2.2) Q (F0 m pc ls (.int iv :: .ref (ad f jn) :: cst)))) (h : sub (sx_ald fm rg t tc pc lv st w ret) xs) (Hk : ∀ (pc : Nat) (lv : SL) (st : List SV) (w : SW), sub (ret pc lv st w) xs → sW p l e R s m args below meth c Q dC dI cA A nL fm rg sX sfI wr scr n0 ρ0 M0 ad0 nc0 ns0 pc lv st w) : sW p l e R s m args below meth c Q dC dI cA A nL fm rg sX sfI wr scr n0 ρ0 M0 ad0 nc0 ns0 pc lv st w := by
  match st, h with
  | [], h => exact (sub_none h).elim
  | [_], h => exact (sub_none h).elim
  | i :: v :: st', h =>
    obtain ⟨h0, h⟩ := sub_cond h
    rw [Bool.and_eq_true] at h0
    obtain ⟨en, a, hen, ha, h⟩ := srow_ok h
    obtain ⟨ht, h⟩ := sub_cond h
    intro ρ M ad ws H locs ls clv cst hr
    obtain ⟨ci, cr, rfl, h5, h6⟩ := svs_cons hr.2.2.2.2.2.2.2
    obtain ⟨cv, cr, rfl, h7, h8⟩ := svs_cons h6
    obtain ⟨iv, rfl, ei⟩ := sv_int h0.1 h5
    have hv2 : v.1 = 2 := Nat.beq_eq.mp h0.2
    rcases h7 with ⟨q, -⟩ | ⟨q, -⟩ | ⟨-, jn, en', hj, hen', hjn, rfl⟩ | ⟨q, -⟩
    · omega
    · omega
    · cases hen.symm.trans hen'
      have hb1 : ∀ n, sall (fun v => sbe n v.2.2) (i :: v :: st') = true → sbe n v.2.2 = true ∧ sbe n i.2.2 = true := fun n hn => sst2 hn
      obtain ⟨ρ1, w1, b1, b2, b3, b4, b5, b6⟩ := sidx_ok hS hen ha hr hb1 hj h
      have hin : vp_in iv (slen M jn a) := vp_in_iff.mpr ⟨by omega, by omega⟩
      obtain ⟨wv, hwv, hse⟩ := hr.2.1.1 _ en hen jn hjn
      unfold sHe at hse
      rw [ha] at hse
      have hcl := sclamp (x := iv) (by omega)
      obtain ⟨ρ2, e2, w2, c1, c2, c3, c4, c5⟩ := sldx_ok (jn := jn) (i0 := iv.toNatClampNeg) hS hen ha hjn b3 hb1 (by rw [b6 _ (fun n hn => (hb1 n hn).1)]; exact hj) (by rw [b6 _ (fun n hn => (hb1 n hn).2)]; omega) rfl b4
      obtain ⟨cv, g1, g2⟩ := hrow v.2.1 jn en a wv iv M ad ws H locs ls cr (Nat.beq_eq.mp ht) hr.2.2.1 hwv hse hin
      apply g2
      have := Hk _ _ _ _ c3 ρ2 M ad ws H locs ls clv (cv :: cr) ⟨c2.1, c2.2.1, c2.2.2.1, c2.2.2.2.1, c2.2.2.2.2.1, c2.2.2.2.2.2.1, c2.2.2.2.2.2.2.1, sfit_sv (by rw [c1] at g1; exact g1), c2.2.2.2.2.2.2.2.2.2⟩
      rw [c4, b5] at this
      exact this
    · omega
theorem ss_iald (hx : p.tables.exec = Jvm.exec) (hb : c.code = cc) (hKv : va_K (dC, dI) vwCl (ztys cA) s) (hS : sST fm rg) (hdg : decode cc pc = .ok (.iaload, 1)) (h : sub (sx_ald fm rg 0 0 pc lv st w ret) xs) (Hk : ∀ (pc : Nat) (lv : SL) (st : List SV) (w : SW), sub (ret pc lv st w) xs → sW p l e R s m args below meth c Q dC dI cA A nL fm rg sX sfI wr scr n0 ρ0 M0 ad0 nc0 ns0 pc lv st w) : sW p l e R s m args below meth c Q dC dI cA A nL fm rg sX sfI wr scr n0 ρ0 M0 ad0 nc0 ns0 pc lv st w := by
  refine ss_ald hS ?_ h Hk
  intro f jn en a wv iv M ad ws H locs ls cst ht hP hw hs hin
  obtain ⟨g, rfl, hg⟩ := hs.1 (by omega)
  exact ⟨_, by rw [← hg]; exact sfitI _, va_iald hx hb hKv hP _ 0 (by rw [ht] at hw; exact hw) rfl hin hdg⟩
theorem ss_zald (hx : p.tables.exec = Jvm.exec) (hb : c.code = cc) (hKv : va_K (dC, dI) vwCl (ztys cA) s) (hS : sST fm rg) (hdg : decode cc pc = .ok (.baload, 1)) (h : sub (sx_ald fm rg 1 0 pc lv st w ret) xs) (Hk : ∀ (pc : Nat) (lv : SL) (st : List SV) (w : SW), sub (ret pc lv st w) xs → sW p l e R s m args below meth c Q dC dI cA A nL fm rg sX sfI wr scr n0 ρ0 M0 ad0 nc0 ns0 pc lv st w) : sW p l e R s m args below meth c Q dC dI cA A nL fm rg sX sfI wr scr n0 ρ0 M0 ad0 nc0 ns0 pc lv st w := by
  refine ss_ald hS ?_ h Hk
  intro f jn en a wv iv M ad ws H locs ls cst ht hP hw hs hin
  obtain ⟨g, rfl, hg⟩ := hs.1 (by omega)
  exact ⟨_, by rw [← hg]; exact sfitI _, va_zald hx hb hKv hP _ 1 (by rw [ht] at hw; exact hw) rfl hin hdg⟩
theorem ss_cald (hx : p.tables.exec = Jvm.exec) (hb : c.code = cc) (hKv : va_K (dC, dI) vwCl (ztys cA) s) (hS : sST fm rg) (hdg : decode cc pc = .ok (.caload, 1)) (h : sub (sx_ald fm rg 2 0 pc lv st w ret) xs) (Hk : ∀ (pc : Nat) (lv : SL) (st : List SV) (w : SW), sub (ret pc lv st w) xs → sW p l e R s m args below meth c Q dC dI cA A nL fm rg sX sfI wr scr n0 ρ0 M0 ad0 nc0 ns0 pc lv st w) : sW p l e R s m args below meth c Q dC dI cA A nL fm rg sX sfI wr scr n0 ρ0 M0 ad0 nc0 ns0 pc lv st w := by
  refine ss_ald hS ?_ h Hk
  intro f jn en a wv iv M ad ws H locs ls cst ht hP hw hs hin
  obtain ⟨g, rfl, hg⟩ := hs.1 (by omega)
  exact ⟨_, by rw [← hg]; exact sfitI _, va_cald hx hb hKv hP _ 2 (by rw [ht] at hw; exact hw) rfl hin hdg⟩
theorem ss_lald (hx : p.tables.exec = Jvm.exec) (hb : c.code = cc) (hKv : va_K (dC, dI) vwCl (ztys cA) s) (hS : sST fm rg) (hdg : decode cc pc = .ok (.laload, 1)) (h : sub (sx_ald fm rg 3 1 pc lv st w ret) xs) (Hk : ∀ (pc : Nat) (lv : SL) (st : List SV) (w : SW), sub (ret pc lv st w) xs → sW p l e R s m args below meth c Q dC dI cA A nL fm rg sX sfI wr scr n0 ρ0 M0 ad0 nc0 ns0 pc lv st w) : sW p l e R s m args below meth c Q dC dI cA A nL fm rg sX sfI wr scr n0 ρ0 M0 ad0 nc0 ns0 pc lv st w := by
  refine ss_ald hS ?_ h Hk
  intro f jn en a wv iv M ad ws H locs ls cst ht hP hw hs hin
  obtain ⟨g, rfl, hg⟩ := hs.2.1 (by omega)
  exact ⟨_, by rw [← hg]; exact sfitL _, va_lald hx hb hKv hP _ 3 (by rw [ht] at hw; exact hw) rfl hin hdg⟩
end SRO
end
section
/-! rows of objects, fields, lengths; numbers written -/
def skd (kd : Nat) (K : SK) (e : SE) : Bool := match kd with
  | 0 => true
  | 1 => sin K e 0 1
  | 2 => sin K e 0 65535
  | 3 => true
  | _ => false
def sckD (K : SK) (i v : SE) : SX := sres K i (fun e _ => cond (((sdis K e (sc 0) || sin K v 0 0) && ((sdis K e (sc 1) || sin K v 1 2) && (sdis K e (sc 2) || sin K v 3 4))) && ((sdis K e (sc 3) || sin K v 1 2) && ((sdis K e (sc 4) || sin K v 3 4) && (sdis K e (sc 5) || sin K v 1 2)))) (some []) none) none
def sckN (K : SK) (i v : SE) : SX := cond (sent K v) (some []) (sres K i (fun e _ => cond (sent K (saddc e (-1))) (some []) none) none)
def sckC (K : SK) (ms : List SM) (i v : SE) : Bool := cond (sin K v 0 0) true (match smf ms 27 (sc 0) i with
  | some o => cond (sent K (ssub o v)) true (cond (sent K (ssub (saddc o 1) v) && sent K (ssub v (saddc o 1))) (cond (sent K (sneg o)) true (match smf ms 29 (sc 0) (sadd (smul 6 i) o) with
    | some d => sent K (saddc d (-1))
    | none => false)) false)
  | none => false)
/-- what must hold of a number that is written, beyond its bounds -/
def sckx (w : SW) (f : Nat) (i v : SE) (k : SX) : SX := cond (Nat.beq f 29) (sapp (sckD w.2.2.1 i v) k) (cond (Nat.beq f 50) (sapp (sckN w.2.2.1 i v) k) (cond (Nat.beq f 27) (cond (sckC w.2.2.1 w.1.1 i v) k none) k))
theorem sX_other {M : SMem} {f j i : Nat} {v : Int} (h : sX M) (h1 : f ≠ 29) (h2 : f ≠ 50) (h3 : f ≠ 27) : sX (supd M f j i v) := by
  unfold sX
  rw [supd_ff (fun q => h1 q.symm), supd_ff (fun q => h2 q.symm), supd_ff (fun q => h3 q.symm)]
  exact h
theorem sckx_ok {ρ : Nat → Int} {M : SMem} {w : SW} {f jn i0 : Nat} {i v : SE} {k : SX} {xs : List SS} {fI : Nat → List Int → SMem → Prop} (hK : sK ρ w.2.2.1) (hm : smo fI ρ M w.1) (hX : sX M) (h1 : f = 27 ∨ f = 29 ∨ f = 50 → jn = 0) (hi : (i0 : Int) = sev ρ i) (h : sub (sckx w f i v k) xs) : sX (supd M f jn i0 (sev ρ v)) ∧ sub k xs := by
  unfold sckx at h
  cases c1 : Nat.beq f 29 with
  | true =>
    cases Nat.beq_eq.mp c1
    cases h1 (Or.inr (Or.inl rfl))
    simp only [c1, cond_true] at h
    obtain ⟨h2, h3⟩ := sub_app h
    refine ⟨?_, h3⟩
    unfold sckD at h2
    rcases sres_ok hK h2 with ⟨e, P, e1, e2, e3, h4⟩ | h4
    · obtain ⟨h5, -⟩ := sub_cond h4
      simp only [Bool.and_eq_true, Bool.or_eq_true] at h5
      obtain ⟨⟨d0, d1, d2⟩, d3, d4, d5⟩ := h5
      have hv : (sev ρ e = 0 ∧ sev ρ v = 0) ∨ (sev ρ e = 1 ∧ 1 ≤ sev ρ v ∧ sev ρ v ≤ 2) ∨ (sev ρ e = 2 ∧ 3 ≤ sev ρ v ∧ sev ρ v ≤ 4) ∨ (sev ρ e = 3 ∧ 1 ≤ sev ρ v ∧ sev ρ v ≤ 2) ∨ (sev ρ e = 4 ∧ 3 ≤ sev ρ v ∧ sev ρ v ≤ 4) ∨ (sev ρ e = 5 ∧ 1 ≤ sev ρ v ∧ sev ρ v ≤ 2) := by
        have c6 : sev ρ e = 0 ∨ sev ρ e = 1 ∨ sev ρ e = 2 ∨ sev ρ e = 3 ∨ sev ρ e = 4 ∨ sev ρ e = 5 := by omega
        rcases c6 with c | c | c | c | c | c
        · rcases d0 with d | d
          · exact absurd c (by have := sdis_ok hK d; rw [sev_c] at this; exact this)
          · have := sin_ok hK d; omega
        · rcases d1 with d | d
          · exact absurd c (by have := sdis_ok hK d; rw [sev_c] at this; exact this)
          · have := sin_ok hK d; omega
        · rcases d2 with d | d
          · exact absurd c (by have := sdis_ok hK d; rw [sev_c] at this; exact this)
          · have := sin_ok hK d; omega
        · rcases d3 with d | d
          · exact absurd c (by have := sdis_ok hK d; rw [sev_c] at this; exact this)
          · have := sin_ok hK d; omega
        · rcases d4 with d | d
          · exact absurd c (by have := sdis_ok hK d; rw [sev_c] at this; exact this)
          · have := sin_ok hK d; omega
        · rcases d5 with d | d
          · exact absurd c (by have := sdis_ok hK d; rw [sev_c] at this; exact this)
          · have := sin_ok hK d; omega
      refine ⟨fun i' => ?_, fun p q hq hq6 hc => ?_, fun p => ?_⟩
      · by_cases hii : i' = i0
        · subst hii
          rw [supd_at]
          unfold sD1
          omega
        · rw [supd_i hii]
          exact hX.1 i'
      · rw [supd_f (by decide)] at hc
        by_cases hii : 6 * p + q = i0
        · rw [hii, supd_at]
          omega
        · rw [supd_i hii]
          exact hX.2.1 p q hq hq6 hc
      · rw [supd_f (by decide)]
        exact hX.2.2 p
    · exact (sub_none h4).elim
  | false =>
    simp only [c1, cond_false] at h
    cases c2 : Nat.beq f 50 with
    | true =>
      cases Nat.beq_eq.mp c2
      cases h1 (Or.inr (Or.inr rfl))
      simp only [c2, cond_true] at h
      obtain ⟨h2, h3⟩ := sub_app h
      refine ⟨?_, h3⟩
      have hv : i0 % 6 ≠ 0 ∨ 0 ≤ sev ρ v := by
        unfold sckN at h2
        cases c4 : sent w.2.2.1 v with
        | true => exact Or.inr (sent_ok hK c4)
        | false =>
          rw [c4, cond_false] at h2
          rcases sres_ok hK h2 with ⟨e, P, e1, e2, e3, h4⟩ | h4
          · obtain ⟨h5, -⟩ := sub_cond h4
            have := sent_ok hK h5
            rw [saddc_ev] at this
            exact Or.inl (by omega)
          · exact (sub_none h4).elim
      refine ⟨fun i' => ?_, fun p q hq hq6 hc => ?_, fun p => ?_⟩
      · rw [supd_f (by decide)]
        exact hX.1 i'
      · rw [supd_f (by decide)] at hc ⊢
        exact hX.2.1 p q hq hq6 hc
      · by_cases hii : 6 * p = i0
        · rw [hii, supd_at]
          omega
        · rw [supd_i hii]
          exact hX.2.2 p
    | false =>
      simp only [c2, cond_false] at h
      cases c3 : Nat.beq f 27 with
      | true =>
        cases Nat.beq_eq.mp c3
        cases h1 (Or.inl rfl)
        simp only [c3, cond_true] at h
        obtain ⟨h2, h3⟩ := sub_cond h
        refine ⟨⟨fun i' => ?_, fun p q hq hq6 hc => ?_, fun p => ?_⟩, h3⟩
        · rw [supd_f (by decide)]
          exact hX.1 i'
        · rw [supd_f (by decide)]
          by_cases hii : p = i0
          · subst hii
            rw [supd_at] at hc
            unfold sckC at h2
            cases c4 : sin w.2.2.1 v 0 0 with
            | true =>
              have := sin_ok hK c4
              omega
            | false =>
              rw [c4, cond_false] at h2
              cases c5 : smf w.1.1 27 (sc 0) i with
              | none => rw [c5] at h2; cases h2
              | some o =>
                rw [c5] at h2
                simp only at h2
                have ho := smf_ok (jn := 0) (i0 := p) hm c5 (by rw [sev_c]; rfl) hi
                cases c6 : sent w.2.2.1 (ssub o v) with
                | true =>
                  have := sent_ok hK c6
                  rw [ssub_ev] at this
                  exact hX.2.1 p q hq hq6 (by rw [ho]; omega)
                | false =>
                  rw [c6, cond_false] at h2
                  cases c7 : (sent w.2.2.1 (ssub (saddc o 1) v) && sent w.2.2.1 (ssub v (saddc o 1))) with
                  | false => rw [c7] at h2; cases h2
                  | true =>
                    rw [c7, cond_true] at h2
                    rw [Bool.and_eq_true] at c7
                    have e1 := sent_ok hK c7.1
                    have e2 := sent_ok hK c7.2
                    rw [ssub_ev, saddc_ev] at e1 e2
                    by_cases hqo : (q : Int) < sev ρ o
                    · exact hX.2.1 p q hq hq6 (by rw [ho]; exact hqo)
                    · cases c8 : sent w.2.2.1 (sneg o) with
                      | true =>
                        have := sent_ok hK c8
                        rw [sneg_ev] at this
                        omega
                      | false =>
                        rw [c8, cond_false] at h2
                        cases c9 : smf w.1.1 29 (sc 0) (sadd (smul 6 i) o) with
                        | none => rw [c9] at h2; cases h2
                        | some d =>
                          rw [c9] at h2
                          have h10 := sent_ok hK h2
                          rw [saddc_ev] at h10
                          have h11 := smf_ok (jn := 0) (i0 := 6 * p + q) hm c9 (by rw [sev_c]; rfl) (by rw [sadd_ev, smul_ev]; omega)
                          rw [h11]
                          omega
          · rw [supd_i hii] at hc
            exact hX.2.1 p q hq hq6 hc
        · rw [supd_f (by decide)]
          exact hX.2.2 p
      | false =>
        simp only [c3, cond_false] at h
        exact ⟨sX_other hX (fun q => by rw [q] at c1; cases c1) (fun q => by rw [q] at c2; cases c2) (fun q => by rw [q] at c3; cases c3), h⟩
/-! facts over a number that is written -/
def sgbl (f : Nat) : Option Int := cond (Nat.beq f 37) (some 1) (cond (Nat.beq f 40) (some 12) (cond (Nat.beq f 41 || Nat.beq f 42) (some 1100) none))
def sfdj (K : SK) (f : Nat) (i : SE) (q : Nat × SE × SE) : Bool := cond (Nat.beq q.1 f) (cond (sent K (ssub i q.2.2)) true (sent K (saddc (ssub q.2.1 i) (-1)))) true
def sfgb (K : SK) (i x : SE) (b : Int) : List SFt := cond (sent K (ssub i (smul b x)) && sent K (ssub (saddc (smul b x) (b - 1)) i)) [(2, [x])] []
def sfst (K : SK) (f : Nat) (i : SE) (q : SFt) : List SFt := cond (sall (sfdj K f i) (sfde q.1 q.2)) [q] (cond (Nat.beq q.1 2) (match q.2, sgbl f with
  | [x], some b => cond (sbeq x (sc (-1))) (cond (Nat.beq f 37) (sfgb K i i 1) []) (sfgb K i x b)
  | _, _ => []) [])
theorem sfgb_ok {ρ : Nat → Int} {K : SK} (hK : sK ρ K) {M : SMem} {f jn i0 : Nat} {i x : SE} {b v : Int} (hb : sgbl f = some b) (hi : (i0 : Int) = sev ρ i) (h : sGa M (sev ρ x)) : ∀ q' ∈ sfgb K i x b, sfI q'.1 (q'.2.map (sev ρ)) (supd M f jn i0 v) := by
  intro q' hq
  unfold sfgb at hq
  cases hc : (sent K (ssub i (smul b x)) && sent K (ssub (saddc (smul b x) (b - 1)) i)) with
  | false => rw [hc] at hq; cases hq
  | true =>
    rw [hc, cond_true] at hq
    rw [List.mem_singleton.mp hq]
    rw [Bool.and_eq_true] at hc
    have h1 := sent_ok hK hc.1
    have h2 := sent_ok hK hc.2
    rw [ssub_ev, smul_ev] at h1
    rw [ssub_ev, saddc_ev, smul_ev] at h2
    refine (show sGa (supd M f jn i0 v) (sev ρ x) from fun r hr hx => ?_)
    obtain ⟨g1, g2⟩ := h r hr hx
    unfold sgbl at hb
    by_cases h37 : f = 37
    · subst h37
      cases hb
      have e37 : supd M 37 jn i0 v 37 0 r = M 37 0 r := supd_i (by omega)
      unfold sG
      rw [e37, supd_ff (by decide), supd_ff (by decide), supd_ff (by decide)]
      exact ⟨g1, g2⟩
    · by_cases h40 : f = 40
      · subst h40
        cases hb
        unfold sG
        rw [supd_ff (f' := 37) (by decide), supd_ff (f' := 41) (by decide), supd_ff (f' := 42) (by decide)]
        refine ⟨g1, fun k hk => ?_⟩
        obtain ⟨a, m, y, k1, k2, k3, k4⟩ := g2 k hk
        exact ⟨a, m, y, by rw [supd_i (by omega)]; exact k1, k2, k3, k4⟩
      · by_cases h41 : f = 41
        · subst h41
          cases hb
          unfold sG
          rw [supd_ff (f' := 37) (by decide), supd_ff (f' := 40) (by decide), supd_ff (f' := 42) (by decide)]
          refine ⟨g1, fun k hk => ?_⟩
          obtain ⟨a, m, y, k1, k2, k3, k4⟩ := g2 k hk
          refine ⟨a, m, y, k1, ?_, by rw [supd_i (by omega)]; exact k3, k4⟩
          rw [← k2]
          exact crun_congr m _ _ 0 (fun j hj => ⟨supd_i (by omega), rfl⟩)
        · by_cases h42 : f = 42
          · subst h42
            cases hb
            unfold sG
            rw [supd_ff (f' := 37) (by decide), supd_ff (f' := 40) (by decide), supd_ff (f' := 41) (by decide)]
            refine ⟨g1, fun k hk => ?_⟩
            obtain ⟨a, m, y, k1, k2, k3, k4⟩ := g2 k hk
            refine ⟨a, m, y, k1, ?_, k3, k4⟩
            rw [← k2]
            exact crun_congr m _ _ 0 (fun j hj => ⟨rfl, supd_i (by omega)⟩)
          · have z1 : Nat.beq f 37 = false := by cases hz : Nat.beq f 37 with | true => exact absurd (Nat.beq_eq.mp hz) h37 | false => rfl
            have z2 : Nat.beq f 40 = false := by cases hz : Nat.beq f 40 with | true => exact absurd (Nat.beq_eq.mp hz) h40 | false => rfl
            have z3 : Nat.beq f 41 = false := by cases hz : Nat.beq f 41 with | true => exact absurd (Nat.beq_eq.mp hz) h41 | false => rfl
            have z4 : Nat.beq f 42 = false := by cases hz : Nat.beq f 42 with | true => exact absurd (Nat.beq_eq.mp hz) h42 | false => rfl
            rw [z1, z2, z3, z4] at hb
            cases hb
theorem sfst_ok {ρ : Nat → Int} {K : SK} (hK : sK ρ K) {M : SMem} {f jn i0 : Nat} {i : SE} {v : Int} (hi : (i0 : Int) = sev ρ i) {q : SFt} (h : sfI q.1 (q.2.map (sev ρ)) M) : ∀ q' ∈ sfst K f i q, sfI q'.1 (q'.2.map (sev ρ)) (supd M f jn i0 v) := by
  intro q' hq
  unfold sfst at hq
  cases hc : sall (sfdj K f i) (sfde q.1 q.2) with
  | true =>
    rw [hc, cond_true] at hq
    rw [List.mem_singleton.mp hq]
    refine sfI_congr (fun d hd j' i' h1 h2 => ?_) h
    rw [← sfde_ev ρ q.1 q.2] at hd
    obtain ⟨dd, hd1, rfl⟩ := List.mem_map.mp hd
    have h3 := sall_ok hc dd hd1
    unfold sfdj at h3
    cases hb : Nat.beq dd.1 f with
    | false => exact supd_f (fun e => by rw [Nat.beq_eq.mpr e] at hb; cases hb)
    | true =>
      rw [hb, cond_true] at h3
      simp only at h1 h2
      cases hs : sent K (ssub i dd.2.2) with
      | true =>
        have := sent_ok hK hs
        rw [ssub_ev] at this
        exact supd_i (by omega)
      | false =>
        rw [hs, cond_false] at h3
        have := sent_ok hK h3
        rw [saddc_ev, ssub_ev] at this
        exact supd_i (by omega)
  | false =>
    rw [hc, cond_false] at hq
    obtain ⟨q1, q2⟩ := q
    cases hb : Nat.beq q1 2 with
    | false => simp only [hb, cond_false] at hq; cases hq
    | true =>
      simp only [hb, cond_true] at hq
      cases Nat.beq_eq.mp hb
      match q2, h, hq with
      | [], h, hq => cases hq
      | _ :: _ :: _, h, hq => cases hq
      | [x], h, hq9 =>
        have hg : sGa M (sev ρ x) := h
        cases hs : sgbl f with
        | none => rw [hs] at hq9; cases hq9
        | some b =>
          rw [hs] at hq9
          simp only at hq9
          cases hx : sbeq x (sc (-1)) with
          | false =>
            rw [hx, cond_false] at hq9
            exact sfgb_ok hK hs hi hg q' hq9
          | true =>
            rw [hx, cond_true] at hq9
            cases h37 : Nat.beq f 37 with
            | false => rw [h37] at hq9; cases hq9
            | true =>
              rw [h37, cond_true] at hq9
              cases Nat.beq_eq.mp h37
              refine sfgb_ok hK rfl hi (fun r hr _ => hg r hr ?_) q' hq9
              rw [sbeq_ok hx, sev_c]
              omega
end
section
/-! the steps: rows of objects, fields, lengths -/
noncomputable def sx_len (fm : List SF) (rg : SRg) (pc : Nat) (lv : SL) (st : List SV) (w : SW) (ret : SRt) : SX := match st with
  | v :: st' => cond (Nat.beq v.1 2) (srow fm v.2.1 (fun _ a => cond (Nat.blt a.1 6) (cond (Nat.beq a.2.1 0) (cond (Nat.blt a.2.2.1 2147483648) (ret (pc + 1) lv ((0, 0, sc (a.2.2.1 : Int)) :: st') w) none) (sldk rg a.2.2.1 0 v.2.2 (sc 0) lv st w (fun L w => cond (sin w.2.2.1 L 0 2147483647) (ret (pc + 1) lv ((0, 0, L) :: st') w) none))) none)) none
  | _ => none
section SRP
variable {p : Program} {l : Launch} {e : Env} {R : Room} {s : State} {m : MethodId} {args : Array Value} {below : List Frame} {meth : Method} {c : Code} {Q : State → Prop} {dC : Nat → ClassId} {dI : Nat → Nat → Nat} {cA : Nat → ClassId} {A : Nat → Prop} {nL : Nat} {fm : List SF} {rg : SRg} {wr : SWr} {scr n0 : Nat} {ρ0 : Nat → Int} {M0 : SMem} {ad0 : SAd} {nc0 ns0 : Nat} {cc : ByteArray} {pc : Nat} {lv : SL} {st : List SV} {w : SW} {ret : SRt} {xs : List SS} {own : String}
theorem sst1 {v : SV} {st' : List SV} {n : Nat} (h : sall (fun v => sbe n v.2.2) (v :: st') = true) : sbe n v.2.2 = true := sall_ok h v List.mem_cons_self
theorem sofn {n : Nat} (h : n < 2147483648) : (Int32.ofNat n).toInt = (n : Int) := Int32.toInt_ofNat_of_lt h
theorem ss_len (hx : p.tables.exec = Jvm.exec) (hb : c.code = cc) (hKv : va_K (dC, dI) vwCl (ztys cA) s) (hS : sST fm rg) (hdg : decode cc pc = .ok (.arraylength, 1)) (h : sub (sx_len fm rg pc lv st w ret) xs) (Hk : ∀ (pc : Nat) (lv : SL) (st : List SV) (w : SW), sub (ret pc lv st w) xs → sW p l e R s m args below meth c Q dC dI cA A nL fm rg sX sfI wr scr n0 ρ0 M0 ad0 nc0 ns0 pc lv st w) : sW p l e R s m args below meth c Q dC dI cA A nL fm rg sX sfI wr scr n0 ρ0 M0 ad0 nc0 ns0 pc lv st w := by
  match st, h with
  | [], h => exact (sub_none h).elim
  | v :: st', h =>
    obtain ⟨h0, h⟩ := sub_cond h
    obtain ⟨en, a, hen, ha, h⟩ := srow_ok h
    obtain ⟨ht, h⟩ := sub_cond h
    intro ρ M ad ws H locs ls clv cst hr
    obtain ⟨cv, cr, rfl, h7, h8⟩ := svs_cons hr.2.2.2.2.2.2.2
    have hv2 : v.1 = 2 := Nat.beq_eq.mp h0
    rcases h7 with ⟨q, -⟩ | ⟨q, -⟩ | ⟨-, jn, en', hj, hen', hjn, rfl⟩ | ⟨q, -⟩
    · omega
    · omega
    · cases hen.symm.trans hen'
      obtain ⟨wv, hwv, hse⟩ := hr.2.1.1 _ en hen jn hjn
      unfold sHe at hse
      rw [ha] at hse
      have hlt := zblt ht
      have hx9 : ∃ x : vp_A, wv = .inl (cA a.1, x) ∧ x.1 = slen M jn a := by
        by_cases h3 : a.1 < 3
        · obtain ⟨g, rfl, -⟩ := hse.1 h3
          exact ⟨_, rfl, rfl⟩
        · by_cases h4 : a.1 = 3
          · obtain ⟨g, rfl, -⟩ := hse.2.1 h4
            exact ⟨_, rfl, rfl⟩
          · obtain ⟨g, rfl, -⟩ := hse.2.2 (by omega)
            exact ⟨_, rfl, rfl⟩
      obtain ⟨x, rfl, hx1⟩ := hx9
      cases hc : Nat.beq a.2.1 0 with
      | true =>
        rw [hc, cond_true] at h
        obtain ⟨h1, h2⟩ := sub_cond h
        have hl : slen M jn a = a.2.2.1 := by unfold slen; rw [hc]; rfl
        refine va_alen hx hb hKv hr.2.2.1 _ a.1 hwv (ztys_at cA hlt) rfl hdg (Hk _ _ _ _ h2 ρ M ad ws H locs ls clv _ ⟨hr.1, hr.2.1, hr.2.2.1, hr.2.2.2.1, hr.2.2.2.2.1, hr.2.2.2.2.2.1, hr.2.2.2.2.2.2.1, sv_mkI ?_, h8⟩)
        rw [hx1, hl, sev_c]
        exact sofn (zblt h1)
      | false =>
        rw [hc, cond_false] at h
        obtain ⟨ρ', L, w', a1, a2, a3, a4, a5⟩ := sldk_ok (f := a.2.2.1) (jn := jn) (i0 := 0) hr (fun n hn => ⟨sst1 hn, rfl⟩) rfl hj (by rw [sev_c]; rfl) rfl h
        obtain ⟨h1, h2⟩ := sub_cond a3
        have h3 := sin_ok (srel_sK a2) h1
        have hl : slen M jn a = (M a.2.2.1 jn 0).toNat := by unfold slen; rw [hc]; rfl
        have := Hk _ _ _ _ h2 ρ' M ad ws H locs ls clv (.int (Int32.ofNat x.1) :: cr) ⟨a2.1, a2.2.1, a2.2.2.1, a2.2.2.2.1, a2.2.2.2.2.1, a2.2.2.2.2.2.1, a2.2.2.2.2.2.2.1, sv_mkI (by rw [hx1, hl, sofn (by omega)]; omega), a2.2.2.2.2.2.2.2.2⟩
        rw [a4] at this
        exact va_alen hx hb hKv hr.2.2.1 _ a.1 hwv (ztys_at cA hlt) rfl hdg this
    · omega
theorem ss_aald (hx : p.tables.exec = Jvm.exec) (hb : c.code = cc) (hKv : va_K (dC, dI) vwCl (ztys cA) s) (hS : sST fm rg) (hdg : decode cc pc = .ok (.aaload, 1)) (h : sub (sx_aald fm rg pc lv st w ret) xs) (Hk : ∀ (pc : Nat) (lv : SL) (st : List SV) (w : SW), sub (ret pc lv st w) xs → sW p l e R s m args below meth c Q dC dI cA A nL fm rg sX sfI wr scr n0 ρ0 M0 ad0 nc0 ns0 pc lv st w) : sW p l e R s m args below meth c Q dC dI cA A nL fm rg sX sfI wr scr n0 ρ0 M0 ad0 nc0 ns0 pc lv st w := by
  match st, h with
  | [], h => exact (sub_none h).elim
  | [_], h => exact (sub_none h).elim
  | i :: v :: st', h =>
    obtain ⟨h0, h⟩ := sub_cond h
    rw [Bool.and_eq_true] at h0
    obtain ⟨en, a, hen, ha, h⟩ := srow_ok h
    obtain ⟨ht, h⟩ := sub_cond h
    intro ρ M ad ws H locs ls clv cst hr
    obtain ⟨ci, cr, rfl, h5, h6⟩ := svs_cons hr.2.2.2.2.2.2.2
    obtain ⟨cv, cr, rfl, h7, h8⟩ := svs_cons h6
    obtain ⟨iv, rfl, ei⟩ := sv_int h0.1 h5
    have hv2 : v.1 = 2 := Nat.beq_eq.mp h0.2
    rcases h7 with ⟨q, -⟩ | ⟨q, -⟩ | ⟨-, jn, en', hj, hen', hjn, rfl⟩ | ⟨q, -⟩
    · omega
    · omega
    · cases hen.symm.trans hen'
      have hb1 : ∀ n, sall (fun v => sbe n v.2.2) (i :: v :: st') = true → sbe n v.2.2 = true ∧ sbe n i.2.2 = true := fun n hn => sst2 hn
      obtain ⟨ρ1, w1, b1, b2, b3, b4, b5, b6⟩ := sidx_ok hS hen ha hr hb1 hj h
      have hin : vp_in iv (slen M jn a) := vp_in_iff.mpr ⟨by omega, by omega⟩
      obtain ⟨wv, hwv, hse⟩ := hr.2.1.1 _ en hen jn hjn
      unfold sHe at hse
      rw [ha] at hse
      have hcl := sclamp (x := iv) (by omega)
      rw [zget_eq] at b4
      cases he2 : fm[a.2.2.2]? with
      | none => rw [he2] at b4; exact (sub_none b4).elim
      | some en2 =>
        rw [he2] at b4
        simp only at b4
        obtain ⟨h9, b4⟩ := sub_cond b4
        rw [Bool.and_eq_true] at h9
        have hle := Nat.le_of_ble_eq_true h9.1
        have hl : slen M jn a = a.2.2.1 := by unfold slen; rw [h9.2]; rfl
        rw [Bool.or_eq_true] at ht
        have h34 : 3 < a.1 := by rcases ht with q | q <;> have := Nat.beq_eq.mp q <;> omega
        obtain ⟨g, rfl, hg⟩ := hse.2.2 h34
        have hgi := hg iv.toNatClampNeg (by omega)
        have hnew : sv fm scr ρ1 ad (2, a.2.2.2, i.2.2) (.ref (ad a.2.2.2 iv.toNatClampNeg)) := by
          refine Or.inr (Or.inr (Or.inl ⟨rfl, iv.toNatClampNeg, en2, ?_, he2, by omega, rfl⟩))
          rw [b6 _ (fun n hn => (hb1 n hn).2)]
          omega
        have := Hk _ _ _ _ b4 ρ1 M ad ws H locs ls clv (.ref (ad a.2.2.2 iv.toNatClampNeg) :: cr) ⟨b3.1, b3.2.1, b3.2.2.1, b3.2.2.2.1, b3.2.2.2.2.1, b3.2.2.2.2.2.1, b3.2.2.2.2.2.2.1, hnew, b3.2.2.2.2.2.2.2.2.2⟩
        rw [b5] at this
        rcases ht with q | q
        · have e4 := Nat.beq_eq.mp q
          rw [e4] at hwv
          refine va_aldq hx hb hKv hr.2.2.1 _ 4 hwv rfl hin hdg ?_
          rw [hgi]
          exact this
        · have e4 := Nat.beq_eq.mp q
          rw [e4] at hwv
          refine va_aldq hx hb hKv hr.2.2.1 _ 5 hwv rfl hin hdg ?_
          rw [hgi]
          exact this
    · omega
theorem ss_getf (hx : p.tables.exec = Jvm.exec) (hb : c.code = cc) (hown : s.vm.findClass own = some m.cls) (hts : ∀ w ∈ zT, w.before args s = true) (hKv : va_K (dC, dI) vwCl (ztys cA) s) {idx ci fi N : Nat} {C : String} {T : u_T} (hS : sST fm rg) (hin : ∀ w ∈ u_ws C T N, w ∈ zT) (hc : vwCl[ci]? = some (C, T, N)) (hf : fi < N) (hlk : Cond.fieldLink own idx (T fi).1 (T fi).2.1 (T fi).2.2.1 ∈ zT) (hdg : decode cc pc = .ok (.getfield idx, 3)) (h : sub (sx_getf fm rg ci fi pc lv st w ret) xs) (Hk : ∀ (pc : Nat) (lv : SL) (st : List SV) (w : SW), sub (ret pc lv st w) xs → sW p l e R s m args below meth c Q dC dI cA A nL fm rg sX sfI wr scr n0 ρ0 M0 ad0 nc0 ns0 pc lv st w) : sW p l e R s m args below meth c Q dC dI cA A nL fm rg sX sfI wr scr n0 ρ0 M0 ad0 nc0 ns0 pc lv st w := by
  match st, h with
  | [], h => exact (sub_none h).elim
  | v :: st', h =>
    obtain ⟨h0, h⟩ := sub_cond h
    obtain ⟨en, o, hen, ho, h⟩ := sobj_ok h
    obtain ⟨ht, h⟩ := sub_cond h
    intro ρ M ad ws H locs ls clv cst hr
    obtain ⟨cv, cr, rfl, h7, h8⟩ := svs_cons hr.2.2.2.2.2.2.2
    have hv2 : v.1 = 2 := Nat.beq_eq.mp h0
    rcases h7 with ⟨q, -⟩ | ⟨q, -⟩ | ⟨-, jn, en', hj, hen', hjn, rfl⟩ | ⟨q, -⟩
    · omega
    · omega
    · cases hen.symm.trans hen'
      obtain ⟨wv, hwv, hse⟩ := hr.2.1.1 _ en hen jn hjn
      unfold sHe at hse
      rw [ho] at hse
      obtain ⟨gs, rfl, hgl, hg⟩ := hse
      rw [Nat.beq_eq.mp ht] at hwv
      rw [zget_eq] at h
      cases hsp : o.2[fi]? with
      | none => rw [hsp] at h; exact (sub_none h).elim
      | some sp =>
        rw [hsp] at h
        simp only at h
        obtain ⟨g0, g1⟩ := hg fi sp hsp
        cases hk0 : Nat.beq sp.1 0 with
        | true =>
          rw [hk0, cond_true] at h
          obtain ⟨x, hx1, hx2⟩ := g0 (Nat.beq_eq.mp hk0)
          obtain ⟨ρ', e', w', a1, a2, a3, a4, a5⟩ := sldk_ok (f := v.2.1) (jn := jn) (i0 := fi) hr (fun n hn => ⟨sst1 hn, rfl⟩) rfl hj (by rw [sev_c]) rfl h
          have := Hk _ _ _ _ a3 ρ' M ad ws H locs ls clv (.int x :: cr) ⟨a2.1, a2.2.1, a2.2.2.1, a2.2.2.2.1, a2.2.2.2.2.1, a2.2.2.2.2.2.1, a2.2.2.2.2.2.2.1, sv_mkI (by rw [hx2, a1]), a2.2.2.2.2.2.2.2.2⟩
          rw [a4] at this
          exact va_get hx hb hts hin hown hKv hr.2.2.1 _ hwv hc fi hf (hts _ hlk) (fun _ z => z) hx1 hdg this
        | false =>
          rw [hk0, cond_false] at h
          obtain ⟨hk1, h⟩ := sub_cond h
          rw [zget_eq] at h
          cases he2 : fm[sp.2.1]? with
          | none => rw [he2] at h; exact (sub_none h).elim
          | some en2 =>
            rw [he2] at h
            simp only at h
            obtain ⟨h9, h⟩ := sub_cond h
            have hx1 := g1 (Nat.beq_eq.mp hk1)
            refine va_get hx hb hts hin hown hKv hr.2.2.1 _ hwv hc fi hf (hts _ hlk) (fun _ z => z) hx1 hdg (Hk _ _ _ _ h ρ M ad ws H locs ls clv _ ⟨hr.1, hr.2.1, hr.2.2.1, hr.2.2.2.1, hr.2.2.2.2.1, hr.2.2.2.2.2.1, hr.2.2.2.2.2.2.1, Or.inr (Or.inr (Or.inl ⟨rfl, _, en2, ?_, he2, ?_, rfl⟩)), h8⟩)
            · cases Nat.beq sp.2.2 0 with
              | true => simp only [cond_true, sev_c]; rfl
              | false => exact hj
            · cases hm : Nat.beq sp.2.2 0 with
              | true =>
                rw [hm, cond_true] at h9
                exact Nat.le_of_ble_eq_true h9
              | false =>
                rw [hm, cond_false] at h9
                exact Nat.lt_of_lt_of_le hjn (Nat.le_of_ble_eq_true h9)
    · omega
end SRP
end
section
/-! numbers written -/
def sWR (md : List (Nat × Nat)) (wl : List (Nat × SE)) (n0 : Nat) (ρ0 : Nat → Int) (wr : SWr) : Prop := wr.1 = md ∧ ∀ q ∈ wr.2, ∃ e, (q.1, e) ∈ wl ∧ sbe n0 e = true ∧ q.2 = sev ρ0 e
def smem2 (a b : Nat) : List (Nat × Nat) → Bool
  | [] => false
  | q :: r => cond (Nat.beq q.1 a && Nat.beq q.2 b) true (smem2 a b r)
theorem smem2_ok {a b : Nat} : ∀ {l : List (Nat × Nat)}, smem2 a b l = true → (a, b) ∈ l := by
  intro l
  induction l with
  | nil => intro h; cases h
  | cons q r ih =>
    intro h
    unfold smem2 at h
    cases hc : (Nat.beq q.1 a && Nat.beq q.2 b) with
    | true =>
      rw [Bool.and_eq_true] at hc
      have e : (a, b) = q := Prod.ext (Nat.beq_eq.mp hc.1).symm (Nat.beq_eq.mp hc.2).symm
      rw [e]
      exact List.mem_cons_self
    | false =>
      rw [hc, cond_false] at h
      exact List.mem_cons_of_mem _ (ih h)
def srgin (rg : SRg) (f cn : Nat) (K : SK) (v : SE) : Bool := match srg rg f cn with
  | some q => sin K v q.1 q.2
  | none => false
def swlok (wl : List (Nat × SE)) (K : SK) (f : Nat) (i : SE) : Bool := sall (fun q => cond (Nat.beq q.1 f) (sent K (ssub i q.2)) true) wl
def sstx (rg : SRg) (md : List (Nat × Nat)) (wl : List (Nat × SE)) (f cn : Nat) (j i v : SE) (w : SW) (k : SW → SX) : SX := cond (srgin rg f cn w.2.2.1 v && (smem2 f (scl rg f cn) md && swlok wl w.2.2.1 f i)) (sckx w f i v (sll (w.1.1.filter (smk w.2.2.1 f j i)) (fun ms => sll (w.1.2.flatMap (sfst w.2.2.1 f i)) (fun fs => k (((f, j, i, v) :: ms, fs), w.2))))) none
section SSO
variable {p : Program} {l : Launch} {e : Env} {R : Room} {s : State} {m : MethodId} {args : Array Value} {below : List Frame} {meth : Method} {c : Code} {Q : State → Prop} {dC : Nat → ClassId} {dI : Nat → Nat → Nat} {cA : Nat → ClassId} {A : Nat → Prop} {nL : Nat} {fm : List SF} {rg : SRg} {wr : SWr} {scr n0 : Nat} {ρ0 : Nat → Int} {M0 : SMem} {ad0 : SAd} {nc0 ns0 : Nat} {cc : ByteArray} {pc : Nat} {lv : SL} {st : List SV} {w : SW} {ret : SRt} {xs : List SS} {own : String}
variable {md : List (Nat × Nat)} {wl : List (Nat × SE)} {ρ : Nat → Int} {M : SMem} {ad : SAd} {ws ws' : va_W} {H H1 : Heap} {locs locs1 : List Loc} {ls : Array Slot} {clv : ZL} {cst : List Value} {f cn jn i0 : Nat} {j i v : SE} {k : SW → SX} {en : SF}
theorem sstx_ok (hS : sST fm rg) (hwr : sWR md wl n0 ρ0 wr) (hr : sRel fm rg sX sfI wr scr n0 ρ0 M0 ad0 dC dI cA A s.heap nL lv st w ρ M ad ws H locs ls clv cst) (hen : fm[f]? = some en) (hjn : jn < en.2.2.1) (hcn : srg rg f i0 = srg rg f cn ∧ scl rg f i0 = scl rg f cn) (hj : (jn : Int) = sev ρ j) (hi : (i0 : Int) = sev ρ i) (h : sub (sstx rg md wl f cn j i v w k) xs) {wv : va_E} (hse : sHe ad (supd M f jn i0 (sev ρ v)) cA f jn en wv) (h1 : va_P (dC, dI) vwCl (ws.set (spos en jn) (ad f jn, wv)) H1) (h2 : va_D A (ws.set (spos en jn) (ad f jn, wv))) (h3 : va_S A s.heap H1 locs1) : ∃ w', sub (k w') xs ∧ w'.2.2.2 = w.2.2.2 ∧ sRel fm rg sX sfI wr scr n0 ρ0 M0 ad0 dC dI cA A s.heap nL lv st w' ρ (supd M f jn i0 (sev ρ v)) ad (ws.set (spos en jn) (ad f jn, wv)) H1 locs1 ls clv cst := by
  unfold sstx at h
  obtain ⟨h0, h⟩ := sub_cond h
  simp only [Bool.and_eq_true] at h0
  obtain ⟨c1, c2, c3⟩ := h0
  obtain ⟨⟨ag, hn, hK⟩, ⟨r1, ⟨hI, hX⟩, hmo, hfr⟩, r2, r3, r4, rr⟩ := hr
  obtain ⟨s1, s2, s3, s4, s5, s6, s7, s8, s9⟩ := hS
  obtain ⟨hX2, h⟩ := sckx_ok (jn := jn) hK hmo hX (fun q => by
    have h9 := s7 f (by rcases q with rfl | rfl | rfl <;> simp) en hen
    omega) hi h
  rw [sll_eq, sll_eq] at h
  refine ⟨_, h, rfl, ⟨ag, hn, hK⟩, ⟨sH_set s1 s2 r1 hen hjn hse, ⟨sI_put hI (fun q hq => ?_) (fun q hq => by rw [s3] at hq; cases hq), hX2⟩, ⟨fun q hq => ?_, fun q hq => ?_⟩, sfr_put hfr ?_ (fun q hq hqf => ?_)⟩, h1, h2, h3, rr.1, rr.2.1, rr.2.2⟩
  · unfold srgin at c1
    rw [hcn.1] at hq
    rw [hq] at c1
    exact sin_ok hK c1
  · rcases List.mem_cons.mp hq with rfl | hq
    · exact ⟨jn, i0, hj, hi, supd_at _ _ _ _ _⟩
    · obtain ⟨q1, q2⟩ := List.mem_filter.mp hq
      exact smk_ok hK q2 hj hi (hmo.1 q q1)
  · obtain ⟨q0, q1, q2⟩ := List.mem_flatMap.mp hq
    exact sfst_ok hK hi (hmo.2 q0 q1) q q2
  · rw [hwr.1, hcn.2]
    exact smem2_ok c2
  · obtain ⟨e, e1, e2, e3⟩ := hwr.2 q hq
    have h9 := sall_ok c3 _ e1
    simp only at h9
    rw [Nat.beq_eq.mpr hqf, cond_true] at h9
    have h10 := sent_ok hK h9
    rw [ssub_ev, sbe_ev (ρ := ρ0) (ρ' := ρ) ag e2] at h10
    omega
theorem snarb {x : Int32} (h0 : 0 ≤ x.toInt) (h1 : x.toInt ≤ 1) : vp_nar .boolean x = x := by
  have h2 : x = 0 ∨ x = 1 := by
    by_cases h : x.toInt = 0
    · exact Or.inl (Int32.toInt_inj.mp h)
    · exact Or.inr (Int32.toInt_inj.mp (show x.toInt = 1 by omega))
  rcases h2 with rfl | rfl <;> rfl
theorem snarc {x : Int32} (h0 : 0 ≤ x.toInt) (h1 : x.toInt ≤ 65535) : vp_nar .char x = x := by
  have h2 : (x.toUInt32 % 65536).toInt32.toInt = x.toInt := (s2c x).2.2 ⟨h0, h1⟩
  exact Int32.toInt_inj.mp h2
end SSO
noncomputable def sx_ast (fm : List SF) (rg : SRg) (md : List (Nat × Nat)) (wl : List (Nat × SE)) (t tc : Nat) (pc : Nat) (lv : SL) (st : List SV) (w : SW) (ret : SRt) : SX := match st with
  | x :: i :: v :: st' => cond (Nat.beq x.1 tc && (Nat.beq i.1 0 && (Nat.beq v.1 2 && skd t w.2.2.1 x.2.2))) (srow fm v.2.1 (fun _ a => cond (Nat.beq a.1 t) (sidx rg a v.2.2 i.2.2 lv st w (fun w => sstx rg md wl v.2.1 0 v.2.2 i.2.2 x.2.2 w (fun w => ret (pc + 1) lv st' w))) none)) none
  | _ => none
noncomputable def sx_putf (fm : List SF) (rg : SRg) (md : List (Nat × Nat)) (wl : List (Nat × SE)) (ci fi kd : Nat) (pc : Nat) (lv : SL) (st : List SV) (w : SW) (ret : SRt) : SX := match st with
  | x :: v :: st' => cond (Nat.beq x.1 0 && (Nat.beq v.1 2 && (Nat.blt kd 2 && skd kd w.2.2.1 x.2.2))) (sobj fm v.2.1 (fun _ o => cond (Nat.beq o.1 ci) (match zget o.2 fi with
    | some sp => cond (Nat.beq sp.1 0) (sstx rg md wl v.2.1 fi v.2.2 (sc (fi : Int)) x.2.2 w (fun w => ret (pc + 3) lv st' w)) none
    | none => none) none)) none
  | _ => none
section SSP
variable {p : Program} {l : Launch} {e : Env} {R : Room} {s : State} {m : MethodId} {args : Array Value} {below : List Frame} {meth : Method} {c : Code} {Q : State → Prop} {dC : Nat → ClassId} {dI : Nat → Nat → Nat} {cA : Nat → ClassId} {A : Nat → Prop} {nL : Nat} {fm : List SF} {rg : SRg} {wr : SWr} {scr n0 : Nat} {ρ0 : Nat → Int} {M0 : SMem} {ad0 : SAd} {nc0 ns0 : Nat} {cc : ByteArray} {pc : Nat} {lv : SL} {st : List SV} {w : SW} {ret : SRt} {xs : List SS} {own : String}
variable {md : List (Nat × Nat)} {wl : List (Nat × SE)}
theorem ss_ast {t tc : Nat} (htc : tc < 2) (hS : sST fm rg) (hwr : sWR md wl n0 ρ0 wr) (hrow : ∀ (f jn : Nat) (en : SF) (a : Nat × Nat × Nat × Nat) (wv : va_E) (iv : Int32) (cx : Value) (K : SK) (ρ : Nat → Int) (x : SE) (M : SMem) (ad : SAd) (ws : va_W) (H : Heap) (locs : List Loc) (ls : Array Slot) (cst : List Value), a.1 = t → en.2.2.2 = .inr a → sK ρ K → skd t K x = true → sfit tc cx (sev ρ x) → va_P (dC, dI) vwCl ws H → va_D A ws → va_S A s.heap H locs → ws[spos en jn]? = some (ad f jn, wv) → sHa ad M cA f jn a wv → slen (supd M f jn iv.toNatClampNeg (sev ρ x)) jn a = slen M jn a → vp_in iv (slen M jn a) → ∃ wv', sHe ad (supd M f jn iv.toNatClampNeg (sev ρ x)) cA f jn en wv' ∧ ((∀ (H1 : Heap) (locs1 : List Loc), va_P (dC, dI) vwCl (ws.set (spos en jn) (ad f jn, wv')) H1 → va_D A (ws.set (spos en jn) (ad f jn, wv')) → va_S A s.heap H1 locs1 → W p l e R s m args below meth c H1 locs1 (nc0 + w.2.2.2.1) (ns0 + w.2.2.2.2) Q (F0 m (pc + 1) ls cst)) → W p l e R s m args below meth c H locs (nc0 + w.2.2.2.1) (ns0 + w.2.2.2.2) Q (F0 m pc ls (cx :: .int iv :: .ref (ad f jn) :: cst)))) (h : sub (sx_ast fm rg md wl t tc pc lv st w ret) xs) (Hk : ∀ (pc : Nat) (lv : SL) (st : List SV) (w : SW), sub (ret pc lv st w) xs → sW p l e R s m args below meth c Q dC dI cA A nL fm rg sX sfI wr scr n0 ρ0 M0 ad0 nc0 ns0 pc lv st w) : sW p l e R s m args below meth c Q dC dI cA A nL fm rg sX sfI wr scr n0 ρ0 M0 ad0 nc0 ns0 pc lv st w := by
  match st, h with
  | [], h => exact (sub_none h).elim
  | [_], h => exact (sub_none h).elim
  | [_, _], h => exact (sub_none h).elim
  | x :: i :: v :: st', h =>
    obtain ⟨h0, h⟩ := sub_cond h
    simp only [Bool.and_eq_true] at h0
    obtain ⟨k1, k2, k3, k4⟩ := h0
    obtain ⟨en, a, hen, ha, h⟩ := srow_ok h
    obtain ⟨ht, h⟩ := sub_cond h
    intro ρ M ad ws H locs ls clv cst hr
    obtain ⟨cx, cr, rfl, h3, h4⟩ := svs_cons hr.2.2.2.2.2.2.2
    obtain ⟨ci, cr, rfl, h5, h6⟩ := svs_cons h4
    obtain ⟨cv, cr, rfl, h7, h8⟩ := svs_cons h6
    obtain ⟨iv, rfl, ei⟩ := sv_int k2 h5
    have hv2 : v.1 = 2 := Nat.beq_eq.mp k3
    rcases h7 with ⟨q, -⟩ | ⟨q, -⟩ | ⟨-, jn, en', hj, hen', hjn, rfl⟩ | ⟨q, -⟩
    · omega
    · omega
    · cases hen.symm.trans hen'
      have hb0 : ∀ n, sall (fun v => sbe n v.2.2) (x :: i :: v :: st') = true → sbe n x.2.2 = true ∧ sbe n v.2.2 = true ∧ sbe n i.2.2 = true := fun n hn => ⟨sall_ok hn x List.mem_cons_self, sall_ok hn v (List.mem_cons_of_mem _ (List.mem_cons_of_mem _ List.mem_cons_self)), sall_ok hn i (List.mem_cons_of_mem _ List.mem_cons_self)⟩
      obtain ⟨ρ1, w1, b1, b2, b3, b4, b5, b6⟩ := sidx_ok hS hen ha hr (fun n hn => (hb0 n hn).2) hj h
      have hin : vp_in iv (slen M jn a) := vp_in_iff.mpr ⟨by omega, by omega⟩
      obtain ⟨wv, hwv, hse⟩ := hr.2.1.1 _ en hen jn hjn
      unfold sHe at hse
      rw [ha] at hse
      have hcl := sclamp (x := iv) (by omega)
      have ex : sev ρ1 x.2.2 = sev ρ x.2.2 := b6 _ (fun n hn => (hb0 n hn).1)
      have hsl : slen (supd M v.2.1 jn iv.toNatClampNeg (sev ρ x.2.2)) jn a = slen M jn a := slen_congr (fun hz => supd_f (by
        have q1 := hS.2.1 _ en a hen ha hz
        have q2 : v.2.1 < fm.length := (List.getElem?_eq_some_iff.mp hen).1
        omega))
      obtain ⟨wv', g1, g2⟩ := hrow v.2.1 jn en a wv iv cx _ ρ x.2.2 M ad ws H locs ls cr (Nat.beq_eq.mp ht) ha (srel_sK hr) k4 (sv_fit k1 htc h3) hr.2.2.1 hr.2.2.2.1 hr.2.2.2.2.1 hwv hse hsl hin
      refine g2 (fun H1 locs1 p1 p2 p3 => ?_)
      have hrow6 := hS.2.2.2.2.2.1 _ en a hen ha iv.toNatClampNeg
      have hrow0 := hS.2.2.2.2.2.1 _ en a hen ha 0
      obtain ⟨w2, c1, c2, c3⟩ := sstx_ok (i0 := iv.toNatClampNeg) hS hwr b3 hen hjn ⟨hrow6.1, hrow6.2.trans hrow0.2.symm⟩ (by rw [b6 _ (fun n hn => (hb0 n hn).2.1)]; exact hj) (by rw [b6 _ (fun n hn => (hb0 n hn).2.2)]; omega) b4 (by rw [ex]; exact g1) p1 p2 p3
      have := Hk _ _ _ _ c1 ρ1 _ ad _ H1 locs1 ls clv cr ⟨c3.1, c3.2.1, c3.2.2.1, c3.2.2.2.1, c3.2.2.2.2.1, c3.2.2.2.2.2.1, c3.2.2.2.2.2.2.1, c3.2.2.2.2.2.2.2.2.2.2⟩
      rw [c2, b5] at this
      exact this
    · omega
theorem supd_upd {M : SMem} {f jn i0 : Nat} {g : Nat → Int32} {x : Int32} (hg : ∀ i, (g i).toInt = M f jn i) (i : Nat) : (upd g i0 x i).toInt = supd M f jn i0 x.toInt f jn i := by
  by_cases h : i = i0
  · subst h
    rw [supd_at]
    simp [upd]
  · rw [supd_i h, ← hg i]
    simp [upd, h]
theorem supd_updL {M : SMem} {f jn i0 : Nat} {g : Nat → Int64} {x : Int64} (hg : ∀ i, (g i).toInt = M f jn i) (i : Nat) : (vp_updL g i0 x i).toInt = supd M f jn i0 x.toInt f jn i := by
  by_cases h : i = i0
  · subst h
    rw [supd_at]
    simp [vp_updL]
  · rw [supd_i h, ← hg i]
    simp [vp_updL, h]
theorem ss_iast (hx : p.tables.exec = Jvm.exec) (hb : c.code = cc) (hKv : va_K (dC, dI) vwCl (ztys cA) s) (hS : sST fm rg) (hwr : sWR md wl n0 ρ0 wr) (hdg : decode cc pc = .ok (.iastore, 1)) (h : sub (sx_ast fm rg md wl 0 0 pc lv st w ret) xs) (Hk : ∀ (pc : Nat) (lv : SL) (st : List SV) (w : SW), sub (ret pc lv st w) xs → sW p l e R s m args below meth c Q dC dI cA A nL fm rg sX sfI wr scr n0 ρ0 M0 ad0 nc0 ns0 pc lv st w) : sW p l e R s m args below meth c Q dC dI cA A nL fm rg sX sfI wr scr n0 ρ0 M0 ad0 nc0 ns0 pc lv st w := by
  refine ss_ast (by decide) hS hwr ?_ h Hk
  intro f jn en a wv iv cx K ρ x M ad ws H locs ls cst ht ha hK hk hx9 hP hD hS9 hw hs hsl hin
  obtain ⟨x, rfl, ex⟩ := sfit0 hx9
  obtain ⟨g, rfl, hg⟩ := hs.1 (by omega)
  rw [← ex] at hsl ⊢
  refine ⟨.inl (cA a.1, slen M jn a, .inl (upd g iv.toNatClampNeg x)), ?_, fun kk => ?_⟩
  · unfold sHe
    rw [ha]
    exact ⟨fun _ => ⟨_, by rw [hsl], supd_upd hg⟩, fun q => by omega, fun q => by omega⟩
  · rw [ht] at hw kk
    exact va_iast hx hb hKv hP hD hS9 _ 0 hw rfl hin hdg kk
theorem ss_zast (hx : p.tables.exec = Jvm.exec) (hb : c.code = cc) (hKv : va_K (dC, dI) vwCl (ztys cA) s) (hS : sST fm rg) (hwr : sWR md wl n0 ρ0 wr) (hdg : decode cc pc = .ok (.bastore, 1)) (h : sub (sx_ast fm rg md wl 1 0 pc lv st w ret) xs) (Hk : ∀ (pc : Nat) (lv : SL) (st : List SV) (w : SW), sub (ret pc lv st w) xs → sW p l e R s m args below meth c Q dC dI cA A nL fm rg sX sfI wr scr n0 ρ0 M0 ad0 nc0 ns0 pc lv st w) : sW p l e R s m args below meth c Q dC dI cA A nL fm rg sX sfI wr scr n0 ρ0 M0 ad0 nc0 ns0 pc lv st w := by
  refine ss_ast (by decide) hS hwr ?_ h Hk
  intro f jn en a wv iv cx K ρ x M ad ws H locs ls cst ht ha hK hk hx9 hP hD hS9 hw hs hsl hin
  have hk2 := sin_ok hK (show sin K x 0 1 = true from hk)
  obtain ⟨x, rfl, ex⟩ := sfit0 hx9
  obtain ⟨g, rfl, hg⟩ := hs.1 (by omega)
  rw [← ex] at hsl hk2 ⊢
  refine ⟨.inl (cA a.1, slen M jn a, .inl (upd g iv.toNatClampNeg x)), ?_, fun kk => ?_⟩
  · unfold sHe
    rw [ha]
    exact ⟨fun _ => ⟨_, by rw [hsl], supd_upd hg⟩, fun q => by omega, fun q => by omega⟩
  · rw [ht] at hw kk
    have hn := snarb hk2.1 hk2.2
    exact va_zast hx hb hKv hP hD hS9 _ 1 hw rfl hin hdg (by rw [hn]; exact kk)
theorem ss_cast (hx : p.tables.exec = Jvm.exec) (hb : c.code = cc) (hKv : va_K (dC, dI) vwCl (ztys cA) s) (hS : sST fm rg) (hwr : sWR md wl n0 ρ0 wr) (hdg : decode cc pc = .ok (.castore, 1)) (h : sub (sx_ast fm rg md wl 2 0 pc lv st w ret) xs) (Hk : ∀ (pc : Nat) (lv : SL) (st : List SV) (w : SW), sub (ret pc lv st w) xs → sW p l e R s m args below meth c Q dC dI cA A nL fm rg sX sfI wr scr n0 ρ0 M0 ad0 nc0 ns0 pc lv st w) : sW p l e R s m args below meth c Q dC dI cA A nL fm rg sX sfI wr scr n0 ρ0 M0 ad0 nc0 ns0 pc lv st w := by
  refine ss_ast (by decide) hS hwr ?_ h Hk
  intro f jn en a wv iv cx K ρ x M ad ws H locs ls cst ht ha hK hk hx9 hP hD hS9 hw hs hsl hin
  have hk2 := sin_ok hK (show sin K x 0 65535 = true from hk)
  obtain ⟨x, rfl, ex⟩ := sfit0 hx9
  obtain ⟨g, rfl, hg⟩ := hs.1 (by omega)
  rw [← ex] at hsl hk2 ⊢
  refine ⟨.inl (cA a.1, slen M jn a, .inl (upd g iv.toNatClampNeg x)), ?_, fun kk => ?_⟩
  · unfold sHe
    rw [ha]
    exact ⟨fun _ => ⟨_, by rw [hsl], supd_upd hg⟩, fun q => by omega, fun q => by omega⟩
  · rw [ht] at hw kk
    have hn := snarc hk2.1 hk2.2
    exact va_cast hx hb hKv hP hD hS9 _ 2 hw rfl hin hdg (by rw [hn]; exact kk)
theorem ss_last (hx : p.tables.exec = Jvm.exec) (hb : c.code = cc) (hKv : va_K (dC, dI) vwCl (ztys cA) s) (hS : sST fm rg) (hwr : sWR md wl n0 ρ0 wr) (hdg : decode cc pc = .ok (.lastore, 1)) (h : sub (sx_ast fm rg md wl 3 1 pc lv st w ret) xs) (Hk : ∀ (pc : Nat) (lv : SL) (st : List SV) (w : SW), sub (ret pc lv st w) xs → sW p l e R s m args below meth c Q dC dI cA A nL fm rg sX sfI wr scr n0 ρ0 M0 ad0 nc0 ns0 pc lv st w) : sW p l e R s m args below meth c Q dC dI cA A nL fm rg sX sfI wr scr n0 ρ0 M0 ad0 nc0 ns0 pc lv st w := by
  refine ss_ast (by decide) hS hwr ?_ h Hk
  intro f jn en a wv iv cx K ρ x M ad ws H locs ls cst ht ha hK hk hx9 hP hD hS9 hw hs hsl hin
  obtain ⟨x, rfl, ex⟩ := sfit1 hx9
  obtain ⟨g, rfl, hg⟩ := hs.2.1 (by omega)
  rw [← ex] at hsl ⊢
  refine ⟨.inl (cA a.1, slen M jn a, .inr (.inl (vp_updL g iv.toNatClampNeg x))), ?_, fun kk => ?_⟩
  · unfold sHe
    rw [ha]
    exact ⟨fun q => by omega, fun _ => ⟨_, by rw [hsl], supd_updL hg⟩, fun q => by omega⟩
  · rw [ht] at hw kk
    exact va_last hx hb hKv hP hD hS9 _ 3 hw rfl hin hdg kk
theorem sx_putn {ty : FieldType} {kd : Nat} {K : SK} {ρ : Nat → Int} {e : SE} {x : Int32} (hK : sK ρ K) (hkd : kd < 2) (hk : skd kd K e = true) (ht : zkt kd ty = true) (hx : x.toInt = sev ρ e) : narrow ty (.int x) = .int x ∧ fits ty (.int x) = true := by
  match kd, hkd, hk, ht with
  | 0, _, _, ht =>
    cases ty with
    | int => exact ⟨rfl, rfl⟩
    | _ => cases ht
  | 1, _, hk, ht =>
    cases ty with
    | boolean =>
      have h := sin_ok hK (show sin K e 0 1 = true from hk)
      have h2 : x = 0 ∨ x = 1 := by
        by_cases h : x.toInt = 0
        · exact Or.inl (Int32.toInt_inj.mp h)
        · exact Or.inr (Int32.toInt_inj.mp (show x.toInt = 1 by omega))
      rcases h2 with rfl | rfl <;> exact ⟨rfl, rfl⟩
    | _ => cases ht
theorem ss_putf (hx : p.tables.exec = Jvm.exec) (hb : c.code = cc) (hown : s.vm.findClass own = some m.cls) (hts : ∀ w ∈ zT, w.before args s = true) (hKv : va_K (dC, dI) vwCl (ztys cA) s) {idx ci fi kd N : Nat} {C : String} {T : u_T} {ty0 : Nat → FieldType} {ty : FieldType} (hS : sST fm rg) (hwr : sWR md wl n0 ρ0 wr) (hin : ∀ w ∈ u_ws C T N, w ∈ zT) (hty : ∀ k, k < N → parseFieldDescriptor (T k).2.2.1 = some (ty0 k)) (hnm : ∀ a, a < N → ∀ b, b < N → a ≠ b → (T a).2.1 ≠ (T b).2.1) (hc : vwCl[ci]? = some (C, T, N)) (hf : fi < N) (hlk : Cond.fieldLink own idx (T fi).1 (T fi).2.1 (T fi).2.2.1 ∈ zT) (hfin : (T fi).2.2.2 = false) (hd : parseFieldDescriptor (T fi).2.2.1 = some ty) (hkt : zkt kd ty = true) (hdg : decode cc pc = .ok (.putfield idx, 3)) (h : sub (sx_putf fm rg md wl ci fi kd pc lv st w ret) xs) (Hk : ∀ (pc : Nat) (lv : SL) (st : List SV) (w : SW), sub (ret pc lv st w) xs → sW p l e R s m args below meth c Q dC dI cA A nL fm rg sX sfI wr scr n0 ρ0 M0 ad0 nc0 ns0 pc lv st w) : sW p l e R s m args below meth c Q dC dI cA A nL fm rg sX sfI wr scr n0 ρ0 M0 ad0 nc0 ns0 pc lv st w := by
  match st, h with
  | [], h => exact (sub_none h).elim
  | [_], h => exact (sub_none h).elim
  | x :: v :: st', h =>
    obtain ⟨h0, h⟩ := sub_cond h
    simp only [Bool.and_eq_true] at h0
    obtain ⟨k1, k2, k3, k4⟩ := h0
    obtain ⟨en, o, hen, ho, h⟩ := sobj_ok h
    obtain ⟨ht, h⟩ := sub_cond h
    intro ρ M ad ws H locs ls clv cst hr
    obtain ⟨cx, cr, rfl, h3, h4⟩ := svs_cons hr.2.2.2.2.2.2.2
    obtain ⟨cv, cr, rfl, h7, h8⟩ := svs_cons h4
    obtain ⟨xv, rfl, ex⟩ := sv_int k1 h3
    have hv2 : v.1 = 2 := Nat.beq_eq.mp k2
    rcases h7 with ⟨q, -⟩ | ⟨q, -⟩ | ⟨-, jn, en', hj, hen', hjn, rfl⟩ | ⟨q, -⟩
    · omega
    · omega
    · cases hen.symm.trans hen'
      obtain ⟨wv, hwv, hse⟩ := hr.2.1.1 _ en hen jn hjn
      unfold sHe at hse
      rw [ho] at hse
      obtain ⟨gs, rfl, hgl, hg⟩ := hse
      rw [zget_eq] at h
      cases hsp : o.2[fi]? with
      | none => rw [hsp] at h; exact (sub_none h).elim
      | some sp =>
        rw [hsp] at h
        simp only at h
        obtain ⟨hk0, h⟩ := sub_cond h
        have hlen : fi < gs.length := by rw [hgl]; exact (List.getElem?_eq_some_iff.mp hsp).1
        obtain ⟨hn, hfit⟩ := sx_putn (srel_sK hr) (zblt k3) k4 hkt ex
        have hci := Nat.beq_eq.mp ht
        have hwv' := hwv
        rw [hci] at hwv'
        refine va_put hx hb hts hin ty0 hty hnm hown hKv hr.2.2.1 hr.2.2.2.1 hr.2.2.2.2.1 _ hwv' hc fi hf (hts _ hlk) (fun _ z => z) hfin hd hn hfit hlen hdg (fun H1 locs1 p1 p2 p3 => ?_)
        rw [← hci] at p1 p2
        obtain ⟨w2, c1, c2, c3⟩ := sstx_ok (i0 := fi) hS hwr hr hen hjn ⟨rfl, rfl⟩ hj (by rw [sev_c]) h (wv := .inr (o.1, gs.set fi (.int xv))) (by
          unfold sHe
          rw [ho]
          refine ⟨_, rfl, by rw [List.length_set]; exact hgl, fun i' sp' hs' => ?_⟩
          obtain ⟨g0, g1⟩ := hg i' sp' hs'
          by_cases hii : i' = fi
          · subst hii
            cases hsp.symm.trans hs'
            refine ⟨fun _ => ⟨xv, List.getElem?_set_self hlen, by rw [supd_at]; exact ex⟩, fun q => ?_⟩
            rw [Nat.beq_eq.mp hk0] at q
            cases q
          · rw [List.getElem?_set_ne (fun q => hii q.symm), supd_i hii]
            exact ⟨g0, g1⟩) p1 p2 p3
        have := Hk _ _ _ _ c1 ρ _ ad _ H1 locs1 ls clv cr ⟨c3.1, c3.2.1, c3.2.2.1, c3.2.2.2.1, c3.2.2.2.2.1, c3.2.2.2.2.2.1, c3.2.2.2.2.2.2.1, c3.2.2.2.2.2.2.2.2.2⟩
        rw [c2] at this
        exact this
    · omega
end SSP
end
section
/-! calls: what a method does, told by a predicate of what it answers and of the world behind it -/
abbrev SEx : Type := (Nat → Prop) → State → Heap → Prop
/-- what is known beside the world: it lives on where nothing outside the world changes -/
def sEXok (EX : SEx) : Prop := (∀ A U H H1, EX A U H → (∀ a : Nat, a < H.size → ¬ A a → H1[a]? = H[a]?) → EX A U H1) ∧ (∀ (A B : Nat → Prop) U H, EX A U H → (∀ q, B q → A q) → EX B U H) ∧ (∀ A (s U : State) H, s.WarmedH U.vm → EX A s H → EX A U H) ∧ (∀ A (u U : State) H, u.vm = U.vm → EX A u H → EX A U H) ∧ ∀ A U H, EX A U H → zX U
def sF (d : Nat) (me : ZMe) (EX : SEx) (p : Program) (R : Room) (s : State) (m : MethodId) (args : Array Value) (c : Code) (dC : Nat → ClassId) (dI : Nat → Nat → Nat) (cA : Nat → ClassId) (A : Nat → Prop) : Prop :=
  p.tables.exec = Jvm.exec ∧ c.code = me.2.2.1 ∧ c.maxLocals = me.2.2.2.1 ∧ s.vm.findClass me.1 = some m.cls ∧ (∀ w ∈ zT, w.before args s = true) ∧ va_K (dC, dI) vwCl (ztys cA) s ∧ (∀ q, s.heap.size ≤ q → A q) ∧ (d ≤ R.frames ∧ 40 * d ≤ R.locals) ∧ (me.2.2.2.2.2.1 ≤ R.cells ∧ me.2.2.2.2.2.2 ≤ R.slots) ∧ EX A s s.heap
def sret (me : ZMe) (pc : Nat) (r : List Value) : Prop := match me.2.2.2.2.1 with
  | none => decode me.2.2.1 pc = .ok (.return_, 1) ∧ r = []
  | some ty => decode me.2.2.1 pc = .ok (.ireturn, 1) ∧ ∃ x : Int32, r = [.int x] ∧ narrow ty (.int x) = .int x
/-- from its entry with these arguments in this world the method comes to a return where PO holds -/
def sRun (d : Nat) (me : ZMe) (EX : SEx) (l : Launch) (dC : Nat → ClassId) (dI : Nat → Nat → Nat) (cA : Nat → ClassId) (ws : va_W) (cas : List Value) (PO : List Value → va_W → Prop) : Prop :=
  ∀ (p : Program) (e : Env) (R : Room) (s : State) (m : MethodId) (args : Array Value) (below : List Frame) (meth : Method) (c : Code) (Q : State → Prop) (A : Nat → Prop) (ls : Array Slot), sF d me EX p R s m args c dC dI cA A → va_P (dC, dI) vwCl ws s.heap → va_D A ws → lv_has ls me.2.2.2.1 (lv_args 0 cas) →
    (∀ (pc' : Nat) (ls' : Array Slot) (r : List Value) (ws' : va_W) (H : Heap) (locs : List Loc) (nc ns : Nat), sret me pc' r → PO r ws' → va_P (dC, dI) vwCl ws' H → va_D A ws' → va_S A s.heap H locs → nc ≤ me.2.2.2.2.2.1 → ns ≤ me.2.2.2.2.2.2 → W p l e R s m args below meth c H locs nc ns Q (F0 m pc' ls' r)) →
    W p l e R s m args below meth c s.heap [] 0 0 Q (F0 m 0 ls [])
def sB (EX : SEx) (dC : Nat → ClassId) (dI : Nat → Nat → Nat) (cA : Nat → ClassId) (ws : va_W) (sz : Nat) (U : State) : Prop := U.heap.size = sz ∧ va_P (dC, dI) vwCl ws U.heap ∧ va_K (dC, dI) vwCl (ztys cA) U ∧ va_D (fun _ => True) ws ∧ EX (va_A ws sz) U U.heap
section SCA
variable {EX : SEx} {d : Nat} {own : String} {y : MethodName} {cc : ByteArray} {mL bc bs : Nat} {l : Launch} {dC : Nat → ClassId} {dI : Nat → Nat → Nat} {cA : Nat → ClassId} {cas : List Value} {ws : va_W} {sz : Nat} {PO : List Value → va_W → Prop}
theorem sB_blind (hEX : sEXok EX) : FrameBlind (va_Pc cas (sB EX dC dI cA ws sz)) := by
  intro a U g mk q
  obtain ⟨q0, q1, qP, qK, qD, qX⟩ := q
  exact ⟨q0, q1, qP, va_K.moved (u := U) (U := U.calling g mk a) (Vm.Alike.refl U.vm) qK, qD, hEX.2.2.2.1 _ U (U.calling g mk a) _ rfl qX⟩
theorem smetv (hpl : Jvm.plainName y.cls = true) (hoy : own = y.cls) (hlen : (lg_sl cas).length ≤ mL) (H0 : sRun d (own, y, cc, mL, none, bc, bs) EX l dC dI cA ws cas PO) :
    Met l y (.code y cc mL none :: zT) { frames := d, cells := bc, slots := bs, locals := 40 * d } (va_Pc cas (sB EX dC dI cA ws sz)) (va_Qv (PO []) (zend dC dI cA (va_A ws sz)) (va_A ws sz)) bc bs (va_A ws sz) := by
  refine Met.ofW (cc := cc) (maxL := mL) (ret := none) hpl rfl ?_
  intro p e s m args below meth c s₁ B hml hv
  obtain ⟨rfl, hsz, hP, hK, hD0, hE9⟩ := hv
  have hx := B.exec
  have hb := B.bytes
  have hr := B.returns
  have hts := atoms_spec (ws := .code y cc mL none :: zT) B.pre
  have hown : s.vm.findClass y.cls = some m.cls := findClass_of_methodNamed B.named
  have hlocks := B.notSynchronized
  subst hsz
  have hD := hD0.self (sz := s.heap.size)
  have hl := lv_entry cas (n := mL) hlen
  rw [lg_entry_eq]
  generalize (lg_sl cas ++ List.replicate (mL - (lg_sl cas).length) Slot.unset).toArray = ls at hl ⊢
  refine H0 p e _ s m _ below meth c _ (va_A ws s.heap.size) ls ⟨hx, hb, hml, by rw [hoy]; exact hown, fun w hw => hts w (List.mem_cons_of_mem _ hw), hK, fun q h => Or.inr h, ⟨Nat.le_refl _, Nat.le_refl _⟩, ⟨Nat.le_refl _, Nat.le_refl _⟩, hE9⟩ hP hD hl ?_
  intro pc' ls' r ws' H locs nc ns h1 h2 h3 h4 h5 h6 h7
  obtain ⟨hdec, rfl⟩ := (show decode cc pc' = .ok (.return_, 1) ∧ r = [] from h1)
  refine W.widen h6 h7 ?_
  exact W.vret hx hb hr (fun t ht hW => ⟨⟨ws', rfl, h2, by rw [ht]; exact h3, va_K.moved hW.alike hK, h4⟩, h5.F ht⟩) h5.2.2 hdec
theorem smeti {ty : FieldType} (hpl : Jvm.plainName y.cls = true) (hoy : own = y.cls) (hlen : (lg_sl cas).length ≤ mL) (H0 : sRun d (own, y, cc, mL, some ty, bc, bs) EX l dC dI cA ws cas PO) :
    Met l y (.code y cc mL (some ty) :: zT) { frames := d, cells := bc, slots := bs, locals := 40 * d } (va_Pc cas (sB EX dC dI cA ws sz)) (va_Qi (fun x u => PO [.int x] u) (zend dC dI cA (va_A ws sz)) (va_A ws sz)) bc bs (va_A ws sz) := by
  refine Met.ofW (cc := cc) (maxL := mL) (ret := some ty) hpl rfl ?_
  intro p e s m args below meth c s₁ B hml hv
  obtain ⟨rfl, hsz, hP, hK, hD0, hE9⟩ := hv
  have hx := B.exec
  have hb := B.bytes
  have hr := B.returns
  have hts := atoms_spec (ws := .code y cc mL (some ty) :: zT) B.pre
  have hown : s.vm.findClass y.cls = some m.cls := findClass_of_methodNamed B.named
  have hlocks := B.notSynchronized
  subst hsz
  have hD := hD0.self (sz := s.heap.size)
  have hl := lv_entry cas (n := mL) hlen
  rw [lg_entry_eq]
  generalize (lg_sl cas ++ List.replicate (mL - (lg_sl cas).length) Slot.unset).toArray = ls at hl ⊢
  refine H0 p e _ s m _ below meth c _ (va_A ws s.heap.size) ls ⟨hx, hb, hml, by rw [hoy]; exact hown, fun w hw => hts w (List.mem_cons_of_mem _ hw), hK, fun q h => Or.inr h, ⟨Nat.le_refl _, Nat.le_refl _⟩, ⟨Nat.le_refl _, Nat.le_refl _⟩, hE9⟩ hP hD hl ?_
  intro pc' ls' r ws' H locs nc ns h1 h2 h3 h4 h5 h6 h7
  obtain ⟨hdec, x, rfl, hnar⟩ := (show decode cc pc' = .ok (.ireturn, 1) ∧ ∃ x : Int32, r = [.int x] ∧ narrow ty (.int x) = .int x from h1)
  refine W.widen h6 h7 ?_
  exact W.zret hx hb hr hnar (fun t ht hW => ⟨⟨x, ws', rfl, h2, by rw [ht]; exact h3, va_K.moved hW.alike hK, h4⟩, h5.F ht⟩) h5.2.2 hdec
end SCA
section SCB
variable {EX : SEx} {p : Program} {l : Launch} {e : Env} {R : Room} {s : State} {m : MethodId} {args : Array Value} {below : List Frame} {meth : Method} {c : Code} {dC : Nat → ClassId} {dI : Nat → Nat → Nat} {cA : Nat → ClassId} {A : Nat → Prop} {nL : Nat} {cc : ByteArray} {pc : Nat} {nc ns : Nat} {own : String}
/-- the call itself, by its kind -/
theorem srun (hEX : sEXok EX) {y : MethodName} {idx kd n mL mc ms d' : Nat} {rt : Option FieldType} {bytes : ByteArray} {ins : Instr} {Qc : Array Value → State → Outcome → State → Prop} {ws : va_W} {H : Heap} {locs : List Loc} {ls : Array Slot} {cst cas crest : List Value}
    (hx : p.tables.exec = Jvm.exec) (hb : c.code = cc) (hml : c.maxLocals = nL) (hown : s.vm.findClass own = some m.cls) (hts : ∀ w ∈ zT, w.before args s = true) (hKv : va_K (dC, dI) vwCl (ztys cA) s) (hP : va_P (dC, dI) vwCl ws H) (hD : va_D A ws) (hls : ls.size = nL)
    (hM : Met l y (.code y bytes mL rt :: zT) { frames := d', cells := mc, slots := ms, locals := 40 * d' } (va_Pc cas (sB EX dC dI cA ws H.size)) Qc mc ms (va_A ws H.size))
    (hz9 : EX A s H) (hAA : ∀ q, va_A ws H.size q → A q) (hw : ∀ w ∈ zcw own idx kd y bytes mL rt, w ∈ zT) (hnest : kd = 1 ∨ kd = 5 → Cond.methodLinkNest own idx y "NamesUnder" ∈ zNl) (hd : y.cls ≠ "java/lang/invoke/MethodHandle" ∧ y.cls ≠ "java/lang/invoke/VarHandle" ∧ (parseMethodDescriptor y.desc).map (fun d => d.parameters.length) = some n) (hm : mL ≤ 21) (hk4 : kd ≤ 2)
    (hR : d' + 1 ≤ R.frames ∧ 40 * (d' + 1) ≤ R.locals) (hf : nc + mc ≤ R.cells ∧ ns + ms ≤ R.slots)
    (hst : cst = cas.reverse ++ crest) (h8 : (crest.map fun v => v.category).sum ≤ 8) (hn : cas.length = if kd ≤ 1 then n else n + 1)
    (hrc : 2 ≤ kd → ∃ (b : Nat) (as2 : List Value), cas = .ref b :: as2 ∧ (kd = 2 → ∃ cell : Cell, H[b]? = some cell ∧ cell.vm.isStatics = false ∧ s.vm.findClass y.cls = some cell.cls))
    (hins : (kd = 0 ∨ kd = 1) ∧ ins = .invokestatic idx ∨ kd = 2 ∧ ins = .invokevirtual idx) (hdg : decode cc pc = .ok (ins, 3)) :
    va_Run p l e R s m args below meth c H locs nc ns mc ms (F0 m pc ls cst) crest (Qc cas.toArray) (va_A ws H.size) := by
  have hroom := lv_room (m := m) (pc := pc) (ls := ls) (rest := cst) h8
  have hpre : ∀ U : State, U.heap = H → s.WarmedH U.vm → va_Pc cas (sB EX dC dI cA ws H.size) cas.toArray U := fun U hU hW => ⟨rfl, by rw [hU], by rw [hU]; exact hP, va_K.moved hW.alike hKv, hD.weaken (fun _ _ _ _ => trivial), by rw [hU]; exact hEX.2.2.1 _ s U H hW (hEX.2.1 _ _ _ _ hz9 hAA)⟩
  have hR2 : 8 + (mL + 11) + 40 * d' ≤ R.locals := by omega
  have hzX := hEX.2.2.2.2 _ _ _ hz9
  rcases hins with ⟨h0 | h0, rfl⟩ | ⟨h0, rfl⟩
  · subst h0
    rw [if_pos (by decide)] at hn
    have w1 := hw (.methodLink own idx y) (by simp [zcw])
    have w2 := hw (.static y) (by simp [zcw])
    have w3 := hw (.initialized y.cls) (by simp [zcw])
    have w4 := hw (.code y bytes mL rt) (by simp [zcw])
    exact va_runS (Ts := zT) (own := own) ⟨hx, hb, hml, hown, hts⟩ hM ⟨callB_of n hts (zT_good1 w4) rfl rfl rfl (hts _ w3) (hts _ w1) hd ⟨hR.1, hR2⟩, hts _ w2⟩ ⟨sB_blind hEX, hpre⟩ rfl hn hls hst hroom hdg hf
  · subst h0
    rw [if_pos (by decide)] at hn
    have w1 := hzX.1 _ (hnest (Or.inl rfl))
    have w2 := hw (.static y) (by simp [zcw])
    have w3 := hw (.initialized y.cls) (by simp [zcw])
    have w4 := hw (.code y bytes mL rt) (by simp [zcw])
    exact va_runSN (Ts := zT) (own := own) ⟨hx, hb, hml, hown, hts⟩ hM ⟨va_cnB n hts (zT_good1 w4) rfl rfl rfl w1 (hts _ w3) hd ⟨hR.1, hR2⟩, hts _ w2, trivial⟩ ⟨sB_blind hEX, hpre⟩ rfl hn hls hst hroom hdg hf
  · subst h0
    rw [if_neg (by decide)] at hn
    have w1 := hw (.methodLink own idx y) (by simp [zcw])
    have w2 := hw (.instanceMethod y) (by simp [zcw])
    have w3 := hw (.initialized y.cls) (by simp [zcw])
    have w4 := hw (.code y bytes mL rt) (by simp [zcw])
    have w5 := hw (.selects y.cls y y) (by simp [zcw])
    obtain ⟨b, as2, rfl, hcell⟩ := hrc (by decide)
    have hcell := hcell rfl
    exact va_runV (Ts := zT) (own := own) (C := y.cls) (As := as2) (b := b) ⟨hx, hb, hml, hown, hts⟩ hM ⟨callB_of n hts (zT_good1 w4) rfl rfl rfl (hts _ w3) (hts _ w1) hd ⟨hR.1, hR2⟩, hts _ w2, hts _ w5⟩ ⟨sB_blind hEX, hcell, hpre⟩ rfl (by simpa using hn) hls (by rw [hst]; simp) hroom hdg hf
end SCB
end
section
/-! a call, from what the callee does -/
theorem sEX_now {EX : SEx} (hEX : sEXok EX) {A : Nat → Prop} {s : State} {H : Heap} {locs : List Loc} (h : EX A s s.heap) (hS : va_S A s.heap H locs) : EX A s H := hEX.1 _ _ _ _ h (fun a ha hn => by
  have := hS.2.1
  exact hS.2.1 a ha hn)
section SCC
variable {EX : SEx} {p : Program} {l : Launch} {e : Env} {R : Room} {s : State} {m : MethodId} {args : Array Value} {below : List Frame} {meth : Method} {c : Code} {Q : State → Prop} {dC : Nat → ClassId} {dI : Nat → Nat → Nat} {cA : Nat → ClassId} {A : Nat → Prop} {pc : Nat} {nc ns : Nat}
theorem scall (hEX : sEXok EX) {d' idx kd kc n ci : Nat} {is : List Nat} {ins : Instr} {zm : List ZMe} {me me2 : ZMe} {ws : va_W} {H : Heap} {locs : List Loc} {ls : Array Slot} {clv : ZL} {cst cas crest : List Value} {PO : List Value → va_W → Prop}
    (F : sF (d' + 1) me EX p R s m args c dC dI cA A) (hmc : zm[kc]? = some me2) (hcal : zcal zm me.1 idx kd kc n ci is = true) (hRun : sRun d' me2 EX l dC dI cA ws cas PO)
    (hP : va_P (dC, dI) vwCl ws H) (hD : va_D A ws) (hS : va_S A s.heap H locs) (hl : lv_has ls me.2.2.2.1 clv)
    (hst : cst = cas.reverse ++ crest) (h8 : (crest.map fun v => v.category).sum ≤ 8) (hlen : (lg_sl cas).length ≤ me2.2.2.2.1) (hn : cas.length = if kd ≤ 1 then n else n + 1)
    (hrc : 2 ≤ kd → ∃ (b : Nat) (as2 : List Value), cas = .ref b :: as2 ∧ (kd = 2 → ∃ cell : Cell, H[b]? = some cell ∧ cell.vm.isStatics = false ∧ s.vm.findClass me2.2.1.cls = some cell.cls))
    (hff : nc + me2.2.2.2.2.2.1 ≤ R.cells ∧ ns + me2.2.2.2.2.2.2 ≤ R.slots)
    (hins : (kd = 0 ∨ kd = 1) ∧ ins = .invokestatic idx ∨ kd = 2 ∧ ins = .invokevirtual idx) (hdg : decode me.2.2.1 pc = .ok (ins, 3))
    (kk : ∀ (r : List Value) (ws' : va_W) (H1 : Heap) (locs1 : List Loc), PO r ws' → va_P (dC, dI) vwCl ws' H1 → va_D A ws' → va_S A s.heap H1 locs1 → W p l e R s m args below meth c H1 locs1 (nc + me2.2.2.2.2.2.1) (ns + me2.2.2.2.2.2.2) Q (F0 m (pc + 3) ls (r ++ crest))) :
    W p l e R s m args below meth c H locs nc ns Q (F0 m pc ls cst) := by
  obtain ⟨hx, hb, hml, hown, hts, hK, hA, hRd, hRb, hE9⟩ := F
  obtain ⟨own2, y2, cc2, mL2, rt2, bc2, bs2⟩ := me2
  unfold zcal at hcal
  rw [hmc] at hcal
  simp only [Bool.and_eq_true] at hcal
  obtain ⟨c1, c2, c3, c4, c5, c6, c7, c8⟩ := hcal
  have hoy : own2 = y2.cls := of_decide_eq_true c5
  have hfree := zfree hD hS hA
  have hk4 : kd ≤ 2 := by
    rcases hins with ⟨h | h, -⟩ | ⟨h, -⟩ <;> omega
  have hE2 := sEX_now hEX hE9 hS
  have hff : nc + bc2 ≤ R.cells ∧ ns + bs2 ≤ R.slots := hff
  cases rt2 with
  | none =>
    have hM := smetv (l := l) (sz := H.size) c4 hoy hlen hRun
    have hR9 := srun (e := e) (below := below) (meth := meth) (locs := locs) (nc := nc) (ns := ns) (own := me.1) hEX hx hb hml hown hts hK hP hD hl.1 hM hE2 hfree (zcwk_ok c1).1 (zcwk_ok c1).2 (of_decide_eq_true c2) (Nat.le_of_ble_eq_true c3) hk4 hRd hff hst h8 hn hrc hins hdg
    refine va_callv hR9 hS (fun q _ h => hfree q h) hfree (fun u t H1 locs1 ht hvm hw hB hz1 hk1 hS1 => ?_)
    obtain ⟨hP1, hK1, hD1⟩ := hB
    rw [ht] at hP1
    exact kk [] u H1 locs1 hw hP1 (hD1.weaken (fun _ q _ z => hfree q.1 z)) hS1
  | some ty =>
    have hM := smeti (l := l) (sz := H.size) c4 hoy hlen hRun
    have hR9 := srun (e := e) (below := below) (meth := meth) (locs := locs) (nc := nc) (ns := ns) (own := me.1) hEX hx hb hml hown hts hK hP hD hl.1 hM hE2 hfree (zcwk_ok c1).1 (zcwk_ok c1).2 (of_decide_eq_true c2) (Nat.le_of_ble_eq_true c3) hk4 hRd hff hst h8 hn hrc hins hdg
    refine va_calli hR9 hS (fun q _ h => hfree q h) hfree (fun x u t H1 locs1 ht hvm hw hB hz1 hk1 hS1 => ?_)
    obtain ⟨hP1, hK1, hD1⟩ := hB
    rw [ht] at hP1
    exact kk [.int x] u H1 locs1 hw hP1 (hD1.weaken (fun _ q _ z => hfree q.1 z)) hS1
end SCC
end
section
/-! facts that follow -/
def seqv (K : SK) (a b : SE) : Bool := cond (sbeq a b) true (sent K (ssub a b) && sent K (ssub b a))
theorem seqv_ok {ρ : Nat → Int} {K : SK} (hK : sK ρ K) {a b : SE} (h : seqv K a b = true) : sev ρ a = sev ρ b := by
  unfold seqv at h
  cases hb : sbeq a b with
  | true => rw [sbeq_ok hb]
  | false =>
    rw [hb, cond_false, Bool.and_eq_true] at h
    have h1 := sent_ok hK h.1
    have h2 := sent_ok hK h.2
    rw [ssub_ev] at h1 h2
    omega
def sall2 {α : Type} (f : α → α → Bool) : List α → List α → Bool
  | [], [] => true
  | a :: r, b :: q => cond (f a b) (sall2 f r q) false
  | _, _ => false
theorem sall2_ev {ρ : Nat → Int} {K : SK} (hK : sK ρ K) : ∀ {a b : List SE}, sall2 (seqv K) a b = true → a.map (sev ρ) = b.map (sev ρ) := by
  intro a
  induction a with
  | nil =>
    intro b h
    cases b with
    | nil => rfl
    | cons _ _ => cases h
  | cons x a ih =>
    intro b h
    cases b with
    | nil => cases h
    | cons y b =>
      unfold sall2 at h
      cases hc : seqv K x y with
      | false => rw [hc] at h; cases h
      | true =>
        rw [hc, cond_true] at h
        rw [List.map_cons, List.map_cons, seqv_ok hK hc, ih h]
/-- memos of a single row; facts of a sort -/
def srw (f : Nat) (g : SE → SE → Bool) (ms : List SM) : Bool := sany (fun q => Nat.beq q.1 f && (sbeq q.2.1 (sc 0) && g q.2.2.1 q.2.2.2)) ms
def sfa2 (k : Nat) (g : SE → SE → Bool) (fs : List SFt) : Bool := sany (fun q => cond (Nat.beq q.1 k) (match q.2 with
  | [a, b] => g a b
  | _ => false) false) fs
def sfa1 (k : Nat) (g : SE → Bool) (fs : List SFt) : Bool := sany (fun q => cond (Nat.beq q.1 k) (match q.2 with
  | [a] => g a
  | _ => false) false) fs
section SDE
variable {ρ : Nat → Int} {M : SMem} {K : SK} {ms : List SM} {fs : List SFt}
theorem srw_ok {f : Nat} {g : SE → SE → Bool} (hm : ∀ q ∈ ms, ∃ j i : Nat, (j : Int) = sev ρ q.2.1 ∧ (i : Int) = sev ρ q.2.2.1 ∧ M q.1 j i = sev ρ q.2.2.2) (h : srw f g ms = true) : ∃ (i : SE) (v : SE) (i0 : Nat), g i v = true ∧ (i0 : Int) = sev ρ i ∧ M f 0 i0 = sev ρ v := by
  obtain ⟨q, h1, h2⟩ := sany_ok h
  simp only [Bool.and_eq_true] at h2
  obtain ⟨h3, h4, h5⟩ := h2
  obtain ⟨j, i, e1, e2, e3⟩ := hm q h1
  rw [sbeq_ok h4, sev_c] at e1
  have e0 : j = 0 := by omega
  subst e0
  rw [Nat.beq_eq.mp h3] at e3
  exact ⟨q.2.2.1, q.2.2.2, i, h5, e2, e3⟩
theorem sfa2_ok {k : Nat} {g : SE → SE → Bool} (hf : ∀ q ∈ fs, sfI q.1 (q.2.map (sev ρ)) M) (h : sfa2 k g fs = true) : ∃ a b, g a b = true ∧ sfI k [sev ρ a, sev ρ b] M := by
  obtain ⟨q, h1, h2⟩ := sany_ok h
  have h3 := hf q h1
  obtain ⟨q1, q2⟩ := q
  cases hk : Nat.beq q1 k with
  | false => simp only [hk, cond_false] at h2; cases h2
  | true =>
    simp only [hk, cond_true] at h2
    cases Nat.beq_eq.mp hk
    match q2, h2, h3 with
    | [a, b], h2, h3 => exact ⟨a, b, h2, h3⟩
    | [], h2, _ => cases h2
    | [_], h2, _ => cases h2
    | _ :: _ :: _ :: _, h2, _ => cases h2
theorem sfa1_ok {k : Nat} {g : SE → Bool} (hf : ∀ q ∈ fs, sfI q.1 (q.2.map (sev ρ)) M) (h : sfa1 k g fs = true) : ∃ a, g a = true ∧ sfI k [sev ρ a] M := by
  obtain ⟨q, h1, h2⟩ := sany_ok h
  have h3 := hf q h1
  obtain ⟨q1, q2⟩ := q
  cases hk : Nat.beq q1 k with
  | false => simp only [hk, cond_false] at h2; cases h2
  | true =>
    simp only [hk, cond_true] at h2
    cases Nat.beq_eq.mp hk
    match q2, h2, h3 with
    | [a], h2, h3 => exact ⟨a, h2, h3⟩
    | [], h2, _ => cases h2
    | _ :: _ :: _, h2, _ => cases h2
end SDE
/-- a piece of code that puts one number on the pile -/
def sdSeg (K : SK) (ms : List SM) (fs : List SFt) (a b : SE) : Bool := srw 41 (fun i c => cond (seqv K (saddc i (-6599)) b) (cond (sbeq c (sc 1)) (seqv K (saddc i (-6600)) a) (cond (sbeq c (sc 2)) (cond (seqv K (saddc i (-6600)) a) (srw 42 (fun i2 o => cond (seqv K i2 i) (sin K o 0 6) false) ms) false) (cond (sbeq c (sc 3)) (sfa2 0 (fun x y => cond (seqv K x a) (seqv K y (saddc i (-6600))) false) fs) (cond (sisc c && (decide (4 ≤ c.1) && decide (c.1 ≤ 10))) (sfa2 0 (fun x y => cond (seqv K x a) (sfa2 0 (fun x2 y2 => cond (seqv K x2 y) (seqv K y2 (saddc i (-6600))) false) fs) false) fs) false)))) false) ms
def sdDr (K : SK) (ms : List SM) (fs : List SFt) (c n : SE) : Bool := cond (sbeq n (sc 0)) true (sfa2 1 (fun c0 n0 => cond (sent K (ssub c c0)) (cond (seqv K n0 n) true (cond (seqv K (saddc n0 1) n) (srw 40 (fun i v => cond (seqv K i (saddc n0 72)) (sfa2 0 (fun x y => cond (seqv K x v) (srw 41 (fun i2 o => cond (sbeq o (sc 0)) (cond (seqv K i2 (saddc y 6600)) (sent K (ssub c (saddc y 1))) false) false) ms) false) fs) false) ms) false)) false) fs)
def sdGa (K : SK) (ms : List SM) (fs : List SFt) (a : SE) : Bool := sfa1 2 (fun r => cond (sbeq r (sc (-1))) true (cond (sbeq a (sc (-1))) (cond (sin K r 0 5) (srw 37 (fun i n => cond (seqv K i r && sin K n 0 12) (sfa2 1 (fun c n1 => cond (seqv K n1 n) (cond (sin K c 0 1099) (cond (sfa2 3 (fun r2 k => cond (seqv K r2 r) (seqv K k n) false) fs) (sfa2 4 (fun r2 k => cond (seqv K r2 r) (seqv K k c) false) fs) false) false) false) fs) false) ms) false) false)) fs
def sdCpl (K : SK) (ms : List SM) (fs : List SFt) (r k : SE) : Bool := cond (sbeq k (sc 0)) true (sfa2 3 (fun r0 k0 => cond (seqv K r0 r) (cond (seqv K (saddc k0 1) k) (srw 40 (fun i v => cond (seqv K i (sadd (smul 12 r) k0)) (srw 40 (fun i2 v2 => cond (seqv K i2 (saddc k0 72)) (seqv K v v2) false) ms) false) ms) false) false) fs)
def sdCpc (K : SK) (ms : List SM) (fs : List SFt) (r k : SE) : Bool := cond (sbeq k (sc 0)) true (sfa2 4 (fun r0 k0 => cond (seqv K r0 r) (cond (seqv K (saddc k0 1) k) (cond (srw 41 (fun i v => cond (seqv K i (sadd (smul 1100 r) k0)) (srw 41 (fun i2 v2 => cond (seqv K i2 (saddc k0 6600)) (seqv K v v2) false) ms) false) ms) (srw 42 (fun i v => cond (seqv K i (sadd (smul 1100 r) k0)) (srw 42 (fun i2 v2 => cond (seqv K i2 (saddc k0 6600)) (seqv K v v2) false) ms) false) ms) false) false) false) fs)
def sdWft (K : SK) (ms : List SM) (fs : List SFt) (i h : SE) : Bool := cond (sbeq h (sc 0)) (sfa1 2 (fun x => cond (sbeq x (sc (-1))) (srw 37 (fun r n => cond (sin K r 0 5) (srw 40 (fun k v => cond (seqv K i (sadd (smul 1100 r) v)) (sent K (ssub k (smul 12 r)) && sent K (saddc (ssub (sadd (smul 12 r) n) k) (-1))) false) ms) false) ms) false) fs) false
def sdEs (K : SK) (ms : List SM) (fs : List SFt) (c n : SE) : Bool := cond (sbeq n (sc 0)) true (sfa2 7 (fun c0 n0 => cond (sent K (ssub c c0)) (cond (sent K (ssub n0 n)) true (cond (seqv K (saddc n0 1) n) (srw 104 (fun i v => cond (seqv K i n0) (sent K (ssub c v)) false) ms) false)) false) fs)
def sfd (K : SK) (ms : List SM) (fs : List SFt) (q : SFt) : Bool := cond (sany (fun p => Nat.beq p.1 q.1 && sall2 (seqv K) p.2 q.2) fs) true (match q.1, q.2 with
  | 0, [a, b] => cond (sent K a) (sdSeg K ms fs a b) false
  | 1, [c, n] => sdDr K ms fs c n
  | 2, [a] => sdGa K ms fs a
  | 3, [r, k] => sdCpl K ms fs r k
  | 4, [r, k] => sdCpc K ms fs r k
  | 5, [i, h] => sdWft K ms fs i h
  | 7, [c, n] => sdEs K ms fs c n
  | _, _ => false)
theorem bcond {a b : Bool} (h : cond a b false = true) : a = true ∧ b = true := by
  cases a with
  | true => exact ⟨rfl, h⟩
  | false => cases h
section SDF
variable {ρ : Nat → Int} {M : SMem} {K : SK} {ms : List SM} {fs : List SFt}
theorem sdSeg_ok (hK : sK ρ K) (hm : ∀ q ∈ ms, ∃ j i : Nat, (j : Int) = sev ρ q.2.1 ∧ (i : Int) = sev ρ q.2.2.1 ∧ M q.1 j i = sev ρ q.2.2.2) (hf : ∀ q ∈ fs, sfI q.1 (q.2.map (sev ρ)) M) {a b : SE} (ha : 0 ≤ sev ρ a) (h : sdSeg K ms fs a b = true) : sSeg M (sev ρ a) (sev ρ b) := by
  obtain ⟨i, c, i0, h1, h2, h3⟩ := srw_ok hm h
  obtain ⟨h1, h4⟩ := bcond h1
  have e1 := seqv_ok hK h1
  rw [saddc_ev] at e1
  cases c1 : sbeq c (sc 1) with
  | true =>
    rw [c1, cond_true] at h4
    have e2 := seqv_ok hK h4
    rw [saddc_ev] at e2
    rw [sbeq_ok c1, sev_c] at h3
    refine ⟨1, (sev ρ a).toNat, by omega, by omega, fun h => ?_⟩
    rw [crun_succ, show 6600 + (sev ρ a).toNat = i0 from by omega, h3]
    rfl
  | false =>
    rw [c1, cond_false] at h4
    cases c2 : sbeq c (sc 2) with
    | true =>
      rw [c2, cond_true] at h4
      obtain ⟨h4, h5⟩ := bcond h4
      have e2 := seqv_ok hK h4
      rw [saddc_ev] at e2
      rw [sbeq_ok c2, sev_c] at h3
      obtain ⟨i2, o, i3, k1, k2, k3⟩ := srw_ok hm h5
      obtain ⟨k1, k4⟩ := bcond k1
      have e3 := seqv_ok hK k1
      have e4 := sin_ok hK k4
      have e5 : i3 = i0 := by omega
      subst e5
      refine ⟨1, (sev ρ a).toNat, by omega, by omega, fun h => ?_⟩
      rw [crun_succ, show 6600 + (sev ρ a).toNat = i3 from by omega, h3, k3]
      unfold cstep
      rw [if_neg (by decide), if_pos rfl, if_pos e4]
      rfl
    | false =>
      rw [c2, cond_false] at h4
      cases c3 : sbeq c (sc 3) with
      | true =>
        rw [c3, cond_true] at h4
        rw [sbeq_ok c3, sev_c] at h3
        obtain ⟨x, y, k1, k2⟩ := sfa2_ok hf h4
        obtain ⟨k1, k3⟩ := bcond k1
        have e2 := seqv_ok hK k1
        have e3 := seqv_ok hK k3
        rw [saddc_ev] at e3
        obtain ⟨n, a', q1, q2, q3⟩ := (show sSeg M (sev ρ x) (sev ρ y) from k2)
        refine ⟨n + 1, a', by omega, by omega, fun h => ?_⟩
        rw [crun_app _ _ n 1 _ h _ (q3 h), crun_succ, show 6600 + a' + n = i0 from by omega, h3]
        unfold cstep
        rw [if_neg (by decide), if_neg (by decide), if_pos rfl, if_pos (by omega)]
        rfl
      | false =>
        rw [c3, cond_false] at h4
        obtain ⟨h4, h5⟩ := bcond h4
        simp only [Bool.and_eq_true] at h4
        have hc1 : 4 ≤ c.1 := of_decide_eq_true h4.2.1
        have hc2 : c.1 ≤ 10 := of_decide_eq_true h4.2.2
        rw [sisc_ok h4.1] at h3
        obtain ⟨x, y, k1, k2⟩ := sfa2_ok hf h5
        obtain ⟨k1, k3⟩ := bcond k1
        have e2 := seqv_ok hK k1
        obtain ⟨x2, y2, k4, k5⟩ := sfa2_ok hf k3
        obtain ⟨k4, k6⟩ := bcond k4
        have e3 := seqv_ok hK k4
        have e4 := seqv_ok hK k6
        rw [saddc_ev] at e4
        obtain ⟨n, a', q1, q2, q3⟩ := (show sSeg M (sev ρ x) (sev ρ y) from k2)
        obtain ⟨n2, a2, r1, r2, r3⟩ := (show sSeg M (sev ρ x2) (sev ρ y2) from k5)
        refine ⟨n + (n2 + 1), a', by omega, by omega, fun h => ?_⟩
        rw [crun_app _ _ n (n2 + 1) _ h _ (q3 h), show 6600 + a' + n = 6600 + a2 from by omega, crun_app _ _ n2 1 _ (h + 1) _ (r3 (h + 1)), crun_succ, show 6600 + a2 + n2 = i0 from by omega, h3]
        unfold cstep
        rw [if_neg (by omega), if_neg (by omega), if_neg (by omega), if_pos ⟨hc1, hc2⟩, if_pos (by omega)]
        rfl
theorem sdDr_ok (hK : sK ρ K) (hm : ∀ q ∈ ms, ∃ j i : Nat, (j : Int) = sev ρ q.2.1 ∧ (i : Int) = sev ρ q.2.2.1 ∧ M q.1 j i = sev ρ q.2.2.2) (hf : ∀ q ∈ fs, sfI q.1 (q.2.map (sev ρ)) M) {c n : SE} (h : sdDr K ms fs c n = true) : sDr M (sev ρ c) (sev ρ n) := by
  unfold sdDr at h
  cases c0 : sbeq n (sc 0) with
  | true =>
    rw [sbeq_ok c0, sev_c]
    intro k hk
    omega
  | false =>
    rw [c0, cond_false] at h
    obtain ⟨x, y, k1, k2⟩ := sfa2_ok hf h
    obtain ⟨k1, k3⟩ := bcond k1
    have e1 := sent_ok hK k1
    rw [ssub_ev] at e1
    have hd : sDr M (sev ρ x) (sev ρ y) := k2
    cases c1 : seqv K y n with
    | true =>
      have e2 := seqv_ok hK c1
      intro k hk
      obtain ⟨a, m, z, q1, q2, q3, q4⟩ := hd k (by omega)
      exact ⟨a, m, z, q1, q2, q3, by omega⟩
    | false =>
      rw [c1, cond_false] at k3
      obtain ⟨k3, k4⟩ := bcond k3
      have e2 := seqv_ok hK k3
      rw [saddc_ev] at e2
      obtain ⟨i, v, i0, l1, l2, l3⟩ := srw_ok hm k4
      obtain ⟨l1, l4⟩ := bcond l1
      have e3 := seqv_ok hK l1
      rw [saddc_ev] at e3
      obtain ⟨x2, y2, l5, l6⟩ := sfa2_ok hf l4
      obtain ⟨l5, l7⟩ := bcond l5
      have e4 := seqv_ok hK l5
      obtain ⟨i2, o, i3, l8, l9, l10⟩ := srw_ok hm l7
      obtain ⟨l8, l11⟩ := bcond l8
      obtain ⟨l11, l12⟩ := bcond l11
      have e5 := seqv_ok hK l11
      rw [saddc_ev] at e5
      have e6 := sent_ok hK l12
      rw [ssub_ev, saddc_ev] at e6
      rw [sbeq_ok l8, sev_c] at l10
      obtain ⟨nn, a', r1, r2, r3⟩ := (show sSeg M (sev ρ x2) (sev ρ y2) from l6)
      intro k hk
      by_cases hkk : (k : Int) < sev ρ y
      · obtain ⟨a, m, z, q1, q2, q3, q4⟩ := hd k hkk
        exact ⟨a, m, z, q1, q2, q3, by omega⟩
      · refine ⟨a', nn, 0 + 1, ?_, r3 0, ?_, by omega⟩
        · rw [show 72 + k = i0 from by omega, l3]
          omega
        · rw [show 6600 + a' + nn = i3 from by omega]
          exact l10
theorem sdGa_ok (hK : sK ρ K) (hm : ∀ q ∈ ms, ∃ j i : Nat, (j : Int) = sev ρ q.2.1 ∧ (i : Int) = sev ρ q.2.2.1 ∧ M q.1 j i = sev ρ q.2.2.2) (hf : ∀ q ∈ fs, sfI q.1 (q.2.map (sev ρ)) M) {a : SE} (h : sdGa K ms fs a = true) : sGa M (sev ρ a) := by
  obtain ⟨r, h1, h2⟩ := sfa1_ok hf h
  have hg : sGa M (sev ρ r) := h2
  cases c1 : sbeq r (sc (-1)) with
  | true =>
    rw [sbeq_ok c1, sev_c] at hg
    exact fun r hr _ => hg r hr (by omega)
  | false =>
    rw [c1, cond_false] at h1
    obtain ⟨h1, h3⟩ := bcond h1
    obtain ⟨h3, h4⟩ := bcond h3
    have e1 := sin_ok hK h3
    obtain ⟨i, n, i0, k1, k2, k3⟩ := srw_ok hm h4
    obtain ⟨k1, k4⟩ := bcond k1
    rw [Bool.and_eq_true] at k1
    have e2 := seqv_ok hK k1.1
    have e3 := sin_ok hK k1.2
    obtain ⟨c, n1, k5, k6⟩ := sfa2_ok hf k4
    obtain ⟨k5, k7⟩ := bcond k5
    obtain ⟨k7, k8⟩ := bcond k7
    obtain ⟨k8, k9⟩ := bcond k8
    have e4 := seqv_ok hK k5
    have e5 := sin_ok hK k7
    obtain ⟨r2, kk, l1, l2⟩ := sfa2_ok hf k8
    obtain ⟨l1, l3⟩ := bcond l1
    obtain ⟨r3, k3', m1, m2⟩ := sfa2_ok hf k9
    obtain ⟨m1, m3⟩ := bcond m1
    have f1 := seqv_ok hK l1
    have f2 := seqv_ok hK l3
    have f3 := seqv_ok hK m1
    have f4 := seqv_ok hK m3
    have hdr : sDr M (sev ρ c) (sev ρ n1) := k6
    have hcpl : sCpl M (sev ρ r2) (sev ρ kk) := l2
    have hcpc : sCpc M (sev ρ r3) (sev ρ k3') := m2
    intro q hq hx
    by_cases hqr : (q : Int) = sev ρ r
    · have ei : i0 = q := by omega
      subst ei
      unfold sG
      rw [k3]
      refine ⟨e3.2, fun k hk => ?_⟩
      obtain ⟨aa, m, x, q1, q2, q3, q4⟩ := hdr k (by omega)
      have g1 := hcpl i0 k (by omega) (by omega)
      refine ⟨aa, m, x, by rw [g1]; exact q1, ?_, ?_, by omega⟩
      · rw [← q2]
        refine crun_congr m _ _ 0 (fun j hj => ?_)
        have g2 := hcpc i0 (aa + j) (by omega) (by omega)
        rw [show 1100 * i0 + (aa + j) = 1100 * i0 + aa + j from by omega, show 6600 + (aa + j) = 6600 + aa + j from by omega] at g2
        exact g2
      · have g2 := (hcpc i0 (aa + m) (by omega) (by omega)).1
        rw [show 1100 * i0 + (aa + m) = 1100 * i0 + aa + m from by omega, show 6600 + (aa + m) = 6600 + aa + m from by omega] at g2
        rw [g2]
        exact q3
    · exact hg q hq hqr
theorem sdCpl_ok (hK : sK ρ K) (hm : ∀ q ∈ ms, ∃ j i : Nat, (j : Int) = sev ρ q.2.1 ∧ (i : Int) = sev ρ q.2.2.1 ∧ M q.1 j i = sev ρ q.2.2.2) (hf : ∀ q ∈ fs, sfI q.1 (q.2.map (sev ρ)) M) {r k : SE} (h : sdCpl K ms fs r k = true) : sCpl M (sev ρ r) (sev ρ k) := by
  unfold sdCpl at h
  cases c0 : sbeq k (sc 0) with
  | true =>
    rw [sbeq_ok c0, sev_c]
    intro r' j _ hj
    omega
  | false =>
    rw [c0, cond_false] at h
    obtain ⟨r0, k0, k1, k2⟩ := sfa2_ok hf h
    obtain ⟨k1, k3⟩ := bcond k1
    obtain ⟨k3, k4⟩ := bcond k3
    have e1 := seqv_ok hK k1
    have e2 := seqv_ok hK k3
    rw [saddc_ev] at e2
    obtain ⟨i, v, i0, l1, l2, l3⟩ := srw_ok hm k4
    obtain ⟨l1, l4⟩ := bcond l1
    have e3 := seqv_ok hK l1
    rw [sadd_ev, smul_ev] at e3
    obtain ⟨i2, v2, i3, l5, l6, l7⟩ := srw_ok hm l4
    obtain ⟨l5, l8⟩ := bcond l5
    have e4 := seqv_ok hK l5
    rw [saddc_ev] at e4
    have e5 := seqv_ok hK l8
    have hc : sCpl M (sev ρ r0) (sev ρ k0) := k2
    intro r' j hr hj
    by_cases hjj : (j : Int) < sev ρ k0
    · exact hc r' j (by omega) hjj
    · rw [show 12 * r' + j = i0 from by omega, show 72 + j = i3 from by omega, l3, l7, e5]
theorem sdCpc_ok (hK : sK ρ K) (hm : ∀ q ∈ ms, ∃ j i : Nat, (j : Int) = sev ρ q.2.1 ∧ (i : Int) = sev ρ q.2.2.1 ∧ M q.1 j i = sev ρ q.2.2.2) (hf : ∀ q ∈ fs, sfI q.1 (q.2.map (sev ρ)) M) {r k : SE} (h : sdCpc K ms fs r k = true) : sCpc M (sev ρ r) (sev ρ k) := by
  unfold sdCpc at h
  cases c0 : sbeq k (sc 0) with
  | true =>
    rw [sbeq_ok c0, sev_c]
    intro r' j _ hj
    omega
  | false =>
    rw [c0, cond_false] at h
    obtain ⟨r0, k0, k1, k2⟩ := sfa2_ok hf h
    obtain ⟨k1, k3⟩ := bcond k1
    obtain ⟨k3, k4⟩ := bcond k3
    obtain ⟨k4, k4'⟩ := bcond k4
    have e1 := seqv_ok hK k1
    have e2 := seqv_ok hK k3
    rw [saddc_ev] at e2
    obtain ⟨i, v, i0, l1, l2, l3⟩ := srw_ok hm k4
    obtain ⟨l1, l4⟩ := bcond l1
    have e3 := seqv_ok hK l1
    rw [sadd_ev, smul_ev] at e3
    obtain ⟨i2, v2, i3, l5, l6, l7⟩ := srw_ok hm l4
    obtain ⟨l5, l8⟩ := bcond l5
    have e4 := seqv_ok hK l5
    rw [saddc_ev] at e4
    have e5 := seqv_ok hK l8
    obtain ⟨i', v', i0', m1, m2, m3⟩ := srw_ok hm k4'
    obtain ⟨m1, m4⟩ := bcond m1
    have f3 := seqv_ok hK m1
    rw [sadd_ev, smul_ev] at f3
    obtain ⟨i2', v2', i3', m5, m6, m7⟩ := srw_ok hm m4
    obtain ⟨m5, m8⟩ := bcond m5
    have f4 := seqv_ok hK m5
    rw [saddc_ev] at f4
    have f5 := seqv_ok hK m8
    have hc : sCpc M (sev ρ r0) (sev ρ k0) := k2
    intro r' j hr hj
    by_cases hjj : (j : Int) < sev ρ k0
    · exact hc r' j (by omega) hjj
    · constructor
      · rw [show 1100 * r' + j = i0 from by omega, show 6600 + j = i3 from by omega, l3, l7, e5]
      · rw [show 1100 * r' + j = i0' from by omega, show 6600 + j = i3' from by omega, m3, m7, f5]
theorem sdWft_ok (hK : sK ρ K) (hm : ∀ q ∈ ms, ∃ j i : Nat, (j : Int) = sev ρ q.2.1 ∧ (i : Int) = sev ρ q.2.2.1 ∧ M q.1 j i = sev ρ q.2.2.2) (hf : ∀ q ∈ fs, sfI q.1 (q.2.map (sev ρ)) M) {i h : SE} (hh : sdWft K ms fs i h = true) : sWft M (sev ρ i) (sev ρ h) := by
  unfold sdWft at hh
  obtain ⟨c0, hh⟩ := bcond hh
  rw [sbeq_ok c0, sev_c]
  obtain ⟨x, k1, k2⟩ := sfa1_ok hf hh
  obtain ⟨k1, k3⟩ := bcond k1
  have hg : sGa M (sev ρ x) := k2
  rw [sbeq_ok k1, sev_c] at hg
  obtain ⟨r, n, r0, l1, l2, l3⟩ := srw_ok hm k3
  obtain ⟨l1, l4⟩ := bcond l1
  have e1 := sin_ok hK l1
  obtain ⟨k, v, k0, l5, l6, l7⟩ := srw_ok hm l4
  obtain ⟨l5, l8⟩ := bcond l5
  rw [Bool.and_eq_true] at l8
  have e2 := seqv_ok hK l5
  rw [sadd_ev, smul_ev] at e2
  have e3 := sent_ok hK l8.1
  rw [ssub_ev, smul_ev] at e3
  have e4 := sent_ok hK l8.2
  rw [saddc_ev, ssub_ev, sadd_ev, smul_ev] at e4
  obtain ⟨g1, g2⟩ := hg r0 (by omega) (by omega)
  obtain ⟨a, m, y, q1, q2, q3, q4⟩ := g2 (k0 - 12 * r0) (by rw [l3]; omega)
  rw [show 12 * r0 + (k0 - 12 * r0) = k0 from by omega, l7] at q1
  exact ⟨1100 * r0 + a, 0, m, y, by omega, rfl, q2, q3, by omega, by omega⟩
theorem sdEs_ok (hK : sK ρ K) (hm : ∀ q ∈ ms, ∃ j i : Nat, (j : Int) = sev ρ q.2.1 ∧ (i : Int) = sev ρ q.2.2.1 ∧ M q.1 j i = sev ρ q.2.2.2) (hf : ∀ q ∈ fs, sfI q.1 (q.2.map (sev ρ)) M) {c n : SE} (h : sdEs K ms fs c n = true) : sEs M (sev ρ c) (sev ρ n) := by
  unfold sdEs at h
  cases c0 : sbeq n (sc 0) with
  | true =>
    rw [sbeq_ok c0, sev_c]
    intro l hl
    omega
  | false =>
    rw [c0, cond_false] at h
    obtain ⟨x, y, k1, k2⟩ := sfa2_ok hf h
    obtain ⟨k1, k3⟩ := bcond k1
    have e1 := sent_ok hK k1
    rw [ssub_ev] at e1
    have hd : sEs M (sev ρ x) (sev ρ y) := k2
    cases c1 : sent K (ssub y n) with
    | true =>
      have e2 := sent_ok hK c1
      rw [ssub_ev] at e2
      intro l hl
      have := hd l (by omega)
      omega
    | false =>
      rw [c1, cond_false] at k3
      obtain ⟨k3, k4⟩ := bcond k3
      have e2 := seqv_ok hK k3
      rw [saddc_ev] at e2
      obtain ⟨i, v, i0, l1, l2, l3⟩ := srw_ok hm k4
      obtain ⟨l1, l4⟩ := bcond l1
      have e3 := seqv_ok hK l1
      have e4 := sent_ok hK l4
      rw [ssub_ev] at e4
      intro l hl
      by_cases hll : (l : Int) < sev ρ y
      · have := hd l hll
        omega
      · rw [show l = i0 from by omega, l3]
        omega
end SDF
end
section
/-! a state that is as a note says -/
theorem sfd_ok {ρ : Nat → Int} {M : SMem} {K : SK} {ms : List SM} {fs : List SFt} (hK : sK ρ K) (hm : ∀ q ∈ ms, ∃ j i : Nat, (j : Int) = sev ρ q.2.1 ∧ (i : Int) = sev ρ q.2.2.1 ∧ M q.1 j i = sev ρ q.2.2.2) (hf : ∀ q ∈ fs, sfI q.1 (q.2.map (sev ρ)) M) {q : SFt} (h : sfd K ms fs q = true) : sfI q.1 (q.2.map (sev ρ)) M := by
  obtain ⟨k, ps⟩ := q
  unfold sfd at h
  cases c1 : sany (fun p => Nat.beq p.1 k && sall2 (seqv K) p.2 ps) fs with
  | true =>
    obtain ⟨p, h1, h2⟩ := sany_ok c1
    rw [Bool.and_eq_true] at h2
    have h3 := hf p h1
    rw [Nat.beq_eq.mp h2.1, sall2_ev hK h2.2] at h3
    exact h3
  | false =>
    simp only [c1, cond_false] at h
    match k, ps, h with
    | 0, [a, b], h =>
      obtain ⟨h1, h2⟩ := bcond h
      exact sdSeg_ok hK hm hf (sent_ok hK h1) h2
    | 1, [c, n], h => exact sdDr_ok hK hm hf h
    | 2, [a], h => exact sdGa_ok hK hm hf h
    | 3, [r, k], h => exact sdCpl_ok hK hm hf h
    | 4, [r, k], h => exact sdCpc_ok hK hm hf h
    | 5, [i, h0], h => exact sdWft_ok hK hm hf h
    | 7, [c, n], h => exact sdEs_ok hK hm hf h
abbrev SG : Type := List (Nat × SE)
def sgk (g : SG) (t : Nat) : Option SE := match g with
  | [] => none
  | q :: r => cond (Nat.beq q.1 t) (some q.2) (sgk r t)
/-- an expression over a note's numbers, in the state's; those below n are the same -/
def ssbl (n : Nat) (g : SG) : List (Nat × Int) → SE → Option SE
  | [], a => some a
  | q :: r, a => cond (Nat.blt q.1 n) (ssbl n g r (sadd (0, [q]) a)) (match sgk g q.1 with
    | some e => ssbl n g r (sadd (smul q.2 e) a)
    | none => none)
def ssb (n : Nat) (g : SG) (e : SE) : Option SE := ssbl n g e.2 (e.1, [])
/-- the note's numbers -/
def srh (n : Nat) (g : SG) (ρ : Nat → Int) (t : Nat) : Int := if t < n then ρ t else match sgk g t with
  | some e => sev ρ e
  | none => 0
theorem ssbl_ok {n : Nat} {g : SG} {ρ : Nat → Int} : ∀ {l : List (Nat × Int)} {a b : SE}, ssbl n g l a = some b → sev ρ b = sev ρ a + svl (srh n g ρ) l := by
  intro l
  induction l with
  | nil =>
    intro a b h
    cases h
    simp [svl]
  | cons q r ih =>
    intro a b h
    unfold ssbl at h
    cases hc : Nat.blt q.1 n with
    | true =>
      rw [hc, cond_true] at h
      rw [ih h, sadd_ev]
      have hlt := zblt hc
      simp only [svl, sev, srh, if_pos hlt]
      omega
    | false =>
      rw [hc, cond_false] at h
      have hlt : ¬ q.1 < n := fun z => by rw [Nat.blt_eq.mpr z] at hc; cases hc
      cases hg : sgk g q.1 with
      | none => rw [hg] at h; cases h
      | some e =>
        rw [hg] at h
        simp only at h
        rw [ih h, sadd_ev, smul_ev]
        have e1 : srh n g ρ q.1 = sev ρ e := by
          unfold srh
          rw [if_neg hlt, hg]
        simp only [svl, e1]
        omega
theorem ssb_ok {n : Nat} {g : SG} {ρ : Nat → Int} {e b : SE} (h : ssb n g e = some b) : sev ρ b = sev (srh n g ρ) e := by
  rw [ssbl_ok (ρ := ρ) h]
  simp only [sev, svl]
  omega
def ssbL (n : Nat) (g : SG) : List SE → Option (List SE)
  | [] => some []
  | e :: r => match ssb n g e, ssbL n g r with
    | some a, some b => some (a :: b)
    | _, _ => none
theorem ssbL_ok {n : Nat} {g : SG} {ρ : Nat → Int} : ∀ {l b : List SE}, ssbL n g l = some b → b.map (sev ρ) = l.map (sev (srh n g ρ)) := by
  intro l
  induction l with
  | nil =>
    intro b h
    cases h
    rfl
  | cons e r ih =>
    intro b h
    unfold ssbL at h
    cases h1 : ssb n g e with
    | none => rw [h1] at h; cases h
    | some a =>
      cases h2 : ssbL n g r with
      | none => rw [h1, h2] at h; cases h
      | some c =>
        rw [h1, h2] at h
        cases h
        rw [List.map_cons, List.map_cons, ssb_ok h1, ih h2]
/-- the same number, by what is known -/
def sve (n : Nat) (g : SG) (K : SK) (eA eS : SE) : Bool := match ssb n g eA with
  | some e => seqv K e eS
  | none => false
theorem sve_ok {n : Nat} {g : SG} {ρ : Nat → Int} {K : SK} (hK : sK ρ K) {eA eS : SE} (h : sve n g K eA eS = true) : sev (srh n g ρ) eA = sev ρ eS := by
  unfold sve at h
  cases h1 : ssb n g eA with
  | none => rw [h1] at h; cases h
  | some e =>
    rw [h1] at h
    rw [← ssb_ok h1]
    exact seqv_ok hK h
def svv (n : Nat) (g : SG) (K : SK) (a s : SV) : Bool := Nat.beq a.1 s.1 && (Nat.beq a.2.1 s.2.1 && sve n g K a.2.2 s.2.2)
theorem svv_ok {fm : List SF} {scr n : Nat} {g : SG} {ρ : Nat → Int} {ad : SAd} {K : SK} (hK : sK ρ K) {a s : SV} {c : Value} (h : svv n g K a s = true) (hs : sv fm scr ρ ad s c) : sv fm scr (srh n g ρ) ad a c := by
  unfold svv at h
  simp only [Bool.and_eq_true] at h
  obtain ⟨h1, h2, h3⟩ := h
  unfold sv at hs ⊢
  rw [Nat.beq_eq.mp h1, Nat.beq_eq.mp h2, sve_ok hK h3]
  exact hs
def svL (n : Nat) (g : SG) (K : SK) : List SV → List SV → Bool
  | [], [] => true
  | a :: r, s :: q => cond (svv n g K a s) (svL n g K r q) false
  | _, _ => false
theorem svL_ok {fm : List SF} {scr n : Nat} {g : SG} {ρ : Nat → Int} {ad : SAd} {K : SK} (hK : sK ρ K) : ∀ {a s : List SV} {cs : List Value}, svL n g K a s = true → svs fm scr ρ ad s cs → svs fm scr (srh n g ρ) ad a cs := by
  intro a
  induction a with
  | nil =>
    intro s cs h hs
    cases s with
    | nil =>
      cases svs_nil hs
      trivial
    | cons _ _ => cases h
  | cons x a ih =>
    intro s cs h hs
    cases s with
    | nil => cases h
    | cons y s =>
      unfold svL at h
      obtain ⟨h1, h2⟩ := bcond h
      obtain ⟨c, r, rfl, h3, h4⟩ := svs_cons hs
      exact ⟨svv_ok hK h1 h3, ih h2 h4⟩
/-- three of what is known -/
def sent3 (K : SK) (e : SE) : Bool := cond (sent K e) true (shlp (fun d => sent K d) e K.2)
theorem sent3_ok {ρ : Nat → Int} {K : SK} (hK : sK ρ K) {e : SE} (h : sent3 K e = true) : 0 ≤ sev ρ e := by
  unfold sent3 at h
  cases hs : sent K e with
  | true => exact sent_ok hK hs
  | false =>
    rw [hs, cond_false] at h
    obtain ⟨r, h1, h2⟩ := shlp_ok h
    have h3 := sent_ok hK h2
    rw [ssub_ev] at h3
    have := hK.2 r h1
    omega
def svK (n : Nat) (g : SG) (K : SK) (KA : SK) : Bool := sall (fun q => match ssb n g (sy q.1) with
    | some e => sin K e q.2.1 q.2.2
    | none => false) KA.1 && sall (fun r => match ssb n g r with
    | some e => sent3 K e
    | none => false) KA.2
theorem svK_ok {n : Nat} {g : SG} {ρ : Nat → Int} {K KA : SK} (hK : sK ρ K) (h : svK n g K KA = true) : sK (srh n g ρ) KA := by
  unfold svK at h
  rw [Bool.and_eq_true] at h
  refine ⟨fun q hq => ?_, fun r hr => ?_⟩
  · have h1 := sall_ok h.1 q hq
    cases h2 : ssb n g (sy q.1) with
    | none => rw [h2] at h1; cases h1
    | some e =>
      rw [h2] at h1
      have h3 := sin_ok hK h1
      rw [ssb_ok (ρ := ρ) h2, sev_y] at h3
      exact h3
  · have h1 := sall_ok h.2 r hr
    cases h2 : ssb n g r with
    | none => rw [h2] at h1; cases h1
    | some e =>
      rw [h2] at h1
      have h3 := sent3_ok hK h1
      rw [ssb_ok (ρ := ρ) h2] at h3
      exact h3
/-- a memo of the note is one of the state's -/
def svM (n : Nat) (g : SG) (K : SK) (ms : List SM) (q : SM) : Bool := match ssb n g q.2.1, ssb n g q.2.2.1, ssb n g q.2.2.2 with
  | some j, some i, some v => sany (fun s => Nat.beq s.1 q.1 && (seqv K s.2.2.1 i && (seqv K s.2.1 j && seqv K s.2.2.2 v))) ms
  | _, _, _ => false
theorem svM_ok {n : Nat} {g : SG} {ρ : Nat → Int} {M : SMem} {K : SK} {ms : List SM} (hK : sK ρ K) (hm : ∀ q ∈ ms, ∃ j i : Nat, (j : Int) = sev ρ q.2.1 ∧ (i : Int) = sev ρ q.2.2.1 ∧ M q.1 j i = sev ρ q.2.2.2) {q : SM} (h : svM n g K ms q = true) : ∃ j i : Nat, (j : Int) = sev (srh n g ρ) q.2.1 ∧ (i : Int) = sev (srh n g ρ) q.2.2.1 ∧ M q.1 j i = sev (srh n g ρ) q.2.2.2 := by
  unfold svM at h
  cases h1 : ssb n g q.2.1 with
  | none => rw [h1] at h; cases h
  | some j =>
    cases h2 : ssb n g q.2.2.1 with
    | none => rw [h1, h2] at h; cases h
    | some i =>
      cases h3 : ssb n g q.2.2.2 with
      | none => rw [h1, h2, h3] at h; cases h
      | some v =>
        rw [h1, h2, h3] at h
        simp only at h
        obtain ⟨s, k1, k2⟩ := sany_ok h
        simp only [Bool.and_eq_true] at k2
        obtain ⟨k2, k3, k4, k5⟩ := k2
        obtain ⟨j', i', e1, e2, e3⟩ := hm s k1
        rw [← ssb_ok (ρ := ρ) h1, ← ssb_ok (ρ := ρ) h2, ← ssb_ok (ρ := ρ) h3, ← seqv_ok hK k3, ← seqv_ok hK k4, ← seqv_ok hK k5, ← Nat.beq_eq.mp k2]
        exact ⟨j', i', e1, e2, e3⟩
def svF (n : Nat) (g : SG) (K : SK) (ms : List SM) (fs : List SFt) (q : SFt) : Bool := match ssbL n g q.2 with
  | some ps => sfd K ms fs (q.1, ps)
  | none => false
theorem svF_ok {n : Nat} {g : SG} {ρ : Nat → Int} {M : SMem} {K : SK} {ms : List SM} {fs : List SFt} (hK : sK ρ K) (hm : ∀ q ∈ ms, ∃ j i : Nat, (j : Int) = sev ρ q.2.1 ∧ (i : Int) = sev ρ q.2.2.1 ∧ M q.1 j i = sev ρ q.2.2.2) (hf : ∀ q ∈ fs, sfI q.1 (q.2.map (sev ρ)) M) {q : SFt} (h : svF n g K ms fs q = true) : sfI q.1 (q.2.map (sev (srh n g ρ))) M := by
  unfold svF at h
  cases h1 : ssbL n g q.2 with
  | none => rw [h1] at h; cases h
  | some ps =>
    rw [h1] at h
    have h2 := sfd_ok hK hm hf h
    rw [← ssbL_ok (ρ := ρ) h1]
    exact h2
/-- all that a note says of numbers, memos and facts -/
def svW (n : Nat) (g : SG) (w wA : SW) : Bool := svK n g w.2.2.1 wA.2.2.1 && (sall (svM n g w.2.2.1 w.1.1) wA.1.1 && sall (svF n g w.2.2.1 w.1.1 w.1.2) wA.1.2)
theorem svW_ok {n : Nat} {g : SG} {ρ : Nat → Int} {M : SMem} {w wA : SW} (hK : sK ρ w.2.2.1) (hm : smo sfI ρ M w.1) (h : svW n g w wA = true) : sK (srh n g ρ) wA.2.2.1 ∧ smo sfI (srh n g ρ) M wA.1 := by
  unfold svW at h
  simp only [Bool.and_eq_true] at h
  obtain ⟨h1, h2, h3⟩ := h
  exact ⟨svK_ok hK h1, fun q hq => svM_ok hK hm.1 (sall_ok h2 q hq), fun q hq => svF_ok hK hm.1 hm.2 (sall_ok h3 q hq)⟩
/-! finding: nothing of this needs to be right -/
def sbd1 (n : Nat) (g : SG) (eA eS : SE) : SG := match eA.2 with
  | [(t, c)] => cond (Nat.blt t n) g (cond (decide (c = 1)) (match sgk g t with
    | some _ => g
    | none => (t, saddc eS (-eA.1)) :: g) g)
  | _ => g
def sbdL (n : Nat) : List SV → List SV → SG → SG
  | a :: r, s :: q, g => sbdL n r q (sbd1 n g a.2.2 s.2.2)
  | _, _, g => g
def sbdV (n : Nat) (lv : SL) : SL → SG → SG
  | [], g => g
  | q :: r, g => match slk lv q.1 with
    | some v => sbdV n lv r (sbd1 n g q.2.2.2 v.2.2)
    | none => sbdV n lv r g
/-- a memo by what is known -/
def smfe (K : SK) (f : Nat) (j i : SE) : List SM → Option SE
  | [] => none
  | q :: r => cond (Nat.beq q.1 f && (seqv K q.2.2.1 i && seqv K q.2.1 j)) (some q.2.2.2) (smfe K f j i r)
def smfv (f : Nat) (v : SE) : List SM → Option SE
  | [] => none
  | q :: r => cond (Nat.beq q.1 f && sbeq q.2.2.2 v) (some q.2.2.1) (smfv f v r)
/-- a place whose number is not known yet is sought by its value -/
def sbdi (n : Nat) (g : SG) (q : SM) (ms : List SM) : SG := match q.2.2.1.2 with
  | [(t, _)] => cond (Nat.blt t n) g (match sgk g t with
    | some _ => g
    | none => (match smfv q.1 q.2.2.2 ms with
      | some i => sbd1 n g q.2.2.1 i
      | none => g))
  | _ => g
def sgf (g : SG) (k : SG → SX) : SX := match g with
  | [] => k []
  | q :: r => sfe q.2 (fun e => k ((q.1, e) :: r))
theorem sgf_eq (g : SG) (k : SG → SX) : sgf g k = k g := by
  cases g with
  | nil => rfl
  | cons q r => simp [sgf, sfe_eq]
def sisr (rg : SRg) (f : Nat) : Bool := match rg.1[f]? with
  | some q => !(Nat.beq q.1 0)
  | none => false
/-- memos that the note wants, read if they are not there -/
def smtm (rg : SRg) (n : Nat) (lv : SL) (st : List SV) : List SM → SG → SW → (SG → SW → SX) → SX
  | [], g, w, k => k g w
  | q :: r, g, w, k => sgf (sbdi n g q w.1.1) (fun g => match ssb n g q.2.1, ssb n g q.2.2.1 with
    | some j, some i => (match smfe w.2.2.1 q.1 j i w.1.1 with
      | some v => sgf (sbd1 n g q.2.2.2 v) (fun g => smtm rg n lv st r g w k)
      | none => cond (Nat.beq q.1 29) (cond (sbeq j (sc 0) && sin w.2.2.1 i 0 71) (sfe i (fun i => sldD rg (sc 0) i lv ((0, 0, i) :: st) w (fun v w => sgf (sbd1 n g q.2.2.2 v) (fun g => smtm rg n lv st r g w k)))) none) (cond (sent w.2.2.1 j && (sent w.2.2.1 i && (sisc i || sisr rg q.1))) (cond (sbe w.2.1 j && sbe w.2.1 i) (sfe j (fun j => sfe i (fun i => sldk rg q.1 (cond (sisc i) i.1.toNat 0) j i lv st w (fun v w => sgf (sbd1 n g q.2.2.2 v) (fun g => smtm rg n lv st r g w k))))) none) none))
    | _, _ => none)
end
section
/-! contracts: what a method wants, what it writes, how it ends -/
abbrev SC : Type := Nat × Nat × List SV × SW × List (Nat × Nat) × List (Nat × SE) × List (List SV × SW) × Nat
theorem ssrg {rg : SRg} {f i0 : Nat} {i : SE} {ρ : Nat → Int} (hi : (i0 : Int) = sev ρ i) (h : (sisc i || sisr rg f) = true) : srg rg f i0 = srg rg f (cond (sisc i) i.1.toNat 0) ∧ scl rg f i0 = scl rg f (cond (sisc i) i.1.toNat 0) := by
  cases hc : sisc i with
  | true =>
    rw [sisc_ok hc] at hi
    have : i.1.toNat = i0 := by omega
    rw [cond_true, this]
    exact ⟨rfl, rfl⟩
  | false =>
    rw [hc, Bool.false_or] at h
    rw [cond_false]
    unfold sisr at h
    unfold srg scl
    cases hr : rg.1[f]? with
    | none => rw [hr] at h; cases h
    | some q =>
      rw [hr] at h
      simp only at h
      have hb : Nat.beq q.1 0 = false := by
        cases hb : Nat.beq q.1 0 with
        | true => rw [hb] at h; cases h
        | false => rfl
      simp only [hb, cond_false]
      exact ⟨trivial, trivial⟩
section SMT
variable {p : Program} {l : Launch} {e : Env} {R : Room} {s : State} {m : MethodId} {args : Array Value} {below : List Frame} {meth : Method} {c : Code} {Q : State → Prop} {dC : Nat → ClassId} {dI : Nat → Nat → Nat} {cA : Nat → ClassId} {A : Nat → Prop} {nL : Nat} {fm : List SF} {rg : SRg} {wr : SWr} {scr n0 : Nat} {ρ0 : Nat → Int} {M0 : SMem} {ad0 : SAd} {nc0 ns0 : Nat} {cc : ByteArray} {pc : Nat} {lv : SL} {st : List SV} {w : SW} {ret : SRt} {xs : List SS} {own : String}
variable {ρ : Nat → Int} {M : SMem} {ad : SAd} {ws : va_W} {H : Heap} {locs : List Loc} {ls : Array Slot} {clv : ZL} {cst : List Value}
theorem sldk_ok2 {f cn jn i0 : Nat} {j i : SE} {k : SE → SW → SX} (hr : sRel fm rg sX sfI wr scr n0 ρ0 M0 ad0 dC dI cA A s.heap nL lv st w ρ M ad ws H locs ls clv cst) (hb : sbe w.2.1 j = true ∧ sbe w.2.1 i = true) (hcn : srg rg f i0 = srg rg f cn) (hj : (jn : Int) = sev ρ j) (hi0 : (i0 : Int) = sev ρ i) (h : sub (sldk rg f cn j i lv st w k) xs) : ∃ (ρ' : Nat → Int) (e' : SE) (w' : SW), sRel fm rg sX sfI wr scr n0 ρ0 M0 ad0 dC dI cA A s.heap nL lv st w' ρ' M ad ws H locs ls clv cst ∧ sub (k e' w') xs ∧ w'.2.2.2 = w.2.2.2 ∧ w.2.1 ≤ w'.2.1 ∧ ∀ t, t < w.2.1 → ρ' t = ρ t := by
  unfold sldk at h
  cases hm : smf w.1.1 f j i with
  | some v =>
    rw [hm] at h
    exact ⟨ρ, v, w, hr, h, rfl, Nat.le_refl _, fun _ _ => rfl⟩
  | none =>
    rw [hm] at h
    simp only at h
    cases hq : srg rg f cn with
    | none => rw [hq] at h; exact (sub_none h).elim
    | some q =>
      rw [hq] at h
      have hI := hr.2.1.2.1.1.1 f i0 q (hcn.trans hq) jn
      cases hc : decide (q.1 = q.2) with
      | true =>
        simp only [hc, cond_true] at h
        have e1 : q.1 = q.2 := of_decide_eq_true hc
        exact ⟨ρ, _, _, srel_memo hr hj hi0 (by rw [sev_c]; omega), h, rfl, Nat.le_refl _, fun _ _ => rfl⟩
      | false =>
        simp only [hc, cond_false] at h
        obtain ⟨ρ', ha, hS, h3, h4, h5⟩ := snew_ok hr hI.1 hI.2 h
        exact ⟨ρ', _, _, srel_memo h4 (by rw [sbe_ev ha hb.1]; exact hj) (by rw [sbe_ev ha hb.2]; exact hi0) h3.symm, h5, rfl, Nat.le_succ _, ha⟩
theorem smtm_ok (hS : sST fm rg) {n : Nat} : ∀ {ms : List SM} {g : SG} {w : SW} {k : SG → SW → SX} {ρ : Nat → Int}, sRel fm rg sX sfI wr scr n0 ρ0 M0 ad0 dC dI cA A s.heap nL lv st w ρ M ad ws H locs ls clv cst → sub (smtm rg n lv st ms g w k) xs → ∃ (ρ' : Nat → Int) (g' : SG) (w' : SW), sRel fm rg sX sfI wr scr n0 ρ0 M0 ad0 dC dI cA A s.heap nL lv st w' ρ' M ad ws H locs ls clv cst ∧ sub (k g' w') xs ∧ w'.2.2.2 = w.2.2.2 := by
  intro ms
  induction ms with
  | nil => exact fun hr h => ⟨_, _, _, hr, h, rfl⟩
  | cons q r ih =>
    intro g w k ρ hr h
    unfold smtm at h
    rw [sgf_eq] at h
    generalize sbdi n g q w.1.1 = g at h
    cases h1 : ssb n g q.2.1 with
    | none => rw [h1] at h; exact (sub_none h).elim
    | some j =>
      cases h2 : ssb n g q.2.2.1 with
      | none => rw [h1, h2] at h; exact (sub_none h).elim
      | some i =>
        rw [h1, h2] at h
        simp only at h
        cases h3 : smfe w.2.2.1 q.1 j i w.1.1 with
        | some v =>
          rw [h3] at h
          simp only [sgf_eq] at h
          exact ih hr h
        | none =>
          rw [h3] at h
          simp only [sgf_eq] at h
          cases h29 : Nat.beq q.1 29 with
          | true =>
            rw [h29, cond_true] at h
            obtain ⟨k1, h⟩ := sub_cond h
            rw [sfe_eq] at h
            rw [Bool.and_eq_true] at k1
            have e2 := sin_ok (srel_sK hr) k1.2
            obtain ⟨x, hx⟩ : ∃ x : Int32, x.toInt = sev ρ i := ⟨Int32.ofInt (sev ρ i), Int32.toInt_ofInt_of_le (by omega) (by omega)⟩
            have hr2 : sRel fm rg sX sfI wr scr n0 ρ0 M0 ad0 dC dI cA A s.heap nL lv ((0, 0, i) :: st) w ρ M ad ws H locs ls clv (.int x :: cst) := ⟨hr.1, hr.2.1, hr.2.2.1, hr.2.2.2.1, hr.2.2.2.2.1, hr.2.2.2.2.2.1, hr.2.2.2.2.2.2.1, sv_mkI hx, hr.2.2.2.2.2.2.2⟩
            have hb : ∀ n, sall (fun v => sbe n v.2.2) (((0, 0, i) : SV) :: st) = true → sbe n (sc 0) = true ∧ sbe n i = true := fun n hn => ⟨rfl, sall_ok hn (0, 0, i) List.mem_cons_self⟩
            have hrow : srg rg 29 (sev ρ i).toNat = srg rg 29 0 := hS.2.2.2.2.2.2.2.2 _
            obtain ⟨ρ1, e', w1, a1, a2, a3, a4, a5⟩ := sldD_ok (jn := 0) (i0 := (sev ρ i).toNat) hr2 hb hrow (by rw [sev_c]; rfl) rfl (by omega) rfl h
            obtain ⟨ρ2, g2, w2, b1, b2, b3⟩ := ih (w := w1) (ρ := ρ1) ⟨a2.1, a2.2.1, a2.2.2.1, a2.2.2.2.1, a2.2.2.2.2.1, a2.2.2.2.2.2.1, a2.2.2.2.2.2.2.1, a2.2.2.2.2.2.2.2.2⟩ a3
            exact ⟨ρ2, g2, w2, b1, b2, b3.trans a4⟩
          | false =>
            rw [h29, cond_false] at h
            obtain ⟨k1, h⟩ := sub_cond h
            obtain ⟨k2, h⟩ := sub_cond h
            rw [sfe_eq, sfe_eq] at h
            simp only [Bool.and_eq_true] at k1 k2
            have e1 := sent_ok (srel_sK hr) k1.1
            have e2 := sent_ok (srel_sK hr) k1.2.1
            have ej : (((sev ρ j).toNat : Nat) : Int) = sev ρ j := by omega
            have ei : (((sev ρ i).toNat : Nat) : Int) = sev ρ i := by omega
            obtain ⟨ρ1, e', w1, a1, a2, a3, a4, a5⟩ := sldk_ok2 hr k2 (ssrg ei k1.2.2).1 ej ei h
            obtain ⟨ρ2, g2, w2, b1, b2, b3⟩ := ih a1 a2
            exact ⟨ρ2, g2, w2, b1, b2, b3.trans a3⟩
end SMT
/-! an end of the callee, in the caller's numbers -/
def ssxl (nP base : Nat) (g : SG) : List (Nat × Int) → SE → Option SE
  | [], a => some a
  | q :: r, a => cond (Nat.blt q.1 nP) (match sgk g q.1 with
    | some e => ssxl nP base g r (sadd (smul q.2 e) a)
    | none => none) (ssxl nP base g r (sadd (0, [(base + (q.1 - nP), q.2)]) a))
def ssx (nP base : Nat) (g : SG) (e : SE) : Option SE := ssxl nP base g e.2 (e.1, [])
section SSX
variable {nP base : Nat} {g : SG} {ρ' ρX : Nat → Int} (hg : ∀ t e, t < nP → sgk g t = some e → sev ρ' e = ρX t) (hf : ∀ t, nP ≤ t → ρ' (base + (t - nP)) = ρX t)
theorem ssxl_ok (hg : ∀ t e, t < nP → sgk g t = some e → sev ρ' e = ρX t) (hf : ∀ t, nP ≤ t → ρ' (base + (t - nP)) = ρX t) : ∀ {l : List (Nat × Int)} {a b : SE}, ssxl nP base g l a = some b → sev ρ' b = sev ρ' a + svl ρX l := by
  intro l
  induction l with
  | nil =>
    intro a b h
    cases h
    simp [svl]
  | cons q r ih =>
    intro a b h
    unfold ssxl at h
    cases hc : Nat.blt q.1 nP with
    | true =>
      rw [hc, cond_true] at h
      cases hk : sgk g q.1 with
      | none => rw [hk] at h; cases h
      | some e =>
        rw [hk] at h
        simp only at h
        rw [ih h, sadd_ev, smul_ev, hg q.1 e (zblt hc) hk]
        simp only [svl]
        omega
    | false =>
      rw [hc, cond_false] at h
      have hle : nP ≤ q.1 := by
        rcases Nat.lt_or_ge q.1 nP with z | z
        · rw [Nat.blt_eq.mpr z] at hc; cases hc
        · exact z
      rw [ih h, sadd_ev]
      simp only [svl, sev, hf q.1 hle]
      omega
theorem ssx_ok (hg : ∀ t e, t < nP → sgk g t = some e → sev ρ' e = ρX t) (hf : ∀ t, nP ≤ t → ρ' (base + (t - nP)) = ρX t) {e b : SE} (h : ssx nP base g e = some b) : sev ρ' b = sev ρX e := by
  rw [ssxl_ok hg hf h]
  simp only [sev, svl]
  omega
end SSX
/-- the new numbers' bounds, and what the end knows of the old ones -/
def sxB (nP base : Nat) (g : SG) : SB → SK → (SK → SX) → SX
  | [], K, k => k K
  | q :: r, K, k => cond (Nat.blt q.1 nP) (match sgk g q.1 with
    | some e => cond (sin K e q.2.1 q.2.2) (sxB nP base g r K k) (sge K (saddc e (-q.2.1)) (fun K => sge K (ssub (sc q.2.2) e) (fun K => sxB nP base g r K k)))
    | none => none) (sn (base + (q.1 - nP)) (fun t => sxB nP base g r ((t, q.2.1, q.2.2) :: K.1, K.2) k))
def sxR (nP base : Nat) (g : SG) : List SE → SK → (SK → SX) → SX
  | [], K, k => k K
  | r :: rs, K, k => match ssx nP base g r with
    | some e => sge K e (fun K => sxR nP base g rs K k)
    | none => none
def sxM (nP base : Nat) (g : SG) : List SM → List SM → (List SM → SX) → SX
  | [], ms, k => k ms
  | q :: r, ms, k => sxM nP base g r ms (fun ms => match ssx nP base g q.2.1, ssx nP base g q.2.2.1, ssx nP base g q.2.2.2 with
    | some j, some i, some v => sfe j (fun j => sfe i (fun i => sfe v (fun v => sll (ms.filter (fun s => !(Nat.beq s.1 q.1 && (sbeq s.2.2.1 i && sbeq s.2.1 j)))) (fun ms => k ((q.1, j, i, v) :: ms)))))
    | _, _, _ => none)
def ssxL (nP base : Nat) (g : SG) : List SE → Option (List SE)
  | [] => some []
  | e :: r => match ssx nP base g e, ssxL nP base g r with
    | some a, some b => some (a :: b)
    | _, _ => none
def sxF (nP base : Nat) (g : SG) : List SFt → List SFt → (List SFt → SX) → SX
  | [], fs, k => k fs
  | q :: r, fs, k => match ssxL nP base g q.2 with
    | some ps => sxF nP base g r ((q.1, ps) :: fs) k
    | none => none
def sxV (nP base : Nat) (g : SG) : List SV → Option (List SV)
  | [] => some []
  | v :: r => match ssx nP base g v.2.2, sxV nP base g r with
    | some e, some q => some ((v.1, v.2.1, e) :: q)
    | _, _ => none
section SXO
variable {nP base : Nat} {g : SG} {ρ' ρX : Nat → Int} {xs : List SS}
theorem sxB_ok (hg : ∀ t e, t < nP → sgk g t = some e → sev ρ' e = ρX t) (hf : ∀ t, nP ≤ t → ρ' (base + (t - nP)) = ρX t) : ∀ {B : SB} {K : SK} {k : SK → SX}, (∀ q ∈ B, q.2.1 ≤ ρX q.1 ∧ ρX q.1 ≤ q.2.2) → sK ρ' K → sub (sxB nP base g B K k) xs → ∃ K', sK ρ' K' ∧ sub (k K') xs := by
  intro B
  induction B with
  | nil => exact fun _ hK h => ⟨_, hK, h⟩
  | cons q r ih =>
    intro K k hB hK h
    have hq := hB q List.mem_cons_self
    have hr := fun z hz => hB z (List.mem_cons_of_mem _ hz)
    unfold sxB at h
    cases hc : Nat.blt q.1 nP with
    | true =>
      rw [hc, cond_true] at h
      cases hk : sgk g q.1 with
      | none => rw [hk] at h; exact (sub_none h).elim
      | some e =>
        rw [hk] at h
        simp only at h
        have e1 := hg q.1 e (zblt hc) hk
        cases hs : sin K e q.2.1 q.2.2 with
        | true => rw [hs, cond_true] at h; exact ih hr hK h
        | false =>
          rw [hs, cond_false] at h
          obtain ⟨K1, h1, h2⟩ := sge_ok hK h (by rw [saddc_ev]; omega)
          obtain ⟨K2, h3, h4⟩ := sge_ok h1 h2 (by rw [ssub_ev, sev_c]; omega)
          exact ih hr h3 h4
    | false =>
      rw [hc, cond_false, sn_eq] at h
      have hle : nP ≤ q.1 := by
        rcases Nat.lt_or_ge q.1 nP with z | z
        · rw [Nat.blt_eq.mpr z] at hc; cases hc
        · exact z
      refine ih (K := ((base + (q.1 - nP), q.2.1, q.2.2) :: K.1, K.2)) hr ⟨fun z hz => ?_, hK.2⟩ h
      rcases List.mem_cons.mp hz with rfl | hz
      · show q.2.1 ≤ ρ' (base + (q.1 - nP)) ∧ ρ' (base + (q.1 - nP)) ≤ q.2.2
        rw [hf q.1 hle]
        exact hq
      · exact hK.1 z hz
theorem sxR_ok (hg : ∀ t e, t < nP → sgk g t = some e → sev ρ' e = ρX t) (hf : ∀ t, nP ≤ t → ρ' (base + (t - nP)) = ρX t) : ∀ {rs : List SE} {K : SK} {k : SK → SX}, (∀ r ∈ rs, 0 ≤ sev ρX r) → sK ρ' K → sub (sxR nP base g rs K k) xs → ∃ K', sK ρ' K' ∧ sub (k K') xs := by
  intro rs
  induction rs with
  | nil => exact fun _ hK h => ⟨_, hK, h⟩
  | cons q r ih =>
    intro K k hB hK h
    have hq := hB q List.mem_cons_self
    unfold sxR at h
    cases hk : ssx nP base g q with
    | none => rw [hk] at h; exact (sub_none h).elim
    | some e =>
      rw [hk] at h
      obtain ⟨K1, h1, h2⟩ := sge_ok hK h (by rw [ssx_ok hg hf hk]; exact hq)
      exact ih (fun z hz => hB z (List.mem_cons_of_mem _ hz)) h1 h2
theorem sxM_ok {M : SMem} (hg : ∀ t e, t < nP → sgk g t = some e → sev ρ' e = ρX t) (hf : ∀ t, nP ≤ t → ρ' (base + (t - nP)) = ρX t) : ∀ {qs ms : List SM} {k : List SM → SX}, (∀ q ∈ qs, ∃ j i : Nat, (j : Int) = sev ρX q.2.1 ∧ (i : Int) = sev ρX q.2.2.1 ∧ M q.1 j i = sev ρX q.2.2.2) → (∀ q ∈ ms, ∃ j i : Nat, (j : Int) = sev ρ' q.2.1 ∧ (i : Int) = sev ρ' q.2.2.1 ∧ M q.1 j i = sev ρ' q.2.2.2) → sub (sxM nP base g qs ms k) xs → ∃ ms', (∀ q ∈ ms', ∃ j i : Nat, (j : Int) = sev ρ' q.2.1 ∧ (i : Int) = sev ρ' q.2.2.1 ∧ M q.1 j i = sev ρ' q.2.2.2) ∧ sub (k ms') xs := by
  intro qs
  induction qs with
  | nil => exact fun _ hm h => ⟨_, hm, h⟩
  | cons q r ih =>
    intro ms k hq hm h
    unfold sxM at h
    obtain ⟨ms1, h1, h2⟩ := ih (fun z hz => hq z (List.mem_cons_of_mem _ hz)) hm h
    cases k1 : ssx nP base g q.2.1 with
    | none => rw [k1] at h2; exact (sub_none h2).elim
    | some j =>
      cases k2 : ssx nP base g q.2.2.1 with
      | none => rw [k1, k2] at h2; exact (sub_none h2).elim
      | some i =>
        cases k3 : ssx nP base g q.2.2.2 with
        | none => rw [k1, k2, k3] at h2; exact (sub_none h2).elim
        | some v =>
          rw [k1, k2, k3] at h2
          simp only [sfe_eq, sll_eq] at h2
          refine ⟨_, fun z hz => ?_, h2⟩
          rcases List.mem_cons.mp hz with rfl | hz
          · obtain ⟨j0, i0, e1, e2, e3⟩ := hq q List.mem_cons_self
            exact ⟨j0, i0, by rw [ssx_ok hg hf k1]; exact e1, by rw [ssx_ok hg hf k2]; exact e2, by rw [ssx_ok hg hf k3]; exact e3⟩
          · exact h1 z (List.mem_filter.mp hz).1
theorem ssxL_ok (hg : ∀ t e, t < nP → sgk g t = some e → sev ρ' e = ρX t) (hf : ∀ t, nP ≤ t → ρ' (base + (t - nP)) = ρX t) : ∀ {l b : List SE}, ssxL nP base g l = some b → b.map (sev ρ') = l.map (sev ρX) := by
  intro l
  induction l with
  | nil =>
    intro b h
    cases h
    rfl
  | cons e r ih =>
    intro b h
    unfold ssxL at h
    cases h1 : ssx nP base g e with
    | none => rw [h1] at h; cases h
    | some a =>
      cases h2 : ssxL nP base g r with
      | none => rw [h1, h2] at h; cases h
      | some c =>
        rw [h1, h2] at h
        cases h
        rw [List.map_cons, List.map_cons, ssx_ok hg hf h1, ih h2]
theorem sxF_ok {M : SMem} (hg : ∀ t e, t < nP → sgk g t = some e → sev ρ' e = ρX t) (hf : ∀ t, nP ≤ t → ρ' (base + (t - nP)) = ρX t) : ∀ {qs fs : List SFt} {k : List SFt → SX}, (∀ q ∈ qs, sfI q.1 (q.2.map (sev ρX)) M) → (∀ q ∈ fs, sfI q.1 (q.2.map (sev ρ')) M) → sub (sxF nP base g qs fs k) xs → ∃ fs', (∀ q ∈ fs', sfI q.1 (q.2.map (sev ρ')) M) ∧ sub (k fs') xs := by
  intro qs
  induction qs with
  | nil => exact fun _ hm h => ⟨_, hm, h⟩
  | cons q r ih =>
    intro fs k hq hm h
    unfold sxF at h
    cases k1 : ssxL nP base g q.2 with
    | none => rw [k1] at h; exact (sub_none h).elim
    | some ps =>
      rw [k1] at h
      refine ih (fun z hz => hq z (List.mem_cons_of_mem _ hz)) (fun z hz => ?_) h
      rcases List.mem_cons.mp hz with rfl | hz
      · show sfI q.1 (ps.map (sev ρ')) M
        rw [ssxL_ok hg hf k1]
        exact hq q List.mem_cons_self
      · exact hm z hz
theorem sxV_ok {fm : List SF} {scr : Nat} {ad : SAd} (hg : ∀ t e, t < nP → sgk g t = some e → sev ρ' e = ρX t) (hf : ∀ t, nP ≤ t → ρ' (base + (t - nP)) = ρX t) : ∀ {vs b : List SV} {cs : List Value}, sxV nP base g vs = some b → svs fm scr ρX ad vs cs → svs fm scr ρ' ad b cs := by
  intro vs
  induction vs with
  | nil =>
    intro b cs h hs
    cases h
    cases svs_nil hs
    trivial
  | cons v r ih =>
    intro b cs h hs
    unfold sxV at h
    cases h1 : ssx nP base g v.2.2 with
    | none => rw [h1] at h; cases h
    | some e =>
      cases h2 : sxV nP base g r with
      | none => rw [h1, h2] at h; cases h
      | some q =>
        rw [h1, h2] at h
        cases h
        obtain ⟨c, cr, rfl, h3, h4⟩ := svs_cons hs
        refine ⟨?_, ih h2 h4⟩
        unfold sv at h3 ⊢
        simp only
        rw [ssx_ok hg hf h1]
        exact h3
end SXO
end
section
/-! a call by contract -/
def sxkeep (rg : SRg) (md : List (Nat × Nat)) (q : SM) : Bool := cond (sisc q.2.2.1 || sisr rg q.1) (!(smem2 q.1 (scl rg q.1 (cond (sisc q.2.2.1) q.2.2.1.1.toNat 0)) md)) false
def sxfk (K : SK) (md : List (Nat × Nat)) (wlS : List (Nat × SE)) (q : SFt) : Bool := sall (fun d => cond (smem2 d.1 0 md) (sany (fun b => Nat.beq b.1 d.1 && sent K (ssub b.2 d.2.2)) wlS) true) (sfde q.1 q.2)
def sxit (rg : SRg) (nP bc bs : Nat) (g : SG) (md : List (Nat × Nat)) (wlS : List (Nat × SE)) (w : SW) (X : List SV × SW) (k : List SV → SW → SX) : SX :=
  sxB nP w.2.1 g X.2.2.2.1.1 w.2.2.1 (fun K => sxR nP w.2.1 g X.2.2.2.1.2 K (fun K => sll (w.1.1.filter (sxkeep rg md)) (fun ms => sxM nP w.2.1 g X.2.1.1 ms (fun ms => sll (w.1.2.filter (sxfk w.2.2.1 md wlS)) (fun fs => sxF nP w.2.1 g X.2.1.2 fs (fun fs => match sxV nP w.2.1 g X.1 with
    | some vs => sn (w.2.1 + (X.2.2.1 - nP)) (fun n' => sn (w.2.2.2.1 + bc) (fun nc => sn (w.2.2.2.2 + bs) (fun ns => k vs ((ms, fs), n', K, nc, ns))))
    | none => none))))))
def sxits (rg : SRg) (nP bc bs : Nat) (g : SG) (md : List (Nat × Nat)) (wlS : List (Nat × SE)) (w : SW) (k : List SV → SW → SX) : List (List SV × SW) → SX
  | [] => some []
  | X :: r => sapp (sxit rg nP bc bs g md wlS w X k) (sxits rg nP bc bs g md wlS w k r)
theorem sxits_ok {rg : SRg} {nP bc bs : Nat} {g : SG} {md : List (Nat × Nat)} {wlS : List (Nat × SE)} {w : SW} {k : List SV → SW → SX} {xs : List SS} {X : List SV × SW} : ∀ {l : List (List SV × SW)}, X ∈ l → sub (sxits rg nP bc bs g md wlS w k l) xs → sub (sxit rg nP bc bs g md wlS w X k) xs := by
  intro l
  induction l with
  | nil => intro h; cases h
  | cons Y r ih =>
    intro h hs
    obtain ⟨h1, h2⟩ := sub_app hs
    rcases List.mem_cons.mp h with rfl | h
    · exact h1
    · exact ih h h2
def sPO (fm : List SF) (rg : SRg) (cA : Nat → ClassId) (scr : Nat) (C : SC) (ρ0 : Nat → Int) (M0 : SMem) (ad0 : SAd) (r : List Value) (ws' : va_W) : Prop := ∃ X ∈ C.2.2.2.2.2.2.1, ∃ (ρ' : Nat → Int) (M' : SMem) (ad' : SAd), (∀ t, t < C.2.2.2.1.2.1 → ρ' t = ρ0 t) ∧ sK ρ' X.2.2.2.1 ∧ (sH fm ad' M' cA ws' ∧ (sI rg M' ∧ sX M') ∧ smo sfI ρ' M' X.2.1 ∧ sfr rg M0 M' ad0 ad' (C.2.2.2.2.1, C.2.2.2.2.2.1.map (fun q => (q.1, sev ρ0 q.2)))) ∧ svs fm scr ρ' ad' X.1 r
def sCok (zm : List ZMe) (fm : List SF) (rg : SRg) (EX : SEx) (l : Launch) (dC : Nat → ClassId) (dI : Nat → Nat → Nat) (cA : Nat → ClassId) (scr : Nat) (C : SC) : Prop := ∀ me, zm[C.2.1]? = some me → ∀ (ρ0 : Nat → Int) (M0 : SMem) (ad0 : SAd) (ws : va_W) (cas : List Value), sK ρ0 C.2.2.2.1.2.2.1 → sH fm ad0 M0 cA ws → sI rg M0 → sX M0 → smo sfI ρ0 M0 C.2.2.2.1.1 → svs fm scr ρ0 ad0 C.2.2.1 cas → sRun C.2.2.2.2.2.2.2 me EX l dC dI cA ws cas (sPO fm rg cA scr C ρ0 M0 ad0)
/-- what facts hang on is of the first sort of its kind -/
def sDP (rg : SRg) : Prop := ∀ (k : Nat) (ps : List Int), ∀ q ∈ sfdv k ps, ∀ i : Nat, q.2.1 ≤ (i : Int) → (i : Int) < q.2.2 → scl rg q.1 i = 0
def swlS (g : SG) : List (Nat × SE) → Option (List (Nat × SE))
  | [] => some []
  | q :: r => match ssb 0 g q.2, swlS g r with
    | some e, some t => some ((q.1, e) :: t)
    | _, _ => none
theorem swlS_ok {g : SG} {ρ : Nat → Int} : ∀ {wl t : List (Nat × SE)}, swlS g wl = some t → ∀ b ∈ t, ∃ e, (b.1, e) ∈ wl ∧ sev ρ b.2 = sev (srh 0 g ρ) e := by
  intro wl
  induction wl with
  | nil =>
    intro t h b hb
    cases h
    cases hb
  | cons q r ih =>
    intro t h b hb
    unfold swlS at h
    cases h1 : ssb 0 g q.2 with
    | none => rw [h1] at h; cases h
    | some e =>
      cases h2 : swlS g r with
      | none => rw [h1, h2] at h; cases h
      | some t' =>
        rw [h1, h2] at h
        cases h
        rcases List.mem_cons.mp hb with rfl | hb
        · exact ⟨q.2, List.mem_cons_self, ssb_ok h1⟩
        · obtain ⟨e', k1, k2⟩ := ih h2 b hb
          exact ⟨e', List.mem_cons_of_mem _ k1, k2⟩
def sno3 (vs : List SV) : Bool := sall (fun v => !(Nat.beq v.1 3)) vs
theorem svs_scr {fm : List SF} {scr scr' : Nat} {ρ : Nat → Int} {ad : SAd} {vs : List SV} {cs : List Value} (h : sno3 vs = true) (hs : svs fm scr ρ ad vs cs) : svs fm scr' ρ ad vs cs := by
  induction vs generalizing cs with
  | nil =>
    cases svs_nil hs
    trivial
  | cons v vs ih =>
    obtain ⟨c, r, rfl, h1, h2⟩ := svs_cons hs
    have h3 := sall_ok h v List.mem_cons_self
    refine ⟨?_, ih (by unfold sno3 at h ⊢; unfold sall at h; exact (bcond h).2) h2⟩
    rcases h1 with h1 | h1 | h1 | ⟨h1, -⟩
    · exact Or.inl h1
    · exact Or.inr (Or.inl h1)
    · exact Or.inr (Or.inr (Or.inl h1))
    · rw [h1] at h3; cases h3
def snad (md : List (Nat × Nat)) (v : SV) : Bool := !(Nat.beq v.1 2 && smem2 v.2.1 999999 md)
theorem snot {b : Bool} (h : (!b) = true) : b = false := by
  cases b with
  | true => cases h
  | false => rfl
theorem smem2_no {a b : Nat} {l : List (Nat × Nat)} (h : smem2 a b l = false) : (a, b) ∉ l := by
  intro hm
  induction l with
  | nil => cases hm
  | cons q r ih =>
    unfold smem2 at h
    rcases List.mem_cons.mp hm with e | hm
    · subst e
      simp at h
    · cases hc : (Nat.beq q.1 a && Nat.beq q.2 b) with
      | true => rw [hc] at h; cases h
      | false =>
        rw [hc, cond_false] at h
        exact ih h hm
theorem sv_ad {fm : List SF} {scr : Nat} {ρ : Nat → Int} {ad ad' : SAd} {md : List (Nat × Nat)} (ha : ∀ f j, (f, 999999) ∉ md → ad' f j = ad f j) {v : SV} {c : Value} (h : snad md v = true) (hs : sv fm scr ρ ad v c) : sv fm scr ρ ad' v c := by
  rcases hs with h1 | h1 | ⟨h1, j, en, e1, e2, e3, e4⟩ | h1
  · exact Or.inl h1
  · exact Or.inr (Or.inl h1)
  · refine Or.inr (Or.inr (Or.inl ⟨h1, j, en, e1, e2, e3, ?_⟩))
    unfold snad at h
    have h2 := snot h
    rw [h1, show Nat.beq 2 2 = true from rfl, Bool.true_and] at h2
    rw [e4, ha _ _ (smem2_no h2)]
  · exact Or.inr (Or.inr (Or.inr h1))
section SXI
variable {p : Program} {l : Launch} {e : Env} {R : Room} {s : State} {m : MethodId} {args : Array Value} {below : List Frame} {meth : Method} {c : Code} {Q : State → Prop} {dC : Nat → ClassId} {dI : Nat → Nat → Nat} {cA : Nat → ClassId} {A : Nat → Prop} {nL : Nat} {fm : List SF} {rg : SRg} {wr : SWr} {scr n0 : Nat} {ρ0 : Nat → Int} {M0 : SMem} {ad0 : SAd} {nc0 ns0 : Nat} {cc : ByteArray} {pc : Nat} {lv : SL} {st : List SV} {w : SW} {ret : SRt} {xs : List SS} {own : String}
variable {md mdc : List (Nat × Nat)} {wl wlS : List (Nat × SE)} {ρ ρX : Nat → Int} {M M' : SMem} {ad ad' : SAd} {ws ws' : va_W} {H H1 : Heap} {locs locs1 : List Loc} {ls : Array Slot} {clv : ZL} {cst crest r : List Value} {nP bc bs : Nat} {g : SG} {X : List SV × SW} {rest : List SV} {k : List SV → SW → SX}
theorem sfr_trans {wrC : SWr} (h1 : sfr rg M0 M ad0 ad wr) (h2 : sfr rg M M' ad ad' wrC) (hs : ∀ q ∈ wrC.1, q ∈ wr.1) (hb : ∀ q ∈ wr.2, (∀ i, scl rg q.1 i = 0) → True) (hw : ∀ q ∈ wr.2, ∀ j i : Nat, (i : Int) < q.2 → M' q.1 j i = M q.1 j i) : sfr rg M0 M' ad0 ad' wr := by
  refine ⟨fun f j i hn => ?_, fun f j hn => ?_, fun q hq j i hi => ?_⟩
  · rw [h2.1 f j i (fun z => hn (hs _ z)), h1.1 f j i hn]
  · rw [h2.2.1 f j (fun z => hn (hs _ z)), h1.2.1 f j hn]
  · rw [hw q hq j i hi, h1.2.2 q hq j i hi]
theorem sxit_ok (hDP : sDP rg) (hr : sRel fm rg sX sfI wr scr n0 ρ0 M0 ad0 dC dI cA A s.heap nL lv st w ρ M ad ws H locs ls clv cst) (hS : sbS w.2.1 lv st w = true) (hgb : sall (fun q => sbe w.2.1 q.2) g = true) (hrest : svs fm scr ρ ad rest crest) (hrs : ∀ v ∈ rest, v ∈ st)
    (hX1 : ∀ t, t < nP → ρX t = srh 0 g ρ t) (hX2 : sK ρX X.2.2.2.1) (hX3 : sH fm ad' M' cA ws') (hX4 : sI rg M' ∧ sX M') (hX5 : smo sfI ρX M' X.2.1) (hX6 : sfr rg M M' ad ad' (md, wl.map (fun q => (q.1, sev (srh 0 g ρ) q.2)))) (hX7 : svs fm scr ρX ad' X.1 r)
    (hwl : swlS g wl = some wlS) (hmd : ∀ q ∈ md, q ∈ wr.1) (hww : ∀ q ∈ wr.2, ∀ j i : Nat, (i : Int) < q.2 → M' q.1 j i = M q.1 j i) (hadl : ∀ q ∈ lv, snad md q.2 = true) (hads : ∀ v ∈ rest, snad md v = true)
    (h1 : va_P (dC, dI) vwCl ws' H1) (h2 : va_D A ws') (h3 : va_S A s.heap H1 locs1)
    (h : sub (sxit rg nP bc bs g md wlS w X k) xs) : ∃ (ρ' : Nat → Int) (vs : List SV) (w' : SW), sub (k vs w') xs ∧ w'.2.2.2 = (w.2.2.2.1 + bc, w.2.2.2.2 + bs) ∧ sRel fm rg sX sfI wr scr n0 ρ0 M0 ad0 dC dI cA A s.heap nL lv (vs ++ rest) w' ρ' M' ad' ws' H1 locs1 ls clv (r ++ crest) := by
  obtain ⟨⟨ag, hn, hK⟩, ⟨r1, hI, hmo, hfr⟩, q1, q2, q3, q4, q5, q6⟩ := hr
  have hS2 := hS
  simp only [sbS, sbW, Bool.and_eq_true] at hS2
  obtain ⟨b1, b2, b3, b4, b5⟩ := hS2
  generalize hbase : w.2.1 = base at *
  have ha : ∀ t, t < base → (fun t => if t < base then ρ t else ρX (nP + (t - base))) t = ρ t := fun t ht => if_pos ht
  have hg : ∀ t e, t < nP → sgk g t = some e → sev (fun t => if t < base then ρ t else ρX (nP + (t - base))) e = ρX t := by
    intro t e ht hk
    have hbe : sbe base e = true := by
      have : ∀ {g : SG}, sall (fun q => sbe base q.2) g = true → sgk g t = some e → sbe base e = true := by
        intro g
        induction g with
        | nil => intro _ h; cases h
        | cons q r ih =>
          intro h1 h2
          unfold sgk at h2
          cases hc : Nat.beq q.1 t with
          | true =>
            rw [hc, cond_true] at h2
            cases h2
            exact sall_ok h1 q List.mem_cons_self
          | false =>
            rw [hc, cond_false] at h2
            unfold sall at h1
            exact ih (bcond h1).2 h2
      exact this hgb hk
    rw [sbe_ev ha hbe, hX1 t ht]
    unfold srh
    rw [if_neg (Nat.not_lt_zero t), hk]
  have hf : ∀ t, nP ≤ t → (fun t => if t < base then ρ t else ρX (nP + (t - base))) (base + (t - nP)) = ρX t := by
    intro t ht
    show (if base + (t - nP) < base then _ else _) = _
    rw [if_neg (by omega)]
    congr 1
    omega
  generalize hρ : (fun t => if t < base then ρ t else ρX (nP + (t - base))) = ρ' at ha hg hf
  unfold sxit at h
  rw [hbase] at h
  obtain ⟨K1, k1, h⟩ := sxB_ok hg hf hX2.1 (sK_ag ha b5 hK) h
  obtain ⟨K2, k2, h⟩ := sxR_ok hg hf hX2.2 k1 h
  rw [sll_eq] at h
  obtain ⟨ms2, k3, h⟩ := sxM_ok (M := M') hg hf hX5.1 (fun q hq => by
    obtain ⟨z1, z2⟩ := List.mem_filter.mp hq
    obtain ⟨j0, i0, e1, e2, e3⟩ := (smo_ag ha b3 b4 hmo).1 q z1
    refine ⟨j0, i0, e1, e2, ?_⟩
    unfold sxkeep at z2
    obtain ⟨z3, z4⟩ := bcond z2
    rw [← e3]
    refine hX6.1 _ _ _ ?_
    rw [(ssrg e2 z3).2]
    exact smem2_no (snot z4)) h
  rw [sll_eq] at h
  obtain ⟨fs2, k4, h⟩ := sxF_ok (M := M') hg hf hX5.2 (fun q hq => by
    obtain ⟨z1, z2⟩ := List.mem_filter.mp hq
    refine sfI_congr (fun d hd j i l1 l2 => ?_) ((smo_ag ha b3 b4 hmo).2 q z1)
    have hsc := hDP _ _ d hd i l1 l2
    rw [smap_ag ha (sall_ok b4 q z1)] at hd
    rw [← sfde_ev ρ q.1 q.2] at hd
    obtain ⟨dd, hd1, rfl⟩ := List.mem_map.mp hd
    have h3 := sall_ok z2 dd hd1
    simp only at h3 l1 l2 hsc ⊢
    cases hc : smem2 dd.1 0 md with
    | false => exact hX6.1 _ _ _ (by rw [hsc]; exact smem2_no hc)
    | true =>
      rw [hc, cond_true] at h3
      obtain ⟨b, m1, m2⟩ := sany_ok h3
      rw [Bool.and_eq_true] at m2
      obtain ⟨e, m3, m4⟩ := swlS_ok (ρ := ρ) hwl b m1
      have m5 := sent_ok hK m2.2
      rw [ssub_ev, m4] at m5
      have m6 := Nat.beq_eq.mp m2.1
      rw [← m6]
      exact hX6.2.2 (b.1, sev (srh 0 g ρ) e) (List.mem_map.mpr ⟨(b.1, e), m3, rfl⟩) j i (by simp only; omega)) h
  cases hv : sxV nP base g X.1 with
  | none => rw [hv] at h; exact (sub_none h).elim
  | some vs =>
    rw [hv] at h
    simp only [sn_eq] at h
    refine ⟨ρ', vs, _, h, rfl, ⟨fun t ht => (ha t (Nat.lt_of_lt_of_le ht hn)).trans (ag t ht), Nat.le_trans hn (Nat.le_add_right _ _), k2⟩, ⟨hX3, hX4, ⟨k3, k4⟩, sfr_trans hfr hX6 hmd (fun _ _ _ => trivial) hww⟩, h1, h2, h3, q4, ?_, ?_⟩
    · have hl := sls_ag ha b1 q5
      exact sls_mono (fun v => snad md v) (fun v c z1 z2 => sv_ad hX6.2.1 z1 z2) hadl hl
    · refine svs_app (sxV_ok hg hf hv hX7) ?_
      have hb2 : ∀ v ∈ rest, sbe base v.2.2 = true := fun v hv => sall_ok b2 v (hrs v hv)
      have hl := svs_mono (fun v => sbe base v.2.2) (fun v c z1 z2 => sv_ag ha z1 z2) hb2 hrest
      exact svs_mono (fun v => snad md v) (fun v c z1 z2 => sv_ad hX6.2.1 z1 z2) hads hl
end SXI
end
section
/-! one instruction that does not call -/
def szl (i : Instr) : Nat := match i with
  | .bipush _ => 2
  | .sipush _ => 3
  | .ldc _ => 2
  | .ldc_w _ => 3
  | .ldc2_w _ => 3
  | .iload _ => 2
  | .aload _ => 2
  | .lload _ => 2
  | .istore _ => 2
  | .astore _ => 2
  | .lstore _ => 2
  | .iinc _ _ => 3
  | .if_icmp _ _ => 3
  | .ifCond _ _ => 3
  | .goto _ => 3
  | .getfield _ => 3
  | .putfield _ => 3
  | .newarray _ => 2
  | .new _ => 3
  | .invokestatic _ => 3
  | .invokevirtual _ => 3
  | _ => 1
def szlok (i : Instr) (len : Nat) : Bool := match i with
  | .tableswitch _ _ _ _ => true
  | i => Nat.beq len (szl i)
def slk0 (own : String) (ins : Instr) (lk : List Nat) : Bool := match ins with
  | .getfield idx => (match lk with
    | [ci, f, i] => zfl1 ci f (fun _ T _ => zin i (.fieldLink own idx (T f).1 (T f).2.1 (T f).2.2.1))
    | _ => false)
  | .putfield idx => (match lk with
    | [ci, f, kd, i] => zfl1 ci f (fun _ T _ => zin i (.fieldLink own idx (T f).1 (T f).2.1 (T f).2.2.1) && (zpf kd (T f).2.2.1 && decide ((T f).2.2.2 = false)))
    | _ => false)
  | .ldc idx => decide (own = "NamesUnder$OrderReader") && Nat.beq idx 159
  | .ldc_w idx => (match lk with
    | [v, i] => zin i (.constant own idx (Int32.ofNat v))
    | _ => false)
  | .ldc2_w idx => (match lk with
    | [v, i] => zin i (.constantLong own idx (Int64.ofNat v))
    | _ => false)
  | _ => true
def sx_stl (nL i n pc : Nat) (lv : SL) (st : List SV) (w : SW) (ret : SRt) : SX := match st with
  | v :: st' => cond (stl v && Nat.blt (i + 1) nL) (sll (lv.filter (fun q => !(q.1 == i) && (!(q.1 == i + 1) && !(q.1 + 1 == i && scat q.2 == 2)))) (fun lr => ret (pc + n) ((i, v) :: lr) st' w)) none
  | [] => none
def sx_sld (rg : SRg) (pc : Nat) (lv : SL) (st : List SV) (w : SW) (ret : SRt) : SX := match st with
  | i :: v :: st' => cond (Nat.beq i.1 0 && Nat.beq v.1 3) (sldk rg 108 0 (sc 0) (sc 0) lv st w (fun L w => cond (sent w.2.2.1 i.2.2 && sent w.2.2.1 (saddc (ssub L i.2.2) (-1))) (sldk rg 107 0 (sc 0) i.2.2 lv st w (fun e w => ret (pc + 1) lv ((0, 0, e) :: st') w)) none)) none
  | _ => none
def sx_slen (rg : SRg) (pc : Nat) (lv : SL) (st : List SV) (w : SW) (ret : SRt) : SX := match st with
  | v :: st' => cond (Nat.beq v.1 3) (sldk rg 108 0 (sc 0) (sc 0) lv st w (fun L w => ret (pc + 1) lv ((0, 0, L) :: st') w)) none
  | _ => none
noncomputable def sxi (fm : List SF) (rg : SRg) (md : List (Nat × Nat)) (wl : List (Nat × SE)) (lw : Bool) (nL : Nat) (ins : Instr) (lk : List Nat) (pc : Nat) (lv : SL) (st : List SV) (w : SW) (ret : SRt) : SX := match ins with
  | .iconst n => sfi (Int32.ofInt n).toInt (fun x => ret (pc + 1) lv ((0, 0, sc x) :: st) w)
  | .bipush n => sfi (Int8.ofInt n).toInt32.toInt (fun x => ret (pc + 2) lv ((0, 0, sc x) :: st) w)
  | .sipush n => sfi (Int16.ofInt n).toInt32.toInt (fun x => ret (pc + 3) lv ((0, 0, sc x) :: st) w)
  | .lconst n => sfi (Int64.ofNat n.val).toInt (fun x => ret (pc + 1) lv ((1, 0, sc x) :: st) w)
  | .ldc _ => cond lw none (ret (pc + 2) lv ((3, 0, sc 0) :: st) w)
  | .ldc_w _ => (match lk with
    | [v, _] => sfi (Int32.ofNat v).toInt (fun x => ret (pc + 3) lv ((0, 0, sc x) :: st) w)
    | _ => none)
  | .ldc2_w _ => (match lk with
    | [v, _] => sfi (Int64.ofNat v).toInt (fun x => ret (pc + 3) lv ((1, 0, sc x) :: st) w)
    | _ => none)
  | .iload_n i => sx_ld sti i.val 1 pc lv st w ret
  | .iload i => sx_ld sti i 2 pc lv st w ret
  | .aload_n i => sx_ld str i.val 1 pc lv st w ret
  | .aload i => sx_ld str i 2 pc lv st w ret
  | .lload_n i => sx_ld stl i.val 1 pc lv st w ret
  | .lload i => sx_ld stl i 2 pc lv st w ret
  | .istore_n i => sx_st sti nL i.val 1 pc lv st w ret
  | .istore i => sx_st sti nL i 2 pc lv st w ret
  | .astore_n i => sx_st str nL i.val 1 pc lv st w ret
  | .astore i => sx_st str nL i 2 pc lv st w ret
  | .lstore i => sx_stl nL i 2 pc lv st w ret
  | .iinc i n => sx_iinc nL i n pc lv st w ret
  | .iadd => sx_bin 0 0 0 o_iadd pc lv st w ret
  | .isub => sx_bin 0 0 0 (o_sub (-2147483648) 2147483647) pc lv st w ret
  | .imul => sx_bin 0 0 0 (o_mul (-2147483648) 2147483647) pc lv st w ret
  | .ladd => sx_bin 1 1 1 (o_add (-9223372036854775808) 9223372036854775807) pc lv st w ret
  | .lsub => sx_bin 1 1 1 (o_sub (-9223372036854775808) 9223372036854775807) pc lv st w ret
  | .lmul => sx_bin 1 1 1 (o_mul (-9223372036854775808) 9223372036854775807) pc lv st w ret
  | .iand => sx_bin 0 0 0 o_and pc lv st w ret
  | .ior => sx_bin 0 0 0 (o_new (-2147483648) 2147483647) pc lv st w ret
  | .ishl => sx_bin 0 0 0 (o_new (-2147483648) 2147483647) pc lv st w ret
  | .ishr => sx_bin 0 0 0 (o_new (-2147483648) 2147483647) pc lv st w ret
  | .iushr => sx_bin 0 0 0 (o_new (-2147483648) 2147483647) pc lv st w ret
  | .idiv => sx_bin 0 0 0 o_div pc lv st w ret
  | .irem => sx_bin 0 0 0 o_div pc lv st w ret
  | .land => sx_bin 1 1 1 (o_new (-9223372036854775808) 9223372036854775807) pc lv st w ret
  | .lor => sx_bin 1 1 1 (o_new (-9223372036854775808) 9223372036854775807) pc lv st w ret
  | .lshl => sx_bin 1 0 1 (o_new (-9223372036854775808) 9223372036854775807) pc lv st w ret
  | .lshr => sx_bin 1 0 1 (o_new (-9223372036854775808) 9223372036854775807) pc lv st w ret
  | .lushr => sx_bin 1 0 1 (o_new (-9223372036854775808) 9223372036854775807) pc lv st w ret
  | .i2l => sx_un 0 1 o_id pc lv st w ret
  | .l2i => sx_un 1 0 (o_lin (-2147483648) 2147483647) pc lv st w ret
  | .i2c => sx_un 0 0 (o_lin 0 65535) pc lv st w ret
  | .lcmp => sx_lcmp pc lv st w ret
  | .if_icmp op off => sx_icmp op off pc lv st w ret
  | .ifCond op off => sx_if op off pc lv st w ret
  | .goto off => sjmp pc off (fun t => ret t lv st w)
  | .tableswitch dflt lo hi offs => sx_tsw dflt lo hi offs.toList pc lv st w ret
  | .dup => sx_dup pc lv st w ret
  | .dup2 => sx_dup2 pc lv st w ret
  | .pop => sx_pop pc lv st w ret
  | .getfield _ => (match lk with
    | [ci, f, _] => sx_getf fm rg ci f pc lv st w ret
    | _ => none)
  | .putfield _ => (match lk with
    | [ci, f, kd, _] => sx_putf fm rg md wl ci f kd pc lv st w ret
    | _ => none)
  | .iaload => cond lw (sx_sld rg pc lv st w ret) (sx_ald fm rg 0 0 pc lv st w ret)
  | .baload => sx_ald fm rg 1 0 pc lv st w ret
  | .caload => sx_ald fm rg 2 0 pc lv st w ret
  | .laload => sx_ald fm rg 3 1 pc lv st w ret
  | .aaload => sx_aald fm rg pc lv st w ret
  | .iastore => sx_ast fm rg md wl 0 0 pc lv st w ret
  | .bastore => sx_ast fm rg md wl 1 0 pc lv st w ret
  | .castore => sx_ast fm rg md wl 2 0 pc lv st w ret
  | .lastore => sx_ast fm rg md wl 3 1 pc lv st w ret
  | .arraylength => cond lw (sx_slen rg pc lv st w ret) (sx_len fm rg pc lv st w ret)
  | _ => none
/-- the script, where the method is the law's own -/
def sSCR (rg : SRg) (scr : Nat) (s : State) (A : Nat → Prop) (M0 : SMem) (wr : SWr) : Prop := ∃ (L : Nat) (xv : Nat → Int32), va_X scr L xv s s.heap ∧ scr < s.heap.size ∧ ¬ A scr ∧ L < 2 ^ 31 ∧ M0 108 0 0 = (L : Int) ∧ (∀ j, j < L → M0 107 0 j = (xv j).toInt) ∧ (∀ i, (107, scl rg 107 i) ∉ wr.1) ∧ (∀ i, (108, scl rg 108 i) ∉ wr.1) ∧ ∀ i, srg rg 107 i = srg rg 107 0
section SXS
variable {p : Program} {l : Launch} {e : Env} {R : Room} {s : State} {m : MethodId} {args : Array Value} {below : List Frame} {meth : Method} {c : Code} {Q : State → Prop} {dC : Nat → ClassId} {dI : Nat → Nat → Nat} {cA : Nat → ClassId} {A : Nat → Prop} {nL : Nat} {fm : List SF} {rg : SRg} {wr : SWr} {scr n0 : Nat} {ρ0 : Nat → Int} {M0 : SMem} {ad0 : SAd} {nc0 ns0 : Nat} {cc : ByteArray} {pc : Nat} {lv : SL} {st : List SV} {w : SW} {ret : SRt} {xs : List SS} {own : String}
variable {md : List (Nat × Nat)} {wl : List (Nat × SE)}
theorem ss_stl (hx : p.tables.exec = Jvm.exec) (hb : c.code = cc) {i : Nat} (hdg : decode cc pc = .ok (.lstore i, 2)) (h : sub (sx_stl nL i 2 pc lv st w ret) xs) (Hk : ∀ (pc : Nat) (lv : SL) (st : List SV) (w : SW), sub (ret pc lv st w) xs → sW p l e R s m args below meth c Q dC dI cA A nL fm rg sX sfI wr scr n0 ρ0 M0 ad0 nc0 ns0 pc lv st w) : sW p l e R s m args below meth c Q dC dI cA A nL fm rg sX sfI wr scr n0 ρ0 M0 ad0 nc0 ns0 pc lv st w := by
  match st, h with
  | [], h => exact (sub_none h).elim
  | v :: st', h =>
    obtain ⟨h1, h⟩ := sub_cond h
    rw [sll_eq] at h
    rw [Bool.and_eq_true] at h1
    intro ρ M ad ws H locs ls clv cst ⟨⟨ag, hn, hK⟩, ⟨r1, hI, hmo, hfr⟩, r2, r3, r4, r5, r6, r7⟩
    obtain ⟨cv, cr, rfl, h5, h6⟩ := svs_cons r7
    obtain ⟨x, rfl, -⟩ := sv_lng h1.1 h5
    refine lv_lstore hx hb hdg r5 (zblt h1.2) rfl (fun ls' hl' => Hk _ _ _ _ h ρ M ad ws H locs ls' _ _ ⟨⟨ag, hn, hK⟩, ⟨r1, hI, hmo, hfr⟩, r2, r3, r4, hl', ⟨rfl, h5, ?_⟩, h6⟩)
    have : ∀ {vs : SL} {cs : ZL}, sls fm scr ρ ad vs cs → sls fm scr ρ ad (vs.filter (fun q => !(q.1 == i) && (!(q.1 == i + 1) && !(q.1 + 1 == i && scat q.2 == 2)))) (cs.filter (fun q => !(q.1 == i) && (!(q.1 == i + 1) && !(q.1 + 1 == i && q.2.category == 2)))) := by
      intro vs
      induction vs with
      | nil =>
        intro cs h
        cases sls_nil h
        trivial
      | cons v vs ih =>
        intro cs h
        obtain ⟨c, r, rfl, h1, h2, h3⟩ := sls_cons h
        have e : (!(c.1 == i) && (!(c.1 == i + 1) && !(c.1 + 1 == i && c.2.category == 2))) = (!(v.1 == i) && (!(v.1 == i + 1) && !(v.1 + 1 == i && scat v.2 == 2))) := by
          rw [h1, sv_cat h2]
        rw [List.filter_cons, List.filter_cons, e]
        cases (!(v.1 == i) && (!(v.1 == i + 1) && !(v.1 + 1 == i && scat v.2 == 2))) with
        | true => exact ⟨h1, h2, ih h3⟩
        | false => exact ih h3
    exact this r6
theorem ss_slen (hx : p.tables.exec = Jvm.exec) (hb : c.code = cc) (hscr : sSCR rg scr s A M0 wr) (hdg : decode cc pc = .ok (.arraylength, 1)) (h : sub (sx_slen rg pc lv st w ret) xs) (Hk : ∀ (pc : Nat) (lv : SL) (st : List SV) (w : SW), sub (ret pc lv st w) xs → sW p l e R s m args below meth c Q dC dI cA A nL fm rg sX sfI wr scr n0 ρ0 M0 ad0 nc0 ns0 pc lv st w) : sW p l e R s m args below meth c Q dC dI cA A nL fm rg sX sfI wr scr n0 ρ0 M0 ad0 nc0 ns0 pc lv st w := by
  obtain ⟨L, xv, z1, z2, z3, z4, z5, z6, z7, z8, z9⟩ := hscr
  match st, h with
  | [], h => exact (sub_none h).elim
  | v :: st', h =>
    obtain ⟨h1, h⟩ := sub_cond h
    intro ρ M ad ws H locs ls clv cst hr
    obtain ⟨cv, cr, rfl, h5, h6⟩ := svs_cons hr.2.2.2.2.2.2.2
    have h3 : v.1 = 3 := Nat.beq_eq.mp h1
    rcases h5 with ⟨q, -⟩ | ⟨q, -⟩ | ⟨q, -⟩ | ⟨-, rfl⟩
    · omega
    · omega
    · omega
    · have hM : M 108 0 0 = (L : Int) := by rw [hr.2.1.2.2.2.1 108 0 0 (z8 0)]; exact z5
      obtain ⟨ρ', e', w', a1, a2, a3, a4, a5⟩ := sldk_ok (f := 108) (jn := 0) (i0 := 0) hr (fun n hn => ⟨rfl, rfl⟩) rfl (by rw [sev_c]; rfl) (by rw [sev_c]; rfl) hM h
      have := Hk _ _ _ _ a3 ρ' M ad ws H locs ls clv (.int (Int32.ofNat L) :: cr) ⟨a2.1, a2.2.1, a2.2.2.1, a2.2.2.2.1, a2.2.2.2.2.1, a2.2.2.2.2.2.1, a2.2.2.2.2.2.2.1, sv_mkI (by rw [sofn z4]; exact a1), a2.2.2.2.2.2.2.2.2⟩
      rw [a4] at this
      exact va_slen hx hb z1 z2 z3 hr.2.2.2.2.1 hdg this
theorem ss_sld (hx : p.tables.exec = Jvm.exec) (hb : c.code = cc) (hscr : sSCR rg scr s A M0 wr) (hdg : decode cc pc = .ok (.iaload, 1)) (h : sub (sx_sld rg pc lv st w ret) xs) (Hk : ∀ (pc : Nat) (lv : SL) (st : List SV) (w : SW), sub (ret pc lv st w) xs → sW p l e R s m args below meth c Q dC dI cA A nL fm rg sX sfI wr scr n0 ρ0 M0 ad0 nc0 ns0 pc lv st w) : sW p l e R s m args below meth c Q dC dI cA A nL fm rg sX sfI wr scr n0 ρ0 M0 ad0 nc0 ns0 pc lv st w := by
  obtain ⟨L, xv, z1, z2, z3, z4, z5, z6, z7, z8, z9⟩ := hscr
  match st, h with
  | [], h => exact (sub_none h).elim
  | [_], h => exact (sub_none h).elim
  | i :: v :: st', h =>
    obtain ⟨h0, h⟩ := sub_cond h
    rw [Bool.and_eq_true] at h0
    intro ρ M ad ws H locs ls clv cst hr
    obtain ⟨ci, cr, rfl, h5, h6⟩ := svs_cons hr.2.2.2.2.2.2.2
    obtain ⟨cv, cr, rfl, h7, h8⟩ := svs_cons h6
    obtain ⟨iv, rfl, ei⟩ := sv_int h0.1 h5
    have h3 : v.1 = 3 := Nat.beq_eq.mp h0.2
    rcases h7 with ⟨q, -⟩ | ⟨q, -⟩ | ⟨q, -⟩ | ⟨-, rfl⟩
    · omega
    · omega
    · omega
    · have hM : M 108 0 0 = (L : Int) := by rw [hr.2.1.2.2.2.1 108 0 0 (z8 0)]; exact z5
      obtain ⟨ρ1, e1, w1, a1, a2, a3, a4, a5⟩ := sldk_ok (f := 108) (jn := 0) (i0 := 0) hr (fun n hn => ⟨rfl, rfl⟩) rfl (by rw [sev_c]; rfl) (by rw [sev_c]; rfl) hM h
      obtain ⟨k1, k2⟩ := sub_cond a3
      rw [Bool.and_eq_true] at k1
      have q1 := sent_ok (srel_sK a2) k1.1
      have q2 := sent_ok (srel_sK a2) k1.2
      rw [saddc_ev, ssub_ev] at q2
      have ee : sev ρ1 i.2.2 = sev ρ i.2.2 := a5 _ (fun n hn _ => sall_ok hn i List.mem_cons_self)
      have hcl := sclamp (x := iv) (by omega)
      have hin : vp_in iv L := vp_in_iff.mpr ⟨by omega, by omega⟩
      have hM2 : M 107 0 iv.toNatClampNeg = (xv iv.toNatClampNeg).toInt := by rw [hr.2.1.2.2.2.1 107 0 _ (z7 _)]; exact z6 _ (by omega)
      obtain ⟨ρ2, e2, w2, b1, b2, b3, b4, b5⟩ := sldk_ok (f := 107) (jn := 0) (i0 := iv.toNatClampNeg) a2 (fun n hn => ⟨rfl, sall_ok hn i List.mem_cons_self⟩) (z9 _) (by rw [sev_c]; rfl) (by omega) hM2 k2
      have := Hk _ _ _ _ b3 ρ2 M ad ws H locs ls clv (.int (xv iv.toNatClampNeg) :: cr) ⟨b2.1, b2.2.1, b2.2.2.1, b2.2.2.2.1, b2.2.2.2.2.1, b2.2.2.2.2.2.1, b2.2.2.2.2.2.2.1, sv_mkI b1, b2.2.2.2.2.2.2.2.2.2⟩
      rw [b4, a4] at this
      exact va_sld hx hb z1 z2 z3 hr.2.2.2.2.1 hin hdg this
end SXS
end
section
/-! every instruction is the machine's -/
section SXT
variable {p : Program} {l : Launch} {e : Env} {R : Room} {s : State} {m : MethodId} {args : Array Value} {below : List Frame} {meth : Method} {c : Code} {Q : State → Prop} {dC : Nat → ClassId} {dI : Nat → Nat → Nat} {cA : Nat → ClassId} {A : Nat → Prop} {nL : Nat} {fm : List SF} {rg : SRg} {wr : SWr} {scr n0 : Nat} {ρ0 : Nat → Int} {M0 : SMem} {ad0 : SAd} {nc0 ns0 : Nat} {cc : ByteArray} {pc : Nat} {lv : SL} {st : List SV} {w : SW} {ret : SRt} {xs : List SS} {own : String}
variable {md : List (Nat × Nat)} {wl : List (Nat × SE)}
theorem srow_iload (hx : p.tables.exec = Jvm.exec) (hb : c.code = cc) {i n : Nat} {ins : Instr} (hrow : ∀ (x : Int32) (H : Heap) (locs : List Loc) (ls : Array Slot) (cst : List Value), ls[i]? = some (.val (.int x)) → W p l e R s m args below meth c H locs (nc0 + w.2.2.2.1) (ns0 + w.2.2.2.2) Q (F0 m (pc + n) ls (.int x :: cst)) → W p l e R s m args below meth c H locs (nc0 + w.2.2.2.1) (ns0 + w.2.2.2.2) Q (F0 m pc ls cst)) (h : sub (sx_ld sti i n pc lv st w ret) xs) (Hk : ∀ (pc : Nat) (lv : SL) (st : List SV) (w : SW), sub (ret pc lv st w) xs → sW p l e R s m args below meth c Q dC dI cA A nL fm rg sX sfI wr scr n0 ρ0 M0 ad0 nc0 ns0 pc lv st w) : sW p l e R s m args below meth c Q dC dI cA A nL fm rg sX sfI wr scr n0 ρ0 M0 ad0 nc0 ns0 pc lv st w := by
  refine ss_ld (f := sti) (fun v ρ ad cv H locs ls cst h1 h2 h3 h4 => ?_) h Hk
  obtain ⟨x, rfl, -⟩ := sv_int h1 h2
  exact hrow x H locs ls cst h3 h4
theorem srow_lload (hx : p.tables.exec = Jvm.exec) (hb : c.code = cc) {i n : Nat} {ins : Instr} (hrow : ∀ (x : Int64) (H : Heap) (locs : List Loc) (ls : Array Slot) (cst : List Value), ls[i]? = some (.val (.long x)) → W p l e R s m args below meth c H locs (nc0 + w.2.2.2.1) (ns0 + w.2.2.2.2) Q (F0 m (pc + n) ls (.long x :: cst)) → W p l e R s m args below meth c H locs (nc0 + w.2.2.2.1) (ns0 + w.2.2.2.2) Q (F0 m pc ls cst)) (h : sub (sx_ld stl i n pc lv st w ret) xs) (Hk : ∀ (pc : Nat) (lv : SL) (st : List SV) (w : SW), sub (ret pc lv st w) xs → sW p l e R s m args below meth c Q dC dI cA A nL fm rg sX sfI wr scr n0 ρ0 M0 ad0 nc0 ns0 pc lv st w) : sW p l e R s m args below meth c Q dC dI cA A nL fm rg sX sfI wr scr n0 ρ0 M0 ad0 nc0 ns0 pc lv st w := by
  refine ss_ld (f := stl) (fun v ρ ad cv H locs ls cst h1 h2 h3 h4 => ?_) h Hk
  obtain ⟨x, rfl, -⟩ := sv_lng h1 h2
  exact hrow x H locs ls cst h3 h4
theorem srow_aload (hx : p.tables.exec = Jvm.exec) (hb : c.code = cc) {i n : Nat} {ins : Instr} (hrow : ∀ (x : Nat) (H : Heap) (locs : List Loc) (ls : Array Slot) (cst : List Value), ls[i]? = some (.val (.ref x)) → W p l e R s m args below meth c H locs (nc0 + w.2.2.2.1) (ns0 + w.2.2.2.2) Q (F0 m (pc + n) ls (.ref x :: cst)) → W p l e R s m args below meth c H locs (nc0 + w.2.2.2.1) (ns0 + w.2.2.2.2) Q (F0 m pc ls cst)) (h : sub (sx_ld str i n pc lv st w ret) xs) (Hk : ∀ (pc : Nat) (lv : SL) (st : List SV) (w : SW), sub (ret pc lv st w) xs → sW p l e R s m args below meth c Q dC dI cA A nL fm rg sX sfI wr scr n0 ρ0 M0 ad0 nc0 ns0 pc lv st w) : sW p l e R s m args below meth c Q dC dI cA A nL fm rg sX sfI wr scr n0 ρ0 M0 ad0 nc0 ns0 pc lv st w := by
  refine ss_ld (f := str) (fun v ρ ad cv H locs ls cst h1 h2 h3 h4 => ?_) h Hk
  obtain ⟨x, rfl⟩ := sv_ref h1 h2
  exact hrow x H locs ls cst h3 h4
set_option maxHeartbeats 4000000 in
theorem sxi_sound {len : Nat} {lw : Bool} {ins : Instr} {lk : List Nat} (hcl : ∀ (ci : Nat) (C : String) (T : u_T) (N : Nat), vwCl[ci]? = some (C, T, N) → (∀ w ∈ u_ws C T N, w ∈ zT) ∧ ∃ ty0 : Nat → FieldType, (∀ k, k < N → parseFieldDescriptor (T k).2.2.1 = some (ty0 k)) ∧ ∀ a, a < N → ∀ b, b < N → a ≠ b → (T a).2.1 ≠ (T b).2.1) (hS : sST fm rg) (hwr : sWR md wl n0 ρ0 wr) (hx : p.tables.exec = Jvm.exec) (hb : c.code = cc) (hown : s.vm.findClass own = some m.cls) (hts : ∀ w ∈ zT, w.before args s = true) (hKv : va_K (dC, dI) vwCl (ztys cA) s) (hstr : lw = false → own = "NamesUnder$OrderReader" → ∃ tx, vk_R own 159 tx scr s) (hscr : lw = true → sSCR rg scr s A M0 wr)
    (hdg : decode cc pc = .ok (ins, len)) (hlen : szlok ins len = true) (hlk : slk0 own ins lk = true) (h : sub (sxi fm rg md wl lw nL ins lk pc lv st w ret) xs) (Hk : ∀ (pc : Nat) (lv : SL) (st : List SV) (w : SW), sub (ret pc lv st w) xs → sW p l e R s m args below meth c Q dC dI cA A nL fm rg sX sfI wr scr n0 ρ0 M0 ad0 nc0 ns0 pc lv st w) : sW p l e R s m args below meth c Q dC dI cA A nL fm rg sX sfI wr scr n0 ρ0 M0 ad0 nc0 ns0 pc lv st w := by
  cases ins with
  | iconst n =>
    cases Nat.beq_eq.mp (show Nat.beq len 1 = true from hlen)
    simp only [sxi, sfi_eq] at h
    exact ss_push (v := (0, 0, sc _)) (fun _ _ => sv_mkI (by rw [sev_c])) (fun H locs ls cst w => lv_iconst hx hb hdg rfl w) h Hk
  | bipush n =>
    cases Nat.beq_eq.mp (show Nat.beq len 2 = true from hlen)
    simp only [sxi, sfi_eq] at h
    exact ss_push (v := (0, 0, sc _)) (fun _ _ => sv_mkI (by rw [sev_c])) (fun H locs ls cst w => lv_bipush hx hb hdg rfl w) h Hk
  | sipush n =>
    cases Nat.beq_eq.mp (show Nat.beq len 3 = true from hlen)
    simp only [sxi, sfi_eq] at h
    exact ss_push (v := (0, 0, sc _)) (fun _ _ => sv_mkI (by rw [sev_c])) (fun H locs ls cst w => lv_sipush hx hb hdg rfl w) h Hk
  | lconst n =>
    cases Nat.beq_eq.mp (show Nat.beq len 1 = true from hlen)
    simp only [sxi, sfi_eq] at h
    exact ss_push (v := (1, 0, sc _)) (fun _ _ => sv_mkL (by rw [sev_c])) (fun H locs ls cst w => lv_lconst hx hb hdg rfl w) h Hk
  | ldc idx =>
    cases Nat.beq_eq.mp (show Nat.beq len 2 = true from hlen)
    cases hl : lw with
    | true => simp only [sxi, hl, cond_true] at h; exact (sub_none h).elim
    | false =>
      simp only [sxi, hl, cond_false] at h
      have h1 : (decide (own = "NamesUnder$OrderReader") && Nat.beq idx 159) = true := hlk
      rw [Bool.and_eq_true] at h1
      obtain ⟨tx, htx⟩ := hstr hl (of_decide_eq_true h1.1)
      cases Nat.beq_eq.mp h1.2
      exact ss_push (v := (3, 0, sc 0)) (fun _ _ => Or.inr (Or.inr (Or.inr ⟨rfl, rfl⟩))) (fun H locs ls cst w => va_ldcS hx hb hown htx hdg w) h Hk
  | ldc_w idx =>
    cases Nat.beq_eq.mp (show Nat.beq len 3 = true from hlen)
    match lk, hlk, h with
    | [v, i], hlk, h =>
      simp only [sxi, sfi_eq] at h
      exact ss_push (v := (0, 0, sc _)) (fun _ _ => sv_mkI (by rw [sev_c])) (fun H locs ls cst w => lv_ldcw hx hb hown (hts _ (zin_ok hlk)) hdg w) h Hk
    | [], hlk, h => cases hlk
    | [_], hlk, h => cases hlk
    | _ :: _ :: _ :: _, hlk, h => cases hlk
  | ldc2_w idx =>
    cases Nat.beq_eq.mp (show Nat.beq len 3 = true from hlen)
    match lk, hlk, h with
    | [v, i], hlk, h =>
      simp only [sxi, sfi_eq] at h
      exact ss_push (v := (1, 0, sc _)) (fun _ _ => sv_mkL (by rw [sev_c])) (fun H locs ls cst w => lv_ldc2 hx hb hown (hts _ (zin_ok hlk)) hdg w) h Hk
    | [], hlk, h => cases hlk
    | [_], hlk, h => cases hlk
    | _ :: _ :: _ :: _, hlk, h => cases hlk
  | iload_n i =>
    cases Nat.beq_eq.mp (show Nat.beq len 1 = true from hlen)
    exact srow_iload (ins := .nop) hx hb (fun x H locs ls cst h1 w => lv_iload_n hx hb hdg rfl h1 w) h Hk
  | iload i =>
    cases Nat.beq_eq.mp (show Nat.beq len 2 = true from hlen)
    exact srow_iload (ins := .nop) hx hb (fun x H locs ls cst h1 w => lv_iload hx hb hdg h1 w) h Hk
  | aload_n i =>
    cases Nat.beq_eq.mp (show Nat.beq len 1 = true from hlen)
    exact srow_aload (ins := .nop) hx hb (fun x H locs ls cst h1 w => lv_aload_n hx hb hdg rfl h1 w) h Hk
  | aload i =>
    cases Nat.beq_eq.mp (show Nat.beq len 2 = true from hlen)
    exact srow_aload (ins := .nop) hx hb (fun x H locs ls cst h1 w => lv_aload hx hb hdg h1 w) h Hk
  | lload_n i =>
    cases Nat.beq_eq.mp (show Nat.beq len 1 = true from hlen)
    exact srow_lload (ins := .nop) hx hb (fun x H locs ls cst h1 w => lv_lload_n hx hb hdg rfl h1 w) h Hk
  | lload i =>
    cases Nat.beq_eq.mp (show Nat.beq len 2 = true from hlen)
    exact srow_lload (ins := .nop) hx hb (fun x H locs ls cst h1 w => lv_lload hx hb hdg h1 w) h Hk
  | istore_n i =>
    cases Nat.beq_eq.mp (show Nat.beq len 1 = true from hlen)
    refine ss_st (f := sti) (fun v ρ ad cv H locs ls cst clv h1 h2 h3 h4 kk => ?_) h Hk
    obtain ⟨x, rfl, -⟩ := sv_int h1 h2
    exact lv_istore_n hx hb hdg rfl h3 h4 rfl kk
  | istore i =>
    cases Nat.beq_eq.mp (show Nat.beq len 2 = true from hlen)
    refine ss_st (f := sti) (fun v ρ ad cv H locs ls cst clv h1 h2 h3 h4 kk => ?_) h Hk
    obtain ⟨x, rfl, -⟩ := sv_int h1 h2
    exact lv_istore hx hb hdg h3 h4 rfl kk
  | astore_n i =>
    cases Nat.beq_eq.mp (show Nat.beq len 1 = true from hlen)
    refine ss_st (f := str) (fun v ρ ad cv H locs ls cst clv h1 h2 h3 h4 kk => ?_) h Hk
    obtain ⟨x, rfl⟩ := sv_ref h1 h2
    exact lv_astore_n hx hb hdg rfl h3 h4 rfl kk
  | astore i =>
    cases Nat.beq_eq.mp (show Nat.beq len 2 = true from hlen)
    refine ss_st (f := str) (fun v ρ ad cv H locs ls cst clv h1 h2 h3 h4 kk => ?_) h Hk
    obtain ⟨x, rfl⟩ := sv_ref h1 h2
    exact lv_astore hx hb hdg h3 h4 rfl kk
  | lstore i =>
    cases Nat.beq_eq.mp (show Nat.beq len 2 = true from hlen)
    exact ss_stl hx hb hdg h Hk
  | iinc i n =>
    cases Nat.beq_eq.mp (show Nat.beq len 3 = true from hlen)
    exact ss_iinc hx hb hdg h Hk
  | iadd =>
    cases Nat.beq_eq.mp (show Nat.beq len 1 = true from hlen)
    exact ss_iadd hx hb hdg h Hk
  | isub =>
    cases Nat.beq_eq.mp (show Nat.beq len 1 = true from hlen)
    exact ss_isub hx hb hdg h Hk
  | imul =>
    cases Nat.beq_eq.mp (show Nat.beq len 1 = true from hlen)
    exact ss_imul hx hb hdg h Hk
  | ladd =>
    cases Nat.beq_eq.mp (show Nat.beq len 1 = true from hlen)
    exact ss_ladd hx hb hdg h Hk
  | lsub =>
    cases Nat.beq_eq.mp (show Nat.beq len 1 = true from hlen)
    exact ss_lsub hx hb hdg h Hk
  | lmul =>
    cases Nat.beq_eq.mp (show Nat.beq len 1 = true from hlen)
    exact ss_lmul hx hb hdg h Hk
  | iand =>
    cases Nat.beq_eq.mp (show Nat.beq len 1 = true from hlen)
    exact ss_iand hx hb hdg h Hk
  | ior =>
    cases Nat.beq_eq.mp (show Nat.beq len 1 = true from hlen)
    exact ss_newI (f := fun a b => a ||| b) (fun a b H locs ls cst w => lv_ior hx hb hdg w) h Hk
  | ishl =>
    cases Nat.beq_eq.mp (show Nat.beq len 1 = true from hlen)
    exact ss_newI (f := fun a b => a <<< (b &&& 31)) (fun a b H locs ls cst w => lv_ishl hx hb hdg w) h Hk
  | ishr =>
    cases Nat.beq_eq.mp (show Nat.beq len 1 = true from hlen)
    exact ss_newI (f := fun a b => a >>> (b &&& 31)) (fun a b H locs ls cst w => lv_ishr hx hb hdg w) h Hk
  | iushr =>
    cases Nat.beq_eq.mp (show Nat.beq len 1 = true from hlen)
    exact ss_newI (f := fun a b => (a.toUInt32 >>> (b.toUInt32 &&& Int32.toUInt32 31)).toInt32) (fun a b H locs ls cst w => lv_iushr hx hb hdg rfl w) h Hk
  | idiv =>
    cases Nat.beq_eq.mp (show Nat.beq len 1 = true from hlen)
    exact ss_div (f := fun a b => a / b) (fun a b H locs ls cst hne w => lv_idiv hx hb hdg hne w) h Hk
  | irem =>
    cases Nat.beq_eq.mp (show Nat.beq len 1 = true from hlen)
    exact ss_div (f := fun a b => a - a / b * b) (fun a b H locs ls cst hne w => lv_irem hx hb hdg hne w) h Hk
  | land =>
    cases Nat.beq_eq.mp (show Nat.beq len 1 = true from hlen)
    exact ss_newL (f := fun a b => a &&& b) (fun a b H locs ls cst w => lv_land hx hb hdg w) h Hk
  | lor =>
    cases Nat.beq_eq.mp (show Nat.beq len 1 = true from hlen)
    exact ss_newL (f := fun a b => a ||| b) (fun a b H locs ls cst w => lv_lor hx hb hdg w) h Hk
  | lshl =>
    cases Nat.beq_eq.mp (show Nat.beq len 1 = true from hlen)
    exact ss_newS (f := fun a b => a <<< (b.toInt64 &&& 63)) (fun a b H locs ls cst w => lv_lshl hx hb hdg rfl w) h Hk
  | lshr =>
    cases Nat.beq_eq.mp (show Nat.beq len 1 = true from hlen)
    exact ss_newS (f := fun a b => a >>> (b.toInt64 &&& 63)) (fun a b H locs ls cst w => lv_lshr hx hb hdg rfl w) h Hk
  | lushr =>
    cases Nat.beq_eq.mp (show Nat.beq len 1 = true from hlen)
    exact ss_newS (f := fun a b => (a.toUInt64 >>> (b.toInt64.toUInt64 &&& Int64.toUInt64 63)).toInt64) (fun a b H locs ls cst w => lv_lushr hx hb hdg rfl w) h Hk
  | i2l =>
    cases Nat.beq_eq.mp (show Nat.beq len 1 = true from hlen)
    exact ss_i2l hx hb hdg h Hk
  | l2i =>
    cases Nat.beq_eq.mp (show Nat.beq len 1 = true from hlen)
    exact ss_l2i hx hb hdg h Hk
  | i2c =>
    cases Nat.beq_eq.mp (show Nat.beq len 1 = true from hlen)
    exact ss_i2c hx hb hdg h Hk
  | lcmp =>
    cases Nat.beq_eq.mp (show Nat.beq len 1 = true from hlen)
    exact ss_lcmp hx hb hdg h Hk
  | if_icmp op off =>
    cases Nat.beq_eq.mp (show Nat.beq len 3 = true from hlen)
    exact ss_icmp hx hb hdg h Hk
  | ifCond op off =>
    cases Nat.beq_eq.mp (show Nat.beq len 3 = true from hlen)
    exact ss_if hx hb hdg h Hk
  | goto off =>
    cases Nat.beq_eq.mp (show Nat.beq len 3 = true from hlen)
    exact ss_goto hx hb hdg h Hk
  | tableswitch dflt lo hi offs => exact ss_tsw hx hb hdg h Hk
  | dup =>
    cases Nat.beq_eq.mp (show Nat.beq len 1 = true from hlen)
    exact ss_dup hx hb hdg h Hk
  | dup2 =>
    cases Nat.beq_eq.mp (show Nat.beq len 1 = true from hlen)
    exact ss_dup2 hx hb hdg h Hk
  | pop =>
    cases Nat.beq_eq.mp (show Nat.beq len 1 = true from hlen)
    exact ss_pop hx hb hdg h Hk
  | getfield idx =>
    cases Nat.beq_eq.mp (show Nat.beq len 3 = true from hlen)
    match lk, hlk, h with
    | [ci, f, i], hlk, h =>
      simp only [slk0] at hlk
      obtain ⟨C, T, N, h1, h2, h3⟩ := zfl1_ok hlk
      exact ss_getf hx hb hown hts hKv hS (hcl ci C T N h1).1 h1 h2 (zin_ok h3) hdg h Hk
    | [], hlk, h => cases hlk
    | [_], hlk, h => cases hlk
    | [_, _], hlk, h => cases hlk
    | _ :: _ :: _ :: _ :: _, hlk, h => cases hlk
  | putfield idx =>
    cases Nat.beq_eq.mp (show Nat.beq len 3 = true from hlen)
    match lk, hlk, h with
    | [ci, f, kd, i], hlk, h =>
      simp only [slk0] at hlk
      obtain ⟨C, T, N, h1, h2, h3⟩ := zfl1_ok hlk
      rw [Bool.and_eq_true, Bool.and_eq_true] at h3
      obtain ⟨h4, h5, h6⟩ := h3
      obtain ⟨ty, h7, h8⟩ := zpf_ok h5
      obtain ⟨q1, ty0, q2, q3⟩ := hcl ci C T N h1
      exact ss_putf hx hb hown hts hKv hS hwr q1 q2 q3 h1 h2 (zin_ok h4) (of_decide_eq_true h6) h7 h8 hdg h Hk
    | [], hlk, h => cases hlk
    | [_], hlk, h => cases hlk
    | [_, _], hlk, h => cases hlk
    | [_, _, _], hlk, h => cases hlk
    | _ :: _ :: _ :: _ :: _ :: _, hlk, h => cases hlk
  | iaload =>
    cases Nat.beq_eq.mp (show Nat.beq len 1 = true from hlen)
    cases hl : lw with
    | true =>
      simp only [sxi, hl, cond_true] at h
      exact ss_sld hx hb (hscr hl) hdg h Hk
    | false =>
      simp only [sxi, hl, cond_false] at h
      exact ss_iald hx hb hKv hS hdg h Hk
  | arraylength =>
    cases Nat.beq_eq.mp (show Nat.beq len 1 = true from hlen)
    cases hl : lw with
    | true =>
      simp only [sxi, hl, cond_true] at h
      exact ss_slen hx hb (hscr hl) hdg h Hk
    | false =>
      simp only [sxi, hl, cond_false] at h
      exact ss_len hx hb hKv hS hdg h Hk
  | baload =>
    cases Nat.beq_eq.mp (show Nat.beq len 1 = true from hlen)
    exact ss_zald hx hb hKv hS hdg h Hk
  | caload =>
    cases Nat.beq_eq.mp (show Nat.beq len 1 = true from hlen)
    exact ss_cald hx hb hKv hS hdg h Hk
  | laload =>
    cases Nat.beq_eq.mp (show Nat.beq len 1 = true from hlen)
    exact ss_lald hx hb hKv hS hdg h Hk
  | aaload =>
    cases Nat.beq_eq.mp (show Nat.beq len 1 = true from hlen)
    exact ss_aald hx hb hKv hS hdg h Hk
  | iastore =>
    cases Nat.beq_eq.mp (show Nat.beq len 1 = true from hlen)
    exact ss_iast hx hb hKv hS hwr hdg h Hk
  | bastore =>
    cases Nat.beq_eq.mp (show Nat.beq len 1 = true from hlen)
    exact ss_zast hx hb hKv hS hwr hdg h Hk
  | castore =>
    cases Nat.beq_eq.mp (show Nat.beq len 1 = true from hlen)
    exact ss_cast hx hb hKv hS hwr hdg h Hk
  | lastore =>
    cases Nat.beq_eq.mp (show Nat.beq len 1 = true from hlen)
    exact ss_last hx hb hKv hS hwr hdg h Hk
  | _ => exact (sub_none h).elim
end SXT
end
section
/-! Math.max and min, rows copied, signs of the words -/
def sx_mm (mx : Bool) (pc : Nat) (lv : SL) (st : List SV) (w : SW) (ret : SRt) : SX := match st with
  | y :: x :: st' => cond (Nat.beq x.1 0 && (Nat.beq y.1 0 && Nat.ble ((st'.map scat).sum) 8)) (sfe (ssub x.2.2 y.2.2) (fun d => sapp (sge w.2.2.1 d (fun K => ret (pc + 3) lv (cond mx x y :: st') (swK w K))) (sge w.2.2.1 (saddc (sneg d) (-1)) (fun K => ret (pc + 3) lv (cond mx y x :: st') (swK w K))))) none
  | _ => none
def yChr : MethodName := ⟨"java/lang/String", "charAt", "(I)C"⟩
/-- what is wanted of String.charAt over the words -/
def sCHR (EX : SEx) (l : Launch) (dC : Nat → ClassId) (dI : Nat → Nat → Nat) (cA : Nat → ClassId) (scr : Nat) : Prop := ∀ (p : Program) (e : Env) (R : Room) (s : State) (m : MethodId) (args : Array Value) (below : List Frame) (meth : Method) (c : Code) (Q : State → Prop) (A : Nat → Prop) (H : Heap) (locs : List Loc) (ls : Array Slot) (rest : List Value) (nc ns pc idx : Nat) (own : String) (cc : ByteArray) (i : Int32) (ws : va_W), p.tables.exec = Jvm.exec → c.code = cc → c.maxLocals = ls.size → s.vm.findClass own = some m.cls → (∀ w ∈ zT, w.before args s = true) → va_K (dC, dI) vwCl (ztys cA) s → (∀ q, s.heap.size ≤ q → A q) → va_S A s.heap H locs → EX A s s.heap → va_P (dC, dI) vwCl ws H → va_D A ws → (rest.map fun v => v.category).sum ≤ 8 → 4 ≤ R.frames → 160 ≤ R.locals → nc ≤ R.cells → ns ≤ R.slots → Cond.methodLink own idx yChr ∈ zT → decode cc pc = .ok (.invokevirtual idx, 3) → 0 ≤ i.toInt → i.toInt < 120 →
  (∀ (x : Int32) (H1 : Heap) (locs1 : List Loc), 0 ≤ x.toInt → x.toInt ≤ 65535 → va_P (dC, dI) vwCl ws H1 → va_D A ws → va_S A s.heap H1 locs1 → W p l e R s m args below meth c H1 locs1 nc ns Q (F0 m (pc + 3) ls (.int x :: rest))) → W p l e R s m args below meth c H locs nc ns Q (F0 m pc ls (.int i :: .ref scr :: rest))
def sx_chr (pc : Nat) (lv : SL) (st : List SV) (w : SW) (ret : SRt) : SX := match st with
  | i :: v :: st' => cond (Nat.beq i.1 0 && (Nat.beq v.1 3 && (Nat.ble ((st'.map scat).sum) 8 && sin w.2.2.1 i.2.2 0 119))) (snew lv st w 0 65535 (fun e w => ret (pc + 3) lv ((0, 0, e) :: st') w)) none
  | _ => none
def sMcp (M : SMem) (f0 j0 f1 j1 N : Nat) : SMem := fun f j i => if f = f1 ∧ j = j1 ∧ i < N then M f0 j0 i else M f j i
def srgle (rg : SRg) (f0 f1 : Nat) : Bool := match srg rg f0 0, srg rg f1 0 with
  | some a, some b => decide (b.1 ≤ a.1) && decide (a.2 ≤ b.2)
  | _, _ => false
noncomputable def sx_cpy (fm : List SF) (rg : SRg) (md : List (Nat × Nat)) (wl : List (Nat × SE)) (pc : Nat) (lv : SL) (st : List SV) (w : SW) (ret : SRt) : SX := match st with
  | n :: dp :: v1 :: sp :: v0 :: st' => cond (Nat.beq n.1 0 && (Nat.beq dp.1 0 && (Nat.beq sp.1 0 && (Nat.beq v1.1 2 && (Nat.beq v0.1 2 && (sbeq dp.2.2 (sc 0) && (sbeq sp.2.2 (sc 0) && (sisc n.2.2 && (decide (0 ≤ n.2.2.1) && Nat.ble ((st'.map scat).sum) 8)))))))))
      (srow fm v0.2.1 (fun en0 a0 => srow fm v1.2.1 (fun en1 a1 => cond (Nat.beq a0.1 0 && (Nat.beq a1.1 0 && (Nat.beq a0.2.1 0 && (Nat.beq a1.2.1 0 && (Nat.ble n.2.2.1.toNat a0.2.2.1 && (Nat.ble n.2.2.1.toNat a1.2.2.1 && (Nat.ble 65 v1.2.1 && (Nat.ble v1.2.1 73 && (srgle rg v0.2.1 v1.2.1 && (smem2 v1.2.1 0 md && sall (fun q => !(Nat.beq q.1 v1.2.1)) wl)))))))))) (sll (w.1.1.filter (fun q => !(Nat.beq q.1 v1.2.1))) (fun ms => ret (pc + 3) lv st' ((ms, w.1.2), w.2))) none))) none
  | _ => none
theorem sfdv_all (k : Nat) (ps : List Int) : ∀ q ∈ sfdv k ps, (Nat.blt q.1 65 || Nat.blt 73 q.1) = true := by
  have h : (sfdv k ps).all (fun q => Nat.blt q.1 65 || Nat.blt 73 q.1) = true := by
    unfold sfdv
    split <;> rfl
  exact List.all_eq_true.mp h
theorem sfdv_fam {k : Nat} {ps : List Int} {q : Nat × Int × Int} (h : q ∈ sfdv k ps) : q.1 < 65 ∨ 73 < q.1 := by
  have := sfdv_all k ps q h
  rw [Bool.or_eq_true] at this
  exact this.imp zblt zblt
theorem sH_setM {fm : List SF} {ad : SAd} {M M' : SMem} {cA : Nat → ClassId} {ws : va_W} {f j : Nat} {en : SF} (hI : sInj fm) (hk : sfmok fm) (h : sH fm ad M cA ws) (hen : fm[f]? = some en) (hj : j < en.2.2.1) (hM : ∀ f' j' i', ¬ (f' = f ∧ j' = j) → M' f' j' i' = M f' j' i') {w' : va_E} (hw' : sHe ad M' cA f j en w') : sH fm ad M' cA (ws.set (spos en j) (ad f j, w')) := by
  intro f' en' hen' j' hj'
  obtain ⟨w0, hw0, -⟩ := h f en hen j hj
  have hlt : spos en j < ws.length := (List.getElem?_eq_some_iff.mp hw0).1
  by_cases hp : spos en' j' = spos en j
  · obtain ⟨rfl, rfl⟩ := hI f' f en' en hen' hen j' j hj' hj hp
    cases hen.symm.trans hen'
    exact ⟨w', by rw [List.getElem?_set_self hlt], hw'⟩
  · obtain ⟨w, h1, h2⟩ := h f' en' hen' j' hj'
    have hne : ¬ (f' = f ∧ j' = j) := by
      rintro ⟨rfl, rfl⟩
      cases hen.symm.trans hen'
      exact hp rfl
    refine ⟨w, by rw [List.getElem?_set_ne (fun q => hp q.symm)]; exact h1, sHe_congr (M := M) (fun i' => hM _ _ _ hne) (fun a ha hz => ?_) h2⟩
    have h3 := hk f' en' a hen' ha hz
    have h4 : f < fm.length := (List.getElem?_eq_some_iff.mp hen).1
    exact hM _ _ _ (fun q => by omega)
def yLay : MethodName := ⟨"NamesUnderLaw", "layer", "(LNamesUnder;III[J)I"⟩
/-- what is wanted of the law's own 'layer', which catches -/
def sLAY (fm : List SF) (rg : SRg) (EX : SEx) (l : Launch) (dC : Nat → ClassId) (dI : Nat → Nat → Nat) (cA : Nat → ClassId) : Prop := ∀ (p : Program) (e : Env) (R : Room) (s : State) (m : MethodId) (args : Array Value) (below : List Frame) (meth : Method) (c : Code) (Q : State → Prop) (A : Nat → Prop) (H : Heap) (locs : List Loc) (ls : Array Slot) (rest : List Value) (nc ns pc idx : Nat) (own : String) (cc : ByteArray) (M : SMem) (ad : SAd) (ws : va_W) (i1 i2 i3 : Int32), p.tables.exec = Jvm.exec → c.code = cc → c.maxLocals = ls.size → s.vm.findClass own = some m.cls → (∀ w ∈ zT, w.before args s = true) → va_K (dC, dI) vwCl (ztys cA) s → (∀ q, s.heap.size ≤ q → A q) → EX A s s.heap → (rest.map fun v => v.category).sum ≤ 8 → 12 ≤ R.frames → 480 ≤ R.locals → nc + 1 ≤ R.cells → ns + 6 ≤ R.slots → Cond.methodLink own idx yLay ∈ zT → decode cc pc = .ok (.invokestatic idx, 3) → va_P (dC, dI) vwCl ws H → va_D A ws → va_S A s.heap H locs → sH fm ad M cA ws → sI rg M → sX M →
  (∀ (x : Int32) (M' : SMem) (ws' : va_W) (H1 : Heap) (locs1 : List Loc), 0 ≤ x.toInt → x.toInt ≤ 1 → sH fm ad M' cA ws' → sI rg M' → (∀ f j i, f ≠ 2 → M' f j i = M f j i) → va_P (dC, dI) vwCl ws' H1 → va_D A ws' → va_S A s.heap H1 locs1 → W p l e R s m args below meth c H1 locs1 (nc + 1) (ns + 6) Q (F0 m (pc + 3) ls (.int x :: rest))) →
  W p l e R s m args below meth c H locs nc ns Q (F0 m pc ls (.ref (ad 2 0) :: .int i3 :: .int i2 :: .int i1 :: .ref (ad 0 0) :: rest))
def sx_lay (md : List (Nat × Nat)) (wl : List (Nat × SE)) (pc : Nat) (lv : SL) (st : List SV) (w : SW) (ret : SRt) : SX := match st with
  | o :: c3 :: c2 :: c1 :: x :: st' => cond (Nat.beq o.1 2 && (Nat.beq o.2.1 2 && (sbeq o.2.2 (sc 0) && (Nat.beq c3.1 0 && (Nat.beq c2.1 0 && (Nat.beq c1.1 0 && (Nat.beq x.1 2 && (Nat.beq x.2.1 0 && (sbeq x.2.2 (sc 0) && (Nat.ble ((st'.map scat).sum) 8 && (smem2 2 0 md && sall (fun q => !(Nat.beq q.1 2)) wl))))))))))) (sll (w.1.1.filter (fun q => !(Nat.beq q.1 2))) (fun ms => sn (w.2.2.2.1 + 1) (fun nc => sn (w.2.2.2.2 + 6) (fun ns => snew lv st ((ms, w.1.2), w.2.1, w.2.2.1, nc, ns) 0 1 (fun e w => ret (pc + 3) lv ((0, 0, e) :: st') w))))) none
  | _ => none
theorem sfdv_all2 (k : Nat) (ps : List Int) : ∀ q ∈ sfdv k ps, Nat.blt 2 q.1 = true := by
  have h : (sfdv k ps).all (fun q => Nat.blt 2 q.1) = true := by
    unfold sfdv
    split <;> rfl
  exact List.all_eq_true.mp h
section SNA
variable {p : Program} {l : Launch} {e : Env} {R : Room} {s : State} {m : MethodId} {args : Array Value} {below : List Frame} {meth : Method} {c : Code} {Q : State → Prop} {dC : Nat → ClassId} {dI : Nat → Nat → Nat} {cA : Nat → ClassId} {A : Nat → Prop} {nL : Nat} {fm : List SF} {rg : SRg} {wr : SWr} {scr n0 : Nat} {ρ0 : Nat → Int} {M0 : SMem} {ad0 : SAd} {nc0 ns0 : Nat} {cc : ByteArray} {pc : Nat} {lv : SL} {st : List SV} {w : SW} {ret : SRt} {xs : List SS} {own : String}
variable {md : List (Nat × Nat)} {wl : List (Nat × SE)}
theorem ss_max (hx : p.tables.exec = Jvm.exec) (hb : c.code = cc) (hml : c.maxLocals = nL) (hown : s.vm.findClass own = some m.cls) (hts : ∀ w ∈ zT, w.before args s = true) {idx : Nat} (hRc : nc0 + w.2.2.2.1 ≤ R.cells) (hRs : ns0 + w.2.2.2.2 ≤ R.slots) (hRf : 1 ≤ R.frames) (hRl : 40 ≤ R.locals) (h1 : Cond.methodLink own idx Lib.Math.max.name ∈ zT) (h2 : Cond.static Lib.Math.max.name ∈ zT) (h3 : Cond.initialized "java/lang/Math" ∈ zT) (h4 : Cond.code Lib.Math.max.name Lib.Math.max.code 2 (some .int) ∈ zT) (hdg : decode cc pc = .ok (.invokestatic idx, 3)) (h : sub (sx_mm true pc lv st w ret) xs) (Hk : ∀ (pc : Nat) (lv : SL) (st : List SV) (w : SW), sub (ret pc lv st w) xs → sW p l e R s m args below meth c Q dC dI cA A nL fm rg sX sfI wr scr n0 ρ0 M0 ad0 nc0 ns0 pc lv st w) : sW p l e R s m args below meth c Q dC dI cA A nL fm rg sX sfI wr scr n0 ρ0 M0 ad0 nc0 ns0 pc lv st w := by
  match st, h with
  | [], h => exact (sub_none h).elim
  | [_], h => exact (sub_none h).elim
  | y :: x :: st', h =>
    obtain ⟨h0, h⟩ := sub_cond h
    simp only [Bool.and_eq_true] at h0
    rw [sfe_eq] at h
    obtain ⟨k1, k2⟩ := sub_app h
    intro ρ M ad ws H locs ls clv cst ⟨⟨ag, hn, hK⟩, ⟨r1, hI, hmo, hfr⟩, r2, r3, r4, r5, r6, r7⟩
    obtain ⟨cy, cr, rfl, h5, h6⟩ := svs_cons r7
    obtain ⟨cx, cr, rfl, h7, h8⟩ := svs_cons h6
    obtain ⟨a, rfl, e1⟩ := sv_int h0.1 h7
    obtain ⟨b, rfl, e2⟩ := sv_int h0.2.1 h5
    have hs8 : (cr.map fun v => v.category).sum ≤ 8 := by
      rw [svs_sum h8]
      exact Nat.le_of_ble_eq_true h0.2.2
    refine va_mmax hx hb (hml.trans r5.1.symm) hown (hts _ h1) (hts _ h2) (hts _ h3) (hts _ h4) hRf (by omega) hRc hRs hdg ?_
    by_cases c1 : a < b
    · rw [if_pos c1]
      have c1 := Int32.lt_iff_toInt_lt.mp c1
      obtain ⟨K, q1, q2⟩ := sge_ok hK k2 (by rw [saddc_ev, sneg_ev, ssub_ev]; omega)
      exact Hk _ _ _ _ q2 ρ M ad ws H locs ls clv _ ⟨⟨ag, hn, q1⟩, ⟨r1, hI, hmo, hfr⟩, r2, r3, r4, r5, r6, h5, h8⟩
    · rw [if_neg c1]
      have c1 : ¬ a.toInt < b.toInt := fun q => c1 (Int32.lt_iff_toInt_lt.mpr q)
      obtain ⟨K, q1, q2⟩ := sge_ok hK k1 (by rw [ssub_ev]; omega)
      exact Hk _ _ _ _ q2 ρ M ad ws H locs ls clv _ ⟨⟨ag, hn, q1⟩, ⟨r1, hI, hmo, hfr⟩, r2, r3, r4, r5, r6, h7, h8⟩
theorem ss_min (hx : p.tables.exec = Jvm.exec) (hb : c.code = cc) (hml : c.maxLocals = nL) (hown : s.vm.findClass own = some m.cls) (hts : ∀ w ∈ zT, w.before args s = true) {idx : Nat} (hRc : nc0 + w.2.2.2.1 ≤ R.cells) (hRs : ns0 + w.2.2.2.2 ≤ R.slots) (hRf : 1 ≤ R.frames) (hRl : 40 ≤ R.locals) (h1 : Cond.methodLink own idx Lib.Math.min.name ∈ zT) (h2 : Cond.static Lib.Math.min.name ∈ zT) (h3 : Cond.initialized "java/lang/Math" ∈ zT) (h4 : Cond.code Lib.Math.min.name Lib.Math.min.code 2 (some .int) ∈ zT) (hdg : decode cc pc = .ok (.invokestatic idx, 3)) (h : sub (sx_mm false pc lv st w ret) xs) (Hk : ∀ (pc : Nat) (lv : SL) (st : List SV) (w : SW), sub (ret pc lv st w) xs → sW p l e R s m args below meth c Q dC dI cA A nL fm rg sX sfI wr scr n0 ρ0 M0 ad0 nc0 ns0 pc lv st w) : sW p l e R s m args below meth c Q dC dI cA A nL fm rg sX sfI wr scr n0 ρ0 M0 ad0 nc0 ns0 pc lv st w := by
  match st, h with
  | [], h => exact (sub_none h).elim
  | [_], h => exact (sub_none h).elim
  | y :: x :: st', h =>
    obtain ⟨h0, h⟩ := sub_cond h
    simp only [Bool.and_eq_true] at h0
    rw [sfe_eq] at h
    obtain ⟨k1, k2⟩ := sub_app h
    intro ρ M ad ws H locs ls clv cst ⟨⟨ag, hn, hK⟩, ⟨r1, hI, hmo, hfr⟩, r2, r3, r4, r5, r6, r7⟩
    obtain ⟨cy, cr, rfl, h5, h6⟩ := svs_cons r7
    obtain ⟨cx, cr, rfl, h7, h8⟩ := svs_cons h6
    obtain ⟨a, rfl, e1⟩ := sv_int h0.1 h7
    obtain ⟨b, rfl, e2⟩ := sv_int h0.2.1 h5
    have hs8 : (cr.map fun v => v.category).sum ≤ 8 := by
      rw [svs_sum h8]
      exact Nat.le_of_ble_eq_true h0.2.2
    refine va_mmin hx hb (hml.trans r5.1.symm) hown (hts _ h1) (hts _ h2) (hts _ h3) (hts _ h4) hRf (by omega) hRc hRs hdg ?_
    by_cases c1 : a.toInt < b.toInt
    · rw [if_neg (fun q => by have := Int32.lt_iff_toInt_lt.mp q; omega)]
      obtain ⟨K, q1, q2⟩ := sge_ok hK k2 (by rw [saddc_ev, sneg_ev, ssub_ev]; omega)
      exact Hk _ _ _ _ q2 ρ M ad ws H locs ls clv _ ⟨⟨ag, hn, q1⟩, ⟨r1, hI, hmo, hfr⟩, r2, r3, r4, r5, r6, h7, h8⟩
    · obtain ⟨K, q1, q2⟩ := sge_ok hK k1 (by rw [ssub_ev]; omega)
      have hW := Hk _ _ _ _ q2 ρ M ad ws H locs ls clv (.int b :: cr) ⟨⟨ag, hn, q1⟩, ⟨r1, hI, hmo, hfr⟩, r2, r3, r4, r5, r6, h5, h8⟩
      by_cases c2 : b < a
      · rw [if_pos c2]
        exact hW
      · rw [if_neg c2]
        have c2 : ¬ b.toInt < a.toInt := fun q => c2 (Int32.lt_iff_toInt_lt.mpr q)
        have e3 : a = b := Int32.toInt_inj.mp (by omega)
        rw [e3]
        exact hW
theorem ss_chr {EX : SEx} (hE9 : EX A s s.heap) (hA : ∀ q, s.heap.size ≤ q → A q) (hCH : sCHR EX l dC dI cA scr) (hx : p.tables.exec = Jvm.exec) (hb : c.code = cc) (hml : c.maxLocals = nL) (hown : s.vm.findClass own = some m.cls) (hts : ∀ w ∈ zT, w.before args s = true) (hKv : va_K (dC, dI) vwCl (ztys cA) s) {idx : Nat} (hRc : nc0 + w.2.2.2.1 ≤ R.cells) (hRs : ns0 + w.2.2.2.2 ≤ R.slots) (hRf : 4 ≤ R.frames) (hRl : 160 ≤ R.locals) (h1 : Cond.methodLink own idx yChr ∈ zT) (hdg : decode cc pc = .ok (.invokevirtual idx, 3)) (h : sub (sx_chr pc lv st w ret) xs) (Hk : ∀ (pc : Nat) (lv : SL) (st : List SV) (w : SW), sub (ret pc lv st w) xs → sW p l e R s m args below meth c Q dC dI cA A nL fm rg sX sfI wr scr n0 ρ0 M0 ad0 nc0 ns0 pc lv st w) : sW p l e R s m args below meth c Q dC dI cA A nL fm rg sX sfI wr scr n0 ρ0 M0 ad0 nc0 ns0 pc lv st w := by
  match st, h with
  | [], h => exact (sub_none h).elim
  | [_], h => exact (sub_none h).elim
  | i :: v :: st', h =>
    obtain ⟨h0, h⟩ := sub_cond h
    simp only [Bool.and_eq_true] at h0
    obtain ⟨g1, g2, g3, g4⟩ := h0
    intro ρ M ad ws H locs ls clv cst hr
    obtain ⟨ci, cr, rfl, h5, h6⟩ := svs_cons hr.2.2.2.2.2.2.2
    obtain ⟨cv, cr, rfl, h7, h8⟩ := svs_cons h6
    obtain ⟨iv, rfl, ei⟩ := sv_int g1 h5
    have h3 : v.1 = 3 := Nat.beq_eq.mp g2
    have hin := sin_ok (srel_sK hr) g4
    rcases h7 with ⟨q, -⟩ | ⟨q, -⟩ | ⟨q, -⟩ | ⟨-, rfl⟩
    · omega
    · omega
    · omega
    · have hs8 : (cr.map fun v => v.category).sum ≤ 8 := by
        rw [svs_sum h8]
        exact Nat.le_of_ble_eq_true g3
      refine hCH p e R s m args below meth c Q A H locs ls cr _ _ pc idx own cc iv ws hx hb (hml.trans hr.2.2.2.2.2.1.1.symm) hown hts hKv hA hr.2.2.2.2.1 hE9 hr.2.2.1 hr.2.2.2.1 hs8 hRf hRl hRc hRs h1 hdg (by omega) (by omega) (fun x H1 locs1 x0 x1 y1 y2 y3 => ?_)
      obtain ⟨ρ', -, -, a3, a4, a5⟩ := snew_ok hr x0 x1 h
      have := Hk _ _ _ _ a5 ρ' M ad ws H1 locs1 ls clv (.int x :: cr) ⟨a4.1, a4.2.1, y1, y2, y3, a4.2.2.2.2.2.1, a4.2.2.2.2.2.2.1, sv_mkI a3.symm, a4.2.2.2.2.2.2.2.2.2⟩
      exact this
theorem ss_cpy (hx : p.tables.exec = Jvm.exec) (hb : c.code = cc) (hml : c.maxLocals = nL) (hown : s.vm.findClass own = some m.cls) (hts : ∀ w ∈ zT, w.before args s = true) (hKv : va_K (dC, dI) vwCl (ztys cA) s) (hS : sST fm rg) (hwr : sWR md wl n0 ρ0 wr) {idx : Nat} (hRf : 1 ≤ R.frames) (hRl : 40 ≤ R.locals) (h1 : Cond.methodLink own idx arraycopyName ∈ zT) (h2 : Cond.native arraycopyName ∈ zT) (h3 : Cond.static arraycopyName ∈ zT) (h4 : Cond.initialized "java/lang/System" ∈ zT) (hdg : decode cc pc = .ok (.invokestatic idx, 3)) (h : sub (sx_cpy fm rg md wl pc lv st w ret) xs) (Hk : ∀ (pc : Nat) (lv : SL) (st : List SV) (w : SW), sub (ret pc lv st w) xs → sW p l e R s m args below meth c Q dC dI cA A nL fm rg sX sfI wr scr n0 ρ0 M0 ad0 nc0 ns0 pc lv st w) : sW p l e R s m args below meth c Q dC dI cA A nL fm rg sX sfI wr scr n0 ρ0 M0 ad0 nc0 ns0 pc lv st w := by
  match st, h with
  | [], h => exact (sub_none h).elim
  | [_], h => exact (sub_none h).elim
  | [_, _], h => exact (sub_none h).elim
  | [_, _, _], h => exact (sub_none h).elim
  | [_, _, _, _], h => exact (sub_none h).elim
  | n :: dp :: v1 :: sp :: v0 :: st', h =>
    obtain ⟨h0, h⟩ := sub_cond h
    simp only [Bool.and_eq_true] at h0
    obtain ⟨g1, g2, g3, g4, g5, g6, g7, g8, g9, g10⟩ := h0
    obtain ⟨en0, a0, hen0, ha0, h⟩ := srow_ok h
    obtain ⟨en1, a1, hen1, ha1, h⟩ := srow_ok h
    obtain ⟨h0, h⟩ := sub_cond h
    rw [sll_eq] at h
    simp only [Bool.and_eq_true] at h0
    obtain ⟨t1, t2, t3, t4, t5, t6, t7, t8, t9, t10, t11⟩ := h0
    intro ρ M ad ws H locs ls clv cst hr
    obtain ⟨⟨ag, hn, hK⟩, ⟨r1, ⟨hI, hX⟩, hmo, hfr⟩, r2, r3, r4, r5, r6, r7⟩ := hr
    obtain ⟨cn, cr, rfl, m1, m2⟩ := svs_cons r7
    obtain ⟨cd, cr, rfl, m3, m4⟩ := svs_cons m2
    obtain ⟨c1, cr, rfl, m5, m6⟩ := svs_cons m4
    obtain ⟨cs, cr, rfl, m7, m8⟩ := svs_cons m6
    obtain ⟨c0, cr, rfl, m9, m10⟩ := svs_cons m8
    obtain ⟨nv, rfl, en⟩ := sv_int g1 m1
    obtain ⟨dv, rfl, ed⟩ := sv_int g2 m3
    obtain ⟨sv9, rfl, es⟩ := sv_int g3 m7
    rw [sbeq_ok g6, sev_c] at ed
    rw [sbeq_ok g7, sev_c] at es
    rw [sisc_ok g8] at en
    have hn0 : 0 ≤ n.2.2.1 := of_decide_eq_true g9
    have hz : ∀ z : Int32, 0 ≤ z.toInt → ¬ z < 0 := fun z hz q => by
      have := Int32.lt_iff_toInt_lt.mp q
      have e0 : (0 : Int32).toInt = 0 := rfl
      omega
    have kn := sclamp (x := nv) (by omega)
    have kd := sclamp (x := dv) (by omega)
    have ks := sclamp (x := sv9) (by omega)
    have hv1 : v1.1 = 2 := Nat.beq_eq.mp g4
    have hv0 : v0.1 = 2 := Nat.beq_eq.mp g5
    rcases m9 with ⟨q, -⟩ | ⟨q, -⟩ | ⟨-, j0, en', hj0, hen', hjn0, rfl⟩ | ⟨q, -⟩
    · omega
    · omega
    · cases hen0.symm.trans hen'
      rcases m5 with ⟨q, -⟩ | ⟨q, -⟩ | ⟨-, j1, en'', hj1, hen'', hjn1, rfl⟩ | ⟨q, -⟩
      · omega
      · omega
      · cases hen1.symm.trans hen''
        obtain ⟨wv0, hwv0, hse0⟩ := r1 _ en0 hen0 j0 hjn0
        obtain ⟨wv1, hwv1, hse1⟩ := r1 _ en1 hen1 j1 hjn1
        unfold sHe at hse0 hse1
        rw [ha0] at hse0
        rw [ha1] at hse1
        have z0 := Nat.beq_eq.mp t1
        have z1 := Nat.beq_eq.mp t2
        obtain ⟨f0, rfl, hf0⟩ := hse0.1 (by omega)
        obtain ⟨f1, rfl, hf1⟩ := hse1.1 (by omega)
        have hl0 : slen M j0 a0 = a0.2.2.1 := by unfold slen; rw [t3]; rfl
        have hl1 : slen M j1 a1 = a1.2.2.1 := by unfold slen; rw [t4]; rfl
        have u1 := Nat.le_of_ble_eq_true t5
        have u2 := Nat.le_of_ble_eq_true t6
        have u3 := Nat.le_of_ble_eq_true t7
        have u4 := Nat.le_of_ble_eq_true t8
        rw [z0] at hwv0
        rw [z1] at hwv1
        have hs8 : (cr.map fun v => v.category).sum ≤ 8 := by
          rw [svs_sum m10]
          exact Nat.le_of_ble_eq_true g10
        have hnf : nativeFrameWords "java/lang/System" "arraycopy" 5 = 7 := by decide
        refine va_copyi hx hb (hml.trans r5.1.symm) hown (hts _ h1) (hts _ h2) (hts _ h3) (hts _ h4) hKv r2 r3 r4 (spos en0 j0) (spos en1 j1) 0 0 (ty := .int) hwv0 hwv1 rfl rfl rfl (hz _ (by omega)) (hz _ (by omega)) (hz _ (by omega)) (by rw [hl0]; omega) (by rw [hl1]; omega) (fun i _ => rfl) hRf (by rw [hnf]; omega) hdg (fun H1 locs1 p1 p2 p3 => ?_)
        obtain ⟨s1, s2, s3, s4, s5, s6, s7, s8, s9⟩ := hS
        have hM : ∀ f' j' i', ¬ (f' = v1.2.1 ∧ j' = j1) → sMcp M v0.2.1 j0 v1.2.1 j1 nv.toNatClampNeg f' j' i' = M f' j' i' := fun f' j' i' q => if_neg (fun z => q ⟨z.1, z.2.1⟩)
        have hMf : ∀ f' j' i', f' ≠ v1.2.1 → sMcp M v0.2.1 j0 v1.2.1 j1 nv.toNatClampNeg f' j' i' = M f' j' i' := fun f' j' i' q => if_neg (fun z => q z.1)
        have hMff : ∀ f', f' ≠ v1.2.1 → sMcp M v0.2.1 j0 v1.2.1 j1 nv.toNatClampNeg f' = M f' := fun f' q => by
          funext j' i'
          exact hMf f' j' i' q
        refine Hk _ _ _ _ h ρ (sMcp M v0.2.1 j0 v1.2.1 j1 nv.toNatClampNeg) ad _ H1 locs1 ls clv cr ⟨⟨ag, hn, hK⟩, ⟨sH_setM s1 s2 r1 hen1 hjn1 hM ?_, ⟨⟨fun f i q hq j => ?_, fun q hq => by rw [s3] at hq; cases hq⟩, ?_⟩, ⟨fun q hq => ?_, fun q hq => ?_⟩, ⟨fun f j i hni => ?_, hfr.2.1, fun q hq j i hi => ?_⟩⟩, p1, p2, p3, r5, r6, m10⟩
        · unfold sHe
          rw [ha1]
          refine ⟨fun _ => ⟨va_cpy f0 f1 sv9.toNatClampNeg dv.toNatClampNeg nv.toNatClampNeg, ?_, fun i => ?_⟩, fun q => by omega, fun q => by omega⟩
          · rw [z1]
            congr 2
            unfold slen
            rw [t4]
            rfl
          · unfold va_cpy sMcp
            have e1 : dv.toNatClampNeg = 0 := by omega
            have e2 : sv9.toNatClampNeg = 0 := by omega
            rw [e1, e2]
            by_cases hi : i < nv.toNatClampNeg
            · rw [if_pos ⟨Nat.zero_le _, by omega⟩, if_pos ⟨rfl, rfl, hi⟩, show 0 + (i - 0) = i from by omega]
              exact hf0 i
            · rw [if_neg (fun q => hi (by omega)), if_neg (fun q => hi q.2.2)]
              exact hf1 i
        · unfold sMcp
          by_cases hc : f = v1.2.1 ∧ j = j1 ∧ i < nv.toNatClampNeg
          · rw [if_pos hc]
            obtain ⟨rfl, -, -⟩ := hc
            unfold srgle at t9
            have q0 := (s6 _ en0 a0 hen0 ha0 i).1
            have q1 := (s6 _ en1 a1 hen1 ha1 i).1
            rw [q1] at hq
            rw [hq] at t9
            cases hs0 : srg rg v0.2.1 0 with
            | none => rw [hs0] at t9; cases t9
            | some b =>
              rw [hs0] at t9
              simp only [Bool.and_eq_true] at t9
              have w1 : q.1 ≤ b.1 := of_decide_eq_true t9.1
              have w2 : b.2 ≤ q.2 := of_decide_eq_true t9.2
              have w3 := hI.1 v0.2.1 i b (q0.trans hs0) j0
              omega
          · rw [if_neg hc]
            exact hI.1 f i q hq j
        · unfold sX
          rw [hMff 29 (by omega), hMff 27 (by omega), hMff 50 (by omega)]
          exact hX
        · obtain ⟨q1, q2⟩ := List.mem_filter.mp hq
          obtain ⟨j, i, e1, e2, e3⟩ := hmo.1 q q1
          refine ⟨j, i, e1, e2, ?_⟩
          rw [hMf _ _ _ (fun z => by rw [z] at q2; simp at q2)]
          exact e3
        · refine sfI_congr (fun d hd j i _ _ => hMf _ _ _ ?_) (hmo.2 q hq)
          have := sfdv_fam hd
          omega
        · rw [← hfr.1 f j i hni]
          refine hMf _ _ _ (fun z => hni ?_)
          rw [z, (s6 _ en1 a1 hen1 ha1 i).2, hwr.1]
          exact smem2_ok t10
        · rw [← hfr.2.2 q hq j i hi]
          obtain ⟨e, e1, -, -⟩ := hwr.2 q hq
          have := sall_ok t11 _ e1
          exact hMf _ _ _ (fun z => by rw [z] at this; simp at this)
      · omega
    · omega
theorem ss_lay {EX : SEx} (hLY : sLAY fm rg EX l dC dI cA) (hE9 : EX A s s.heap) (hA : ∀ q, s.heap.size ≤ q → A q) (hx : p.tables.exec = Jvm.exec) (hb : c.code = cc) (hml : c.maxLocals = nL) (hown : s.vm.findClass own = some m.cls) (hts : ∀ w ∈ zT, w.before args s = true) (hKv : va_K (dC, dI) vwCl (ztys cA) s) (hs2 : ∀ i, scl rg 2 i = 0) (hwr : sWR md wl n0 ρ0 wr) {idx : Nat} (hRc : nc0 + w.2.2.2.1 + 1 ≤ R.cells) (hRs : ns0 + w.2.2.2.2 + 6 ≤ R.slots) (hRf : 12 ≤ R.frames) (hRl : 480 ≤ R.locals) (h1 : Cond.methodLink own idx yLay ∈ zT) (hdg : decode cc pc = .ok (.invokestatic idx, 3)) (h : sub (sx_lay md wl pc lv st w ret) xs) (Hk : ∀ (pc : Nat) (lv : SL) (st : List SV) (w : SW), sub (ret pc lv st w) xs → sW p l e R s m args below meth c Q dC dI cA A nL fm rg sX sfI wr scr n0 ρ0 M0 ad0 nc0 ns0 pc lv st w) : sW p l e R s m args below meth c Q dC dI cA A nL fm rg sX sfI wr scr n0 ρ0 M0 ad0 nc0 ns0 pc lv st w := by
  match st, h with
  | [], h => exact (sub_none h).elim
  | [_], h => exact (sub_none h).elim
  | [_, _], h => exact (sub_none h).elim
  | [_, _, _], h => exact (sub_none h).elim
  | [_, _, _, _], h => exact (sub_none h).elim
  | o :: c3 :: c2 :: c1 :: x :: st', h =>
    obtain ⟨h0, h⟩ := sub_cond h
    rw [sll_eq, sn_eq, sn_eq] at h
    simp only [Bool.and_eq_true] at h0
    obtain ⟨g1, g2, g3, g4, g5, g6, g7, g8, g9, g10, g11, g12⟩ := h0
    intro ρ M ad ws H locs ls clv cst hr
    have hr9 := hr
    obtain ⟨⟨ag, hn, hK⟩, ⟨r1, ⟨hI, hX⟩, hmo, hfr⟩, r2, r3, r4, r5, r6, r7⟩ := hr
    obtain ⟨co, cr, rfl, m1, m2⟩ := svs_cons r7
    obtain ⟨cc3, cr, rfl, m3, m4⟩ := svs_cons m2
    obtain ⟨cc2, cr, rfl, m5, m6⟩ := svs_cons m4
    obtain ⟨cc1, cr, rfl, m7, m8⟩ := svs_cons m6
    obtain ⟨cx, cr, rfl, m9, m10⟩ := svs_cons m8
    obtain ⟨v3, rfl, -⟩ := sv_int g4 m3
    obtain ⟨v2, rfl, -⟩ := sv_int g5 m5
    obtain ⟨v1, rfl, -⟩ := sv_int g6 m7
    have eo : co = .ref (ad 2 0) := by
      have ho2 := Nat.beq_eq.mp g1
      rcases m1 with ⟨q, -⟩ | ⟨q, -⟩ | ⟨-, jn, en, q1, q2, q3, q4⟩ | ⟨q, -⟩
      · omega
      · omega
      · rw [sbeq_ok g3, sev_c] at q1
        have e0 : jn = 0 := by omega
        rw [q4, e0, Nat.beq_eq.mp g2]
      · omega
    have ex : cx = .ref (ad 0 0) := by
      have ho2 := Nat.beq_eq.mp g7
      rcases m9 with ⟨q, -⟩ | ⟨q, -⟩ | ⟨-, jn, en, q1, q2, q3, q4⟩ | ⟨q, -⟩
      · omega
      · omega
      · rw [sbeq_ok g9, sev_c] at q1
        have e0 : jn = 0 := by omega
        rw [q4, e0, Nat.beq_eq.mp g8]
      · omega
    subst eo ex
    have hs8 : (cr.map fun v => v.category).sum ≤ 8 := by
      rw [svs_sum m10]
      exact Nat.le_of_ble_eq_true g10
    refine hLY p e R s m args below meth c Q A H locs ls cr _ _ pc idx own cc M ad ws v1 v2 v3 hx hb (hml.trans r5.1.symm) hown hts hKv hA hE9 hs8 hRf hRl hRc hRs h1 hdg r2 r3 r4 r1 hI hX (fun xv M' ws' H1 locs1 x0 x1 z1 z2 z3 z4 z5 z6 => ?_)
    have hMff : ∀ f', f' ≠ 2 → M' f' = M f' := fun f' q => by
      funext j' i'
      exact z3 f' j' i' q
    have hr2 : sRel fm rg sX sfI wr scr n0 ρ0 M0 ad0 dC dI cA A s.heap nL lv (o :: c3 :: c2 :: c1 :: x :: st') ((w.1.1.filter (fun q => !(Nat.beq q.1 2)), w.1.2), w.2.1, w.2.2.1, w.2.2.2.1 + 1, w.2.2.2.2 + 6) ρ M' ad ws' H1 locs1 ls clv (.ref (ad 2 0) :: .int v3 :: .int v2 :: .int v1 :: .ref (ad 0 0) :: cr) := by
      refine ⟨⟨ag, hn, hK⟩, ⟨z1, ⟨z2, ?_⟩, ⟨fun q hq => ?_, fun q hq => ?_⟩, ⟨fun f j i hni => ?_, hfr.2.1, fun q hq j i hi => ?_⟩⟩, z4, z5, z6, r5, r6, r7⟩
      · unfold sX
        rw [hMff 29 (by decide), hMff 27 (by decide), hMff 50 (by decide)]
        exact hX
      · obtain ⟨q1, q2⟩ := List.mem_filter.mp hq
        obtain ⟨j, i, e1, e2, e3⟩ := hmo.1 q q1
        refine ⟨j, i, e1, e2, ?_⟩
        rw [z3 _ _ _ (fun z => by rw [z] at q2; simp at q2)]
        exact e3
      · refine sfI_congr (fun d hd j i _ _ => z3 _ _ _ ?_) (hmo.2 q hq)
        have := zblt (sfdv_all2 _ _ d hd)
        omega
      · rw [← hfr.1 f j i hni]
        refine z3 _ _ _ (fun z => hni ?_)
        rw [z, hs2, hwr.1]
        exact smem2_ok g11
      · rw [← hfr.2.2 q hq j i hi]
        obtain ⟨e, e1, -, -⟩ := hwr.2 q hq
        have := sall_ok g12 _ e1
        exact z3 _ _ _ (fun z => by rw [z] at this; simp at this)
    obtain ⟨ρ', -, -, a3, a4, a5⟩ := snew_ok hr2 x0 x1 h
    have := Hk _ _ _ _ a5 ρ' M' ad ws' H1 locs1 ls clv (.int xv :: cr) ⟨a4.1, a4.2.1, a4.2.2.1, a4.2.2.2.1, a4.2.2.2.2.1, a4.2.2.2.2.2.1, a4.2.2.2.2.2.2.1, sv_mkI a3.symm, a4.2.2.2.2.2.2.2.2.2.2.2.2⟩
    exact this
end SNA
end
section
/-! the run: calls by contract or inside, to cuts and returns -/
def slkc (zm : List ZMe) (own : String) (ins : Instr) (lk : List Nat) : Bool := match ins with
  | .invokestatic idx => (match lk with
    | kd :: kc :: n :: ci :: is => cond (Nat.beq kd 7) (zchk [.methodLink own idx arraycopyName, .native arraycopyName, .static arraycopyName, .initialized "java/lang/System"] is) (cond (Nat.beq kd 8) (zchk [.methodLink own idx Lib.Math.max.name, .static Lib.Math.max.name, .initialized "java/lang/Math", .code Lib.Math.max.name Lib.Math.max.code 2 (some .int)] is) (cond (Nat.beq kd 10) (zchk [.methodLink own idx Lib.Math.min.name, .static Lib.Math.min.name, .initialized "java/lang/Math", .code Lib.Math.min.name Lib.Math.min.code 2 (some .int)] is) (cond (Nat.beq kd 11) (zchk [.methodLink own idx yLay] is) ((Nat.beq kd 0 || Nat.beq kd 1) && zcal zm own idx kd kc n ci is))))
    | _ => false)
  | .invokevirtual idx => (match lk with
    | kd :: kc :: n :: ci :: is => cond (Nat.beq kd 9) (zchk [.methodLink own idx yChr] is) (Nat.beq kd 2 && zcal zm own idx kd kc n ci is)
    | _ => false)
  | _ => true
def sok (zm : List ZMe) (me : ZMe) (q : ZI) : Bool := decide (decode me.2.2.1 q.1 = .ok (q.2.1, q.2.2.1)) && (szlok q.2.1 q.2.2.1 && (slk0 me.1 q.2.1 q.2.2.2 && slkc zm me.1 q.2.1 q.2.2.2))
def sTab (zm : List ZMe) (zc : List (List ZI)) : Prop := ∀ (k : Nat) (me : ZMe) (tb : List ZI), zm[k]? = some me → zc[k]? = some tb → ∀ q ∈ tb, sok zm me q = true
def sgp (g : SG) (k : SG → SX) : SX := match g with
  | [] => k []
  | q :: r => sfe q.2 (fun e => sgp r (fun r => k ((q.1, e) :: r)))
theorem sgp_eq (g : SG) (k : SG → SX) : sgp g k = k g := by
  induction g generalizing k with
  | nil => rfl
  | cons q r ih => simp only [sgp, sfe_eq, ih]
def sqk (a s : SV) : Bool := Nat.beq a.1 s.1 && (Nat.beq a.2.1 s.2.1 && cond (sisc a.2.2 && sisc s.2.2) (decide (a.2.2.1 = s.2.2.1)) true)
def sqL : List SV → List SV → Bool
  | [], [] => true
  | a :: r, s :: q => cond (sqk a s) (sqL r q) false
  | _, _ => false
def swlc (rg : SRg) (K : SK) (md : List (Nat × Nat)) (wlS : List (Nat × SE)) (q : Nat × SE) : Bool := cond (sisr rg q.1) (cond (smem2 q.1 0 md) (sany (fun b => Nat.beq b.1 q.1 && sent K (ssub b.2 q.2)) wlS) true) false
def sctk (rg : SRg) (mdc : List (Nat × Nat)) (wlc : List (Nat × SE)) (lw : Bool) (d : Nat) (lv : SL) (st rest : List SV) (g : SG) (w : SW) (C : SC) (wlS : List (Nat × SE)) : Bool :=
  cond (sbS w.2.1 lv st w) (cond (sall (fun q => sbe w.2.1 q.2) g) (cond (sall (fun q => smem2 q.1 q.2 mdc) C.2.2.2.2.1) (cond (sall (swlc rg w.2.2.1 C.2.2.2.2.1 wlS) wlc) (cond (sall (fun q => snad C.2.2.2.2.1 q.2) lv) (cond (sall (snad C.2.2.2.2.1) rest) (cond (cond lw (sno3 C.2.2.1) true) (cond (sall (fun X => sno3 X.1) C.2.2.2.2.2.2.1) (Nat.ble C.2.2.2.2.2.2.2 d) false) false) false) false) false) false) false) false
def sct (rg : SRg) (mdc : List (Nat × Nat)) (wlc : List (Nat × SE)) (N : Nat) (lw : Bool) (d bc bs : Nat) (lv : SL) (st rest as : List SV) (k : List SV → SW → SX) : List SC → SW → SX
  | [], _ => none
  | C :: r, w => cond (Nat.blt C.1 N && sqL C.2.2.1 as) (sgp (sbdL 0 C.2.2.1 as []) (fun g => smtm rg 0 lv st C.2.2.2.1.1.1 g w (fun g w => cond (svL 0 g w.2.2.1 C.2.2.1 as && svW 0 g w C.2.2.2.1) (match swlS g C.2.2.2.2.2.1 with
      | some wlS => cond (sctk rg mdc wlc lw d lv st rest g w C wlS) (sxits rg C.2.2.2.1.2.1 bc bs g C.2.2.2.2.1 wlS w k C.2.2.2.2.2.2.1) none
      | none => none) (sct rg mdc wlc N lw d bc bs lv st rest as k r w)))) (sct rg mdc wlc N lw d bc bs lv st rest as k r w)
def srtk (rt : Option FieldType) (K : SK) (st : List SV) : Bool := match rt, st with
  | none, [] => true
  | some ty, [v] => cond (Nat.beq v.1 0) (match ty with
    | .int => true
    | .boolean => sin K v.2.2 0 1
    | _ => false) false
  | _, _ => false
noncomputable def srp (zc : List (List ZI)) (kc : Nat) (rt : Option FieldType) (pc : Nat) : Bool := match zget zc kc with
  | some tb => (match zft tb pc with
    | some q => zstop rt q.2.1
    | none => false)
  | none => false
def scont (ok : Nat → Bool) (rt : Option FieldType) (bc bs : Nat) (w0 : SW) (pc : Nat) (lv : SL) (rest : List SV) (ret : SRt) : List SS → SX
  | [] => some []
  | Y :: r => sapp (cond (ok Y.1 && (srtk rt Y.2.2.2.2.2.1 Y.2.2.1 && (Nat.ble Y.2.2.2.2.2.2.1 bc && Nat.ble Y.2.2.2.2.2.2.2 bs))) (sn (w0.2.2.2.1 + bc) (fun nc => sn (w0.2.2.2.2 + bs) (fun ns => ret (pc + 3) lv (Y.2.2.1 ++ rest) (Y.2.2.2.1, Y.2.2.2.2.1, Y.2.2.2.2.2.1, nc, ns)))) none) (scont ok rt bc bs w0 pc lv rest ret r)
noncomputable def srcv (fm : List SF) (ci : Nat) (as : List SV) : Bool := match as with
  | v :: _ => cond (Nat.beq v.1 2) (match zget fm v.2.1 with
    | some en => (match en.2.2.2 with
      | .inl o => Nat.beq o.1 ci
      | .inr _ => false)
    | none => false) false
  | [] => false
noncomputable def sinv (zm : List ZMe) (zc : List (List ZI)) (fm : List SF) (rg : SRg) (cts : List (List SC)) (md : List (Nat × Nat)) (wl : List (Nat × SE)) (N : Nat) (rec9 : Nat → Nat → SRt) (k d : Nat) (me : ZMe) (kd kc n ci : Nat) (pc : Nat) (lv : SL) (st : List SV) (w : SW) : SX := match d, zget zm kc with
  | d' + 1, some me2 => sn (cond (Nat.ble kd 1) n (n + 1)) (fun na => sll (st.take na).reverse (fun as => sll (st.drop na) (fun rest => cond (Nat.beq as.length na && (Nat.ble (rest.map scat).sum 8 && (Nat.ble (as.map scat).sum me2.2.2.2.1 && (Nat.ble (w.2.2.2.1 + me2.2.2.2.2.2.1) me.2.2.2.2.2.1 && (Nat.ble (w.2.2.2.2 + me2.2.2.2.2.2.2) me.2.2.2.2.2.2 && cond (Nat.ble kd 1) true (srcv fm ci as))))))
    (match zget cts kc with
      | some (C :: r) => sct rg md wl N (Nat.beq k 0) d' me2.2.2.2.2.2.1 me2.2.2.2.2.2.2 lv st rest as (fun vs w => rec9 k d (pc + 3) lv (vs ++ rest) w) (C :: r) w
      | _ => cond (sall (fun q => sbe w.2.1 q.2.2.2) lv && (sall (fun v => sbe w.2.1 v.2.2) rest && (sall (fun q => snad md q.2) lv && (sall (snad md) rest && (cond (Nat.beq k 0) (sno3 as) true && !(Nat.beq kc 0)))))) (match rec9 kc d' 0 (sargs 0 as) [] (w.1, w.2.1, w.2.2.1, 0, 0) with
        | some ys => scont (srp zc kc me2.2.2.2.2.1) me2.2.2.2.2.1 me2.2.2.2.2.2.1 me2.2.2.2.2.2.2 w pc lv rest (rec9 k d) ys
        | none => none) none) none)))
  | _, _ => none
noncomputable def scll (zm : List ZMe) (zc : List (List ZI)) (fm : List SF) (rg : SRg) (cts : List (List SC)) (md : List (Nat × Nat)) (wl : List (Nat × SE)) (N : Nat) (rec9 : Nat → Nat → SRt) (k d : Nat) (me : ZMe) (lk : List Nat) (pc : Nat) (lv : SL) (st : List SV) (w : SW) : SX := match lk with
  | kd :: kc :: n :: ci :: _ => cond (Nat.beq kd 7) (cond (Nat.ble 1 d) (sx_cpy fm rg md wl pc lv st w (rec9 k d)) none) (cond (Nat.beq kd 8) (cond (Nat.ble 1 d && (Nat.ble w.2.2.2.1 me.2.2.2.2.2.1 && Nat.ble w.2.2.2.2 me.2.2.2.2.2.2)) (sx_mm true pc lv st w (rec9 k d)) none) (cond (Nat.beq kd 10) (cond (Nat.ble 1 d && (Nat.ble w.2.2.2.1 me.2.2.2.2.2.1 && Nat.ble w.2.2.2.2 me.2.2.2.2.2.2)) (sx_mm false pc lv st w (rec9 k d)) none) (cond (Nat.beq kd 9) (cond (Nat.ble 4 d && (Nat.ble w.2.2.2.1 me.2.2.2.2.2.1 && (Nat.ble w.2.2.2.2 me.2.2.2.2.2.2 && !(Nat.beq k 0)))) (sx_chr pc lv st w (rec9 k d)) none) (cond (Nat.beq kd 11) (cond (Nat.ble 12 d && (Nat.ble (w.2.2.2.1 + 1) me.2.2.2.2.2.1 && (Nat.ble (w.2.2.2.2 + 6) me.2.2.2.2.2.2 && Nat.ble 1 N))) (sx_lay md wl pc lv st w (rec9 k d)) none) (sinv zm zc fm rg cts md wl N rec9 k d me kd kc n ci pc lv st w)))))
  | _ => none
noncomputable def sdo (zm : List ZMe) (zc : List (List ZI)) (fm : List SF) (rg : SRg) (cts : List (List SC)) (md : List (Nat × Nat)) (wl : List (Nat × SE)) (N : Nat) (rec9 : Nat → Nat → SRt) (k d : Nat) (me : ZMe) (ins : Instr) (lk : List Nat) (pc : Nat) (lv : SL) (st : List SV) (w : SW) : SX := match ins with
  | .invokestatic _ => scll zm zc fm rg cts md wl N rec9 k d me lk pc lv st w
  | .invokevirtual _ => scll zm zc fm rg cts md wl N rec9 k d me lk pc lv st w
  | ins => sxi fm rg md wl (Nat.beq k 0) me.2.2.2.1 ins lk pc lv st w (rec9 k d)
def smn1 (a : Nat) : List Nat → Bool
  | [] => false
  | b :: r => cond (Nat.beq a b) true (smn1 a r)
/-- one step; 'fst' says that it is the first of a run, which doesn't stop at its own cut -/
noncomputable def sstep (zm : List ZMe) (zc : List (List ZI)) (fm : List SF) (rg : SRg) (cts : List (List SC)) (md : List (Nat × Nat)) (wl : List (Nat × SE)) (N D0 : Nat) (cuts : List Nat) (fst : Bool) (rec9 : Nat → Nat → SRt) (k d : Nat) (pc : Nat) (lv : SL) (st : List SV) (w : SW) : SX := sn pc (fun pc => match zget zm k, zget zc k with
  | some me, some tb => (match zft tb pc with
    | some q => cond (zstop me.2.2.2.2.1 q.2.1 || cond fst false (Nat.beq d D0 && smn1 pc cuts)) (some [(pc, lv, st, w)]) (sdo zm zc fm rg cts md wl N rec9 k d me q.2.1 q.2.2.2 pc lv st w)
    | none => none)
  | _, _ => none)
noncomputable def sgo (zm : List ZMe) (zc : List (List ZI)) (fm : List SF) (rg : SRg) (cts : List (List SC)) (md : List (Nat × Nat)) (wl : List (Nat × SE)) (N D0 : Nat) (cuts : List Nat) (n : Nat) : Nat → Nat → SRt := Nat.rec (motive := fun _ => Nat → Nat → SRt) (fun _ _ _ _ _ _ => none) (fun _ ih => sstep zm zc fm rg cts md wl N D0 cuts false ih) n
end
section
/-! a call by contract is the machine's -/
theorem scl_row {rg : SRg} {f : Nat} (h : sisr rg f = true) (i : Nat) : scl rg f i = 0 := by
  unfold sisr at h
  unfold scl
  cases hr : rg.1[f]? with
  | none => rw [hr] at h; cases h
  | some q =>
    rw [hr] at h
    simp only at h
    cases hb : Nat.beq q.1 0 with
    | true => rw [hb] at h; cases h
    | false => simp only [hb, cond_false]
theorem sRun_mono {d d' : Nat} {me : ZMe} {EX : SEx} {l : Launch} {dC : Nat → ClassId} {dI : Nat → Nat → Nat} {cA : Nat → ClassId} {ws : va_W} {cas : List Value} {PO : List Value → va_W → Prop} (hd : d ≤ d') (h : sRun d me EX l dC dI cA ws cas PO) : sRun d' me EX l dC dI cA ws cas PO := by
  intro p e R s m args below meth c Q A ls F
  obtain ⟨f1, f2, f3, f4, f5, f6, f7, ⟨f8, f9⟩, f10⟩ := F
  exact h p e R s m args below meth c Q A ls ⟨f1, f2, f3, f4, f5, f6, f7, ⟨Nat.le_trans hd f8, by omega⟩, f10⟩
theorem slens {cas : List Value} {vs : List SV} {fm : List SF} {scr : Nat} {ρ : Nat → Int} {ad : SAd} (h : svs fm scr ρ ad vs cas) : (lg_sl cas).length = (vs.map scat).sum := by
  rw [zslots, svs_sum h]
theorem srcv_ok {fm : List SF} {ci : Nat} {as : List SV} (h : srcv fm ci as = true) : ∃ v r en o, as = v :: r ∧ v.1 = 2 ∧ fm[v.2.1]? = some en ∧ en.2.2.2 = .inl o ∧ o.1 = ci := by
  cases as with
  | nil => cases h
  | cons v r =>
    unfold srcv at h
    obtain ⟨h1, h2⟩ := bcond h
    rw [zget_eq] at h2
    cases hf : fm[v.2.1]? with
    | none => rw [hf] at h2; cases h2
    | some en =>
      rw [hf] at h2
      simp only at h2
      cases he : en.2.2.2 with
      | inr a => rw [he] at h2; cases h2
      | inl o =>
        rw [he] at h2
        exact ⟨v, r, en, o, rfl, Nat.beq_eq.mp h1, hf, he, Nat.beq_eq.mp h2⟩
section SCS
variable {p : Program} {l : Launch} {e : Env} {R : Room} {s : State} {m : MethodId} {args : Array Value} {below : List Frame} {meth : Method} {c : Code} {Q : State → Prop} {dC : Nat → ClassId} {dI : Nat → Nat → Nat} {cA : Nat → ClassId} {A : Nat → Prop} {nL : Nat} {fm : List SF} {rg : SRg} {wr : SWr} {scr n0 : Nat} {ρ0 : Nat → Int} {M0 : SMem} {ad0 : SAd} {nc0 ns0 : Nat} {cc : ByteArray} {pc : Nat} {lv : SL} {st : List SV} {w : SW} {ret : SRt} {xs : List SS} {own : String}
variable {EX : SEx} {md : List (Nat × Nat)} {wl : List (Nat × SE)} {M : SMem} {ad : SAd} {ws : va_W} {H : Heap} {locs : List Loc} {ls : Array Slot} {clv : ZL} {cst : List Value}
/-- the receiver of a call -/
theorem srecv {ρ : Nat → Int} {as : List SV} {cas : List Value} {kd ci : Nat} {y : MethodName} (hKv : va_K (dC, dI) vwCl (ztys cA) s) (hP : va_P (dC, dI) vwCl ws H) (hH : sH fm ad M cA ws) (hs : svs fm scr ρ ad as cas) (h : cond (Nat.ble kd 1) true (srcv fm ci as) = true) (hc : cond (Nat.ble kd 1) true (zfl1 ci 0 (fun C _ _ => decide (C = y.cls))) = true) : 2 ≤ kd → ∃ (b : Nat) (as2 : List Value), cas = .ref b :: as2 ∧ (kd = 2 → ∃ cell : Cell, H[b]? = some cell ∧ cell.vm.isStatics = false ∧ s.vm.findClass y.cls = some cell.cls) := by
  intro hk2
  have hb9 : Nat.ble kd 1 = false := by
    cases hb9 : Nat.ble kd 1 with
    | true => exact absurd (Nat.le_of_ble_eq_true hb9) (by omega)
    | false => rfl
  rw [hb9, cond_false] at h hc
  obtain ⟨v, r, en, o, rfl, e1, e2, e3, e4⟩ := srcv_ok h
  obtain ⟨cv, cr, rfl, h1, h2⟩ := svs_cons hs
  rcases h1 with ⟨q, -⟩ | ⟨q, -⟩ | ⟨-, j, en', f1, f2, f3, rfl⟩ | ⟨q, -⟩
  · omega
  · omega
  · cases e2.symm.trans f2
    refine ⟨_, cr, rfl, fun _ => ?_⟩
    obtain ⟨w, g1, g2⟩ := hH _ en e2 j f3
    unfold sHe at g2
    rw [e3] at g2
    obtain ⟨gs, rfl, -⟩ := g2
    obtain ⟨C, T, NN, k1, k2, k3⟩ := zfl1_ok hc
    rw [e4] at g1
    have hv := va_recv hKv hP k1 g1
    rw [show C = y.cls from of_decide_eq_true k3] at hv
    exact hv
  · omega
theorem sct_ok {zm : List ZMe} {me me2 : ZMe} {d' idx kd kc n ci na N scrS : Nat} {is : List Nat} {ins : Instr} {lw : Bool} {as rest : List SV} (hEX : sEXok EX) (hDP : sDP rg) (hST : sST fm rg) (F : sF (d' + 1) me EX p R s m args c dC dI cA A) (hnL : nL = me.2.2.2.1) (hb01 : nc0 + me.2.2.2.2.2.1 ≤ R.cells) (hb02 : ns0 + me.2.2.2.2.2.2 ≤ R.slots) (hmc : zm[kc]? = some me2) (hcal : zcal zm me.1 idx kd kc n ci is = true) (hwr : sWR md wl n0 ρ0 wr) (hscr : lw = false → scr = scrS)
    (hna : cond (Nat.ble kd 1) n (n + 1) = na) (has : as = (st.take na).reverse) (hrest : rest = st.drop na) (hk1 : as.length = na) (hk2 : (rest.map scat).sum ≤ 8) (hk3 : (as.map scat).sum ≤ me2.2.2.2.1) (hk6 : cond (Nat.ble kd 1) true (srcv fm ci as) = true)
    (hins : (kd = 0 ∨ kd = 1) ∧ ins = .invokestatic idx ∨ kd = 2 ∧ ins = .invokevirtual idx) (hdg : decode me.2.2.1 pc = .ok (ins, 3))
    (Hk : ∀ (pc : Nat) (lv : SL) (st : List SV) (w : SW), sub (ret pc lv st w) xs → sW p l e R s m args below meth c Q dC dI cA A nL fm rg sX sfI wr scr n0 ρ0 M0 ad0 nc0 ns0 pc lv st w) :
    ∀ {Cs : List SC} {w : SW} {ρ : Nat → Int}, (∀ C ∈ Cs, C.1 < N → C.2.1 = kc ∧ sCok zm fm rg EX l dC dI cA scrS C) → w.2.2.2.1 + me2.2.2.2.2.2.1 ≤ me.2.2.2.2.2.1 → w.2.2.2.2 + me2.2.2.2.2.2.2 ≤ me.2.2.2.2.2.2 → sRel fm rg sX sfI wr scr n0 ρ0 M0 ad0 dC dI cA A s.heap nL lv st w ρ M ad ws H locs ls clv cst → sub (sct rg md wl N lw d' me2.2.2.2.2.2.1 me2.2.2.2.2.2.2 lv st rest as (fun vs w => ret (pc + 3) lv (vs ++ rest) w) Cs w) xs → W p l e R s m args below meth c H locs (nc0 + w.2.2.2.1) (ns0 + w.2.2.2.2) Q (F0 m pc ls cst) := by
  intro Cs
  induction Cs with
  | nil => intro w ρ _ _ _ _ h; exact (sub_none h).elim
  | cons C r ih =>
    intro w ρ hCs hb1 hb2 hr h
    have ih2 := fun {w : SW} {ρ : Nat → Int} => ih (w := w) (ρ := ρ) (fun C hC => hCs C (List.mem_cons_of_mem _ hC))
    unfold sct at h
    cases hq : (Nat.blt C.1 N && sqL C.2.2.1 as) with
    | false => rw [hq, cond_false] at h; exact ih2 hb1 hb2 hr h
    | true =>
      rw [hq, cond_true, sgp_eq] at h
      rw [Bool.and_eq_true] at hq
      obtain ⟨hkc, hC⟩ := hCs C List.mem_cons_self (zblt hq.1)
      obtain ⟨ρ1, g, w1, hr1, h, hcnt⟩ := smtm_ok hST hr h
      have hb1' : w1.2.2.2.1 + me2.2.2.2.2.2.1 ≤ me.2.2.2.2.2.1 := by rw [hcnt]; exact hb1
      have hb2' : w1.2.2.2.2 + me2.2.2.2.2.2.2 ≤ me.2.2.2.2.2.2 := by rw [hcnt]; exact hb2
      rw [← hcnt]
      cases hv : (svL 0 g w1.2.2.1 C.2.2.1 as && svW 0 g w1 C.2.2.2.1) with
      | false => rw [hv, cond_false] at h; exact ih2 hb1' hb2' hr1 h
      | true =>
        rw [hv, cond_true] at h
        rw [Bool.and_eq_true] at hv
        cases hwl : swlS g C.2.2.2.2.2.1 with
        | none => rw [hwl] at h; exact (sub_none h).elim
        | some wlS =>
          rw [hwl] at h
          obtain ⟨hck, h⟩ := sub_cond h
          unfold sctk at hck
          obtain ⟨c1, hck⟩ := bcond hck
          obtain ⟨c2, hck⟩ := bcond hck
          obtain ⟨c3, hck⟩ := bcond hck
          obtain ⟨c4, hck⟩ := bcond hck
          obtain ⟨c5, hck⟩ := bcond hck
          obtain ⟨c6, hck⟩ := bcond hck
          obtain ⟨c7, hck⟩ := bcond hck
          obtain ⟨c8, c9⟩ := bcond hck
          have hK1 := srel_sK hr1
          obtain ⟨p1, p2⟩ := svW_ok hK1 hr1.2.1.2.2.1 hv.2
          obtain ⟨t1, t2⟩ := svs_take na hr1.2.2.2.2.2.2.2
          have hsa : svs fm scr ρ1 ad as (cst.take na).reverse := by rw [has]; exact svs_rev t1
          have hsr : svs fm scr ρ1 ad rest (cst.drop na) := by rw [hrest]; exact t2
          have p3 : svs fm scrS (srh 0 g ρ1) ad C.2.2.1 (cst.take na).reverse := by
            have q := svL_ok hK1 hv.1 hsa
            cases hlw : lw with
            | false => rw [← hscr hlw]; exact q
            | true =>
              rw [hlw, cond_true] at c7
              exact svs_scr c7 q
          have hRun := sRun_mono (Nat.le_of_ble_eq_true c9) (hC me2 (by rw [hkc]; exact hmc) (srh 0 g ρ1) M ad ws (cst.take na).reverse p1 hr1.2.1.1 hr1.2.1.2.1.1 hr1.2.1.2.1.2 p2 p3)
          have hcal2 := hcal
          unfold zcal at hcal2
          rw [hmc] at hcal2
          simp only [Bool.and_eq_true] at hcal2
          have hcs : cst = ((cst.take na).reverse).reverse ++ cst.drop na := by
            rw [List.reverse_reverse, List.take_append_drop]
          have h8 : ((cst.drop na).map fun v => v.category).sum ≤ 8 := by
            rw [svs_sum hsr]
            exact hk2
          have hlen : (lg_sl (cst.take na).reverse).length ≤ me2.2.2.2.1 := by
            rw [slens hsa]
            exact hk3
          have hn9 : ((cst.take na).reverse).length = if kd ≤ 1 then n else n + 1 := by
            rw [svs_len hsa, hk1, ← hna]
            by_cases hkk : kd ≤ 1
            · rw [if_pos hkk, Nat.ble_eq_true_of_le hkk]
              rfl
            · rw [if_neg hkk]
              cases hb9 : Nat.ble kd 1 with
              | true => exact absurd (Nat.le_of_ble_eq_true hb9) hkk
              | false => rfl
          have hrc := srecv (y := me2.2.1) F.2.2.2.2.2.1 hr1.2.2.1 hr1.2.1.1 hsa hk6 hcal2.2.2.2.2.2.1
          have hl5 := hr1.2.2.2.2.2.1
          rw [hnL] at hl5
          refine scall hEX F hmc hcal hRun hr1.2.2.1 hr1.2.2.2.1 hr1.2.2.2.2.1 hl5 hcs h8 hlen hn9 hrc ⟨by omega, by omega⟩ hins hdg (fun rr ws' H1 locs1 hPO k1 k2 k3 => ?_)
          obtain ⟨X, hX, ρX, M', ad', x1, x2, ⟨x3, x4, x5, x6⟩, x7⟩ := hPO
          have h9 := sxits_ok hX h
          have hmd : ∀ q ∈ C.2.2.2.2.1, q ∈ wr.1 := fun q hq => by
            rw [hwr.1]
            exact smem2_ok (sall_ok c3 q hq)
          have hww : ∀ q ∈ wr.2, ∀ j i : Nat, (i : Int) < q.2 → M' q.1 j i = M q.1 j i := by
            intro q hq j i hi
            obtain ⟨ee, e1, e2, e3⟩ := hwr.2 q hq
            have z := sall_ok c4 _ e1
            unfold swlc at z
            obtain ⟨z1, z2⟩ := bcond z
            cases hm0 : smem2 q.1 0 C.2.2.2.2.1 with
            | false => exact x6.1 _ _ _ (by rw [scl_row z1]; exact smem2_no hm0)
            | true =>
              simp only [hm0, cond_true] at z2
              obtain ⟨b, z3, z4⟩ := sany_ok z2
              rw [Bool.and_eq_true] at z4
              obtain ⟨e', z5, z6⟩ := swlS_ok (ρ := ρ1) hwl b z3
              have z7 := sent_ok hK1 z4.2
              rw [ssub_ev, z6, sbe_ev (ρ := ρ0) (ρ' := ρ1) hr1.1.1 e2, ← e3] at z7
              have z8 := Nat.beq_eq.mp z4.1
              rw [← z8]
              exact x6.2.2 (b.1, sev (srh 0 g ρ1) e') (List.mem_map.mpr ⟨(b.1, e'), z5, rfl⟩) j i (by simp only; omega)
          obtain ⟨ρ2, vs, w2, y1, y2, y3⟩ := sxit_ok hDP hr1 c1 c2 hsr (fun v hv => by rw [hrest] at hv; exact List.mem_of_mem_drop hv) x1 x2 x3 x4 x5 x6 (svs_scr (sall_ok c8 X hX) x7) hwl hmd hww (fun q hq => sall_ok c5 q hq) (fun v hv => sall_ok c6 v hv) k1 k2 k3 h9
          have := Hk _ _ _ _ y1 ρ2 M' ad' ws' H1 locs1 ls clv _ y3
          rw [y2] at this
          simp only [Nat.add_assoc] at this ⊢
          exact this
end SCS
end
section
/-! the whole run is the machine's -/
theorem smem1 {a : Nat} : ∀ {l : List Nat}, smn1 a l = true → a ∈ l := by
  intro l
  induction l with
  | nil => intro h; cases h
  | cons b r ih =>
    intro h
    unfold smn1 at h
    cases hc : Nat.beq a b with
    | true => rw [Nat.beq_eq.mp hc]; exact List.mem_cons_self
    | false => rw [hc, cond_false] at h; exact List.mem_cons_of_mem _ (ih h)
/-- what a run wants to be told of its place -/
def sCtx (zm : List ZMe) (fm : List SF) (rg : SRg) (EX : SEx) (l : Launch) (dC : Nat → ClassId) (dI : Nat → Nat → Nat) (cA : Nat → ClassId) (scrS : Nat) (cts : List (List SC)) (N : Nat) : Prop :=
  sEXok EX ∧ sDP rg ∧ sST fm rg ∧ sCHR EX l dC dI cA scrS ∧ (∀ A s H, EX A s H → ∃ tx, vk_R "NamesUnder$OrderReader" 159 tx scrS s) ∧ (∀ (ci : Nat) (C : String) (T : u_T) (N : Nat), vwCl[ci]? = some (C, T, N) → (∀ w ∈ u_ws C T N, w ∈ zT) ∧ ∃ ty0 : Nat → FieldType, (∀ k, k < N → parseFieldDescriptor (T k).2.2.1 = some (ty0 k)) ∧ ∀ a, a < N → ∀ b, b < N → a ≠ b → (T a).2.1 ≠ (T b).2.1) ∧
  (∀ kc Cs, cts[kc]? = some Cs → ∀ C ∈ Cs, C.1 < N → C.2.1 = kc ∧ sCok zm fm rg EX l dC dI cA scrS C) ∧ (1 ≤ N → sLAY fm rg EX l dC dI cA) ∧ ∀ i, scl rg 2 i = 0
def sPn (zm : List ZMe) (fm : List SF) (rg : SRg) (EX : SEx) (l : Launch) (dC : Nat → ClassId) (dI : Nat → Nat → Nat) (cA : Nat → ClassId) (scrS : Nat) (md : List (Nat × Nat)) (wl : List (Nat × SE)) (D0 : Nat) (rec9 : Nat → Nat → SRt) : Prop := ∀ (k d pc : Nat) (lv : SL) (st : List SV) (w : SW) (xs : List SS), d ≤ D0 → sub (rec9 k d pc lv st w) xs → ∀ (me : ZMe), zm[k]? = some me → ∀ (p : Program) (e : Env) (R : Room) (s : State) (m : MethodId) (args : Array Value) (below : List Frame) (meth : Method) (c : Code) (Q : State → Prop) (A : Nat → Prop) (wr : SWr) (scr n0 : Nat) (ρ0 : Nat → Int) (M0 : SMem) (ad0 : SAd) (nc0 ns0 : Nat), sF d me EX p R s m args c dC dI cA A → nc0 + me.2.2.2.2.2.1 ≤ R.cells → ns0 + me.2.2.2.2.2.2 ≤ R.slots → sWR md wl n0 ρ0 wr → (k = 0 → sSCR rg scr s A M0 wr) → (k ≠ 0 → scr = scrS) → (∀ X ∈ xs, sW p l e R s m args below meth c Q dC dI cA A me.2.2.2.1 fm rg sX sfI wr scr n0 ρ0 M0 ad0 nc0 ns0 X.1 X.2.1 X.2.2.1 X.2.2.2) →
  sW p l e R s m args below meth c Q dC dI cA A me.2.2.2.1 fm rg sX sfI wr scr n0 ρ0 M0 ad0 nc0 ns0 pc lv st w
def srd (me : ZMe) (pc : Nat) : Prop := match me.2.2.2.2.1 with
  | none => decode me.2.2.1 pc = .ok (.return_, 1)
  | some _ => decode me.2.2.1 pc = .ok (.ireturn, 1)
theorem srp_ok {zm : List ZMe} {zc : List (List ZI)} {kc pc : Nat} {me : ZMe} (htab : sTab zm zc) (hme : zm[kc]? = some me) (h : srp zc kc me.2.2.2.2.1 pc = true) : srd me pc := by
  unfold srp at h
  rw [zget_eq] at h
  cases hc : zc[kc]? with
  | none => rw [hc] at h; cases h
  | some tb =>
    rw [hc] at h
    simp only at h
    cases hf : zft tb pc with
    | none => rw [hf] at h; cases h
    | some q =>
      rw [hf] at h
      obtain ⟨f1, f2⟩ := zft_ok hf
      have hq := htab kc me tb hme hc q f1
      unfold sok at hq
      simp only [Bool.and_eq_true] at hq
      have hdec := of_decide_eq_true hq.1
      rw [f2] at hdec
      obtain ⟨q1, ins, len, lk⟩ := q
      unfold srd
      cases hrt : me.2.2.2.2.1 with
      | none =>
        rw [hrt] at h
        cases ins with
        | return_ =>
          have e9 : len = 1 := Nat.beq_eq.mp (show Nat.beq len 1 = true from hq.2.1)
          rw [e9] at hdec
          exact hdec
        | _ => cases h
      | some ty =>
        rw [hrt] at h
        cases ins with
        | ireturn =>
          have e9 : len = 1 := Nat.beq_eq.mp (show Nat.beq len 1 = true from hq.2.1)
          rw [e9] at hdec
          exact hdec
        | _ => cases h
def srtv (rt : Option FieldType) (cst : List Value) : Prop := match rt with
  | none => cst = []
  | some ty => ∃ x : Int32, cst = [.int x] ∧ narrow ty (.int x) = .int x
theorem srtk_ok {rt : Option FieldType} {K : SK} {st : List SV} {fm : List SF} {scr : Nat} {ρ : Nat → Int} {ad : SAd} {cst : List Value} (hK : sK ρ K) (h : srtk rt K st = true) (hs : svs fm scr ρ ad st cst) : srtv rt cst := by
  cases rt with
  | none =>
    cases st with
    | nil => exact svs_nil hs
    | cons _ _ => cases h
  | some ty =>
    match st, h with
    | [], h => cases h
    | _ :: _ :: _, h => cases h
    | [v], h =>
      obtain ⟨h1, h2⟩ := bcond (show cond (Nat.beq v.1 0) _ false = true from h)
      obtain ⟨c, r, rfl, h3, h4⟩ := svs_cons hs
      cases svs_nil h4
      obtain ⟨x, rfl, e1⟩ := sv_int h1 h3
      refine ⟨x, rfl, ?_⟩
      cases ty with
      | int => rfl
      | boolean =>
        have h5 := sin_ok hK h2
        have h6 : x = 0 ∨ x = 1 := by
          by_cases h : x.toInt = 0
          · exact Or.inl (Int32.toInt_inj.mp h)
          · exact Or.inr (Int32.toInt_inj.mp (show x.toInt = 1 by omega))
        rcases h6 with rfl | rfl <;> rfl
      | _ => cases h2
theorem scont_ok {ok : Nat → Bool} {rt : Option FieldType} {bc bs : Nat} {w0 : SW} {pc : Nat} {lv : SL} {rest : List SV} {ret : SRt} {xs : List SS} {Y : SS} : ∀ {ys : List SS}, Y ∈ ys → sub (scont ok rt bc bs w0 pc lv rest ret ys) xs → ok Y.1 = true ∧ srtk rt Y.2.2.2.2.2.1 Y.2.2.1 = true ∧ Y.2.2.2.2.2.2.1 ≤ bc ∧ Y.2.2.2.2.2.2.2 ≤ bs ∧ sub (ret (pc + 3) lv (Y.2.2.1 ++ rest) (Y.2.2.2.1, Y.2.2.2.2.1, Y.2.2.2.2.2.1, w0.2.2.2.1 + bc, w0.2.2.2.2 + bs)) xs := by
  intro ys
  induction ys with
  | nil => intro h; cases h
  | cons Z r ih =>
    intro h hs
    obtain ⟨h1, h2⟩ := sub_app hs
    rcases List.mem_cons.mp h with rfl | h
    · obtain ⟨h3, h4⟩ := sub_cond h1
      rw [sn_eq, sn_eq] at h4
      simp only [Bool.and_eq_true] at h3
      exact ⟨h3.1, h3.2.1, Nat.le_of_ble_eq_true h3.2.2.1, Nat.le_of_ble_eq_true h3.2.2.2, h4⟩
    · exact ih h h2
section SIN
variable {zm : List ZMe} {fm : List SF} {rg : SRg} {EX : SEx} {l : Launch} {dC : Nat → ClassId} {dI : Nat → Nat → Nat} {cA : Nat → ClassId} {scrS : Nat} {cts : List (List SC)} {zc : List (List ZI)} {N D0 : Nat} {md : List (Nat × Nat)} {wl : List (Nat × SE)} {rec9 : Nat → Nat → SRt}
set_option maxHeartbeats 1000000 in
theorem sinv_ok (hX : sCtx zm fm rg EX l dC dI cA scrS cts N) (IH : sPn zm fm rg EX l dC dI cA scrS md wl D0 rec9) (htab : sTab zm zc) {k d kd kc n ci idx pc : Nat} {is : List Nat} {ins : Instr} {me : ZMe} {lv : SL} {st : List SV} {w : SW} {xs : List SS} (hd0 : d ≤ D0) (hme : zm[k]? = some me) (hcal : zcal zm me.1 idx kd kc n ci is = true) (hins : (kd = 0 ∨ kd = 1) ∧ ins = .invokestatic idx ∨ kd = 2 ∧ ins = .invokevirtual idx) (hdg : decode me.2.2.1 pc = .ok (ins, 3))
    (h : sub (sinv zm zc fm rg cts md wl N rec9 k d me kd kc n ci pc lv st w) xs)
    {p : Program} {e : Env} {R : Room} {s : State} {m : MethodId} {args : Array Value} {below : List Frame} {meth : Method} {c : Code} {Q : State → Prop} {A : Nat → Prop} {wr : SWr} {scr n0 : Nat} {ρ0 : Nat → Int} {M0 : SMem} {ad0 : SAd} {nc0 ns0 : Nat} (F : sF d me EX p R s m args c dC dI cA A) (hb01 : nc0 + me.2.2.2.2.2.1 ≤ R.cells) (hb02 : ns0 + me.2.2.2.2.2.2 ≤ R.slots) (hwr : sWR md wl n0 ρ0 wr) (hs0 : k = 0 → sSCR rg scr s A M0 wr) (hs1 : k ≠ 0 → scr = scrS)
    (Hk : ∀ (pc : Nat) (lv : SL) (st : List SV) (w : SW), sub (rec9 k d pc lv st w) xs → sW p l e R s m args below meth c Q dC dI cA A me.2.2.2.1 fm rg sX sfI wr scr n0 ρ0 M0 ad0 nc0 ns0 pc lv st w) : sW p l e R s m args below meth c Q dC dI cA A me.2.2.2.1 fm rg sX sfI wr scr n0 ρ0 M0 ad0 nc0 ns0 pc lv st w := by
  obtain ⟨x1, x2, x3, x4, x5, x6, x7, x8, x9⟩ := hX
  cases d with
  | zero => exact (sub_none h).elim
  | succ d' =>
    cases hmc : zm[kc]? with
    | none =>
      unfold sinv at h
      rw [zget_eq, hmc] at h
      exact (sub_none h).elim
    | some me2 =>
      unfold sinv at h
      rw [zget_eq, hmc] at h
      simp only [sn_eq, sll_eq] at h
      generalize hna : cond (Nat.ble kd 1) n (n + 1) = na at h
      obtain ⟨hck, h⟩ := sub_cond h
      simp only [Bool.and_eq_true] at hck
      obtain ⟨k1, k2, k3, k4, k5, k6⟩ := hck
      have hlw : (Nat.beq k 0) = false → scr = scrS := fun q => hs1 (fun z => by rw [z] at q; cases q)
      intro ρ M ad ws H locs ls clv cst hr
      rw [zget_eq] at h
      have hinl : ∀ {h9 : SX}, h9 = cond (sall (fun q => sbe w.2.1 q.2.2.2) lv && (sall (fun v => sbe w.2.1 v.2.2) (st.drop na) && (sall (fun q => snad md q.2) lv && (sall (snad md) (st.drop na) && (cond (Nat.beq k 0) (sno3 (st.take na).reverse) true && !(Nat.beq kc 0)))))) (match rec9 kc d' 0 (sargs 0 (st.take na).reverse) [] (w.1, w.2.1, w.2.2.1, 0, 0) with
        | some ys => scont (srp zc kc me2.2.2.2.2.1) me2.2.2.2.2.1 me2.2.2.2.2.2.1 me2.2.2.2.2.2.2 w pc lv (st.drop na) (rec9 k (d' + 1)) ys
        | none => none) none → sub h9 xs → W p l e R s m args below meth c H locs (nc0 + w.2.2.2.1) (ns0 + w.2.2.2.2) Q (F0 m pc ls cst) := by
        intro h9 e9 h
        subst e9
        obtain ⟨hck, h⟩ := sub_cond h
        simp only [Bool.and_eq_true] at hck
        obtain ⟨c1, c2, c3, c4, c5, c6⟩ := hck
        cases hys : rec9 kc d' 0 (sargs 0 (st.take na).reverse) [] (w.1, w.2.1, w.2.2.1, 0, 0) with
        | none => rw [hys] at h; exact (sub_none h).elim
        | some ys =>
          rw [hys] at h
          simp only at h
          have hkc : kc ≠ 0 := fun q => by rw [q] at c6; cases c6
          obtain ⟨⟨ag, hn, hK⟩, ⟨r1, hI, hmo, hfr⟩, r2, r3, r4, r5, r6, r7⟩ := hr
          obtain ⟨t1, t2⟩ := svs_take na r7
          have hsa : svs fm scr ρ ad (st.take na).reverse (cst.take na).reverse := svs_rev t1
          have hsS : svs fm scrS ρ ad (st.take na).reverse (cst.take na).reverse := by
            cases hl : Nat.beq k 0 with
            | false => rw [← hlw hl]; exact hsa
            | true =>
              rw [hl, cond_true] at c5
              exact svs_scr c5 hsa
          have hcal2 := hcal
          unfold zcal at hcal2
          rw [hmc] at hcal2
          simp only [Bool.and_eq_true] at hcal2
          have hcs : cst = ((cst.take na).reverse).reverse ++ cst.drop na := by
            rw [List.reverse_reverse, List.take_append_drop]
          have h8 : ((cst.drop na).map fun v => v.category).sum ≤ 8 := by
            rw [svs_sum t2]
            exact Nat.le_of_ble_eq_true k2
          have hlen : (lg_sl (cst.take na).reverse).length ≤ me2.2.2.2.1 := by
            rw [slens hsa]
            exact Nat.le_of_ble_eq_true k3
          have hn9 : ((cst.take na).reverse).length = if kd ≤ 1 then n else n + 1 := by
            rw [svs_len hsa, Nat.beq_eq.mp k1, ← hna]
            by_cases hkk : kd ≤ 1
            · rw [if_pos hkk, Nat.ble_eq_true_of_le hkk]
              rfl
            · rw [if_neg hkk]
              cases hb9 : Nat.ble kd 1 with
              | true => exact absurd (Nat.le_of_ble_eq_true hb9) hkk
              | false => rfl
          have hrc := srecv (y := me2.2.1) F.2.2.2.2.2.1 r2 r1 hsa k6 hcal2.2.2.2.2.2.1
          have hRun : sRun d' me2 EX l dC dI cA ws (cst.take na).reverse (fun rr ws' => ∃ Y ∈ ys, ∃ (ρ' : Nat → Int) (M' : SMem) (ad' : SAd), (∀ t, t < w.2.1 → ρ' t = ρ t) ∧ w.2.1 ≤ Y.2.2.2.2.1 ∧ sK ρ' Y.2.2.2.2.2.1 ∧ (sH fm ad' M' cA ws' ∧ (sI rg M' ∧ sX M') ∧ smo sfI ρ' M' Y.2.2.2.1 ∧ sfr rg M0 M' ad0 ad' wr) ∧ svs fm scrS ρ' ad' Y.2.2.1 rr) := by
            intro p2 e2 R2 s2 m2 args2 below2 meth2 c2 Q2 A2 ls2 F2 hP2 hD2 hl2 hend
            have hwr2 : sWR md wl w.2.1 ρ wr := ⟨hwr.1, fun q hq => by
              obtain ⟨ee, e1, e2, e3⟩ := hwr.2 q hq
              refine ⟨ee, e1, ?_, ?_⟩
              · have hmono : ∀ {l : List (Nat × Int)}, sbl n0 l = true → sbl w.2.1 l = true := by
                  intro l
                  induction l with
                  | nil => intro _; rfl
                  | cons q r ih =>
                    intro h
                    simp only [sbl, Bool.and_eq_true] at h ⊢
                    exact ⟨Nat.blt_eq.mpr (Nat.lt_of_lt_of_le (zblt h.1) hn), ih h.2⟩
                exact hmono e2
              · rw [e3, sbe_ev ag e2]⟩
            have := IH kc d' 0 (sargs 0 (st.take na).reverse) [] (w.1, w.2.1, w.2.2.1, 0, 0) ys (by omega) ⟨ys, hys, fun X hX => hX⟩ me2 hmc p2 e2 R2 s2 m2 args2 below2 meth2 c2 Q2 A2 wr scrS w.2.1 ρ M0 ad0 0 0 F2 (by rw [Nat.zero_add]; exact F2.2.2.2.2.2.2.2.2.1.1) (by rw [Nat.zero_add]; exact F2.2.2.2.2.2.2.2.2.1.2) hwr2 (fun q => absurd q hkc) (fun _ => rfl) (fun Y hY => by
              intro ρ' M' ad' ws' H' locs' ls' clv' cst' hr'
              obtain ⟨⟨ag', hn', hK'⟩, ⟨r1', hI', hmo', hfr'⟩, r2', r3', r4', r5', r6', r7'⟩ := hr'
              obtain ⟨y0, y1, y2, y3, y4⟩ := scont_ok hY h
              have hret := srp_ok htab hmc y0
              unfold srd at hret
              have hst := srtk_ok hK' y1 r7'
              simp only [Nat.zero_add]
              refine hend Y.1 ls' cst' ws' H' locs' _ _ ?_ ⟨Y, hY, ρ', M', ad', ag', hn', hK', ⟨r1', hI', hmo', hfr'⟩, r7'⟩ r2' r3' r4' y2 y3
              unfold sret
              cases hrt : me2.2.2.2.2.1 with
              | none =>
                rw [hrt] at hret hst
                exact ⟨hret, hst⟩
              | some ty =>
                rw [hrt] at hret hst
                exact ⟨hret, hst⟩)
            have hW := this ρ M ad ws s2.heap [] ls2 (lv_args 0 (cst.take na).reverse) [] ⟨⟨fun _ _ => rfl, Nat.le_refl _, hK⟩, ⟨r1, hI, hmo, hfr⟩, hP2, hD2, va_S.rf, hl2, sls_args 0 hsS, trivial⟩
            exact hW
          refine scall x1 F hmc hcal hRun r2 r3 r4 r5 hcs h8 hlen hn9 hrc ⟨by have := Nat.le_of_ble_eq_true k4; omega, by have := Nat.le_of_ble_eq_true k5; omega⟩ hins hdg (fun rr ws' H1 locs1 hPO q1 q2 q3 => ?_)
          obtain ⟨Y, hY, ρ', M', ad', z1, z2, z3, ⟨z4, z5, z6, z7⟩, z8⟩ := hPO
          obtain ⟨y0, y1, y2, y3, y4⟩ := scont_ok hY h
          have hst : svs fm scr ρ' ad' Y.2.2.1 rr := by
            have := srtk_ok (rt := me2.2.2.2.2.1) z3 y1 z8
            refine svs_scr ?_ z8
            cases hrt : me2.2.2.2.2.1 with
            | none =>
              rw [hrt] at y1
              cases hY9 : Y.2.2.1 with
              | nil => rfl
              | cons _ _ => rw [hY9] at y1; cases y1
            | some ty =>
              rw [hrt] at y1
              match hY9 : Y.2.2.1, y1 with
              | [], y1 => cases y1
              | _ :: _ :: _, y1 => cases y1
              | [v], y1 =>
                obtain ⟨h1, h2⟩ := bcond (show cond (Nat.beq v.1 0) _ false = true from y1)
                show cond (!(Nat.beq v.1 3)) true false = true
                rw [Nat.beq_eq.mp h1]
                rfl
          have hadx : ∀ f j, (f, 999999) ∉ md → ad' f j = ad f j := fun f j hf => by
            rw [← hwr.1] at hf
            rw [z7.2.1 f j hf, hfr.2.1 f j hf]
          have hlv2 : sls fm scr ρ' ad' lv clv := by
            have h1 := sls_ag z1 c1 r6
            exact sls_mono (fun v => snad md v) (fun v c q1 q2 => sv_ad hadx q1 q2) (fun q hq => sall_ok c3 q hq) h1
          have hrs2 : svs fm scr ρ' ad' (st.drop na) (cst.drop na) := by
            have h1 := svs_ag z1 c2 t2
            exact svs_mono (fun v => snad md v) (fun v c q1 q2 => sv_ad hadx q1 q2) (fun q hq => sall_ok c4 q hq) h1
          have := Hk _ _ _ _ y4 ρ' M' ad' ws' H1 locs1 ls clv _ ⟨⟨fun t ht => (z1 t (Nat.lt_of_lt_of_le ht hn)).trans (ag t ht), Nat.le_trans hn z2, z3⟩, ⟨z4, z5, z6, z7⟩, q1, q2, q3, r5, hlv2, svs_app hst hrs2⟩
          simp only [Nat.add_assoc] at this ⊢
          exact this
      cases hcc : cts[kc]? with
      | none => rw [hcc] at h; exact hinl rfl h
      | some Cs =>
        cases Cs with
        | nil => rw [hcc] at h; exact hinl rfl h
        | cons C r =>
          rw [hcc] at h
          simp only at h
          exact sct_ok (lw := Nat.beq k 0) (scrS := scrS) x1 x2 x3 F rfl hb01 hb02 hmc hcal hwr hlw hna rfl rfl (Nat.beq_eq.mp k1) (Nat.le_of_ble_eq_true k2) (Nat.le_of_ble_eq_true k3) k6 hins hdg Hk (x7 kc _ hcc) (Nat.le_of_ble_eq_true k4) (Nat.le_of_ble_eq_true k5) hr h
end SIN
end
section
/-! every run: by induction on its steps -/
section SGO
variable {zm : List ZMe} {zc : List (List ZI)} {fm : List SF} {rg : SRg} {EX : SEx} {l : Launch} {dC : Nat → ClassId} {dI : Nat → Nat → Nat} {cA : Nat → ClassId} {scrS : Nat} {cts : List (List SC)} {N D0 : Nat} {md : List (Nat × Nat)} {wl : List (Nat × SE)} {cuts : List Nat} {rec9 : Nat → Nat → SRt}
set_option maxHeartbeats 1000000 in
theorem sstep_ok (hX : sCtx zm fm rg EX l dC dI cA scrS cts N) (htab : sTab zm zc) (IH : sPn zm fm rg EX l dC dI cA scrS md wl D0 rec9) (fst : Bool) : sPn zm fm rg EX l dC dI cA scrS md wl D0 (sstep zm zc fm rg cts md wl N D0 cuts fst rec9) := by
  intro k d pc lv st w xs hd0 h me hme p e R s m args below meth c Q A wr scr n0 ρ0 M0 ad0 nc0 ns0 F hb01 hb02 hwr hs0 hs1 hxs
  unfold sstep at h
  rw [sn_eq, zget_eq, zget_eq, hme] at h
  cases hc : zc[k]? with
  | none => rw [hc] at h; exact (sub_none h).elim
  | some tb =>
    rw [hc] at h
    simp only at h
    cases hf : zft tb pc with
    | none => rw [hf] at h; exact (sub_none h).elim
    | some q =>
      rw [hf] at h
      simp only at h
      obtain ⟨f1, f2⟩ := zft_ok hf
      have hq := htab k me tb hme hc q f1
      unfold sok at hq
      simp only [Bool.and_eq_true] at hq
      obtain ⟨q1, q2, q3, q4⟩ := hq
      have hdg := of_decide_eq_true q1
      rw [f2] at hdg
      cases hs : (zstop me.2.2.2.2.1 q.2.1 || cond fst false (Nat.beq d D0 && smn1 pc cuts)) with
      | true =>
        rw [hs, cond_true] at h
        obtain ⟨ys, e1, e2⟩ := h
        cases e1
        exact hxs _ (e2 _ List.mem_cons_self)
      | false =>
        rw [hs, cond_false] at h
        obtain ⟨pq, ins, len, lk⟩ := q
        have Hk : ∀ (pc : Nat) (lv : SL) (st : List SV) (w : SW), sub (rec9 k d pc lv st w) xs → sW p l e R s m args below meth c Q dC dI cA A me.2.2.2.1 fm rg sX sfI wr scr n0 ρ0 M0 ad0 nc0 ns0 pc lv st w := fun pc lv st w h => IH k d pc lv st w xs hd0 h me hme p e R s m args below meth c Q A wr scr n0 ρ0 M0 ad0 nc0 ns0 F hb01 hb02 hwr hs0 hs1 hxs
        have F' := F
        obtain ⟨hx, hb, hml, hown, hts, hK, hA, hRd, hRb, hE9⟩ := F
        obtain ⟨x1, x2, x3, x4, x5, x6, x7, x8, x9⟩ := hX
        have hlw : (Nat.beq k 0) = false → scr = scrS := fun q => hs1 (fun z => by rw [z] at q; cases q)
        have hcall : ∀ {h9 : SX}, h9 = scll zm zc fm rg cts md wl N rec9 k d me lk pc lv st w → sub h9 xs → ((∃ idx, ins = .invokestatic idx) ∨ ∃ idx, ins = .invokevirtual idx) → sW p l e R s m args below meth c Q dC dI cA A me.2.2.2.1 fm rg sX sfI wr scr n0 ρ0 M0 ad0 nc0 ns0 pc lv st w := by
          intro h9 e9 h hi9
          subst e9
          match lk, h, q4 with
          | [], h, q4 => exact (sub_none h).elim
          | [_], h, q4 => exact (sub_none h).elim
          | [_, _], h, q4 => exact (sub_none h).elim
          | [_, _, _], h, q4 => exact (sub_none h).elim
          | kd :: kc :: n :: ci :: is, h, q4 =>
            simp only [scll] at h
            rcases hi9 with ⟨idx, rfl⟩ | ⟨idx, rfl⟩
            · cases Nat.beq_eq.mp (show Nat.beq len 3 = true from q2)
              simp only [slkc] at q4
              cases c7 : Nat.beq kd 7 with
              | true =>
                rw [c7, cond_true] at h q4
                obtain ⟨h1, h⟩ := sub_cond h
                have hd1 := Nat.le_of_ble_eq_true h1
                have w9 := zchk_ok q4
                exact ss_cpy hx hb hml hown hts hK x3 hwr (by omega) (by omega) (w9 _ (by simp)) (w9 _ (by simp)) (w9 _ (by simp)) (w9 _ (by simp)) hdg h Hk
              | false =>
                rw [c7, cond_false] at h q4
                cases c8 : Nat.beq kd 8 with
                | true =>
                  rw [c8, cond_true] at h q4
                  obtain ⟨h1, h⟩ := sub_cond h
                  simp only [Bool.and_eq_true] at h1
                  have hd1 := Nat.le_of_ble_eq_true h1.1
                  have hd2 := Nat.le_of_ble_eq_true h1.2.1
                  have hd3 := Nat.le_of_ble_eq_true h1.2.2
                  have w9 := zchk_ok q4
                  exact ss_max hx hb hml hown hts (by omega) (by omega) (by omega) (by omega) (w9 _ (by simp)) (w9 _ (by simp)) (w9 _ (by simp)) (w9 _ (by simp)) hdg h Hk
                | false =>
                  rw [c8, cond_false] at h q4
                  cases c10 : Nat.beq kd 10 with
                  | true =>
                    rw [c10, cond_true] at h q4
                    obtain ⟨h1, h⟩ := sub_cond h
                    simp only [Bool.and_eq_true] at h1
                    have hd1 := Nat.le_of_ble_eq_true h1.1
                    have hd2 := Nat.le_of_ble_eq_true h1.2.1
                    have hd3 := Nat.le_of_ble_eq_true h1.2.2
                    have w9 := zchk_ok q4
                    exact ss_min hx hb hml hown hts (by omega) (by omega) (by omega) (by omega) (w9 _ (by simp)) (w9 _ (by simp)) (w9 _ (by simp)) (w9 _ (by simp)) hdg h Hk
                  | false =>
                    rw [c10, cond_false] at h q4
                    cases c11 : Nat.beq kd 11 with
                    | true =>
                     rw [c11, cond_true] at q4
                     have e11 := Nat.beq_eq.mp c11
                     subst e11
                     have h : sub (cond (Nat.ble 12 d && (Nat.ble (w.2.2.2.1 + 1) me.2.2.2.2.2.1 && (Nat.ble (w.2.2.2.2 + 6) me.2.2.2.2.2.2 && Nat.ble 1 N))) (sx_lay md wl pc lv st w (rec9 k d)) none) xs := h
                     obtain ⟨h1, h⟩ := sub_cond h
                     simp only [Bool.and_eq_true] at h1
                     have hd1 := Nat.le_of_ble_eq_true h1.1
                     have hd2 := Nat.le_of_ble_eq_true h1.2.1
                     have hd3 := Nat.le_of_ble_eq_true h1.2.2.1
                     have w9 := zchk_ok q4
                     exact ss_lay (x8 (Nat.le_of_ble_eq_true h1.2.2.2)) hE9 hA hx hb hml hown hts hK x9 hwr (by omega) (by omega) (by omega) (by omega) (w9 _ (by simp)) hdg h Hk
                    | false =>
                     rw [c11, cond_false] at q4
                     rw [Bool.and_eq_true, Bool.or_eq_true] at q4
                     cases c9 : Nat.beq kd 9 with
                     | true =>
                      have e9 := Nat.beq_eq.mp c9
                      rcases q4.1 with z | z
                      · have := Nat.beq_eq.mp z
                        omega
                      · have := Nat.beq_eq.mp z
                        omega
                     | false =>
                      rw [c9, cond_false, c11, cond_false] at h
                      exact sinv_ok ⟨x1, x2, x3, x4, x5, x6, x7, x8, x9⟩ IH htab hd0 hme q4.2 (Or.inl ⟨q4.1.imp Nat.beq_eq.mp Nat.beq_eq.mp, rfl⟩) hdg h F' hb01 hb02 hwr hs0 hs1 Hk
            · cases Nat.beq_eq.mp (show Nat.beq len 3 = true from q2)
              simp only [slkc] at q4
              cases c9 : Nat.beq kd 9 with
              | true =>
                have e9 := Nat.beq_eq.mp c9
                subst e9
                rw [c9, cond_true] at q4
                have h : sub (cond (Nat.ble 4 d && (Nat.ble w.2.2.2.1 me.2.2.2.2.2.1 && (Nat.ble w.2.2.2.2 me.2.2.2.2.2.2 && !(Nat.beq k 0)))) (sx_chr pc lv st w (rec9 k d)) none) xs := h
                obtain ⟨h1, h⟩ := sub_cond h
                simp only [Bool.and_eq_true] at h1
                have hd1 := Nat.le_of_ble_eq_true h1.1
                have hd2 := Nat.le_of_ble_eq_true h1.2.1
                have hd3 := Nat.le_of_ble_eq_true h1.2.2.1
                have w9 := zchk_ok q4
                have hsc := hlw (snot h1.2.2.2)
                exact ss_chr hE9 hA (by rw [hsc]; exact x4) hx hb hml hown hts hK (by omega) (by omega) (by omega) (by omega) (w9 _ (by simp)) hdg h Hk
              | false =>
                rw [c9, cond_false] at q4
                rw [Bool.and_eq_true] at q4
                have e2 := Nat.beq_eq.mp q4.1
                subst e2
                have h : sub (sinv zm zc fm rg cts md wl N rec9 k d me 2 kc n ci pc lv st w) xs := h
                exact sinv_ok ⟨x1, x2, x3, x4, x5, x6, x7, x8, x9⟩ IH htab hd0 hme q4.2 (Or.inr ⟨rfl, rfl⟩) hdg h F' hb01 hb02 hwr hs0 hs1 Hk
        have hxi : ∀ {h9 : SX}, h9 = sxi fm rg md wl (Nat.beq k 0) me.2.2.2.1 ins lk pc lv st w (rec9 k d) → sub h9 xs → sW p l e R s m args below meth c Q dC dI cA A me.2.2.2.1 fm rg sX sfI wr scr n0 ρ0 M0 ad0 nc0 ns0 pc lv st w := by
          intro h9 e9 h
          subst e9
          refine sxi_sound x6 x3 hwr hx hb hown hts hK (fun hl ho => ?_) (fun hl => hs0 (Nat.beq_eq.mp hl)) hdg q2 q3 h Hk
          rw [hlw hl, ho]
          exact x5 _ _ _ hE9
        cases ins with
        | invokestatic idx => exact hcall rfl h (Or.inl ⟨idx, rfl⟩)
        | invokevirtual idx => exact hcall rfl h (Or.inr ⟨idx, rfl⟩)
        | _ => exact hxi rfl h
theorem sgo_ok (hX : sCtx zm fm rg EX l dC dI cA scrS cts N) (htab : sTab zm zc) : ∀ n : Nat, sPn zm fm rg EX l dC dI cA scrS md wl D0 (sgo zm zc fm rg cts md wl N D0 cuts n) := by
  intro n
  induction n with
  | zero =>
    intro k d pc lv st w xs hd0 h
    exact (sub_none h).elim
  | succ n IH => exact sstep_ok hX htab IH false
end SGO
end
section
/-! a contract is checked: from its entry and from each cut every end is as told, and the rank falls -/
abbrev SCu : Type := Nat × SL × List SV × SW × SE
def svlv (n : Nat) (g : SG) (K : SK) (lv : SL) : SL → Bool
  | [] => true
  | q :: r => match slk lv q.1 with
    | some v => cond (svv n g K q.2 v) (svlv n g K lv r) false
    | none => false
theorem svlv_ok {fm : List SF} {scr n nL : Nat} {g : SG} {ρ : Nat → Int} {ad : SAd} {K : SK} {lv : SL} {clv : ZL} {ls : Array Slot} (hK : sK ρ K) (hs : sls fm scr ρ ad lv clv) (hl : lv_has ls nL clv) : ∀ {lvA : SL}, svlv n g K lv lvA = true → ∃ clvA, sls fm scr (srh n g ρ) ad lvA clvA ∧ lv_has ls nL clvA := by
  intro lvA
  induction lvA with
  | nil => exact fun _ => ⟨[], trivial, hl.1, hl.2.1, fun q hq => by cases hq⟩
  | cons q r ih =>
    intro h
    unfold svlv at h
    cases hk : slk lv q.1 with
    | none => rw [hk] at h; cases h
    | some v =>
      rw [hk] at h
      obtain ⟨h1, h2⟩ := bcond h
      obtain ⟨clvA, h3, h4⟩ := ih h2
      obtain ⟨k, c, h5, h6⟩ := sls_get hs hk
      refine ⟨(q.1, c) :: clvA, ⟨rfl, svv_ok hK h1 h6, h3⟩, h4.1, h4.2.1, fun z hz => ?_⟩
      rcases List.mem_cons.mp hz with rfl | hz
      · exact lv_at hl k h5
      · exact h4.2.2 z hz
def srk (n : Nat) (g : SG) (K : SK) (rk : Option SE) (rkB : SE) : Bool := match rk with
  | none => true
  | some a => (match ssb n g rkB with
    | some e => sent3 K (saddc (ssub a e) (-1))
    | none => false)
def scut (rg : SRg) (nP : Nat) (rk : Option SE) (pc : Nat) (lv : SL) (st : List SV) : List SCu → SW → SX
  | [], _ => none
  | B :: r, w => cond (Nat.beq B.1 pc && Nat.beq B.2.2.1.length st.length) (sgp (sbdV nP lv B.2.1 (sbdL nP B.2.2.1 st [])) (fun g => smtm rg nP lv st B.2.2.2.1.1.1 g w (fun g w => cond (svlv nP g w.2.2.1 lv B.2.1 && (svL nP g w.2.2.1 B.2.2.1 st && (svW nP g w B.2.2.2.1 && (Nat.ble w.2.2.2.1 B.2.2.2.1.2.2.2.1 && (Nat.ble w.2.2.2.2 B.2.2.2.1.2.2.2.2 && srk nP g w.2.2.1 rk B.2.2.2.2))))) (some []) (scut rg nP rk pc lv st r w)))) (scut rg nP rk pc lv st r w)
def sexi (rg : SRg) (nP : Nat) (lv : SL) (st : List SV) : List (List SV × SW) → SW → SX
  | [], _ => none
  | E :: r, w => sgp (sbdL nP E.1 st []) (fun g => smtm rg nP lv st E.2.1.1 g w (fun g w => cond (svL nP g w.2.2.1 E.1 st && svW nP g w E.2) (some []) (sexi rg nP lv st r w)))
noncomputable def send (zc : List (List ZI)) (rg : SRg) (nP kc bc bs : Nat) (rt : Option FieldType) (exits : List (List SV × SW)) (cuts : List SCu) (rk : Option SE) (X : SS) : SX := cond (srp zc kc rt X.1) (cond (srtk rt X.2.2.2.2.2.1 X.2.2.1 && (Nat.ble X.2.2.2.2.2.2.1 bc && Nat.ble X.2.2.2.2.2.2.2 bs)) (sexi rg nP X.2.1 X.2.2.1 exits X.2.2.2) none) (scut rg nP rk X.1 X.2.1 X.2.2.1 cuts X.2.2.2)
def sis (x : SX) : Bool := match x with
  | some _ => true
  | none => false
theorem sis_ok {x : SX} (h : sis x = true) : ∃ xs, sub x xs := by
  cases x with
  | none => cases h
  | some ys => exact ⟨ys, ys, rfl, fun _ h => h⟩
noncomputable def sck1 (zm : List ZMe) (zc : List (List ZI)) (fm : List SF) (rg : SRg) (cts : List (List SC)) (C : SC) (cuts : List SCu) (fuel : Nat) (me : ZMe) (rk : Option SE) (pc : Nat) (lv : SL) (st : List SV) (w : SW) : Bool := match sstep zm zc fm rg cts C.2.2.2.2.1 C.2.2.2.2.2.1 C.1 C.2.2.2.2.2.2.2 (cuts.map (fun B => B.1)) true (sgo zm zc fm rg cts C.2.2.2.2.1 C.2.2.2.2.2.1 C.1 C.2.2.2.2.2.2.2 (cuts.map (fun B => B.1)) fuel) C.2.1 C.2.2.2.2.2.2.2 pc lv st w with
  | some ys => sall (fun Y => sis (send zc rg C.2.2.2.1.2.1 C.2.1 me.2.2.2.2.2.1 me.2.2.2.2.2.2 me.2.2.2.2.1 C.2.2.2.2.2.2.1 cuts rk Y)) ys
  | none => false
/-- the entry -/
noncomputable def sckE (zm : List ZMe) (zc : List (List ZI)) (fm : List SF) (rg : SRg) (cts : List (List SC)) (C : SC) (cuts : List SCu) (fuel : Nat) : Bool := match zget zm C.2.1 with
  | some me => !(Nat.beq C.2.1 0) && (sall (fun q => sbe C.2.2.2.1.2.1 q.2) C.2.2.2.2.2.1 && sck1 zm zc fm rg cts C cuts fuel me none 0 (sargs 0 C.2.2.1) [] (C.2.2.2.1.1, C.2.2.2.1.2.1, C.2.2.2.1.2.2.1, 0, 0))
  | none => false
/-- a cut -/
noncomputable def sckA (zm : List ZMe) (zc : List (List ZI)) (fm : List SF) (rg : SRg) (cts : List (List SC)) (C : SC) (cuts : List SCu) (fuel : Nat) (B : SCu) : Bool := match zget zm C.2.1 with
  | some me => Nat.ble C.2.2.2.1.2.1 B.2.2.2.1.2.1 && (sbe B.2.2.2.1.2.1 B.2.2.2.2 && (sent B.2.2.2.1.2.2.1 B.2.2.2.2 && sck1 zm zc fm rg cts C cuts fuel me (some B.2.2.2.2) B.1 B.2.1 B.2.2.1 B.2.2.2.1))
  | none => false
section SCK
variable {p : Program} {l : Launch} {e : Env} {R : Room} {s : State} {m : MethodId} {args : Array Value} {below : List Frame} {meth : Method} {c : Code} {Q : State → Prop} {dC : Nat → ClassId} {dI : Nat → Nat → Nat} {cA : Nat → ClassId} {A : Nat → Prop} {nL : Nat} {fm : List SF} {rg : SRg} {wr : SWr} {scr n0 : Nat} {ρ0 : Nat → Int} {M0 : SMem} {ad0 : SAd} {nc0 ns0 : Nat} {cc : ByteArray} {pc : Nat} {lv : SL} {st : List SV} {w : SW} {ret : SRt} {xs : List SS} {own : String}
variable {ρ : Nat → Int} {M : SMem} {ad : SAd} {ws : va_W} {H : Heap} {locs : List Loc} {ls : Array Slot} {clv : ZL} {cst : List Value} {nP : Nat} {ρP : Nat → Int}
theorem srel_note {g : SG} {lvA : SL} {stA : List SV} {wA : SW} {clvA : ZL} (hr : sRel fm rg sX sfI wr scr n0 ρ0 M0 ad0 dC dI cA A s.heap nL lv st w ρ M ad ws H locs ls clv cst) (hnP : nP ≤ n0) (hρ : ∀ t, t < nP → ρ0 t = ρP t) (hnA : nP ≤ wA.2.1) (h1 : sls fm scr (srh nP g ρ) ad lvA clvA) (h2 : lv_has ls nL clvA) (h3 : svs fm scr (srh nP g ρ) ad stA cst) (h4 : sK (srh nP g ρ) wA.2.2.1) (h5 : smo sfI (srh nP g ρ) M wA.1) : sRel fm rg sX sfI wr scr nP ρP M0 ad0 dC dI cA A s.heap nL lvA stA wA (srh nP g ρ) M ad ws H locs ls clvA cst := by
  obtain ⟨⟨ag, hn, hK⟩, ⟨r1, hI, hmo, hfr⟩, r2, r3, r4, r5, r6, r7⟩ := hr
  refine ⟨⟨fun t ht => ?_, hnA, h4⟩, ⟨r1, hI, h5, hfr⟩, r2, r3, r4, h2, h1, h3⟩
  unfold srh
  rw [if_pos ht, ag t (Nat.lt_of_lt_of_le ht hnP), hρ t ht]
theorem scut_ok (hST : sST fm rg) {rk : Option SE} (hnP : nP ≤ n0) (hρ : ∀ t, t < nP → ρ0 t = ρP t) (hrk : ∀ a, rk = some a → sbe n0 a = true) : ∀ {cuts : List SCu} {w : SW} {ρ : Nat → Int}, (∀ B ∈ cuts, nP ≤ B.2.2.2.1.2.1) → sRel fm rg sX sfI wr scr n0 ρ0 M0 ad0 dC dI cA A s.heap nL lv st w ρ M ad ws H locs ls clv cst → sub (scut rg nP rk pc lv st cuts w) xs → ∃ B ∈ cuts, B.1 = pc ∧ ∃ (ρB : Nat → Int) (clvB : ZL), sRel fm rg sX sfI wr scr nP ρP M0 ad0 dC dI cA A s.heap nL B.2.1 B.2.2.1 B.2.2.2.1 ρB M ad ws H locs ls clvB cst ∧ w.2.2.2.1 ≤ B.2.2.2.1.2.2.2.1 ∧ w.2.2.2.2 ≤ B.2.2.2.1.2.2.2.2 ∧ ∀ a, rk = some a → sev ρB B.2.2.2.2 < sev ρ0 a := by
  intro cuts
  induction cuts with
  | nil => intro w ρ _ _ h; exact (sub_none h).elim
  | cons B r ih =>
    intro w ρ hB hr h
    have ih2 := fun {w : SW} {ρ : Nat → Int} => ih (w := w) (ρ := ρ) (fun C hC => hB C (List.mem_cons_of_mem _ hC))
    have lift : ∀ {w1 : SW}, w1.2.2.2 = w.2.2.2 → (∃ B ∈ r, B.1 = pc ∧ ∃ (ρB : Nat → Int) (clvB : ZL), sRel fm rg sX sfI wr scr nP ρP M0 ad0 dC dI cA A s.heap nL B.2.1 B.2.2.1 B.2.2.2.1 ρB M ad ws H locs ls clvB cst ∧ w1.2.2.2.1 ≤ B.2.2.2.1.2.2.2.1 ∧ w1.2.2.2.2 ≤ B.2.2.2.1.2.2.2.2 ∧ ∀ a, rk = some a → sev ρB B.2.2.2.2 < sev ρ0 a) → ∃ B' ∈ B :: r, B'.1 = pc ∧ ∃ (ρB : Nat → Int) (clvB : ZL), sRel fm rg sX sfI wr scr nP ρP M0 ad0 dC dI cA A s.heap nL B'.2.1 B'.2.2.1 B'.2.2.2.1 ρB M ad ws H locs ls clvB cst ∧ w.2.2.2.1 ≤ B'.2.2.2.1.2.2.2.1 ∧ w.2.2.2.2 ≤ B'.2.2.2.1.2.2.2.2 ∧ ∀ a, rk = some a → sev ρB B'.2.2.2.2 < sev ρ0 a := by
      rintro w1 e1 ⟨B', h1, h2⟩
      rw [e1] at h2
      exact ⟨B', List.mem_cons_of_mem _ h1, h2⟩
    unfold scut at h
    cases hq : (Nat.beq B.1 pc && Nat.beq B.2.2.1.length st.length) with
    | false => rw [hq, cond_false] at h; exact lift rfl (ih2 hr h)
    | true =>
      rw [hq, cond_true, sgp_eq] at h
      rw [Bool.and_eq_true] at hq
      obtain ⟨ρ1, g, w1, hr1, h, hcnt⟩ := smtm_ok hST hr h
      cases hv : (svlv nP g w1.2.2.1 lv B.2.1 && (svL nP g w1.2.2.1 B.2.2.1 st && (svW nP g w1 B.2.2.2.1 && (Nat.ble w1.2.2.2.1 B.2.2.2.1.2.2.2.1 && (Nat.ble w1.2.2.2.2 B.2.2.2.1.2.2.2.2 && srk nP g w1.2.2.1 rk B.2.2.2.2))))) with
      | false => rw [hv, cond_false] at h; exact lift hcnt (ih2 hr1 h)
      | true =>
        simp only [Bool.and_eq_true] at hv
        obtain ⟨v1, v2, v3, v4, v5, v6⟩ := hv
        have hK1 := srel_sK hr1
        obtain ⟨p1, p2⟩ := svW_ok hK1 hr1.2.1.2.2.1 v3
        obtain ⟨clvB, q1, q2⟩ := svlv_ok hK1 hr1.2.2.2.2.2.2.1 hr1.2.2.2.2.2.1 v1
        have p3 := svL_ok hK1 v2 hr1.2.2.2.2.2.2.2
        refine ⟨B, List.mem_cons_self, Nat.beq_eq.mp hq.1, srh nP g ρ1, clvB, srel_note hr1 hnP hρ (hB B List.mem_cons_self) q1 q2 p3 p1 p2, by rw [← hcnt]; exact Nat.le_of_ble_eq_true v4, by rw [← hcnt]; exact Nat.le_of_ble_eq_true v5, fun a ha => ?_⟩
        subst ha
        unfold srk at v6
        simp only at v6
        cases hb : ssb nP g B.2.2.2.2 with
        | none => rw [hb] at v6; cases v6
        | some e =>
          rw [hb] at v6
          have h9 := sent3_ok hK1 v6
          rw [saddc_ev, ssub_ev, ssb_ok (ρ := ρ1) hb, sbe_ev (ρ := ρ0) (ρ' := ρ1) hr1.1.1 (hrk a rfl)] at h9
          omega
theorem sexi_ok (hST : sST fm rg) (hnP : nP ≤ n0) (hρ : ∀ t, t < nP → ρ0 t = ρP t) : ∀ {exits : List (List SV × SW)} {w : SW} {ρ : Nat → Int}, sRel fm rg sX sfI wr scr n0 ρ0 M0 ad0 dC dI cA A s.heap nL lv st w ρ M ad ws H locs ls clv cst → sub (sexi rg nP lv st exits w) xs → ∃ X ∈ exits, ∃ (ρX : Nat → Int), (∀ t, t < nP → ρX t = ρP t) ∧ sK ρX X.2.2.2.1 ∧ smo sfI ρX M X.2.1 ∧ svs fm scr ρX ad X.1 cst := by
  intro exits
  induction exits with
  | nil => intro w ρ _ h; exact (sub_none h).elim
  | cons X r ih =>
    intro w ρ hr h
    unfold sexi at h
    rw [sgp_eq] at h
    obtain ⟨ρ1, g, w1, hr1, h, hcnt⟩ := smtm_ok hST hr h
    cases hv : (svL nP g w1.2.2.1 X.1 st && svW nP g w1 X.2) with
    | false =>
      rw [hv, cond_false] at h
      obtain ⟨X', h1, h2⟩ := ih hr1 h
      exact ⟨X', List.mem_cons_of_mem _ h1, h2⟩
    | true =>
      rw [Bool.and_eq_true] at hv
      have hK1 := srel_sK hr1
      obtain ⟨p1, p2⟩ := svW_ok hK1 hr1.2.1.2.2.1 hv.2
      refine ⟨X, List.mem_cons_self, srh nP g ρ1, fun t ht => ?_, p1, p2, svL_ok hK1 hv.1 hr1.2.2.2.2.2.2.2⟩
      unfold srh
      rw [if_pos ht, hr1.1.1 t (Nat.lt_of_lt_of_le ht hnP), hρ t ht]
end SCK
theorem sbl_mono {n n' : Nat} (h : n ≤ n') : ∀ {l : List (Nat × Int)}, sbl n l = true → sbl n' l = true := by
  intro l
  induction l with
  | nil => intro _; rfl
  | cons q r ih =>
    intro h2
    simp only [sbl, Bool.and_eq_true] at h2 ⊢
    exact ⟨Nat.blt_eq.mpr (Nat.lt_of_lt_of_le (zblt h2.1) h), ih h2.2⟩
section SCF
variable {zm : List ZMe} {zc : List (List ZI)} {fm : List SF} {rg : SRg} {EX : SEx} {l : Launch} {dC : Nat → ClassId} {dI : Nat → Nat → Nat} {cA : Nat → ClassId} {scrS : Nat} {cts : List (List SC)}
set_option maxHeartbeats 1000000 in
theorem sck_ok {C : SC} {cuts : List SCu} {fuel : Nat} (hX : sCtx zm fm rg EX l dC dI cA scrS cts C.1) (htab : sTab zm zc) (hE : sckE zm zc fm rg cts C cuts fuel = true) (hA : ∀ B ∈ cuts, sckA zm zc fm rg cts C cuts fuel B = true) : sCok zm fm rg EX l dC dI cA scrS C := by
  intro me hme ρP M0 ad0 ws cas i1 i2 i3 i4 i5 i6 p e R s m args below meth c Q A ls F hP hD hl hend
  unfold sckE at hE
  rw [zget_eq, hme] at hE
  simp only [Bool.and_eq_true] at hE
  obtain ⟨hk0, hwlb, hE⟩ := hE
  have hk0 : C.2.1 ≠ 0 := fun q => by rw [q] at hk0; cases hk0
  have hgo := sgo_ok (md := C.2.2.2.2.1) (wl := C.2.2.2.2.2.1) (D0 := C.2.2.2.2.2.2.2) (cuts := cuts.map (fun B => B.1)) hX htab fuel
  have hst := sstep_ok (cuts := cuts.map (fun B => B.1)) hX htab hgo true
  have hwr : ∀ (n0 : Nat) (ρ0 : Nat → Int), C.2.2.2.1.2.1 ≤ n0 → (∀ t, t < C.2.2.2.1.2.1 → ρ0 t = ρP t) → sWR C.2.2.2.2.1 C.2.2.2.2.2.1 n0 ρ0 (C.2.2.2.2.1, C.2.2.2.2.2.1.map (fun q => (q.1, sev ρP q.2))) := by
    intro n0 ρ0 h1 h2
    refine ⟨rfl, fun q hq => ?_⟩
    obtain ⟨z, z1, rfl⟩ := List.mem_map.mp hq
    have hb := sall_ok hwlb z z1
    exact ⟨z.2, z1, sbl_mono h1 hb, (sbe_ev (fun t ht => (h2 t ht).symm) hb)⟩
  have hnB : ∀ B ∈ cuts, C.2.2.2.1.2.1 ≤ B.2.2.2.1.2.1 := by
    intro B hB
    have h9 := hA B hB
    unfold sckA at h9
    rw [zget_eq, hme] at h9
    simp only [Bool.and_eq_true] at h9
    exact Nat.le_of_ble_eq_true h9.1
  -- an end of a run
  have hfin : ∀ (n0 : Nat) (ρ0 : Nat → Int) (rk : Option SE) (K : Int), C.2.2.2.1.2.1 ≤ n0 → (∀ t, t < C.2.2.2.1.2.1 → ρ0 t = ρP t) → (∀ a, rk = some a → sbe n0 a = true ∧ sev ρ0 a ≤ K) →
      (∀ B ∈ cuts, ∀ (ρ : Nat → Int) (M : SMem) (ad : SAd) (ws : va_W) (H : Heap) (locs : List Loc) (ls : Array Slot) (clv : ZL) (cst : List Value), sRel fm rg sX sfI (C.2.2.2.2.1, C.2.2.2.2.2.1.map (fun q => (q.1, sev ρP q.2))) scrS C.2.2.2.1.2.1 ρP M0 ad0 dC dI cA A s.heap me.2.2.2.1 B.2.1 B.2.2.1 B.2.2.2.1 ρ M ad ws H locs ls clv cst → (∀ a, rk = some a → sev ρ B.2.2.2.2 < K) → W p l e R s m args below meth c H locs (0 + B.2.2.2.1.2.2.2.1) (0 + B.2.2.2.1.2.2.2.2) Q (F0 m B.1 ls cst)) →
      ∀ Y : SS, sis (send zc rg C.2.2.2.1.2.1 C.2.1 me.2.2.2.2.2.1 me.2.2.2.2.2.2 me.2.2.2.2.1 C.2.2.2.2.2.2.1 cuts rk Y) = true → sW p l e R s m args below meth c Q dC dI cA A me.2.2.2.1 fm rg sX sfI (C.2.2.2.2.1, C.2.2.2.2.2.1.map (fun q => (q.1, sev ρP q.2))) scrS n0 ρ0 M0 ad0 0 0 Y.1 Y.2.1 Y.2.2.1 Y.2.2.2 := by
    intro n0 ρ0 rk K h1 h2 h3 hrec Y hY ρ M ad ws H locs ls clv cst hr
    obtain ⟨xs, hs⟩ := sis_ok hY
    unfold send at hs
    cases hrp : srp zc C.2.1 me.2.2.2.2.1 Y.1 with
    | true =>
      rw [hrp, cond_true] at hs
      obtain ⟨g1, g2⟩ := sub_cond hs
      simp only [Bool.and_eq_true] at g1
      obtain ⟨X, hX9, ρX, x1, x2, x3, x4⟩ := sexi_ok hX.2.2.1 h1 h2 hr g2
      have hret := srp_ok htab hme hrp
      have hrv := srtk_ok (srel_sK hr) g1.1 hr.2.2.2.2.2.2.2
      simp only [Nat.zero_add]
      refine hend Y.1 ls cst ws H locs _ _ ?_ ⟨X, hX9, ρX, M, ad, x1, x2, ⟨hr.2.1.1, hr.2.1.2.1, x3, hr.2.1.2.2.2⟩, x4⟩ hr.2.2.1 hr.2.2.2.1 hr.2.2.2.2.1 (Nat.le_of_ble_eq_true g1.2.1) (Nat.le_of_ble_eq_true g1.2.2)
      unfold sret
      unfold srd at hret
      unfold srtv at hrv
      cases hrt : me.2.2.2.2.1 with
      | none =>
        rw [hrt] at hret hrv
        exact ⟨hret, hrv⟩
      | some ty =>
        rw [hrt] at hret hrv
        exact ⟨hret, hrv⟩
    | false =>
      rw [hrp, cond_false] at hs
      obtain ⟨B, hB, e1, ρB, clvB, b1, b2, b3, b4⟩ := scut_ok hX.2.2.1 h1 h2 (fun a ha => (h3 a ha).1) hnB hr hs
      have := hrec B hB ρB M ad ws H locs ls clvB cst b1 (fun a ha => Int.lt_of_lt_of_le (b4 a ha) (h3 a ha).2)
      rw [e1] at this
      exact W.widen (by omega) (by omega) this
  -- from the cuts, by the rank
  have hcut : ∀ (n : Nat), ∀ B ∈ cuts, ∀ (ρ : Nat → Int) (M : SMem) (ad : SAd) (ws : va_W) (H : Heap) (locs : List Loc) (ls : Array Slot) (clv : ZL) (cst : List Value), sRel fm rg sX sfI (C.2.2.2.2.1, C.2.2.2.2.2.1.map (fun q => (q.1, sev ρP q.2))) scrS C.2.2.2.1.2.1 ρP M0 ad0 dC dI cA A s.heap me.2.2.2.1 B.2.1 B.2.2.1 B.2.2.2.1 ρ M ad ws H locs ls clv cst → sev ρ B.2.2.2.2 < (n : Int) → W p l e R s m args below meth c H locs (0 + B.2.2.2.1.2.2.2.1) (0 + B.2.2.2.1.2.2.2.2) Q (F0 m B.1 ls cst) := by
    intro n
    induction n with
    | zero =>
      intro B hB ρ M ad ws H locs ls clv cst hr hlt
      have h9 := hA B hB
      unfold sckA at h9
      rw [zget_eq, hme] at h9
      simp only [Bool.and_eq_true] at h9
      have := sent_ok hr.1.2.2 h9.2.2.1
      omega
    | succ n ih =>
      intro B hB ρ M ad ws H locs ls clv cst hr hlt
      have h9 := hA B hB
      unfold sckA at h9
      rw [zget_eq, hme] at h9
      simp only [Bool.and_eq_true] at h9
      obtain ⟨a1, a2, a3, a4⟩ := h9
      unfold sck1 at a4
      cases hys : sstep zm zc fm rg cts C.2.2.2.2.1 C.2.2.2.2.2.1 C.1 C.2.2.2.2.2.2.2 (cuts.map (fun B => B.1)) true (sgo zm zc fm rg cts C.2.2.2.2.1 C.2.2.2.2.2.1 C.1 C.2.2.2.2.2.2.2 (cuts.map (fun B => B.1)) fuel) C.2.1 C.2.2.2.2.2.2.2 B.1 B.2.1 B.2.2.1 B.2.2.2.1 with
      | none => rw [hys] at a4; cases a4
      | some ys =>
        rw [hys] at a4
        have hag : ∀ t, t < C.2.2.2.1.2.1 → ρ t = ρP t := hr.1.1
        have := hst C.2.1 C.2.2.2.2.2.2.2 B.1 B.2.1 B.2.2.1 B.2.2.2.1 ys (Nat.le_refl _) ⟨ys, hys, fun _ h => h⟩ me hme p e R s m args below meth c Q A (C.2.2.2.2.1, C.2.2.2.2.2.1.map (fun q => (q.1, sev ρP q.2))) scrS B.2.2.2.1.2.1 ρ M0 ad0 0 0 F (by rw [Nat.zero_add]; exact F.2.2.2.2.2.2.2.2.1.1) (by rw [Nat.zero_add]; exact F.2.2.2.2.2.2.2.2.1.2) (hwr _ _ (Nat.le_of_ble_eq_true a1) hag) (fun q => absurd q hk0) (fun _ => rfl) (fun Y hY => hfin B.2.2.2.1.2.1 ρ (some B.2.2.2.2) n (Nat.le_of_ble_eq_true a1) hag (fun a ha => by cases ha; exact ⟨a2, by omega⟩) (fun B' hB' ρ' M' ad' ws' H' locs' ls' clv' cst' hr' hlt' => ih B' hB' ρ' M' ad' ws' H' locs' ls' clv' cst' hr' (hlt' _ rfl)) Y (sall_ok a4 Y hY))
        exact this ρ M ad ws H locs ls clv cst ⟨⟨fun _ _ => rfl, Nat.le_refl _, hr.1.2.2⟩, hr.2⟩
  -- from the entry
  unfold sck1 at hE
  cases hys : sstep zm zc fm rg cts C.2.2.2.2.1 C.2.2.2.2.2.1 C.1 C.2.2.2.2.2.2.2 (cuts.map (fun B => B.1)) true (sgo zm zc fm rg cts C.2.2.2.2.1 C.2.2.2.2.2.1 C.1 C.2.2.2.2.2.2.2 (cuts.map (fun B => B.1)) fuel) C.2.1 C.2.2.2.2.2.2.2 0 (sargs 0 C.2.2.1) [] (C.2.2.2.1.1, C.2.2.2.1.2.1, C.2.2.2.1.2.2.1, 0, 0) with
  | none => rw [hys] at hE; cases hE
  | some ys =>
    rw [hys] at hE
    have := hst C.2.1 C.2.2.2.2.2.2.2 0 (sargs 0 C.2.2.1) [] (C.2.2.2.1.1, C.2.2.2.1.2.1, C.2.2.2.1.2.2.1, 0, 0) ys (Nat.le_refl _) ⟨ys, hys, fun _ h => h⟩ me hme p e R s m args below meth c Q A (C.2.2.2.2.1, C.2.2.2.2.2.1.map (fun q => (q.1, sev ρP q.2))) scrS C.2.2.2.1.2.1 ρP M0 ad0 0 0 F (by rw [Nat.zero_add]; exact F.2.2.2.2.2.2.2.2.1.1) (by rw [Nat.zero_add]; exact F.2.2.2.2.2.2.2.2.1.2) (hwr _ _ (Nat.le_refl _) (fun _ _ => rfl)) (fun q => absurd q hk0) (fun _ => rfl) (fun Y hY => hfin C.2.2.2.1.2.1 ρP none 0 (Nat.le_refl _) (fun _ _ => rfl) (fun a ha => by cases ha) (fun B hB ρ' M' ad' ws' H' locs' ls' clv' cst' hr' _ => hcut ((sev ρ' B.2.2.2.2).toNat + 1) B hB ρ' M' ad' ws' H' locs' ls' clv' cst' hr' (by omega)) Y (sall_ok hE Y hY))
    have hW := this ρP M0 ad0 ws s.heap [] ls (lv_args 0 cas) [] ⟨⟨fun _ _ => rfl, Nat.le_refl _, i1⟩, ⟨i2, ⟨i3, i4⟩, i5, ⟨fun _ _ _ _ => rfl, fun _ _ _ => rfl, fun _ _ _ _ _ => rfl⟩⟩, hP, hD, va_S.rf, hl, sls_args 0 i6, trivial⟩
    exact hW
end SCF
noncomputable def sckI (zm : List ZMe) (zc : List (List ZI)) (fm : List SF) (rg : SRg) (cts : List (List SC)) (C : SC) (cuts : List SCu) (fuel i : Nat) : Bool := match zget cuts i with
  | some B => sckA zm zc fm rg cts C cuts fuel B
  | none => true
theorem sckI_ok {zm : List ZMe} {zc : List (List ZI)} {fm : List SF} {rg : SRg} {cts : List (List SC)} {C : SC} {cuts : List SCu} {fuel i : Nat} {B : SCu} (h : sckI zm zc fm rg cts C cuts fuel i = true) (hi : cuts[i]? = some B) : sckA zm zc fm rg cts C cuts fuel B = true := by
  unfold sckI at h
  rw [zget_eq, hi] at h
  exact h
end
section
/-! the signs of the words: String.charAt over a String that is a constant -/
def meP : ZMe := (RJ3, yJ3_checkIndex_8e157, cJ3_checkIndex_8e157, 3, some .int, 0, 0)
def meC : ZMe := (RJ0, yJ0_checkIndex_df160, cJ0_checkIndex_df160, 2, none, 0, 0)
def meL : ZMe := (RJ1, yJ1_charAt_3b067, cJ1_charAt_3b067, 2, some .char, 0, 0)
def meI : ZMe := (RJ0, yJ0_isLatin1_aae02, cJ0_isLatin1_aae02, 1, some .boolean, 0, 0)
def meA : ZMe := (RJ0, yJ0_charAt_5068e, cJ0_charAt_5068e, 2, some .char, 0, 0)
theorem dP0 : decode cJ3_checkIndex_8e157 0 = .ok (.iload_n 0, 1) := by decide +kernel
theorem dP1 : decode cJ3_checkIndex_8e157 1 = .ok (.ifCond .lt 8, 3) := by decide +kernel
theorem dP4 : decode cJ3_checkIndex_8e157 4 = .ok (.iload_n 0, 1) := by decide +kernel
theorem dP5 : decode cJ3_checkIndex_8e157 5 = .ok (.iload_n 1, 1) := by decide +kernel
theorem dP6 : decode cJ3_checkIndex_8e157 6 = .ok (.if_icmp .lt 10, 3) := by decide +kernel
theorem dP16 : decode cJ3_checkIndex_8e157 16 = .ok (.iload_n 0, 1) := by decide +kernel
theorem dP17 : decode cJ3_checkIndex_8e157 17 = .ok (.ireturn, 1) := by decide +kernel
theorem dC0 : decode cJ0_checkIndex_df160 0 = .ok (.iload_n 0, 1) := by decide +kernel
theorem dC1 : decode cJ0_checkIndex_df160 1 = .ok (.iload_n 1, 1) := by decide +kernel
theorem dC2 : decode cJ0_checkIndex_df160 2 = .ok (.getstatic 1053, 3) := by decide +kernel
theorem dC5 : decode cJ0_checkIndex_df160 5 = .ok (.invokestatic 1059, 3) := by decide +kernel
theorem dC8 : decode cJ0_checkIndex_df160 8 = .ok (.pop, 1) := by decide +kernel
theorem dC9 : decode cJ0_checkIndex_df160 9 = .ok (.return_, 1) := by decide +kernel
theorem dI0 : decode cJ0_isLatin1_aae02 0 = .ok (.getstatic 38, 3) := by decide +kernel
theorem dI3 : decode cJ0_isLatin1_aae02 3 = .ok (.ifCond .eq 14, 3) := by decide +kernel
theorem dI6 : decode cJ0_isLatin1_aae02 6 = .ok (.aload_n 0, 1) := by decide +kernel
theorem dI7 : decode cJ0_isLatin1_aae02 7 = .ok (.getfield 15, 3) := by decide +kernel
theorem dI10 : decode cJ0_isLatin1_aae02 10 = .ok (.ifCond .ne 7, 3) := by decide +kernel
theorem dI13 : decode cJ0_isLatin1_aae02 13 = .ok (.iconst 1, 1) := by decide +kernel
theorem dI14 : decode cJ0_isLatin1_aae02 14 = .ok (.goto 4, 3) := by decide +kernel
theorem dI18 : decode cJ0_isLatin1_aae02 18 = .ok (.ireturn, 1) := by decide +kernel
theorem dS0 : decode cJ1_charAt_3b067 0 = .ok (.iload_n 1, 1) := by decide +kernel
theorem dS1 : decode cJ1_charAt_3b067 1 = .ok (.aload_n 0, 1) := by decide +kernel
theorem dS2 : decode cJ1_charAt_3b067 2 = .ok (.arraylength, 1) := by decide +kernel
theorem dS3 : decode cJ1_charAt_3b067 3 = .ok (.invokestatic 9, 3) := by decide +kernel
theorem dS6 : decode cJ1_charAt_3b067 6 = .ok (.aload_n 0, 1) := by decide +kernel
theorem dS7 : decode cJ1_charAt_3b067 7 = .ok (.iload_n 1, 1) := by decide +kernel
theorem dS8 : decode cJ1_charAt_3b067 8 = .ok (.baload, 1) := by decide +kernel
theorem dS9 : decode cJ1_charAt_3b067 9 = .ok (.sipush 255, 3) := by decide +kernel
theorem dS12 : decode cJ1_charAt_3b067 12 = .ok (.iand, 1) := by decide +kernel
theorem dS13 : decode cJ1_charAt_3b067 13 = .ok (.i2c, 1) := by decide +kernel
theorem dS14 : decode cJ1_charAt_3b067 14 = .ok (.ireturn, 1) := by decide +kernel
theorem dA0 : decode cJ0_charAt_5068e 0 = .ok (.aload_n 0, 1) := by decide +kernel
theorem dA1 : decode cJ0_charAt_5068e 1 = .ok (.invokevirtual 492, 3) := by decide +kernel
theorem dA4 : decode cJ0_charAt_5068e 4 = .ok (.ifCond .eq 12, 3) := by decide +kernel
theorem dA7 : decode cJ0_charAt_5068e 7 = .ok (.aload_n 0, 1) := by decide +kernel
theorem dA8 : decode cJ0_charAt_5068e 8 = .ok (.getfield 9, 3) := by decide +kernel
theorem dA11 : decode cJ0_charAt_5068e 11 = .ok (.iload_n 1, 1) := by decide +kernel
theorem dA12 : decode cJ0_charAt_5068e 12 = .ok (.invokestatic 495, 3) := by decide +kernel
theorem dA15 : decode cJ0_charAt_5068e 15 = .ok (.ireturn, 1) := by decide +kernel
theorem jwP : ∀ w ∈ zcw RJ0 1059 0 yJ3_checkIndex_8e157 cJ3_checkIndex_8e157 3 (some .int), w ∈ zT := zchk_ok (is := [926, 927, 135, 928]) (by decide +kernel)
theorem jwC : ∀ w ∈ zcw RJ1 9 0 yJ0_checkIndex_df160 cJ0_checkIndex_df160 2 none, w ∈ zT := zchk_ok (is := [921, 922, 133, 923]) (by decide +kernel)
theorem jwL : ∀ w ∈ zcw RJ0 495 0 yJ1_charAt_3b067 cJ1_charAt_3b067 2 (some .char), w ∈ zT := zchk_ok (is := [918, 919, 134, 920]) (by decide +kernel)
theorem jwI : ∀ w ∈ zcw RJ0 492 2 yJ0_isLatin1_aae02 cJ0_isLatin1_aae02 1 (some .boolean), w ∈ zT := zchk_ok (is := [912, 913, 133, 915, 914]) (by decide +kernel)
theorem jwA : ∀ w ∈ [Cond.instanceMethod yJ0_charAt_5068e, .initialized RJ0, .code yJ0_charAt_5068e cJ0_charAt_5068e 2 (some .char), .selects RJ0 yJ0_charAt_5068e yJ0_charAt_5068e], w ∈ zT := zchk_ok (is := [909, 133, 911, 910]) (by decide +kernel)
theorem jwF : ∀ w ∈ [Cond.fieldLink RJ0 38 RJ0 "COMPACT_STRINGS" "Z", .fieldLink RJ0 1053 RJ3 "SIOOBE_FORMATTER" "Ljava/util/function/BiFunction;", .fieldLink RJ0 15 RJ0 "coder" "B", .fieldLink RJ0 9 RJ0 "value" "[B"], w ∈ zT := zchk_ok (is := [916, 924, 1825, 1826]) (by decide +kernel)
section SSR
variable {EX : SEx} {p : Program} {l : Launch} {e : Env} {R : Room} {s : State} {m : MethodId} {args : Array Value} {below : List Frame} {meth : Method} {c : Code} {Q : State → Prop} {dC : Nat → ClassId} {dI : Nat → Nat → Nat} {cA : Nat → ClassId} {A : Nat → Prop} {pc : Nat} {nc ns : Nat}
theorem scallX (hEX : sEXok EX) {d' idx kd n : Nat} {ins : Instr} {me me2 : ZMe} {ws : va_W} {H : Heap} {locs : List Loc} {ls : Array Slot} {clv : ZL} {cst cas crest : List Value} {PO : List Value → va_W → Prop}
    (F : sF (d' + 1) me EX p R s m args c dC dI cA A) (hw : ∀ w ∈ zcw me.1 idx kd me2.2.1 me2.2.2.1 me2.2.2.2.1 me2.2.2.2.2.1, w ∈ zT) (hkd : kd = 0 ∨ kd = 2) (hd : me2.2.1.cls ≠ "java/lang/invoke/MethodHandle" ∧ me2.2.1.cls ≠ "java/lang/invoke/VarHandle" ∧ (parseMethodDescriptor me2.2.1.desc).map (fun d => d.parameters.length) = some n) (hm : me2.2.2.2.1 ≤ 21) (hpl : Jvm.plainName me2.2.1.cls = true) (hoy : me2.1 = me2.2.1.cls) (hRun : sRun d' me2 EX l dC dI cA ws cas PO)
    (hP : va_P (dC, dI) vwCl ws H) (hD : va_D A ws) (hS : va_S A s.heap H locs) (hl : lv_has ls me.2.2.2.1 clv)
    (hst : cst = cas.reverse ++ crest) (h8 : (crest.map fun v => v.category).sum ≤ 8) (hlen : (lg_sl cas).length ≤ me2.2.2.2.1) (hn : cas.length = if kd ≤ 1 then n else n + 1)
    (hrc : 2 ≤ kd → ∃ (b : Nat) (as2 : List Value), cas = .ref b :: as2 ∧ (kd = 2 → ∃ cell : Cell, H[b]? = some cell ∧ cell.vm.isStatics = false ∧ s.vm.findClass me2.2.1.cls = some cell.cls))
    (hff : nc + me2.2.2.2.2.2.1 ≤ R.cells ∧ ns + me2.2.2.2.2.2.2 ≤ R.slots)
    (hins : (kd = 0 ∨ kd = 1) ∧ ins = .invokestatic idx ∨ kd = 2 ∧ ins = .invokevirtual idx) (hdg : decode me.2.2.1 pc = .ok (ins, 3))
    (kk : ∀ (r : List Value) (ws' : va_W) (H1 : Heap) (locs1 : List Loc), PO r ws' → va_P (dC, dI) vwCl ws' H1 → va_D A ws' → va_S A s.heap H1 locs1 → W p l e R s m args below meth c H1 locs1 (nc + me2.2.2.2.2.2.1) (ns + me2.2.2.2.2.2.2) Q (F0 m (pc + 3) ls (r ++ crest))) :
    W p l e R s m args below meth c H locs nc ns Q (F0 m pc ls cst) := by
  obtain ⟨hx, hb, hml, hown, hts, hK, hA, hRd, hRb, hE9⟩ := F
  obtain ⟨own2, y2, cc2, mL2, rt2, bc2, bs2⟩ := me2
  have hfree := zfree hD hS hA
  have hk4 : kd ≤ 2 := by rcases hkd with h | h <;> omega
  have hnest : kd = 1 ∨ kd = 5 → Cond.methodLinkNest me.1 idx y2 "NamesUnder" ∈ zNl := fun q => by
    rcases hkd with h | h <;> rcases q with q | q <;> omega
  have hE2 := sEX_now hEX hE9 hS
  cases rt2 with
  | none =>
    have hM := smetv (l := l) (sz := H.size) hpl hoy hlen hRun
    have hR9 := srun (e := e) (below := below) (meth := meth) (locs := locs) (nc := nc) (ns := ns) (own := me.1) hEX hx hb hml hown hts hK hP hD hl.1 hM hE2 hfree hw hnest hd hm hk4 hRd hff hst h8 hn hrc hins hdg
    refine va_callv hR9 hS (fun q _ h => hfree q h) hfree (fun u t H1 locs1 ht hvm hw hB hz1 hk1 hS1 => ?_)
    obtain ⟨hP1, hK1, hD1⟩ := hB
    rw [ht] at hP1
    exact kk [] u H1 locs1 hw hP1 (hD1.weaken (fun _ q _ z => hfree q.1 z)) hS1
  | some ty =>
    have hM := smeti (l := l) (sz := H.size) hpl hoy hlen hRun
    have hR9 := srun (e := e) (below := below) (meth := meth) (locs := locs) (nc := nc) (ns := ns) (own := me.1) hEX hx hb hml hown hts hK hP hD hl.1 hM hE2 hfree hw hnest hd hm hk4 hRd hff hst h8 hn hrc hins hdg
    refine va_calli hR9 hS (fun q _ h => hfree q h) hfree (fun x u t H1 locs1 ht hvm hw hB hz1 hk1 hS1 => ?_)
    obtain ⟨hP1, hK1, hD1⟩ := hB
    rw [ht] at hP1
    exact kk [.int x] u H1 locs1 hw hP1 (hD1.weaken (fun _ q _ z => hfree q.1 z)) hS1
theorem jr_P {ws : va_W} {i n : Int32} {v : Value} (hv : v.category = 1) (h0 : 0 ≤ i.toInt) (h1 : i.toInt < n.toInt) : sRun 0 meP EX l dC dI cA ws [.int i, .int n, v] (fun r ws' => r = [.int i] ∧ ws' = ws) := by
  intro p e R s m args below meth c Q A ls F hP hD hl hend
  obtain ⟨hx, hb, hml, hown, hts, hK, hA, hRd, hRb, hE9⟩ := F
  have hb : c.code = cJ3_checkIndex_8e157 := hb
  refine lv_iload_n hx hb dP0 rfl (lv_at hl 0 rfl) ?_
  refine zw_if hx hb dP1 (tgt := 9) rfl (fun q => ?_) (fun _ => ?_)
  · have := szro.mp q
    have e0 : (0 : Int32).toInt = 0 := rfl
    simp only [sCmp] at this
    omega
  refine lv_iload_n hx hb dP4 rfl (lv_at hl 0 rfl) ?_
  refine lv_iload_n hx hb dP5 rfl (lv_at hl 1 rfl) ?_
  refine zw_icmp hx hb dP6 (tgt := 16) rfl (fun _ => ?_) (fun q => ?_)
  · refine lv_iload_n hx hb dP16 rfl (lv_at hl 0 rfl) ?_
    exact hend 17 ls [.int i] ws s.heap [] 0 0 ⟨dP17, i, rfl, rfl⟩ ⟨rfl, rfl⟩ hP hD va_S.rf (Nat.le_refl _) (Nat.le_refl _)
  · have h9 : zro .lt i.toInt n.toInt = true := szro.mpr (by simp only [sCmp]; omega)
    rw [h9] at q
    cases q
end SSR
end
section
/-! String.charAt, from what is known beside the world -/
def sJ (EX : SEx) (aK aV : Nat) : Prop := ∀ A s H, EX A s H → (va_O RJ0 aK A s H ∧ va_OF RJ0 "coder" "B" (.int 0) aK A s H ∧ va_OF RJ0 "value" "[B" (.ref aV) aK A s H ∧ ∃ g : Nat → Int32, va_T .byte aV 120 (fun j => .int (g j)) A s H) ∧ va_Z RJ0 "COMPACT_STRINGS" "Z" (.int 1) A s H ∧ va_Zq RJ3 "SIOOBE_FORMATTER" "Ljava/util/function/BiFunction;" A s H
section SCH
variable {EX : SEx} {l : Launch} {dC : Nat → ClassId} {dI : Nat → Nat → Nat} {cA : Nat → ClassId} {aK aV : Nat}
theorem jr_C (hEX : sEXok EX) (hJ : sJ EX aK aV) {ws : va_W} {i n : Int32} (h0 : 0 ≤ i.toInt) (h1 : i.toInt < n.toInt) : sRun 1 meC EX l dC dI cA ws [.int i, .int n] (fun r ws' => r = [] ∧ ws' = ws) := by
  intro p e R s m args below meth c Q A ls F hP hD hl hend
  have F' := F
  obtain ⟨hx, hb, hml, hown, hts, hK, hA, hRd, hRb, hE9⟩ := F
  have hb : c.code = cJ0_checkIndex_df160 := hb
  have hown : s.vm.findClass RJ0 = some m.cls := hown
  refine lv_iload_n hx hb dC0 rfl (lv_at hl 0 rfl) ?_
  refine lv_iload_n hx hb dC1 rfl (lv_at hl 1 rfl) ?_
  have hcall : ∀ v : Value, v.category = 1 → W p l e R s m args below meth c s.heap [] 0 0 Q (F0 m 5 ls [v, .int n, .int i]) := by
    intro v hv
    refine scallX (d' := 0) (me2 := meP) (cas := [.int i, .int n, v]) (crest := []) (clv := lv_args 0 [.int i, .int n]) hEX F' jwP (Or.inl rfl) (n := 3) (by decide +kernel) (by decide) (by decide) rfl (jr_P (ws := ws) hv h0 h1) hP hD va_S.rf hl rfl (by decide) ?_ rfl (fun q => absurd q (by decide)) ⟨Nat.zero_le _, Nat.zero_le _⟩ (Or.inl ⟨Or.inl rfl, rfl⟩) dC5 (fun r ws' H1 locs1 hr q1 q2 q3 => ?_)
    · rw [zslots]
      simp only [List.map_cons, List.map_nil, hv]
      exact Nat.le_of_ble_eq_true rfl
    · obtain ⟨rfl, rfl⟩ := hr
      refine lv_pop hx hb dC8 rfl ?_
      exact hend 9 ls [] ws' H1 locs1 _ _ ⟨dC9, rfl⟩ ⟨rfl, rfl⟩ q1 q2 q3 (Nat.le_refl _) (Nat.le_refl _)
  rcases (hJ A s s.heap hE9).2.2 with hz | ⟨t, hz⟩
  · exact va_gets hx hb hz va_S.rf hown (hts _ (jwF _ (by simp))) (fun _ z => z) dC2 (hcall .null rfl)
  · exact va_gets hx hb hz va_S.rf hown (hts _ (jwF _ (by simp))) (fun _ z => z) dC2 (hcall (.ref t) rfl)
theorem jr_I (hJ : sJ EX aK aV) {ws : va_W} : sRun 0 meI EX l dC dI cA ws [.ref aK] (fun r ws' => r = [.int 1] ∧ ws' = ws) := by
  intro p e R s m args below meth c Q A ls F hP hD hl hend
  obtain ⟨hx, hb, hml, hown, hts, hK, hA, hRd, hRb, hE9⟩ := F
  have hb : c.code = cJ0_isLatin1_aae02 := hb
  have hown : s.vm.findClass RJ0 = some m.cls := hown
  obtain ⟨⟨j1, j2, j3, g, j4⟩, j5, j6⟩ := hJ A s s.heap hE9
  refine va_gets hx hb j5 va_S.rf hown (hts _ (jwF _ (by simp))) (fun _ z => z) dI0 ?_
  refine zw_if hx hb dI3 (tgt := 17) rfl (fun q => by cases q) (fun _ => ?_)
  refine lv_aload_n hx hb dI6 rfl (lv_at hl 0 rfl) ?_
  refine va_getX (N := 1) (v := fun _ => .int 0) (ad := fun _ => aK) (i := 0) hx hb (fun _ _ => j2) (by decide) va_S.rf hown (hts _ (jwF _ (by simp))) (fun _ z => z) dI7 ?_
  refine zw_if hx hb dI10 (tgt := 17) rfl (fun q => by cases q) (fun _ => ?_)
  refine lv_iconst (v := 1) hx hb dI13 (by decide) ?_
  refine lv_goto hx hb dI14 (tgt := 18) rfl ?_
  exact hend 18 ls [.int 1] ws s.heap [] 0 0 ⟨dI18, 1, rfl, rfl⟩ ⟨rfl, rfl⟩ hP hD va_S.rf (Nat.le_refl _) (Nat.le_refl _)
theorem snarr {x : Int32} (h0 : 0 ≤ x.toInt) (h1 : x.toInt ≤ 65535) : narrow .char (.int x) = .int x := congrArg Value.int (snarc h0 h1)
theorem jr_L (hEX : sEXok EX) (hJ : sJ EX aK aV) {ws : va_W} {i : Int32} (h0 : 0 ≤ i.toInt) (h1 : i.toInt < 120) : sRun 2 meL EX l dC dI cA ws [.ref aV, .int i] (fun r ws' => (∃ x : Int32, r = [.int x] ∧ 0 ≤ x.toInt ∧ x.toInt ≤ 65535) ∧ ws' = ws) := by
  intro p e R s m args below meth c Q A ls F hP hD hl hend
  have F' := F
  obtain ⟨hx, hb, hml, hown, hts, hK, hA, hRd, hRb, hE9⟩ := F
  have hb : c.code = cJ1_charAt_3b067 := hb
  have hown : s.vm.findClass RJ1 = some m.cls := hown
  obtain ⟨⟨j1, j2, j3, g, j4⟩, j5, j6⟩ := hJ A s s.heap hE9
  refine lv_iload_n hx hb dS0 rfl (lv_at hl 1 rfl) ?_
  refine lv_aload_n hx hb dS1 rfl (lv_at hl 0 rfl) ?_
  refine va_tlen hx hb j4 va_S.rf rfl dS2 ?_
  have e120 : (Int32.ofNat 120).toInt = 120 := by decide
  refine scallX (d' := 1) (me2 := meC) (cas := [.int i, .int (Int32.ofNat 120)]) (crest := []) (clv := lv_args 0 [.ref aV, .int i]) hEX F' jwC (Or.inl rfl) (n := 2) (by decide +kernel) (by decide) (by decide) rfl (jr_C (ws := ws) hEX hJ h0 (by rw [e120]; exact h1)) hP hD va_S.rf hl rfl (by decide) (Nat.le_of_ble_eq_true rfl) rfl (fun q => absurd q (by decide)) ⟨Nat.zero_le _, Nat.zero_le _⟩ (Or.inl ⟨Or.inl rfl, rfl⟩) dS3 (fun r ws' H1 locs1 hr q1 q2 q3 => ?_)
  obtain ⟨rfl, rfl⟩ := hr
  refine lv_aload_n hx hb dS6 rfl (lv_at hl 0 rfl) ?_
  refine lv_iload_n hx hb dS7 rfl (lv_at hl 1 rfl) ?_
  refine va_tb hx hb j4 q3 (vp_in_iff.mpr ⟨h0, by omega⟩) rfl dS8 ?_
  refine lv_sipush hx hb dS9 rfl ?_
  refine lv_iand hx hb dS12 ?_
  refine lv_i2c hx hb dS13 rfl ?_
  have h2 := s2c (g i.toNatClampNeg &&& (Int16.ofInt 255).toInt32)
  exact hend 14 ls [.int _] ws' H1 locs1 _ _ ⟨dS14, _, rfl, snarr h2.1 h2.2.1⟩ ⟨⟨_, rfl, h2.1, h2.2.1⟩, rfl⟩ q1 q2 q3 (Nat.le_refl _) (Nat.le_refl _)
theorem jr_A (hEX : sEXok EX) (hJ : sJ EX aK aV) {ws : va_W} {i : Int32} (h0 : 0 ≤ i.toInt) (h1 : i.toInt < 120) : sRun 3 meA EX l dC dI cA ws [.ref aK, .int i] (fun r ws' => (∃ x : Int32, r = [.int x] ∧ 0 ≤ x.toInt ∧ x.toInt ≤ 65535) ∧ ws' = ws) := by
  intro p e R s m args below meth c Q A ls F hP hD hl hend
  have F' := F
  obtain ⟨hx, hb, hml, hown, hts, hK, hA, hRd, hRb, hE9⟩ := F
  have hb : c.code = cJ0_charAt_5068e := hb
  have hown : s.vm.findClass RJ0 = some m.cls := hown
  obtain ⟨⟨j1, j2, j3, g, j4⟩, j5, j6⟩ := hJ A s s.heap hE9
  refine lv_aload_n hx hb dA0 rfl (lv_at hl 0 rfl) ?_
  refine scallX (d' := 2) (me2 := meI) (cas := [.ref aK]) (crest := []) (clv := lv_args 0 [.ref aK, .int i]) hEX F' jwI (Or.inr rfl) (n := 0) (by decide +kernel) (by decide) (by decide) rfl (sRun_mono (Nat.zero_le 2) (jr_I (ws := ws) hJ)) hP hD va_S.rf hl rfl (by decide) (Nat.le_of_ble_eq_true rfl) rfl (fun _ => ⟨aK, [], rfl, fun _ => ?_⟩) ⟨Nat.zero_le _, Nat.zero_le _⟩ (Or.inr ⟨rfl, rfl⟩) dA1 (fun r ws' H1 locs1 hr q1 q2 q3 => ?_)
  · obtain ⟨cell, k1, k2, k3, -⟩ := j1
    exact ⟨cell, k1, k2, k3⟩
  obtain ⟨rfl, rfl⟩ := hr
  refine zw_if hx hb dA4 (tgt := 16) rfl (fun q => by cases q) (fun _ => ?_)
  refine lv_aload_n hx hb dA7 rfl (lv_at hl 0 rfl) ?_
  refine va_getX (N := 1) (v := fun _ => .ref aV) (ad := fun _ => aK) (i := 0) hx hb (fun _ _ => j3) (by decide) q3 hown (hts _ (jwF _ (by simp))) (fun _ z => z) dA8 ?_
  refine lv_iload_n hx hb dA11 rfl (lv_at hl 1 rfl) ?_
  refine scallX (d' := 2) (me2 := meL) (cas := [.ref aV, .int i]) (crest := []) (clv := lv_args 0 [.ref aK, .int i]) hEX F' jwL (Or.inl rfl) (n := 2) (by decide +kernel) (by decide) (by decide) rfl (jr_L (ws := ws') hEX hJ h0 h1) q1 q2 q3 hl rfl (by decide) (Nat.le_of_ble_eq_true rfl) rfl (fun q => absurd q (by decide)) ⟨Nat.zero_le _, Nat.zero_le _⟩ (Or.inl ⟨Or.inl rfl, rfl⟩) dA12 (fun r2 ws2 H2 locs2 hr2 p1 p2 p3 => ?_)
  obtain ⟨⟨x, rfl, x0, x1⟩, rfl⟩ := hr2
  exact hend 15 ls [.int x] ws2 H2 locs2 _ _ ⟨dA15, x, rfl, snarr x0 x1⟩ ⟨⟨x, rfl, x0, x1⟩, rfl⟩ p1 p2 p3 (Nat.le_refl _) (Nat.le_refl _)
theorem jchr (hEX : sEXok EX) (hJ : sJ EX aK aV) : sCHR EX l dC dI cA aK := by
  intro p e R s m args below meth c Q A H locs ls rest nc ns pc idx own cc i ws hx hb hml hown hts hK hA hS hE9 hP hD h8 hRf hRl hRc hRs hlk hdg h0 h1 kk
  have hE2 := sEX_now hEX hE9 hS
  have hfree := zfree hD hS hA
  have hM := smeti (l := l) (cas := [.ref aK, .int i]) (ws := ws) (sz := H.size) (by decide) rfl (Nat.le_of_ble_eq_true rfl) (jr_A (ws := ws) (dC := dC) (dI := dI) (cA := cA) (l := l) hEX hJ h0 h1)
  have hw : ∀ w ∈ zcw own idx 2 yJ0_charAt_5068e cJ0_charAt_5068e 2 (some .char), w ∈ zT := by
    intro w hw
    simp only [zcw, List.mem_cons, List.not_mem_nil, or_false] at hw
    rcases hw with rfl | rfl | rfl | rfl | rfl
    · exact hlk
    · exact jwA _ (by simp)
    · exact jwA _ (by simp [yJ0_charAt_5068e])
    · exact jwA _ (by simp)
    · exact jwA _ (by simp [yJ0_charAt_5068e])
  obtain ⟨⟨j1, -⟩, -⟩ := hJ A s H hE2
  have hR9 := srun (e := e) (below := below) (meth := meth) (locs := locs) (nc := nc) (ns := ns) (own := own) (ls := ls) (cst := .int i :: .ref aK :: rest) (crest := rest) (n := 1) (kd := 2) (d' := 3) hEX hx hb hml hown hts hK hP hD rfl hM hE2 hfree hw (fun q => by rcases q with q | q <;> cases q) (by decide +kernel) (by decide) (by decide) ⟨by omega, by omega⟩ ⟨hRc, hRs⟩ rfl h8 rfl (fun _ => ⟨aK, [.int i], rfl, fun _ => by obtain ⟨cell, k1, k2, k3, -⟩ := j1; exact ⟨cell, k1, k2, k3⟩⟩) (Or.inr ⟨rfl, rfl⟩) hdg
  refine va_calli hR9 hS (fun q _ h => hfree q h) hfree (fun x u t H1 locs1 ht hvm hw9 hB hz1 hk1 hS1 => ?_)
  obtain ⟨⟨x', e1, x0, x1⟩, rfl⟩ := hw9
  cases e1
  obtain ⟨hP1, hK1, hD1⟩ := hB
  rw [ht] at hP1
  exact kk x H1 locs1 x0 x1 hP1 (hD1.weaken (fun _ q _ z => hfree q.1 z)) hS1
end SCH
end

section
-- ===== PART A: goes FIRST, ahead of the names: the tables' words, and 'selects' of the private methods out of them =====
/-- a private method of a class that the tables say can be made, by its rows of tables_1 -/
def lw_okq (q : MethodName × Nat) : Prop := (q.1.cls ≠ "java/lang/invoke/MethodHandle" ∧ q.1.cls ≠ "java/lang/invoke/VarHandle") ∧ Cond.instantiable q.1.cls q.2 ∈ tables_1 ∧ Cond.privateMethod q.1 ∈ tables_1 ∧ Cond.instanceMethod q.1 ∈ tables_1
theorem lw_p0 : lw_okq (⟨"MirrorLane", "tell", "(II)I"⟩, 13) := ⟨⟨by decide +kernel, by decide +kernel⟩, List.mem_of_getElem? (i := 19) (by decide +kernel), List.mem_of_getElem? (i := 448) (by decide +kernel), List.mem_of_getElem? (i := 449) (by decide +kernel)⟩
theorem lw_p1 : lw_okq (⟨"MirrorLane$Grammar", "read", "(III)V"⟩, 7) := ⟨⟨by decide +kernel, by decide +kernel⟩, List.mem_of_getElem? (i := 58) (by decide +kernel), List.mem_of_getElem? (i := 456) (by decide +kernel), List.mem_of_getElem? (i := 457) (by decide +kernel)⟩
theorem lw_p2 : lw_okq (⟨"MirrorLane$Grammar", "readOpening", "()V"⟩, 7) := ⟨⟨by decide +kernel, by decide +kernel⟩, List.mem_of_getElem? (i := 58) (by decide +kernel), List.mem_of_getElem? (i := 460) (by decide +kernel), List.mem_of_getElem? (i := 461) (by decide +kernel)⟩
theorem lw_p3 : lw_okq (⟨"MirrorLane$Grammar", "readClosing", "()V"⟩, 7) := ⟨⟨by decide +kernel, by decide +kernel⟩, List.mem_of_getElem? (i := 58) (by decide +kernel), List.mem_of_getElem? (i := 467) (by decide +kernel), List.mem_of_getElem? (i := 468) (by decide +kernel)⟩
theorem lw_p4 : lw_okq (⟨"MirrorLane$Grammar", "takeItem", "(I)V"⟩, 7) := ⟨⟨by decide +kernel, by decide +kernel⟩, List.mem_of_getElem? (i := 58) (by decide +kernel), List.mem_of_getElem? (i := 471) (by decide +kernel), List.mem_of_getElem? (i := 472) (by decide +kernel)⟩
theorem lw_p5 : lw_okq (⟨"MirrorLane$Grammar", "readDigit", "(I)V"⟩, 7) := ⟨⟨by decide +kernel, by decide +kernel⟩, List.mem_of_getElem? (i := 58) (by decide +kernel), List.mem_of_getElem? (i := 475) (by decide +kernel), List.mem_of_getElem? (i := 476) (by decide +kernel)⟩
theorem lw_p6 : lw_okq (⟨"MirrorLane$Grammar", "next", "(I)I"⟩, 7) := ⟨⟨by decide +kernel, by decide +kernel⟩, List.mem_of_getElem? (i := 58) (by decide +kernel), List.mem_of_getElem? (i := 479) (by decide +kernel), List.mem_of_getElem? (i := 480) (by decide +kernel)⟩
theorem lw_p7 : lw_okq (⟨"MirrorLane$Grammar", "readTimes", "()V"⟩, 7) := ⟨⟨by decide +kernel, by decide +kernel⟩, List.mem_of_getElem? (i := 58) (by decide +kernel), List.mem_of_getElem? (i := 486) (by decide +kernel), List.mem_of_getElem? (i := 487) (by decide +kernel)⟩
theorem lw_p8 : lw_okq (⟨"MirrorLane$Items", "take", "()I"⟩, 6) := ⟨⟨by decide +kernel, by decide +kernel⟩, List.mem_of_getElem? (i := 93) (by decide +kernel), List.mem_of_getElem? (i := 506) (by decide +kernel), List.mem_of_getElem? (i := 507) (by decide +kernel)⟩
theorem lw_p9 : lw_okq (⟨"MirrorLane$Items", "readTimes", "()V"⟩, 6) := ⟨⟨by decide +kernel, by decide +kernel⟩, List.mem_of_getElem? (i := 93) (by decide +kernel), List.mem_of_getElem? (i := 510) (by decide +kernel), List.mem_of_getElem? (i := 511) (by decide +kernel)⟩
theorem lw_p10 : lw_okq (⟨"MirrorLane$Weave", "touch", "(II)V"⟩, 8) := ⟨⟨by decide +kernel, by decide +kernel⟩, List.mem_of_getElem? (i := 122) (by decide +kernel), List.mem_of_getElem? (i := 533) (by decide +kernel), List.mem_of_getElem? (i := 534) (by decide +kernel)⟩
theorem lw_p11 : lw_okq (⟨"MirrorLane$Loom", "repeatItem", "(II)V"⟩, 7) := ⟨⟨by decide +kernel, by decide +kernel⟩, List.mem_of_getElem? (i := 87) (by decide +kernel), List.mem_of_getElem? (i := 537) (by decide +kernel), List.mem_of_getElem? (i := 538) (by decide +kernel)⟩
theorem lw_p12 : lw_okq (⟨"MirrorLane$Weave", "joinFrom", "(ILMirrorLane$Weave;LMirrorLane$Weave;I)I"⟩, 8) := ⟨⟨by decide +kernel, by decide +kernel⟩, List.mem_of_getElem? (i := 122) (by decide +kernel), List.mem_of_getElem? (i := 552) (by decide +kernel), List.mem_of_getElem? (i := 553) (by decide +kernel)⟩
theorem lw_p13 : lw_okq (⟨"MirrorLane$Weave", "addLoop", "(ILMirrorLane$Weave;LMirrorLane$Weave;I)I"⟩, 8) := ⟨⟨by decide +kernel, by decide +kernel⟩, List.mem_of_getElem? (i := 122) (by decide +kernel), List.mem_of_getElem? (i := 556) (by decide +kernel), List.mem_of_getElem? (i := 557) (by decide +kernel)⟩
theorem lw_p14 : lw_okq (⟨"MirrorLane", "weaveFrom", "(I)V"⟩, 13) := ⟨⟨by decide +kernel, by decide +kernel⟩, List.mem_of_getElem? (i := 19) (by decide +kernel), List.mem_of_getElem? (i := 573) (by decide +kernel), List.mem_of_getElem? (i := 574) (by decide +kernel)⟩
theorem lw_p15 : lw_okq (⟨"MirrorLane", "isTold", "(I)Z"⟩, 13) := ⟨⟨by decide +kernel, by decide +kernel⟩, List.mem_of_getElem? (i := 19) (by decide +kernel), List.mem_of_getElem? (i := 585) (by decide +kernel), List.mem_of_getElem? (i := 586) (by decide +kernel)⟩
def lw_privs_1 : List (MethodName × Nat) := [(⟨"MirrorLane", "tell", "(II)I"⟩, 13), (⟨"MirrorLane$Grammar", "read", "(III)V"⟩, 7), (⟨"MirrorLane$Grammar", "readOpening", "()V"⟩, 7), (⟨"MirrorLane$Grammar", "readClosing", "()V"⟩, 7), (⟨"MirrorLane$Grammar", "takeItem", "(I)V"⟩, 7), (⟨"MirrorLane$Grammar", "readDigit", "(I)V"⟩, 7), (⟨"MirrorLane$Grammar", "next", "(I)I"⟩, 7), (⟨"MirrorLane$Grammar", "readTimes", "()V"⟩, 7), (⟨"MirrorLane$Items", "take", "()I"⟩, 6), (⟨"MirrorLane$Items", "readTimes", "()V"⟩, 6), (⟨"MirrorLane$Weave", "touch", "(II)V"⟩, 8), (⟨"MirrorLane$Loom", "repeatItem", "(II)V"⟩, 7), (⟨"MirrorLane$Weave", "joinFrom", "(ILMirrorLane$Weave;LMirrorLane$Weave;I)I"⟩, 8), (⟨"MirrorLane$Weave", "addLoop", "(ILMirrorLane$Weave;LMirrorLane$Weave;I)I"⟩, 8), (⟨"MirrorLane", "weaveFrom", "(I)V"⟩, 13), (⟨"MirrorLane", "isTold", "(I)Z"⟩, 13)]
theorem lw_r1 : ∀ q ∈ lw_privs_1, lw_okq q := List.forall_mem_cons.mpr ⟨lw_p0, List.forall_mem_cons.mpr ⟨lw_p1, List.forall_mem_cons.mpr ⟨lw_p2, List.forall_mem_cons.mpr ⟨lw_p3, List.forall_mem_cons.mpr ⟨lw_p4, List.forall_mem_cons.mpr ⟨lw_p5, List.forall_mem_cons.mpr ⟨lw_p6, List.forall_mem_cons.mpr ⟨lw_p7, List.forall_mem_cons.mpr ⟨lw_p8, List.forall_mem_cons.mpr ⟨lw_p9, List.forall_mem_cons.mpr ⟨lw_p10, List.forall_mem_cons.mpr ⟨lw_p11, List.forall_mem_cons.mpr ⟨lw_p12, List.forall_mem_cons.mpr ⟨lw_p13, List.forall_mem_cons.mpr ⟨lw_p14, List.forall_mem_cons.mpr ⟨lw_p15, fun _ h => absurd h List.not_mem_nil⟩⟩⟩⟩⟩⟩⟩⟩⟩⟩⟩⟩⟩⟩⟩⟩
theorem lw_p16 : lw_okq (⟨"MirrorLane", "isMade", "(I)Z"⟩, 13) := ⟨⟨by decide +kernel, by decide +kernel⟩, List.mem_of_getElem? (i := 19) (by decide +kernel), List.mem_of_getElem? (i := 611) (by decide +kernel), List.mem_of_getElem? (i := 612) (by decide +kernel)⟩
theorem lw_p17 : lw_okq (⟨"MirrorLane", "isEnd", "(I)Z"⟩, 13) := ⟨⟨by decide +kernel, by decide +kernel⟩, List.mem_of_getElem? (i := 19) (by decide +kernel), List.mem_of_getElem? (i := 615) (by decide +kernel), List.mem_of_getElem? (i := 616) (by decide +kernel)⟩
theorem lw_p18 : lw_okq (⟨"MirrorLane$Closing", "loopFrom", "(ILMirrorLane$Weave;)I"⟩, 2) := ⟨⟨by decide +kernel, by decide +kernel⟩, List.mem_of_getElem? (i := 44) (by decide +kernel), List.mem_of_getElem? (i := 631) (by decide +kernel), List.mem_of_getElem? (i := 632) (by decide +kernel)⟩
theorem lw_p19 : lw_okq (⟨"MirrorLane$Powers", "isEven", "(I)Z"⟩, 10) := ⟨⟨by decide +kernel, by decide +kernel⟩, List.mem_of_getElem? (i := 189) (by decide +kernel), List.mem_of_getElem? (i := 664) (by decide +kernel), List.mem_of_getElem? (i := 665) (by decide +kernel)⟩
theorem lw_p20 : lw_okq (⟨"MirrorLane$Powers", "growth", "(II)J"⟩, 10) := ⟨⟨by decide +kernel, by decide +kernel⟩, List.mem_of_getElem? (i := 189) (by decide +kernel), List.mem_of_getElem? (i := 668) (by decide +kernel), List.mem_of_getElem? (i := 669) (by decide +kernel)⟩
theorem lw_p21 : lw_okq (⟨"MirrorLane$Powers", "howManyFrom", "(IJJJ)J"⟩, 10) := ⟨⟨by decide +kernel, by decide +kernel⟩, List.mem_of_getElem? (i := 189) (by decide +kernel), List.mem_of_getElem? (i := 697) (by decide +kernel), List.mem_of_getElem? (i := 698) (by decide +kernel)⟩
theorem lw_p22 : lw_okq (⟨"MirrorLane$Powers", "firstFrom", "(IJ)J"⟩, 10) := ⟨⟨by decide +kernel, by decide +kernel⟩, List.mem_of_getElem? (i := 189) (by decide +kernel), List.mem_of_getElem? (i := 701) (by decide +kernel), List.mem_of_getElem? (i := 702) (by decide +kernel)⟩
theorem lw_p23 : lw_okq (⟨"MirrorLane", "openLetters", "(I)Z"⟩, 13) := ⟨⟨by decide +kernel, by decide +kernel⟩, List.mem_of_getElem? (i := 19) (by decide +kernel), List.mem_of_getElem? (i := 744) (by decide +kernel), List.mem_of_getElem? (i := 745) (by decide +kernel)⟩
theorem lw_p24 : lw_okq (⟨"MirrorLane$Sentences", "keep", "(LMirrorLane$Weave;)V"⟩, 14) := ⟨⟨by decide +kernel, by decide +kernel⟩, List.mem_of_getElem? (i := 233) (by decide +kernel), List.mem_of_getElem? (i := 757) (by decide +kernel), List.mem_of_getElem? (i := 758) (by decide +kernel)⟩
theorem lw_p25 : lw_okq (⟨"MirrorLane$Sentences", "leadOn", "(I[LMirrorLane$Word;I)V"⟩, 14) := ⟨⟨by decide +kernel, by decide +kernel⟩, List.mem_of_getElem? (i := 233) (by decide +kernel), List.mem_of_getElem? (i := 762) (by decide +kernel), List.mem_of_getElem? (i := 763) (by decide +kernel)⟩
theorem lw_p26 : lw_okq (⟨"MirrorLane$Sentences", "startRow", "()V"⟩, 14) := ⟨⟨by decide +kernel, by decide +kernel⟩, List.mem_of_getElem? (i := 233) (by decide +kernel), List.mem_of_getElem? (i := 770) (by decide +kernel), List.mem_of_getElem? (i := 771) (by decide +kernel)⟩
theorem lw_p27 : lw_okq (⟨"MirrorLane$Sentences", "lengthenRow", "()V"⟩, 14) := ⟨⟨by decide +kernel, by decide +kernel⟩, List.mem_of_getElem? (i := 233) (by decide +kernel), List.mem_of_getElem? (i := 786) (by decide +kernel), List.mem_of_getElem? (i := 787) (by decide +kernel)⟩
theorem lw_p28 : lw_okq (⟨"MirrorLane$Sentences", "spread", "(I)V"⟩, 14) := ⟨⟨by decide +kernel, by decide +kernel⟩, List.mem_of_getElem? (i := 233) (by decide +kernel), List.mem_of_getElem? (i := 790) (by decide +kernel), List.mem_of_getElem? (i := 791) (by decide +kernel)⟩
theorem lw_p29 : lw_okq (⟨"MirrorLane$Finder", "traceBack", "(I)V"⟩, 7) := ⟨⟨by decide +kernel, by decide +kernel⟩, List.mem_of_getElem? (i := 292) (by decide +kernel), List.mem_of_getElem? (i := 808) (by decide +kernel), List.mem_of_getElem? (i := 809) (by decide +kernel)⟩
theorem lw_p30 : lw_okq (⟨"MirrorLane$Finder", "weighRests", "(LMirrorLane$Sentences;[LMirrorLane$Word;I)V"⟩, 7) := ⟨⟨by decide +kernel, by decide +kernel⟩, List.mem_of_getElem? (i := 292) (by decide +kernel), List.mem_of_getElem? (i := 829) (by decide +kernel), List.mem_of_getElem? (i := 830) (by decide +kernel)⟩
theorem lw_p31 : lw_okq (⟨"MirrorLane$Finder", "weightBy", "(LMirrorLane$Sentences;[LMirrorLane$Word;II)J"⟩, 7) := ⟨⟨by decide +kernel, by decide +kernel⟩, List.mem_of_getElem? (i := 292) (by decide +kernel), List.mem_of_getElem? (i := 835) (by decide +kernel), List.mem_of_getElem? (i := 836) (by decide +kernel)⟩
def lw_privs_2 : List (MethodName × Nat) := [(⟨"MirrorLane", "isMade", "(I)Z"⟩, 13), (⟨"MirrorLane", "isEnd", "(I)Z"⟩, 13), (⟨"MirrorLane$Closing", "loopFrom", "(ILMirrorLane$Weave;)I"⟩, 2), (⟨"MirrorLane$Powers", "isEven", "(I)Z"⟩, 10), (⟨"MirrorLane$Powers", "growth", "(II)J"⟩, 10), (⟨"MirrorLane$Powers", "howManyFrom", "(IJJJ)J"⟩, 10), (⟨"MirrorLane$Powers", "firstFrom", "(IJ)J"⟩, 10), (⟨"MirrorLane", "openLetters", "(I)Z"⟩, 13), (⟨"MirrorLane$Sentences", "keep", "(LMirrorLane$Weave;)V"⟩, 14), (⟨"MirrorLane$Sentences", "leadOn", "(I[LMirrorLane$Word;I)V"⟩, 14), (⟨"MirrorLane$Sentences", "startRow", "()V"⟩, 14), (⟨"MirrorLane$Sentences", "lengthenRow", "()V"⟩, 14), (⟨"MirrorLane$Sentences", "spread", "(I)V"⟩, 14), (⟨"MirrorLane$Finder", "traceBack", "(I)V"⟩, 7), (⟨"MirrorLane$Finder", "weighRests", "(LMirrorLane$Sentences;[LMirrorLane$Word;I)V"⟩, 7), (⟨"MirrorLane$Finder", "weightBy", "(LMirrorLane$Sentences;[LMirrorLane$Word;II)J"⟩, 7)]
theorem lw_r2 : ∀ q ∈ lw_privs_2, lw_okq q := List.forall_mem_cons.mpr ⟨lw_p16, List.forall_mem_cons.mpr ⟨lw_p17, List.forall_mem_cons.mpr ⟨lw_p18, List.forall_mem_cons.mpr ⟨lw_p19, List.forall_mem_cons.mpr ⟨lw_p20, List.forall_mem_cons.mpr ⟨lw_p21, List.forall_mem_cons.mpr ⟨lw_p22, List.forall_mem_cons.mpr ⟨lw_p23, List.forall_mem_cons.mpr ⟨lw_p24, List.forall_mem_cons.mpr ⟨lw_p25, List.forall_mem_cons.mpr ⟨lw_p26, List.forall_mem_cons.mpr ⟨lw_p27, List.forall_mem_cons.mpr ⟨lw_p28, List.forall_mem_cons.mpr ⟨lw_p29, List.forall_mem_cons.mpr ⟨lw_p30, List.forall_mem_cons.mpr ⟨lw_p31, fun _ h => absurd h List.not_mem_nil⟩⟩⟩⟩⟩⟩⟩⟩⟩⟩⟩⟩⟩⟩⟩⟩
theorem lw_p32 : lw_okq (⟨"MirrorLane", "leavesAsTold", "(II)Z"⟩, 13) := ⟨⟨by decide +kernel, by decide +kernel⟩, List.mem_of_getElem? (i := 19) (by decide +kernel), List.mem_of_getElem? (i := 866) (by decide +kernel), List.mem_of_getElem? (i := 867) (by decide +kernel)⟩
theorem lw_p33 : lw_okq (⟨"MirrorLaneModel", "push", "(I)V"⟩, 62) := ⟨⟨by decide +kernel, by decide +kernel⟩, List.mem_of_getElem? (i := 906) (by decide +kernel), List.mem_of_getElem? (i := 1113) (by decide +kernel), List.mem_of_getElem? (i := 1114) (by decide +kernel)⟩
theorem lw_p34 : lw_okq (⟨"MirrorLaneModel", "isLength", "(I)Z"⟩, 62) := ⟨⟨by decide +kernel, by decide +kernel⟩, List.mem_of_getElem? (i := 906) (by decide +kernel), List.mem_of_getElem? (i := 1121) (by decide +kernel), List.mem_of_getElem? (i := 1122) (by decide +kernel)⟩
theorem lw_p35 : lw_okq (⟨"MirrorLaneModel", "told", "(II)I"⟩, 62) := ⟨⟨by decide +kernel, by decide +kernel⟩, List.mem_of_getElem? (i := 906) (by decide +kernel), List.mem_of_getElem? (i := 1126) (by decide +kernel), List.mem_of_getElem? (i := 1127) (by decide +kernel)⟩
theorem lw_p36 : lw_okq (⟨"MirrorLaneModel", "isText", "(II)Z"⟩, 62) := ⟨⟨by decide +kernel, by decide +kernel⟩, List.mem_of_getElem? (i := 906) (by decide +kernel), List.mem_of_getElem? (i := 1130) (by decide +kernel), List.mem_of_getElem? (i := 1131) (by decide +kernel)⟩
theorem lw_p37 : lw_okq (⟨"MirrorLaneModel", "isGood", "()Z"⟩, 62) := ⟨⟨by decide +kernel, by decide +kernel⟩, List.mem_of_getElem? (i := 906) (by decide +kernel), List.mem_of_getElem? (i := 1134) (by decide +kernel), List.mem_of_getElem? (i := 1135) (by decide +kernel)⟩
theorem lw_p38 : lw_okq (⟨"MirrorLaneModel", "here", "()I"⟩, 62) := ⟨⟨by decide +kernel, by decide +kernel⟩, List.mem_of_getElem? (i := 906) (by decide +kernel), List.mem_of_getElem? (i := 1138) (by decide +kernel), List.mem_of_getElem? (i := 1139) (by decide +kernel)⟩
theorem lw_p39 : lw_okq (⟨"MirrorLaneModel", "repeatsTold", "()V"⟩, 62) := ⟨⟨by decide +kernel, by decide +kernel⟩, List.mem_of_getElem? (i := 906) (by decide +kernel), List.mem_of_getElem? (i := 1142) (by decide +kernel), List.mem_of_getElem? (i := 1143) (by decide +kernel)⟩
theorem lw_p40 : lw_okq (⟨"MirrorLaneModel", "wrongs", "(II)V"⟩, 62) := ⟨⟨by decide +kernel, by decide +kernel⟩, List.mem_of_getElem? (i := 906) (by decide +kernel), List.mem_of_getElem? (i := 1149) (by decide +kernel), List.mem_of_getElem? (i := 1150) (by decide +kernel)⟩
theorem lw_p41 : lw_okq (⟨"MirrorLaneModel", "item", "(I)V"⟩, 62) := ⟨⟨by decide +kernel, by decide +kernel⟩, List.mem_of_getElem? (i := 906) (by decide +kernel), List.mem_of_getElem? (i := 1153) (by decide +kernel), List.mem_of_getElem? (i := 1154) (by decide +kernel)⟩
theorem lw_p42 : lw_okq (⟨"MirrorLaneModel", "takesText", "(II)V"⟩, 62) := ⟨⟨by decide +kernel, by decide +kernel⟩, List.mem_of_getElem? (i := 906) (by decide +kernel), List.mem_of_getElem? (i := 1157) (by decide +kernel), List.mem_of_getElem? (i := 1158) (by decide +kernel)⟩
theorem lw_p43 : lw_okq (⟨"MirrorLaneModel", "counts", "(I)V"⟩, 62) := ⟨⟨by decide +kernel, by decide +kernel⟩, List.mem_of_getElem? (i := 906) (by decide +kernel), List.mem_of_getElem? (i := 1161) (by decide +kernel), List.mem_of_getElem? (i := 1162) (by decide +kernel)⟩
theorem lw_p44 : lw_okq (⟨"MirrorLaneModel", "read", "()I"⟩, 62) := ⟨⟨by decide +kernel, by decide +kernel⟩, List.mem_of_getElem? (i := 906) (by decide +kernel), List.mem_of_getElem? (i := 1165) (by decide +kernel), List.mem_of_getElem? (i := 1166) (by decide +kernel)⟩
theorem lw_p45 : lw_okq (⟨"MirrorLaneModel", "readNumber", "()I"⟩, 62) := ⟨⟨by decide +kernel, by decide +kernel⟩, List.mem_of_getElem? (i := 906) (by decide +kernel), List.mem_of_getElem? (i := 1169) (by decide +kernel), List.mem_of_getElem? (i := 1170) (by decide +kernel)⟩
theorem lw_p46 : lw_okq (⟨"MirrorLaneModel", "isTooLong", "(I)Z"⟩, 62) := ⟨⟨by decide +kernel, by decide +kernel⟩, List.mem_of_getElem? (i := 906) (by decide +kernel), List.mem_of_getElem? (i := 1180) (by decide +kernel), List.mem_of_getElem? (i := 1181) (by decide +kernel)⟩
theorem lw_p47 : lw_okq (⟨"MirrorLaneModel", "signsOf", "(I)J"⟩, 62) := ⟨⟨by decide +kernel, by decide +kernel⟩, List.mem_of_getElem? (i := 906) (by decide +kernel), List.mem_of_getElem? (i := 1184) (by decide +kernel), List.mem_of_getElem? (i := 1185) (by decide +kernel)⟩
def lw_privs_3 : List (MethodName × Nat) := [(⟨"MirrorLane", "leavesAsTold", "(II)Z"⟩, 13), (⟨"MirrorLaneModel", "push", "(I)V"⟩, 62), (⟨"MirrorLaneModel", "isLength", "(I)Z"⟩, 62), (⟨"MirrorLaneModel", "told", "(II)I"⟩, 62), (⟨"MirrorLaneModel", "isText", "(II)Z"⟩, 62), (⟨"MirrorLaneModel", "isGood", "()Z"⟩, 62), (⟨"MirrorLaneModel", "here", "()I"⟩, 62), (⟨"MirrorLaneModel", "repeatsTold", "()V"⟩, 62), (⟨"MirrorLaneModel", "wrongs", "(II)V"⟩, 62), (⟨"MirrorLaneModel", "item", "(I)V"⟩, 62), (⟨"MirrorLaneModel", "takesText", "(II)V"⟩, 62), (⟨"MirrorLaneModel", "counts", "(I)V"⟩, 62), (⟨"MirrorLaneModel", "read", "()I"⟩, 62), (⟨"MirrorLaneModel", "readNumber", "()I"⟩, 62), (⟨"MirrorLaneModel", "isTooLong", "(I)Z"⟩, 62), (⟨"MirrorLaneModel", "signsOf", "(I)J"⟩, 62)]
theorem lw_r3 : ∀ q ∈ lw_privs_3, lw_okq q := List.forall_mem_cons.mpr ⟨lw_p32, List.forall_mem_cons.mpr ⟨lw_p33, List.forall_mem_cons.mpr ⟨lw_p34, List.forall_mem_cons.mpr ⟨lw_p35, List.forall_mem_cons.mpr ⟨lw_p36, List.forall_mem_cons.mpr ⟨lw_p37, List.forall_mem_cons.mpr ⟨lw_p38, List.forall_mem_cons.mpr ⟨lw_p39, List.forall_mem_cons.mpr ⟨lw_p40, List.forall_mem_cons.mpr ⟨lw_p41, List.forall_mem_cons.mpr ⟨lw_p42, List.forall_mem_cons.mpr ⟨lw_p43, List.forall_mem_cons.mpr ⟨lw_p44, List.forall_mem_cons.mpr ⟨lw_p45, List.forall_mem_cons.mpr ⟨lw_p46, List.forall_mem_cons.mpr ⟨lw_p47, fun _ h => absurd h List.not_mem_nil⟩⟩⟩⟩⟩⟩⟩⟩⟩⟩⟩⟩⟩⟩⟩⟩
theorem lw_p48 : lw_okq (⟨"MirrorLaneModel", "all", "()V"⟩, 62) := ⟨⟨by decide +kernel, by decide +kernel⟩, List.mem_of_getElem? (i := 906) (by decide +kernel), List.mem_of_getElem? (i := 1189) (by decide +kernel), List.mem_of_getElem? (i := 1190) (by decide +kernel)⟩
theorem lw_p49 : lw_okq (⟨"MirrorLaneModel", "straight", "(I)V"⟩, 62) := ⟨⟨by decide +kernel, by decide +kernel⟩, List.mem_of_getElem? (i := 906) (by decide +kernel), List.mem_of_getElem? (i := 1193) (by decide +kernel), List.mem_of_getElem? (i := 1194) (by decide +kernel)⟩
theorem lw_p50 : lw_okq (⟨"MirrorLaneModel", "joins", "(IIIJ)V"⟩, 62) := ⟨⟨by decide +kernel, by decide +kernel⟩, List.mem_of_getElem? (i := 906) (by decide +kernel), List.mem_of_getElem? (i := 1197) (by decide +kernel), List.mem_of_getElem? (i := 1198) (by decide +kernel)⟩
theorem lw_p51 : lw_okq (⟨"MirrorLaneModel", "makes", "(I)V"⟩, 62) := ⟨⟨by decide +kernel, by decide +kernel⟩, List.mem_of_getElem? (i := 906) (by decide +kernel), List.mem_of_getElem? (i := 1201) (by decide +kernel), List.mem_of_getElem? (i := 1202) (by decide +kernel)⟩
theorem lw_p52 : lw_okq (⟨"MirrorLaneModel", "repeats", "(II)V"⟩, 62) := ⟨⟨by decide +kernel, by decide +kernel⟩, List.mem_of_getElem? (i := 906) (by decide +kernel), List.mem_of_getElem? (i := 1205) (by decide +kernel), List.mem_of_getElem? (i := 1206) (by decide +kernel)⟩
theorem lw_p53 : lw_okq (⟨"MirrorLaneModel", "copies", "(II)V"⟩, 62) := ⟨⟨by decide +kernel, by decide +kernel⟩, List.mem_of_getElem? (i := 906) (by decide +kernel), List.mem_of_getElem? (i := 1209) (by decide +kernel), List.mem_of_getElem? (i := 1210) (by decide +kernel)⟩
theorem lw_p54 : lw_okq (⟨"MirrorLaneModel", "lays", "(III)V"⟩, 62) := ⟨⟨by decide +kernel, by decide +kernel⟩, List.mem_of_getElem? (i := 906) (by decide +kernel), List.mem_of_getElem? (i := 1213) (by decide +kernel), List.mem_of_getElem? (i := 1214) (by decide +kernel)⟩
theorem lw_p55 : lw_okq (⟨"MirrorLaneModel", "leads", "(IIZI)I"⟩, 62) := ⟨⟨by decide +kernel, by decide +kernel⟩, List.mem_of_getElem? (i := 906) (by decide +kernel), List.mem_of_getElem? (i := 1217) (by decide +kernel), List.mem_of_getElem? (i := 1218) (by decide +kernel)⟩
theorem lw_p56 : lw_okq (⟨"MirrorLaneModel", "ring", "(IIII)V"⟩, 62) := ⟨⟨by decide +kernel, by decide +kernel⟩, List.mem_of_getElem? (i := 906) (by decide +kernel), List.mem_of_getElem? (i := 1221) (by decide +kernel), List.mem_of_getElem? (i := 1222) (by decide +kernel)⟩
theorem lw_p57 : lw_okq (⟨"MirrorLaneModel", "goesOn", "(I)V"⟩, 62) := ⟨⟨by decide +kernel, by decide +kernel⟩, List.mem_of_getElem? (i := 906) (by decide +kernel), List.mem_of_getElem? (i := 1225) (by decide +kernel), List.mem_of_getElem? (i := 1226) (by decide +kernel)⟩
theorem lw_p58 : lw_okq (⟨"MirrorLaneModel", "sign", "(IZI)V"⟩, 62) := ⟨⟨by decide +kernel, by decide +kernel⟩, List.mem_of_getElem? (i := 906) (by decide +kernel), List.mem_of_getElem? (i := 1229) (by decide +kernel), List.mem_of_getElem? (i := 1230) (by decide +kernel)⟩
theorem lw_p59 : lw_okq (⟨"MirrorLaneModel", "isWord", "(I)Z"⟩, 62) := ⟨⟨by decide +kernel, by decide +kernel⟩, List.mem_of_getElem? (i := 906) (by decide +kernel), List.mem_of_getElem? (i := 1237) (by decide +kernel), List.mem_of_getElem? (i := 1238) (by decide +kernel)⟩
theorem lw_p60 : lw_okq (⟨"MirrorLaneModel", "isMade", "(I)Z"⟩, 62) := ⟨⟨by decide +kernel, by decide +kernel⟩, List.mem_of_getElem? (i := 906) (by decide +kernel), List.mem_of_getElem? (i := 1258) (by decide +kernel), List.mem_of_getElem? (i := 1259) (by decide +kernel)⟩
theorem lw_p61 : lw_okq (⟨"MirrorLaneModel", "isEnd", "(I)Z"⟩, 62) := ⟨⟨by decide +kernel, by decide +kernel⟩, List.mem_of_getElem? (i := 906) (by decide +kernel), List.mem_of_getElem? (i := 1262) (by decide +kernel), List.mem_of_getElem? (i := 1263) (by decide +kernel)⟩
theorem lw_p62 : lw_okq (⟨"MirrorLaneModel", "closing", "(I)I"⟩, 62) := ⟨⟨by decide +kernel, by decide +kernel⟩, List.mem_of_getElem? (i := 906) (by decide +kernel), List.mem_of_getElem? (i := 1274) (by decide +kernel), List.mem_of_getElem? (i := 1275) (by decide +kernel)⟩
theorem lw_p63 : lw_okq (⟨"MirrorLaneModel", "closes", "(I)I"⟩, 62) := ⟨⟨by decide +kernel, by decide +kernel⟩, List.mem_of_getElem? (i := 906) (by decide +kernel), List.mem_of_getElem? (i := 1278) (by decide +kernel), List.mem_of_getElem? (i := 1279) (by decide +kernel)⟩
def lw_privs_4 : List (MethodName × Nat) := [(⟨"MirrorLaneModel", "all", "()V"⟩, 62), (⟨"MirrorLaneModel", "straight", "(I)V"⟩, 62), (⟨"MirrorLaneModel", "joins", "(IIIJ)V"⟩, 62), (⟨"MirrorLaneModel", "makes", "(I)V"⟩, 62), (⟨"MirrorLaneModel", "repeats", "(II)V"⟩, 62), (⟨"MirrorLaneModel", "copies", "(II)V"⟩, 62), (⟨"MirrorLaneModel", "lays", "(III)V"⟩, 62), (⟨"MirrorLaneModel", "leads", "(IIZI)I"⟩, 62), (⟨"MirrorLaneModel", "ring", "(IIII)V"⟩, 62), (⟨"MirrorLaneModel", "goesOn", "(I)V"⟩, 62), (⟨"MirrorLaneModel", "sign", "(IZI)V"⟩, 62), (⟨"MirrorLaneModel", "isWord", "(I)Z"⟩, 62), (⟨"MirrorLaneModel", "isMade", "(I)Z"⟩, 62), (⟨"MirrorLaneModel", "isEnd", "(I)Z"⟩, 62), (⟨"MirrorLaneModel", "closing", "(I)I"⟩, 62), (⟨"MirrorLaneModel", "closes", "(I)I"⟩, 62)]
theorem lw_r4 : ∀ q ∈ lw_privs_4, lw_okq q := List.forall_mem_cons.mpr ⟨lw_p48, List.forall_mem_cons.mpr ⟨lw_p49, List.forall_mem_cons.mpr ⟨lw_p50, List.forall_mem_cons.mpr ⟨lw_p51, List.forall_mem_cons.mpr ⟨lw_p52, List.forall_mem_cons.mpr ⟨lw_p53, List.forall_mem_cons.mpr ⟨lw_p54, List.forall_mem_cons.mpr ⟨lw_p55, List.forall_mem_cons.mpr ⟨lw_p56, List.forall_mem_cons.mpr ⟨lw_p57, List.forall_mem_cons.mpr ⟨lw_p58, List.forall_mem_cons.mpr ⟨lw_p59, List.forall_mem_cons.mpr ⟨lw_p60, List.forall_mem_cons.mpr ⟨lw_p61, List.forall_mem_cons.mpr ⟨lw_p62, List.forall_mem_cons.mpr ⟨lw_p63, fun _ h => absurd h List.not_mem_nil⟩⟩⟩⟩⟩⟩⟩⟩⟩⟩⟩⟩⟩⟩⟩⟩
theorem lw_p64 : lw_okq (⟨"MirrorLaneModel", "powers", "(I)V"⟩, 62) := ⟨⟨by decide +kernel, by decide +kernel⟩, List.mem_of_getElem? (i := 906) (by decide +kernel), List.mem_of_getElem? (i := 1286) (by decide +kernel), List.mem_of_getElem? (i := 1287) (by decide +kernel)⟩
theorem lw_p65 : lw_okq (⟨"MirrorLaneModel", "codeOf", "(I)J"⟩, 62) := ⟨⟨by decide +kernel, by decide +kernel⟩, List.mem_of_getElem? (i := 906) (by decide +kernel), List.mem_of_getElem? (i := 1290) (by decide +kernel), List.mem_of_getElem? (i := 1291) (by decide +kernel)⟩
theorem lw_p66 : lw_okq (⟨"MirrorLaneModel", "isRule", "(I)Z"⟩, 62) := ⟨⟨by decide +kernel, by decide +kernel⟩, List.mem_of_getElem? (i := 906) (by decide +kernel), List.mem_of_getElem? (i := 1299) (by decide +kernel), List.mem_of_getElem? (i := 1300) (by decide +kernel)⟩
theorem lw_p67 : lw_okq (⟨"MirrorLaneModel", "thoseOf", "(IJJJ)J"⟩, 62) := ⟨⟨by decide +kernel, by decide +kernel⟩, List.mem_of_getElem? (i := 906) (by decide +kernel), List.mem_of_getElem? (i := 1318) (by decide +kernel), List.mem_of_getElem? (i := 1319) (by decide +kernel)⟩
theorem lw_p68 : lw_okq (⟨"MirrorLaneModel", "ofResidue", "(IJJJ)J"⟩, 62) := ⟨⟨by decide +kernel, by decide +kernel⟩, List.mem_of_getElem? (i := 906) (by decide +kernel), List.mem_of_getElem? (i := 1322) (by decide +kernel), List.mem_of_getElem? (i := 1323) (by decide +kernel)⟩
theorem lw_p69 : lw_okq (⟨"MirrorLaneModel", "areAlike", "(II)Z"⟩, 62) := ⟨⟨by decide +kernel, by decide +kernel⟩, List.mem_of_getElem? (i := 906) (by decide +kernel), List.mem_of_getElem? (i := 1335) (by decide +kernel), List.mem_of_getElem? (i := 1336) (by decide +kernel)⟩
theorem lw_p70 : lw_okq (⟨"MirrorLaneModel", "areJoinedAlike", "(II)Z"⟩, 62) := ⟨⟨by decide +kernel, by decide +kernel⟩, List.mem_of_getElem? (i := 906) (by decide +kernel), List.mem_of_getElem? (i := 1339) (by decide +kernel), List.mem_of_getElem? (i := 1340) (by decide +kernel)⟩
theorem lw_p71 : lw_okq (⟨"MirrorLaneModel", "isPlain", "(I)Z"⟩, 62) := ⟨⟨by decide +kernel, by decide +kernel⟩, List.mem_of_getElem? (i := 906) (by decide +kernel), List.mem_of_getElem? (i := 1347) (by decide +kernel), List.mem_of_getElem? (i := 1348) (by decide +kernel)⟩
theorem lw_p72 : lw_okq (⟨"MirrorLaneModel", "isLetters", "(I)Z"⟩, 62) := ⟨⟨by decide +kernel, by decide +kernel⟩, List.mem_of_getElem? (i := 906) (by decide +kernel), List.mem_of_getElem? (i := 1355) (by decide +kernel), List.mem_of_getElem? (i := 1356) (by decide +kernel)⟩
theorem lw_p73 : lw_okq (⟨"MirrorLaneModel", "joinsAll", "()V"⟩, 62) := ⟨⟨by decide +kernel, by decide +kernel⟩, List.mem_of_getElem? (i := 906) (by decide +kernel), List.mem_of_getElem? (i := 1363) (by decide +kernel), List.mem_of_getElem? (i := 1364) (by decide +kernel)⟩
theorem lw_p74 : lw_okq (⟨"MirrorLaneModel", "stateOf", "(I)I"⟩, 62) := ⟨⟨by decide +kernel, by decide +kernel⟩, List.mem_of_getElem? (i := 906) (by decide +kernel), List.mem_of_getElem? (i := 1367) (by decide +kernel), List.mem_of_getElem? (i := 1368) (by decide +kernel)⟩
theorem lw_p75 : lw_okq (⟨"MirrorLaneModel", "ends", "(I)I"⟩, 62) := ⟨⟨by decide +kernel, by decide +kernel⟩, List.mem_of_getElem? (i := 906) (by decide +kernel), List.mem_of_getElem? (i := 1384) (by decide +kernel), List.mem_of_getElem? (i := 1385) (by decide +kernel)⟩
theorem lw_p76 : lw_okq (⟨"MirrorLaneModel", "comes", "(III)V"⟩, 62) := ⟨⟨by decide +kernel, by decide +kernel⟩, List.mem_of_getElem? (i := 906) (by decide +kernel), List.mem_of_getElem? (i := 1388) (by decide +kernel), List.mem_of_getElem? (i := 1389) (by decide +kernel)⟩
theorem lw_p77 : lw_okq (⟨"MirrorLaneModel", "targetOf", "(I)I"⟩, 62) := ⟨⟨by decide +kernel, by decide +kernel⟩, List.mem_of_getElem? (i := 906) (by decide +kernel), List.mem_of_getElem? (i := 1400) (by decide +kernel), List.mem_of_getElem? (i := 1401) (by decide +kernel)⟩
theorem lw_p78 : lw_okq (⟨"MirrorLaneModel", "prices", "(I)V"⟩, 62) := ⟨⟨by decide +kernel, by decide +kernel⟩, List.mem_of_getElem? (i := 906) (by decide +kernel), List.mem_of_getElem? (i := 1404) (by decide +kernel), List.mem_of_getElem? (i := 1405) (by decide +kernel)⟩
theorem lw_p79 : lw_okq (⟨"MirrorLaneModel", "best", "(I)I"⟩, 62) := ⟨⟨by decide +kernel, by decide +kernel⟩, List.mem_of_getElem? (i := 906) (by decide +kernel), List.mem_of_getElem? (i := 1408) (by decide +kernel), List.mem_of_getElem? (i := 1409) (by decide +kernel)⟩
def lw_privs_5 : List (MethodName × Nat) := [(⟨"MirrorLaneModel", "powers", "(I)V"⟩, 62), (⟨"MirrorLaneModel", "codeOf", "(I)J"⟩, 62), (⟨"MirrorLaneModel", "isRule", "(I)Z"⟩, 62), (⟨"MirrorLaneModel", "thoseOf", "(IJJJ)J"⟩, 62), (⟨"MirrorLaneModel", "ofResidue", "(IJJJ)J"⟩, 62), (⟨"MirrorLaneModel", "areAlike", "(II)Z"⟩, 62), (⟨"MirrorLaneModel", "areJoinedAlike", "(II)Z"⟩, 62), (⟨"MirrorLaneModel", "isPlain", "(I)Z"⟩, 62), (⟨"MirrorLaneModel", "isLetters", "(I)Z"⟩, 62), (⟨"MirrorLaneModel", "joinsAll", "()V"⟩, 62), (⟨"MirrorLaneModel", "stateOf", "(I)I"⟩, 62), (⟨"MirrorLaneModel", "ends", "(I)I"⟩, 62), (⟨"MirrorLaneModel", "comes", "(III)V"⟩, 62), (⟨"MirrorLaneModel", "targetOf", "(I)I"⟩, 62), (⟨"MirrorLaneModel", "prices", "(I)V"⟩, 62), (⟨"MirrorLaneModel", "best", "(I)I"⟩, 62)]
theorem lw_r5 : ∀ q ∈ lw_privs_5, lw_okq q := List.forall_mem_cons.mpr ⟨lw_p64, List.forall_mem_cons.mpr ⟨lw_p65, List.forall_mem_cons.mpr ⟨lw_p66, List.forall_mem_cons.mpr ⟨lw_p67, List.forall_mem_cons.mpr ⟨lw_p68, List.forall_mem_cons.mpr ⟨lw_p69, List.forall_mem_cons.mpr ⟨lw_p70, List.forall_mem_cons.mpr ⟨lw_p71, List.forall_mem_cons.mpr ⟨lw_p72, List.forall_mem_cons.mpr ⟨lw_p73, List.forall_mem_cons.mpr ⟨lw_p74, List.forall_mem_cons.mpr ⟨lw_p75, List.forall_mem_cons.mpr ⟨lw_p76, List.forall_mem_cons.mpr ⟨lw_p77, List.forall_mem_cons.mpr ⟨lw_p78, List.forall_mem_cons.mpr ⟨lw_p79, fun _ h => absurd h List.not_mem_nil⟩⟩⟩⟩⟩⟩⟩⟩⟩⟩⟩⟩⟩⟩⟩⟩
theorem lw_p80 : lw_okq (⟨"MirrorLaneModel", "isOne", "(II)Z"⟩, 62) := ⟨⟨by decide +kernel, by decide +kernel⟩, List.mem_of_getElem? (i := 906) (by decide +kernel), List.mem_of_getElem? (i := 1419) (by decide +kernel), List.mem_of_getElem? (i := 1420) (by decide +kernel)⟩
theorem lw_p81 : lw_okq (⟨"MirrorLaneModel", "numberAt", "(I)I"⟩, 62) := ⟨⟨by decide +kernel, by decide +kernel⟩, List.mem_of_getElem? (i := 906) (by decide +kernel), List.mem_of_getElem? (i := 1428) (by decide +kernel), List.mem_of_getElem? (i := 1429) (by decide +kernel)⟩
theorem lw_p82 : lw_okq (⟨"MirrorLaneModel", "writesOut", "(I)V"⟩, 62) := ⟨⟨by decide +kernel, by decide +kernel⟩, List.mem_of_getElem? (i := 906) (by decide +kernel), List.mem_of_getElem? (i := 1437) (by decide +kernel), List.mem_of_getElem? (i := 1438) (by decide +kernel)⟩
theorem lw_p83 : lw_okq (⟨"MirrorLaneModel", "writesAgain", "(III)V"⟩, 62) := ⟨⟨by decide +kernel, by decide +kernel⟩, List.mem_of_getElem? (i := 906) (by decide +kernel), List.mem_of_getElem? (i := 1441) (by decide +kernel), List.mem_of_getElem? (i := 1442) (by decide +kernel)⟩
theorem lw_p84 : lw_okq (⟨"MirrorLaneModel", "writes", "(II)V"⟩, 62) := ⟨⟨by decide +kernel, by decide +kernel⟩, List.mem_of_getElem? (i := 906) (by decide +kernel), List.mem_of_getElem? (i := 1445) (by decide +kernel), List.mem_of_getElem? (i := 1446) (by decide +kernel)⟩
def lw_privs_6 : List (MethodName × Nat) := [(⟨"MirrorLaneModel", "isOne", "(II)Z"⟩, 62), (⟨"MirrorLaneModel", "numberAt", "(I)I"⟩, 62), (⟨"MirrorLaneModel", "writesOut", "(I)V"⟩, 62), (⟨"MirrorLaneModel", "writesAgain", "(III)V"⟩, 62), (⟨"MirrorLaneModel", "writes", "(II)V"⟩, 62)]
theorem lw_r6 : ∀ q ∈ lw_privs_6, lw_okq q := List.forall_mem_cons.mpr ⟨lw_p80, List.forall_mem_cons.mpr ⟨lw_p81, List.forall_mem_cons.mpr ⟨lw_p82, List.forall_mem_cons.mpr ⟨lw_p83, List.forall_mem_cons.mpr ⟨lw_p84, fun _ h => absurd h List.not_mem_nil⟩⟩⟩⟩⟩
def lw_privs : List (MethodName × Nat) := lw_privs_1 ++ (lw_privs_2 ++ (lw_privs_3 ++ (lw_privs_4 ++ (lw_privs_5 ++ (lw_privs_6)))))
def lw_tbl : List Cond := k2_sels lw_privs ++ tables_1
theorem lw_privs_ok : ∀ q ∈ lw_privs, lw_okq q := by
  show ∀ q ∈ lw_privs_1 ++ (lw_privs_2 ++ (lw_privs_3 ++ (lw_privs_4 ++ (lw_privs_5 ++ (lw_privs_6))))), lw_okq q
  exact List.forall_mem_append.mpr ⟨lw_r1, List.forall_mem_append.mpr ⟨lw_r2, List.forall_mem_append.mpr ⟨lw_r3, List.forall_mem_append.mpr ⟨lw_r4, List.forall_mem_append.mpr ⟨lw_r5, lw_r6⟩⟩⟩⟩⟩

def ml_T : List Cond := lw_tbl.filter goodWord
theorem ml_in {w : Cond} (h : w ∈ lw_tbl) (g : goodWord w = true) : w ∈ ml_T := List.mem_filter.mpr ⟨h, g⟩
theorem ml_tA {w : Cond} (h : w ∈ tables_1) : w ∈ lw_tbl := List.mem_append_right _ h
theorem ml_t1 {w : Cond} (h : w ∈ tables_1_1) : w ∈ lw_tbl := ml_tA (show w ∈ tables_1 from List.mem_append_left _ h)
theorem ml_t2 {w : Cond} (h : w ∈ tables_1_2) : w ∈ lw_tbl := ml_tA (show w ∈ tables_1 from List.mem_append_right _ (List.mem_append_left _ h))
theorem ml_t3 {w : Cond} (h : w ∈ tables_1_3) : w ∈ lw_tbl := ml_tA (show w ∈ tables_1 from List.mem_append_right _ (List.mem_append_right _ (List.mem_append_left _ h)))
theorem ml_t4 {w : Cond} (h : w ∈ tables_1_4) : w ∈ lw_tbl := ml_tA (show w ∈ tables_1 from List.mem_append_right _ (List.mem_append_right _ (List.mem_append_right _ (List.mem_append_left _ h))))
theorem ml_t5 {w : Cond} (h : w ∈ tables_1_5) : w ∈ lw_tbl := ml_tA (show w ∈ tables_1 from List.mem_append_right _ (List.mem_append_right _ (List.mem_append_right _ (List.mem_append_right _ (List.mem_append_left _ h)))))
theorem ml_t6 {w : Cond} (h : w ∈ tables_1_6) : w ∈ lw_tbl := ml_tA (show w ∈ tables_1 from List.mem_append_right _ (List.mem_append_right _ (List.mem_append_right _ (List.mem_append_right _ (List.mem_append_right _ (List.mem_append_left _ h))))))
theorem ml_t7 {w : Cond} (h : w ∈ tables_1_7) : w ∈ lw_tbl := ml_tA (show w ∈ tables_1 from List.mem_append_right _ (List.mem_append_right _ (List.mem_append_right _ (List.mem_append_right _ (List.mem_append_right _ (List.mem_append_right _ (h)))))))
end
section
def RX0 : String := "MirrorLane$Closing"
def TX0 : u_T := fun k => match k with
  | 0 => ("MirrorLane$Closing", "joint", "[I", true)
  | _ => ("MirrorLane$Closing", "byCaps", "Z", false)
def tyX0 : Nat → FieldType := fun k => match k with
  | 0 => .array .int
  | _ => .boolean
theorem nmX0 : ∀ a, a < 2 → ∀ b, b < 2 → a ≠ b → (TX0 a).2.1 ≠ (TX0 b).2.1 := by decide +kernel
theorem tyX0_ok : ∀ k, k < 2 → parseFieldDescriptor (TX0 k).2.2.1 = some (tyX0 k) := by decide +kernel
abbrev cX0_init : ByteArray := prog_2_method_1_code
def yX0_init : MethodName := ⟨RX0, "<init>", "()V"⟩
abbrev cX0_goRound : ByteArray := prog_2_method_2_code
def yX0_goRound : MethodName := ⟨RX0, "goRound", "(I)V"⟩
def RX1 : String := "MirrorLane$Finder"
def TX1 : u_T := fun k => match k with
  | 0 => ("MirrorLane$Finder", "queue", "[I", true)
  | 1 => ("MirrorLane$Finder", "from", "[I", true)
  | 2 => ("MirrorLane$Finder", "by", "[I", true)
  | 3 => ("MirrorLane$Finder", "found", "[I", true)
  | 4 => ("MirrorLane$Finder", "rest", "[J", true)
  | 5 => ("MirrorLane$Finder", "size", "I", false)
  | _ => ("MirrorLane$Finder", "price", "I", false)
def tyX1 : Nat → FieldType := fun k => match k with
  | 0 => .array .int
  | 1 => .array .int
  | 2 => .array .int
  | 3 => .array .int
  | 4 => .array .long
  | 5 => .int
  | _ => .int
theorem nmX1 : ∀ a, a < 7 → ∀ b, b < 7 → a ≠ b → (TX1 a).2.1 ≠ (TX1 b).2.1 := by decide +kernel
theorem tyX1_ok : ∀ k, k < 7 → parseFieldDescriptor (TX1 k).2.2.1 = some (tyX1 k) := by decide +kernel
abbrev cX1_init : ByteArray := prog_3_method_1_code
def yX1_init : MethodName := ⟨RX1, "<init>", "()V"⟩
def RX2 : String := "MirrorLane$Grammar"
def TX2 : u_T := fun k => match k with
  | 0 => ("MirrorLane$Grammar", "text", "[B", false)
  | 1 => ("MirrorLane$Grammar", "size", "I", false)
  | 2 => ("MirrorLane$Grammar", "at", "I", false)
  | 3 => ("MirrorLane$Grammar", "depth", "I", false)
  | 4 => ("MirrorLane$Grammar", "repeatable", "Z", false)
  | 5 => ("MirrorLane$Grammar", "needsItem", "Z", false)
  | _ => ("MirrorLane$Grammar", "fault", "I", false)
def tyX2 : Nat → FieldType := fun k => match k with
  | 0 => .array .byte
  | 1 => .int
  | 2 => .int
  | 3 => .int
  | 4 => .boolean
  | 5 => .boolean
  | _ => .int
theorem nmX2 : ∀ a, a < 7 → ∀ b, b < 7 → a ≠ b → (TX2 a).2.1 ≠ (TX2 b).2.1 := by decide +kernel
theorem tyX2_ok : ∀ k, k < 7 → parseFieldDescriptor (TX2 k).2.2.1 = some (tyX2 k) := by decide +kernel
abbrev cX2_init : ByteArray := prog_4_method_1_code
def yX2_init : MethodName := ⟨RX2, "<init>", "()V"⟩
def RX3 : String := "MirrorLane$Items"
def TX3 : u_T := fun k => match k with
  | 0 => ("MirrorLane$Items", "text", "[B", false)
  | 1 => ("MirrorLane$Items", "size", "I", false)
  | 2 => ("MirrorLane$Items", "at", "I", false)
  | 3 => ("MirrorLane$Items", "kind", "I", false)
  | 4 => ("MirrorLane$Items", "value", "I", false)
  | _ => ("MirrorLane$Items", "times", "I", false)
def tyX3 : Nat → FieldType := fun k => match k with
  | 0 => .array .byte
  | 1 => .int
  | 2 => .int
  | 3 => .int
  | 4 => .int
  | _ => .int
theorem nmX3 : ∀ a, a < 6 → ∀ b, b < 6 → a ≠ b → (TX3 a).2.1 ≠ (TX3 b).2.1 := by decide +kernel
theorem tyX3_ok : ∀ k, k < 6 → parseFieldDescriptor (TX3 k).2.2.1 = some (tyX3 k) := by decide +kernel
abbrev cX3_init : ByteArray := prog_5_method_1_code
def yX3_init : MethodName := ⟨RX3, "<init>", "()V"⟩
def RX4 : String := "MirrorLane$Loom"
def TX4 : u_T := fun k => match k with
  | 0 => ("MirrorLane$Loom", "items", "LMirrorLane$Items;", true)
  | 1 => ("MirrorLane$Loom", "open", "[LMirrorLane$Weave;", true)
  | 2 => ("MirrorLane$Loom", "starts", "[I", true)
  | 3 => ("MirrorLane$Loom", "item", "LMirrorLane$Weave;", true)
  | 4 => ("MirrorLane$Loom", "base", "LMirrorLane$Weave;", true)
  | 5 => ("MirrorLane$Loom", "spare", "LMirrorLane$Weave;", true)
  | _ => ("MirrorLane$Loom", "other", "LMirrorLane$Weave;", true)
def tyX4 : Nat → FieldType := fun k => match k with
  | 0 => .object "MirrorLane$Items"
  | 1 => .array (.object "MirrorLane$Weave")
  | 2 => .array .int
  | 3 => .object "MirrorLane$Weave"
  | 4 => .object "MirrorLane$Weave"
  | 5 => .object "MirrorLane$Weave"
  | _ => .object "MirrorLane$Weave"
theorem nmX4 : ∀ a, a < 7 → ∀ b, b < 7 → a ≠ b → (TX4 a).2.1 ≠ (TX4 b).2.1 := by decide +kernel
theorem tyX4_ok : ∀ k, k < 7 → parseFieldDescriptor (TX4 k).2.2.1 = some (tyX4 k) := by decide +kernel
abbrev cX4_init : ByteArray := prog_6_method_1_code
def yX4_init : MethodName := ⟨RX4, "<init>", "()V"⟩
def RX5 : String := "MirrorLane$Mender"
def TX5 : u_T := fun k => match k with
  | 0 => ("MirrorLane$Mender", "tails", "[LMirrorLane$Weave;", true)
  | _ => ("MirrorLane$Mender", "mirror", "LMirrorLane$Weave;", true)
def tyX5 : Nat → FieldType := fun k => match k with
  | 0 => .array (.object "MirrorLane$Weave")
  | _ => .object "MirrorLane$Weave"
theorem nmX5 : ∀ a, a < 2 → ∀ b, b < 2 → a ≠ b → (TX5 a).2.1 ≠ (TX5 b).2.1 := by decide +kernel
theorem tyX5_ok : ∀ k, k < 2 → parseFieldDescriptor (TX5 k).2.2.1 = some (tyX5 k) := by decide +kernel
abbrev cX5_init : ByteArray := prog_7_method_1_code
def yX5_init : MethodName := ⟨RX5, "<init>", "()V"⟩
def RX6 : String := "MirrorLane$Powers"
def TX6 : u_T := fun k => match k with
  | 0 => ("MirrorLane$Powers", "numbers", "[I", true)
  | 1 => ("MirrorLane$Powers", "left", "[J", true)
  | 2 => ("MirrorLane$Powers", "last", "LMirrorLane$Weave;", true)
  | 3 => ("MirrorLane$Powers", "spare", "LMirrorLane$Weave;", true)
  | 4 => ("MirrorLane$Powers", "index", "I", false)
  | 5 => ("MirrorLane$Powers", "period", "I", false)
  | 6 => ("MirrorLane$Powers", "gain", "J", false)
  | 7 => ("MirrorLane$Powers", "step", "I", false)
  | 8 => ("MirrorLane$Powers", "more", "J", false)
  | _ => ("MirrorLane$Powers", "since", "I", false)
def tyX6 : Nat → FieldType := fun k => match k with
  | 0 => .array .int
  | 1 => .array .long
  | 2 => .object "MirrorLane$Weave"
  | 3 => .object "MirrorLane$Weave"
  | 4 => .int
  | 5 => .int
  | 6 => .long
  | 7 => .int
  | 8 => .long
  | _ => .int
theorem nmX6 : ∀ a, a < 10 → ∀ b, b < 10 → a ≠ b → (TX6 a).2.1 ≠ (TX6 b).2.1 := by decide +kernel
theorem tyX6_ok : ∀ k, k < 10 → parseFieldDescriptor (TX6 k).2.2.1 = some (tyX6 k) := by decide +kernel
abbrev cX6_init : ByteArray := prog_8_method_1_code
def yX6_init : MethodName := ⟨RX6, "<init>", "()V"⟩
def RX7 : String := "MirrorLane$Sentences"
def TX7 : u_T := fun k => match k with
  | 0 => ("MirrorLane$Sentences", "set", "I", false)
  | 1 => ("MirrorLane$Sentences", "letters", "I", false)
  | 2 => ("MirrorLane$Sentences", "places", "I", false)
  | 3 => ("MirrorLane$Sentences", "letter", "[I", true)
  | 4 => ("MirrorLane$Sentences", "place", "[I", true)
  | 5 => ("MirrorLane$Sentences", "next", "[I", true)
  | 6 => ("MirrorLane$Sentences", "more", "[I", true)
  | 7 => ("MirrorLane$Sentences", "closed", "[I", true)
  | 8 => ("MirrorLane$Sentences", "pairs", "[I", true)
  | 9 => ("MirrorLane$Sentences", "row", "[J", true)
  | 10 => ("MirrorLane$Sentences", "after", "[J", true)
  | 11 => ("MirrorLane$Sentences", "rowOf", "I", false)
  | 12 => ("MirrorLane$Sentences", "here", "LMirrorLane$Weave;", true)
  | _ => ("MirrorLane$Sentences", "there", "LMirrorLane$Weave;", true)
def tyX7 : Nat → FieldType := fun k => match k with
  | 0 => .int
  | 1 => .int
  | 2 => .int
  | 3 => .array .int
  | 4 => .array .int
  | 5 => .array .int
  | 6 => .array .int
  | 7 => .array .int
  | 8 => .array .int
  | 9 => .array .long
  | 10 => .array .long
  | 11 => .int
  | 12 => .object "MirrorLane$Weave"
  | _ => .object "MirrorLane$Weave"
theorem nmX7 : ∀ a, a < 14 → ∀ b, b < 14 → a ≠ b → (TX7 a).2.1 ≠ (TX7 b).2.1 := by decide +kernel
theorem tyX7_ok : ∀ k, k < 14 → parseFieldDescriptor (TX7 k).2.2.1 = some (tyX7 k) := by decide +kernel
abbrev cX7_init : ByteArray := prog_9_method_1_code
def yX7_init : MethodName := ⟨RX7, "<init>", "()V"⟩
def RX8 : String := "MirrorLane$Tape"
def TX8 : u_T := fun k => match k with
  | 0 => ("MirrorLane$Tape", "bytes", "[I", true)
  | _ => ("MirrorLane$Tape", "size", "I", false)
def tyX8 : Nat → FieldType := fun k => match k with
  | 0 => .array .int
  | _ => .int
theorem nmX8 : ∀ a, a < 2 → ∀ b, b < 2 → a ≠ b → (TX8 a).2.1 ≠ (TX8 b).2.1 := by decide +kernel
theorem tyX8_ok : ∀ k, k < 2 → parseFieldDescriptor (TX8 k).2.2.1 = some (tyX8 k) := by decide +kernel
abbrev cX8_init : ByteArray := prog_10_method_1_code
def yX8_init : MethodName := ⟨RX8, "<init>", "()V"⟩
abbrev cX8_add : ByteArray := prog_10_method_2_code
def yX8_add : MethodName := ⟨RX8, "add", "(I)V"⟩
def RX9 : String := "MirrorLane$Weave"
def TX9 : u_T := fun k => match k with
  | 0 => ("MirrorLane$Weave", "pair", "[I", true)
  | 1 => ("MirrorLane$Weave", "run", "[J", true)
  | 2 => ("MirrorLane$Weave", "loops", "J", false)
  | 3 => ("MirrorLane$Weave", "longest", "J", false)
  | 4 => ("MirrorLane$Weave", "total", "J", false)
  | 5 => ("MirrorLane$Weave", "signs", "J", false)
  | 6 => ("MirrorLane$Weave", "crosses", "Z", false)
  | _ => ("MirrorLane$Weave", "turns", "Z", false)
def tyX9 : Nat → FieldType := fun k => match k with
  | 0 => .array .int
  | 1 => .array .long
  | 2 => .long
  | 3 => .long
  | 4 => .long
  | 5 => .long
  | 6 => .boolean
  | _ => .boolean
theorem nmX9 : ∀ a, a < 8 → ∀ b, b < 8 → a ≠ b → (TX9 a).2.1 ≠ (TX9 b).2.1 := by decide +kernel
theorem tyX9_ok : ∀ k, k < 8 → parseFieldDescriptor (TX9 k).2.2.1 = some (tyX9 k) := by decide +kernel
abbrev cX9_init : ByteArray := prog_11_method_1_code
def yX9_init : MethodName := ⟨RX9, "<init>", "()V"⟩
def RX10 : String := "MirrorLane$Word"
def TX10 : u_T := fun k => match k with
  | 0 => ("MirrorLane$Word", "text", "[B", true)
  | 1 => ("MirrorLane$Word", "size", "I", false)
  | 2 => ("MirrorLane$Word", "plain", "Z", false)
  | 3 => ("MirrorLane$Word", "price", "I", false)
  | 4 => ("MirrorLane$Word", "made", "LMirrorLane$Weave;", true)
  | 5 => ("MirrorLane$Word", "row", "[B", true)
  | 6 => ("MirrorLane$Word", "rowSize", "I", false)
  | _ => ("MirrorLane$Word", "written", "Z", false)
def tyX10 : Nat → FieldType := fun k => match k with
  | 0 => .array .byte
  | 1 => .int
  | 2 => .boolean
  | 3 => .int
  | 4 => .object "MirrorLane$Weave"
  | 5 => .array .byte
  | 6 => .int
  | _ => .boolean
theorem nmX10 : ∀ a, a < 8 → ∀ b, b < 8 → a ≠ b → (TX10 a).2.1 ≠ (TX10 b).2.1 := by decide +kernel
theorem tyX10_ok : ∀ k, k < 8 → parseFieldDescriptor (TX10 k).2.2.1 = some (tyX10 k) := by decide +kernel
abbrev cX10_init : ByteArray := prog_12_method_1_code
def yX10_init : MethodName := ⟨RX10, "<init>", "()V"⟩
def RX11 : String := "MirrorLane"
def TX11 : u_T := fun k => match k with
  | 0 => ("MirrorLane", "tape", "LMirrorLane$Tape;", true)
  | 1 => ("MirrorLane", "closing", "LMirrorLane$Closing;", true)
  | 2 => ("MirrorLane", "grammar", "LMirrorLane$Grammar;", true)
  | 3 => ("MirrorLane", "loom", "LMirrorLane$Loom;", true)
  | 4 => ("MirrorLane", "powers", "LMirrorLane$Powers;", true)
  | 5 => ("MirrorLane", "sentences", "LMirrorLane$Sentences;", true)
  | 6 => ("MirrorLane", "finder", "LMirrorLane$Finder;", true)
  | 7 => ("MirrorLane", "mender", "LMirrorLane$Mender;", true)
  | 8 => ("MirrorLane", "words", "[LMirrorLane$Word;", true)
  | 9 => ("MirrorLane", "draft", "[B", true)
  | 10 => ("MirrorLane", "woven", "LMirrorLane$Weave;", true)
  | 11 => ("MirrorLane", "h", "I", false)
  | _ => ("MirrorLane", "told", "I", false)
def tyX11 : Nat → FieldType := fun k => match k with
  | 0 => .object "MirrorLane$Tape"
  | 1 => .object "MirrorLane$Closing"
  | 2 => .object "MirrorLane$Grammar"
  | 3 => .object "MirrorLane$Loom"
  | 4 => .object "MirrorLane$Powers"
  | 5 => .object "MirrorLane$Sentences"
  | 6 => .object "MirrorLane$Finder"
  | 7 => .object "MirrorLane$Mender"
  | 8 => .array (.object "MirrorLane$Word")
  | 9 => .array .byte
  | 10 => .object "MirrorLane$Weave"
  | 11 => .int
  | _ => .int
theorem nmX11 : ∀ a, a < 13 → ∀ b, b < 13 → a ≠ b → (TX11 a).2.1 ≠ (TX11 b).2.1 := by decide +kernel
theorem tyX11_ok : ∀ k, k < 13 → parseFieldDescriptor (TX11 k).2.2.1 = some (tyX11 k) := by decide +kernel
abbrev cX11_init : ByteArray := prog_1_method_1_code
def yX11_init : MethodName := ⟨RX11, "<init>", "()V"⟩
abbrev cX11_rails : ByteArray := prog_1_method_2_code
def yX11_rails : MethodName := ⟨RX11, "rails", "(I)Z"⟩
abbrev cX11_feed : ByteArray := prog_1_method_3_code
def yX11_feed : MethodName := ⟨RX11, "feed", "(IIIII)I"⟩
abbrev cX11_word : ByteArray := prog_1_method_4_code
def yX11_word : MethodName := ⟨RX11, "word", "(I)I"⟩
abbrev cX11_change : ByteArray := prog_1_method_5_code
def yX11_change : MethodName := ⟨RX11, "change", "(II)I"⟩
abbrev cX11_round : ByteArray := prog_1_method_6_code
def yX11_round : MethodName := ⟨RX11, "round", "()Z"⟩
abbrev cX11_caps : ByteArray := prog_1_method_7_code
def yX11_caps : MethodName := ⟨RX11, "caps", "()Z"⟩
abbrev cX11_signs : ByteArray := prog_1_method_8_code
def yX11_signs : MethodName := ⟨RX11, "signs", "(I)J"⟩
abbrev cX11_joined : ByteArray := prog_1_method_9_code
def yX11_joined : MethodName := ⟨RX11, "joined", "(II)I"⟩
abbrev cX11_length : ByteArray := prog_1_method_10_code
def yX11_length : MethodName := ⟨RX11, "length", "(II)J"⟩
abbrev cX11_loops : ByteArray := prog_1_method_11_code
def yX11_loops : MethodName := ⟨RX11, "loops", "(II)J"⟩
abbrev cX11_power : ByteArray := prog_1_method_12_code
def yX11_power : MethodName := ⟨RX11, "power", "(II)I"⟩
abbrev cX11_rule : ByteArray := prog_1_method_13_code
def yX11_rule : MethodName := ⟨RX11, "rule", "(II)J"⟩
abbrev cX11_left : ByteArray := prog_1_method_14_code
def yX11_left : MethodName := ⟨RX11, "left", "(IJ)J"⟩
abbrev cX11_those : ByteArray := prog_1_method_15_code
def yX11_those : MethodName := ⟨RX11, "those", "(IJJJ)J"⟩
abbrev cX11_first : ByteArray := prog_1_method_16_code
def yX11_first : MethodName := ⟨RX11, "first", "(IJ)J"⟩
abbrev cX11_both : ByteArray := prog_1_method_17_code
def yX11_both : MethodName := ⟨RX11, "both", "(III)I"⟩
abbrev cX11_is : ByteArray := prog_1_method_18_code
def yX11_is : MethodName := ⟨RX11, "is", "(II)I"⟩
abbrev cX11_many : ByteArray := prog_1_method_19_code
def yX11_many : MethodName := ⟨RX11, "many", "(III)I"⟩
abbrev cX11_made : ByteArray := prog_1_method_20_code
def yX11_made : MethodName := ⟨RX11, "made", "(I)I"⟩
abbrev cX11_shortest : ByteArray := prog_1_method_21_code
def yX11_shortest : MethodName := ⟨RX11, "shortest", "(III)I"⟩
abbrev cX11_cost : ByteArray := prog_1_method_22_code
def yX11_cost : MethodName := ⟨RX11, "cost", "(II)Z"⟩
abbrev cX11_cheapest : ByteArray := prog_1_method_23_code
def yX11_cheapest : MethodName := ⟨RX11, "cheapest", "(III)I"⟩
abbrev cX11_mend : ByteArray := prog_1_method_24_code
def yX11_mend : MethodName := ⟨RX11, "mend", "(I)I"⟩
abbrev cX11_back : ByteArray := prog_1_method_25_code
def yX11_back : MethodName := ⟨RX11, "back", "(I)I"⟩
abbrev cX11_walk : ByteArray := prog_1_method_26_code
def yX11_walk : MethodName := ⟨RX11, "walk", "(III)I"⟩
abbrev cX11_check : ByteArray := prog_1_method_27_code
def yX11_check : MethodName := ⟨RX11, "check", "(I)I"⟩
abbrev cX11_count : ByteArray := prog_1_method_28_code
def yX11_count : MethodName := ⟨RX11, "count", "(I)I"⟩
abbrev cX11_isTold : ByteArray := prog_1_method_29_code
def yX11_isTold : MethodName := ⟨RX11, "isTold", "(I)Z"⟩
abbrev cX11_isMade : ByteArray := prog_1_method_30_code
def yX11_isMade : MethodName := ⟨RX11, "isMade", "(I)Z"⟩
abbrev cX11_isEnd : ByteArray := prog_1_method_31_code
def yX11_isEnd : MethodName := ⟨RX11, "isEnd", "(I)Z"⟩
abbrev cX11_isPower : ByteArray := prog_1_method_32_code
def yX11_isPower : MethodName := ⟨RX11, "isPower", "(J)Z"⟩
abbrev cX11_isStretch : ByteArray := prog_1_method_33_code
def yX11_isStretch : MethodName := ⟨RX11, "isStretch", "(JJ)Z"⟩
abbrev cX11_tell : ByteArray := prog_1_method_34_code
def yX11_tell : MethodName := ⟨RX11, "tell", "(II)I"⟩
abbrev cX11_openLetters : ByteArray := prog_1_method_36_code
def yX11_openLetters : MethodName := ⟨RX11, "openLetters", "(I)Z"⟩
def RX12 : String := "MirrorLaneModel"
def TX12 : u_T := fun k => match k with
  | 0 => ("MirrorLaneModel", "tape", "[B", true)
  | 1 => ("MirrorLaneModel", "taped", "I", false)
  | 2 => ("MirrorLaneModel", "h", "I", false)
  | 3 => ("MirrorLaneModel", "words", "I", false)
  | 4 => ("MirrorLaneModel", "isCapped", "Z", false)
  | 5 => ("MirrorLaneModel", "cap", "[I", true)
  | 6 => ("MirrorLaneModel", "text", "[B", true)
  | 7 => ("MirrorLaneModel", "size", "[I", true)
  | 8 => ("MirrorLaneModel", "cost", "[I", true)
  | 9 => ("MirrorLaneModel", "place", "I", false)
  | 10 => ("MirrorLaneModel", "end", "I", false)
  | 11 => ("MirrorLaneModel", "bad", "I", false)
  | 12 => ("MirrorLaneModel", "open", "I", false)
  | 13 => ("MirrorLaneModel", "crosses", "[J", true)
  | 14 => ("MirrorLaneModel", "backs", "[J", true)
  | 15 => ("MirrorLaneModel", "accX", "[J", true)
  | 16 => ("MirrorLaneModel", "accU", "[J", true)
  | 17 => ("MirrorLaneModel", "lastX", "[J", true)
  | 18 => ("MirrorLaneModel", "lastU", "[J", true)
  | 19 => ("MirrorLaneModel", "readAt", "I", false)
  | 20 => ("MirrorLaneModel", "readWord", "I", false)
  | 21 => ("MirrorLaneModel", "pair", "[I", true)
  | 22 => ("MirrorLaneModel", "length", "[J", true)
  | 23 => ("MirrorLaneModel", "within", "[J", true)
  | 24 => ("MirrorLaneModel", "longest", "[J", true)
  | 25 => ("MirrorLaneModel", "together", "[J", true)
  | 26 => ("MirrorLaneModel", "isSeen", "[Z", true)
  | 27 => ("MirrorLaneModel", "went", "J", false)
  | 28 => ("MirrorLaneModel", "old", "[B", true)
  | 29 => ("MirrorLaneModel", "isDone", "[Z", true)
  | 30 => ("MirrorLaneModel", "codes", "[J", true)
  | 31 => ("MirrorLaneModel", "lefts", "[J", true)
  | 32 => ("MirrorLaneModel", "index", "I", false)
  | 33 => ("MirrorLaneModel", "period", "I", false)
  | 34 => ("MirrorLaneModel", "known", "I", false)
  | 35 => ("MirrorLaneModel", "gains", "J", false)
  | 36 => ("MirrorLaneModel", "firstOf", "J", false)
  | 37 => ("MirrorLaneModel", "foundFirst", "J", false)
  | 38 => ("MirrorLaneModel", "letters", "I", false)
  | 39 => ("MirrorLaneModel", "states", "I", false)
  | 40 => ("MirrorLaneModel", "letter", "[I", true)
  | 41 => ("MirrorLaneModel", "stateCode", "[J", true)
  | 42 => ("MirrorLaneModel", "statePair", "[B", true)
  | 43 => ("MirrorLaneModel", "next", "[I", true)
  | 44 => ("MirrorLaneModel", "more", "[I", true)
  | 45 => ("MirrorLaneModel", "firstState", "[I", true)
  | 46 => ("MirrorLaneModel", "closed", "[I", true)
  | 47 => ("MirrorLaneModel", "ways", "[J", true)
  | 48 => ("MirrorLaneModel", "then", "[J", true)
  | 49 => ("MirrorLaneModel", "isCome", "[Z", true)
  | 50 => ("MirrorLaneModel", "queue", "[I", true)
  | 51 => ("MirrorLaneModel", "cameFrom", "[I", true)
  | 52 => ("MirrorLaneModel", "cameBy", "[I", true)
  | 53 => ("MirrorLaneModel", "queued", "I", false)
  | 54 => ("MirrorLaneModel", "price", "[I", true)
  | 55 => ("MirrorLaneModel", "steps", "[I", true)
  | 56 => ("MirrorLaneModel", "kinds", "[I", true)
  | 57 => ("MirrorLaneModel", "rails", "[I", true)
  | 58 => ("MirrorLaneModel", "written", "[B", true)
  | 59 => ("MirrorLaneModel", "writtenMany", "[I", true)
  | 60 => ("MirrorLaneModel", "itemFrom", "[I", true)
  | _ => ("MirrorLaneModel", "wrote", "I", false)
def tyX12 : Nat → FieldType := fun k => match k with
  | 0 => .array .byte
  | 1 => .int
  | 2 => .int
  | 3 => .int
  | 4 => .boolean
  | 5 => .array .int
  | 6 => .array .byte
  | 7 => .array .int
  | 8 => .array .int
  | 9 => .int
  | 10 => .int
  | 11 => .int
  | 12 => .int
  | 13 => .array .long
  | 14 => .array .long
  | 15 => .array .long
  | 16 => .array .long
  | 17 => .array .long
  | 18 => .array .long
  | 19 => .int
  | 20 => .int
  | 21 => .array .int
  | 22 => .array .long
  | 23 => .array .long
  | 24 => .array .long
  | 25 => .array .long
  | 26 => .array .boolean
  | 27 => .long
  | 28 => .array .byte
  | 29 => .array .boolean
  | 30 => .array .long
  | 31 => .array .long
  | 32 => .int
  | 33 => .int
  | 34 => .int
  | 35 => .long
  | 36 => .long
  | 37 => .long
  | 38 => .int
  | 39 => .int
  | 40 => .array .int
  | 41 => .array .long
  | 42 => .array .byte
  | 43 => .array .int
  | 44 => .array .int
  | 45 => .array .int
  | 46 => .array .int
  | 47 => .array .long
  | 48 => .array .long
  | 49 => .array .boolean
  | 50 => .array .int
  | 51 => .array .int
  | 52 => .array .int
  | 53 => .int
  | 54 => .array .int
  | 55 => .array .int
  | 56 => .array .int
  | 57 => .array .int
  | 58 => .array .byte
  | 59 => .array .int
  | 60 => .array .int
  | _ => .int
theorem nmX12 : ∀ a, a < 62 → ∀ b, b < 62 → a ≠ b → (TX12 a).2.1 ≠ (TX12 b).2.1 := by decide +kernel
theorem tyX12_ok : ∀ k, k < 62 → parseFieldDescriptor (TX12 k).2.2.1 = some (tyX12 k) := by decide +kernel
abbrev cX12_init : ByteArray := prog_14_method_1_code
def yX12_init : MethodName := ⟨RX12, "<init>", "()V"⟩
abbrev cX12_lies : ByteArray := prog_14_method_2_code
def yX12_lies : MethodName := ⟨RX12, "lies", "(JJJ)Z"⟩
abbrev cX12_isWord : ByteArray := prog_14_method_4_code
def yX12_isWord : MethodName := ⟨RX12, "isWord", "(I)Z"⟩
abbrev cX12_rails : ByteArray := prog_14_method_5_code
def yX12_rails : MethodName := ⟨RX12, "rails", "(I)Z"⟩
abbrev cX12_push : ByteArray := prog_14_method_6_code
def yX12_push : MethodName := ⟨RX12, "push", "(I)V"⟩
abbrev cX12_feed : ByteArray := prog_14_method_7_code
def yX12_feed : MethodName := ⟨RX12, "feed", "(IIIII)I"⟩
abbrev cX12_isLength : ByteArray := prog_14_method_34_code
def yX12_isLength : MethodName := ⟨RX12, "isLength", "(I)Z"⟩
abbrev cX12_word : ByteArray := prog_14_method_36_code
def yX12_word : MethodName := ⟨RX12, "word", "(I)I"⟩
abbrev cX12_change : ByteArray := prog_14_method_37_code
def yX12_change : MethodName := ⟨RX12, "change", "(II)I"⟩
abbrev cX12_round : ByteArray := prog_14_method_38_code
def yX12_round : MethodName := ⟨RX12, "round", "()Z"⟩
abbrev cX12_caps : ByteArray := prog_14_method_39_code
def yX12_caps : MethodName := ⟨RX12, "caps", "()Z"⟩
abbrev cX12_signs : ByteArray := prog_14_method_40_code
def yX12_signs : MethodName := ⟨RX12, "signs", "(I)J"⟩
abbrev cX12_isMade : ByteArray := prog_14_method_41_code
def yX12_isMade : MethodName := ⟨RX12, "isMade", "(I)Z"⟩
abbrev cX12_isEnd : ByteArray := prog_14_method_42_code
def yX12_isEnd : MethodName := ⟨RX12, "isEnd", "(I)Z"⟩
abbrev cX12_joined : ByteArray := prog_14_method_43_code
def yX12_joined : MethodName := ⟨RX12, "joined", "(II)I"⟩
abbrev cX12_length : ByteArray := prog_14_method_44_code
def yX12_length : MethodName := ⟨RX12, "length", "(II)J"⟩
abbrev cX12_loops : ByteArray := prog_14_method_47_code
def yX12_loops : MethodName := ⟨RX12, "loops", "(II)J"⟩
abbrev cX12_power : ByteArray := prog_14_method_50_code
def yX12_power : MethodName := ⟨RX12, "power", "(II)I"⟩
abbrev cX12_rule : ByteArray := prog_14_method_52_code
def yX12_rule : MethodName := ⟨RX12, "rule", "(II)J"⟩
abbrev cX12_left : ByteArray := prog_14_method_54_code
def yX12_left : MethodName := ⟨RX12, "left", "(IJ)J"⟩
abbrev cX12_those : ByteArray := prog_14_method_58_code
def yX12_those : MethodName := ⟨RX12, "those", "(IJJJ)J"⟩
abbrev cX12_first : ByteArray := prog_14_method_59_code
def yX12_first : MethodName := ⟨RX12, "first", "(IJ)J"⟩
abbrev cX12_both : ByteArray := prog_14_method_62_code
def yX12_both : MethodName := ⟨RX12, "both", "(III)I"⟩
abbrev cX12_is : ByteArray := prog_14_method_64_code
def yX12_is : MethodName := ⟨RX12, "is", "(II)I"⟩
abbrev cX12_isLetters : ByteArray := prog_14_method_65_code
def yX12_isLetters : MethodName := ⟨RX12, "isLetters", "(I)Z"⟩
abbrev cX12_many : ByteArray := prog_14_method_69_code
def yX12_many : MethodName := ⟨RX12, "many", "(III)I"⟩
abbrev cX12_made : ByteArray := prog_14_method_70_code
def yX12_made : MethodName := ⟨RX12, "made", "(I)I"⟩
abbrev cX12_shortest : ByteArray := prog_14_method_73_code
def yX12_shortest : MethodName := ⟨RX12, "shortest", "(III)I"⟩
abbrev cX12_cost : ByteArray := prog_14_method_74_code
def yX12_cost : MethodName := ⟨RX12, "cost", "(II)Z"⟩
abbrev cX12_cheapest : ByteArray := prog_14_method_78_code
def yX12_cheapest : MethodName := ⟨RX12, "cheapest", "(III)I"⟩
abbrev cX12_mend : ByteArray := prog_14_method_81_code
def yX12_mend : MethodName := ⟨RX12, "mend", "(I)I"⟩
abbrev cX12_back : ByteArray := prog_14_method_83_code
def yX12_back : MethodName := ⟨RX12, "back", "(I)I"⟩
abbrev cX12_walk : ByteArray := prog_14_method_87_code
def yX12_walk : MethodName := ⟨RX12, "walk", "(III)I"⟩
abbrev cX12_check : ByteArray := prog_14_method_88_code
def yX12_check : MethodName := ⟨RX12, "check", "(I)I"⟩
abbrev cX12_count : ByteArray := prog_14_method_89_code
def yX12_count : MethodName := ⟨RX12, "count", "(I)I"⟩
def RJ6 : String := "java/lang/Integer"
def TJ6 : u_T := fun k => match k with
  | _ => ("", "", "", false)
def tyJ6 : Nat → FieldType := fun k => match k with
  | _ => .int
abbrev cJ6_bitCount_0f7a4 : ByteArray := prog_15_method_49_code
def yJ6_bitCount_0f7a4 : MethodName := ⟨RJ6, "bitCount", "(I)I"⟩
def RJ9 : String := "java/lang/Math"
def TJ9 : u_T := fun k => match k with
  | _ => ("", "", "", false)
def tyJ9 : Nat → FieldType := fun k => match k with
  | _ => .int
def RJ10 : String := "java/lang/System"
def TJ10 : u_T := fun k => match k with
  | _ => ("", "", "", false)
def tyJ10 : Nat → FieldType := fun k => match k with
  | _ => .int
def RJ7 : String := "java/util/Arrays"
def TJ7 : u_T := fun k => match k with
  | _ => ("", "", "", false)
def tyJ7 : Nat → FieldType := fun k => match k with
  | _ => .int
def RL : String := "MirrorLaneLaw"
def ml_lays : List (Nat × Nat) := [(21, 13), (18, 2), (1, 200), (10, 2), (1, 10), (12, 7), (2, 0), (14, 7), (13, 6), (2, 0), (5, 7), (1, 7), (19, 8), (1, 10), (4, 10), (19, 8), (1, 10), (4, 10), (19, 8), (1, 10), (4, 10), (19, 8), (1, 10), (4, 10), (19, 8), (1, 10), (4, 10), (19, 8), (1, 10), (4, 10), (19, 8), (1, 10), (4, 10), (19, 8), (1, 10), (4, 10), (19, 8), (1, 10), (4, 10), (19, 8), (1, 10), (4, 10), (19, 8), (1, 10), (4, 10), (16, 10), (1, 65), (4, 65), (19, 8), (1, 10), (4, 10), (19, 8), (1, 10), (4, 10), (17, 14), (1, 6), (1, 945), (1, 5676), (1, 5676), (1, 946), (1, 9460), (4, 2838), (4, 2838), (19, 8), (1, 10), (4, 10), (19, 8), (1, 10), (4, 10), (11, 7), (1, 2838), (1, 2838), (1, 2838), (1, 2838), (4, 946), (15, 2), (5, 11), (19, 8), (1, 10), (4, 10), (19, 8), (1, 10), (4, 10), (19, 8), (1, 10), (4, 10), (19, 8), (1, 10), (4, 10), (19, 8), (1, 10), (4, 10), (19, 8), (1, 10), (4, 10), (19, 8), (1, 10), (4, 10), (19, 8), (1, 10), (4, 10), (19, 8), (1, 10), (4, 10), (19, 8), (1, 10), (4, 10), (19, 8), (1, 10), (4, 10), (19, 8), (1, 10), (4, 10), (6, 16), (2, 100), (19, 8), (1, 10), (4, 10), (20, 8), (2, 100), (19, 8), (1, 10), (4, 10), (2, 2000), (20, 8), (2, 100), (19, 8), (1, 10), (4, 10), (2, 2000), (20, 8), (2, 100), (19, 8), (1, 10), (4, 10), (2, 2000), (20, 8), (2, 100), (19, 8), (1, 10), (4, 10), (2, 2000), (20, 8), (2, 100), (19, 8), (1, 10), (4, 10), (2, 2000), (20, 8), (2, 100), (19, 8), (1, 10), (4, 10), (2, 2000), (20, 8), (2, 100), (19, 8), (1, 10), (4, 10), (2, 2000), (20, 8), (2, 100), (19, 8), (1, 10), (4, 10), (2, 2000), (20, 8), (2, 100), (19, 8), (1, 10), (4, 10), (2, 2000), (20, 8), (2, 100), (19, 8), (1, 10), (4, 10), (2, 2000), (20, 8), (2, 100), (19, 8), (1, 10), (4, 10), (2, 2000), (20, 8), (2, 100), (19, 8), (1, 10), (4, 10), (2, 2000), (20, 8), (2, 100), (19, 8), (1, 10), (4, 10), (2, 2000), (20, 8), (2, 100), (19, 8), (1, 10), (4, 10), (2, 2000), (20, 8), (2, 100), (19, 8), (1, 10), (4, 10), (2, 2000), (20, 8), (2, 100), (19, 8), (1, 10), (4, 10), (2, 2000), (22, 62), (2, 200), (1, 10), (2, 1600), (1, 16), (1, 16), (4, 16), (4, 16), (4, 8), (4, 8), (4, 8), (4, 8), (1, 640), (4, 640), (4, 64), (4, 64), (4, 64), (3, 5), (2, 100), (3, 10), (4, 1000), (4, 2900), (1, 6), (4, 950), (2, 9500), (1, 5700), (1, 5700), (1, 6), (1, 950), (4, 3800), (4, 3800), (3, 3800), (1, 3800), (1, 3800), (1, 3800), (1, 950), (1, 950), (1, 10), (1, 10), (2, 32000), (1, 16), (1, 8)]
def ml_ty (c j : Nat) : FieldType := match c with
  | 0 => tyX0 j
  | 1 => tyX1 j
  | 2 => tyX2 j
  | 3 => tyX3 j
  | 4 => tyX4 j
  | 5 => tyX5 j
  | 6 => tyX6 j
  | 7 => tyX7 j
  | 8 => tyX8 j
  | 9 => tyX9 j
  | 10 => tyX10 j
  | 11 => tyX11 j
  | _ => tyX12 j
abbrev ml_cls : List vw_C := [(RX0, TX0, 2), (RX1, TX1, 7), (RX2, TX2, 7), (RX3, TX3, 6), (RX4, TX4, 7), (RX5, TX5, 2), (RX6, TX6, 10), (RX7, TX7, 14), (RX8, TX8, 2), (RX9, TX9, 8), (RX10, TX10, 8), (RX11, TX11, 13), (RX12, TX12, 62)]
def ml_rofT (t : Nat) (k j : Int) : Int := match t with
  | 10 => if j = 0 then 5 else 0
  | 11 => if j = 0 then 71 else if j = 1 then 72 else if j = 2 then 73 else if j = 3 then 74 else if j = 4 then 75 else 0
  | 14 => if j = 0 then 9 else if j = 1 then 11 else if j = 2 then 12 else if j = 3 then 13 else if j = 4 then 16 else if j = 5 then 19 else if j = 6 then 22 else 0
  | 15 => if j = 0 then 77 else if j = 1 then 78 else 0
  | 16 => if j = 0 then 47 else if j = 1 then 48 else if j = 2 then 49 else if j = 3 then 52 else 0
  | 17 => if j = 3 then 56 else if j = 4 then 57 else if j = 5 then 58 else if j = 6 then 59 else if j = 7 then 60 else if j = 8 then 61 else if j = 9 then 62 else if j = 10 then 63 else if j = 12 then 64 else if j = 13 then 67 else 0
  | 18 => if j = 0 then 3 else 0
  | 19 => if j = 0 then k + 1 else if j = 1 then k + 2 else 0
  | 20 => if j = 0 then k + 1 else if j = 4 then k + 2 else if j = 5 then k + 5 else 0
  | 21 => if j = 0 then 2 else if j = 1 then 4 else if j = 2 then 6 else if j = 3 then 8 else if j = 4 then 46 else if j = 5 then 55 else if j = 6 then 70 else if j = 7 then 76 else if j = 8 then 114 else if j = 9 then 115 else if j = 10 then 116 else 0
  | 22 => if j = 0 then 216 else if j = 5 then 217 else if j = 6 then 218 else if j = 7 then 219 else if j = 8 then 220 else if j = 13 then 221 else if j = 14 then 222 else if j = 15 then 223 else if j = 16 then 224 else if j = 17 then 225 else if j = 18 then 226 else if j = 21 then 227 else if j = 22 then 228 else if j = 23 then 229 else if j = 24 then 230 else if j = 25 then 231 else if j = 26 then 232 else if j = 28 then 233 else if j = 29 then 234 else if j = 30 then 235 else if j = 31 then 236 else if j = 40 then 237 else if j = 41 then 238 else if j = 42 then 239 else if j = 43 then 240 else if j = 44 then 241 else if j = 45 then 242 else if j = 46 then 243 else if j = 47 then 244 else if j = 48 then 245 else if j = 49 then 246 else if j = 50 then 247 else if j = 51 then 248 else if j = 52 then 249 else if j = 54 then 250 else if j = 55 then 251 else if j = 56 then 252 else if j = 57 then 253 else if j = 58 then 254 else if j = 59 then 255 else if j = 60 then 256 else 0
  | 5 => if k = 11 then (if 0 ≤ j ∧ j < 7 then 25 + 3 * j else 0) else (if 0 ≤ j ∧ j < 11 then 81 + 3 * j else 0)
  | 6 => if 0 ≤ j ∧ j < 16 then 119 + 6 * j else 0
  | _ => 0
def ml_layT (k : Int) : Nat × Nat := if k < 1 then (0, 0) else ml_lays.getD (k.toNat - 1) (0, 0)
def ml_rof (k j : Int) : Int := ml_rofT (ml_layT k).1 k j
end
section
/-! THE STORE: object ids and places, all whole numbers; the heap is a picture of it -/
abbrev ml_St : Type := Int → Int → Int
def ml_up (σ : ml_St) (k i v : Int) : ml_St := fun a b => if a = k ∧ b = i then v else σ a b
def I32 (x : Int) : Prop := -2147483648 ≤ x ∧ x ≤ 2147483647
def I64 (x : Int) : Prop := -9223372036854775808 ≤ x ∧ x ≤ 9223372036854775807
def ml_B (x : Int) : Prop := 0 ≤ x ∧ x ≤ 1
def ml_I8 (x : Int) : Prop := -128 ≤ x ∧ x ≤ 127
theorem ml_B.i {x : Int} (h : ml_B x) : I32 x := ⟨by have := h.1; omega, by have := h.2; omega⟩
theorem ml_I8.i {x : Int} (h : ml_I8 x) : I32 x := ⟨by have := h.1; omega, by have := h.2; omega⟩
theorem I32.l {x : Int} (h : I32 x) : I64 x := ⟨by have := h.1; omega, by have := h.2; omega⟩
abbrev ml_lay (k : Int) : Nat × Nat := ml_layT k
def ml_at (n : Nat) (k : Int) (kd : Nat × Nat) : Prop := 1 ≤ k ∧ k ≤ n ∧ ml_lay k = kd
def ml_fv (base : Nat) (ty : FieldType) (x : Int) : Value := match ty with
  | .long => .long (Int64.ofInt x)
  | .object _ => if x = 0 then .null else .ref (base + x.toNat)
  | .array _ => if x = 0 then .null else .ref (base + x.toNat)
  | _ => .int (Int32.ofInt x)
def ml_ro (base : Nat) (x : Int) : Option Nat := if x = 0 then none else some (base + x.toNat)
def ml_cell (base : Nat) (cA : Nat → ClassId) (kd : Nat × Nat) (f : Int → Int) : va_E := match kd.1 with
  | 1 => .inl (cA 1, kd.2, .inl (fun j => Int32.ofInt (f j)))
  | 2 => .inl (cA 2, kd.2, .inl (fun j => Int32.ofInt (f j)))
  | 3 => .inl (cA 3, kd.2, .inl (fun j => Int32.ofInt (f j)))
  | 4 => .inl (cA 4, kd.2, .inr (.inl (fun j => Int64.ofInt (f j))))
  | 5 => .inl (cA 5, kd.2, .inr (.inr (.inr (.inr (fun j => ml_ro base (f j))))))
  | 6 => .inl (cA 6, kd.2, .inr (.inr (.inr (.inr (fun j => ml_ro base (f j))))))
  | t => .inr (t - 10, (List.range kd.2).map fun j => ml_fv base (ml_ty (t - 10) j) (f j))
def ml_cells (base : Nat) (cA : Nat → ClassId) (n : Nat) (σ : ml_St) : va_W := (List.range n).map fun i => (base + (i + 1), ml_cell base cA (ml_lay ((i : Int) + 1)) (σ ((i : Int) + 1)))
/-- what kind of number stands at a place: 1 int, 2 byte, 3 boolean, 4 long, else a reference -/
def ml_fe (ty : FieldType) : Nat := match ty with
  | .long => 4
  | .boolean => 3
  | .int => 1
  | .byte => 2
  | _ => 5
def ml_et (k j : Int) : Nat := if (ml_lay k).1 < 10 then (ml_lay k).1 else ml_fe (ml_ty ((ml_lay k).1 - 10) j.toNat)
def ml_rg (e : Nat) (x : Int) : Prop := match e with
  | 1 => I32 x
  | 2 => ml_I8 x
  | 3 => ml_B x
  | 4 => I64 x
  | _ => 0 ≤ x
def ml_ok (n : Nat) (σ : ml_St) : Prop := ∀ k j : Int, 1 ≤ k → k ≤ n → 0 ≤ j → ml_rg (ml_et k j) (σ k j)
def ml_RO (n : Nat) (σ : ml_St) : Prop := ∀ k j : Int, 1 ≤ k → k ≤ n → ml_rof k j ≠ 0 → σ k j = ml_rof k j
def ml_A (base : Nat) : Nat → Prop := fun q => base < q
def ml_tys (cA : Nat → ClassId) : List (ClassId × FieldType) := [(cA 1, .int), (cA 1, .int), (cA 2, .byte), (cA 3, .boolean), (cA 4, .long), (cA 5, .object "MirrorLane$Weave"), (cA 6, .object "MirrorLane$Word")]
theorem ml_cells_get {base : Nat} {cA : Nat → ClassId} {n : Nat} {σ : ml_St} {k : Int} {kd : Nat × Nat} (h : ml_at n k kd) : (ml_cells base cA n σ)[k.toNat - 1]? = some (base + k.toNat, ml_cell base cA kd (σ k)) := by
  obtain ⟨h1, h2, h3⟩ := h
  obtain ⟨i, rfl⟩ : ∃ i : Nat, k = (i : Int) + 1 := ⟨(k - 1).toNat, by omega⟩
  have e : ((i : Int) + 1).toNat = i + 1 := by omega
  have hi : i < n := by omega
  rw [e, ← h3]
  simp [ml_cells, hi]
theorem ml_cells_at {base : Nat} {cA : Nat → ClassId} {n : Nat} {σ : ml_St} {i : Nat} {q : Nat × va_E} (h : (ml_cells base cA n σ)[i]? = some q) : i < n ∧ q = (base + (i + 1), ml_cell base cA (ml_lay ((i : Int) + 1)) (σ ((i : Int) + 1))) := by
  have hi : i < n := by
    have := (List.getElem?_eq_some_iff.mp h).1
    simpa [ml_cells] using this
  refine ⟨hi, ?_⟩
  simp [ml_cells, hi] at h
  exact h.symm
theorem ml_cells_D (base : Nat) (cA : Nat → ClassId) (n : Nat) (σ : ml_St) : va_D (ml_A base) (ml_cells base cA n σ) := by
  constructor
  · intro i j p q hp hq e
    rw [(ml_cells_at hp).2, (ml_cells_at hq).2] at e
    have e : base + (i + 1) = base + (j + 1) := e
    omega
  · intro k q hq
    rw [(ml_cells_at hq).2]
    show base < base + (k + 1)
    omega
theorem ml_cells_set {base : Nat} {cA : Nat → ClassId} {n : Nat} {σ σ' : ml_St} {k : Int} {kd : Nat × Nat} {x : va_E} (h : ml_at n k kd) (hx : x = ml_cell base cA kd (σ' k)) (ho : ∀ a : Int, a ≠ k → σ' a = σ a) : (ml_cells base cA n σ).set (k.toNat - 1) (base + k.toNat, x) = ml_cells base cA n σ' := by
  obtain ⟨h1, h2, h3⟩ := h
  obtain ⟨i, rfl⟩ : ∃ i : Nat, k = (i : Int) + 1 := ⟨(k - 1).toNat, by omega⟩
  have e : ((i : Int) + 1).toNat = i + 1 := by omega
  subst hx
  rw [e, ← h3]
  apply List.ext_getElem?
  intro j
  rw [List.getElem?_set]
  by_cases hj : i + 1 - 1 = j
  · have hji : i = j := by omega
    subst hji
    have hi : i < n := by omega
    simp [ml_cells, hi]
  · rw [if_neg hj]
    by_cases hn : j < n
    · have hne : (j : Int) + 1 ≠ (i : Int) + 1 := by omega
      simp [ml_cells, hn, ho _ hne]
    · simp [ml_cells, hn]
theorem ml_cells_push (base : Nat) (cA : Nat → ClassId) (n : Nat) (σ : ml_St) : ml_cells base cA (n + 1) σ = ml_cells base cA n σ ++ [(base + (n + 1), ml_cell base cA (ml_lay ((n : Int) + 1)) (σ ((n : Int) + 1)))] := by
  simp [ml_cells, List.range_succ]
theorem ml_up_same (σ : ml_St) (k i v : Int) : ml_up σ k i v k i = v := by simp [ml_up]
theorem ml_up_k {σ : ml_St} {k i v a : Int} (h : a ≠ k) : ml_up σ k i v a = σ a := by funext b; simp [ml_up, h]
theorem ml_up_i {σ : ml_St} {k i v a b : Int} (h : b ≠ i) : ml_up σ k i v a b = σ a b := by simp [ml_up, h]
theorem ml_ok_up {n : Nat} {σ : ml_St} {k i v : Int} (h : ml_ok n σ) (hv : ml_rg (ml_et k i) v) : ml_ok n (ml_up σ k i v) := by
  intro a b h1 h2 h3
  by_cases e : a = k ∧ b = i
  · rw [e.1, e.2, ml_up_same]; exact hv
  · simp only [ml_up, e, if_false]; exact h a b h1 h2 h3
theorem ml_RO_up {n : Nat} {σ : ml_St} {k i v : Int} (h : ml_RO n σ) (hv : ml_rof k i = 0) : ml_RO n (ml_up σ k i v) := by
  intro a b h1 h2 h3
  by_cases e : a = k ∧ b = i
  · rw [e.1, e.2] at h3; exact absurd hv h3
  · simp only [ml_up, e, if_false]; exact h a b h1 h2 h3
theorem ml_32 {x : Int} (h : I32 x) : (Int32.ofInt x).toInt = x := Int32.toInt_ofInt_of_le (by have := h.1; omega) (by have := h.2; omega)
theorem ml_64 {x : Int} (h : I64 x) : (Int64.ofInt x).toInt = x := Int64.toInt_ofInt_of_le (by have := h.1; omega) (by have := h.2; omega)
theorem ml_r32 (x : Int32) : I32 x.toInt := ⟨Int32.le_toInt x, by have := Int32.toInt_lt x; omega⟩
theorem ml_r64 (x : Int64) : I64 x.toInt := ⟨Int64.le_toInt x, by have := Int64.toInt_lt x; omega⟩
theorem ml_lt {x y : Int} (hx : I32 x) (hy : I32 y) : Int32.ofInt x < Int32.ofInt y ↔ x < y := by rw [Int32.lt_iff_toInt_lt, ml_32 hx, ml_32 hy]
theorem ml_le {x y : Int} (hx : I32 x) (hy : I32 y) : Int32.ofInt x ≤ Int32.ofInt y ↔ x ≤ y := by rw [Int32.le_iff_toInt_le, ml_32 hx, ml_32 hy]
theorem ml_eq {x y : Int} (hx : I32 x) (hy : I32 y) : Int32.ofInt x = Int32.ofInt y ↔ x = y := by rw [← Int32.toInt_inj, ml_32 hx, ml_32 hy]
theorem ml_llt {x y : Int} (hx : I64 x) (hy : I64 y) : Int64.ofInt x < Int64.ofInt y ↔ x < y := by rw [Int64.lt_iff_toInt_lt, ml_64 hx, ml_64 hy]
theorem ml_leq {x y : Int} (hx : I64 x) (hy : I64 y) : Int64.ofInt x = Int64.ofInt y ↔ x = y := by rw [← Int64.toInt_inj, ml_64 hx, ml_64 hy]
theorem ml_i0 : I32 0 := ⟨by decide, by decide⟩
theorem ml_cl {x : Int} (h0 : 0 ≤ x) (h1 : x ≤ 2147483647) : (Int32.ofInt x).toNatClampNeg = x.toNat := by
  show (Int32.ofInt x).toInt.toNat = x.toNat
  rw [ml_32 ⟨by omega, h1⟩]
theorem ml_vin {x : Int} {N : Nat} (h0 : 0 ≤ x) (h1 : x < N) (hN : N ≤ 100000) : vp_in (Int32.ofInt x) N := by
  rw [vp_in_iff, ml_32 ⟨by omega, by omega⟩]
  exact ⟨h0, h1⟩
theorem ml_len {n : Nat} {k : Int} {kd : Nat × Nat} (h : ml_at n k kd) : kd.2 ≤ 100000 := by
  rw [← h.2.2]
  unfold ml_lay ml_layT
  split
  · decide
  · have h2 : ∀ q ∈ ml_lays, q.2 ≤ 100000 := by decide +kernel
    by_cases hi : k.toNat - 1 < ml_lays.length
    · rw [List.getD_eq_getElem?_getD, List.getElem?_eq_getElem hi]
      exact h2 _ (List.getElem_mem hi)
    · rw [List.getD_eq_getElem?_getD, List.getElem?_eq_none (by omega)]
      decide
end
section
/-! THE JUDGEMENT over the store, and its rows -/
def ml_X (p : Program) (s : State) (m : MethodId) (c : Code) (meth : Method) (args : Array Value) (D : va_G) (cA : Nat → ClassId) (cc : ByteArray) (nL : Nat) (own : String) (rt : Option FieldType) : Prop :=
  p.tables.exec = Jvm.exec ∧ c.code = cc ∧ c.maxLocals = nL ∧ s.vm.findClass own = some m.cls ∧ (∀ w ∈ ml_T, w.before args s = true) ∧ va_K D ml_cls (ml_tys cA) s ∧ meth.locks = false ∧ meth.sig.returnType = rt
def ml_V (p : Program) (l : Launch) (e : Env) (R : Room) (s : State) (m : MethodId) (args : Array Value) (below : List Frame) (meth : Method) (c : Code) (Q : State → Prop) (base : Nat) (D : va_G) (cA : Nat → ClassId) (kc ks rr n : Nat) (σ : ml_St) (g : JFrame) : Prop :=
  ∀ (H : Heap) (locs : List Loc), va_P D ml_cls (ml_cells base cA n σ) H → va_S (ml_A base) s.heap H locs → ml_ok n σ → ml_RO rr σ → W p l e R s m args below meth c H locs kc ks Q g
section MLV
variable {p : Program} {l : Launch} {e : Env} {R : Room} {s : State} {m : MethodId} {args : Array Value} {below : List Frame} {meth : Method} {c : Code} {Q : State → Prop} {base : Nat} {D : va_G} {cA : Nat → ClassId} {kc ks rr n : Nat} {σ : ml_St} {cc : ByteArray} {nL pc : Nat} {own : String} {rt : Option FieldType} {ls : Array Slot} {rest : List Value} {lst : List (Nat × Value)}
theorem ml_iconst (X : ml_X p s m c meth args D cA cc nL own rt) {v : Int} (d : decode cc pc = .ok (.iconst v, 1)) (k : ml_V p l e R s m args below meth c Q base D cA kc ks rr n σ (F0 m (pc + 1) ls (.int (Int32.ofInt v) :: rest))) : ml_V p l e R s m args below meth c Q base D cA kc ks rr n σ (F0 m (pc) ls (rest)) := fun H locs h1 h2 h3 h4 => lv_iconst X.1 X.2.1 d rfl (k H locs h1 h2 h3 h4)
theorem ml_bipush (X : ml_X p s m c meth args D cA cc nL own rt) {v : Int} (d : decode cc pc = .ok (.bipush v, 2)) (hv : (Int8.ofInt v).toInt32 = Int32.ofInt v) (k : ml_V p l e R s m args below meth c Q base D cA kc ks rr n σ (F0 m (pc + 2) ls (.int (Int32.ofInt v) :: rest))) : ml_V p l e R s m args below meth c Q base D cA kc ks rr n σ (F0 m (pc) ls (rest)) := fun H locs h1 h2 h3 h4 => lv_bipush X.1 X.2.1 d hv (k H locs h1 h2 h3 h4)
theorem ml_sipush (X : ml_X p s m c meth args D cA cc nL own rt) {v : Int} (d : decode cc pc = .ok (.sipush v, 3)) (hv : (Int16.ofInt v).toInt32 = Int32.ofInt v) (k : ml_V p l e R s m args below meth c Q base D cA kc ks rr n σ (F0 m (pc + 3) ls (.int (Int32.ofInt v) :: rest))) : ml_V p l e R s m args below meth c Q base D cA kc ks rr n σ (F0 m (pc) ls (rest)) := fun H locs h1 h2 h3 h4 => lv_sipush X.1 X.2.1 d hv (k H locs h1 h2 h3 h4)
theorem ml_ldcw (X : ml_X p s m c meth args D cA cc nL own rt) {ix : Nat} {v : Int} (d : decode cc pc = .ok (.ldc_w ix, 3)) (hc : Cond.constant own ix (Int32.ofInt v) ∈ ml_T) (k : ml_V p l e R s m args below meth c Q base D cA kc ks rr n σ (F0 m (pc + 3) ls (.int (Int32.ofInt v) :: rest))) : ml_V p l e R s m args below meth c Q base D cA kc ks rr n σ (F0 m (pc) ls (rest)) := fun H locs h1 h2 h3 h4 => lv_ldcw X.1 X.2.1 X.2.2.2.1 (X.2.2.2.2.1 _ hc) d (k H locs h1 h2 h3 h4)
theorem ml_lconst0 (X : ml_X p s m c meth args D cA cc nL own rt) (d : decode cc pc = .ok (.lconst 0, 1)) (k : ml_V p l e R s m args below meth c Q base D cA kc ks rr n σ (F0 m (pc + 1) ls (.long (Int64.ofInt 0) :: rest))) : ml_V p l e R s m args below meth c Q base D cA kc ks rr n σ (F0 m (pc) ls (rest)) := fun H locs h1 h2 h3 h4 => lv_lconst X.1 X.2.1 d rfl (k H locs h1 h2 h3 h4)
theorem ml_lconst1 (X : ml_X p s m c meth args D cA cc nL own rt) (d : decode cc pc = .ok (.lconst 1, 1)) (k : ml_V p l e R s m args below meth c Q base D cA kc ks rr n σ (F0 m (pc + 1) ls (.long (Int64.ofInt 1) :: rest))) : ml_V p l e R s m args below meth c Q base D cA kc ks rr n σ (F0 m (pc) ls (rest)) := fun H locs h1 h2 h3 h4 => lv_lconst X.1 X.2.1 d rfl (k H locs h1 h2 h3 h4)
theorem ml_ldc2 (X : ml_X p s m c meth args D cA cc nL own rt) {ix : Nat} {v : Int} (d : decode cc pc = .ok (.ldc2_w ix, 3)) (hc : Cond.constantLong own ix (Int64.ofInt v) ∈ ml_T) (k : ml_V p l e R s m args below meth c Q base D cA kc ks rr n σ (F0 m (pc + 3) ls (.long (Int64.ofInt v) :: rest))) : ml_V p l e R s m args below meth c Q base D cA kc ks rr n σ (F0 m (pc) ls (rest)) := fun H locs h1 h2 h3 h4 => lv_ldc2 X.1 X.2.1 X.2.2.2.1 (X.2.2.2.2.1 _ hc) d (k H locs h1 h2 h3 h4)
theorem ml_iload_n (X : ml_X p s m c meth args D cA cc nL own rt) {kk : Fin 4} {x : Int} (hl : lv_has ls nL lst) (q : Nat) {i : Nat} (hq : lst[q]? = some (i, .int (Int32.ofInt x))) (hi : (kk : Nat) = i) (d : decode cc pc = .ok (.iload_n kk, 1)) (k : ml_V p l e R s m args below meth c Q base D cA kc ks rr n σ (F0 m (pc + 1) ls (.int (Int32.ofInt x) :: rest))) : ml_V p l e R s m args below meth c Q base D cA kc ks rr n σ (F0 m (pc) ls (rest)) := fun H locs h1 h2 h3 h4 => lv_iload_n X.1 X.2.1 d hi (lv_at hl q hq) (k H locs h1 h2 h3 h4)
theorem ml_iload (X : ml_X p s m c meth args D cA cc nL own rt) {x : Int} (hl : lv_has ls nL lst) (q : Nat) {i : Nat} (hq : lst[q]? = some (i, .int (Int32.ofInt x))) (d : decode cc pc = .ok (.iload i, 2)) (k : ml_V p l e R s m args below meth c Q base D cA kc ks rr n σ (F0 m (pc + 2) ls (.int (Int32.ofInt x) :: rest))) : ml_V p l e R s m args below meth c Q base D cA kc ks rr n σ (F0 m (pc) ls (rest)) := fun H locs h1 h2 h3 h4 => lv_iload X.1 X.2.1 d (lv_at hl q hq) (k H locs h1 h2 h3 h4)
theorem ml_istore_n (X : ml_X p s m c meth args D cA cc nL own rt) {kk : Fin 4} {x : Int} {i : Nat} (hi : (kk : Nat) = i) (hl : lv_has ls nL lst) {lst' : List (Nat × Value)} (hn : i < nL) (hf : (i, Value.int (Int32.ofInt x)) :: lst.filter (fun q => !(q.1 == i) && !(q.1 + 1 == i && q.2.category == 2)) = lst') (d : decode cc pc = .ok (.istore_n kk, 1)) (k : ∀ ls' : Array Slot, lv_has ls' nL lst' → ml_V p l e R s m args below meth c Q base D cA kc ks rr n σ (F0 m (pc + 1) ls' (rest))) : ml_V p l e R s m args below meth c Q base D cA kc ks rr n σ (F0 m (pc) ls (.int (Int32.ofInt x) :: rest)) := fun H locs h1 h2 h3 h4 => lv_istore_n X.1 X.2.1 d hi hl hn hf (fun ls' h => k ls' h H locs h1 h2 h3 h4)
theorem ml_istore (X : ml_X p s m c meth args D cA cc nL own rt) {x : Int} {i : Nat} (hl : lv_has ls nL lst) {lst' : List (Nat × Value)} (hn : i < nL) (hf : (i, Value.int (Int32.ofInt x)) :: lst.filter (fun q => !(q.1 == i) && !(q.1 + 1 == i && q.2.category == 2)) = lst') (d : decode cc pc = .ok (.istore i, 2)) (k : ∀ ls' : Array Slot, lv_has ls' nL lst' → ml_V p l e R s m args below meth c Q base D cA kc ks rr n σ (F0 m (pc + 2) ls' (rest))) : ml_V p l e R s m args below meth c Q base D cA kc ks rr n σ (F0 m (pc) ls (.int (Int32.ofInt x) :: rest)) := fun H locs h1 h2 h3 h4 => lv_istore X.1 X.2.1 d hl hn hf (fun ls' h => k ls' h H locs h1 h2 h3 h4)
theorem ml_lload_n (X : ml_X p s m c meth args D cA cc nL own rt) {kk : Fin 4} {x : Int} (hl : lv_has ls nL lst) (q : Nat) {i : Nat} (hq : lst[q]? = some (i, .long (Int64.ofInt x))) (hi : (kk : Nat) = i) (d : decode cc pc = .ok (.lload_n kk, 1)) (k : ml_V p l e R s m args below meth c Q base D cA kc ks rr n σ (F0 m (pc + 1) ls (.long (Int64.ofInt x) :: rest))) : ml_V p l e R s m args below meth c Q base D cA kc ks rr n σ (F0 m (pc) ls (rest)) := fun H locs h1 h2 h3 h4 => lv_lload_n X.1 X.2.1 d hi (lv_at hl q hq) (k H locs h1 h2 h3 h4)
theorem ml_lload (X : ml_X p s m c meth args D cA cc nL own rt) {x : Int} (hl : lv_has ls nL lst) (q : Nat) {i : Nat} (hq : lst[q]? = some (i, .long (Int64.ofInt x))) (d : decode cc pc = .ok (.lload i, 2)) (k : ml_V p l e R s m args below meth c Q base D cA kc ks rr n σ (F0 m (pc + 2) ls (.long (Int64.ofInt x) :: rest))) : ml_V p l e R s m args below meth c Q base D cA kc ks rr n σ (F0 m (pc) ls (rest)) := fun H locs h1 h2 h3 h4 => lv_lload X.1 X.2.1 d (lv_at hl q hq) (k H locs h1 h2 h3 h4)
theorem ml_lstore_n (X : ml_X p s m c meth args D cA cc nL own rt) {kk : Fin 4} {x : Int} {i : Nat} (hi : (kk : Nat) = i) (hl : lv_has ls nL lst) {lst' : List (Nat × Value)} (hn : i + 1 < nL) (hf : (i, Value.long (Int64.ofInt x)) :: lst.filter (fun q => !(q.1 == i) && (!(q.1 == i + 1) && !(q.1 + 1 == i && q.2.category == 2))) = lst') (d : decode cc pc = .ok (.lstore_n kk, 1)) (k : ∀ ls' : Array Slot, lv_has ls' nL lst' → ml_V p l e R s m args below meth c Q base D cA kc ks rr n σ (F0 m (pc + 1) ls' (rest))) : ml_V p l e R s m args below meth c Q base D cA kc ks rr n σ (F0 m (pc) ls (.long (Int64.ofInt x) :: rest)) := fun H locs h1 h2 h3 h4 => lv_lstore_n X.1 X.2.1 d hi hl hn hf (fun ls' h => k ls' h H locs h1 h2 h3 h4)
theorem ml_lstore (X : ml_X p s m c meth args D cA cc nL own rt) {x : Int} {i : Nat} (hl : lv_has ls nL lst) {lst' : List (Nat × Value)} (hn : i + 1 < nL) (hf : (i, Value.long (Int64.ofInt x)) :: lst.filter (fun q => !(q.1 == i) && (!(q.1 == i + 1) && !(q.1 + 1 == i && q.2.category == 2))) = lst') (d : decode cc pc = .ok (.lstore i, 2)) (k : ∀ ls' : Array Slot, lv_has ls' nL lst' → ml_V p l e R s m args below meth c Q base D cA kc ks rr n σ (F0 m (pc + 2) ls' (rest))) : ml_V p l e R s m args below meth c Q base D cA kc ks rr n σ (F0 m (pc) ls (.long (Int64.ofInt x) :: rest)) := fun H locs h1 h2 h3 h4 => lv_lstore X.1 X.2.1 d hl hn hf (fun ls' h => k ls' h H locs h1 h2 h3 h4)
theorem ml_aload_n (X : ml_X p s m c meth args D cA cc nL own rt) {kk : Fin 4} {x : Nat} (hl : lv_has ls nL lst) (q : Nat) {i : Nat} (hq : lst[q]? = some (i, .ref x)) (hi : (kk : Nat) = i) (d : decode cc pc = .ok (.aload_n kk, 1)) (k : ml_V p l e R s m args below meth c Q base D cA kc ks rr n σ (F0 m (pc + 1) ls (.ref x :: rest))) : ml_V p l e R s m args below meth c Q base D cA kc ks rr n σ (F0 m (pc) ls (rest)) := fun H locs h1 h2 h3 h4 => lv_aload_n X.1 X.2.1 d hi (lv_at hl q hq) (k H locs h1 h2 h3 h4)
theorem ml_aload (X : ml_X p s m c meth args D cA cc nL own rt) {x : Nat} (hl : lv_has ls nL lst) (q : Nat) {i : Nat} (hq : lst[q]? = some (i, .ref x)) (d : decode cc pc = .ok (.aload i, 2)) (k : ml_V p l e R s m args below meth c Q base D cA kc ks rr n σ (F0 m (pc + 2) ls (.ref x :: rest))) : ml_V p l e R s m args below meth c Q base D cA kc ks rr n σ (F0 m (pc) ls (rest)) := fun H locs h1 h2 h3 h4 => lv_aload X.1 X.2.1 d (lv_at hl q hq) (k H locs h1 h2 h3 h4)
theorem ml_astore_n (X : ml_X p s m c meth args D cA cc nL own rt) {kk : Fin 4} {x : Nat} {i : Nat} (hi : (kk : Nat) = i) (hl : lv_has ls nL lst) {lst' : List (Nat × Value)} (hn : i < nL) (hf : (i, Value.ref x) :: lst.filter (fun q => !(q.1 == i) && !(q.1 + 1 == i && q.2.category == 2)) = lst') (d : decode cc pc = .ok (.astore_n kk, 1)) (k : ∀ ls' : Array Slot, lv_has ls' nL lst' → ml_V p l e R s m args below meth c Q base D cA kc ks rr n σ (F0 m (pc + 1) ls' (rest))) : ml_V p l e R s m args below meth c Q base D cA kc ks rr n σ (F0 m (pc) ls (.ref x :: rest)) := fun H locs h1 h2 h3 h4 => lv_astore_n X.1 X.2.1 d hi hl hn hf (fun ls' h => k ls' h H locs h1 h2 h3 h4)
theorem ml_astore (X : ml_X p s m c meth args D cA cc nL own rt) {x : Nat} {i : Nat} (hl : lv_has ls nL lst) {lst' : List (Nat × Value)} (hn : i < nL) (hf : (i, Value.ref x) :: lst.filter (fun q => !(q.1 == i) && !(q.1 + 1 == i && q.2.category == 2)) = lst') (d : decode cc pc = .ok (.astore i, 2)) (k : ∀ ls' : Array Slot, lv_has ls' nL lst' → ml_V p l e R s m args below meth c Q base D cA kc ks rr n σ (F0 m (pc + 2) ls' (rest))) : ml_V p l e R s m args below meth c Q base D cA kc ks rr n σ (F0 m (pc) ls (.ref x :: rest)) := fun H locs h1 h2 h3 h4 => lv_astore X.1 X.2.1 d hl hn hf (fun ls' h => k ls' h H locs h1 h2 h3 h4)
theorem ml_iinc (X : ml_X p s m c meth args D cA cc nL own rt) {i : Nat} {x v y : Int} (ey : y = x + v) (hl : lv_has ls nL lst) (q : Nat) (hq : lst[q]? = some (i, .int (Int32.ofInt x))) {lst' : List (Nat × Value)} (hn : i < nL) (hf : (i, Value.int (Int32.ofInt y)) :: lst.filter (fun q => !(q.1 == i) && !(q.1 + 1 == i && q.2.category == 2)) = lst') (d : decode cc pc = .ok (.iinc i v, 3)) (k : ∀ ls' : Array Slot, lv_has ls' nL lst' → ml_V p l e R s m args below meth c Q base D cA kc ks rr n σ (F0 m (pc + 3) ls' (rest))) : ml_V p l e R s m args below meth c Q base D cA kc ks rr n σ (F0 m (pc) ls (rest)) := fun H locs h1 h2 h3 h4 => lv_iinc X.1 X.2.1 d hl hq (by rw [ey]; exact (Int32.ofInt_add _ _).symm) hn hf (fun ls' h => k ls' h H locs h1 h2 h3 h4)
theorem ml_goto (X : ml_X p s m c meth args D cA cc nL own rt) {off : Int} {tgt : Nat} (d : decode cc pc = .ok (.goto off, 3)) (ht : (pc : Int) + off = (tgt : Int)) (k : ml_V p l e R s m args below meth c Q base D cA kc ks rr n σ (F0 m (tgt) ls (rest))) : ml_V p l e R s m args below meth c Q base D cA kc ks rr n σ (F0 m (pc) ls (rest)) := fun H locs h1 h2 h3 h4 => lv_goto X.1 X.2.1 d ht (k H locs h1 h2 h3 h4)
theorem ml_dup (X : ml_X p s m c meth args D cA cc nL own rt) {va : Value} (d : decode cc pc = .ok (.dup, 1)) (hv : va.category = 1) (k : ml_V p l e R s m args below meth c Q base D cA kc ks rr n σ (F0 m (pc + 1) ls (va :: va :: rest))) : ml_V p l e R s m args below meth c Q base D cA kc ks rr n σ (F0 m (pc) ls (va :: rest)) := fun H locs h1 h2 h3 h4 => lv_dup X.1 X.2.1 d hv (k H locs h1 h2 h3 h4)
theorem ml_dup2 (X : ml_X p s m c meth args D cA cc nL own rt) {va vb : Value} (d : decode cc pc = .ok (.dup2, 1)) (hv : va.category = 1) (hw : vb.category = 1) (k : ml_V p l e R s m args below meth c Q base D cA kc ks rr n σ (F0 m (pc + 1) ls (va :: vb :: va :: vb :: rest))) : ml_V p l e R s m args below meth c Q base D cA kc ks rr n σ (F0 m (pc) ls (va :: vb :: rest)) := fun H locs h1 h2 h3 h4 => lv_dup2_11 X.1 X.2.1 d hv hw (k H locs h1 h2 h3 h4)
theorem ml_topI {x : Int} (k : ∀ y : Int, y = x → ml_V p l e R s m args below meth c Q base D cA kc ks rr n σ (F0 m (pc) ls (.int (Int32.ofInt y) :: rest))) : ml_V p l e R s m args below meth c Q base D cA kc ks rr n σ (F0 m (pc) ls (.int (Int32.ofInt x) :: rest)) := k x rfl
theorem ml_topL {x : Int} (k : ∀ y : Int, y = x → ml_V p l e R s m args below meth c Q base D cA kc ks rr n σ (F0 m (pc) ls (.long (Int64.ofInt y) :: rest))) : ml_V p l e R s m args below meth c Q base D cA kc ks rr n σ (F0 m (pc) ls (.long (Int64.ofInt x) :: rest)) := k x rfl
theorem ml_iadd (X : ml_X p s m c meth args D cA cc nL own rt) {x y : Int} (d : decode cc pc = .ok (.iadd, 1)) (k : ml_V p l e R s m args below meth c Q base D cA kc ks rr n σ (F0 m (pc + 1) ls (.int (Int32.ofInt (x + y)) :: rest))) : ml_V p l e R s m args below meth c Q base D cA kc ks rr n σ (F0 m (pc) ls (.int (Int32.ofInt y) :: .int (Int32.ofInt x) :: rest)) := fun H locs h1 h2 h3 h4 => lv_iadd X.1 X.2.1 d (by rw [← Int32.ofInt_add]; exact k H locs h1 h2 h3 h4)
theorem ml_ladd (X : ml_X p s m c meth args D cA cc nL own rt) {x y : Int} (d : decode cc pc = .ok (.ladd, 1)) (k : ml_V p l e R s m args below meth c Q base D cA kc ks rr n σ (F0 m (pc + 1) ls (.long (Int64.ofInt (x + y)) :: rest))) : ml_V p l e R s m args below meth c Q base D cA kc ks rr n σ (F0 m (pc) ls (.long (Int64.ofInt y) :: .long (Int64.ofInt x) :: rest)) := fun H locs h1 h2 h3 h4 => lv_ladd X.1 X.2.1 d (by rw [← Int64.ofInt_add]; exact k H locs h1 h2 h3 h4)
theorem ml_isub (X : ml_X p s m c meth args D cA cc nL own rt) {x y : Int} (d : decode cc pc = .ok (.isub, 1)) (k : ml_V p l e R s m args below meth c Q base D cA kc ks rr n σ (F0 m (pc + 1) ls (.int (Int32.ofInt (x - y)) :: rest))) : ml_V p l e R s m args below meth c Q base D cA kc ks rr n σ (F0 m (pc) ls (.int (Int32.ofInt y) :: .int (Int32.ofInt x) :: rest)) := fun H locs h1 h2 h3 h4 => lv_isub X.1 X.2.1 d (by rw [← Int32.ofInt_sub]; exact k H locs h1 h2 h3 h4)
theorem ml_lsub (X : ml_X p s m c meth args D cA cc nL own rt) {x y : Int} (d : decode cc pc = .ok (.lsub, 1)) (k : ml_V p l e R s m args below meth c Q base D cA kc ks rr n σ (F0 m (pc + 1) ls (.long (Int64.ofInt (x - y)) :: rest))) : ml_V p l e R s m args below meth c Q base D cA kc ks rr n σ (F0 m (pc) ls (.long (Int64.ofInt y) :: .long (Int64.ofInt x) :: rest)) := fun H locs h1 h2 h3 h4 => lv_lsub X.1 X.2.1 d (by rw [← Int64.ofInt_sub]; exact k H locs h1 h2 h3 h4)
theorem ml_imul (X : ml_X p s m c meth args D cA cc nL own rt) {x y : Int} (d : decode cc pc = .ok (.imul, 1)) (k : ml_V p l e R s m args below meth c Q base D cA kc ks rr n σ (F0 m (pc + 1) ls (.int (Int32.ofInt (x * y)) :: rest))) : ml_V p l e R s m args below meth c Q base D cA kc ks rr n σ (F0 m (pc) ls (.int (Int32.ofInt y) :: .int (Int32.ofInt x) :: rest)) := fun H locs h1 h2 h3 h4 => lv_imul X.1 X.2.1 d (by rw [← Int32.ofInt_mul]; exact k H locs h1 h2 h3 h4)
theorem ml_lmul (X : ml_X p s m c meth args D cA cc nL own rt) {x y : Int} (d : decode cc pc = .ok (.lmul, 1)) (k : ml_V p l e R s m args below meth c Q base D cA kc ks rr n σ (F0 m (pc + 1) ls (.long (Int64.ofInt (x * y)) :: rest))) : ml_V p l e R s m args below meth c Q base D cA kc ks rr n σ (F0 m (pc) ls (.long (Int64.ofInt y) :: .long (Int64.ofInt x) :: rest)) := fun H locs h1 h2 h3 h4 => lv_lmul X.1 X.2.1 d (by rw [← Int64.ofInt_mul]; exact k H locs h1 h2 h3 h4)
theorem ml_ineg (X : ml_X p s m c meth args D cA cc nL own rt) {x : Int} (d : decode cc pc = .ok (.ineg, 1)) (k : ml_V p l e R s m args below meth c Q base D cA kc ks rr n σ (F0 m (pc + 1) ls (.int (Int32.ofInt (-x)) :: rest))) : ml_V p l e R s m args below meth c Q base D cA kc ks rr n σ (F0 m (pc) ls (.int (Int32.ofInt x) :: rest)) := fun H locs h1 h2 h3 h4 => lv_ineg X.1 X.2.1 d (by rw [← Int32.ofInt_neg]; exact k H locs h1 h2 h3 h4)
theorem ml_divE {x y : Int} (hx : I32 x) (hy : I32 y) : Int32.ofInt x / Int32.ofInt y = Int32.ofInt (x.tdiv y) := by
  apply Int32.toInt_inj.mp
  rw [Int32.toInt_div, ml_32 hx, ml_32 hy, Int32.toInt_ofInt]
theorem ml_ldivE {x y : Int} (hx : I64 x) (hy : I64 y) : Int64.ofInt x / Int64.ofInt y = Int64.ofInt (x.tdiv y) := by
  apply Int64.toInt_inj.mp
  rw [Int64.toInt_div, ml_64 hx, ml_64 hy, Int64.toInt_ofInt]
theorem ml_remE {x y : Int} (hx : I32 x) (hy : I32 y) : Int32.ofInt x - Int32.ofInt x / Int32.ofInt y * Int32.ofInt y = Int32.ofInt (x.tmod y) := by
  rw [ml_divE hx hy, ← Int32.ofInt_mul, ← Int32.ofInt_sub, Int.tmod_def, Int.mul_comm y]
theorem ml_lremE {x y : Int} (hx : I64 x) (hy : I64 y) : Int64.ofInt x - Int64.ofInt x / Int64.ofInt y * Int64.ofInt y = Int64.ofInt (x.tmod y) := by
  rw [ml_ldivE hx hy, ← Int64.ofInt_mul, ← Int64.ofInt_sub, Int.tmod_def, Int.mul_comm y]
theorem ml_ne0 {y : Int} (hy : I32 y) (h : y ≠ 0) : ¬ Int32.ofInt y = 0 := fun q => h ((ml_eq hy ml_i0).mp q)
theorem ml_lne0 {y : Int} (hy : I64 y) (h : y ≠ 0) : ¬ Int64.ofInt y = 0 := fun q => h ((ml_leq hy ⟨by decide, by decide⟩).mp q)
theorem ml_idiv (X : ml_X p s m c meth args D cA cc nL own rt) {x y : Int} (hx : I32 x) (hy : I32 y) (h0 : y ≠ 0) (d : decode cc pc = .ok (.idiv, 1)) (k : ml_V p l e R s m args below meth c Q base D cA kc ks rr n σ (F0 m (pc + 1) ls (.int (Int32.ofInt (x.tdiv y)) :: rest))) : ml_V p l e R s m args below meth c Q base D cA kc ks rr n σ (F0 m (pc) ls (.int (Int32.ofInt y) :: .int (Int32.ofInt x) :: rest)) := fun H locs h1 h2 h3 h4 => lv_idiv X.1 X.2.1 d (ml_ne0 hy h0) (by rw [ml_divE hx hy]; exact k H locs h1 h2 h3 h4)
theorem ml_irem (X : ml_X p s m c meth args D cA cc nL own rt) {x y : Int} (hx : I32 x) (hy : I32 y) (h0 : y ≠ 0) (d : decode cc pc = .ok (.irem, 1)) (k : ml_V p l e R s m args below meth c Q base D cA kc ks rr n σ (F0 m (pc + 1) ls (.int (Int32.ofInt (x.tmod y)) :: rest))) : ml_V p l e R s m args below meth c Q base D cA kc ks rr n σ (F0 m (pc) ls (.int (Int32.ofInt y) :: .int (Int32.ofInt x) :: rest)) := fun H locs h1 h2 h3 h4 => lv_irem X.1 X.2.1 d (ml_ne0 hy h0) (by rw [ml_remE hx hy]; exact k H locs h1 h2 h3 h4)
theorem ml_ldiv (X : ml_X p s m c meth args D cA cc nL own rt) {x y : Int} (hx : I64 x) (hy : I64 y) (h0 : y ≠ 0) (d : decode cc pc = .ok (.ldiv, 1)) (k : ml_V p l e R s m args below meth c Q base D cA kc ks rr n σ (F0 m (pc + 1) ls (.long (Int64.ofInt (x.tdiv y)) :: rest))) : ml_V p l e R s m args below meth c Q base D cA kc ks rr n σ (F0 m (pc) ls (.long (Int64.ofInt y) :: .long (Int64.ofInt x) :: rest)) := fun H locs h1 h2 h3 h4 => lv_ldiv X.1 X.2.1 d (ml_lne0 hy h0) (by rw [ml_ldivE hx hy]; exact k H locs h1 h2 h3 h4)
theorem ml_lrem (X : ml_X p s m c meth args D cA cc nL own rt) {x y : Int} (hx : I64 x) (hy : I64 y) (h0 : y ≠ 0) (d : decode cc pc = .ok (.lrem, 1)) (k : ml_V p l e R s m args below meth c Q base D cA kc ks rr n σ (F0 m (pc + 1) ls (.long (Int64.ofInt (x.tmod y)) :: rest))) : ml_V p l e R s m args below meth c Q base D cA kc ks rr n σ (F0 m (pc) ls (.long (Int64.ofInt y) :: .long (Int64.ofInt x) :: rest)) := fun H locs h1 h2 h3 h4 => lv_lrem X.1 X.2.1 d (ml_lne0 hy h0) (by rw [ml_lremE hx hy]; exact k H locs h1 h2 h3 h4)
def b_and (x y : Int) : Int := (Int32.ofInt x &&& Int32.ofInt y).toInt
theorem b_and_r (x y : Int) : I32 (b_and x y) := ml_r32 _
theorem ml_iand (X : ml_X p s m c meth args D cA cc nL own rt) {x y : Int} (d : decode cc pc = .ok (.iand, 1)) (k : ml_V p l e R s m args below meth c Q base D cA kc ks rr n σ (F0 m (pc + 1) ls (.int (Int32.ofInt (b_and x y)) :: rest))) : ml_V p l e R s m args below meth c Q base D cA kc ks rr n σ (F0 m (pc) ls (.int (Int32.ofInt y) :: .int (Int32.ofInt x) :: rest)) := fun H locs h1 h2 h3 h4 => lv_iand X.1 X.2.1 d (by have := k H locs h1 h2 h3 h4; rwa [b_and, Int32.ofInt_toInt] at this)
def b_or (x y : Int) : Int := (Int32.ofInt x ||| Int32.ofInt y).toInt
theorem b_or_r (x y : Int) : I32 (b_or x y) := ml_r32 _
theorem ml_ior (X : ml_X p s m c meth args D cA cc nL own rt) {x y : Int} (d : decode cc pc = .ok (.ior, 1)) (k : ml_V p l e R s m args below meth c Q base D cA kc ks rr n σ (F0 m (pc + 1) ls (.int (Int32.ofInt (b_or x y)) :: rest))) : ml_V p l e R s m args below meth c Q base D cA kc ks rr n σ (F0 m (pc) ls (.int (Int32.ofInt y) :: .int (Int32.ofInt x) :: rest)) := fun H locs h1 h2 h3 h4 => lv_ior X.1 X.2.1 d (by have := k H locs h1 h2 h3 h4; rwa [b_or, Int32.ofInt_toInt] at this)
def b_xor (x y : Int) : Int := (Int32.ofInt x ^^^ Int32.ofInt y).toInt
theorem b_xor_r (x y : Int) : I32 (b_xor x y) := ml_r32 _
theorem ml_ixor (X : ml_X p s m c meth args D cA cc nL own rt) {x y : Int} (d : decode cc pc = .ok (.ixor, 1)) (k : ml_V p l e R s m args below meth c Q base D cA kc ks rr n σ (F0 m (pc + 1) ls (.int (Int32.ofInt (b_xor x y)) :: rest))) : ml_V p l e R s m args below meth c Q base D cA kc ks rr n σ (F0 m (pc) ls (.int (Int32.ofInt y) :: .int (Int32.ofInt x) :: rest)) := fun H locs h1 h2 h3 h4 => lv_ixor X.1 X.2.1 d (by have := k H locs h1 h2 h3 h4; rwa [b_xor, Int32.ofInt_toInt] at this)
def b_shl (x y : Int) : Int := (Int32.ofInt x <<< (Int32.ofInt y &&& 31)).toInt
theorem b_shl_r (x y : Int) : I32 (b_shl x y) := ml_r32 _
theorem ml_ishl (X : ml_X p s m c meth args D cA cc nL own rt) {x y : Int} (d : decode cc pc = .ok (.ishl, 1)) (k : ml_V p l e R s m args below meth c Q base D cA kc ks rr n σ (F0 m (pc + 1) ls (.int (Int32.ofInt (b_shl x y)) :: rest))) : ml_V p l e R s m args below meth c Q base D cA kc ks rr n σ (F0 m (pc) ls (.int (Int32.ofInt y) :: .int (Int32.ofInt x) :: rest)) := fun H locs h1 h2 h3 h4 => lv_ishl X.1 X.2.1 d (by have := k H locs h1 h2 h3 h4; rwa [b_shl, Int32.ofInt_toInt] at this)
def b_shr (x y : Int) : Int := (Int32.ofInt x >>> (Int32.ofInt y &&& 31)).toInt
theorem b_shr_r (x y : Int) : I32 (b_shr x y) := ml_r32 _
theorem ml_ishr (X : ml_X p s m c meth args D cA cc nL own rt) {x y : Int} (d : decode cc pc = .ok (.ishr, 1)) (k : ml_V p l e R s m args below meth c Q base D cA kc ks rr n σ (F0 m (pc + 1) ls (.int (Int32.ofInt (b_shr x y)) :: rest))) : ml_V p l e R s m args below meth c Q base D cA kc ks rr n σ (F0 m (pc) ls (.int (Int32.ofInt y) :: .int (Int32.ofInt x) :: rest)) := fun H locs h1 h2 h3 h4 => lv_ishr X.1 X.2.1 d (by have := k H locs h1 h2 h3 h4; rwa [b_shr, Int32.ofInt_toInt] at this)
def b_ushr (x y : Int) : Int := ((Int32.ofInt x).toUInt32 >>> ((Int32.ofInt y).toUInt32 &&& Int32.toUInt32 31)).toInt32.toInt
theorem b_ushr_r (x y : Int) : I32 (b_ushr x y) := ml_r32 _
theorem ml_iushr (X : ml_X p s m c meth args D cA cc nL own rt) {x y : Int} (d : decode cc pc = .ok (.iushr, 1)) (k : ml_V p l e R s m args below meth c Q base D cA kc ks rr n σ (F0 m (pc + 1) ls (.int (Int32.ofInt (b_ushr x y)) :: rest))) : ml_V p l e R s m args below meth c Q base D cA kc ks rr n σ (F0 m (pc) ls (.int (Int32.ofInt y) :: .int (Int32.ofInt x) :: rest)) := fun H locs h1 h2 h3 h4 => lv_iushr X.1 X.2.1 d rfl (by have := k H locs h1 h2 h3 h4; rwa [b_ushr, Int32.ofInt_toInt] at this)
def b_land (x y : Int) : Int := (Int64.ofInt x &&& Int64.ofInt y).toInt
theorem b_land_r (x y : Int) : I64 (b_land x y) := ml_r64 _
theorem ml_land (X : ml_X p s m c meth args D cA cc nL own rt) {x y : Int} (d : decode cc pc = .ok (.land, 1)) (k : ml_V p l e R s m args below meth c Q base D cA kc ks rr n σ (F0 m (pc + 1) ls (.long (Int64.ofInt (b_land x y)) :: rest))) : ml_V p l e R s m args below meth c Q base D cA kc ks rr n σ (F0 m (pc) ls (.long (Int64.ofInt y) :: .long (Int64.ofInt x) :: rest)) := fun H locs h1 h2 h3 h4 => lv_land X.1 X.2.1 d (by have := k H locs h1 h2 h3 h4; rwa [b_land, Int64.ofInt_toInt] at this)
def b_lor (x y : Int) : Int := (Int64.ofInt x ||| Int64.ofInt y).toInt
theorem b_lor_r (x y : Int) : I64 (b_lor x y) := ml_r64 _
theorem ml_lor (X : ml_X p s m c meth args D cA cc nL own rt) {x y : Int} (d : decode cc pc = .ok (.lor, 1)) (k : ml_V p l e R s m args below meth c Q base D cA kc ks rr n σ (F0 m (pc + 1) ls (.long (Int64.ofInt (b_lor x y)) :: rest))) : ml_V p l e R s m args below meth c Q base D cA kc ks rr n σ (F0 m (pc) ls (.long (Int64.ofInt y) :: .long (Int64.ofInt x) :: rest)) := fun H locs h1 h2 h3 h4 => lv_lor X.1 X.2.1 d (by have := k H locs h1 h2 h3 h4; rwa [b_lor, Int64.ofInt_toInt] at this)
def b_lshl (x y : Int) : Int := (Int64.ofInt x <<< ((Int32.ofInt y).toInt64 &&& 63)).toInt
theorem b_lshl_r (x y : Int) : I64 (b_lshl x y) := ml_r64 _
theorem ml_lshl (X : ml_X p s m c meth args D cA cc nL own rt) {x y : Int} (d : decode cc pc = .ok (.lshl, 1)) (k : ml_V p l e R s m args below meth c Q base D cA kc ks rr n σ (F0 m (pc + 1) ls (.long (Int64.ofInt (b_lshl x y)) :: rest))) : ml_V p l e R s m args below meth c Q base D cA kc ks rr n σ (F0 m (pc) ls (.int (Int32.ofInt y) :: .long (Int64.ofInt x) :: rest)) := fun H locs h1 h2 h3 h4 => lv_lshl X.1 X.2.1 d rfl (by have := k H locs h1 h2 h3 h4; rwa [b_lshl, Int64.ofInt_toInt] at this)
def b_l2i (x : Int) : Int := (Int64.ofInt x).toInt32.toInt
theorem b_l2i_r (x : Int) : I32 (b_l2i x) := ml_r32 _
theorem ml_l2i (X : ml_X p s m c meth args D cA cc nL own rt) {x : Int} (d : decode cc pc = .ok (.l2i, 1)) (k : ml_V p l e R s m args below meth c Q base D cA kc ks rr n σ (F0 m (pc + 1) ls (.int (Int32.ofInt (b_l2i x)) :: rest))) : ml_V p l e R s m args below meth c Q base D cA kc ks rr n σ (F0 m (pc) ls (.long (Int64.ofInt x) :: rest)) := fun H locs h1 h2 h3 h4 => lv_l2i X.1 X.2.1 d rfl (by have := k H locs h1 h2 h3 h4; rwa [b_l2i, Int32.ofInt_toInt] at this)
def b_i2b (x : Int) : Int := (Int32.ofInt x).toInt8.toInt
theorem b_i2b_r (x : Int) : ml_I8 (b_i2b x) := ⟨Int8.le_toInt _, by have := Int8.toInt_lt (Int32.ofInt x).toInt8; unfold b_i2b; omega⟩
theorem b_i2b_e (x : Int) : (Int32.ofInt x).toInt8.toInt32 = Int32.ofInt (b_i2b x) := by
  apply Int32.toInt_inj.mp
  rw [ml_32 (b_i2b_r x).i, Int8.toInt_toInt32]
  rfl
theorem ml_nb {v : Int} (h : ml_I8 v) : vp_nar .byte (Int32.ofInt v) = Int32.ofInt v := by
  rw [vp_nar_byte, b_i2b_e]
  congr 1
  unfold b_i2b
  rw [Int32.toInt_toInt8, ml_32 h.i]
  have h1 := h.1
  have h2 := h.2
  rw [Int.bmod_def]
  omega
theorem ml_nz {v : Int} (h : ml_B v) : vp_nar .boolean (Int32.ofInt v) = Int32.ofInt v := by
  have h1 := h.1
  have h2 := h.2
  rcases (show v = 0 ∨ v = 1 by omega) with rfl | rfl
  · decide +kernel
  · decide +kernel
theorem ml_i2b (X : ml_X p s m c meth args D cA cc nL own rt) {x : Int} (d : decode cc pc = .ok (.i2b, 1)) (k : ml_V p l e R s m args below meth c Q base D cA kc ks rr n σ (F0 m (pc + 1) ls (.int (Int32.ofInt (b_i2b x)) :: rest))) : ml_V p l e R s m args below meth c Q base D cA kc ks rr n σ (F0 m (pc) ls (.int (Int32.ofInt x) :: rest)) := fun H locs h1 h2 h3 h4 => lv_i2b X.1 X.2.1 d (b_i2b_e x) (k H locs h1 h2 h3 h4)
theorem ml_i2l (X : ml_X p s m c meth args D cA cc nL own rt) {x : Int} (hx : I32 x) (d : decode cc pc = .ok (.i2l, 1)) (k : ml_V p l e R s m args below meth c Q base D cA kc ks rr n σ (F0 m (pc + 1) ls (.long (Int64.ofInt x) :: rest))) : ml_V p l e R s m args below meth c Q base D cA kc ks rr n σ (F0 m (pc) ls (.int (Int32.ofInt x) :: rest)) := fun H locs h1 h2 h3 h4 => lv_i2l X.1 X.2.1 d (Int64.toInt_inj.mp (by rw [Int32.toInt_toInt64, ml_32 hx, ml_64 hx.l])) (k H locs h1 h2 h3 h4)
theorem ml_ne {x y : Int} (hx : I32 x) (hy : I32 y) : (¬ Int32.ofInt x = Int32.ofInt y) ↔ x ≠ y := not_congr (ml_eq hx hy)
theorem ml_icmp_eq (X : ml_X p s m c meth args D cA cc nL own rt) {x y : Int} (hx : I32 x) (hy : I32 y) {off : Int} {tgt : Nat} (d : decode cc pc = .ok (.if_icmp .eq off, 3)) (ht : (pc : Int) + off = (tgt : Int)) (kt : x = y → ml_V p l e R s m args below meth c Q base D cA kc ks rr n σ (F0 m (tgt) ls (rest))) (kf : ¬ (x = y) → ml_V p l e R s m args below meth c Q base D cA kc ks rr n σ (F0 m (pc + 3) ls (rest))) : ml_V p l e R s m args below meth c Q base D cA kc ks rr n σ (F0 m (pc) ls (.int (Int32.ofInt y) :: .int (Int32.ofInt x) :: rest)) := fun H locs h1 h2 h3 h4 => lv_icmp_eq X.1 X.2.1 d ht (fun q => kt ((ml_eq hx hy).mp q) H locs h1 h2 h3 h4) (fun q => kf (fun z => q ((ml_eq hx hy).mpr z)) H locs h1 h2 h3 h4)
theorem ml_if_eq (X : ml_X p s m c meth args D cA cc nL own rt) {x : Int} (hx : I32 x) {off : Int} {tgt : Nat} (d : decode cc pc = .ok (.ifCond .eq off, 3)) (ht : (pc : Int) + off = (tgt : Int)) (kt : x = 0 → ml_V p l e R s m args below meth c Q base D cA kc ks rr n σ (F0 m (tgt) ls (rest))) (kf : ¬ (x = 0) → ml_V p l e R s m args below meth c Q base D cA kc ks rr n σ (F0 m (pc + 3) ls (rest))) : ml_V p l e R s m args below meth c Q base D cA kc ks rr n σ (F0 m (pc) ls (.int (Int32.ofInt x) :: rest)) := fun H locs h1 h2 h3 h4 => lv_if_eq X.1 X.2.1 d ht (fun q => kt ((ml_eq hx ml_i0).mp q) H locs h1 h2 h3 h4) (fun q => kf (fun z => q ((ml_eq hx ml_i0).mpr z)) H locs h1 h2 h3 h4)
theorem ml_icmp_ne (X : ml_X p s m c meth args D cA cc nL own rt) {x y : Int} (hx : I32 x) (hy : I32 y) {off : Int} {tgt : Nat} (d : decode cc pc = .ok (.if_icmp .ne off, 3)) (ht : (pc : Int) + off = (tgt : Int)) (kt : x ≠ y → ml_V p l e R s m args below meth c Q base D cA kc ks rr n σ (F0 m (tgt) ls (rest))) (kf : x = y → ml_V p l e R s m args below meth c Q base D cA kc ks rr n σ (F0 m (pc + 3) ls (rest))) : ml_V p l e R s m args below meth c Q base D cA kc ks rr n σ (F0 m (pc) ls (.int (Int32.ofInt y) :: .int (Int32.ofInt x) :: rest)) := fun H locs h1 h2 h3 h4 => lv_icmp_ne X.1 X.2.1 d ht (fun q => kt ((ml_ne hx hy).mp q) H locs h1 h2 h3 h4) (fun q => kf ((ml_eq hx hy).mp q) H locs h1 h2 h3 h4)
theorem ml_if_ne (X : ml_X p s m c meth args D cA cc nL own rt) {x : Int} (hx : I32 x) {off : Int} {tgt : Nat} (d : decode cc pc = .ok (.ifCond .ne off, 3)) (ht : (pc : Int) + off = (tgt : Int)) (kt : x ≠ 0 → ml_V p l e R s m args below meth c Q base D cA kc ks rr n σ (F0 m (tgt) ls (rest))) (kf : x = 0 → ml_V p l e R s m args below meth c Q base D cA kc ks rr n σ (F0 m (pc + 3) ls (rest))) : ml_V p l e R s m args below meth c Q base D cA kc ks rr n σ (F0 m (pc) ls (.int (Int32.ofInt x) :: rest)) := fun H locs h1 h2 h3 h4 => lv_if_ne X.1 X.2.1 d ht (fun q => kt ((ml_ne hx ml_i0).mp q) H locs h1 h2 h3 h4) (fun q => kf ((ml_eq hx ml_i0).mp q) H locs h1 h2 h3 h4)
theorem ml_icmp_lt (X : ml_X p s m c meth args D cA cc nL own rt) {x y : Int} (hx : I32 x) (hy : I32 y) {off : Int} {tgt : Nat} (d : decode cc pc = .ok (.if_icmp .lt off, 3)) (ht : (pc : Int) + off = (tgt : Int)) (kt : x < y → ml_V p l e R s m args below meth c Q base D cA kc ks rr n σ (F0 m (tgt) ls (rest))) (kf : ¬ (x < y) → ml_V p l e R s m args below meth c Q base D cA kc ks rr n σ (F0 m (pc + 3) ls (rest))) : ml_V p l e R s m args below meth c Q base D cA kc ks rr n σ (F0 m (pc) ls (.int (Int32.ofInt y) :: .int (Int32.ofInt x) :: rest)) := fun H locs h1 h2 h3 h4 => lv_icmp_lt X.1 X.2.1 d ht (fun q => kt ((ml_lt hx hy).mp q) H locs h1 h2 h3 h4) (fun q => kf (fun z => q ((ml_lt hx hy).mpr z)) H locs h1 h2 h3 h4)
theorem ml_if_lt (X : ml_X p s m c meth args D cA cc nL own rt) {x : Int} (hx : I32 x) {off : Int} {tgt : Nat} (d : decode cc pc = .ok (.ifCond .lt off, 3)) (ht : (pc : Int) + off = (tgt : Int)) (kt : x < 0 → ml_V p l e R s m args below meth c Q base D cA kc ks rr n σ (F0 m (tgt) ls (rest))) (kf : ¬ (x < 0) → ml_V p l e R s m args below meth c Q base D cA kc ks rr n σ (F0 m (pc + 3) ls (rest))) : ml_V p l e R s m args below meth c Q base D cA kc ks rr n σ (F0 m (pc) ls (.int (Int32.ofInt x) :: rest)) := fun H locs h1 h2 h3 h4 => lv_if_lt X.1 X.2.1 d ht (fun q => kt ((ml_lt hx ml_i0).mp q) H locs h1 h2 h3 h4) (fun q => kf (fun z => q ((ml_lt hx ml_i0).mpr z)) H locs h1 h2 h3 h4)
theorem ml_icmp_ge (X : ml_X p s m c meth args D cA cc nL own rt) {x y : Int} (hx : I32 x) (hy : I32 y) {off : Int} {tgt : Nat} (d : decode cc pc = .ok (.if_icmp .ge off, 3)) (ht : (pc : Int) + off = (tgt : Int)) (kt : y ≤ x → ml_V p l e R s m args below meth c Q base D cA kc ks rr n σ (F0 m (tgt) ls (rest))) (kf : ¬ (y ≤ x) → ml_V p l e R s m args below meth c Q base D cA kc ks rr n σ (F0 m (pc + 3) ls (rest))) : ml_V p l e R s m args below meth c Q base D cA kc ks rr n σ (F0 m (pc) ls (.int (Int32.ofInt y) :: .int (Int32.ofInt x) :: rest)) := fun H locs h1 h2 h3 h4 => lv_icmp_ge X.1 X.2.1 d ht (fun q => kt ((ml_le hy hx).mp q) H locs h1 h2 h3 h4) (fun q => kf (fun z => q ((ml_le hy hx).mpr z)) H locs h1 h2 h3 h4)
theorem ml_if_ge (X : ml_X p s m c meth args D cA cc nL own rt) {x : Int} (hx : I32 x) {off : Int} {tgt : Nat} (d : decode cc pc = .ok (.ifCond .ge off, 3)) (ht : (pc : Int) + off = (tgt : Int)) (kt : 0 ≤ x → ml_V p l e R s m args below meth c Q base D cA kc ks rr n σ (F0 m (tgt) ls (rest))) (kf : ¬ (0 ≤ x) → ml_V p l e R s m args below meth c Q base D cA kc ks rr n σ (F0 m (pc + 3) ls (rest))) : ml_V p l e R s m args below meth c Q base D cA kc ks rr n σ (F0 m (pc) ls (.int (Int32.ofInt x) :: rest)) := fun H locs h1 h2 h3 h4 => lv_if_ge X.1 X.2.1 d ht (fun q => kt ((ml_le ml_i0 hx).mp q) H locs h1 h2 h3 h4) (fun q => kf (fun z => q ((ml_le ml_i0 hx).mpr z)) H locs h1 h2 h3 h4)
theorem ml_icmp_gt (X : ml_X p s m c meth args D cA cc nL own rt) {x y : Int} (hx : I32 x) (hy : I32 y) {off : Int} {tgt : Nat} (d : decode cc pc = .ok (.if_icmp .gt off, 3)) (ht : (pc : Int) + off = (tgt : Int)) (kt : y < x → ml_V p l e R s m args below meth c Q base D cA kc ks rr n σ (F0 m (tgt) ls (rest))) (kf : ¬ (y < x) → ml_V p l e R s m args below meth c Q base D cA kc ks rr n σ (F0 m (pc + 3) ls (rest))) : ml_V p l e R s m args below meth c Q base D cA kc ks rr n σ (F0 m (pc) ls (.int (Int32.ofInt y) :: .int (Int32.ofInt x) :: rest)) := fun H locs h1 h2 h3 h4 => lv_icmp_gt X.1 X.2.1 d ht (fun q => kt ((ml_lt hy hx).mp q) H locs h1 h2 h3 h4) (fun q => kf (fun z => q ((ml_lt hy hx).mpr z)) H locs h1 h2 h3 h4)
theorem ml_if_gt (X : ml_X p s m c meth args D cA cc nL own rt) {x : Int} (hx : I32 x) {off : Int} {tgt : Nat} (d : decode cc pc = .ok (.ifCond .gt off, 3)) (ht : (pc : Int) + off = (tgt : Int)) (kt : 0 < x → ml_V p l e R s m args below meth c Q base D cA kc ks rr n σ (F0 m (tgt) ls (rest))) (kf : ¬ (0 < x) → ml_V p l e R s m args below meth c Q base D cA kc ks rr n σ (F0 m (pc + 3) ls (rest))) : ml_V p l e R s m args below meth c Q base D cA kc ks rr n σ (F0 m (pc) ls (.int (Int32.ofInt x) :: rest)) := fun H locs h1 h2 h3 h4 => lv_if_gt X.1 X.2.1 d ht (fun q => kt ((ml_lt ml_i0 hx).mp q) H locs h1 h2 h3 h4) (fun q => kf (fun z => q ((ml_lt ml_i0 hx).mpr z)) H locs h1 h2 h3 h4)
theorem ml_icmp_le (X : ml_X p s m c meth args D cA cc nL own rt) {x y : Int} (hx : I32 x) (hy : I32 y) {off : Int} {tgt : Nat} (d : decode cc pc = .ok (.if_icmp .le off, 3)) (ht : (pc : Int) + off = (tgt : Int)) (kt : x ≤ y → ml_V p l e R s m args below meth c Q base D cA kc ks rr n σ (F0 m (tgt) ls (rest))) (kf : ¬ (x ≤ y) → ml_V p l e R s m args below meth c Q base D cA kc ks rr n σ (F0 m (pc + 3) ls (rest))) : ml_V p l e R s m args below meth c Q base D cA kc ks rr n σ (F0 m (pc) ls (.int (Int32.ofInt y) :: .int (Int32.ofInt x) :: rest)) := fun H locs h1 h2 h3 h4 => lv_icmp_le X.1 X.2.1 d ht (fun q => kt ((ml_le hx hy).mp q) H locs h1 h2 h3 h4) (fun q => kf (fun z => q ((ml_le hx hy).mpr z)) H locs h1 h2 h3 h4)
theorem ml_if_le (X : ml_X p s m c meth args D cA cc nL own rt) {x : Int} (hx : I32 x) {off : Int} {tgt : Nat} (d : decode cc pc = .ok (.ifCond .le off, 3)) (ht : (pc : Int) + off = (tgt : Int)) (kt : x ≤ 0 → ml_V p l e R s m args below meth c Q base D cA kc ks rr n σ (F0 m (tgt) ls (rest))) (kf : ¬ (x ≤ 0) → ml_V p l e R s m args below meth c Q base D cA kc ks rr n σ (F0 m (pc + 3) ls (rest))) : ml_V p l e R s m args below meth c Q base D cA kc ks rr n σ (F0 m (pc) ls (.int (Int32.ofInt x) :: rest)) := fun H locs h1 h2 h3 h4 => lv_if_le X.1 X.2.1 d ht (fun q => kt ((ml_le hx ml_i0).mp q) H locs h1 h2 h3 h4) (fun q => kf (fun z => q ((ml_le hx ml_i0).mpr z)) H locs h1 h2 h3 h4)
def l_cmp (x y : Int) : Int := if x < y then -1 else if x = y then 0 else 1
theorem l_cmp_r (x y : Int) : I32 (l_cmp x y) := by unfold l_cmp; split; · exact ⟨by decide, by decide⟩
                                                    · split <;> exact ⟨by decide, by decide⟩
theorem l_cmp_eq {x y : Int} : l_cmp x y = 0 ↔ x = y := by unfold l_cmp; split <;> (try split) <;> omega
theorem l_cmp_ne {x y : Int} : l_cmp x y ≠ 0 ↔ x ≠ y := not_congr l_cmp_eq
theorem l_cmp_lt {x y : Int} : l_cmp x y < 0 ↔ x < y := by unfold l_cmp; split <;> (try split) <;> omega
theorem l_cmp_ge {x y : Int} : 0 ≤ l_cmp x y ↔ y ≤ x := by unfold l_cmp; split <;> (try split) <;> omega
theorem l_cmp_gt {x y : Int} : 0 < l_cmp x y ↔ y < x := by unfold l_cmp; split <;> (try split) <;> omega
theorem l_cmp_le {x y : Int} : l_cmp x y ≤ 0 ↔ x ≤ y := by unfold l_cmp; split <;> (try split) <;> omega
theorem l_cmp_e {x y : Int} (hx : I64 x) (hy : I64 y) : lg_cmp (Int64.ofInt x) (Int64.ofInt y) = Int32.ofInt (l_cmp x y) := by
  unfold lg_cmp l_cmp
  have e1 := ml_llt hx hy
  have e2 := ml_leq hx hy
  have e3 := ml_llt hy hx
  rcases Int.lt_trichotomy x y with h | h | h
  · have h3 : ¬ Int64.ofInt y < Int64.ofInt x := fun q => by have := e3.mp q; omega
    have h4 : ¬ Int64.ofInt x = Int64.ofInt y := fun q => by have := e2.mp q; omega
    rw [if_neg h3, if_neg h4, if_pos h]; rfl
  · subst h
    have h3 : ¬ Int64.ofInt x < Int64.ofInt x := fun q => by have := e3.mp q; omega
    rw [if_neg h3, if_pos rfl, if_neg (by omega), if_pos rfl]; rfl
  · rw [if_pos (e3.mpr h), if_neg (by omega), if_neg (by omega)]; rfl
theorem ml_lcmp_eq (X : ml_X p s m c meth args D cA cc nL own rt) {x y : Int} (hx : I64 x) (hy : I64 y) {off : Int} {tgt : Nat} (d : decode cc pc = .ok (.lcmp, 1)) (d2 : decode cc (pc + 1) = .ok (.ifCond .eq off, 3)) (ht : ((pc + 1 : Nat) : Int) + off = (tgt : Int)) (kt : x = y → ml_V p l e R s m args below meth c Q base D cA kc ks rr n σ (F0 m (tgt) ls (rest))) (kf : ¬ (x = y) → ml_V p l e R s m args below meth c Q base D cA kc ks rr n σ (F0 m (pc + 1 + 3) ls (rest))) : ml_V p l e R s m args below meth c Q base D cA kc ks rr n σ (F0 m (pc) ls (.long (Int64.ofInt y) :: .long (Int64.ofInt x) :: rest)) := fun H locs h1 h2 h3 h4 => W.lcmp X.1 X.2.1 d (by rw [l_cmp_e hx hy]; exact ml_if_eq X (l_cmp_r x y) d2 ht (fun q => kt (l_cmp_eq.mp q)) (fun q => kf (fun z => q (l_cmp_eq.mpr z))) H locs h1 h2 h3 h4)
theorem ml_lcmp_ne (X : ml_X p s m c meth args D cA cc nL own rt) {x y : Int} (hx : I64 x) (hy : I64 y) {off : Int} {tgt : Nat} (d : decode cc pc = .ok (.lcmp, 1)) (d2 : decode cc (pc + 1) = .ok (.ifCond .ne off, 3)) (ht : ((pc + 1 : Nat) : Int) + off = (tgt : Int)) (kt : x ≠ y → ml_V p l e R s m args below meth c Q base D cA kc ks rr n σ (F0 m (tgt) ls (rest))) (kf : x = y → ml_V p l e R s m args below meth c Q base D cA kc ks rr n σ (F0 m (pc + 1 + 3) ls (rest))) : ml_V p l e R s m args below meth c Q base D cA kc ks rr n σ (F0 m (pc) ls (.long (Int64.ofInt y) :: .long (Int64.ofInt x) :: rest)) := fun H locs h1 h2 h3 h4 => W.lcmp X.1 X.2.1 d (by rw [l_cmp_e hx hy]; exact ml_if_ne X (l_cmp_r x y) d2 ht (fun q => kt (l_cmp_ne.mp q)) (fun q => kf (l_cmp_eq.mp q)) H locs h1 h2 h3 h4)
theorem ml_lcmp_lt (X : ml_X p s m c meth args D cA cc nL own rt) {x y : Int} (hx : I64 x) (hy : I64 y) {off : Int} {tgt : Nat} (d : decode cc pc = .ok (.lcmp, 1)) (d2 : decode cc (pc + 1) = .ok (.ifCond .lt off, 3)) (ht : ((pc + 1 : Nat) : Int) + off = (tgt : Int)) (kt : x < y → ml_V p l e R s m args below meth c Q base D cA kc ks rr n σ (F0 m (tgt) ls (rest))) (kf : ¬ (x < y) → ml_V p l e R s m args below meth c Q base D cA kc ks rr n σ (F0 m (pc + 1 + 3) ls (rest))) : ml_V p l e R s m args below meth c Q base D cA kc ks rr n σ (F0 m (pc) ls (.long (Int64.ofInt y) :: .long (Int64.ofInt x) :: rest)) := fun H locs h1 h2 h3 h4 => W.lcmp X.1 X.2.1 d (by rw [l_cmp_e hx hy]; exact ml_if_lt X (l_cmp_r x y) d2 ht (fun q => kt (l_cmp_lt.mp q)) (fun q => kf (fun z => q (l_cmp_lt.mpr z))) H locs h1 h2 h3 h4)
theorem ml_lcmp_ge (X : ml_X p s m c meth args D cA cc nL own rt) {x y : Int} (hx : I64 x) (hy : I64 y) {off : Int} {tgt : Nat} (d : decode cc pc = .ok (.lcmp, 1)) (d2 : decode cc (pc + 1) = .ok (.ifCond .ge off, 3)) (ht : ((pc + 1 : Nat) : Int) + off = (tgt : Int)) (kt : y ≤ x → ml_V p l e R s m args below meth c Q base D cA kc ks rr n σ (F0 m (tgt) ls (rest))) (kf : ¬ (y ≤ x) → ml_V p l e R s m args below meth c Q base D cA kc ks rr n σ (F0 m (pc + 1 + 3) ls (rest))) : ml_V p l e R s m args below meth c Q base D cA kc ks rr n σ (F0 m (pc) ls (.long (Int64.ofInt y) :: .long (Int64.ofInt x) :: rest)) := fun H locs h1 h2 h3 h4 => W.lcmp X.1 X.2.1 d (by rw [l_cmp_e hx hy]; exact ml_if_ge X (l_cmp_r x y) d2 ht (fun q => kt (l_cmp_ge.mp q)) (fun q => kf (fun z => q (l_cmp_ge.mpr z))) H locs h1 h2 h3 h4)
theorem ml_lcmp_gt (X : ml_X p s m c meth args D cA cc nL own rt) {x y : Int} (hx : I64 x) (hy : I64 y) {off : Int} {tgt : Nat} (d : decode cc pc = .ok (.lcmp, 1)) (d2 : decode cc (pc + 1) = .ok (.ifCond .gt off, 3)) (ht : ((pc + 1 : Nat) : Int) + off = (tgt : Int)) (kt : y < x → ml_V p l e R s m args below meth c Q base D cA kc ks rr n σ (F0 m (tgt) ls (rest))) (kf : ¬ (y < x) → ml_V p l e R s m args below meth c Q base D cA kc ks rr n σ (F0 m (pc + 1 + 3) ls (rest))) : ml_V p l e R s m args below meth c Q base D cA kc ks rr n σ (F0 m (pc) ls (.long (Int64.ofInt y) :: .long (Int64.ofInt x) :: rest)) := fun H locs h1 h2 h3 h4 => W.lcmp X.1 X.2.1 d (by rw [l_cmp_e hx hy]; exact ml_if_gt X (l_cmp_r x y) d2 ht (fun q => kt (l_cmp_gt.mp q)) (fun q => kf (fun z => q (l_cmp_gt.mpr z))) H locs h1 h2 h3 h4)
theorem ml_lcmp_le (X : ml_X p s m c meth args D cA cc nL own rt) {x y : Int} (hx : I64 x) (hy : I64 y) {off : Int} {tgt : Nat} (d : decode cc pc = .ok (.lcmp, 1)) (d2 : decode cc (pc + 1) = .ok (.ifCond .le off, 3)) (ht : ((pc + 1 : Nat) : Int) + off = (tgt : Int)) (kt : x ≤ y → ml_V p l e R s m args below meth c Q base D cA kc ks rr n σ (F0 m (tgt) ls (rest))) (kf : ¬ (x ≤ y) → ml_V p l e R s m args below meth c Q base D cA kc ks rr n σ (F0 m (pc + 1 + 3) ls (rest))) : ml_V p l e R s m args below meth c Q base D cA kc ks rr n σ (F0 m (pc) ls (.long (Int64.ofInt y) :: .long (Int64.ofInt x) :: rest)) := fun H locs h1 h2 h3 h4 => W.lcmp X.1 X.2.1 d (by rw [l_cmp_e hx hy]; exact ml_if_le X (l_cmp_r x y) d2 ht (fun q => kt (l_cmp_le.mp q)) (fun q => kf (fun z => q (l_cmp_le.mpr z))) H locs h1 h2 h3 h4)
theorem ml_tIn (X : ml_X p s m c meth args D cA cc nL own rt) {x v : Int} (hx : x = v) {dflt lo hi off : Int} {offs : Array Int} {len tgt : Nat} (d : decode cc pc = .ok (.tableswitch dflt lo hi offs, len)) (hl : ¬ (Int32.ofInt v).toInt < lo) (hh : ¬ hi < (Int32.ofInt v).toInt) (ho : offs[((Int32.ofInt v).toInt - lo).toNat]? = some off) (ht : (pc : Int) + off = (tgt : Int)) (k : ml_V p l e R s m args below meth c Q base D cA kc ks rr n σ (F0 m (tgt) ls (rest))) : ml_V p l e R s m args below meth c Q base D cA kc ks rr n σ (F0 m (pc) ls (.int (Int32.ofInt x) :: rest)) := by
  subst hx
  exact fun H locs h1 h2 h3 h4 => lv_tableIn X.1 X.2.1 d hl hh ho ht (k H locs h1 h2 h3 h4)
theorem ml_tOut (X : ml_X p s m c meth args D cA cc nL own rt) {x : Int} (hx : I32 x) {dflt lo hi : Int} {offs : Array Int} {len tgt : Nat} (d : decode cc pc = .ok (.tableswitch dflt lo hi offs, len)) (ho : x < lo ∨ hi < x) (ht : (pc : Int) + dflt = (tgt : Int)) (k : ml_V p l e R s m args below meth c Q base D cA kc ks rr n σ (F0 m (tgt) ls (rest))) : ml_V p l e R s m args below meth c Q base D cA kc ks rr n σ (F0 m (pc) ls (.int (Int32.ofInt x) :: rest)) :=
  fun H locs h1 h2 h3 h4 => lv_tableOut X.1 X.2.1 d (by rw [ml_32 hx]; exact ho) ht (k H locs h1 h2 h3 h4)
theorem ml_iald (X : ml_X p s m c meth args D cA cc nL own rt) {k i : Int} {N : Nat} (hk : ml_at n k (1, N)) (hi : 0 ≤ i) (hN : i < N) (d : decode cc pc = .ok (.iaload, 1)) (kk : I32 (σ k i) → ml_V p l e R s m args below meth c Q base D cA kc ks rr n σ (F0 m (pc + 1) ls (.int (Int32.ofInt (σ k i)) :: rest))) : ml_V p l e R s m args below meth c Q base D cA kc ks rr n σ (F0 m (pc) ls (.int (Int32.ofInt i) :: .ref (base + k.toNat) :: rest)) := by
  intro H locs h1 h2 h3 h4
  have hr : I32 (σ k i) := by
    have := h3 k i hk.1 hk.2.1 hi
    unfold ml_et at this
    rw [hk.2.2] at this
    exact this
  have hg := ml_cells_get (base := base) (cA := cA) (σ := σ) hk
  have hl := ml_len hk
  refine va_iald X.1 X.2.1 X.2.2.2.2.2.1 h1 (k.toNat - 1) 1 hg rfl (ml_vin hi hN hl) d ?_
  rw [ml_cl hi (by have : N ≤ 100000 := hl; omega), Int.toNat_of_nonneg hi]
  exact kk hr H locs h1 h2 h3 h4
theorem ml_bald (X : ml_X p s m c meth args D cA cc nL own rt) {k i : Int} {N : Nat} (hk : ml_at n k (2, N)) (hi : 0 ≤ i) (hN : i < N) (d : decode cc pc = .ok (.baload, 1)) (kk : ml_I8 (σ k i) → ml_V p l e R s m args below meth c Q base D cA kc ks rr n σ (F0 m (pc + 1) ls (.int (Int32.ofInt (σ k i)) :: rest))) : ml_V p l e R s m args below meth c Q base D cA kc ks rr n σ (F0 m (pc) ls (.int (Int32.ofInt i) :: .ref (base + k.toNat) :: rest)) := by
  intro H locs h1 h2 h3 h4
  have hr : ml_I8 (σ k i) := by
    have := h3 k i hk.1 hk.2.1 hi
    unfold ml_et at this
    rw [hk.2.2] at this
    exact this
  have hg := ml_cells_get (base := base) (cA := cA) (σ := σ) hk
  have hl := ml_len hk
  refine va_bald X.1 X.2.1 X.2.2.2.2.2.1 h1 (k.toNat - 1) 2 hg rfl (ml_vin hi hN hl) d ?_
  rw [ml_cl hi (by have : N ≤ 100000 := hl; omega), Int.toNat_of_nonneg hi]
  exact kk hr H locs h1 h2 h3 h4
theorem ml_zald (X : ml_X p s m c meth args D cA cc nL own rt) {k i : Int} {N : Nat} (hk : ml_at n k (3, N)) (hi : 0 ≤ i) (hN : i < N) (d : decode cc pc = .ok (.baload, 1)) (kk : ml_B (σ k i) → ml_V p l e R s m args below meth c Q base D cA kc ks rr n σ (F0 m (pc + 1) ls (.int (Int32.ofInt (σ k i)) :: rest))) : ml_V p l e R s m args below meth c Q base D cA kc ks rr n σ (F0 m (pc) ls (.int (Int32.ofInt i) :: .ref (base + k.toNat) :: rest)) := by
  intro H locs h1 h2 h3 h4
  have hr : ml_B (σ k i) := by
    have := h3 k i hk.1 hk.2.1 hi
    unfold ml_et at this
    rw [hk.2.2] at this
    exact this
  have hg := ml_cells_get (base := base) (cA := cA) (σ := σ) hk
  have hl := ml_len hk
  refine va_zald X.1 X.2.1 X.2.2.2.2.2.1 h1 (k.toNat - 1) 3 hg rfl (ml_vin hi hN hl) d ?_
  rw [ml_cl hi (by have : N ≤ 100000 := hl; omega), Int.toNat_of_nonneg hi]
  exact kk hr H locs h1 h2 h3 h4
theorem ml_lald (X : ml_X p s m c meth args D cA cc nL own rt) {k i : Int} {N : Nat} (hk : ml_at n k (4, N)) (hi : 0 ≤ i) (hN : i < N) (d : decode cc pc = .ok (.laload, 1)) (kk : I64 (σ k i) → ml_V p l e R s m args below meth c Q base D cA kc ks rr n σ (F0 m (pc + 1) ls (.long (Int64.ofInt (σ k i)) :: rest))) : ml_V p l e R s m args below meth c Q base D cA kc ks rr n σ (F0 m (pc) ls (.int (Int32.ofInt i) :: .ref (base + k.toNat) :: rest)) := by
  intro H locs h1 h2 h3 h4
  have hr : I64 (σ k i) := by
    have := h3 k i hk.1 hk.2.1 hi
    unfold ml_et at this
    rw [hk.2.2] at this
    exact this
  have hg := ml_cells_get (base := base) (cA := cA) (σ := σ) hk
  have hl := ml_len hk
  refine va_lald X.1 X.2.1 X.2.2.2.2.2.1 h1 (k.toNat - 1) 4 hg rfl (ml_vin hi hN hl) d ?_
  rw [ml_cl hi (by have : N ≤ 100000 := hl; omega), Int.toNat_of_nonneg hi]
  exact kk hr H locs h1 h2 h3 h4
theorem ml_arr_setX {N : Nat} {k i v : Int} (hk : ml_at n k (1, N)) (hi : 0 ≤ i) : (fun j : Nat => Int32.ofInt (ml_up σ k i v k j)) = upd (fun j : Nat => Int32.ofInt (σ k j)) i.toNat (Int32.ofInt v) := by
  funext j
  unfold upd ml_up
  by_cases h : j = i.toNat
  · subst h; simp [Int.toNat_of_nonneg hi]
  · have : ¬ (j : Int) = i := by omega
    simp [h, this]
theorem ml_arr_set' {k i v : Int} (hi : 0 ≤ i) : (fun j : Nat => Int32.ofInt (ml_up σ k i v k j)) = upd (fun j : Nat => Int32.ofInt (σ k j)) i.toNat (Int32.ofInt v) := by
  funext j
  unfold upd ml_up
  by_cases h : j = i.toNat
  · subst h; simp [Int.toNat_of_nonneg hi]
  · have : ¬ (j : Int) = i := by omega
    simp [h, this]
theorem ml_arr_setL {k i v : Int} (hi : 0 ≤ i) : (fun j : Nat => Int64.ofInt (ml_up σ k i v k j)) = vp_updL (fun j : Nat => Int64.ofInt (σ k j)) i.toNat (Int64.ofInt v) := by
  funext j
  unfold vp_updL ml_up
  by_cases h : j = i.toNat
  · subst h; simp [Int.toNat_of_nonneg hi]
  · have : ¬ (j : Int) = i := by omega
    simp [h, this]
theorem ml_rof_arr {k i : Int} {t N : Nat} (hk : ml_at n k (t, N)) (ht : t < 5) : ml_rof k i = 0 := by
  unfold ml_rof
  rw [show ml_layT k = (t, N) from hk.2.2]
  match t, ht with
  | 0, _ => rfl
  | 1, _ => rfl
  | 2, _ => rfl
  | 3, _ => rfl
  | 4, _ => rfl
theorem ml_iast (X : ml_X p s m c meth args D cA cc nL own rt) {k i v : Int} {N : Nat} (hk : ml_at n k (1, N)) (hi : 0 ≤ i) (hN : i < N) (hv : I32 v) (d : decode cc pc = .ok (.iastore, 1)) (kk : ∀ σ' : ml_St, σ' = ml_up σ k i v → ml_V p l e R s m args below meth c Q base D cA kc ks rr n σ' (F0 m (pc + 1) ls (rest))) : ml_V p l e R s m args below meth c Q base D cA kc ks rr n σ (F0 m (pc) ls (.int (Int32.ofInt v) :: .int (Int32.ofInt i) :: .ref (base + k.toNat) :: rest)) := by
  intro H locs h1 h2 h3 h4
  have hg := ml_cells_get (base := base) (cA := cA) (σ := σ) hk
  have hl := ml_len hk
  refine va_iast X.1 X.2.1 X.2.2.2.2.2.1 h1 (ml_cells_D base cA n σ) h2 (k.toNat - 1) 1 hg rfl (ml_vin hi hN hl) d (fun H1 locs1 g1 _ g3 => ?_)
  rw [ml_cl hi (by have : N ≤ 100000 := hl; omega)] at g1
  skip
  refine kk _ rfl H1 locs1 ?_ g3 (ml_ok_up h3 (by unfold ml_et; rw [hk.2.2]; exact hv)) (ml_RO_up h4 (ml_rof_arr hk (by decide)))
  rw [ml_cells_set (kd := (1, N)) (σ' := ml_up σ k i v) hk (by show _ = Sum.inl _; simp only [ml_arr_set' hi]) (fun a ha => ml_up_k ha)] at g1
  exact g1
theorem ml_bast (X : ml_X p s m c meth args D cA cc nL own rt) {k i v : Int} {N : Nat} (hk : ml_at n k (2, N)) (hi : 0 ≤ i) (hN : i < N) (hv : ml_I8 v) (d : decode cc pc = .ok (.bastore, 1)) (kk : ∀ σ' : ml_St, σ' = ml_up σ k i v → ml_V p l e R s m args below meth c Q base D cA kc ks rr n σ' (F0 m (pc + 1) ls (rest))) : ml_V p l e R s m args below meth c Q base D cA kc ks rr n σ (F0 m (pc) ls (.int (Int32.ofInt v) :: .int (Int32.ofInt i) :: .ref (base + k.toNat) :: rest)) := by
  intro H locs h1 h2 h3 h4
  have hg := ml_cells_get (base := base) (cA := cA) (σ := σ) hk
  have hl := ml_len hk
  refine va_bast X.1 X.2.1 X.2.2.2.2.2.1 h1 (ml_cells_D base cA n σ) h2 (k.toNat - 1) 2 hg rfl (ml_vin hi hN hl) d (fun H1 locs1 g1 _ g3 => ?_)
  rw [ml_cl hi (by have : N ≤ 100000 := hl; omega)] at g1
  rw [ml_nb hv] at g1
  refine kk _ rfl H1 locs1 ?_ g3 (ml_ok_up h3 (by unfold ml_et; rw [hk.2.2]; exact hv)) (ml_RO_up h4 (ml_rof_arr hk (by decide)))
  rw [ml_cells_set (kd := (2, N)) (σ' := ml_up σ k i v) hk (by show _ = Sum.inl _; simp only [ml_arr_set' hi]) (fun a ha => ml_up_k ha)] at g1
  exact g1
theorem ml_zast (X : ml_X p s m c meth args D cA cc nL own rt) {k i v : Int} {N : Nat} (hk : ml_at n k (3, N)) (hi : 0 ≤ i) (hN : i < N) (hv : ml_B v) (d : decode cc pc = .ok (.bastore, 1)) (kk : ∀ σ' : ml_St, σ' = ml_up σ k i v → ml_V p l e R s m args below meth c Q base D cA kc ks rr n σ' (F0 m (pc + 1) ls (rest))) : ml_V p l e R s m args below meth c Q base D cA kc ks rr n σ (F0 m (pc) ls (.int (Int32.ofInt v) :: .int (Int32.ofInt i) :: .ref (base + k.toNat) :: rest)) := by
  intro H locs h1 h2 h3 h4
  have hg := ml_cells_get (base := base) (cA := cA) (σ := σ) hk
  have hl := ml_len hk
  refine va_zast X.1 X.2.1 X.2.2.2.2.2.1 h1 (ml_cells_D base cA n σ) h2 (k.toNat - 1) 3 hg rfl (ml_vin hi hN hl) d (fun H1 locs1 g1 _ g3 => ?_)
  rw [ml_cl hi (by have : N ≤ 100000 := hl; omega)] at g1
  rw [ml_nz hv] at g1
  refine kk _ rfl H1 locs1 ?_ g3 (ml_ok_up h3 (by unfold ml_et; rw [hk.2.2]; exact hv)) (ml_RO_up h4 (ml_rof_arr hk (by decide)))
  rw [ml_cells_set (kd := (3, N)) (σ' := ml_up σ k i v) hk (by show _ = Sum.inl _; simp only [ml_arr_set' hi]) (fun a ha => ml_up_k ha)] at g1
  exact g1
theorem ml_last (X : ml_X p s m c meth args D cA cc nL own rt) {k i v : Int} {N : Nat} (hk : ml_at n k (4, N)) (hi : 0 ≤ i) (hN : i < N) (hv : I64 v) (d : decode cc pc = .ok (.lastore, 1)) (kk : ∀ σ' : ml_St, σ' = ml_up σ k i v → ml_V p l e R s m args below meth c Q base D cA kc ks rr n σ' (F0 m (pc + 1) ls (rest))) : ml_V p l e R s m args below meth c Q base D cA kc ks rr n σ (F0 m (pc) ls (.long (Int64.ofInt v) :: .int (Int32.ofInt i) :: .ref (base + k.toNat) :: rest)) := by
  intro H locs h1 h2 h3 h4
  have hg := ml_cells_get (base := base) (cA := cA) (σ := σ) hk
  have hl := ml_len hk
  refine va_last X.1 X.2.1 X.2.2.2.2.2.1 h1 (ml_cells_D base cA n σ) h2 (k.toNat - 1) 4 hg rfl (ml_vin hi hN hl) d (fun H1 locs1 g1 _ g3 => ?_)
  rw [ml_cl hi (by have : N ≤ 100000 := hl; omega)] at g1
  skip
  refine kk _ rfl H1 locs1 ?_ g3 (ml_ok_up h3 (by unfold ml_et; rw [hk.2.2]; exact hv)) (ml_RO_up h4 (ml_rof_arr hk (by decide)))
  rw [ml_cells_set (kd := (4, N)) (σ' := ml_up σ k i v) hk (by show _ = Sum.inl _; simp only [ml_arr_setL hi]) (fun a ha => ml_up_k ha)] at g1
  exact g1
end MLV
end
section
/-! objects, calls, ends -/
theorem ml_cell_obj {base : Nat} {cA : Nat → ClassId} {ci N : Nat} {f : Int → Int} (h : ci < 13) : ml_cell base cA (ci + 10, N) f = .inr (ci, (List.range N).map fun j => ml_fv base (ml_ty ci j) (f j)) := by
  match ci, h with
  | 0, _ => rfl
  | 1, _ => rfl
  | 2, _ => rfl
  | 3, _ => rfl
  | 4, _ => rfl
  | 5, _ => rfl
  | 6, _ => rfl
  | 7, _ => rfl
  | 8, _ => rfl
  | 9, _ => rfl
  | 10, _ => rfl
  | 11, _ => rfl
  | 12, _ => rfl
theorem ml_rgO {n : Nat} {σ : ml_St} {ci N : Nat} {k : Int} (h3 : ml_ok n σ) (hk : ml_at n k (ci + 10, N)) (j : Nat) : ml_rg (ml_fe (ml_ty ci j)) (σ k j) := by
  have h := h3 k j hk.1 hk.2.1 (Int.natCast_nonneg j)
  unfold ml_et at h
  rw [show ml_lay k = (ci + 10, N) from hk.2.2] at h
  rw [if_neg (by show ¬ ci + 10 < 10; omega)] at h
  rw [show (ci + 10, N).1 - 10 = ci from by show ci + 10 - 10 = ci; omega, show ((j : Nat) : Int).toNat = j from Int.toNat_natCast j] at h
  exact h
theorem ml_etO {n : Nat} {ci N : Nat} {k : Int} (hk : ml_at n k (ci + 10, N)) (j : Nat) : ml_et k j = ml_fe (ml_ty ci j) := by
  unfold ml_et
  rw [show ml_lay k = (ci + 10, N) from hk.2.2]
  rw [if_neg (by show ¬ ci + 10 < 10; omega)]
  rw [show (ci + 10, N).1 - 10 = ci from by show ci + 10 - 10 = ci; omega, show ((j : Nat) : Int).toNat = j from Int.toNat_natCast j]
theorem ml_obj_set {base : Nat} {σ : ml_St} {ci N j : Nat} {k x : Int} (hj : j < N) : ((List.range N).map fun j => ml_fv base (ml_ty ci j) (σ k j)).set j (ml_fv base (ml_ty ci j) x) = (List.range N).map fun i => ml_fv base (ml_ty ci i) (ml_up σ k j x k i) := by
  apply List.ext_getElem?
  intro i
  rw [List.getElem?_set]
  by_cases h : j = i
  · subst h
    simp [hj, ml_up]
  · rw [if_neg h]
    by_cases hi : i < N
    · have : ¬ (i : Int) = (j : Int) := by omega
      simp [hi, ml_up, this]
    · simp [hi]
def ml_U (base : Nat) (D : va_G) (cA : Nat → ClassId) (n : Nat) (σ : ml_St) (U : State) : Prop := va_P D ml_cls (ml_cells base cA n σ) U.heap ∧ va_K D ml_cls (ml_tys cA) U ∧ ml_ok n σ ∧ ml_RO n σ
theorem ml_U_blind {base : Nat} {D : va_G} {cA : Nat → ClassId} {n : Nat} {σ : ml_St} {As : List Value} : FrameBlind (va_Pc As (ml_U base D cA n σ)) := fun a U g mk q => by
  obtain ⟨q0, qP, qK, q3, q4⟩ := q
  exact ⟨q0, qP, va_K.moved (u := U) (U := U.calling g mk a) (Vm.Alike.refl U.vm) qK, q3, q4⟩
def ml_Qv (base : Nat) (D : va_G) (cA : Nat → ClassId) (n : Nat) (Q : ml_St → Prop) : Array Value → State → Outcome → State → Prop := va_Qv (fun u : ml_St => Q u) (fun u U => ml_U base D cA n u U) (ml_A base)
def ml_Qi (rg : Int → Prop) (base : Nat) (D : va_G) (cA : Nat → ClassId) (n : Nat) (Q : Int → ml_St → Prop) : Array Value → State → Outcome → State → Prop := va_Qi (fun (r : Int32) (u : Int × ml_St) => r = Int32.ofInt u.1 ∧ rg u.1 ∧ Q u.1 u.2) (fun u U => ml_U base D cA n u.2 U) (ml_A base)
def ml_Ql (base : Nat) (D : va_G) (cA : Nat → ClassId) (n : Nat) (Q : Int → ml_St → Prop) : Array Value → State → Outcome → State → Prop := va_Ql (fun (r : Int64) (u : Int × ml_St) => r = Int64.ofInt u.1 ∧ I64 u.1 ∧ Q u.1 u.2) (fun u U => ml_U base D cA n u.2 U) (ml_A base)
theorem ml_bad {base : Nat} {cA : Nat → ClassId} {D : va_G} {ws wc : va_W} {H : Heap} {n : Nat} {σ : ml_St} (hP : va_P D ml_cls (ml_cells base cA n σ) H) : ∀ q, q < H.size → ml_A base q → ml_A base q := fun _ _ h => h
section MLO
variable {p : Program} {l : Launch} {e : Env} {R : Room} {s : State} {m : MethodId} {args : Array Value} {below : List Frame} {meth : Method} {c : Code} {Q : State → Prop} {base : Nat} {D : va_G} {cA : Nat → ClassId} {kc ks rr n : Nat} {σ : ml_St} {cc : ByteArray} {nL pc : Nat} {own : String} {rt : Option FieldType} {ls : Array Slot} {rest : List Value} {lst : List (Nat × Value)}
theorem ml_getg (X : ml_X p s m c meth args D cA cc nL own rt) {C : String} {T : u_T} {N ci index : Nat} (hin : ∀ w ∈ u_ws C T N, w ∈ ml_T) (hc : ml_cls[ci]? = some (C, T, N)) (hci : ci < 13) (j : Nat) (hj : j < N) (hl : Cond.fieldLink own index (T j).1 (T j).2.1 (T j).2.2.1 ∈ ml_T) {k : Int} (hk : ml_at n k (ci + 10, N)) (d : decode cc pc = .ok (.getfield index, 3)) {v : Value} (hv : ml_RO rr σ → ml_fv base (ml_ty ci j) (σ k j) = v)
    (kk : ml_rg (ml_fe (ml_ty ci j)) (σ k j) → ml_V p l e R s m args below meth c Q base D cA kc ks rr n σ (F0 m (pc + 3) ls (v :: rest))) : ml_V p l e R s m args below meth c Q base D cA kc ks rr n σ (F0 m pc ls (.ref (base + k.toNat) :: rest)) := by
  intro H locs h1 h2 h3 h4
  have hg := ml_cells_get (base := base) (cA := cA) (σ := σ) hk
  rw [ml_cell_obj hci] at hg
  have hv' := hv h4
  exact va_get X.1 X.2.1 X.2.2.2.2.1 hin X.2.2.2.1 X.2.2.2.2.2.1 h1 (k.toNat - 1) hg hc j hj (X.2.2.2.2.1 _ hl) (fun _ h => h) (by simp [hj, hv']) d (kk (ml_rgO h3 hk j) H locs h1 h2 h3 h4)
theorem ml_putg (X : ml_X p s m c meth args D cA cc nL own rt) {C : String} {T : u_T} {N ci index : Nat} (hin : ∀ w ∈ u_ws C T N, w ∈ ml_T) (hc : ml_cls[ci]? = some (C, T, N)) (hci : ci < 13) (hty : ∀ k, k < N → parseFieldDescriptor (T k).2.2.1 = some (ml_ty ci k)) (hnm : ∀ a, a < N → ∀ b, b < N → a ≠ b → (T a).2.1 ≠ (T b).2.1) (j : Nat) (hj : j < N) (hfin : (T j).2.2.2 = false) (hl : Cond.fieldLink own index (T j).1 (T j).2.1 (T j).2.2.1 ∈ ml_T) {k x : Int} (hk : ml_at n k (ci + 10, N)) (d : decode cc pc = .ok (.putfield index, 3)) {v : Value} (hv : v = ml_fv base (ml_ty ci j) x) (hx : ml_rg (ml_fe (ml_ty ci j)) x) (hnar : narrow (ml_ty ci j) v = v) (hfit : fits (ml_ty ci j) v = true) (hro : rr < k ∨ ml_rof k j = 0)
    (kk : ∀ σ' : ml_St, σ' = ml_up σ k j x → ml_V p l e R s m args below meth c Q base D cA kc ks rr n σ' (F0 m (pc + 3) ls rest)) : ml_V p l e R s m args below meth c Q base D cA kc ks rr n σ (F0 m pc ls (v :: .ref (base + k.toNat) :: rest)) := by
  intro H locs h1 h2 h3 h4
  have hg := ml_cells_get (base := base) (cA := cA) (σ := σ) hk
  rw [ml_cell_obj hci] at hg
  refine va_put X.1 X.2.1 X.2.2.2.2.1 hin (ml_ty ci) hty hnm X.2.2.2.1 X.2.2.2.2.2.1 h1 (ml_cells_D base cA n σ) h2 (k.toNat - 1) hg hc j hj (X.2.2.2.2.1 _ hl) (fun _ h => h) hfin (hty j hj) hnar hfit (by simp [hj]) d (fun H1 locs1 g1 _ g3 => ?_)
  have e : ml_cell base cA (ci + 10, N) (ml_up σ k j x k) = .inr (ci, (List.range N).map fun i => ml_fv base (ml_ty ci i) (ml_up σ k j x k i)) := ml_cell_obj hci
  rw [hv, ml_obj_set hj, ml_cells_set (kd := (ci + 10, N)) (σ' := ml_up σ k j x) hk e.symm (fun a ha => ml_up_k ha)] at g1
  refine kk _ rfl H1 locs1 g1 g3 (ml_ok_up h3 (by rw [ml_etO hk]; exact hx)) ?_
  intro a b q1 q2 q3
  by_cases ha : a = k ∧ b = j
  · rcases hro with q | q
    · exact absurd (ha.1 ▸ q2) (by omega)
    · rw [ha.1, ha.2] at q3; exact absurd q q3
  · simp only [ml_up, ha, if_false]; exact h4 a b q1 q2 q3
theorem ml_putF (X : ml_X p s m c meth args D cA cc nL own rt) (hini : meth.name = "<init>") {C : String} {T : u_T} {N ci index : Nat} (hin : ∀ w ∈ u_ws C T N, w ∈ ml_T) (hc : ml_cls[ci]? = some (C, T, N)) (hci : ci < 13) (hty : ∀ k, k < N → parseFieldDescriptor (T k).2.2.1 = some (ml_ty ci k)) (hnm : ∀ a, a < N → ∀ b, b < N → a ≠ b → (T a).2.1 ≠ (T b).2.1) (j : Nat) (hj : j < N) (hfin : (T j).2.2.2 = true) (hdecl : (T j).1 = own) (hl : Cond.fieldLink own index (T j).1 (T j).2.1 (T j).2.2.1 ∈ ml_T) {k x : Int} (hk : ml_at n k (ci + 10, N)) (d : decode cc pc = .ok (.putfield index, 3)) {v : Value} (hv : v = ml_fv base (ml_ty ci j) x) (hx : ml_rg (ml_fe (ml_ty ci j)) x) (hnar : narrow (ml_ty ci j) v = v) (hfit : fits (ml_ty ci j) v = true) (hro : rr < k ∨ ml_rof k j = 0)
    (kk : ∀ σ' : ml_St, σ' = ml_up σ k j x → ml_V p l e R s m args below meth c Q base D cA kc ks rr n σ' (F0 m (pc + 3) ls rest)) : ml_V p l e R s m args below meth c Q base D cA kc ks rr n σ (F0 m pc ls (v :: .ref (base + k.toNat) :: rest)) := by
  intro H locs h1 h2 h3 h4
  have hg := ml_cells_get (base := base) (cA := cA) (σ := σ) hk
  rw [ml_cell_obj hci] at hg
  refine va_putF X.1 X.2.1 X.2.2.2.2.1 hin (ml_ty ci) hty hnm X.2.2.2.1 X.2.2.2.2.2.1 h1 (ml_cells_D base cA n σ) h2 (k.toNat - 1) hg hc j hj (X.2.2.2.2.1 _ hl) (fun _ h => h) hfin hini hdecl (hty j hj) hnar hfit (by simp [hj]) d (fun H1 locs1 g1 _ g3 => ?_)
  have e : ml_cell base cA (ci + 10, N) (ml_up σ k j x k) = .inr (ci, (List.range N).map fun i => ml_fv base (ml_ty ci i) (ml_up σ k j x k i)) := ml_cell_obj hci
  rw [hv, ml_obj_set hj, ml_cells_set (kd := (ci + 10, N)) (σ' := ml_up σ k j x) hk e.symm (fun a ha => ml_up_k ha)] at g1
  refine kk _ rfl H1 locs1 g1 g3 (ml_ok_up h3 (by rw [ml_etO hk]; exact hx)) ?_
  intro a b q1 q2 q3
  by_cases ha : a = k ∧ b = j
  · rcases hro with q | q
    · exact absurd (ha.1 ▸ q2) (by omega)
    · rw [ha.1, ha.2] at q3; exact absurd q q3
  · simp only [ml_up, ha, if_false]; exact h4 a b q1 q2 q3
theorem ml_recv {H : Heap} {ci N : Nat} {k : Int} {C : String} {T : u_T} (hK : va_K D ml_cls (ml_tys cA) s) (hP : va_P D ml_cls (ml_cells base cA n σ) H) (hci : ci < 13) (hc : ml_cls[ci]? = some (C, T, N)) (hk : ml_at n k (ci + 10, N)) : ∃ cell : Cell, H[base + k.toNat]? = some cell ∧ cell.vm.isStatics = false ∧ s.vm.findClass C = some cell.cls := by
  have hg := ml_cells_get (base := base) (cA := cA) (σ := σ) hk
  rw [ml_cell_obj hci] at hg
  exact va_recv hK hP hc hg
theorem ml_good : ∀ w ∈ ml_T, ((w.onTables && w.keeps) = true ∨ ∃ ty, w = .arrayClass ty) := fun _ h => good_of_word (List.mem_filter.mp h).2
theorem ml_gd {y : MethodName} {bytes : ByteArray} {mxl : Nat} {ret : Option FieldType} (h : Cond.code y bytes mxl ret ∈ ml_T) : GoodIn ml_T (Cond.code y bytes mxl ret :: ml_T) := fun w hw => by
  rcases List.mem_cons.mp hw with rfl | hw
  · exact ⟨h, ml_good _ h⟩
  · exact ⟨hw, ml_good _ hw⟩
theorem ml_gdV {own C : String} {idx : Nat} {y : MethodName} {bytes : ByteArray} {mxl : Nat} {ret : Option FieldType} (h1 : Cond.methodLink own idx y ∈ ml_T) (h2 : Cond.instanceMethod y ∈ ml_T) (h3 : Cond.selects C y y ∈ ml_T) (h4 : Cond.initialized C ∈ ml_T) (h : Cond.code y bytes mxl ret ∈ ml_T) : GoodIn ml_T (wsV own idx C y (Cond.code y bytes mxl ret :: ml_T)) := fun w hw => by
  unfold wsV at hw
  rcases List.mem_append.mp hw with hw | hw
  · simp only [List.mem_cons, List.not_mem_nil, or_false] at hw
    rcases hw with rfl | rfl | rfl | rfl
    · exact ⟨h1, ml_good _ h1⟩
    · exact ⟨h2, ml_good _ h2⟩
    · exact ⟨h3, ml_good _ h3⟩
    · exact ⟨h4, ml_good _ h4⟩
  · exact ml_gd h w hw
theorem ml_gdS {own : String} {idx : Nat} {y : MethodName} {bytes : ByteArray} {mxl : Nat} {ret : Option FieldType} (h1 : Cond.methodLink own idx y ∈ ml_T) (h2 : Cond.static y ∈ ml_T) (h4 : Cond.initialized own ∈ ml_T) (h : Cond.code y bytes mxl ret ∈ ml_T) : GoodIn ml_T (wsS own idx y (Cond.code y bytes mxl ret :: ml_T)) := fun w hw => by
  unfold wsS at hw
  rcases List.mem_append.mp hw with hw | hw
  · simp only [List.mem_cons, List.not_mem_nil, or_false] at hw
    rcases hw with rfl | rfl | rfl
    · exact ⟨h1, ml_good _ h1⟩
    · exact ⟨h2, ml_good _ h2⟩
    · exact ⟨h4, ml_good _ h4⟩
  · exact ml_gd h w hw
/-- what a call by a link needs: the callee's words, its place, its room -/
def ml_CV (own C : String) (index : Nat) (y : MethodName) (bytes : ByteArray) (mxl : Nat) (ret : Option FieldType) (nA : Nat) : Prop := (Cond.methodLink own index y ∈ ml_T ∧ Cond.instanceMethod y ∈ ml_T ∧ Cond.selects C y y ∈ ml_T ∧ Cond.initialized C ∈ ml_T ∧ Cond.code y bytes mxl ret ∈ ml_T) ∧ (y.cls = C ∧ y.cls ≠ "java/lang/invoke/MethodHandle" ∧ y.cls ≠ "java/lang/invoke/VarHandle" ∧ (parseMethodDescriptor y.desc).map (fun d => d.parameters.length) = some nA)
def ml_CS (own cl : String) (index : Nat) (y : MethodName) (bytes : ByteArray) (mxl : Nat) (ret : Option FieldType) (nA : Nat) : Prop := (Cond.methodLink own index y ∈ ml_T ∧ Cond.static y ∈ ml_T ∧ Cond.initialized cl ∈ ml_T ∧ Cond.code y bytes mxl ret ∈ ml_T) ∧ (y.cls = cl ∧ y.cls ≠ "java/lang/invoke/MethodHandle" ∧ y.cls ≠ "java/lang/invoke/VarHandle" ∧ (parseMethodDescriptor y.desc).map (fun d => d.parameters.length) = some nA)
theorem ml_cwV {own C : String} {index : Nat} {y : MethodName} {bytes : ByteArray} {mxl : Nat} {ret : Option FieldType} {nA : Nat} {rm : Room} (X : ml_X p s m c meth args D cA cc nL own rt) (h : ml_CV own C index y bytes mxl ret nA) (h0 : rm.cells = 0 ∧ rm.slots = 0) (hR : rm.frames + 1 ≤ R.frames ∧ 8 + (mxl + 11) + rm.locals ≤ R.locals) : CallW R s args own C index y bytes mxl ret (Cond.code y bytes mxl ret :: ml_T) rm 0 0 nA :=
  cwV nA X.2.2.2.2.1 (ml_gdV h.1.1 h.1.2.1 h.1.2.2.1 h.1.2.2.2.1 h.1.2.2.2.2) rfl h0.1 h0.2 h.2 hR
theorem ml_cwS {own cl : String} {index : Nat} {y : MethodName} {bytes : ByteArray} {mxl : Nat} {ret : Option FieldType} {nA : Nat} {rm : Room} (X : ml_X p s m c meth args D cA cc nL own rt) (h : ml_CS own cl index y bytes mxl ret nA) (h0 : rm.cells = 0 ∧ rm.slots = 0) (hR : rm.frames + 1 ≤ R.frames ∧ 8 + (mxl + 11) + rm.locals ≤ R.locals) : CallB R s args own index y bytes mxl ret (Cond.code y bytes mxl ret :: ml_T) rm 0 0 nA ∧ (Cond.static y).before args s = true :=
  ⟨callB_of nA X.2.2.2.2.1 (ml_gd h.1.2.2.2) rfl h0.1 h0.2 (by rw [h.2.1]; exact X.2.2.2.2.1 _ h.1.2.2.1) (X.2.2.2.2.1 _ h.1.1) h.2.2 hR, X.2.2.2.2.1 _ h.1.2.1⟩
theorem ml_Upre {H : Heap} {As : List Value} (X : ml_X p s m c meth args D cA cc nL own rt) (h1 : va_P D ml_cls (ml_cells base cA n σ) H) (h3 : ml_ok n σ) (h4 : ml_RO n σ) : ∀ U : State, U.heap = H → s.WarmedH U.vm → va_Pc As (ml_U base D cA n σ) As.toArray U :=
  fun U hU hW => ⟨rfl, by rw [hU]; exact h1, va_K.moved hW.alike X.2.2.2.2.2.1, h3, h4⟩
theorem ml_callvV (X : ml_X p s m c meth args D cA cc nL own rt) {C : String} {index : Nat} {y : MethodName} {bytes : ByteArray} {mxl : Nat} {ret : Option FieldType} {nA : Nat} {rm : Room} (As : List Value) {Qc : ml_St → Prop} {ci N : Nat} {k : Int} {T : u_T} (hci : ci < 13) (hc : ml_cls[ci]? = some (C, T, N)) (hk : ml_at n k (ci + 10, N)) (hM : Met l y (Cond.code y bytes mxl ret :: ml_T) rm (va_Pc (.ref (base + k.toNat) :: As) (ml_U base D cA n σ)) (ml_Qv base D cA n Qc) 0 0 (ml_A base)) (cv : ml_CV own C index y bytes mxl ret nA) (h0 : rm.cells = 0 ∧ rm.slots = 0) (hR : rm.frames + 1 ≤ R.frames ∧ 8 + (mxl + 11) + rm.locals ≤ R.locals) {st : List Value} (hst : st = As.reverse ++ .ref (base + k.toNat) :: rest) (hn : As.length = nA) (hl : lv_has ls nL lst) (hrest : (rest.map fun v => v.category).sum ≤ 8) (hkc : kc ≤ R.cells ∧ ks ≤ R.slots) (d : decode cc pc = .ok (.invokevirtual index, 3))
    (kk : ∀ σ' : ml_St, Qc σ' → ml_V p l e R s m args below meth c Q base D cA kc ks n n σ' (F0 m (pc + 3) ls (rest))) : ml_V p l e R s m args below meth c Q base D cA kc ks n n σ (F0 m (pc) ls st) := by
  subst hst
  intro H locs h1 h2 h3 h4
  refine va_callv (va_runV (As := As) (rest := rest) ⟨X.1, X.2.1, X.2.2.1, X.2.2.2.1, X.2.2.2.2.1⟩ hM (ml_cwV X cv h0 hR) ⟨ml_U_blind, ml_recv X.2.2.2.2.2.1 h1 hci hc hk, ml_Upre X h1 h3 h4⟩ rfl hn hl.1 rfl (lv_room hrest) d hkc) h2 (fun _ _ h => h) (fun _ h => h) (fun u t H1 locs1 ht hvm hw hB hz1 hk1 hS => ?_)
  obtain ⟨hP1, hK1, hok1, hro1⟩ := hB
  rw [ht] at hP1
  exact kk u hw H1 locs1 hP1 hS hok1 hro1
theorem ml_callvS (X : ml_X p s m c meth args D cA cc nL own rt) {C : String} {index : Nat} {y : MethodName} {bytes : ByteArray} {mxl : Nat} {ret : Option FieldType} {nA : Nat} {rm : Room} (As : List Value) {Qc : ml_St → Prop} (hM : Met l y (Cond.code y bytes mxl ret :: ml_T) rm (va_Pc (As) (ml_U base D cA n σ)) (ml_Qv base D cA n Qc) 0 0 (ml_A base)) (cv : ml_CS own C index y bytes mxl ret nA) (h0 : rm.cells = 0 ∧ rm.slots = 0) (hR : rm.frames + 1 ≤ R.frames ∧ 8 + (mxl + 11) + rm.locals ≤ R.locals) {st : List Value} (hst : st = As.reverse ++ rest) (hn : As.length = nA) (hl : lv_has ls nL lst) (hrest : (rest.map fun v => v.category).sum ≤ 8) (hkc : kc ≤ R.cells ∧ ks ≤ R.slots) (d : decode cc pc = .ok (.invokestatic index, 3))
    (kk : ∀ σ' : ml_St, Qc σ' → ml_V p l e R s m args below meth c Q base D cA kc ks n n σ' (F0 m (pc + 3) ls (rest))) : ml_V p l e R s m args below meth c Q base D cA kc ks n n σ (F0 m (pc) ls st) := by
  subst hst
  intro H locs h1 h2 h3 h4
  refine va_callv (va_runS (As := As) (rest := rest) ⟨X.1, X.2.1, X.2.2.1, X.2.2.2.1, X.2.2.2.2.1⟩ hM (ml_cwS X cv h0 hR) ⟨ml_U_blind, ml_Upre X h1 h3 h4⟩ rfl hn hl.1 rfl (lv_room hrest) d hkc) h2 (fun _ _ h => h) (fun _ h => h) (fun u t H1 locs1 ht hvm hw hB hz1 hk1 hS => ?_)
  obtain ⟨hP1, hK1, hok1, hro1⟩ := hB
  rw [ht] at hP1
  exact kk u hw H1 locs1 hP1 hS hok1 hro1
theorem ml_calliV (X : ml_X p s m c meth args D cA cc nL own rt) {C : String} {index : Nat} {y : MethodName} {bytes : ByteArray} {mxl : Nat} {ret : Option FieldType} {nA : Nat} {rm : Room} (As : List Value) {Qc : Int → ml_St → Prop} {ci N : Nat} {k : Int} {T : u_T} (hci : ci < 13) (hc : ml_cls[ci]? = some (C, T, N)) (hk : ml_at n k (ci + 10, N)) (hM : Met l y (Cond.code y bytes mxl ret :: ml_T) rm (va_Pc (.ref (base + k.toNat) :: As) (ml_U base D cA n σ)) (ml_Qi I32 base D cA n Qc) 0 0 (ml_A base)) (cv : ml_CV own C index y bytes mxl ret nA) (h0 : rm.cells = 0 ∧ rm.slots = 0) (hR : rm.frames + 1 ≤ R.frames ∧ 8 + (mxl + 11) + rm.locals ≤ R.locals) {st : List Value} (hst : st = As.reverse ++ .ref (base + k.toNat) :: rest) (hn : As.length = nA) (hl : lv_has ls nL lst) (hrest : (rest.map fun v => v.category).sum ≤ 8) (hkc : kc ≤ R.cells ∧ ks ≤ R.slots) (d : decode cc pc = .ok (.invokevirtual index, 3))
    (kk : ∀ (r : Int) (σ' : ml_St), I32 r → Qc r σ' → ml_V p l e R s m args below meth c Q base D cA kc ks n n σ' (F0 m (pc + 3) ls (.int (Int32.ofInt r) :: rest))) : ml_V p l e R s m args below meth c Q base D cA kc ks n n σ (F0 m (pc) ls st) := by
  subst hst
  intro H locs h1 h2 h3 h4
  refine va_calli (va_runV (As := As) (rest := rest) ⟨X.1, X.2.1, X.2.2.1, X.2.2.2.1, X.2.2.2.2.1⟩ hM (ml_cwV X cv h0 hR) ⟨ml_U_blind, ml_recv X.2.2.2.2.2.1 h1 hci hc hk, ml_Upre X h1 h3 h4⟩ rfl hn hl.1 rfl (lv_room hrest) d hkc) h2 (fun _ _ h => h) (fun _ h => h) (fun r u t H1 locs1 ht hvm hw hB hz1 hk1 hS => ?_)
  obtain ⟨hP1, hK1, hok1, hro1⟩ := hB
  rw [ht] at hP1
  obtain ⟨rfl, hr, hq⟩ := hw
  exact kk u.1 u.2 hr hq H1 locs1 hP1 hS hok1 hro1
theorem ml_calliS (X : ml_X p s m c meth args D cA cc nL own rt) {C : String} {index : Nat} {y : MethodName} {bytes : ByteArray} {mxl : Nat} {ret : Option FieldType} {nA : Nat} {rm : Room} (As : List Value) {Qc : Int → ml_St → Prop} (hM : Met l y (Cond.code y bytes mxl ret :: ml_T) rm (va_Pc (As) (ml_U base D cA n σ)) (ml_Qi I32 base D cA n Qc) 0 0 (ml_A base)) (cv : ml_CS own C index y bytes mxl ret nA) (h0 : rm.cells = 0 ∧ rm.slots = 0) (hR : rm.frames + 1 ≤ R.frames ∧ 8 + (mxl + 11) + rm.locals ≤ R.locals) {st : List Value} (hst : st = As.reverse ++ rest) (hn : As.length = nA) (hl : lv_has ls nL lst) (hrest : (rest.map fun v => v.category).sum ≤ 8) (hkc : kc ≤ R.cells ∧ ks ≤ R.slots) (d : decode cc pc = .ok (.invokestatic index, 3))
    (kk : ∀ (r : Int) (σ' : ml_St), I32 r → Qc r σ' → ml_V p l e R s m args below meth c Q base D cA kc ks n n σ' (F0 m (pc + 3) ls (.int (Int32.ofInt r) :: rest))) : ml_V p l e R s m args below meth c Q base D cA kc ks n n σ (F0 m (pc) ls st) := by
  subst hst
  intro H locs h1 h2 h3 h4
  refine va_calli (va_runS (As := As) (rest := rest) ⟨X.1, X.2.1, X.2.2.1, X.2.2.2.1, X.2.2.2.2.1⟩ hM (ml_cwS X cv h0 hR) ⟨ml_U_blind, ml_Upre X h1 h3 h4⟩ rfl hn hl.1 rfl (lv_room hrest) d hkc) h2 (fun _ _ h => h) (fun _ h => h) (fun r u t H1 locs1 ht hvm hw hB hz1 hk1 hS => ?_)
  obtain ⟨hP1, hK1, hok1, hro1⟩ := hB
  rw [ht] at hP1
  obtain ⟨rfl, hr, hq⟩ := hw
  exact kk u.1 u.2 hr hq H1 locs1 hP1 hS hok1 hro1
theorem ml_callzV (X : ml_X p s m c meth args D cA cc nL own rt) {C : String} {index : Nat} {y : MethodName} {bytes : ByteArray} {mxl : Nat} {ret : Option FieldType} {nA : Nat} {rm : Room} (As : List Value) {Qc : Int → ml_St → Prop} {ci N : Nat} {k : Int} {T : u_T} (hci : ci < 13) (hc : ml_cls[ci]? = some (C, T, N)) (hk : ml_at n k (ci + 10, N)) (hM : Met l y (Cond.code y bytes mxl ret :: ml_T) rm (va_Pc (.ref (base + k.toNat) :: As) (ml_U base D cA n σ)) (ml_Qi ml_B base D cA n Qc) 0 0 (ml_A base)) (cv : ml_CV own C index y bytes mxl ret nA) (h0 : rm.cells = 0 ∧ rm.slots = 0) (hR : rm.frames + 1 ≤ R.frames ∧ 8 + (mxl + 11) + rm.locals ≤ R.locals) {st : List Value} (hst : st = As.reverse ++ .ref (base + k.toNat) :: rest) (hn : As.length = nA) (hl : lv_has ls nL lst) (hrest : (rest.map fun v => v.category).sum ≤ 8) (hkc : kc ≤ R.cells ∧ ks ≤ R.slots) (d : decode cc pc = .ok (.invokevirtual index, 3))
    (kk : ∀ (r : Int) (σ' : ml_St), ml_B r → Qc r σ' → ml_V p l e R s m args below meth c Q base D cA kc ks n n σ' (F0 m (pc + 3) ls (.int (Int32.ofInt r) :: rest))) : ml_V p l e R s m args below meth c Q base D cA kc ks n n σ (F0 m (pc) ls st) := by
  subst hst
  intro H locs h1 h2 h3 h4
  refine va_calli (va_runV (As := As) (rest := rest) ⟨X.1, X.2.1, X.2.2.1, X.2.2.2.1, X.2.2.2.2.1⟩ hM (ml_cwV X cv h0 hR) ⟨ml_U_blind, ml_recv X.2.2.2.2.2.1 h1 hci hc hk, ml_Upre X h1 h3 h4⟩ rfl hn hl.1 rfl (lv_room hrest) d hkc) h2 (fun _ _ h => h) (fun _ h => h) (fun r u t H1 locs1 ht hvm hw hB hz1 hk1 hS => ?_)
  obtain ⟨hP1, hK1, hok1, hro1⟩ := hB
  rw [ht] at hP1
  obtain ⟨rfl, hr, hq⟩ := hw
  exact kk u.1 u.2 hr hq H1 locs1 hP1 hS hok1 hro1
theorem ml_callzS (X : ml_X p s m c meth args D cA cc nL own rt) {C : String} {index : Nat} {y : MethodName} {bytes : ByteArray} {mxl : Nat} {ret : Option FieldType} {nA : Nat} {rm : Room} (As : List Value) {Qc : Int → ml_St → Prop} (hM : Met l y (Cond.code y bytes mxl ret :: ml_T) rm (va_Pc (As) (ml_U base D cA n σ)) (ml_Qi ml_B base D cA n Qc) 0 0 (ml_A base)) (cv : ml_CS own C index y bytes mxl ret nA) (h0 : rm.cells = 0 ∧ rm.slots = 0) (hR : rm.frames + 1 ≤ R.frames ∧ 8 + (mxl + 11) + rm.locals ≤ R.locals) {st : List Value} (hst : st = As.reverse ++ rest) (hn : As.length = nA) (hl : lv_has ls nL lst) (hrest : (rest.map fun v => v.category).sum ≤ 8) (hkc : kc ≤ R.cells ∧ ks ≤ R.slots) (d : decode cc pc = .ok (.invokestatic index, 3))
    (kk : ∀ (r : Int) (σ' : ml_St), ml_B r → Qc r σ' → ml_V p l e R s m args below meth c Q base D cA kc ks n n σ' (F0 m (pc + 3) ls (.int (Int32.ofInt r) :: rest))) : ml_V p l e R s m args below meth c Q base D cA kc ks n n σ (F0 m (pc) ls st) := by
  subst hst
  intro H locs h1 h2 h3 h4
  refine va_calli (va_runS (As := As) (rest := rest) ⟨X.1, X.2.1, X.2.2.1, X.2.2.2.1, X.2.2.2.2.1⟩ hM (ml_cwS X cv h0 hR) ⟨ml_U_blind, ml_Upre X h1 h3 h4⟩ rfl hn hl.1 rfl (lv_room hrest) d hkc) h2 (fun _ _ h => h) (fun _ h => h) (fun r u t H1 locs1 ht hvm hw hB hz1 hk1 hS => ?_)
  obtain ⟨hP1, hK1, hok1, hro1⟩ := hB
  rw [ht] at hP1
  obtain ⟨rfl, hr, hq⟩ := hw
  exact kk u.1 u.2 hr hq H1 locs1 hP1 hS hok1 hro1
theorem ml_calllV (X : ml_X p s m c meth args D cA cc nL own rt) {C : String} {index : Nat} {y : MethodName} {bytes : ByteArray} {mxl : Nat} {ret : Option FieldType} {nA : Nat} {rm : Room} (As : List Value) {Qc : Int → ml_St → Prop} {ci N : Nat} {k : Int} {T : u_T} (hci : ci < 13) (hc : ml_cls[ci]? = some (C, T, N)) (hk : ml_at n k (ci + 10, N)) (hM : Met l y (Cond.code y bytes mxl ret :: ml_T) rm (va_Pc (.ref (base + k.toNat) :: As) (ml_U base D cA n σ)) (ml_Ql base D cA n Qc) 0 0 (ml_A base)) (cv : ml_CV own C index y bytes mxl ret nA) (h0 : rm.cells = 0 ∧ rm.slots = 0) (hR : rm.frames + 1 ≤ R.frames ∧ 8 + (mxl + 11) + rm.locals ≤ R.locals) {st : List Value} (hst : st = As.reverse ++ .ref (base + k.toNat) :: rest) (hn : As.length = nA) (hl : lv_has ls nL lst) (hrest : (rest.map fun v => v.category).sum ≤ 8) (hkc : kc ≤ R.cells ∧ ks ≤ R.slots) (d : decode cc pc = .ok (.invokevirtual index, 3))
    (kk : ∀ (r : Int) (σ' : ml_St), I64 r → Qc r σ' → ml_V p l e R s m args below meth c Q base D cA kc ks n n σ' (F0 m (pc + 3) ls (.long (Int64.ofInt r) :: rest))) : ml_V p l e R s m args below meth c Q base D cA kc ks n n σ (F0 m (pc) ls st) := by
  subst hst
  intro H locs h1 h2 h3 h4
  refine va_calll (va_runV (As := As) (rest := rest) ⟨X.1, X.2.1, X.2.2.1, X.2.2.2.1, X.2.2.2.2.1⟩ hM (ml_cwV X cv h0 hR) ⟨ml_U_blind, ml_recv X.2.2.2.2.2.1 h1 hci hc hk, ml_Upre X h1 h3 h4⟩ rfl hn hl.1 rfl (lv_room hrest) d hkc) h2 (fun _ _ h => h) (fun _ h => h) (fun r u t H1 locs1 ht hvm hw hB hz1 hk1 hS => ?_)
  obtain ⟨hP1, hK1, hok1, hro1⟩ := hB
  rw [ht] at hP1
  obtain ⟨rfl, hr, hq⟩ := hw
  exact kk u.1 u.2 hr hq H1 locs1 hP1 hS hok1 hro1
theorem ml_calllS (X : ml_X p s m c meth args D cA cc nL own rt) {C : String} {index : Nat} {y : MethodName} {bytes : ByteArray} {mxl : Nat} {ret : Option FieldType} {nA : Nat} {rm : Room} (As : List Value) {Qc : Int → ml_St → Prop} (hM : Met l y (Cond.code y bytes mxl ret :: ml_T) rm (va_Pc (As) (ml_U base D cA n σ)) (ml_Ql base D cA n Qc) 0 0 (ml_A base)) (cv : ml_CS own C index y bytes mxl ret nA) (h0 : rm.cells = 0 ∧ rm.slots = 0) (hR : rm.frames + 1 ≤ R.frames ∧ 8 + (mxl + 11) + rm.locals ≤ R.locals) {st : List Value} (hst : st = As.reverse ++ rest) (hn : As.length = nA) (hl : lv_has ls nL lst) (hrest : (rest.map fun v => v.category).sum ≤ 8) (hkc : kc ≤ R.cells ∧ ks ≤ R.slots) (d : decode cc pc = .ok (.invokestatic index, 3))
    (kk : ∀ (r : Int) (σ' : ml_St), I64 r → Qc r σ' → ml_V p l e R s m args below meth c Q base D cA kc ks n n σ' (F0 m (pc + 3) ls (.long (Int64.ofInt r) :: rest))) : ml_V p l e R s m args below meth c Q base D cA kc ks n n σ (F0 m (pc) ls st) := by
  subst hst
  intro H locs h1 h2 h3 h4
  refine va_calll (va_runS (As := As) (rest := rest) ⟨X.1, X.2.1, X.2.2.1, X.2.2.2.1, X.2.2.2.2.1⟩ hM (ml_cwS X cv h0 hR) ⟨ml_U_blind, ml_Upre X h1 h3 h4⟩ rfl hn hl.1 rfl (lv_room hrest) d hkc) h2 (fun _ _ h => h) (fun _ h => h) (fun r u t H1 locs1 ht hvm hw hB hz1 hk1 hS => ?_)
  obtain ⟨hP1, hK1, hok1, hro1⟩ := hB
  rw [ht] at hP1
  obtain ⟨rfl, hr, hq⟩ := hw
  exact kk u.1 u.2 hr hq H1 locs1 hP1 hS hok1 hro1
theorem ml_vret (X : ml_X p s m c meth args D cA cc nL own none) {Qc : ml_St → Prop} (hq : Qc σ) (d : decode cc pc = .ok (.return_, 1)) : ml_V p l e R s m args below meth c (MQ below (ml_Qv base D cA n Qc) args s kc ks (ml_A base)) base D cA kc ks n n σ (F0 m (pc) ls ([])) :=
  fun H locs h1 h2 h3 h4 => W.vret X.1 X.2.1 X.2.2.2.2.2.2.2 (fun t ht hW => ⟨⟨σ, rfl, hq, by rw [ht]; exact h1, va_K.moved hW.alike X.2.2.2.2.2.1, h3, h4⟩, h2.F ht⟩) h2.2.2 d (hlocks := X.2.2.2.2.2.2.1)
theorem ml_iret (X : ml_X p s m c meth args D cA cc nL own (some .int)) {Qc : Int → ml_St → Prop} {r : Int} (hr : I32 r) (hq : Qc r σ) (d : decode cc pc = .ok (.ireturn, 1)) : ml_V p l e R s m args below meth c (MQ below (ml_Qi I32 base D cA n Qc) args s kc ks (ml_A base)) base D cA kc ks n n σ (F0 m (pc) ls ([.int (Int32.ofInt r)])) :=
  fun H locs h1 h2 h3 h4 => W.iret X.1 X.2.1 X.2.2.2.2.2.2.2 (fun t ht hW => ⟨⟨_, (r, σ), rfl, ⟨rfl, hr, hq⟩, by rw [ht]; exact h1, va_K.moved hW.alike X.2.2.2.2.2.1, h3, h4⟩, h2.F ht⟩) h2.2.2 d (hlocks := X.2.2.2.2.2.2.1)
theorem ml_narz {r : Int} (hr : ml_B r) : narrow .boolean (.int (Int32.ofInt r)) = .int (Int32.ofInt r) := by
  have h1 := hr.1
  have h2 := hr.2
  rcases (show r = 0 ∨ r = 1 by omega) with rfl | rfl
  · rfl
  · rfl
theorem ml_zret (X : ml_X p s m c meth args D cA cc nL own (some .boolean)) {Qc : Int → ml_St → Prop} {r : Int} (hr : ml_B r) (hq : Qc r σ) (d : decode cc pc = .ok (.ireturn, 1)) : ml_V p l e R s m args below meth c (MQ below (ml_Qi ml_B base D cA n Qc) args s kc ks (ml_A base)) base D cA kc ks n n σ (F0 m (pc) ls ([.int (Int32.ofInt r)])) :=
  fun H locs h1 h2 h3 h4 => W.zret X.1 X.2.1 X.2.2.2.2.2.2.2 (ml_narz hr) (fun t ht hW => ⟨⟨_, (r, σ), rfl, ⟨rfl, hr, hq⟩, by rw [ht]; exact h1, va_K.moved hW.alike X.2.2.2.2.2.1, h3, h4⟩, h2.F ht⟩) h2.2.2 d (hlocks := X.2.2.2.2.2.2.1)
theorem ml_lret (X : ml_X p s m c meth args D cA cc nL own (some .long)) {Qc : Int → ml_St → Prop} {r : Int} (hr : I64 r) (hq : Qc r σ) (d : decode cc pc = .ok (.lreturn, 1)) : ml_V p l e R s m args below meth c (MQ below (ml_Ql base D cA n Qc) args s kc ks (ml_A base)) base D cA kc ks n n σ (F0 m (pc) ls ([.long (Int64.ofInt r)])) :=
  fun H locs h1 h2 h3 h4 => W.lret X.1 X.2.1 X.2.2.2.2.2.2.2 (fun t ht hW => ⟨⟨_, (r, σ), rfl, ⟨rfl, hr, hq⟩, by rw [ht]; exact h1, va_K.moved hW.alike X.2.2.2.2.2.1, h3, h4⟩, h2.F ht⟩) h2.2.2 d (hlocks := X.2.2.2.2.2.2.1)
end MLO
end
section
theorem tw_3_125 : (Jvm.Cond.constantLong "MirrorLane" (119 : Nat) (-1 : Int64)) ∈ ml_T := ml_in (ml_t3 (List.mem_of_getElem? (i := 125) rfl)) rfl
theorem tc_3_125 : Cond.constantLong "MirrorLane" 119 (Int64.ofInt (-1)) ∈ ml_T := by
  rw [show Int64.ofInt (-1) = ((-1) : Int64) by decide +kernel]
  exact tw_3_125
theorem tw_3_203 : (Jvm.Cond.constantLong "MirrorLane" (178 : Nat) (1000000000000000000 : Int64)) ∈ ml_T := ml_in (ml_t3 (List.mem_of_getElem? (i := 203) rfl)) rfl
theorem tc_3_203 : Cond.constantLong "MirrorLane" 178 (Int64.ofInt 1000000000000000000) ∈ ml_T := by
  rw [show Int64.ofInt 1000000000000000000 = (1000000000000000000 : Int64) by decide +kernel]
  exact tw_3_203
theorem tw_3_171 : (Jvm.Cond.constant "java/lang/Integer" (265 : Nat) (1431655765 : Int32)) ∈ ml_T := ml_in (ml_t3 (List.mem_of_getElem? (i := 171) rfl)) rfl
theorem tc_3_171 : Cond.constant "java/lang/Integer" 265 (Int32.ofInt 1431655765) ∈ ml_T := by
  rw [show Int32.ofInt 1431655765 = (1431655765 : Int32) by decide +kernel]
  exact tw_3_171
theorem tw_3_172 : (Jvm.Cond.constant "java/lang/Integer" (266 : Nat) (858993459 : Int32)) ∈ ml_T := ml_in (ml_t3 (List.mem_of_getElem? (i := 172) rfl)) rfl
theorem tc_3_172 : Cond.constant "java/lang/Integer" 266 (Int32.ofInt 858993459) ∈ ml_T := by
  rw [show Int32.ofInt 858993459 = (858993459 : Int32) by decide +kernel]
  exact tw_3_172
theorem tw_3_173 : (Jvm.Cond.constant "java/lang/Integer" (267 : Nat) (252645135 : Int32)) ∈ ml_T := ml_in (ml_t3 (List.mem_of_getElem? (i := 173) rfl)) rfl
theorem tc_3_173 : Cond.constant "java/lang/Integer" 267 (Int32.ofInt 252645135) ∈ ml_T := by
  rw [show Int32.ofInt 252645135 = (252645135 : Int32) by decide +kernel]
  exact tw_3_173
theorem tw_4_158 : (Jvm.Cond.constantLong "MirrorLane" (262 : Nat) (2000 : Int64)) ∈ ml_T := ml_in (ml_t4 (List.mem_of_getElem? (i := 158) rfl)) rfl
theorem tc_4_158 : Cond.constantLong "MirrorLane" 262 (Int64.ofInt 2000) ∈ ml_T := by
  rw [show Int64.ofInt 2000 = (2000 : Int64) by decide +kernel]
  exact tw_4_158
theorem tw_5_143 : (Jvm.Cond.constantLong "MirrorLaneModel" (147 : Nat) (2 : Int64)) ∈ ml_T := ml_in (ml_t5 (List.mem_of_getElem? (i := 143) rfl)) rfl
theorem tc_5_143 : Cond.constantLong "MirrorLaneModel" 147 (Int64.ofInt 2) ∈ ml_T := by
  rw [show Int64.ofInt 2 = (2 : Int64) by decide +kernel]
  exact tw_5_143
theorem tw_5_144 : (Jvm.Cond.constantLong "MirrorLaneModel" (149 : Nat) (5 : Int64)) ∈ ml_T := ml_in (ml_t5 (List.mem_of_getElem? (i := 144) rfl)) rfl
theorem tc_5_144 : Cond.constantLong "MirrorLaneModel" 149 (Int64.ofInt 5) ∈ ml_T := by
  rw [show Int64.ofInt 5 = (5 : Int64) by decide +kernel]
  exact tw_5_144
theorem tw_5_164 : (Jvm.Cond.constantLong "MirrorLaneModel" (268 : Nat) (100 : Int64)) ∈ ml_T := ml_in (ml_t5 (List.mem_of_getElem? (i := 164) rfl)) rfl
theorem tc_5_164 : Cond.constantLong "MirrorLaneModel" 268 (Int64.ofInt 100) ∈ ml_T := by
  rw [show Int64.ofInt 100 = (100 : Int64) by decide +kernel]
  exact tw_5_164
theorem tw_6_52 : (Jvm.Cond.constantLong "MirrorLaneModel" (290 : Nat) (-1 : Int64)) ∈ ml_T := ml_in (ml_t6 (List.mem_of_getElem? (i := 52) rfl)) rfl
theorem tc_6_52 : Cond.constantLong "MirrorLaneModel" 290 (Int64.ofInt (-1)) ∈ ml_T := by
  rw [show Int64.ofInt (-1) = ((-1) : Int64) by decide +kernel]
  exact tw_6_52
theorem tw_6_133 : (Jvm.Cond.constantLong "MirrorLaneModel" (353 : Nat) (3 : Int64)) ∈ ml_T := ml_in (ml_t6 (List.mem_of_getElem? (i := 133) rfl)) rfl
theorem tc_6_133 : Cond.constantLong "MirrorLaneModel" 353 (Int64.ofInt 3) ∈ ml_T := by
  rw [show Int64.ofInt 3 = (3 : Int64) by decide +kernel]
  exact tw_6_133
theorem tw_6_173 : (Jvm.Cond.constantLong "MirrorLaneModel" (370 : Nat) (4 : Int64)) ∈ ml_T := ml_in (ml_t6 (List.mem_of_getElem? (i := 173) rfl)) rfl
theorem tc_6_173 : Cond.constantLong "MirrorLaneModel" 370 (Int64.ofInt 4) ∈ ml_T := by
  rw [show Int64.ofInt 4 = (4 : Int64) by decide +kernel]
  exact tw_6_173
theorem tw_6_174 : (Jvm.Cond.constantLong "MirrorLaneModel" (387 : Nat) (998244353 : Int64)) ∈ ml_T := ml_in (ml_t6 (List.mem_of_getElem? (i := 174) rfl)) rfl
theorem tc_6_174 : Cond.constantLong "MirrorLaneModel" 387 (Int64.ofInt 998244353) ∈ ml_T := by
  rw [show Int64.ofInt 998244353 = (998244353 : Int64) by decide +kernel]
  exact tw_6_174
theorem tw_6_161 : (Jvm.Cond.constantLong "MirrorLaneModel" (382 : Nat) (1000 : Int64)) ∈ ml_T := ml_in (ml_t6 (List.mem_of_getElem? (i := 161) rfl)) rfl
theorem tc_6_161 : Cond.constantLong "MirrorLaneModel" 382 (Int64.ofInt 1000) ∈ ml_T := by
  rw [show Int64.ofInt 1000 = (1000 : Int64) by decide +kernel]
  exact tw_6_161
theorem tw_6_226 : (Jvm.Cond.constantLong "MirrorLaneModel" (413 : Nat) (8 : Int64)) ∈ ml_T := ml_in (ml_t6 (List.mem_of_getElem? (i := 226) rfl)) rfl
theorem tc_6_226 : Cond.constantLong "MirrorLaneModel" 413 (Int64.ofInt 8) ∈ ml_T := by
  rw [show Int64.ofInt 8 = (8 : Int64) by decide +kernel]
  exact tw_6_226
theorem tw_6_93 : (Jvm.Cond.constantLong "MirrorLaneModel" (305 : Nat) (10 : Int64)) ∈ ml_T := ml_in (ml_t6 (List.mem_of_getElem? (i := 93) rfl)) rfl
theorem tc_6_93 : Cond.constantLong "MirrorLaneModel" 305 (Int64.ofInt 10) ∈ ml_T := by
  rw [show Int64.ofInt 10 = (10 : Int64) by decide +kernel]
  exact tw_6_93
theorem tw_7_16 : (Jvm.Cond.constantLong "MirrorLaneModel" (432 : Nat) (30 : Int64)) ∈ ml_T := ml_in (ml_t7 (List.mem_of_getElem? (i := 16) rfl)) rfl
theorem tc_7_16 : Cond.constantLong "MirrorLaneModel" 432 (Int64.ofInt 30) ∈ ml_T := by
  rw [show Int64.ofInt 30 = (30 : Int64) by decide +kernel]
  exact tw_7_16
theorem tw_1_31 : (Jvm.Cond.methodLink "MirrorLane$Tape" (3 : Nat) ({ cls := "java/lang/Object", name := "<init>", desc := "()V" } : Jvm.MethodName)) ∈ ml_T := ml_in (ml_t1 (List.mem_of_getElem? (i := 31) rfl)) rfl
theorem tw_1_24 : (Jvm.Cond.instanceMethod ({ cls := "java/lang/Object", name := "<init>", desc := "()V" } : Jvm.MethodName)) ∈ ml_T := ml_in (ml_t1 (List.mem_of_getElem? (i := 24) rfl)) rfl
theorem tw_1_25 : (Jvm.Cond.code ({ cls := "java/lang/Object", name := "<init>", desc := "()V" } : Jvm.MethodName) object_method_1_code (1 : Nat) (Option.none : Option Jvm.ClassFile.FieldType)) ∈ ml_T := ml_in (ml_t1 (List.mem_of_getElem? (i := 25) rfl)) rfl
theorem tw_1_42 : (Jvm.Cond.arrayClass Jvm.ClassFile.FieldType.int) ∈ ml_T := ml_in (ml_t1 (List.mem_of_getElem? (i := 42) rfl)) rfl
theorem tw_1_32 : (Jvm.Cond.fieldLink "MirrorLane$Tape" (9 : Nat) "MirrorLane$Tape" "bytes" "[I") ∈ ml_T := ml_in (ml_t1 (List.mem_of_getElem? (i := 32) rfl)) rfl
theorem tw_1_35 : (Jvm.Cond.fieldLink "MirrorLane$Tape" (15 : Nat) "MirrorLane$Tape" "size" "I") ∈ ml_T := ml_in (ml_t1 (List.mem_of_getElem? (i := 35) rfl)) rfl
theorem tw_1_48 : (Jvm.Cond.methodLink "MirrorLane$Closing" (3 : Nat) ({ cls := "java/lang/Object", name := "<init>", desc := "()V" } : Jvm.MethodName)) ∈ ml_T := ml_in (ml_t1 (List.mem_of_getElem? (i := 48) rfl)) rfl
theorem tw_1_49 : (Jvm.Cond.fieldLink "MirrorLane$Closing" (9 : Nat) "MirrorLane$Closing" "joint" "[I") ∈ ml_T := ml_in (ml_t1 (List.mem_of_getElem? (i := 49) rfl)) rfl
theorem tw_1_50 : (Jvm.Cond.fieldLink "MirrorLane$Closing" (15 : Nat) "MirrorLane$Closing" "byCaps" "Z") ∈ ml_T := ml_in (ml_t1 (List.mem_of_getElem? (i := 50) rfl)) rfl
theorem tw_1_62 : (Jvm.Cond.methodLink "MirrorLane$Grammar" (3 : Nat) ({ cls := "java/lang/Object", name := "<init>", desc := "()V" } : Jvm.MethodName)) ∈ ml_T := ml_in (ml_t1 (List.mem_of_getElem? (i := 62) rfl)) rfl
theorem tw_1_85 : (Jvm.Cond.arrayClass Jvm.ClassFile.FieldType.byte) ∈ ml_T := ml_in (ml_t1 (List.mem_of_getElem? (i := 85) rfl)) rfl
theorem tw_1_63 : (Jvm.Cond.fieldLink "MirrorLane$Grammar" (9 : Nat) "MirrorLane$Grammar" "text" "[B") ∈ ml_T := ml_in (ml_t1 (List.mem_of_getElem? (i := 63) rfl)) rfl
theorem tw_1_64 : (Jvm.Cond.fieldLink "MirrorLane$Grammar" (15 : Nat) "MirrorLane$Grammar" "size" "I") ∈ ml_T := ml_in (ml_t1 (List.mem_of_getElem? (i := 64) rfl)) rfl
theorem tw_1_65 : (Jvm.Cond.fieldLink "MirrorLane$Grammar" (19 : Nat) "MirrorLane$Grammar" "at" "I") ∈ ml_T := ml_in (ml_t1 (List.mem_of_getElem? (i := 65) rfl)) rfl
theorem tw_1_66 : (Jvm.Cond.fieldLink "MirrorLane$Grammar" (22 : Nat) "MirrorLane$Grammar" "depth" "I") ∈ ml_T := ml_in (ml_t1 (List.mem_of_getElem? (i := 66) rfl)) rfl
theorem tw_1_67 : (Jvm.Cond.fieldLink "MirrorLane$Grammar" (25 : Nat) "MirrorLane$Grammar" "repeatable" "Z") ∈ ml_T := ml_in (ml_t1 (List.mem_of_getElem? (i := 67) rfl)) rfl
theorem tw_1_68 : (Jvm.Cond.fieldLink "MirrorLane$Grammar" (29 : Nat) "MirrorLane$Grammar" "needsItem" "Z") ∈ ml_T := ml_in (ml_t1 (List.mem_of_getElem? (i := 68) rfl)) rfl
theorem tw_1_69 : (Jvm.Cond.fieldLink "MirrorLane$Grammar" (32 : Nat) "MirrorLane$Grammar" "fault" "I") ∈ ml_T := ml_in (ml_t1 (List.mem_of_getElem? (i := 69) rfl)) rfl
theorem tw_1_97 : (Jvm.Cond.methodLink "MirrorLane$Items" (1 : Nat) ({ cls := "java/lang/Object", name := "<init>", desc := "()V" } : Jvm.MethodName)) ∈ ml_T := ml_in (ml_t1 (List.mem_of_getElem? (i := 97) rfl)) rfl
theorem tw_1_98 : (Jvm.Cond.fieldLink "MirrorLane$Items" (7 : Nat) "MirrorLane$Items" "text" "[B") ∈ ml_T := ml_in (ml_t1 (List.mem_of_getElem? (i := 98) rfl)) rfl
theorem tw_1_99 : (Jvm.Cond.fieldLink "MirrorLane$Items" (13 : Nat) "MirrorLane$Items" "size" "I") ∈ ml_T := ml_in (ml_t1 (List.mem_of_getElem? (i := 99) rfl)) rfl
theorem tw_1_100 : (Jvm.Cond.fieldLink "MirrorLane$Items" (17 : Nat) "MirrorLane$Items" "at" "I") ∈ ml_T := ml_in (ml_t1 (List.mem_of_getElem? (i := 100) rfl)) rfl
theorem tw_1_101 : (Jvm.Cond.fieldLink "MirrorLane$Items" (20 : Nat) "MirrorLane$Items" "kind" "I") ∈ ml_T := ml_in (ml_t1 (List.mem_of_getElem? (i := 101) rfl)) rfl
theorem tw_1_103 : (Jvm.Cond.fieldLink "MirrorLane$Items" (23 : Nat) "MirrorLane$Items" "value" "I") ∈ ml_T := ml_in (ml_t1 (List.mem_of_getElem? (i := 103) rfl)) rfl
theorem tw_1_105 : (Jvm.Cond.fieldLink "MirrorLane$Items" (26 : Nat) "MirrorLane$Items" "times" "I") ∈ ml_T := ml_in (ml_t1 (List.mem_of_getElem? (i := 105) rfl)) rfl
theorem tw_1_126 : (Jvm.Cond.methodLink "MirrorLane$Weave" (3 : Nat) ({ cls := "java/lang/Object", name := "<init>", desc := "()V" } : Jvm.MethodName)) ∈ ml_T := ml_in (ml_t1 (List.mem_of_getElem? (i := 126) rfl)) rfl
theorem tw_1_127 : (Jvm.Cond.fieldLink "MirrorLane$Weave" (9 : Nat) "MirrorLane$Weave" "pair" "[I") ∈ ml_T := ml_in (ml_t1 (List.mem_of_getElem? (i := 127) rfl)) rfl
theorem tw_1_165 : (Jvm.Cond.arrayClass Jvm.ClassFile.FieldType.long) ∈ ml_T := ml_in (ml_t1 (List.mem_of_getElem? (i := 165) rfl)) rfl
theorem tw_1_131 : (Jvm.Cond.fieldLink "MirrorLane$Weave" (15 : Nat) "MirrorLane$Weave" "run" "[J") ∈ ml_T := ml_in (ml_t1 (List.mem_of_getElem? (i := 131) rfl)) rfl
theorem tw_1_133 : (Jvm.Cond.fieldLink "MirrorLane$Weave" (19 : Nat) "MirrorLane$Weave" "loops" "J") ∈ ml_T := ml_in (ml_t1 (List.mem_of_getElem? (i := 133) rfl)) rfl
theorem tw_1_138 : (Jvm.Cond.fieldLink "MirrorLane$Weave" (23 : Nat) "MirrorLane$Weave" "longest" "J") ∈ ml_T := ml_in (ml_t1 (List.mem_of_getElem? (i := 138) rfl)) rfl
theorem tw_1_140 : (Jvm.Cond.fieldLink "MirrorLane$Weave" (26 : Nat) "MirrorLane$Weave" "total" "J") ∈ ml_T := ml_in (ml_t1 (List.mem_of_getElem? (i := 140) rfl)) rfl
theorem tw_1_142 : (Jvm.Cond.fieldLink "MirrorLane$Weave" (29 : Nat) "MirrorLane$Weave" "signs" "J") ∈ ml_T := ml_in (ml_t1 (List.mem_of_getElem? (i := 142) rfl)) rfl
theorem tw_1_144 : (Jvm.Cond.fieldLink "MirrorLane$Weave" (32 : Nat) "MirrorLane$Weave" "crosses" "Z") ∈ ml_T := ml_in (ml_t1 (List.mem_of_getElem? (i := 144) rfl)) rfl
theorem tw_1_146 : (Jvm.Cond.fieldLink "MirrorLane$Weave" (36 : Nat) "MirrorLane$Weave" "turns" "Z") ∈ ml_T := ml_in (ml_t1 (List.mem_of_getElem? (i := 146) rfl)) rfl
theorem tw_1_91 : (Jvm.Cond.methodLink "MirrorLane$Loom" (3 : Nat) ({ cls := "java/lang/Object", name := "<init>", desc := "()V" } : Jvm.MethodName)) ∈ ml_T := ml_in (ml_t1 (List.mem_of_getElem? (i := 91) rfl)) rfl
theorem tw_1_92 : (Jvm.Cond.classLink "MirrorLane$Loom" (9 : Nat) "MirrorLane$Items") ∈ ml_T := ml_in (ml_t1 (List.mem_of_getElem? (i := 92) rfl)) rfl
theorem tw_1_93 : (Jvm.Cond.instantiable "MirrorLane$Items" (6 : Nat)) ∈ ml_T := ml_in (ml_t1 (List.mem_of_getElem? (i := 93) rfl)) rfl
theorem tw_1_6 : (Jvm.Cond.initialized "MirrorLane$Items") ∈ ml_T := ml_in (ml_t1 (List.mem_of_getElem? (i := 6) rfl)) rfl
theorem tw_1_95 : (Jvm.Cond.instanceMethod ({ cls := "MirrorLane$Items", name := "<init>", desc := "()V" } : Jvm.MethodName)) ∈ ml_T := ml_in (ml_t1 (List.mem_of_getElem? (i := 95) rfl)) rfl
theorem tw_1_96 : (Jvm.Cond.code ({ cls := "MirrorLane$Items", name := "<init>", desc := "()V" } : Jvm.MethodName) prog_5_method_1_code (1 : Nat) (Option.none : Option Jvm.ClassFile.FieldType)) ∈ ml_T := ml_in (ml_t1 (List.mem_of_getElem? (i := 96) rfl)) rfl
theorem tw_1_166 : (Jvm.Cond.fieldLink "MirrorLane$Loom" (12 : Nat) "MirrorLane$Loom" "items" "LMirrorLane$Items;") ∈ ml_T := ml_in (ml_t1 (List.mem_of_getElem? (i := 166) rfl)) rfl
theorem tw_1_120 : (Jvm.Cond.classLink "MirrorLane$Loom" (18 : Nat) "MirrorLane$Weave") ∈ ml_T := ml_in (ml_t1 (List.mem_of_getElem? (i := 120) rfl)) rfl
theorem tw_1_167 : (Jvm.Cond.fieldLink "MirrorLane$Loom" (20 : Nat) "MirrorLane$Loom" "open" "[LMirrorLane$Weave;") ∈ ml_T := ml_in (ml_t1 (List.mem_of_getElem? (i := 167) rfl)) rfl
theorem tw_1_168 : (Jvm.Cond.fieldLink "MirrorLane$Loom" (24 : Nat) "MirrorLane$Loom" "starts" "[I") ∈ ml_T := ml_in (ml_t1 (List.mem_of_getElem? (i := 168) rfl)) rfl
theorem tw_1_122 : (Jvm.Cond.instantiable "MirrorLane$Weave" (8 : Nat)) ∈ ml_T := ml_in (ml_t1 (List.mem_of_getElem? (i := 122) rfl)) rfl
theorem tw_1_7 : (Jvm.Cond.initialized "MirrorLane$Weave") ∈ ml_T := ml_in (ml_t1 (List.mem_of_getElem? (i := 7) rfl)) rfl
theorem tw_1_124 : (Jvm.Cond.instanceMethod ({ cls := "MirrorLane$Weave", name := "<init>", desc := "()V" } : Jvm.MethodName)) ∈ ml_T := ml_in (ml_t1 (List.mem_of_getElem? (i := 124) rfl)) rfl
theorem tw_1_125 : (Jvm.Cond.code ({ cls := "MirrorLane$Weave", name := "<init>", desc := "()V" } : Jvm.MethodName) prog_11_method_1_code (1 : Nat) (Option.none : Option Jvm.ClassFile.FieldType)) ∈ ml_T := ml_in (ml_t1 (List.mem_of_getElem? (i := 125) rfl)) rfl
theorem tw_1_169 : (Jvm.Cond.fieldLink "MirrorLane$Loom" (29 : Nat) "MirrorLane$Loom" "item" "LMirrorLane$Weave;") ∈ ml_T := ml_in (ml_t1 (List.mem_of_getElem? (i := 169) rfl)) rfl
theorem tw_1_170 : (Jvm.Cond.fieldLink "MirrorLane$Loom" (33 : Nat) "MirrorLane$Loom" "base" "LMirrorLane$Weave;") ∈ ml_T := ml_in (ml_t1 (List.mem_of_getElem? (i := 170) rfl)) rfl
theorem tw_1_171 : (Jvm.Cond.fieldLink "MirrorLane$Loom" (36 : Nat) "MirrorLane$Loom" "spare" "LMirrorLane$Weave;") ∈ ml_T := ml_in (ml_t1 (List.mem_of_getElem? (i := 171) rfl)) rfl
theorem tw_1_172 : (Jvm.Cond.fieldLink "MirrorLane$Loom" (39 : Nat) "MirrorLane$Loom" "other" "LMirrorLane$Weave;") ∈ ml_T := ml_in (ml_t1 (List.mem_of_getElem? (i := 172) rfl)) rfl
theorem tw_1_193 : (Jvm.Cond.methodLink "MirrorLane$Powers" (3 : Nat) ({ cls := "java/lang/Object", name := "<init>", desc := "()V" } : Jvm.MethodName)) ∈ ml_T := ml_in (ml_t1 (List.mem_of_getElem? (i := 193) rfl)) rfl
theorem tw_1_196 : (Jvm.Cond.fieldLink "MirrorLane$Powers" (11 : Nat) "MirrorLane$Powers" "numbers" "[I") ∈ ml_T := ml_in (ml_t1 (List.mem_of_getElem? (i := 196) rfl)) rfl
theorem tw_1_197 : (Jvm.Cond.fieldLink "MirrorLane$Powers" (15 : Nat) "MirrorLane$Powers" "left" "[J") ∈ ml_T := ml_in (ml_t1 (List.mem_of_getElem? (i := 197) rfl)) rfl
theorem tw_1_194 : (Jvm.Cond.classLink "MirrorLane$Powers" (19 : Nat) "MirrorLane$Weave") ∈ ml_T := ml_in (ml_t1 (List.mem_of_getElem? (i := 194) rfl)) rfl
theorem tw_1_198 : (Jvm.Cond.fieldLink "MirrorLane$Powers" (22 : Nat) "MirrorLane$Powers" "last" "LMirrorLane$Weave;") ∈ ml_T := ml_in (ml_t1 (List.mem_of_getElem? (i := 198) rfl)) rfl
theorem tw_1_199 : (Jvm.Cond.fieldLink "MirrorLane$Powers" (26 : Nat) "MirrorLane$Powers" "spare" "LMirrorLane$Weave;") ∈ ml_T := ml_in (ml_t1 (List.mem_of_getElem? (i := 199) rfl)) rfl
theorem tw_1_200 : (Jvm.Cond.fieldLink "MirrorLane$Powers" (29 : Nat) "MirrorLane$Powers" "index" "I") ∈ ml_T := ml_in (ml_t1 (List.mem_of_getElem? (i := 200) rfl)) rfl
theorem tw_1_202 : (Jvm.Cond.fieldLink "MirrorLane$Powers" (33 : Nat) "MirrorLane$Powers" "period" "I") ∈ ml_T := ml_in (ml_t1 (List.mem_of_getElem? (i := 202) rfl)) rfl
theorem tw_1_204 : (Jvm.Cond.fieldLink "MirrorLane$Powers" (36 : Nat) "MirrorLane$Powers" "gain" "J") ∈ ml_T := ml_in (ml_t1 (List.mem_of_getElem? (i := 204) rfl)) rfl
theorem tw_1_205 : (Jvm.Cond.fieldLink "MirrorLane$Powers" (40 : Nat) "MirrorLane$Powers" "step" "I") ∈ ml_T := ml_in (ml_t1 (List.mem_of_getElem? (i := 205) rfl)) rfl
theorem tw_1_207 : (Jvm.Cond.fieldLink "MirrorLane$Powers" (43 : Nat) "MirrorLane$Powers" "more" "J") ∈ ml_T := ml_in (ml_t1 (List.mem_of_getElem? (i := 207) rfl)) rfl
theorem tw_1_209 : (Jvm.Cond.fieldLink "MirrorLane$Powers" (46 : Nat) "MirrorLane$Powers" "since" "I") ∈ ml_T := ml_in (ml_t1 (List.mem_of_getElem? (i := 209) rfl)) rfl
theorem tw_1_237 : (Jvm.Cond.methodLink "MirrorLane$Sentences" (5 : Nat) ({ cls := "java/lang/Object", name := "<init>", desc := "()V" } : Jvm.MethodName)) ∈ ml_T := ml_in (ml_t1 (List.mem_of_getElem? (i := 237) rfl)) rfl
theorem tw_2_0 : (Jvm.Cond.fieldLink "MirrorLane$Sentences" (11 : Nat) "MirrorLane$Sentences" "set" "I") ∈ ml_T := ml_in (ml_t2 (List.mem_of_getElem? (i := 0) rfl)) rfl
theorem tw_2_1 : (Jvm.Cond.fieldLink "MirrorLane$Sentences" (15 : Nat) "MirrorLane$Sentences" "letters" "I") ∈ ml_T := ml_in (ml_t2 (List.mem_of_getElem? (i := 1) rfl)) rfl
theorem tw_2_3 : (Jvm.Cond.fieldLink "MirrorLane$Sentences" (18 : Nat) "MirrorLane$Sentences" "places" "I") ∈ ml_T := ml_in (ml_t2 (List.mem_of_getElem? (i := 3) rfl)) rfl
theorem tw_2_6 : (Jvm.Cond.fieldLink "MirrorLane$Sentences" (21 : Nat) "MirrorLane$Sentences" "letter" "[I") ∈ ml_T := ml_in (ml_t2 (List.mem_of_getElem? (i := 6) rfl)) rfl
theorem tw_2_8 : (Jvm.Cond.fieldLink "MirrorLane$Sentences" (25 : Nat) "MirrorLane$Sentences" "place" "[I") ∈ ml_T := ml_in (ml_t2 (List.mem_of_getElem? (i := 8) rfl)) rfl
theorem tw_2_10 : (Jvm.Cond.fieldLink "MirrorLane$Sentences" (28 : Nat) "MirrorLane$Sentences" "next" "[I") ∈ ml_T := ml_in (ml_t2 (List.mem_of_getElem? (i := 10) rfl)) rfl
theorem tw_2_12 : (Jvm.Cond.fieldLink "MirrorLane$Sentences" (31 : Nat) "MirrorLane$Sentences" "more" "[I") ∈ ml_T := ml_in (ml_t2 (List.mem_of_getElem? (i := 12) rfl)) rfl
theorem tw_2_14 : (Jvm.Cond.fieldLink "MirrorLane$Sentences" (34 : Nat) "MirrorLane$Sentences" "closed" "[I") ∈ ml_T := ml_in (ml_t2 (List.mem_of_getElem? (i := 14) rfl)) rfl
theorem tw_2_16 : (Jvm.Cond.fieldLink "MirrorLane$Sentences" (37 : Nat) "MirrorLane$Sentences" "pairs" "[I") ∈ ml_T := ml_in (ml_t2 (List.mem_of_getElem? (i := 16) rfl)) rfl
theorem tw_2_17 : (Jvm.Cond.fieldLink "MirrorLane$Sentences" (40 : Nat) "MirrorLane$Sentences" "row" "[J") ∈ ml_T := ml_in (ml_t2 (List.mem_of_getElem? (i := 17) rfl)) rfl
theorem tw_2_18 : (Jvm.Cond.fieldLink "MirrorLane$Sentences" (44 : Nat) "MirrorLane$Sentences" "after" "[J") ∈ ml_T := ml_in (ml_t2 (List.mem_of_getElem? (i := 18) rfl)) rfl
theorem tw_2_19 : (Jvm.Cond.fieldLink "MirrorLane$Sentences" (47 : Nat) "MirrorLane$Sentences" "rowOf" "I") ∈ ml_T := ml_in (ml_t2 (List.mem_of_getElem? (i := 19) rfl)) rfl
theorem tw_1_238 : (Jvm.Cond.classLink "MirrorLane$Sentences" (50 : Nat) "MirrorLane$Weave") ∈ ml_T := ml_in (ml_t1 (List.mem_of_getElem? (i := 238) rfl)) rfl
theorem tw_2_20 : (Jvm.Cond.fieldLink "MirrorLane$Sentences" (53 : Nat) "MirrorLane$Sentences" "here" "LMirrorLane$Weave;") ∈ ml_T := ml_in (ml_t2 (List.mem_of_getElem? (i := 20) rfl)) rfl
theorem tw_2_21 : (Jvm.Cond.fieldLink "MirrorLane$Sentences" (57 : Nat) "MirrorLane$Sentences" "there" "LMirrorLane$Weave;") ∈ ml_T := ml_in (ml_t2 (List.mem_of_getElem? (i := 21) rfl)) rfl
theorem tw_2_56 : (Jvm.Cond.methodLink "MirrorLane$Finder" (5 : Nat) ({ cls := "java/lang/Object", name := "<init>", desc := "()V" } : Jvm.MethodName)) ∈ ml_T := ml_in (ml_t2 (List.mem_of_getElem? (i := 56) rfl)) rfl
theorem tw_2_57 : (Jvm.Cond.fieldLink "MirrorLane$Finder" (13 : Nat) "MirrorLane$Finder" "queue" "[I") ∈ ml_T := ml_in (ml_t2 (List.mem_of_getElem? (i := 57) rfl)) rfl
theorem tw_2_58 : (Jvm.Cond.fieldLink "MirrorLane$Finder" (17 : Nat) "MirrorLane$Finder" "from" "[I") ∈ ml_T := ml_in (ml_t2 (List.mem_of_getElem? (i := 58) rfl)) rfl
theorem tw_2_59 : (Jvm.Cond.fieldLink "MirrorLane$Finder" (20 : Nat) "MirrorLane$Finder" "by" "[I") ∈ ml_T := ml_in (ml_t2 (List.mem_of_getElem? (i := 59) rfl)) rfl
theorem tw_2_60 : (Jvm.Cond.fieldLink "MirrorLane$Finder" (23 : Nat) "MirrorLane$Finder" "found" "[I") ∈ ml_T := ml_in (ml_t2 (List.mem_of_getElem? (i := 60) rfl)) rfl
theorem tw_2_61 : (Jvm.Cond.fieldLink "MirrorLane$Finder" (26 : Nat) "MirrorLane$Finder" "rest" "[J") ∈ ml_T := ml_in (ml_t2 (List.mem_of_getElem? (i := 61) rfl)) rfl
theorem tw_2_62 : (Jvm.Cond.fieldLink "MirrorLane$Finder" (30 : Nat) "MirrorLane$Finder" "size" "I") ∈ ml_T := ml_in (ml_t2 (List.mem_of_getElem? (i := 62) rfl)) rfl
theorem tw_2_63 : (Jvm.Cond.fieldLink "MirrorLane$Finder" (34 : Nat) "MirrorLane$Finder" "price" "I") ∈ ml_T := ml_in (ml_t2 (List.mem_of_getElem? (i := 63) rfl)) rfl
theorem tw_2_85 : (Jvm.Cond.methodLink "MirrorLane$Mender" (3 : Nat) ({ cls := "java/lang/Object", name := "<init>", desc := "()V" } : Jvm.MethodName)) ∈ ml_T := ml_in (ml_t2 (List.mem_of_getElem? (i := 85) rfl)) rfl
theorem tw_2_86 : (Jvm.Cond.classLink "MirrorLane$Mender" (9 : Nat) "MirrorLane$Weave") ∈ ml_T := ml_in (ml_t2 (List.mem_of_getElem? (i := 86) rfl)) rfl
theorem tw_2_88 : (Jvm.Cond.fieldLink "MirrorLane$Mender" (11 : Nat) "MirrorLane$Mender" "tails" "[LMirrorLane$Weave;") ∈ ml_T := ml_in (ml_t2 (List.mem_of_getElem? (i := 88) rfl)) rfl
theorem tw_2_89 : (Jvm.Cond.fieldLink "MirrorLane$Mender" (18 : Nat) "MirrorLane$Mender" "mirror" "LMirrorLane$Weave;") ∈ ml_T := ml_in (ml_t2 (List.mem_of_getElem? (i := 89) rfl)) rfl
theorem tw_2_103 : (Jvm.Cond.methodLink "MirrorLane$Word" (3 : Nat) ({ cls := "java/lang/Object", name := "<init>", desc := "()V" } : Jvm.MethodName)) ∈ ml_T := ml_in (ml_t2 (List.mem_of_getElem? (i := 103) rfl)) rfl
theorem tw_2_106 : (Jvm.Cond.fieldLink "MirrorLane$Word" (9 : Nat) "MirrorLane$Word" "text" "[B") ∈ ml_T := ml_in (ml_t2 (List.mem_of_getElem? (i := 106) rfl)) rfl
theorem tw_2_110 : (Jvm.Cond.fieldLink "MirrorLane$Word" (15 : Nat) "MirrorLane$Word" "size" "I") ∈ ml_T := ml_in (ml_t2 (List.mem_of_getElem? (i := 110) rfl)) rfl
theorem tw_2_114 : (Jvm.Cond.fieldLink "MirrorLane$Word" (19 : Nat) "MirrorLane$Word" "plain" "Z") ∈ ml_T := ml_in (ml_t2 (List.mem_of_getElem? (i := 114) rfl)) rfl
theorem tw_2_116 : (Jvm.Cond.fieldLink "MirrorLane$Word" (23 : Nat) "MirrorLane$Word" "price" "I") ∈ ml_T := ml_in (ml_t2 (List.mem_of_getElem? (i := 116) rfl)) rfl
theorem tw_2_104 : (Jvm.Cond.classLink "MirrorLane$Word" (26 : Nat) "MirrorLane$Weave") ∈ ml_T := ml_in (ml_t2 (List.mem_of_getElem? (i := 104) rfl)) rfl
theorem tw_2_119 : (Jvm.Cond.fieldLink "MirrorLane$Word" (29 : Nat) "MirrorLane$Word" "made" "LMirrorLane$Weave;") ∈ ml_T := ml_in (ml_t2 (List.mem_of_getElem? (i := 119) rfl)) rfl
theorem tw_2_123 : (Jvm.Cond.fieldLink "MirrorLane$Word" (33 : Nat) "MirrorLane$Word" "row" "[B") ∈ ml_T := ml_in (ml_t2 (List.mem_of_getElem? (i := 123) rfl)) rfl
theorem tw_2_125 : (Jvm.Cond.fieldLink "MirrorLane$Word" (36 : Nat) "MirrorLane$Word" "rowSize" "I") ∈ ml_T := ml_in (ml_t2 (List.mem_of_getElem? (i := 125) rfl)) rfl
theorem tw_2_127 : (Jvm.Cond.fieldLink "MirrorLane$Word" (39 : Nat) "MirrorLane$Word" "written" "Z") ∈ ml_T := ml_in (ml_t2 (List.mem_of_getElem? (i := 127) rfl)) rfl
theorem tw_1_23 : (Jvm.Cond.methodLink "MirrorLane" (1 : Nat) ({ cls := "java/lang/Object", name := "<init>", desc := "()V" } : Jvm.MethodName)) ∈ ml_T := ml_in (ml_t1 (List.mem_of_getElem? (i := 23) rfl)) rfl
theorem tw_1_26 : (Jvm.Cond.classLink "MirrorLane" (7 : Nat) "MirrorLane$Tape") ∈ ml_T := ml_in (ml_t1 (List.mem_of_getElem? (i := 26) rfl)) rfl
theorem tw_1_27 : (Jvm.Cond.instantiable "MirrorLane$Tape" (2 : Nat)) ∈ ml_T := ml_in (ml_t1 (List.mem_of_getElem? (i := 27) rfl)) rfl
theorem tw_1_2 : (Jvm.Cond.initialized "MirrorLane$Tape") ∈ ml_T := ml_in (ml_t1 (List.mem_of_getElem? (i := 2) rfl)) rfl
theorem tw_1_29 : (Jvm.Cond.instanceMethod ({ cls := "MirrorLane$Tape", name := "<init>", desc := "()V" } : Jvm.MethodName)) ∈ ml_T := ml_in (ml_t1 (List.mem_of_getElem? (i := 29) rfl)) rfl
theorem tw_1_30 : (Jvm.Cond.code ({ cls := "MirrorLane$Tape", name := "<init>", desc := "()V" } : Jvm.MethodName) prog_10_method_1_code (1 : Nat) (Option.none : Option Jvm.ClassFile.FieldType)) ∈ ml_T := ml_in (ml_t1 (List.mem_of_getElem? (i := 30) rfl)) rfl
theorem tw_2_151 : (Jvm.Cond.fieldLink "MirrorLane" (10 : Nat) "MirrorLane" "tape" "LMirrorLane$Tape;") ∈ ml_T := ml_in (ml_t2 (List.mem_of_getElem? (i := 151) rfl)) rfl
theorem tw_1_43 : (Jvm.Cond.classLink "MirrorLane" (16 : Nat) "MirrorLane$Closing") ∈ ml_T := ml_in (ml_t1 (List.mem_of_getElem? (i := 43) rfl)) rfl
theorem tw_1_44 : (Jvm.Cond.instantiable "MirrorLane$Closing" (2 : Nat)) ∈ ml_T := ml_in (ml_t1 (List.mem_of_getElem? (i := 44) rfl)) rfl
theorem tw_1_3 : (Jvm.Cond.initialized "MirrorLane$Closing") ∈ ml_T := ml_in (ml_t1 (List.mem_of_getElem? (i := 3) rfl)) rfl
theorem tw_1_46 : (Jvm.Cond.instanceMethod ({ cls := "MirrorLane$Closing", name := "<init>", desc := "()V" } : Jvm.MethodName)) ∈ ml_T := ml_in (ml_t1 (List.mem_of_getElem? (i := 46) rfl)) rfl
theorem tw_1_47 : (Jvm.Cond.code ({ cls := "MirrorLane$Closing", name := "<init>", desc := "()V" } : Jvm.MethodName) prog_2_method_1_code (1 : Nat) (Option.none : Option Jvm.ClassFile.FieldType)) ∈ ml_T := ml_in (ml_t1 (List.mem_of_getElem? (i := 47) rfl)) rfl
theorem tw_2_152 : (Jvm.Cond.fieldLink "MirrorLane" (19 : Nat) "MirrorLane" "closing" "LMirrorLane$Closing;") ∈ ml_T := ml_in (ml_t2 (List.mem_of_getElem? (i := 152) rfl)) rfl
theorem tw_1_57 : (Jvm.Cond.classLink "MirrorLane" (23 : Nat) "MirrorLane$Grammar") ∈ ml_T := ml_in (ml_t1 (List.mem_of_getElem? (i := 57) rfl)) rfl
theorem tw_1_58 : (Jvm.Cond.instantiable "MirrorLane$Grammar" (7 : Nat)) ∈ ml_T := ml_in (ml_t1 (List.mem_of_getElem? (i := 58) rfl)) rfl
theorem tw_1_4 : (Jvm.Cond.initialized "MirrorLane$Grammar") ∈ ml_T := ml_in (ml_t1 (List.mem_of_getElem? (i := 4) rfl)) rfl
theorem tw_1_60 : (Jvm.Cond.instanceMethod ({ cls := "MirrorLane$Grammar", name := "<init>", desc := "()V" } : Jvm.MethodName)) ∈ ml_T := ml_in (ml_t1 (List.mem_of_getElem? (i := 60) rfl)) rfl
theorem tw_1_61 : (Jvm.Cond.code ({ cls := "MirrorLane$Grammar", name := "<init>", desc := "()V" } : Jvm.MethodName) prog_4_method_1_code (1 : Nat) (Option.none : Option Jvm.ClassFile.FieldType)) ∈ ml_T := ml_in (ml_t1 (List.mem_of_getElem? (i := 61) rfl)) rfl
theorem tw_2_153 : (Jvm.Cond.fieldLink "MirrorLane" (26 : Nat) "MirrorLane" "grammar" "LMirrorLane$Grammar;") ∈ ml_T := ml_in (ml_t2 (List.mem_of_getElem? (i := 153) rfl)) rfl
theorem tw_1_86 : (Jvm.Cond.classLink "MirrorLane" (30 : Nat) "MirrorLane$Loom") ∈ ml_T := ml_in (ml_t1 (List.mem_of_getElem? (i := 86) rfl)) rfl
theorem tw_1_87 : (Jvm.Cond.instantiable "MirrorLane$Loom" (7 : Nat)) ∈ ml_T := ml_in (ml_t1 (List.mem_of_getElem? (i := 87) rfl)) rfl
theorem tw_1_5 : (Jvm.Cond.initialized "MirrorLane$Loom") ∈ ml_T := ml_in (ml_t1 (List.mem_of_getElem? (i := 5) rfl)) rfl
theorem tw_1_88 : (Jvm.Cond.methodLink "MirrorLane" (32 : Nat) ({ cls := "MirrorLane$Loom", name := "<init>", desc := "()V" } : Jvm.MethodName)) ∈ ml_T := ml_in (ml_t1 (List.mem_of_getElem? (i := 88) rfl)) rfl
theorem tw_1_89 : (Jvm.Cond.instanceMethod ({ cls := "MirrorLane$Loom", name := "<init>", desc := "()V" } : Jvm.MethodName)) ∈ ml_T := ml_in (ml_t1 (List.mem_of_getElem? (i := 89) rfl)) rfl
theorem tw_1_90 : (Jvm.Cond.code ({ cls := "MirrorLane$Loom", name := "<init>", desc := "()V" } : Jvm.MethodName) prog_6_method_1_code (2 : Nat) (Option.none : Option Jvm.ClassFile.FieldType)) ∈ ml_T := ml_in (ml_t1 (List.mem_of_getElem? (i := 90) rfl)) rfl
theorem tw_2_154 : (Jvm.Cond.fieldLink "MirrorLane" (33 : Nat) "MirrorLane" "loom" "LMirrorLane$Loom;") ∈ ml_T := ml_in (ml_t2 (List.mem_of_getElem? (i := 154) rfl)) rfl
theorem tw_1_188 : (Jvm.Cond.classLink "MirrorLane" (37 : Nat) "MirrorLane$Powers") ∈ ml_T := ml_in (ml_t1 (List.mem_of_getElem? (i := 188) rfl)) rfl
theorem tw_1_189 : (Jvm.Cond.instantiable "MirrorLane$Powers" (10 : Nat)) ∈ ml_T := ml_in (ml_t1 (List.mem_of_getElem? (i := 189) rfl)) rfl
theorem tw_1_8 : (Jvm.Cond.initialized "MirrorLane$Powers") ∈ ml_T := ml_in (ml_t1 (List.mem_of_getElem? (i := 8) rfl)) rfl
theorem tw_1_191 : (Jvm.Cond.instanceMethod ({ cls := "MirrorLane$Powers", name := "<init>", desc := "()V" } : Jvm.MethodName)) ∈ ml_T := ml_in (ml_t1 (List.mem_of_getElem? (i := 191) rfl)) rfl
theorem tw_1_192 : (Jvm.Cond.code ({ cls := "MirrorLane$Powers", name := "<init>", desc := "()V" } : Jvm.MethodName) prog_8_method_1_code (1 : Nat) (Option.none : Option Jvm.ClassFile.FieldType)) ∈ ml_T := ml_in (ml_t1 (List.mem_of_getElem? (i := 192) rfl)) rfl
theorem tw_2_155 : (Jvm.Cond.fieldLink "MirrorLane" (40 : Nat) "MirrorLane" "powers" "LMirrorLane$Powers;") ∈ ml_T := ml_in (ml_t2 (List.mem_of_getElem? (i := 155) rfl)) rfl
theorem tw_1_232 : (Jvm.Cond.classLink "MirrorLane" (44 : Nat) "MirrorLane$Sentences") ∈ ml_T := ml_in (ml_t1 (List.mem_of_getElem? (i := 232) rfl)) rfl
theorem tw_1_233 : (Jvm.Cond.instantiable "MirrorLane$Sentences" (14 : Nat)) ∈ ml_T := ml_in (ml_t1 (List.mem_of_getElem? (i := 233) rfl)) rfl
theorem tw_1_9 : (Jvm.Cond.initialized "MirrorLane$Sentences") ∈ ml_T := ml_in (ml_t1 (List.mem_of_getElem? (i := 9) rfl)) rfl
theorem tw_1_235 : (Jvm.Cond.instanceMethod ({ cls := "MirrorLane$Sentences", name := "<init>", desc := "()V" } : Jvm.MethodName)) ∈ ml_T := ml_in (ml_t1 (List.mem_of_getElem? (i := 235) rfl)) rfl
theorem tw_1_236 : (Jvm.Cond.code ({ cls := "MirrorLane$Sentences", name := "<init>", desc := "()V" } : Jvm.MethodName) prog_9_method_1_code (1 : Nat) (Option.none : Option Jvm.ClassFile.FieldType)) ∈ ml_T := ml_in (ml_t1 (List.mem_of_getElem? (i := 236) rfl)) rfl
theorem tw_2_156 : (Jvm.Cond.fieldLink "MirrorLane" (47 : Nat) "MirrorLane" "sentences" "LMirrorLane$Sentences;") ∈ ml_T := ml_in (ml_t2 (List.mem_of_getElem? (i := 156) rfl)) rfl
theorem tw_2_51 : (Jvm.Cond.classLink "MirrorLane" (51 : Nat) "MirrorLane$Finder") ∈ ml_T := ml_in (ml_t2 (List.mem_of_getElem? (i := 51) rfl)) rfl
theorem tw_2_52 : (Jvm.Cond.instantiable "MirrorLane$Finder" (7 : Nat)) ∈ ml_T := ml_in (ml_t2 (List.mem_of_getElem? (i := 52) rfl)) rfl
theorem tw_1_10 : (Jvm.Cond.initialized "MirrorLane$Finder") ∈ ml_T := ml_in (ml_t1 (List.mem_of_getElem? (i := 10) rfl)) rfl
theorem tw_2_54 : (Jvm.Cond.instanceMethod ({ cls := "MirrorLane$Finder", name := "<init>", desc := "()V" } : Jvm.MethodName)) ∈ ml_T := ml_in (ml_t2 (List.mem_of_getElem? (i := 54) rfl)) rfl
theorem tw_2_55 : (Jvm.Cond.code ({ cls := "MirrorLane$Finder", name := "<init>", desc := "()V" } : Jvm.MethodName) prog_3_method_1_code (1 : Nat) (Option.none : Option Jvm.ClassFile.FieldType)) ∈ ml_T := ml_in (ml_t2 (List.mem_of_getElem? (i := 55) rfl)) rfl
theorem tw_2_157 : (Jvm.Cond.fieldLink "MirrorLane" (54 : Nat) "MirrorLane" "finder" "LMirrorLane$Finder;") ∈ ml_T := ml_in (ml_t2 (List.mem_of_getElem? (i := 157) rfl)) rfl
theorem tw_2_80 : (Jvm.Cond.classLink "MirrorLane" (58 : Nat) "MirrorLane$Mender") ∈ ml_T := ml_in (ml_t2 (List.mem_of_getElem? (i := 80) rfl)) rfl
theorem tw_2_81 : (Jvm.Cond.instantiable "MirrorLane$Mender" (2 : Nat)) ∈ ml_T := ml_in (ml_t2 (List.mem_of_getElem? (i := 81) rfl)) rfl
theorem tw_1_11 : (Jvm.Cond.initialized "MirrorLane$Mender") ∈ ml_T := ml_in (ml_t1 (List.mem_of_getElem? (i := 11) rfl)) rfl
theorem tw_2_82 : (Jvm.Cond.methodLink "MirrorLane" (60 : Nat) ({ cls := "MirrorLane$Mender", name := "<init>", desc := "()V" } : Jvm.MethodName)) ∈ ml_T := ml_in (ml_t2 (List.mem_of_getElem? (i := 82) rfl)) rfl
theorem tw_2_83 : (Jvm.Cond.instanceMethod ({ cls := "MirrorLane$Mender", name := "<init>", desc := "()V" } : Jvm.MethodName)) ∈ ml_T := ml_in (ml_t2 (List.mem_of_getElem? (i := 83) rfl)) rfl
theorem tw_2_84 : (Jvm.Cond.code ({ cls := "MirrorLane$Mender", name := "<init>", desc := "()V" } : Jvm.MethodName) prog_7_method_1_code (2 : Nat) (Option.none : Option Jvm.ClassFile.FieldType)) ∈ ml_T := ml_in (ml_t2 (List.mem_of_getElem? (i := 84) rfl)) rfl
theorem tw_2_158 : (Jvm.Cond.fieldLink "MirrorLane" (61 : Nat) "MirrorLane" "mender" "LMirrorLane$Mender;") ∈ ml_T := ml_in (ml_t2 (List.mem_of_getElem? (i := 158) rfl)) rfl
theorem tw_2_95 : (Jvm.Cond.classLink "MirrorLane" (65 : Nat) "MirrorLane$Word") ∈ ml_T := ml_in (ml_t2 (List.mem_of_getElem? (i := 95) rfl)) rfl
theorem tw_2_159 : (Jvm.Cond.fieldLink "MirrorLane" (67 : Nat) "MirrorLane" "words" "[LMirrorLane$Word;") ∈ ml_T := ml_in (ml_t2 (List.mem_of_getElem? (i := 159) rfl)) rfl
theorem tw_2_160 : (Jvm.Cond.fieldLink "MirrorLane" (71 : Nat) "MirrorLane" "draft" "[B") ∈ ml_T := ml_in (ml_t2 (List.mem_of_getElem? (i := 160) rfl)) rfl
theorem tw_2_97 : (Jvm.Cond.classLink "MirrorLane" (75 : Nat) "MirrorLane$Weave") ∈ ml_T := ml_in (ml_t2 (List.mem_of_getElem? (i := 97) rfl)) rfl
theorem tw_2_161 : (Jvm.Cond.fieldLink "MirrorLane" (78 : Nat) "MirrorLane" "woven" "LMirrorLane$Weave;") ∈ ml_T := ml_in (ml_t2 (List.mem_of_getElem? (i := 161) rfl)) rfl
theorem tw_2_162 : (Jvm.Cond.fieldLink "MirrorLane" (82 : Nat) "MirrorLane" "h" "I") ∈ ml_T := ml_in (ml_t2 (List.mem_of_getElem? (i := 162) rfl)) rfl
theorem tw_2_163 : (Jvm.Cond.fieldLink "MirrorLane" (86 : Nat) "MirrorLane" "told" "I") ∈ ml_T := ml_in (ml_t2 (List.mem_of_getElem? (i := 163) rfl)) rfl
theorem tw_2_99 : (Jvm.Cond.instantiable "MirrorLane$Word" (8 : Nat)) ∈ ml_T := ml_in (ml_t2 (List.mem_of_getElem? (i := 99) rfl)) rfl
theorem tw_1_12 : (Jvm.Cond.initialized "MirrorLane$Word") ∈ ml_T := ml_in (ml_t1 (List.mem_of_getElem? (i := 12) rfl)) rfl
theorem tw_2_101 : (Jvm.Cond.instanceMethod ({ cls := "MirrorLane$Word", name := "<init>", desc := "()V" } : Jvm.MethodName)) ∈ ml_T := ml_in (ml_t2 (List.mem_of_getElem? (i := 101) rfl)) rfl
theorem tw_2_102 : (Jvm.Cond.code ({ cls := "MirrorLane$Word", name := "<init>", desc := "()V" } : Jvm.MethodName) prog_12_method_1_code (1 : Nat) (Option.none : Option Jvm.ClassFile.FieldType)) ∈ ml_T := ml_in (ml_t2 (List.mem_of_getElem? (i := 102) rfl)) rfl
theorem tw_4_190 : (Jvm.Cond.methodLink "MirrorLaneModel" (1 : Nat) ({ cls := "java/lang/Object", name := "<init>", desc := "()V" } : Jvm.MethodName)) ∈ ml_T := ml_in (ml_t4 (List.mem_of_getElem? (i := 190) rfl)) rfl
theorem tw_4_191 : (Jvm.Cond.fieldLink "MirrorLaneModel" (7 : Nat) "MirrorLaneModel" "tape" "[B") ∈ ml_T := ml_in (ml_t4 (List.mem_of_getElem? (i := 191) rfl)) rfl
theorem tw_4_193 : (Jvm.Cond.fieldLink "MirrorLaneModel" (13 : Nat) "MirrorLaneModel" "h" "I") ∈ ml_T := ml_in (ml_t4 (List.mem_of_getElem? (i := 193) rfl)) rfl
theorem tw_4_196 : (Jvm.Cond.fieldLink "MirrorLaneModel" (17 : Nat) "MirrorLaneModel" "cap" "[I") ∈ ml_T := ml_in (ml_t4 (List.mem_of_getElem? (i := 196) rfl)) rfl
theorem tw_4_197 : (Jvm.Cond.fieldLink "MirrorLaneModel" (21 : Nat) "MirrorLaneModel" "text" "[B") ∈ ml_T := ml_in (ml_t4 (List.mem_of_getElem? (i := 197) rfl)) rfl
theorem tw_4_198 : (Jvm.Cond.fieldLink "MirrorLaneModel" (24 : Nat) "MirrorLaneModel" "size" "[I") ∈ ml_T := ml_in (ml_t4 (List.mem_of_getElem? (i := 198) rfl)) rfl
theorem tw_4_199 : (Jvm.Cond.fieldLink "MirrorLaneModel" (27 : Nat) "MirrorLaneModel" "cost" "[I") ∈ ml_T := ml_in (ml_t4 (List.mem_of_getElem? (i := 199) rfl)) rfl
theorem tw_4_204 : (Jvm.Cond.fieldLink "MirrorLaneModel" (30 : Nat) "MirrorLaneModel" "crosses" "[J") ∈ ml_T := ml_in (ml_t4 (List.mem_of_getElem? (i := 204) rfl)) rfl
theorem tw_4_205 : (Jvm.Cond.fieldLink "MirrorLaneModel" (34 : Nat) "MirrorLaneModel" "backs" "[J") ∈ ml_T := ml_in (ml_t4 (List.mem_of_getElem? (i := 205) rfl)) rfl
theorem tw_4_206 : (Jvm.Cond.fieldLink "MirrorLaneModel" (37 : Nat) "MirrorLaneModel" "accX" "[J") ∈ ml_T := ml_in (ml_t4 (List.mem_of_getElem? (i := 206) rfl)) rfl
theorem tw_4_207 : (Jvm.Cond.fieldLink "MirrorLaneModel" (40 : Nat) "MirrorLaneModel" "accU" "[J") ∈ ml_T := ml_in (ml_t4 (List.mem_of_getElem? (i := 207) rfl)) rfl
theorem tw_4_208 : (Jvm.Cond.fieldLink "MirrorLaneModel" (43 : Nat) "MirrorLaneModel" "lastX" "[J") ∈ ml_T := ml_in (ml_t4 (List.mem_of_getElem? (i := 208) rfl)) rfl
theorem tw_4_209 : (Jvm.Cond.fieldLink "MirrorLaneModel" (46 : Nat) "MirrorLaneModel" "lastU" "[J") ∈ ml_T := ml_in (ml_t4 (List.mem_of_getElem? (i := 209) rfl)) rfl
theorem tw_4_212 : (Jvm.Cond.fieldLink "MirrorLaneModel" (49 : Nat) "MirrorLaneModel" "pair" "[I") ∈ ml_T := ml_in (ml_t4 (List.mem_of_getElem? (i := 212) rfl)) rfl
theorem tw_4_213 : (Jvm.Cond.fieldLink "MirrorLaneModel" (52 : Nat) "MirrorLaneModel" "length" "[J") ∈ ml_T := ml_in (ml_t4 (List.mem_of_getElem? (i := 213) rfl)) rfl
theorem tw_4_214 : (Jvm.Cond.fieldLink "MirrorLaneModel" (55 : Nat) "MirrorLaneModel" "within" "[J") ∈ ml_T := ml_in (ml_t4 (List.mem_of_getElem? (i := 214) rfl)) rfl
theorem tw_4_215 : (Jvm.Cond.fieldLink "MirrorLaneModel" (58 : Nat) "MirrorLaneModel" "longest" "[J") ∈ ml_T := ml_in (ml_t4 (List.mem_of_getElem? (i := 215) rfl)) rfl
theorem tw_4_216 : (Jvm.Cond.fieldLink "MirrorLaneModel" (61 : Nat) "MirrorLaneModel" "together" "[J") ∈ ml_T := ml_in (ml_t4 (List.mem_of_getElem? (i := 216) rfl)) rfl
theorem tw_5_138 : (Jvm.Cond.arrayClass Jvm.ClassFile.FieldType.boolean) ∈ ml_T := ml_in (ml_t5 (List.mem_of_getElem? (i := 138) rfl)) rfl
theorem tw_4_217 : (Jvm.Cond.fieldLink "MirrorLaneModel" (64 : Nat) "MirrorLaneModel" "isSeen" "[Z") ∈ ml_T := ml_in (ml_t4 (List.mem_of_getElem? (i := 217) rfl)) rfl
theorem tw_4_219 : (Jvm.Cond.fieldLink "MirrorLaneModel" (68 : Nat) "MirrorLaneModel" "old" "[B") ∈ ml_T := ml_in (ml_t4 (List.mem_of_getElem? (i := 219) rfl)) rfl
theorem tw_4_220 : (Jvm.Cond.fieldLink "MirrorLaneModel" (71 : Nat) "MirrorLaneModel" "isDone" "[Z") ∈ ml_T := ml_in (ml_t4 (List.mem_of_getElem? (i := 220) rfl)) rfl
theorem tw_4_221 : (Jvm.Cond.fieldLink "MirrorLaneModel" (74 : Nat) "MirrorLaneModel" "codes" "[J") ∈ ml_T := ml_in (ml_t4 (List.mem_of_getElem? (i := 221) rfl)) rfl
theorem tw_4_222 : (Jvm.Cond.fieldLink "MirrorLaneModel" (77 : Nat) "MirrorLaneModel" "lefts" "[J") ∈ ml_T := ml_in (ml_t4 (List.mem_of_getElem? (i := 222) rfl)) rfl
theorem tw_4_231 : (Jvm.Cond.fieldLink "MirrorLaneModel" (80 : Nat) "MirrorLaneModel" "letter" "[I") ∈ ml_T := ml_in (ml_t4 (List.mem_of_getElem? (i := 231) rfl)) rfl
theorem tw_4_232 : (Jvm.Cond.fieldLink "MirrorLaneModel" (83 : Nat) "MirrorLaneModel" "stateCode" "[J") ∈ ml_T := ml_in (ml_t4 (List.mem_of_getElem? (i := 232) rfl)) rfl
theorem tw_4_233 : (Jvm.Cond.fieldLink "MirrorLaneModel" (86 : Nat) "MirrorLaneModel" "statePair" "[B") ∈ ml_T := ml_in (ml_t4 (List.mem_of_getElem? (i := 233) rfl)) rfl
theorem tw_4_234 : (Jvm.Cond.fieldLink "MirrorLaneModel" (89 : Nat) "MirrorLaneModel" "next" "[I") ∈ ml_T := ml_in (ml_t4 (List.mem_of_getElem? (i := 234) rfl)) rfl
theorem tw_4_235 : (Jvm.Cond.fieldLink "MirrorLaneModel" (92 : Nat) "MirrorLaneModel" "more" "[I") ∈ ml_T := ml_in (ml_t4 (List.mem_of_getElem? (i := 235) rfl)) rfl
theorem tw_4_236 : (Jvm.Cond.fieldLink "MirrorLaneModel" (95 : Nat) "MirrorLaneModel" "firstState" "[I") ∈ ml_T := ml_in (ml_t4 (List.mem_of_getElem? (i := 236) rfl)) rfl
theorem tw_4_237 : (Jvm.Cond.fieldLink "MirrorLaneModel" (98 : Nat) "MirrorLaneModel" "closed" "[I") ∈ ml_T := ml_in (ml_t4 (List.mem_of_getElem? (i := 237) rfl)) rfl
theorem tw_4_238 : (Jvm.Cond.fieldLink "MirrorLaneModel" (101 : Nat) "MirrorLaneModel" "ways" "[J") ∈ ml_T := ml_in (ml_t4 (List.mem_of_getElem? (i := 238) rfl)) rfl
theorem tw_4_239 : (Jvm.Cond.fieldLink "MirrorLaneModel" (104 : Nat) "MirrorLaneModel" "then" "[J") ∈ ml_T := ml_in (ml_t4 (List.mem_of_getElem? (i := 239) rfl)) rfl
theorem tw_5_0 : (Jvm.Cond.fieldLink "MirrorLaneModel" (107 : Nat) "MirrorLaneModel" "isCome" "[Z") ∈ ml_T := ml_in (ml_t5 (List.mem_of_getElem? (i := 0) rfl)) rfl
theorem tw_5_1 : (Jvm.Cond.fieldLink "MirrorLaneModel" (110 : Nat) "MirrorLaneModel" "queue" "[I") ∈ ml_T := ml_in (ml_t5 (List.mem_of_getElem? (i := 1) rfl)) rfl
theorem tw_5_2 : (Jvm.Cond.fieldLink "MirrorLaneModel" (113 : Nat) "MirrorLaneModel" "cameFrom" "[I") ∈ ml_T := ml_in (ml_t5 (List.mem_of_getElem? (i := 2) rfl)) rfl
theorem tw_5_3 : (Jvm.Cond.fieldLink "MirrorLaneModel" (116 : Nat) "MirrorLaneModel" "cameBy" "[I") ∈ ml_T := ml_in (ml_t5 (List.mem_of_getElem? (i := 3) rfl)) rfl
theorem tw_5_5 : (Jvm.Cond.fieldLink "MirrorLaneModel" (119 : Nat) "MirrorLaneModel" "price" "[I") ∈ ml_T := ml_in (ml_t5 (List.mem_of_getElem? (i := 5) rfl)) rfl
theorem tw_5_6 : (Jvm.Cond.fieldLink "MirrorLaneModel" (122 : Nat) "MirrorLaneModel" "steps" "[I") ∈ ml_T := ml_in (ml_t5 (List.mem_of_getElem? (i := 6) rfl)) rfl
theorem tw_5_7 : (Jvm.Cond.fieldLink "MirrorLaneModel" (125 : Nat) "MirrorLaneModel" "kinds" "[I") ∈ ml_T := ml_in (ml_t5 (List.mem_of_getElem? (i := 7) rfl)) rfl
theorem tw_5_8 : (Jvm.Cond.fieldLink "MirrorLaneModel" (128 : Nat) "MirrorLaneModel" "rails" "[I") ∈ ml_T := ml_in (ml_t5 (List.mem_of_getElem? (i := 8) rfl)) rfl
theorem tw_5_9 : (Jvm.Cond.fieldLink "MirrorLaneModel" (131 : Nat) "MirrorLaneModel" "written" "[B") ∈ ml_T := ml_in (ml_t5 (List.mem_of_getElem? (i := 9) rfl)) rfl
theorem tw_5_10 : (Jvm.Cond.fieldLink "MirrorLaneModel" (134 : Nat) "MirrorLaneModel" "writtenMany" "[I") ∈ ml_T := ml_in (ml_t5 (List.mem_of_getElem? (i := 10) rfl)) rfl
theorem tw_5_11 : (Jvm.Cond.fieldLink "MirrorLaneModel" (137 : Nat) "MirrorLaneModel" "itemFrom" "[I") ∈ ml_T := ml_in (ml_t5 (List.mem_of_getElem? (i := 11) rfl)) rfl
theorem tw_1_52 : (Jvm.Cond.laysFinal "MirrorLane$Closing" "MirrorLane$Closing" "joint" "[I") ∈ ml_T := ml_in (ml_t1 (List.mem_of_getElem? (i := 52) rfl)) rfl
theorem tw_1_54 : (Jvm.Cond.lays "MirrorLane$Closing" "MirrorLane$Closing" "byCaps" "Z") ∈ ml_T := ml_in (ml_t1 (List.mem_of_getElem? (i := 54) rfl)) rfl
theorem tw_2_65 : (Jvm.Cond.laysFinal "MirrorLane$Finder" "MirrorLane$Finder" "queue" "[I") ∈ ml_T := ml_in (ml_t2 (List.mem_of_getElem? (i := 65) rfl)) rfl
theorem tw_2_67 : (Jvm.Cond.laysFinal "MirrorLane$Finder" "MirrorLane$Finder" "from" "[I") ∈ ml_T := ml_in (ml_t2 (List.mem_of_getElem? (i := 67) rfl)) rfl
theorem tw_2_69 : (Jvm.Cond.laysFinal "MirrorLane$Finder" "MirrorLane$Finder" "by" "[I") ∈ ml_T := ml_in (ml_t2 (List.mem_of_getElem? (i := 69) rfl)) rfl
theorem tw_2_71 : (Jvm.Cond.laysFinal "MirrorLane$Finder" "MirrorLane$Finder" "found" "[I") ∈ ml_T := ml_in (ml_t2 (List.mem_of_getElem? (i := 71) rfl)) rfl
theorem tw_2_73 : (Jvm.Cond.laysFinal "MirrorLane$Finder" "MirrorLane$Finder" "rest" "[J") ∈ ml_T := ml_in (ml_t2 (List.mem_of_getElem? (i := 73) rfl)) rfl
theorem tw_2_75 : (Jvm.Cond.lays "MirrorLane$Finder" "MirrorLane$Finder" "size" "I") ∈ ml_T := ml_in (ml_t2 (List.mem_of_getElem? (i := 75) rfl)) rfl
theorem tw_2_77 : (Jvm.Cond.lays "MirrorLane$Finder" "MirrorLane$Finder" "price" "I") ∈ ml_T := ml_in (ml_t2 (List.mem_of_getElem? (i := 77) rfl)) rfl
theorem tw_1_70 : (Jvm.Cond.lays "MirrorLane$Grammar" "MirrorLane$Grammar" "text" "[B") ∈ ml_T := ml_in (ml_t1 (List.mem_of_getElem? (i := 70) rfl)) rfl
theorem tw_1_72 : (Jvm.Cond.lays "MirrorLane$Grammar" "MirrorLane$Grammar" "size" "I") ∈ ml_T := ml_in (ml_t1 (List.mem_of_getElem? (i := 72) rfl)) rfl
theorem tw_1_74 : (Jvm.Cond.lays "MirrorLane$Grammar" "MirrorLane$Grammar" "at" "I") ∈ ml_T := ml_in (ml_t1 (List.mem_of_getElem? (i := 74) rfl)) rfl
theorem tw_1_76 : (Jvm.Cond.lays "MirrorLane$Grammar" "MirrorLane$Grammar" "depth" "I") ∈ ml_T := ml_in (ml_t1 (List.mem_of_getElem? (i := 76) rfl)) rfl
theorem tw_1_78 : (Jvm.Cond.lays "MirrorLane$Grammar" "MirrorLane$Grammar" "repeatable" "Z") ∈ ml_T := ml_in (ml_t1 (List.mem_of_getElem? (i := 78) rfl)) rfl
theorem tw_1_80 : (Jvm.Cond.lays "MirrorLane$Grammar" "MirrorLane$Grammar" "needsItem" "Z") ∈ ml_T := ml_in (ml_t1 (List.mem_of_getElem? (i := 80) rfl)) rfl
theorem tw_1_82 : (Jvm.Cond.lays "MirrorLane$Grammar" "MirrorLane$Grammar" "fault" "I") ∈ ml_T := ml_in (ml_t1 (List.mem_of_getElem? (i := 82) rfl)) rfl
theorem tw_1_107 : (Jvm.Cond.lays "MirrorLane$Items" "MirrorLane$Items" "text" "[B") ∈ ml_T := ml_in (ml_t1 (List.mem_of_getElem? (i := 107) rfl)) rfl
theorem tw_1_109 : (Jvm.Cond.lays "MirrorLane$Items" "MirrorLane$Items" "size" "I") ∈ ml_T := ml_in (ml_t1 (List.mem_of_getElem? (i := 109) rfl)) rfl
theorem tw_1_111 : (Jvm.Cond.lays "MirrorLane$Items" "MirrorLane$Items" "at" "I") ∈ ml_T := ml_in (ml_t1 (List.mem_of_getElem? (i := 111) rfl)) rfl
theorem tw_1_113 : (Jvm.Cond.lays "MirrorLane$Items" "MirrorLane$Items" "kind" "I") ∈ ml_T := ml_in (ml_t1 (List.mem_of_getElem? (i := 113) rfl)) rfl
theorem tw_1_115 : (Jvm.Cond.lays "MirrorLane$Items" "MirrorLane$Items" "value" "I") ∈ ml_T := ml_in (ml_t1 (List.mem_of_getElem? (i := 115) rfl)) rfl
theorem tw_1_117 : (Jvm.Cond.lays "MirrorLane$Items" "MirrorLane$Items" "times" "I") ∈ ml_T := ml_in (ml_t1 (List.mem_of_getElem? (i := 117) rfl)) rfl
theorem tw_1_173 : (Jvm.Cond.laysFinal "MirrorLane$Loom" "MirrorLane$Loom" "items" "LMirrorLane$Items;") ∈ ml_T := ml_in (ml_t1 (List.mem_of_getElem? (i := 173) rfl)) rfl
theorem tw_1_175 : (Jvm.Cond.laysFinal "MirrorLane$Loom" "MirrorLane$Loom" "open" "[LMirrorLane$Weave;") ∈ ml_T := ml_in (ml_t1 (List.mem_of_getElem? (i := 175) rfl)) rfl
theorem tw_1_177 : (Jvm.Cond.laysFinal "MirrorLane$Loom" "MirrorLane$Loom" "starts" "[I") ∈ ml_T := ml_in (ml_t1 (List.mem_of_getElem? (i := 177) rfl)) rfl
theorem tw_1_179 : (Jvm.Cond.laysFinal "MirrorLane$Loom" "MirrorLane$Loom" "item" "LMirrorLane$Weave;") ∈ ml_T := ml_in (ml_t1 (List.mem_of_getElem? (i := 179) rfl)) rfl
theorem tw_1_181 : (Jvm.Cond.laysFinal "MirrorLane$Loom" "MirrorLane$Loom" "base" "LMirrorLane$Weave;") ∈ ml_T := ml_in (ml_t1 (List.mem_of_getElem? (i := 181) rfl)) rfl
theorem tw_1_183 : (Jvm.Cond.laysFinal "MirrorLane$Loom" "MirrorLane$Loom" "spare" "LMirrorLane$Weave;") ∈ ml_T := ml_in (ml_t1 (List.mem_of_getElem? (i := 183) rfl)) rfl
theorem tw_1_185 : (Jvm.Cond.laysFinal "MirrorLane$Loom" "MirrorLane$Loom" "other" "LMirrorLane$Weave;") ∈ ml_T := ml_in (ml_t1 (List.mem_of_getElem? (i := 185) rfl)) rfl
theorem tw_2_90 : (Jvm.Cond.laysFinal "MirrorLane$Mender" "MirrorLane$Mender" "tails" "[LMirrorLane$Weave;") ∈ ml_T := ml_in (ml_t2 (List.mem_of_getElem? (i := 90) rfl)) rfl
theorem tw_2_92 : (Jvm.Cond.laysFinal "MirrorLane$Mender" "MirrorLane$Mender" "mirror" "LMirrorLane$Weave;") ∈ ml_T := ml_in (ml_t2 (List.mem_of_getElem? (i := 92) rfl)) rfl
theorem tw_1_211 : (Jvm.Cond.laysFinal "MirrorLane$Powers" "MirrorLane$Powers" "numbers" "[I") ∈ ml_T := ml_in (ml_t1 (List.mem_of_getElem? (i := 211) rfl)) rfl
theorem tw_1_213 : (Jvm.Cond.laysFinal "MirrorLane$Powers" "MirrorLane$Powers" "left" "[J") ∈ ml_T := ml_in (ml_t1 (List.mem_of_getElem? (i := 213) rfl)) rfl
theorem tw_1_215 : (Jvm.Cond.laysFinal "MirrorLane$Powers" "MirrorLane$Powers" "last" "LMirrorLane$Weave;") ∈ ml_T := ml_in (ml_t1 (List.mem_of_getElem? (i := 215) rfl)) rfl
theorem tw_1_217 : (Jvm.Cond.laysFinal "MirrorLane$Powers" "MirrorLane$Powers" "spare" "LMirrorLane$Weave;") ∈ ml_T := ml_in (ml_t1 (List.mem_of_getElem? (i := 217) rfl)) rfl
theorem tw_1_219 : (Jvm.Cond.lays "MirrorLane$Powers" "MirrorLane$Powers" "index" "I") ∈ ml_T := ml_in (ml_t1 (List.mem_of_getElem? (i := 219) rfl)) rfl
theorem tw_1_221 : (Jvm.Cond.lays "MirrorLane$Powers" "MirrorLane$Powers" "period" "I") ∈ ml_T := ml_in (ml_t1 (List.mem_of_getElem? (i := 221) rfl)) rfl
theorem tw_1_223 : (Jvm.Cond.lays "MirrorLane$Powers" "MirrorLane$Powers" "gain" "J") ∈ ml_T := ml_in (ml_t1 (List.mem_of_getElem? (i := 223) rfl)) rfl
theorem tw_1_225 : (Jvm.Cond.lays "MirrorLane$Powers" "MirrorLane$Powers" "step" "I") ∈ ml_T := ml_in (ml_t1 (List.mem_of_getElem? (i := 225) rfl)) rfl
theorem tw_1_227 : (Jvm.Cond.lays "MirrorLane$Powers" "MirrorLane$Powers" "more" "J") ∈ ml_T := ml_in (ml_t1 (List.mem_of_getElem? (i := 227) rfl)) rfl
theorem tw_1_229 : (Jvm.Cond.lays "MirrorLane$Powers" "MirrorLane$Powers" "since" "I") ∈ ml_T := ml_in (ml_t1 (List.mem_of_getElem? (i := 229) rfl)) rfl
theorem tw_2_22 : (Jvm.Cond.lays "MirrorLane$Sentences" "MirrorLane$Sentences" "set" "I") ∈ ml_T := ml_in (ml_t2 (List.mem_of_getElem? (i := 22) rfl)) rfl
theorem tw_2_24 : (Jvm.Cond.lays "MirrorLane$Sentences" "MirrorLane$Sentences" "letters" "I") ∈ ml_T := ml_in (ml_t2 (List.mem_of_getElem? (i := 24) rfl)) rfl
theorem tw_2_26 : (Jvm.Cond.lays "MirrorLane$Sentences" "MirrorLane$Sentences" "places" "I") ∈ ml_T := ml_in (ml_t2 (List.mem_of_getElem? (i := 26) rfl)) rfl
theorem tw_2_28 : (Jvm.Cond.laysFinal "MirrorLane$Sentences" "MirrorLane$Sentences" "letter" "[I") ∈ ml_T := ml_in (ml_t2 (List.mem_of_getElem? (i := 28) rfl)) rfl
theorem tw_2_30 : (Jvm.Cond.laysFinal "MirrorLane$Sentences" "MirrorLane$Sentences" "place" "[I") ∈ ml_T := ml_in (ml_t2 (List.mem_of_getElem? (i := 30) rfl)) rfl
theorem tw_2_32 : (Jvm.Cond.laysFinal "MirrorLane$Sentences" "MirrorLane$Sentences" "next" "[I") ∈ ml_T := ml_in (ml_t2 (List.mem_of_getElem? (i := 32) rfl)) rfl
theorem tw_2_34 : (Jvm.Cond.laysFinal "MirrorLane$Sentences" "MirrorLane$Sentences" "more" "[I") ∈ ml_T := ml_in (ml_t2 (List.mem_of_getElem? (i := 34) rfl)) rfl
theorem tw_2_36 : (Jvm.Cond.laysFinal "MirrorLane$Sentences" "MirrorLane$Sentences" "closed" "[I") ∈ ml_T := ml_in (ml_t2 (List.mem_of_getElem? (i := 36) rfl)) rfl
theorem tw_2_38 : (Jvm.Cond.laysFinal "MirrorLane$Sentences" "MirrorLane$Sentences" "pairs" "[I") ∈ ml_T := ml_in (ml_t2 (List.mem_of_getElem? (i := 38) rfl)) rfl
theorem tw_2_40 : (Jvm.Cond.laysFinal "MirrorLane$Sentences" "MirrorLane$Sentences" "row" "[J") ∈ ml_T := ml_in (ml_t2 (List.mem_of_getElem? (i := 40) rfl)) rfl
theorem tw_2_42 : (Jvm.Cond.laysFinal "MirrorLane$Sentences" "MirrorLane$Sentences" "after" "[J") ∈ ml_T := ml_in (ml_t2 (List.mem_of_getElem? (i := 42) rfl)) rfl
theorem tw_2_44 : (Jvm.Cond.lays "MirrorLane$Sentences" "MirrorLane$Sentences" "rowOf" "I") ∈ ml_T := ml_in (ml_t2 (List.mem_of_getElem? (i := 44) rfl)) rfl
theorem tw_2_46 : (Jvm.Cond.laysFinal "MirrorLane$Sentences" "MirrorLane$Sentences" "here" "LMirrorLane$Weave;") ∈ ml_T := ml_in (ml_t2 (List.mem_of_getElem? (i := 46) rfl)) rfl
theorem tw_2_48 : (Jvm.Cond.laysFinal "MirrorLane$Sentences" "MirrorLane$Sentences" "there" "LMirrorLane$Weave;") ∈ ml_T := ml_in (ml_t2 (List.mem_of_getElem? (i := 48) rfl)) rfl
theorem tw_1_37 : (Jvm.Cond.laysFinal "MirrorLane$Tape" "MirrorLane$Tape" "bytes" "[I") ∈ ml_T := ml_in (ml_t1 (List.mem_of_getElem? (i := 37) rfl)) rfl
theorem tw_1_39 : (Jvm.Cond.lays "MirrorLane$Tape" "MirrorLane$Tape" "size" "I") ∈ ml_T := ml_in (ml_t1 (List.mem_of_getElem? (i := 39) rfl)) rfl
theorem tw_1_148 : (Jvm.Cond.laysFinal "MirrorLane$Weave" "MirrorLane$Weave" "pair" "[I") ∈ ml_T := ml_in (ml_t1 (List.mem_of_getElem? (i := 148) rfl)) rfl
theorem tw_1_150 : (Jvm.Cond.laysFinal "MirrorLane$Weave" "MirrorLane$Weave" "run" "[J") ∈ ml_T := ml_in (ml_t1 (List.mem_of_getElem? (i := 150) rfl)) rfl
theorem tw_1_152 : (Jvm.Cond.lays "MirrorLane$Weave" "MirrorLane$Weave" "loops" "J") ∈ ml_T := ml_in (ml_t1 (List.mem_of_getElem? (i := 152) rfl)) rfl
theorem tw_1_154 : (Jvm.Cond.lays "MirrorLane$Weave" "MirrorLane$Weave" "longest" "J") ∈ ml_T := ml_in (ml_t1 (List.mem_of_getElem? (i := 154) rfl)) rfl
theorem tw_1_156 : (Jvm.Cond.lays "MirrorLane$Weave" "MirrorLane$Weave" "total" "J") ∈ ml_T := ml_in (ml_t1 (List.mem_of_getElem? (i := 156) rfl)) rfl
theorem tw_1_158 : (Jvm.Cond.lays "MirrorLane$Weave" "MirrorLane$Weave" "signs" "J") ∈ ml_T := ml_in (ml_t1 (List.mem_of_getElem? (i := 158) rfl)) rfl
theorem tw_1_160 : (Jvm.Cond.lays "MirrorLane$Weave" "MirrorLane$Weave" "crosses" "Z") ∈ ml_T := ml_in (ml_t1 (List.mem_of_getElem? (i := 160) rfl)) rfl
theorem tw_1_162 : (Jvm.Cond.lays "MirrorLane$Weave" "MirrorLane$Weave" "turns" "Z") ∈ ml_T := ml_in (ml_t1 (List.mem_of_getElem? (i := 162) rfl)) rfl
theorem tw_2_130 : (Jvm.Cond.laysFinal "MirrorLane$Word" "MirrorLane$Word" "text" "[B") ∈ ml_T := ml_in (ml_t2 (List.mem_of_getElem? (i := 130) rfl)) rfl
theorem tw_2_132 : (Jvm.Cond.lays "MirrorLane$Word" "MirrorLane$Word" "size" "I") ∈ ml_T := ml_in (ml_t2 (List.mem_of_getElem? (i := 132) rfl)) rfl
theorem tw_2_134 : (Jvm.Cond.lays "MirrorLane$Word" "MirrorLane$Word" "plain" "Z") ∈ ml_T := ml_in (ml_t2 (List.mem_of_getElem? (i := 134) rfl)) rfl
theorem tw_2_136 : (Jvm.Cond.lays "MirrorLane$Word" "MirrorLane$Word" "price" "I") ∈ ml_T := ml_in (ml_t2 (List.mem_of_getElem? (i := 136) rfl)) rfl
theorem tw_2_138 : (Jvm.Cond.laysFinal "MirrorLane$Word" "MirrorLane$Word" "made" "LMirrorLane$Weave;") ∈ ml_T := ml_in (ml_t2 (List.mem_of_getElem? (i := 138) rfl)) rfl
theorem tw_2_140 : (Jvm.Cond.laysFinal "MirrorLane$Word" "MirrorLane$Word" "row" "[B") ∈ ml_T := ml_in (ml_t2 (List.mem_of_getElem? (i := 140) rfl)) rfl
theorem tw_2_142 : (Jvm.Cond.lays "MirrorLane$Word" "MirrorLane$Word" "rowSize" "I") ∈ ml_T := ml_in (ml_t2 (List.mem_of_getElem? (i := 142) rfl)) rfl
theorem tw_2_144 : (Jvm.Cond.lays "MirrorLane$Word" "MirrorLane$Word" "written" "Z") ∈ ml_T := ml_in (ml_t2 (List.mem_of_getElem? (i := 144) rfl)) rfl
theorem tw_2_164 : (Jvm.Cond.laysFinal "MirrorLane" "MirrorLane" "tape" "LMirrorLane$Tape;") ∈ ml_T := ml_in (ml_t2 (List.mem_of_getElem? (i := 164) rfl)) rfl
theorem tw_2_166 : (Jvm.Cond.laysFinal "MirrorLane" "MirrorLane" "closing" "LMirrorLane$Closing;") ∈ ml_T := ml_in (ml_t2 (List.mem_of_getElem? (i := 166) rfl)) rfl
theorem tw_2_168 : (Jvm.Cond.laysFinal "MirrorLane" "MirrorLane" "grammar" "LMirrorLane$Grammar;") ∈ ml_T := ml_in (ml_t2 (List.mem_of_getElem? (i := 168) rfl)) rfl
theorem tw_2_170 : (Jvm.Cond.laysFinal "MirrorLane" "MirrorLane" "loom" "LMirrorLane$Loom;") ∈ ml_T := ml_in (ml_t2 (List.mem_of_getElem? (i := 170) rfl)) rfl
theorem tw_2_172 : (Jvm.Cond.laysFinal "MirrorLane" "MirrorLane" "powers" "LMirrorLane$Powers;") ∈ ml_T := ml_in (ml_t2 (List.mem_of_getElem? (i := 172) rfl)) rfl
theorem tw_2_174 : (Jvm.Cond.laysFinal "MirrorLane" "MirrorLane" "sentences" "LMirrorLane$Sentences;") ∈ ml_T := ml_in (ml_t2 (List.mem_of_getElem? (i := 174) rfl)) rfl
theorem tw_2_176 : (Jvm.Cond.laysFinal "MirrorLane" "MirrorLane" "finder" "LMirrorLane$Finder;") ∈ ml_T := ml_in (ml_t2 (List.mem_of_getElem? (i := 176) rfl)) rfl
theorem tw_2_178 : (Jvm.Cond.laysFinal "MirrorLane" "MirrorLane" "mender" "LMirrorLane$Mender;") ∈ ml_T := ml_in (ml_t2 (List.mem_of_getElem? (i := 178) rfl)) rfl
theorem tw_2_180 : (Jvm.Cond.laysFinal "MirrorLane" "MirrorLane" "words" "[LMirrorLane$Word;") ∈ ml_T := ml_in (ml_t2 (List.mem_of_getElem? (i := 180) rfl)) rfl
theorem tw_2_182 : (Jvm.Cond.laysFinal "MirrorLane" "MirrorLane" "draft" "[B") ∈ ml_T := ml_in (ml_t2 (List.mem_of_getElem? (i := 182) rfl)) rfl
theorem tw_2_184 : (Jvm.Cond.laysFinal "MirrorLane" "MirrorLane" "woven" "LMirrorLane$Weave;") ∈ ml_T := ml_in (ml_t2 (List.mem_of_getElem? (i := 184) rfl)) rfl
theorem tw_2_186 : (Jvm.Cond.lays "MirrorLane" "MirrorLane" "h" "I") ∈ ml_T := ml_in (ml_t2 (List.mem_of_getElem? (i := 186) rfl)) rfl
theorem tw_2_188 : (Jvm.Cond.lays "MirrorLane" "MirrorLane" "told" "I") ∈ ml_T := ml_in (ml_t2 (List.mem_of_getElem? (i := 188) rfl)) rfl
theorem tw_5_13 : (Jvm.Cond.laysFinal "MirrorLaneModel" "MirrorLaneModel" "tape" "[B") ∈ ml_T := ml_in (ml_t5 (List.mem_of_getElem? (i := 13) rfl)) rfl
theorem tw_5_15 : (Jvm.Cond.lays "MirrorLaneModel" "MirrorLaneModel" "taped" "I") ∈ ml_T := ml_in (ml_t5 (List.mem_of_getElem? (i := 15) rfl)) rfl
theorem tw_5_17 : (Jvm.Cond.lays "MirrorLaneModel" "MirrorLaneModel" "h" "I") ∈ ml_T := ml_in (ml_t5 (List.mem_of_getElem? (i := 17) rfl)) rfl
theorem tw_5_19 : (Jvm.Cond.lays "MirrorLaneModel" "MirrorLaneModel" "words" "I") ∈ ml_T := ml_in (ml_t5 (List.mem_of_getElem? (i := 19) rfl)) rfl
theorem tw_5_21 : (Jvm.Cond.lays "MirrorLaneModel" "MirrorLaneModel" "isCapped" "Z") ∈ ml_T := ml_in (ml_t5 (List.mem_of_getElem? (i := 21) rfl)) rfl
theorem tw_5_23 : (Jvm.Cond.laysFinal "MirrorLaneModel" "MirrorLaneModel" "cap" "[I") ∈ ml_T := ml_in (ml_t5 (List.mem_of_getElem? (i := 23) rfl)) rfl
theorem tw_5_25 : (Jvm.Cond.laysFinal "MirrorLaneModel" "MirrorLaneModel" "text" "[B") ∈ ml_T := ml_in (ml_t5 (List.mem_of_getElem? (i := 25) rfl)) rfl
theorem tw_5_27 : (Jvm.Cond.laysFinal "MirrorLaneModel" "MirrorLaneModel" "size" "[I") ∈ ml_T := ml_in (ml_t5 (List.mem_of_getElem? (i := 27) rfl)) rfl
theorem tw_5_29 : (Jvm.Cond.laysFinal "MirrorLaneModel" "MirrorLaneModel" "cost" "[I") ∈ ml_T := ml_in (ml_t5 (List.mem_of_getElem? (i := 29) rfl)) rfl
theorem tw_5_31 : (Jvm.Cond.lays "MirrorLaneModel" "MirrorLaneModel" "place" "I") ∈ ml_T := ml_in (ml_t5 (List.mem_of_getElem? (i := 31) rfl)) rfl
theorem tw_5_33 : (Jvm.Cond.lays "MirrorLaneModel" "MirrorLaneModel" "end" "I") ∈ ml_T := ml_in (ml_t5 (List.mem_of_getElem? (i := 33) rfl)) rfl
theorem tw_5_35 : (Jvm.Cond.lays "MirrorLaneModel" "MirrorLaneModel" "bad" "I") ∈ ml_T := ml_in (ml_t5 (List.mem_of_getElem? (i := 35) rfl)) rfl
theorem tw_5_37 : (Jvm.Cond.lays "MirrorLaneModel" "MirrorLaneModel" "open" "I") ∈ ml_T := ml_in (ml_t5 (List.mem_of_getElem? (i := 37) rfl)) rfl
theorem tw_5_39 : (Jvm.Cond.laysFinal "MirrorLaneModel" "MirrorLaneModel" "crosses" "[J") ∈ ml_T := ml_in (ml_t5 (List.mem_of_getElem? (i := 39) rfl)) rfl
theorem tw_5_41 : (Jvm.Cond.laysFinal "MirrorLaneModel" "MirrorLaneModel" "backs" "[J") ∈ ml_T := ml_in (ml_t5 (List.mem_of_getElem? (i := 41) rfl)) rfl
theorem tw_5_43 : (Jvm.Cond.laysFinal "MirrorLaneModel" "MirrorLaneModel" "accX" "[J") ∈ ml_T := ml_in (ml_t5 (List.mem_of_getElem? (i := 43) rfl)) rfl
theorem tw_5_45 : (Jvm.Cond.laysFinal "MirrorLaneModel" "MirrorLaneModel" "accU" "[J") ∈ ml_T := ml_in (ml_t5 (List.mem_of_getElem? (i := 45) rfl)) rfl
theorem tw_5_47 : (Jvm.Cond.laysFinal "MirrorLaneModel" "MirrorLaneModel" "lastX" "[J") ∈ ml_T := ml_in (ml_t5 (List.mem_of_getElem? (i := 47) rfl)) rfl
theorem tw_5_49 : (Jvm.Cond.laysFinal "MirrorLaneModel" "MirrorLaneModel" "lastU" "[J") ∈ ml_T := ml_in (ml_t5 (List.mem_of_getElem? (i := 49) rfl)) rfl
theorem tw_5_51 : (Jvm.Cond.lays "MirrorLaneModel" "MirrorLaneModel" "readAt" "I") ∈ ml_T := ml_in (ml_t5 (List.mem_of_getElem? (i := 51) rfl)) rfl
theorem tw_5_53 : (Jvm.Cond.lays "MirrorLaneModel" "MirrorLaneModel" "readWord" "I") ∈ ml_T := ml_in (ml_t5 (List.mem_of_getElem? (i := 53) rfl)) rfl
theorem tw_5_55 : (Jvm.Cond.laysFinal "MirrorLaneModel" "MirrorLaneModel" "pair" "[I") ∈ ml_T := ml_in (ml_t5 (List.mem_of_getElem? (i := 55) rfl)) rfl
theorem tw_5_57 : (Jvm.Cond.laysFinal "MirrorLaneModel" "MirrorLaneModel" "length" "[J") ∈ ml_T := ml_in (ml_t5 (List.mem_of_getElem? (i := 57) rfl)) rfl
theorem tw_5_59 : (Jvm.Cond.laysFinal "MirrorLaneModel" "MirrorLaneModel" "within" "[J") ∈ ml_T := ml_in (ml_t5 (List.mem_of_getElem? (i := 59) rfl)) rfl
theorem tw_5_61 : (Jvm.Cond.laysFinal "MirrorLaneModel" "MirrorLaneModel" "longest" "[J") ∈ ml_T := ml_in (ml_t5 (List.mem_of_getElem? (i := 61) rfl)) rfl
theorem tw_5_63 : (Jvm.Cond.laysFinal "MirrorLaneModel" "MirrorLaneModel" "together" "[J") ∈ ml_T := ml_in (ml_t5 (List.mem_of_getElem? (i := 63) rfl)) rfl
theorem tw_5_65 : (Jvm.Cond.laysFinal "MirrorLaneModel" "MirrorLaneModel" "isSeen" "[Z") ∈ ml_T := ml_in (ml_t5 (List.mem_of_getElem? (i := 65) rfl)) rfl
theorem tw_5_67 : (Jvm.Cond.lays "MirrorLaneModel" "MirrorLaneModel" "went" "J") ∈ ml_T := ml_in (ml_t5 (List.mem_of_getElem? (i := 67) rfl)) rfl
theorem tw_5_69 : (Jvm.Cond.laysFinal "MirrorLaneModel" "MirrorLaneModel" "old" "[B") ∈ ml_T := ml_in (ml_t5 (List.mem_of_getElem? (i := 69) rfl)) rfl
theorem tw_5_71 : (Jvm.Cond.laysFinal "MirrorLaneModel" "MirrorLaneModel" "isDone" "[Z") ∈ ml_T := ml_in (ml_t5 (List.mem_of_getElem? (i := 71) rfl)) rfl
theorem tw_5_73 : (Jvm.Cond.laysFinal "MirrorLaneModel" "MirrorLaneModel" "codes" "[J") ∈ ml_T := ml_in (ml_t5 (List.mem_of_getElem? (i := 73) rfl)) rfl
theorem tw_5_75 : (Jvm.Cond.laysFinal "MirrorLaneModel" "MirrorLaneModel" "lefts" "[J") ∈ ml_T := ml_in (ml_t5 (List.mem_of_getElem? (i := 75) rfl)) rfl
theorem tw_5_77 : (Jvm.Cond.lays "MirrorLaneModel" "MirrorLaneModel" "index" "I") ∈ ml_T := ml_in (ml_t5 (List.mem_of_getElem? (i := 77) rfl)) rfl
theorem tw_5_79 : (Jvm.Cond.lays "MirrorLaneModel" "MirrorLaneModel" "period" "I") ∈ ml_T := ml_in (ml_t5 (List.mem_of_getElem? (i := 79) rfl)) rfl
theorem tw_5_81 : (Jvm.Cond.lays "MirrorLaneModel" "MirrorLaneModel" "known" "I") ∈ ml_T := ml_in (ml_t5 (List.mem_of_getElem? (i := 81) rfl)) rfl
theorem tw_5_83 : (Jvm.Cond.lays "MirrorLaneModel" "MirrorLaneModel" "gains" "J") ∈ ml_T := ml_in (ml_t5 (List.mem_of_getElem? (i := 83) rfl)) rfl
theorem tw_5_85 : (Jvm.Cond.lays "MirrorLaneModel" "MirrorLaneModel" "firstOf" "J") ∈ ml_T := ml_in (ml_t5 (List.mem_of_getElem? (i := 85) rfl)) rfl
theorem tw_5_87 : (Jvm.Cond.lays "MirrorLaneModel" "MirrorLaneModel" "foundFirst" "J") ∈ ml_T := ml_in (ml_t5 (List.mem_of_getElem? (i := 87) rfl)) rfl
theorem tw_5_89 : (Jvm.Cond.lays "MirrorLaneModel" "MirrorLaneModel" "letters" "I") ∈ ml_T := ml_in (ml_t5 (List.mem_of_getElem? (i := 89) rfl)) rfl
theorem tw_5_91 : (Jvm.Cond.lays "MirrorLaneModel" "MirrorLaneModel" "states" "I") ∈ ml_T := ml_in (ml_t5 (List.mem_of_getElem? (i := 91) rfl)) rfl
theorem tw_5_93 : (Jvm.Cond.laysFinal "MirrorLaneModel" "MirrorLaneModel" "letter" "[I") ∈ ml_T := ml_in (ml_t5 (List.mem_of_getElem? (i := 93) rfl)) rfl
theorem tw_5_95 : (Jvm.Cond.laysFinal "MirrorLaneModel" "MirrorLaneModel" "stateCode" "[J") ∈ ml_T := ml_in (ml_t5 (List.mem_of_getElem? (i := 95) rfl)) rfl
theorem tw_5_97 : (Jvm.Cond.laysFinal "MirrorLaneModel" "MirrorLaneModel" "statePair" "[B") ∈ ml_T := ml_in (ml_t5 (List.mem_of_getElem? (i := 97) rfl)) rfl
theorem tw_5_99 : (Jvm.Cond.laysFinal "MirrorLaneModel" "MirrorLaneModel" "next" "[I") ∈ ml_T := ml_in (ml_t5 (List.mem_of_getElem? (i := 99) rfl)) rfl
theorem tw_5_101 : (Jvm.Cond.laysFinal "MirrorLaneModel" "MirrorLaneModel" "more" "[I") ∈ ml_T := ml_in (ml_t5 (List.mem_of_getElem? (i := 101) rfl)) rfl
theorem tw_5_103 : (Jvm.Cond.laysFinal "MirrorLaneModel" "MirrorLaneModel" "firstState" "[I") ∈ ml_T := ml_in (ml_t5 (List.mem_of_getElem? (i := 103) rfl)) rfl
theorem tw_5_105 : (Jvm.Cond.laysFinal "MirrorLaneModel" "MirrorLaneModel" "closed" "[I") ∈ ml_T := ml_in (ml_t5 (List.mem_of_getElem? (i := 105) rfl)) rfl
theorem tw_5_107 : (Jvm.Cond.laysFinal "MirrorLaneModel" "MirrorLaneModel" "ways" "[J") ∈ ml_T := ml_in (ml_t5 (List.mem_of_getElem? (i := 107) rfl)) rfl
theorem tw_5_109 : (Jvm.Cond.laysFinal "MirrorLaneModel" "MirrorLaneModel" "then" "[J") ∈ ml_T := ml_in (ml_t5 (List.mem_of_getElem? (i := 109) rfl)) rfl
theorem tw_5_111 : (Jvm.Cond.laysFinal "MirrorLaneModel" "MirrorLaneModel" "isCome" "[Z") ∈ ml_T := ml_in (ml_t5 (List.mem_of_getElem? (i := 111) rfl)) rfl
theorem tw_5_113 : (Jvm.Cond.laysFinal "MirrorLaneModel" "MirrorLaneModel" "queue" "[I") ∈ ml_T := ml_in (ml_t5 (List.mem_of_getElem? (i := 113) rfl)) rfl
theorem tw_5_115 : (Jvm.Cond.laysFinal "MirrorLaneModel" "MirrorLaneModel" "cameFrom" "[I") ∈ ml_T := ml_in (ml_t5 (List.mem_of_getElem? (i := 115) rfl)) rfl
theorem tw_5_117 : (Jvm.Cond.laysFinal "MirrorLaneModel" "MirrorLaneModel" "cameBy" "[I") ∈ ml_T := ml_in (ml_t5 (List.mem_of_getElem? (i := 117) rfl)) rfl
theorem tw_5_119 : (Jvm.Cond.lays "MirrorLaneModel" "MirrorLaneModel" "queued" "I") ∈ ml_T := ml_in (ml_t5 (List.mem_of_getElem? (i := 119) rfl)) rfl
theorem tw_5_121 : (Jvm.Cond.laysFinal "MirrorLaneModel" "MirrorLaneModel" "price" "[I") ∈ ml_T := ml_in (ml_t5 (List.mem_of_getElem? (i := 121) rfl)) rfl
theorem tw_5_123 : (Jvm.Cond.laysFinal "MirrorLaneModel" "MirrorLaneModel" "steps" "[I") ∈ ml_T := ml_in (ml_t5 (List.mem_of_getElem? (i := 123) rfl)) rfl
theorem tw_5_125 : (Jvm.Cond.laysFinal "MirrorLaneModel" "MirrorLaneModel" "kinds" "[I") ∈ ml_T := ml_in (ml_t5 (List.mem_of_getElem? (i := 125) rfl)) rfl
theorem tw_5_127 : (Jvm.Cond.laysFinal "MirrorLaneModel" "MirrorLaneModel" "rails" "[I") ∈ ml_T := ml_in (ml_t5 (List.mem_of_getElem? (i := 127) rfl)) rfl
theorem tw_5_129 : (Jvm.Cond.laysFinal "MirrorLaneModel" "MirrorLaneModel" "written" "[B") ∈ ml_T := ml_in (ml_t5 (List.mem_of_getElem? (i := 129) rfl)) rfl
theorem tw_5_131 : (Jvm.Cond.laysFinal "MirrorLaneModel" "MirrorLaneModel" "writtenMany" "[I") ∈ ml_T := ml_in (ml_t5 (List.mem_of_getElem? (i := 131) rfl)) rfl
theorem tw_5_133 : (Jvm.Cond.laysFinal "MirrorLaneModel" "MirrorLaneModel" "itemFrom" "[I") ∈ ml_T := ml_in (ml_t5 (List.mem_of_getElem? (i := 133) rfl)) rfl
theorem tw_5_135 : (Jvm.Cond.lays "MirrorLaneModel" "MirrorLaneModel" "wrote" "I") ∈ ml_T := ml_in (ml_t5 (List.mem_of_getElem? (i := 135) rfl)) rfl
theorem tw_1_36 : (Jvm.Cond.fieldLink "MirrorLane" (94 : Nat) "MirrorLane$Tape" "size" "I") ∈ ml_T := ml_in (ml_t1 (List.mem_of_getElem? (i := 36) rfl)) rfl
theorem tw_2_122 : (Jvm.Cond.fieldLink "MirrorLane" (112 : Nat) "MirrorLane$Word" "made" "LMirrorLane$Weave;") ∈ ml_T := ml_in (ml_t2 (List.mem_of_getElem? (i := 122) rfl)) rfl
theorem tw_1_143 : (Jvm.Cond.fieldLink "MirrorLane" (115 : Nat) "MirrorLane$Weave" "signs" "J") ∈ ml_T := ml_in (ml_t1 (List.mem_of_getElem? (i := 143) rfl)) rfl
theorem tw_1_130 : (Jvm.Cond.fieldLink "MirrorLane" (127 : Nat) "MirrorLane$Weave" "pair" "[I") ∈ ml_T := ml_in (ml_t1 (List.mem_of_getElem? (i := 130) rfl)) rfl
theorem tw_1_132 : (Jvm.Cond.fieldLink "MirrorLane" (131 : Nat) "MirrorLane$Weave" "run" "[J") ∈ ml_T := ml_in (ml_t1 (List.mem_of_getElem? (i := 132) rfl)) rfl
theorem tw_1_137 : (Jvm.Cond.fieldLink "MirrorLane" (135 : Nat) "MirrorLane$Weave" "loops" "J") ∈ ml_T := ml_in (ml_t1 (List.mem_of_getElem? (i := 137) rfl)) rfl
theorem tw_1_139 : (Jvm.Cond.fieldLink "MirrorLane" (138 : Nat) "MirrorLane$Weave" "longest" "J") ∈ ml_T := ml_in (ml_t1 (List.mem_of_getElem? (i := 139) rfl)) rfl
theorem tw_1_141 : (Jvm.Cond.fieldLink "MirrorLane" (141 : Nat) "MirrorLane$Weave" "total" "J") ∈ ml_T := ml_in (ml_t1 (List.mem_of_getElem? (i := 141) rfl)) rfl
theorem tw_1_145 : (Jvm.Cond.fieldLink "MirrorLane" (205 : Nat) "MirrorLane$Weave" "crosses" "Z") ∈ ml_T := ml_in (ml_t1 (List.mem_of_getElem? (i := 145) rfl)) rfl
theorem tw_1_147 : (Jvm.Cond.fieldLink "MirrorLane" (209 : Nat) "MirrorLane$Weave" "turns" "Z") ∈ ml_T := ml_in (ml_t1 (List.mem_of_getElem? (i := 147) rfl)) rfl
theorem tw_2_115 : (Jvm.Cond.fieldLink "MirrorLane" (212 : Nat) "MirrorLane$Word" "plain" "Z") ∈ ml_T := ml_in (ml_t2 (List.mem_of_getElem? (i := 115) rfl)) rfl
theorem tw_2_5 : (Jvm.Cond.fieldLink "MirrorLane" (228 : Nat) "MirrorLane$Sentences" "places" "I") ∈ ml_T := ml_in (ml_t2 (List.mem_of_getElem? (i := 5) rfl)) rfl
theorem tw_2_118 : (Jvm.Cond.fieldLink "MirrorLane" (239 : Nat) "MirrorLane$Word" "price" "I") ∈ ml_T := ml_in (ml_t2 (List.mem_of_getElem? (i := 118) rfl)) rfl
theorem tw_2_9 : (Jvm.Cond.fieldLink "MirrorLane" (242 : Nat) "MirrorLane$Sentences" "place" "[I") ∈ ml_T := ml_in (ml_t2 (List.mem_of_getElem? (i := 9) rfl)) rfl
theorem tw_2_113 : (Jvm.Cond.fieldLink "MirrorLane" (253 : Nat) "MirrorLane$Word" "size" "I") ∈ ml_T := ml_in (ml_t2 (List.mem_of_getElem? (i := 113) rfl)) rfl
theorem tw_2_129 : (Jvm.Cond.fieldLink "MirrorLane" (264 : Nat) "MirrorLane$Word" "written" "Z") ∈ ml_T := ml_in (ml_t2 (List.mem_of_getElem? (i := 129) rfl)) rfl
theorem tw_1_34 : (Jvm.Cond.fieldLink "MirrorLane" (275 : Nat) "MirrorLane$Tape" "bytes" "[I") ∈ ml_T := ml_in (ml_t1 (List.mem_of_getElem? (i := 34) rfl)) rfl
theorem tw_1_51 : (Jvm.Cond.fieldLink "MirrorLane" (278 : Nat) "MirrorLane$Closing" "byCaps" "Z") ∈ ml_T := ml_in (ml_t1 (List.mem_of_getElem? (i := 51) rfl)) rfl
theorem tw_4_194 : (Jvm.Cond.fieldLink "MirrorLaneModel" (140 : Nat) "MirrorLaneModel" "words" "I") ∈ ml_T := ml_in (ml_t4 (List.mem_of_getElem? (i := 194) rfl)) rfl
theorem tw_4_195 : (Jvm.Cond.fieldLink "MirrorLaneModel" (151 : Nat) "MirrorLaneModel" "isCapped" "Z") ∈ ml_T := ml_in (ml_t4 (List.mem_of_getElem? (i := 195) rfl)) rfl
theorem tw_4_192 : (Jvm.Cond.fieldLink "MirrorLaneModel" (155 : Nat) "MirrorLaneModel" "taped" "I") ∈ ml_T := ml_in (ml_t4 (List.mem_of_getElem? (i := 192) rfl)) rfl
theorem tw_4_223 : (Jvm.Cond.fieldLink "MirrorLaneModel" (307 : Nat) "MirrorLaneModel" "index" "I") ∈ ml_T := ml_in (ml_t4 (List.mem_of_getElem? (i := 223) rfl)) rfl
theorem tw_4_229 : (Jvm.Cond.fieldLink "MirrorLaneModel" (364 : Nat) "MirrorLaneModel" "letters" "I") ∈ ml_T := ml_in (ml_t4 (List.mem_of_getElem? (i := 229) rfl)) rfl
theorem tw_4_230 : (Jvm.Cond.fieldLink "MirrorLaneModel" (367 : Nat) "MirrorLaneModel" "states" "I") ∈ ml_T := ml_in (ml_t4 (List.mem_of_getElem? (i := 230) rfl)) rfl
theorem tw_2_147 : (Jvm.Cond.methodLink "MirrorLane" (90 : Nat) ({ cls := "MirrorLane$Closing", name := "goRound", desc := "(I)V" } : Jvm.MethodName)) ∈ ml_T := ml_in (ml_t2 (List.mem_of_getElem? (i := 147) rfl)) rfl
theorem tw_2_148 : (Jvm.Cond.instanceMethod ({ cls := "MirrorLane$Closing", name := "goRound", desc := "(I)V" } : Jvm.MethodName)) ∈ ml_T := ml_in (ml_t2 (List.mem_of_getElem? (i := 148) rfl)) rfl
theorem tw_2_149 : (Jvm.Cond.selects "MirrorLane$Closing" ({ cls := "MirrorLane$Closing", name := "goRound", desc := "(I)V" } : Jvm.MethodName) ({ cls := "MirrorLane$Closing", name := "goRound", desc := "(I)V" } : Jvm.MethodName)) ∈ ml_T := ml_in (ml_t2 (List.mem_of_getElem? (i := 149) rfl)) rfl
theorem tw_2_150 : (Jvm.Cond.code ({ cls := "MirrorLane$Closing", name := "goRound", desc := "(I)V" } : Jvm.MethodName) prog_2_method_2_code (3 : Nat) (Option.none : Option Jvm.ClassFile.FieldType)) ∈ ml_T := ml_in (ml_t2 (List.mem_of_getElem? (i := 150) rfl)) rfl
theorem tw_2_199 : (Jvm.Cond.methodLink "MirrorLane" (97 : Nat) ({ cls := "MirrorLane$Tape", name := "add", desc := "(I)V" } : Jvm.MethodName)) ∈ ml_T := ml_in (ml_t2 (List.mem_of_getElem? (i := 199) rfl)) rfl
theorem tw_2_200 : (Jvm.Cond.instanceMethod ({ cls := "MirrorLane$Tape", name := "add", desc := "(I)V" } : Jvm.MethodName)) ∈ ml_T := ml_in (ml_t2 (List.mem_of_getElem? (i := 200) rfl)) rfl
theorem tw_2_201 : (Jvm.Cond.selects "MirrorLane$Tape" ({ cls := "MirrorLane$Tape", name := "add", desc := "(I)V" } : Jvm.MethodName) ({ cls := "MirrorLane$Tape", name := "add", desc := "(I)V" } : Jvm.MethodName)) ∈ ml_T := ml_in (ml_t2 (List.mem_of_getElem? (i := 201) rfl)) rfl
theorem tw_2_202 : (Jvm.Cond.code ({ cls := "MirrorLane$Tape", name := "add", desc := "(I)V" } : Jvm.MethodName) prog_10_method_2_code (3 : Nat) (Option.none : Option Jvm.ClassFile.FieldType)) ∈ ml_T := ml_in (ml_t2 (List.mem_of_getElem? (i := 202) rfl)) rfl
theorem tw_2_207 : (Jvm.Cond.methodLink "MirrorLane" (100 : Nat) ({ cls := "MirrorLane", name := "tell", desc := "(II)I" } : Jvm.MethodName)) ∈ ml_T := ml_in (ml_t2 (List.mem_of_getElem? (i := 207) rfl)) rfl
theorem tw_2_209 : (Jvm.Cond.instanceMethod ({ cls := "MirrorLane", name := "tell", desc := "(II)I" } : Jvm.MethodName)) ∈ ml_T := ml_in (ml_t2 (List.mem_of_getElem? (i := 209) rfl)) rfl
theorem tv_0 : Cond.selects "MirrorLane" ⟨"MirrorLane", "tell", "(II)I"⟩ ⟨"MirrorLane", "tell", "(II)I"⟩ ∈ ml_T := ml_in (List.mem_append_left _ (List.mem_map.mpr ⟨(⟨"MirrorLane", "tell", "(II)I"⟩, 13), (show _ ∈ lw_privs from List.mem_append_left _ (List.mem_of_getElem? (i := 0) rfl)), rfl⟩)) rfl
theorem tw_1_1 : (Jvm.Cond.initialized "MirrorLane") ∈ ml_T := ml_in (ml_t1 (List.mem_of_getElem? (i := 1) rfl)) rfl
theorem tw_2_210 : (Jvm.Cond.code ({ cls := "MirrorLane", name := "tell", desc := "(II)I" } : Jvm.MethodName) prog_1_method_34_code (4 : Nat) (Option.some Jvm.ClassFile.FieldType.int)) ∈ ml_T := ml_in (ml_t2 (List.mem_of_getElem? (i := 210) rfl)) rfl
theorem tw_3_104 : (Jvm.Cond.methodLink "MirrorLane" (104 : Nat) ({ cls := "MirrorLane", name := "isTold", desc := "(I)Z" } : Jvm.MethodName)) ∈ ml_T := ml_in (ml_t3 (List.mem_of_getElem? (i := 104) rfl)) rfl
theorem tw_3_106 : (Jvm.Cond.instanceMethod ({ cls := "MirrorLane", name := "isTold", desc := "(I)Z" } : Jvm.MethodName)) ∈ ml_T := ml_in (ml_t3 (List.mem_of_getElem? (i := 106) rfl)) rfl
theorem tv_15 : Cond.selects "MirrorLane" ⟨"MirrorLane", "isTold", "(I)Z"⟩ ⟨"MirrorLane", "isTold", "(I)Z"⟩ ∈ ml_T := ml_in (List.mem_append_left _ (List.mem_map.mpr ⟨(⟨"MirrorLane", "isTold", "(I)Z"⟩, 13), (show _ ∈ lw_privs from List.mem_append_left _ (List.mem_of_getElem? (i := 15) rfl)), rfl⟩)) rfl
theorem tw_3_107 : (Jvm.Cond.code ({ cls := "MirrorLane", name := "isTold", desc := "(I)Z" } : Jvm.MethodName) prog_1_method_29_code (2 : Nat) (Option.some Jvm.ClassFile.FieldType.boolean)) ∈ ml_T := ml_in (ml_t3 (List.mem_of_getElem? (i := 107) rfl)) rfl
theorem tw_3_130 : (Jvm.Cond.methodLink "MirrorLane" (121 : Nat) ({ cls := "MirrorLane", name := "isMade", desc := "(I)Z" } : Jvm.MethodName)) ∈ ml_T := ml_in (ml_t3 (List.mem_of_getElem? (i := 130) rfl)) rfl
theorem tw_3_132 : (Jvm.Cond.instanceMethod ({ cls := "MirrorLane", name := "isMade", desc := "(I)Z" } : Jvm.MethodName)) ∈ ml_T := ml_in (ml_t3 (List.mem_of_getElem? (i := 132) rfl)) rfl
theorem tv_16 : Cond.selects "MirrorLane" ⟨"MirrorLane", "isMade", "(I)Z"⟩ ⟨"MirrorLane", "isMade", "(I)Z"⟩ ∈ ml_T := ml_in (List.mem_append_left _ (List.mem_map.mpr ⟨(⟨"MirrorLane", "isMade", "(I)Z"⟩, 13), (show _ ∈ lw_privs from List.mem_append_right _ (List.mem_append_left _ (List.mem_of_getElem? (i := 0) rfl))), rfl⟩)) rfl
theorem tw_3_133 : (Jvm.Cond.code ({ cls := "MirrorLane", name := "isMade", desc := "(I)Z" } : Jvm.MethodName) prog_1_method_30_code (2 : Nat) (Option.some Jvm.ClassFile.FieldType.boolean)) ∈ ml_T := ml_in (ml_t3 (List.mem_of_getElem? (i := 133) rfl)) rfl
theorem tw_3_134 : (Jvm.Cond.methodLink "MirrorLane" (124 : Nat) ({ cls := "MirrorLane", name := "isEnd", desc := "(I)Z" } : Jvm.MethodName)) ∈ ml_T := ml_in (ml_t3 (List.mem_of_getElem? (i := 134) rfl)) rfl
theorem tw_3_136 : (Jvm.Cond.instanceMethod ({ cls := "MirrorLane", name := "isEnd", desc := "(I)Z" } : Jvm.MethodName)) ∈ ml_T := ml_in (ml_t3 (List.mem_of_getElem? (i := 136) rfl)) rfl
theorem tv_17 : Cond.selects "MirrorLane" ⟨"MirrorLane", "isEnd", "(I)Z"⟩ ⟨"MirrorLane", "isEnd", "(I)Z"⟩ ∈ ml_T := ml_in (List.mem_append_left _ (List.mem_map.mpr ⟨(⟨"MirrorLane", "isEnd", "(I)Z"⟩, 13), (show _ ∈ lw_privs from List.mem_append_right _ (List.mem_append_left _ (List.mem_of_getElem? (i := 1) rfl))), rfl⟩)) rfl
theorem tw_3_137 : (Jvm.Cond.code ({ cls := "MirrorLane", name := "isEnd", desc := "(I)Z" } : Jvm.MethodName) prog_1_method_31_code (2 : Nat) (Option.some Jvm.ClassFile.FieldType.boolean)) ∈ ml_T := ml_in (ml_t3 (List.mem_of_getElem? (i := 137) rfl)) rfl
theorem tw_3_200 : (Jvm.Cond.methodLink "MirrorLane" (170 : Nat) ({ cls := "MirrorLane", name := "isPower", desc := "(J)Z" } : Jvm.MethodName)) ∈ ml_T := ml_in (ml_t3 (List.mem_of_getElem? (i := 200) rfl)) rfl
theorem tw_3_201 : (Jvm.Cond.static ({ cls := "MirrorLane", name := "isPower", desc := "(J)Z" } : Jvm.MethodName)) ∈ ml_T := ml_in (ml_t3 (List.mem_of_getElem? (i := 201) rfl)) rfl
theorem tw_3_202 : (Jvm.Cond.code ({ cls := "MirrorLane", name := "isPower", desc := "(J)Z" } : Jvm.MethodName) prog_1_method_32_code (2 : Nat) (Option.some Jvm.ClassFile.FieldType.boolean)) ∈ ml_T := ml_in (ml_t3 (List.mem_of_getElem? (i := 202) rfl)) rfl
theorem tw_3_209 : (Jvm.Cond.methodLink "MirrorLane" (180 : Nat) ({ cls := "MirrorLane", name := "isStretch", desc := "(JJ)Z" } : Jvm.MethodName)) ∈ ml_T := ml_in (ml_t3 (List.mem_of_getElem? (i := 209) rfl)) rfl
theorem tw_3_210 : (Jvm.Cond.static ({ cls := "MirrorLane", name := "isStretch", desc := "(JJ)Z" } : Jvm.MethodName)) ∈ ml_T := ml_in (ml_t3 (List.mem_of_getElem? (i := 210) rfl)) rfl
theorem tw_3_211 : (Jvm.Cond.code ({ cls := "MirrorLane", name := "isStretch", desc := "(JJ)Z" } : Jvm.MethodName) prog_1_method_33_code (4 : Nat) (Option.some Jvm.ClassFile.FieldType.boolean)) ∈ ml_T := ml_in (ml_t3 (List.mem_of_getElem? (i := 211) rfl)) rfl
theorem tw_4_23 : (Jvm.Cond.methodLink "MirrorLane" (219 : Nat) ({ cls := "MirrorLane", name := "openLetters", desc := "(I)Z" } : Jvm.MethodName)) ∈ ml_T := ml_in (ml_t4 (List.mem_of_getElem? (i := 23) rfl)) rfl
theorem tw_4_25 : (Jvm.Cond.instanceMethod ({ cls := "MirrorLane", name := "openLetters", desc := "(I)Z" } : Jvm.MethodName)) ∈ ml_T := ml_in (ml_t4 (List.mem_of_getElem? (i := 25) rfl)) rfl
theorem tv_23 : Cond.selects "MirrorLane" ⟨"MirrorLane", "openLetters", "(I)Z"⟩ ⟨"MirrorLane", "openLetters", "(I)Z"⟩ ∈ ml_T := ml_in (List.mem_append_left _ (List.mem_map.mpr ⟨(⟨"MirrorLane", "openLetters", "(I)Z"⟩, 13), (show _ ∈ lw_privs from List.mem_append_right _ (List.mem_append_left _ (List.mem_of_getElem? (i := 7) rfl))), rfl⟩)) rfl
theorem tw_4_26 : (Jvm.Cond.code ({ cls := "MirrorLane", name := "openLetters", desc := "(I)Z" } : Jvm.MethodName) prog_1_method_36_code (3 : Nat) (Option.some Jvm.ClassFile.FieldType.boolean)) ∈ ml_T := ml_in (ml_t4 (List.mem_of_getElem? (i := 26) rfl)) rfl
theorem tw_4_27 : (Jvm.Cond.methodLink "MirrorLane" (310 : Nat) ({ cls := "java/lang/Integer", name := "bitCount", desc := "(I)I" } : Jvm.MethodName)) ∈ ml_T := ml_in (ml_t4 (List.mem_of_getElem? (i := 27) rfl)) rfl
theorem tw_3_169 : (Jvm.Cond.static ({ cls := "java/lang/Integer", name := "bitCount", desc := "(I)I" } : Jvm.MethodName)) ∈ ml_T := ml_in (ml_t3 (List.mem_of_getElem? (i := 169) rfl)) rfl
theorem tw_1_16 : (Jvm.Cond.initialized "java/lang/Integer") ∈ ml_T := ml_in (ml_t1 (List.mem_of_getElem? (i := 16) rfl)) rfl
theorem tw_3_170 : (Jvm.Cond.code ({ cls := "java/lang/Integer", name := "bitCount", desc := "(I)I" } : Jvm.MethodName) prog_15_method_49_code (1 : Nat) (Option.some Jvm.ClassFile.FieldType.int)) ∈ ml_T := ml_in (ml_t3 (List.mem_of_getElem? (i := 170) rfl)) rfl
theorem tw_5_145 : (Jvm.Cond.methodLink "MirrorLaneModel" (143 : Nat) ({ cls := "MirrorLaneModel", name := "lies", desc := "(JJJ)Z" } : Jvm.MethodName)) ∈ ml_T := ml_in (ml_t5 (List.mem_of_getElem? (i := 145) rfl)) rfl
theorem tw_5_146 : (Jvm.Cond.static ({ cls := "MirrorLaneModel", name := "lies", desc := "(JJJ)Z" } : Jvm.MethodName)) ∈ ml_T := ml_in (ml_t5 (List.mem_of_getElem? (i := 146) rfl)) rfl
theorem tw_1_13 : (Jvm.Cond.initialized "MirrorLaneModel") ∈ ml_T := ml_in (ml_t1 (List.mem_of_getElem? (i := 13) rfl)) rfl
theorem tw_5_147 : (Jvm.Cond.code ({ cls := "MirrorLaneModel", name := "lies", desc := "(JJJ)Z" } : Jvm.MethodName) prog_14_method_2_code (6 : Nat) (Option.some Jvm.ClassFile.FieldType.boolean)) ∈ ml_T := ml_in (ml_t5 (List.mem_of_getElem? (i := 147) rfl)) rfl
theorem tw_5_152 : (Jvm.Cond.methodLink "MirrorLaneModel" (158 : Nat) ({ cls := "MirrorLaneModel", name := "push", desc := "(I)V" } : Jvm.MethodName)) ∈ ml_T := ml_in (ml_t5 (List.mem_of_getElem? (i := 152) rfl)) rfl
theorem tw_5_154 : (Jvm.Cond.instanceMethod ({ cls := "MirrorLaneModel", name := "push", desc := "(I)V" } : Jvm.MethodName)) ∈ ml_T := ml_in (ml_t5 (List.mem_of_getElem? (i := 154) rfl)) rfl
theorem tv_33 : Cond.selects "MirrorLaneModel" ⟨"MirrorLaneModel", "push", "(I)V"⟩ ⟨"MirrorLaneModel", "push", "(I)V"⟩ ∈ ml_T := ml_in (List.mem_append_left _ (List.mem_map.mpr ⟨(⟨"MirrorLaneModel", "push", "(I)V"⟩, 62), (show _ ∈ lw_privs from List.mem_append_right _ (List.mem_append_right _ (List.mem_append_left _ (List.mem_of_getElem? (i := 1) rfl)))), rfl⟩)) rfl
theorem tw_5_155 : (Jvm.Cond.code ({ cls := "MirrorLaneModel", name := "push", desc := "(I)V" } : Jvm.MethodName) prog_14_method_6_code (3 : Nat) (Option.none : Option Jvm.ClassFile.FieldType)) ∈ ml_T := ml_in (ml_t5 (List.mem_of_getElem? (i := 155) rfl)) rfl
theorem tw_5_160 : (Jvm.Cond.methodLink "MirrorLaneModel" (277 : Nat) ({ cls := "MirrorLaneModel", name := "isLength", desc := "(I)Z" } : Jvm.MethodName)) ∈ ml_T := ml_in (ml_t5 (List.mem_of_getElem? (i := 160) rfl)) rfl
theorem tw_5_162 : (Jvm.Cond.instanceMethod ({ cls := "MirrorLaneModel", name := "isLength", desc := "(I)Z" } : Jvm.MethodName)) ∈ ml_T := ml_in (ml_t5 (List.mem_of_getElem? (i := 162) rfl)) rfl
theorem tv_34 : Cond.selects "MirrorLaneModel" ⟨"MirrorLaneModel", "isLength", "(I)Z"⟩ ⟨"MirrorLaneModel", "isLength", "(I)Z"⟩ ∈ ml_T := ml_in (List.mem_append_left _ (List.mem_map.mpr ⟨(⟨"MirrorLaneModel", "isLength", "(I)Z"⟩, 62), (show _ ∈ lw_privs from List.mem_append_right _ (List.mem_append_right _ (List.mem_append_left _ (List.mem_of_getElem? (i := 2) rfl)))), rfl⟩)) rfl
theorem tw_5_163 : (Jvm.Cond.code ({ cls := "MirrorLaneModel", name := "isLength", desc := "(I)Z" } : Jvm.MethodName) prog_14_method_34_code (2 : Nat) (Option.some Jvm.ClassFile.FieldType.boolean)) ∈ ml_T := ml_in (ml_t5 (List.mem_of_getElem? (i := 163) rfl)) rfl
theorem tw_6_36 : (Jvm.Cond.methodLink "MirrorLaneModel" (287 : Nat) ({ cls := "MirrorLaneModel", name := "isWord", desc := "(I)Z" } : Jvm.MethodName)) ∈ ml_T := ml_in (ml_t6 (List.mem_of_getElem? (i := 36) rfl)) rfl
theorem tw_6_38 : (Jvm.Cond.instanceMethod ({ cls := "MirrorLaneModel", name := "isWord", desc := "(I)Z" } : Jvm.MethodName)) ∈ ml_T := ml_in (ml_t6 (List.mem_of_getElem? (i := 38) rfl)) rfl
theorem tv_59 : Cond.selects "MirrorLaneModel" ⟨"MirrorLaneModel", "isWord", "(I)Z"⟩ ⟨"MirrorLaneModel", "isWord", "(I)Z"⟩ ∈ ml_T := ml_in (List.mem_append_left _ (List.mem_map.mpr ⟨(⟨"MirrorLaneModel", "isWord", "(I)Z"⟩, 62), (show _ ∈ lw_privs from List.mem_append_right _ (List.mem_append_right _ (List.mem_append_right _ (List.mem_append_left _ (List.mem_of_getElem? (i := 11) rfl))))), rfl⟩)) rfl
theorem tw_6_39 : (Jvm.Cond.code ({ cls := "MirrorLaneModel", name := "isWord", desc := "(I)Z" } : Jvm.MethodName) prog_14_method_4_code (2 : Nat) (Option.some Jvm.ClassFile.FieldType.boolean)) ∈ ml_T := ml_in (ml_t6 (List.mem_of_getElem? (i := 39) rfl)) rfl
theorem tw_6_57 : (Jvm.Cond.methodLink "MirrorLaneModel" (292 : Nat) ({ cls := "MirrorLaneModel", name := "isMade", desc := "(I)Z" } : Jvm.MethodName)) ∈ ml_T := ml_in (ml_t6 (List.mem_of_getElem? (i := 57) rfl)) rfl
theorem tw_6_59 : (Jvm.Cond.instanceMethod ({ cls := "MirrorLaneModel", name := "isMade", desc := "(I)Z" } : Jvm.MethodName)) ∈ ml_T := ml_in (ml_t6 (List.mem_of_getElem? (i := 59) rfl)) rfl
theorem tv_60 : Cond.selects "MirrorLaneModel" ⟨"MirrorLaneModel", "isMade", "(I)Z"⟩ ⟨"MirrorLaneModel", "isMade", "(I)Z"⟩ ∈ ml_T := ml_in (List.mem_append_left _ (List.mem_map.mpr ⟨(⟨"MirrorLaneModel", "isMade", "(I)Z"⟩, 62), (show _ ∈ lw_privs from List.mem_append_right _ (List.mem_append_right _ (List.mem_append_right _ (List.mem_append_left _ (List.mem_of_getElem? (i := 12) rfl))))), rfl⟩)) rfl
theorem tw_6_60 : (Jvm.Cond.code ({ cls := "MirrorLaneModel", name := "isMade", desc := "(I)Z" } : Jvm.MethodName) prog_14_method_41_code (2 : Nat) (Option.some Jvm.ClassFile.FieldType.boolean)) ∈ ml_T := ml_in (ml_t6 (List.mem_of_getElem? (i := 60) rfl)) rfl
theorem tw_6_61 : (Jvm.Cond.methodLink "MirrorLaneModel" (295 : Nat) ({ cls := "MirrorLaneModel", name := "isEnd", desc := "(I)Z" } : Jvm.MethodName)) ∈ ml_T := ml_in (ml_t6 (List.mem_of_getElem? (i := 61) rfl)) rfl
theorem tw_6_63 : (Jvm.Cond.instanceMethod ({ cls := "MirrorLaneModel", name := "isEnd", desc := "(I)Z" } : Jvm.MethodName)) ∈ ml_T := ml_in (ml_t6 (List.mem_of_getElem? (i := 63) rfl)) rfl
theorem tv_61 : Cond.selects "MirrorLaneModel" ⟨"MirrorLaneModel", "isEnd", "(I)Z"⟩ ⟨"MirrorLaneModel", "isEnd", "(I)Z"⟩ ∈ ml_T := ml_in (List.mem_append_left _ (List.mem_map.mpr ⟨(⟨"MirrorLaneModel", "isEnd", "(I)Z"⟩, 62), (show _ ∈ lw_privs from List.mem_append_right _ (List.mem_append_right _ (List.mem_append_right _ (List.mem_append_left _ (List.mem_of_getElem? (i := 13) rfl))))), rfl⟩)) rfl
theorem tw_6_64 : (Jvm.Cond.code ({ cls := "MirrorLaneModel", name := "isEnd", desc := "(I)Z" } : Jvm.MethodName) prog_14_method_42_code (2 : Nat) (Option.some Jvm.ClassFile.FieldType.boolean)) ∈ ml_T := ml_in (ml_t6 (List.mem_of_getElem? (i := 64) rfl)) rfl
theorem tw_6_154 : (Jvm.Cond.methodLink "MirrorLaneModel" (379 : Nat) ({ cls := "MirrorLaneModel", name := "isLetters", desc := "(I)Z" } : Jvm.MethodName)) ∈ ml_T := ml_in (ml_t6 (List.mem_of_getElem? (i := 154) rfl)) rfl
theorem tw_6_156 : (Jvm.Cond.instanceMethod ({ cls := "MirrorLaneModel", name := "isLetters", desc := "(I)Z" } : Jvm.MethodName)) ∈ ml_T := ml_in (ml_t6 (List.mem_of_getElem? (i := 156) rfl)) rfl
theorem tv_72 : Cond.selects "MirrorLaneModel" ⟨"MirrorLaneModel", "isLetters", "(I)Z"⟩ ⟨"MirrorLaneModel", "isLetters", "(I)Z"⟩ ∈ ml_T := ml_in (List.mem_append_left _ (List.mem_map.mpr ⟨(⟨"MirrorLaneModel", "isLetters", "(I)Z"⟩, 62), (show _ ∈ lw_privs from List.mem_append_right _ (List.mem_append_right _ (List.mem_append_right _ (List.mem_append_right _ (List.mem_append_left _ (List.mem_of_getElem? (i := 8) rfl)))))), rfl⟩)) rfl
theorem tw_6_157 : (Jvm.Cond.code ({ cls := "MirrorLaneModel", name := "isLetters", desc := "(I)Z" } : Jvm.MethodName) prog_14_method_65_code (4 : Nat) (Option.some Jvm.ClassFile.FieldType.boolean)) ∈ ml_T := ml_in (ml_t6 (List.mem_of_getElem? (i := 157) rfl)) rfl
theorem in_X0 : ∀ w ∈ u_ws RX0 TX0 2, w ∈ ml_T := by
  show ∀ w ∈ [u_lay RX0 TX0 0, u_lay RX0 TX0 1], w ∈ ml_T
  exact List.forall_mem_cons.mpr ⟨tw_1_52, List.forall_mem_cons.mpr ⟨tw_1_54, fun _ h => absurd h List.not_mem_nil⟩⟩
theorem tk_X0 : ∀ k, k < 2 → parseFieldDescriptor (TX0 k).2.2.1 = some (ml_ty 0 k) := tyX0_ok
theorem in_X1 : ∀ w ∈ u_ws RX1 TX1 7, w ∈ ml_T := by
  show ∀ w ∈ [u_lay RX1 TX1 0, u_lay RX1 TX1 1, u_lay RX1 TX1 2, u_lay RX1 TX1 3, u_lay RX1 TX1 4, u_lay RX1 TX1 5, u_lay RX1 TX1 6], w ∈ ml_T
  exact List.forall_mem_cons.mpr ⟨tw_2_65, List.forall_mem_cons.mpr ⟨tw_2_67, List.forall_mem_cons.mpr ⟨tw_2_69, List.forall_mem_cons.mpr ⟨tw_2_71, List.forall_mem_cons.mpr ⟨tw_2_73, List.forall_mem_cons.mpr ⟨tw_2_75, List.forall_mem_cons.mpr ⟨tw_2_77, fun _ h => absurd h List.not_mem_nil⟩⟩⟩⟩⟩⟩⟩
theorem tk_X1 : ∀ k, k < 7 → parseFieldDescriptor (TX1 k).2.2.1 = some (ml_ty 1 k) := tyX1_ok
theorem in_X2 : ∀ w ∈ u_ws RX2 TX2 7, w ∈ ml_T := by
  show ∀ w ∈ [u_lay RX2 TX2 0, u_lay RX2 TX2 1, u_lay RX2 TX2 2, u_lay RX2 TX2 3, u_lay RX2 TX2 4, u_lay RX2 TX2 5, u_lay RX2 TX2 6], w ∈ ml_T
  exact List.forall_mem_cons.mpr ⟨tw_1_70, List.forall_mem_cons.mpr ⟨tw_1_72, List.forall_mem_cons.mpr ⟨tw_1_74, List.forall_mem_cons.mpr ⟨tw_1_76, List.forall_mem_cons.mpr ⟨tw_1_78, List.forall_mem_cons.mpr ⟨tw_1_80, List.forall_mem_cons.mpr ⟨tw_1_82, fun _ h => absurd h List.not_mem_nil⟩⟩⟩⟩⟩⟩⟩
theorem tk_X2 : ∀ k, k < 7 → parseFieldDescriptor (TX2 k).2.2.1 = some (ml_ty 2 k) := tyX2_ok
theorem in_X3 : ∀ w ∈ u_ws RX3 TX3 6, w ∈ ml_T := by
  show ∀ w ∈ [u_lay RX3 TX3 0, u_lay RX3 TX3 1, u_lay RX3 TX3 2, u_lay RX3 TX3 3, u_lay RX3 TX3 4, u_lay RX3 TX3 5], w ∈ ml_T
  exact List.forall_mem_cons.mpr ⟨tw_1_107, List.forall_mem_cons.mpr ⟨tw_1_109, List.forall_mem_cons.mpr ⟨tw_1_111, List.forall_mem_cons.mpr ⟨tw_1_113, List.forall_mem_cons.mpr ⟨tw_1_115, List.forall_mem_cons.mpr ⟨tw_1_117, fun _ h => absurd h List.not_mem_nil⟩⟩⟩⟩⟩⟩
theorem tk_X3 : ∀ k, k < 6 → parseFieldDescriptor (TX3 k).2.2.1 = some (ml_ty 3 k) := tyX3_ok
theorem in_X4 : ∀ w ∈ u_ws RX4 TX4 7, w ∈ ml_T := by
  show ∀ w ∈ [u_lay RX4 TX4 0, u_lay RX4 TX4 1, u_lay RX4 TX4 2, u_lay RX4 TX4 3, u_lay RX4 TX4 4, u_lay RX4 TX4 5, u_lay RX4 TX4 6], w ∈ ml_T
  exact List.forall_mem_cons.mpr ⟨tw_1_173, List.forall_mem_cons.mpr ⟨tw_1_175, List.forall_mem_cons.mpr ⟨tw_1_177, List.forall_mem_cons.mpr ⟨tw_1_179, List.forall_mem_cons.mpr ⟨tw_1_181, List.forall_mem_cons.mpr ⟨tw_1_183, List.forall_mem_cons.mpr ⟨tw_1_185, fun _ h => absurd h List.not_mem_nil⟩⟩⟩⟩⟩⟩⟩
theorem tk_X4 : ∀ k, k < 7 → parseFieldDescriptor (TX4 k).2.2.1 = some (ml_ty 4 k) := tyX4_ok
theorem in_X5 : ∀ w ∈ u_ws RX5 TX5 2, w ∈ ml_T := by
  show ∀ w ∈ [u_lay RX5 TX5 0, u_lay RX5 TX5 1], w ∈ ml_T
  exact List.forall_mem_cons.mpr ⟨tw_2_90, List.forall_mem_cons.mpr ⟨tw_2_92, fun _ h => absurd h List.not_mem_nil⟩⟩
theorem tk_X5 : ∀ k, k < 2 → parseFieldDescriptor (TX5 k).2.2.1 = some (ml_ty 5 k) := tyX5_ok
theorem in_X6 : ∀ w ∈ u_ws RX6 TX6 10, w ∈ ml_T := by
  show ∀ w ∈ [u_lay RX6 TX6 0, u_lay RX6 TX6 1, u_lay RX6 TX6 2, u_lay RX6 TX6 3, u_lay RX6 TX6 4, u_lay RX6 TX6 5, u_lay RX6 TX6 6, u_lay RX6 TX6 7, u_lay RX6 TX6 8, u_lay RX6 TX6 9], w ∈ ml_T
  exact List.forall_mem_cons.mpr ⟨tw_1_211, List.forall_mem_cons.mpr ⟨tw_1_213, List.forall_mem_cons.mpr ⟨tw_1_215, List.forall_mem_cons.mpr ⟨tw_1_217, List.forall_mem_cons.mpr ⟨tw_1_219, List.forall_mem_cons.mpr ⟨tw_1_221, List.forall_mem_cons.mpr ⟨tw_1_223, List.forall_mem_cons.mpr ⟨tw_1_225, List.forall_mem_cons.mpr ⟨tw_1_227, List.forall_mem_cons.mpr ⟨tw_1_229, fun _ h => absurd h List.not_mem_nil⟩⟩⟩⟩⟩⟩⟩⟩⟩⟩
theorem tk_X6 : ∀ k, k < 10 → parseFieldDescriptor (TX6 k).2.2.1 = some (ml_ty 6 k) := tyX6_ok
theorem in_X7 : ∀ w ∈ u_ws RX7 TX7 14, w ∈ ml_T := by
  show ∀ w ∈ [u_lay RX7 TX7 0, u_lay RX7 TX7 1, u_lay RX7 TX7 2, u_lay RX7 TX7 3, u_lay RX7 TX7 4, u_lay RX7 TX7 5, u_lay RX7 TX7 6, u_lay RX7 TX7 7, u_lay RX7 TX7 8, u_lay RX7 TX7 9, u_lay RX7 TX7 10, u_lay RX7 TX7 11, u_lay RX7 TX7 12, u_lay RX7 TX7 13], w ∈ ml_T
  exact List.forall_mem_cons.mpr ⟨tw_2_22, List.forall_mem_cons.mpr ⟨tw_2_24, List.forall_mem_cons.mpr ⟨tw_2_26, List.forall_mem_cons.mpr ⟨tw_2_28, List.forall_mem_cons.mpr ⟨tw_2_30, List.forall_mem_cons.mpr ⟨tw_2_32, List.forall_mem_cons.mpr ⟨tw_2_34, List.forall_mem_cons.mpr ⟨tw_2_36, List.forall_mem_cons.mpr ⟨tw_2_38, List.forall_mem_cons.mpr ⟨tw_2_40, List.forall_mem_cons.mpr ⟨tw_2_42, List.forall_mem_cons.mpr ⟨tw_2_44, List.forall_mem_cons.mpr ⟨tw_2_46, List.forall_mem_cons.mpr ⟨tw_2_48, fun _ h => absurd h List.not_mem_nil⟩⟩⟩⟩⟩⟩⟩⟩⟩⟩⟩⟩⟩⟩
theorem tk_X7 : ∀ k, k < 14 → parseFieldDescriptor (TX7 k).2.2.1 = some (ml_ty 7 k) := tyX7_ok
theorem in_X8 : ∀ w ∈ u_ws RX8 TX8 2, w ∈ ml_T := by
  show ∀ w ∈ [u_lay RX8 TX8 0, u_lay RX8 TX8 1], w ∈ ml_T
  exact List.forall_mem_cons.mpr ⟨tw_1_37, List.forall_mem_cons.mpr ⟨tw_1_39, fun _ h => absurd h List.not_mem_nil⟩⟩
theorem tk_X8 : ∀ k, k < 2 → parseFieldDescriptor (TX8 k).2.2.1 = some (ml_ty 8 k) := tyX8_ok
theorem in_X9 : ∀ w ∈ u_ws RX9 TX9 8, w ∈ ml_T := by
  show ∀ w ∈ [u_lay RX9 TX9 0, u_lay RX9 TX9 1, u_lay RX9 TX9 2, u_lay RX9 TX9 3, u_lay RX9 TX9 4, u_lay RX9 TX9 5, u_lay RX9 TX9 6, u_lay RX9 TX9 7], w ∈ ml_T
  exact List.forall_mem_cons.mpr ⟨tw_1_148, List.forall_mem_cons.mpr ⟨tw_1_150, List.forall_mem_cons.mpr ⟨tw_1_152, List.forall_mem_cons.mpr ⟨tw_1_154, List.forall_mem_cons.mpr ⟨tw_1_156, List.forall_mem_cons.mpr ⟨tw_1_158, List.forall_mem_cons.mpr ⟨tw_1_160, List.forall_mem_cons.mpr ⟨tw_1_162, fun _ h => absurd h List.not_mem_nil⟩⟩⟩⟩⟩⟩⟩⟩
theorem tk_X9 : ∀ k, k < 8 → parseFieldDescriptor (TX9 k).2.2.1 = some (ml_ty 9 k) := tyX9_ok
theorem in_X10 : ∀ w ∈ u_ws RX10 TX10 8, w ∈ ml_T := by
  show ∀ w ∈ [u_lay RX10 TX10 0, u_lay RX10 TX10 1, u_lay RX10 TX10 2, u_lay RX10 TX10 3, u_lay RX10 TX10 4, u_lay RX10 TX10 5, u_lay RX10 TX10 6, u_lay RX10 TX10 7], w ∈ ml_T
  exact List.forall_mem_cons.mpr ⟨tw_2_130, List.forall_mem_cons.mpr ⟨tw_2_132, List.forall_mem_cons.mpr ⟨tw_2_134, List.forall_mem_cons.mpr ⟨tw_2_136, List.forall_mem_cons.mpr ⟨tw_2_138, List.forall_mem_cons.mpr ⟨tw_2_140, List.forall_mem_cons.mpr ⟨tw_2_142, List.forall_mem_cons.mpr ⟨tw_2_144, fun _ h => absurd h List.not_mem_nil⟩⟩⟩⟩⟩⟩⟩⟩
theorem tk_X10 : ∀ k, k < 8 → parseFieldDescriptor (TX10 k).2.2.1 = some (ml_ty 10 k) := tyX10_ok
theorem in_X11 : ∀ w ∈ u_ws RX11 TX11 13, w ∈ ml_T := by
  show ∀ w ∈ [u_lay RX11 TX11 0, u_lay RX11 TX11 1, u_lay RX11 TX11 2, u_lay RX11 TX11 3, u_lay RX11 TX11 4, u_lay RX11 TX11 5, u_lay RX11 TX11 6, u_lay RX11 TX11 7, u_lay RX11 TX11 8, u_lay RX11 TX11 9, u_lay RX11 TX11 10, u_lay RX11 TX11 11, u_lay RX11 TX11 12], w ∈ ml_T
  exact List.forall_mem_cons.mpr ⟨tw_2_164, List.forall_mem_cons.mpr ⟨tw_2_166, List.forall_mem_cons.mpr ⟨tw_2_168, List.forall_mem_cons.mpr ⟨tw_2_170, List.forall_mem_cons.mpr ⟨tw_2_172, List.forall_mem_cons.mpr ⟨tw_2_174, List.forall_mem_cons.mpr ⟨tw_2_176, List.forall_mem_cons.mpr ⟨tw_2_178, List.forall_mem_cons.mpr ⟨tw_2_180, List.forall_mem_cons.mpr ⟨tw_2_182, List.forall_mem_cons.mpr ⟨tw_2_184, List.forall_mem_cons.mpr ⟨tw_2_186, List.forall_mem_cons.mpr ⟨tw_2_188, fun _ h => absurd h List.not_mem_nil⟩⟩⟩⟩⟩⟩⟩⟩⟩⟩⟩⟩⟩
theorem tk_X11 : ∀ k, k < 13 → parseFieldDescriptor (TX11 k).2.2.1 = some (ml_ty 11 k) := tyX11_ok
theorem in_X12 : ∀ w ∈ u_ws RX12 TX12 62, w ∈ ml_T := by
  show ∀ w ∈ [u_lay RX12 TX12 0, u_lay RX12 TX12 1, u_lay RX12 TX12 2, u_lay RX12 TX12 3, u_lay RX12 TX12 4, u_lay RX12 TX12 5, u_lay RX12 TX12 6, u_lay RX12 TX12 7, u_lay RX12 TX12 8, u_lay RX12 TX12 9, u_lay RX12 TX12 10, u_lay RX12 TX12 11, u_lay RX12 TX12 12, u_lay RX12 TX12 13, u_lay RX12 TX12 14, u_lay RX12 TX12 15, u_lay RX12 TX12 16, u_lay RX12 TX12 17, u_lay RX12 TX12 18, u_lay RX12 TX12 19, u_lay RX12 TX12 20, u_lay RX12 TX12 21, u_lay RX12 TX12 22, u_lay RX12 TX12 23, u_lay RX12 TX12 24, u_lay RX12 TX12 25, u_lay RX12 TX12 26, u_lay RX12 TX12 27, u_lay RX12 TX12 28, u_lay RX12 TX12 29, u_lay RX12 TX12 30, u_lay RX12 TX12 31, u_lay RX12 TX12 32, u_lay RX12 TX12 33, u_lay RX12 TX12 34, u_lay RX12 TX12 35, u_lay RX12 TX12 36, u_lay RX12 TX12 37, u_lay RX12 TX12 38, u_lay RX12 TX12 39, u_lay RX12 TX12 40, u_lay RX12 TX12 41, u_lay RX12 TX12 42, u_lay RX12 TX12 43, u_lay RX12 TX12 44, u_lay RX12 TX12 45, u_lay RX12 TX12 46, u_lay RX12 TX12 47, u_lay RX12 TX12 48, u_lay RX12 TX12 49, u_lay RX12 TX12 50, u_lay RX12 TX12 51, u_lay RX12 TX12 52, u_lay RX12 TX12 53, u_lay RX12 TX12 54, u_lay RX12 TX12 55, u_lay RX12 TX12 56, u_lay RX12 TX12 57, u_lay RX12 TX12 58, u_lay RX12 TX12 59, u_lay RX12 TX12 60, u_lay RX12 TX12 61], w ∈ ml_T
  exact List.forall_mem_cons.mpr ⟨tw_5_13, List.forall_mem_cons.mpr ⟨tw_5_15, List.forall_mem_cons.mpr ⟨tw_5_17, List.forall_mem_cons.mpr ⟨tw_5_19, List.forall_mem_cons.mpr ⟨tw_5_21, List.forall_mem_cons.mpr ⟨tw_5_23, List.forall_mem_cons.mpr ⟨tw_5_25, List.forall_mem_cons.mpr ⟨tw_5_27, List.forall_mem_cons.mpr ⟨tw_5_29, List.forall_mem_cons.mpr ⟨tw_5_31, List.forall_mem_cons.mpr ⟨tw_5_33, List.forall_mem_cons.mpr ⟨tw_5_35, List.forall_mem_cons.mpr ⟨tw_5_37, List.forall_mem_cons.mpr ⟨tw_5_39, List.forall_mem_cons.mpr ⟨tw_5_41, List.forall_mem_cons.mpr ⟨tw_5_43, List.forall_mem_cons.mpr ⟨tw_5_45, List.forall_mem_cons.mpr ⟨tw_5_47, List.forall_mem_cons.mpr ⟨tw_5_49, List.forall_mem_cons.mpr ⟨tw_5_51, List.forall_mem_cons.mpr ⟨tw_5_53, List.forall_mem_cons.mpr ⟨tw_5_55, List.forall_mem_cons.mpr ⟨tw_5_57, List.forall_mem_cons.mpr ⟨tw_5_59, List.forall_mem_cons.mpr ⟨tw_5_61, List.forall_mem_cons.mpr ⟨tw_5_63, List.forall_mem_cons.mpr ⟨tw_5_65, List.forall_mem_cons.mpr ⟨tw_5_67, List.forall_mem_cons.mpr ⟨tw_5_69, List.forall_mem_cons.mpr ⟨tw_5_71, List.forall_mem_cons.mpr ⟨tw_5_73, List.forall_mem_cons.mpr ⟨tw_5_75, List.forall_mem_cons.mpr ⟨tw_5_77, List.forall_mem_cons.mpr ⟨tw_5_79, List.forall_mem_cons.mpr ⟨tw_5_81, List.forall_mem_cons.mpr ⟨tw_5_83, List.forall_mem_cons.mpr ⟨tw_5_85, List.forall_mem_cons.mpr ⟨tw_5_87, List.forall_mem_cons.mpr ⟨tw_5_89, List.forall_mem_cons.mpr ⟨tw_5_91, List.forall_mem_cons.mpr ⟨tw_5_93, List.forall_mem_cons.mpr ⟨tw_5_95, List.forall_mem_cons.mpr ⟨tw_5_97, List.forall_mem_cons.mpr ⟨tw_5_99, List.forall_mem_cons.mpr ⟨tw_5_101, List.forall_mem_cons.mpr ⟨tw_5_103, List.forall_mem_cons.mpr ⟨tw_5_105, List.forall_mem_cons.mpr ⟨tw_5_107, List.forall_mem_cons.mpr ⟨tw_5_109, List.forall_mem_cons.mpr ⟨tw_5_111, List.forall_mem_cons.mpr ⟨tw_5_113, List.forall_mem_cons.mpr ⟨tw_5_115, List.forall_mem_cons.mpr ⟨tw_5_117, List.forall_mem_cons.mpr ⟨tw_5_119, List.forall_mem_cons.mpr ⟨tw_5_121, List.forall_mem_cons.mpr ⟨tw_5_123, List.forall_mem_cons.mpr ⟨tw_5_125, List.forall_mem_cons.mpr ⟨tw_5_127, List.forall_mem_cons.mpr ⟨tw_5_129, List.forall_mem_cons.mpr ⟨tw_5_131, List.forall_mem_cons.mpr ⟨tw_5_133, List.forall_mem_cons.mpr ⟨tw_5_135, fun _ h => absurd h List.not_mem_nil⟩⟩⟩⟩⟩⟩⟩⟩⟩⟩⟩⟩⟩⟩⟩⟩⟩⟩⟩⟩⟩⟩⟩⟩⟩⟩⟩⟩⟩⟩⟩⟩⟩⟩⟩⟩⟩⟩⟩⟩⟩⟩⟩⟩⟩⟩⟩⟩⟩⟩⟩⟩⟩⟩⟩⟩⟩⟩⟩⟩⟩⟩
theorem tk_X12 : ∀ k, k < 62 → parseFieldDescriptor (TX12 k).2.2.1 = some (ml_ty 12 k) := tyX12_ok
theorem ml_rofO {n ci N : Nat} {k j : Int} (hk : ml_at n k (ci + 10, N)) : ml_rof k j = ml_rofT (ci + 10) k j := by
  unfold ml_rof
  rw [show ml_layT k = (ci + 10, N) from hk.2.2]
theorem ml_refv {base : Nat} {σ : ml_St} {k j r : Int} (h : σ k j = ml_rof k j) (h2 : ml_rof k j = r) (h0 : r ≠ 0) : (if σ k j = 0 then Value.null else .ref (base + (σ k j).toNat)) = .ref (base + r.toNat) := by
  rw [h, h2, if_neg h0]
theorem ml_fitz {r : Int} (hr : ml_B r) : fits .boolean (.int (Int32.ofInt r)) = true := by
  have h1 := hr.1
  have h2 := hr.2
  rcases (show r = 0 ∨ r = 1 by omega) with rfl | rfl
  · rfl
  · rfl
/-- a text: a row of 100 bytes -/
def ml_tx (k : Int) : Prop := 1 ≤ k ∧ k ≤ 214 ∧ ml_lay k = (2, 100)
theorem ml_txat {n : Nat} {k : Int} (hn : 214 ≤ n) (h : ml_tx k) : ml_at n k (2, 100) := ⟨h.1, by have := h.2.1; omega, h.2.2⟩
theorem ml_lay_in {k : Int} {kd : Nat × Nat} (h : ml_lay k = kd) (h0 : kd ≠ (0, 0)) : 1 ≤ k ∧ k ≤ 256 := by
  unfold ml_lay ml_layT at h
  by_cases h1 : k < 1
  · rw [if_pos h1] at h; exact absurd h.symm h0
  · rw [if_neg h1] at h
    by_cases h2 : k ≤ 256
    · exact ⟨by omega, h2⟩
    · rw [List.getD_eq_getElem?_getD, List.getElem?_eq_none (by have h9 : ml_lays.length = 256 := (by decide +kernel); omega)] at h
      exact absurd h.symm h0
theorem ml_all {P : Int → Prop} (h : ∀ i : Nat, i < 256 → P ((i : Int) + 1)) {k : Int} (h1 : 1 ≤ k) (h2 : k ≤ 256) : P k := by
  have := h (k - 1).toNat (by omega)
  rwa [show (((k - 1).toNat : Nat) : Int) + 1 = k by omega] at this
/-- the tables of what lies beside what -/
theorem ml_tabW : ∀ i : Nat, i < 256 → ml_lay ((i : Int) + 1) = (19, 8) → (i : Int) + 3 ≤ 214 ∧ ml_lay ((i : Int) + 1 + 1) = (1, 10) ∧ ml_lay ((i : Int) + 1 + 2) = (4, 10) := by decide +kernel
theorem ml_tabV : ∀ i : Nat, i < 256 → ml_lay ((i : Int) + 1) = (20, 8) → (i : Int) + 6 ≤ 214 ∧ ml_lay ((i : Int) + 1 + 1) = (2, 100) ∧ ml_lay ((i : Int) + 1 + 2) = (19, 8) ∧ ml_lay ((i : Int) + 1 + 5) = (2, 2000) := by decide +kernel
theorem ml_r19_1 {n : Nat} (hn : 214 ≤ n) {k : Int} (h : ml_at n k (19, 8)) : ml_at n (k + 1) (1, 10) := by
  have h1 := ml_lay_in h.2.2 (by decide)
  have h2 := ml_all (P := fun k => ml_lay k = (19, 8) → k + 2 ≤ 214 ∧ ml_lay (k + 1) = (1, 10) ∧ ml_lay (k + 2) = (4, 10)) (fun i hi q => by have := ml_tabW i hi q; exact ⟨by omega, this.2⟩) h1.1 h1.2 h.2.2
  exact ⟨by omega, by omega, h2.2.1⟩
theorem ml_r19_2 {n : Nat} (hn : 214 ≤ n) {k : Int} (h : ml_at n k (19, 8)) : ml_at n (k + 2) (4, 10) := by
  have h1 := ml_lay_in h.2.2 (by decide)
  have h2 := ml_all (P := fun k => ml_lay k = (19, 8) → k + 2 ≤ 214 ∧ ml_lay (k + 1) = (1, 10) ∧ ml_lay (k + 2) = (4, 10)) (fun i hi q => by have := ml_tabW i hi q; exact ⟨by omega, this.2⟩) h1.1 h1.2 h.2.2
  exact ⟨by omega, by omega, h2.2.2⟩
theorem ml_weaveK {k : Int} (h : ml_lay k = (19, 8)) : k + 2 ≤ 214 ∧ ml_lay (k + 1) = (1, 10) ∧ ml_lay (k + 2) = (4, 10) := by
  have h1 := ml_lay_in h (by decide)
  exact ml_all (P := fun k => ml_lay k = (19, 8) → k + 2 ≤ 214 ∧ ml_lay (k + 1) = (1, 10) ∧ ml_lay (k + 2) = (4, 10)) (fun i hi q => by have := ml_tabW i hi q; exact ⟨by omega, this.2⟩) h1.1 h1.2 h
theorem ml_wordK {k : Int} (h : ml_lay k = (20, 8)) : k + 5 ≤ 214 ∧ 1 ≤ k ∧ ml_lay (k + 1) = (2, 100) ∧ ml_lay (k + 2) = (19, 8) ∧ ml_lay (k + 5) = (2, 2000) := by
  have h1 := ml_lay_in h (by decide)
  have h2 := ml_all (P := fun k => ml_lay k = (20, 8) → k + 5 ≤ 214 ∧ ml_lay (k + 1) = (2, 100) ∧ ml_lay (k + 2) = (19, 8) ∧ ml_lay (k + 5) = (2, 2000)) (fun i hi q => by have := ml_tabV i hi q; exact ⟨by omega, this.2⟩) h1.1 h1.2 h
  exact ⟨h2.1, h1.1, h2.2⟩
theorem ml_r20_1 {n : Nat} (hn : 214 ≤ n) {k : Int} (h : ml_at n k (20, 8)) : ml_at n (k + 1) (2, 100) := by
  have h1 := ml_wordK h.2.2; exact ⟨by omega, by omega, h1.2.2.1⟩
theorem ml_r20_2 {n : Nat} (hn : 214 ≤ n) {k : Int} (h : ml_at n k (20, 8)) : ml_at n (k + 2) (19, 8) := by
  have h1 := ml_wordK h.2.2; exact ⟨by omega, by omega, h1.2.2.2.1⟩
theorem ml_r20_5 {n : Nat} (hn : 214 ≤ n) {k : Int} (h : ml_at n k (20, 8)) : ml_at n (k + 5) (2, 2000) := by
  have h1 := ml_wordK h.2.2; exact ⟨by omega, by omega, h1.2.2.2.2⟩
theorem ml_at_words {n : Nat} (hn : 214 ≤ n) {i : Int} (h0 : 0 ≤ i) (h1 : i < 16) : ml_at n (119 + 6 * i) (20, 8) := by
  have h : ∀ j : Nat, j < 16 → ml_lay (119 + 6 * (j : Int)) = (20, 8) := by decide +kernel
  have := h i.toNat (by omega)
  rw [Int.toNat_of_nonneg h0] at this
  exact ⟨by omega, by omega, this⟩
theorem ml_at_open {n : Nat} (hn : 214 ≤ n) {i : Int} (h0 : 0 ≤ i) (h1 : i < 7) : ml_at n (25 + 3 * i) (19, 8) := by
  have h : ∀ j : Nat, j < 7 → ml_lay (25 + 3 * (j : Int)) = (19, 8) := by decide +kernel
  have := h i.toNat (by omega)
  rw [Int.toNat_of_nonneg h0] at this
  exact ⟨by omega, by omega, this⟩
theorem ml_at_tails {n : Nat} (hn : 214 ≤ n) {i : Int} (h0 : 0 ≤ i) (h1 : i < 11) : ml_at n (81 + 3 * i) (19, 8) := by
  have h : ∀ j : Nat, j < 11 → ml_lay (81 + 3 * (j : Int)) = (19, 8) := by decide +kernel
  have := h i.toNat (by omega)
  rw [Int.toNat_of_nonneg h0] at this
  exact ⟨by omega, by omega, this⟩
theorem ml_lenr {n : Nat} {k : Int} {kd : Nat × Nat} (h : ml_at n k kd) : I32 kd.2 := by
  have := ml_len h
  exact ⟨by omega, by omega⟩
def ml_cpy (σ : ml_St) (a sp b dp n : Int) : ml_St := fun x y => if x = b ∧ dp ≤ y ∧ y < dp + n then σ a (sp + (y - dp)) else σ x y
theorem ml_min_r {x y : Int} (hx : I32 x) (hy : I32 y) : I32 (min x y) := ⟨by have := hx.1; have := hy.1; omega, by have := hx.2; have := hy.2; omega⟩
theorem ml_max_r {x y : Int} (hx : I32 x) (hy : I32 y) : I32 (max x y) := ⟨by have := hx.1; have := hy.1; omega, by have := hx.2; have := hy.2; omega⟩
theorem ml_min_rL {x y : Int} (hx : I64 x) (hy : I64 y) : I64 (min x y) := ⟨by have := hx.1; have := hy.1; omega, by have := hx.2; have := hy.2; omega⟩
theorem ml_max_rL {x y : Int} (hx : I64 x) (hy : I64 y) : I64 (max x y) := ⟨by have := hx.1; have := hy.1; omega, by have := hx.2; have := hy.2; omega⟩
section MLM
variable {p : Program} {l : Launch} {e : Env} {R : Room} {s : State} {m : MethodId} {args : Array Value} {below : List Frame} {meth : Method} {c : Code} {Q : State → Prop} {base : Nat} {D : va_G} {cA : Nat → ClassId} {kc ks rr n : Nat} {σ : ml_St} {cc : ByteArray} {nL pc : Nat} {own : String} {rt : Option FieldType} {ls : Array Slot} {rest : List Value} {lst : List (Nat × Value)}
theorem ml_aald (X : ml_X p s m c meth args D cA cc nL own rt) {k i r : Int} {t N : Nat} {C : String} (hk : ml_at n k (t, N)) (ht : ml_cell base cA (t, N) (σ k) = .inl (cA t, N, .inr (.inr (.inr (.inr (fun j => ml_ro base (σ k j))))))) (hty : (ml_tys cA)[t]? = some (cA t, .object C)) (hi : 0 ≤ i) (hN : i < N) (hr : ml_RO rr σ → σ k i = r ∧ r ≠ 0) (d : decode cc pc = .ok (.aaload, 1))
    (kk : ml_V p l e R s m args below meth c Q base D cA kc ks rr n σ (F0 m (pc + 1) ls (.ref (base + r.toNat) :: rest))) : ml_V p l e R s m args below meth c Q base D cA kc ks rr n σ (F0 m pc ls (.int (Int32.ofInt i) :: .ref (base + k.toNat) :: rest)) := by
  intro H locs h1 h2 h3 h4
  have hg := ml_cells_get (base := base) (cA := cA) (σ := σ) hk
  rw [ht] at hg
  have hl := ml_len hk
  refine va_aldq X.1 X.2.1 X.2.2.2.2.2.1 h1 (k.toNat - 1) t hg hty (ml_vin hi hN hl) d ?_
  rw [ml_cl hi (by have : N ≤ 100000 := hl; omega), Int.toNat_of_nonneg hi]
  obtain ⟨e1, e2⟩ := hr h4
  rw [show va_rf (ml_ro base (σ k i)) = .ref (base + r.toNat) by rw [e1]; unfold ml_ro; rw [if_neg e2]; rfl]
  exact kk H locs h1 h2 h3 h4
theorem ml_aald_words (X : ml_X p s m c meth args D cA cc nL own rt) (hn : 214 ≤ n) {i : Int} (hi : 0 ≤ i) (hN : i < 16) (d : decode cc pc = .ok (.aaload, 1))
    (kk : ml_V p l e R s m args below meth c Q base D cA kc ks n n σ (F0 m (pc + 1) ls (.ref (base + (119 + 6 * i : Int).toNat) :: rest))) : ml_V p l e R s m args below meth c Q base D cA kc ks n n σ (F0 m pc ls (.int (Int32.ofInt i) :: .ref (base + (114 : Int).toNat) :: rest)) := by
  refine ml_aald X (t := 6) (N := 16) (r := 119 + 6 * i) ⟨by decide, by omega, by decide +kernel⟩ rfl rfl hi hN (fun h4 => ⟨?_, by omega⟩) d kk
  have e : ml_rof 114 i = 119 + 6 * i := by
    show ml_rofT (ml_layT 114).1 114 i = _
    rw [show (ml_layT 114).1 = 6 by decide +kernel]
    exact if_pos ⟨hi, hN⟩
  rw [← e]
  exact h4 114 i (by decide) (by omega) (by rw [e]; omega)
theorem ml_aald_open (X : ml_X p s m c meth args D cA cc nL own rt) (hn : 214 ≤ n) {i : Int} (hi : 0 ≤ i) (hN : i < 7) (d : decode cc pc = .ok (.aaload, 1))
    (kk : ml_V p l e R s m args below meth c Q base D cA kc ks n n σ (F0 m (pc + 1) ls (.ref (base + (25 + 3 * i : Int).toNat) :: rest))) : ml_V p l e R s m args below meth c Q base D cA kc ks n n σ (F0 m pc ls (.int (Int32.ofInt i) :: .ref (base + (11 : Int).toNat) :: rest)) := by
  refine ml_aald X (t := 5) (N := 7) (r := 25 + 3 * i) ⟨by decide, by omega, by decide +kernel⟩ rfl rfl hi hN (fun h4 => ⟨?_, by omega⟩) d kk
  have e : ml_rof 11 i = 25 + 3 * i := by
    show ml_rofT (ml_layT 11).1 11 i = _
    rw [show (ml_layT 11).1 = 5 by decide +kernel]
    exact if_pos ⟨hi, hN⟩
  rw [← e]
  exact h4 11 i (by decide) (by omega) (by rw [e]; omega)
theorem ml_aald_tails (X : ml_X p s m c meth args D cA cc nL own rt) (hn : 214 ≤ n) {i : Int} (hi : 0 ≤ i) (hN : i < 11) (d : decode cc pc = .ok (.aaload, 1))
    (kk : ml_V p l e R s m args below meth c Q base D cA kc ks n n σ (F0 m (pc + 1) ls (.ref (base + (81 + 3 * i : Int).toNat) :: rest))) : ml_V p l e R s m args below meth c Q base D cA kc ks n n σ (F0 m pc ls (.int (Int32.ofInt i) :: .ref (base + (77 : Int).toNat) :: rest)) := by
  refine ml_aald X (t := 5) (N := 11) (r := 81 + 3 * i) ⟨by decide, by omega, by decide +kernel⟩ rfl rfl hi hN (fun h4 => ⟨?_, by omega⟩) d kk
  have e : ml_rof 77 i = 81 + 3 * i := by
    show ml_rofT (ml_layT 77).1 77 i = _
    rw [show (ml_layT 77).1 = 5 by decide +kernel]
    exact if_pos ⟨hi, hN⟩
  rw [← e]
  exact h4 77 i (by decide) (by omega) (by rw [e]; omega)
theorem ml_fitb {v : Int} (h : ml_I8 v) : fits .byte (.int (Int32.ofInt v)) = true := by
  have e := ml_nb h
  rw [vp_nar_byte] at e
  rw [← e]
  exact pk_fb _
theorem ml_alen (X : ml_X p s m c meth args D cA cc nL own rt) {k : Int} {t N : Nat} (hk : ml_at n k (t, N)) (ht : t = 1 ∨ t = 4) (d : decode cc pc = .ok (.arraylength, 1)) (kk : ml_V p l e R s m args below meth c Q base D cA kc ks rr n σ (F0 m (pc + 1) ls (.int (Int32.ofInt N) :: rest))) : ml_V p l e R s m args below meth c Q base D cA kc ks rr n σ (F0 m pc ls (.ref (base + k.toNat) :: rest)) := by
  intro H locs h1 h2 h3 h4
  have hg := ml_cells_get (base := base) (cA := cA) (σ := σ) hk
  rcases ht with rfl | rfl
  · exact va_alen X.1 X.2.1 X.2.2.2.2.2.1 h1 (k.toNat - 1) 1 hg rfl rfl d (kk H locs h1 h2 h3 h4)
  · exact va_alen X.1 X.2.1 X.2.2.2.2.2.1 h1 (k.toNat - 1) 4 hg rfl rfl d (kk H locs h1 h2 h3 h4)
theorem ml_mmin (X : ml_X p s m c meth args D cA cc nL own rt) {ix : Nat} (hw : Cond.methodLink own ix Lib.Math.min.name ∈ ml_T ∧ Cond.static Lib.Math.min.name ∈ ml_T ∧ Cond.initialized "java/lang/Math" ∈ ml_T ∧ Cond.code Lib.Math.min.name Lib.Math.min.code 2 (some .int) ∈ ml_T) {x y : Int} (hx : I32 x) (hy : I32 y) (hkc : kc ≤ R.cells ∧ ks ≤ R.slots) (hl : lv_has ls nL lst) (hrest : (rest.map fun v => v.category).sum ≤ 8) (hR : 1 ≤ R.frames ∧ 30 ≤ R.locals) (d : decode cc pc = .ok (.invokestatic ix, 3)) (kk : ml_V p l e R s m args below meth c Q base D cA kc ks rr n σ (F0 m (pc + 3) ls (.int (Int32.ofInt (min x y)) :: rest))) : ml_V p l e R s m args below meth c Q base D cA kc ks rr n σ (F0 m (pc) ls (.int (Int32.ofInt y) :: .int (Int32.ofInt x) :: rest)) := by
  intro H locs h1 h2 h3 h4
  refine va_mmin X.1 X.2.1 (by rw [X.2.2.1]; exact hl.1.symm) X.2.2.2.1 (X.2.2.2.2.1 _ hw.1) (X.2.2.2.2.1 _ hw.2.1) (X.2.2.2.2.1 _ hw.2.2.1) (X.2.2.2.2.1 _ hw.2.2.2) hR.1 (by have := hR.2; omega) hkc.1 hkc.2 d ?_
  have := kk H locs h1 h2 h3 h4
  have e : (if Int32.ofInt y < Int32.ofInt x then Int32.ofInt y else Int32.ofInt x) = Int32.ofInt (min x y) := by
    by_cases h : y < x
    · rw [if_pos ((ml_lt hy hx).mpr h)]; congr 1; omega
    · rw [if_neg (fun q => h ((ml_lt hy hx).mp q))]; congr 1; omega
  rw [e]
  exact this

theorem ml_mminL (X : ml_X p s m c meth args D cA cc nL own rt) {ix : Nat} (hw : Cond.methodLink own ix Lib.MathLoose.min_long.x ∈ ml_T ∧ Cond.static Lib.MathLoose.min_long.x ∈ ml_T ∧ Cond.initialized "java/lang/Math" ∈ ml_T ∧ Cond.code Lib.MathLoose.min_long.x Lib.MathLoose.min_long.code 4 (some .long) ∈ ml_T) {x y : Int} (hx : I64 x) (hy : I64 y) (hkc : kc ≤ R.cells ∧ ks ≤ R.slots) (hl : lv_has ls nL lst) (hrest : (rest.map fun v => v.category).sum ≤ 8) (hR : 1 ≤ R.frames ∧ 30 ≤ R.locals) (d : decode cc pc = .ok (.invokestatic ix, 3)) (kk : ml_V p l e R s m args below meth c Q base D cA kc ks rr n σ (F0 m (pc + 3) ls (.long (Int64.ofInt (min x y)) :: rest))) : ml_V p l e R s m args below meth c Q base D cA kc ks rr n σ (F0 m (pc) ls (.long (Int64.ofInt y) :: .long (Int64.ofInt x) :: rest)) := by
  intro H locs h1 h2 h3 h4
  refine va_mmin_long X.1 X.2.1 (by rw [X.2.2.1]; exact hl.1.symm) X.2.2.2.1 (X.2.2.2.2.1 _ hw.1) (X.2.2.2.2.1 _ hw.2.1) (X.2.2.2.2.1 _ hw.2.2.1) (X.2.2.2.2.1 _ hw.2.2.2) hR.1 (by have := hR.2; omega) hkc.1 hkc.2 d ?_
  have := kk H locs h1 h2 h3 h4
  have e : (if Int64.ofInt y < Int64.ofInt x then Int64.ofInt y else Int64.ofInt x) = Int64.ofInt (min x y) := by
    by_cases h : y < x
    · rw [if_pos ((ml_llt hy hx).mpr h)]; congr 1; omega
    · rw [if_neg (fun q => h ((ml_llt hy hx).mp q))]; congr 1; omega
  rw [e]
  exact this

theorem ml_mmax (X : ml_X p s m c meth args D cA cc nL own rt) {ix : Nat} (hw : Cond.methodLink own ix Lib.Math.max.name ∈ ml_T ∧ Cond.static Lib.Math.max.name ∈ ml_T ∧ Cond.initialized "java/lang/Math" ∈ ml_T ∧ Cond.code Lib.Math.max.name Lib.Math.max.code 2 (some .int) ∈ ml_T) {x y : Int} (hx : I32 x) (hy : I32 y) (hkc : kc ≤ R.cells ∧ ks ≤ R.slots) (hl : lv_has ls nL lst) (hrest : (rest.map fun v => v.category).sum ≤ 8) (hR : 1 ≤ R.frames ∧ 30 ≤ R.locals) (d : decode cc pc = .ok (.invokestatic ix, 3)) (kk : ml_V p l e R s m args below meth c Q base D cA kc ks rr n σ (F0 m (pc + 3) ls (.int (Int32.ofInt (max x y)) :: rest))) : ml_V p l e R s m args below meth c Q base D cA kc ks rr n σ (F0 m (pc) ls (.int (Int32.ofInt y) :: .int (Int32.ofInt x) :: rest)) := by
  intro H locs h1 h2 h3 h4
  refine va_mmax X.1 X.2.1 (by rw [X.2.2.1]; exact hl.1.symm) X.2.2.2.1 (X.2.2.2.2.1 _ hw.1) (X.2.2.2.2.1 _ hw.2.1) (X.2.2.2.2.1 _ hw.2.2.1) (X.2.2.2.2.1 _ hw.2.2.2) hR.1 (by have := hR.2; omega) hkc.1 hkc.2 d ?_
  have := kk H locs h1 h2 h3 h4
  have e : (if Int32.ofInt x < Int32.ofInt y then Int32.ofInt y else Int32.ofInt x) = Int32.ofInt (max x y) := by
    by_cases h : x < y
    · rw [if_pos ((ml_lt hx hy).mpr h)]; congr 1; omega
    · rw [if_neg (fun q => h ((ml_lt hx hy).mp q))]; congr 1; omega
  rw [e]
  exact this

theorem ml_mmaxL (X : ml_X p s m c meth args D cA cc nL own rt) {ix : Nat} (hw : Cond.methodLink own ix Lib.MathLoose.max_long.x ∈ ml_T ∧ Cond.static Lib.MathLoose.max_long.x ∈ ml_T ∧ Cond.initialized "java/lang/Math" ∈ ml_T ∧ Cond.code Lib.MathLoose.max_long.x Lib.MathLoose.max_long.code 4 (some .long) ∈ ml_T) {x y : Int} (hx : I64 x) (hy : I64 y) (hkc : kc ≤ R.cells ∧ ks ≤ R.slots) (hl : lv_has ls nL lst) (hrest : (rest.map fun v => v.category).sum ≤ 8) (hR : 1 ≤ R.frames ∧ 30 ≤ R.locals) (d : decode cc pc = .ok (.invokestatic ix, 3)) (kk : ml_V p l e R s m args below meth c Q base D cA kc ks rr n σ (F0 m (pc + 3) ls (.long (Int64.ofInt (max x y)) :: rest))) : ml_V p l e R s m args below meth c Q base D cA kc ks rr n σ (F0 m (pc) ls (.long (Int64.ofInt y) :: .long (Int64.ofInt x) :: rest)) := by
  intro H locs h1 h2 h3 h4
  refine va_mmax_long X.1 X.2.1 (by rw [X.2.2.1]; exact hl.1.symm) X.2.2.2.1 (X.2.2.2.2.1 _ hw.1) (X.2.2.2.2.1 _ hw.2.1) (X.2.2.2.2.1 _ hw.2.2.1) (X.2.2.2.2.1 _ hw.2.2.2) hR.1 (by have := hR.2; omega) hkc.1 hkc.2 d ?_
  have := kk H locs h1 h2 h3 h4
  have e : (if Int64.ofInt y < Int64.ofInt x then Int64.ofInt x else Int64.ofInt y) = Int64.ofInt (max x y) := by
    by_cases h : y < x
    · rw [if_pos ((ml_llt hy hx).mpr h)]; congr 1; omega
    · rw [if_neg (fun q => h ((ml_llt hy hx).mp q))]; congr 1; omega
  rw [e]
  exact this

theorem ml_cpi (X : ml_X p s m c meth args D cA cc nL own rt) {ix : Nat} (hw : Cond.methodLink own ix arraycopyName ∈ ml_T ∧ Cond.native arraycopyName ∈ ml_T ∧ Cond.static arraycopyName ∈ ml_T ∧ Cond.initialized "java/lang/System" ∈ ml_T) {a b sp dp z : Int} {n0 n1 : Nat} (ha : ml_at n a (1, n0)) (hb : ml_at n b (1, n1)) (r1 : I32 sp) (r2 : I32 dp) (r3 : I32 z) (q1 : 0 ≤ sp) (q2 : 0 ≤ dp) (q3 : 0 ≤ z) (q4 : sp + z ≤ n0) (q5 : dp + z ≤ n1) (hl : lv_has ls nL lst) (hrest : (rest.map fun v => v.category).sum ≤ 8) (hR : 1 ≤ R.frames ∧ 30 ≤ R.locals) (d : decode cc pc = .ok (.invokestatic ix, 3)) (kk : ∀ σ' : ml_St, σ' = ml_cpy σ a sp b dp z → ml_V p l e R s m args below meth c Q base D cA kc ks rr n σ' (F0 m (pc + 3) ls (rest))) : ml_V p l e R s m args below meth c Q base D cA kc ks rr n σ (F0 m (pc) ls (.int (Int32.ofInt z) :: .int (Int32.ofInt dp) :: .ref (base + b.toNat) :: .int (Int32.ofInt sp) :: .ref (base + a.toNat) :: rest)) := by
  intro H locs h1 h2 h3 h4
  have ga := ml_cells_get (base := base) (cA := cA) (σ := σ) ha
  have gb := ml_cells_get (base := base) (cA := cA) (σ := σ) hb
  have na := ml_len ha
  have nb := ml_len hb
  have na : n0 ≤ 100000 := na
  have nb : n1 ≤ 100000 := nb
  have e1 : (Int32.ofInt sp).toNatClampNeg = sp.toNat := ml_cl q1 (by omega)
  have e2 : (Int32.ofInt dp).toNatClampNeg = dp.toNat := ml_cl q2 (by omega)
  have e3 : (Int32.ofInt z).toNatClampNeg = z.toNat := ml_cl q3 (by omega)
  have hrg : ∀ y : Int, 0 ≤ y → I32 (σ a y) := fun y hy => by
    have := h3 a y ha.1 ha.2.1 hy
    unfold ml_et at this
    rw [ha.2.2] at this
    exact this
  refine va_copyi X.1 X.2.1 (by rw [X.2.2.1]; exact hl.1.symm) X.2.2.2.1 (X.2.2.2.2.1 _ hw.1) (X.2.2.2.2.1 _ hw.2.1) (X.2.2.2.2.1 _ hw.2.2.1) (X.2.2.2.2.1 _ hw.2.2.2) X.2.2.2.2.2.1 h1 (ml_cells_D base cA n σ) h2 (a.toNat - 1) (b.toNat - 1) 1 1 ga gb rfl rfl rfl (fun q => by have := (ml_lt r1 ml_i0).mp q; omega) (fun q => by have := (ml_lt r2 ml_i0).mp q; omega) (fun q => by have := (ml_lt r3 ml_i0).mp q; omega) (by rw [e1, e3]; omega) (by rw [e2, e3]; omega) (fun i _ => rfl) hR.1 (by have h9 : nativeFrameWords "java/lang/System" "arraycopy" 5 = 7 := (by decide +kernel); have := hR.2; omega) d (fun H1 locs1 g1 _ g3 => ?_)
  rw [e1, e2, e3] at g1
  have ef : va_cpy (fun j : Nat => Int32.ofInt (σ a j)) (fun j : Nat => Int32.ofInt (σ b j)) sp.toNat dp.toNat z.toNat = (fun j : Nat => Int32.ofInt (ml_cpy σ a sp b dp z b j)) := by
    funext j
    unfold va_cpy ml_cpy
    by_cases hj : dp.toNat ≤ j ∧ j < dp.toNat + z.toNat
    · rw [if_pos hj, if_pos ⟨rfl, by omega, by omega⟩]
      show Int32.ofInt (σ a ((sp.toNat + (j - dp.toNat) : Nat) : Int)) = Int32.ofInt (σ a (sp + ((j : Int) - dp)))
      rw [show ((sp.toNat + (j - dp.toNat) : Nat) : Int) = sp + ((j : Int) - dp) by omega]
    · rw [if_neg hj, if_neg (by omega)]
  rw [ef] at g1
  rw [ml_cells_set (kd := (1, n1)) (σ' := ml_cpy σ a sp b dp z) hb (by rfl) (fun x hx => by funext y; unfold ml_cpy; rw [if_neg (fun q => hx q.1)])] at g1
  refine kk _ rfl H1 locs1 g1 g3 ?_ ?_
  · intro x y p1 p2 p3
    unfold ml_cpy
    by_cases hxy : x = b ∧ dp ≤ y ∧ y < dp + z
    · rw [if_pos hxy, hxy.1]
      unfold ml_et
      rw [hb.2.2]
      exact hrg _ (by omega)
    · rw [if_neg hxy]; exact h3 x y p1 p2 p3
  · intro x y p1 p2 p3
    unfold ml_cpy
    by_cases hxy : x = b ∧ dp ≤ y ∧ y < dp + z
    · rw [hxy.1] at p3; exact absurd (ml_rof_arr hb (by decide)) p3
    · rw [if_neg hxy]; exact h4 x y p1 p2 p3
theorem ml_cpb (X : ml_X p s m c meth args D cA cc nL own rt) {ix : Nat} (hw : Cond.methodLink own ix arraycopyName ∈ ml_T ∧ Cond.native arraycopyName ∈ ml_T ∧ Cond.static arraycopyName ∈ ml_T ∧ Cond.initialized "java/lang/System" ∈ ml_T) {a b sp dp z : Int} {n0 n1 : Nat} (ha : ml_at n a (2, n0)) (hb : ml_at n b (2, n1)) (r1 : I32 sp) (r2 : I32 dp) (r3 : I32 z) (q1 : 0 ≤ sp) (q2 : 0 ≤ dp) (q3 : 0 ≤ z) (q4 : sp + z ≤ n0) (q5 : dp + z ≤ n1) (hl : lv_has ls nL lst) (hrest : (rest.map fun v => v.category).sum ≤ 8) (hR : 1 ≤ R.frames ∧ 30 ≤ R.locals) (d : decode cc pc = .ok (.invokestatic ix, 3)) (kk : ∀ σ' : ml_St, σ' = ml_cpy σ a sp b dp z → ml_V p l e R s m args below meth c Q base D cA kc ks rr n σ' (F0 m (pc + 3) ls (rest))) : ml_V p l e R s m args below meth c Q base D cA kc ks rr n σ (F0 m (pc) ls (.int (Int32.ofInt z) :: .int (Int32.ofInt dp) :: .ref (base + b.toNat) :: .int (Int32.ofInt sp) :: .ref (base + a.toNat) :: rest)) := by
  intro H locs h1 h2 h3 h4
  have ga := ml_cells_get (base := base) (cA := cA) (σ := σ) ha
  have gb := ml_cells_get (base := base) (cA := cA) (σ := σ) hb
  have na := ml_len ha
  have nb := ml_len hb
  have na : n0 ≤ 100000 := na
  have nb : n1 ≤ 100000 := nb
  have e1 : (Int32.ofInt sp).toNatClampNeg = sp.toNat := ml_cl q1 (by omega)
  have e2 : (Int32.ofInt dp).toNatClampNeg = dp.toNat := ml_cl q2 (by omega)
  have e3 : (Int32.ofInt z).toNatClampNeg = z.toNat := ml_cl q3 (by omega)
  have hrg : ∀ y : Int, 0 ≤ y → ml_I8 (σ a y) := fun y hy => by
    have := h3 a y ha.1 ha.2.1 hy
    unfold ml_et at this
    rw [ha.2.2] at this
    exact this
  refine va_copyi X.1 X.2.1 (by rw [X.2.2.1]; exact hl.1.symm) X.2.2.2.1 (X.2.2.2.2.1 _ hw.1) (X.2.2.2.2.1 _ hw.2.1) (X.2.2.2.2.1 _ hw.2.2.1) (X.2.2.2.2.1 _ hw.2.2.2) X.2.2.2.2.2.1 h1 (ml_cells_D base cA n σ) h2 (a.toNat - 1) (b.toNat - 1) 2 2 ga gb rfl rfl rfl (fun q => by have := (ml_lt r1 ml_i0).mp q; omega) (fun q => by have := (ml_lt r2 ml_i0).mp q; omega) (fun q => by have := (ml_lt r3 ml_i0).mp q; omega) (by rw [e1, e3]; omega) (by rw [e2, e3]; omega) (fun i _ => by rw [e1]; exact ml_fitb (hrg _ (by omega))) hR.1 (by have h9 : nativeFrameWords "java/lang/System" "arraycopy" 5 = 7 := (by decide +kernel); have := hR.2; omega) d (fun H1 locs1 g1 _ g3 => ?_)
  rw [e1, e2, e3] at g1
  have ef : va_cpy (fun j : Nat => Int32.ofInt (σ a j)) (fun j : Nat => Int32.ofInt (σ b j)) sp.toNat dp.toNat z.toNat = (fun j : Nat => Int32.ofInt (ml_cpy σ a sp b dp z b j)) := by
    funext j
    unfold va_cpy ml_cpy
    by_cases hj : dp.toNat ≤ j ∧ j < dp.toNat + z.toNat
    · rw [if_pos hj, if_pos ⟨rfl, by omega, by omega⟩]
      show Int32.ofInt (σ a ((sp.toNat + (j - dp.toNat) : Nat) : Int)) = Int32.ofInt (σ a (sp + ((j : Int) - dp)))
      rw [show ((sp.toNat + (j - dp.toNat) : Nat) : Int) = sp + ((j : Int) - dp) by omega]
    · rw [if_neg hj, if_neg (by omega)]
  rw [ef] at g1
  rw [ml_cells_set (kd := (2, n1)) (σ' := ml_cpy σ a sp b dp z) hb (by rfl) (fun x hx => by funext y; unfold ml_cpy; rw [if_neg (fun q => hx q.1)])] at g1
  refine kk _ rfl H1 locs1 g1 g3 ?_ ?_
  · intro x y p1 p2 p3
    unfold ml_cpy
    by_cases hxy : x = b ∧ dp ≤ y ∧ y < dp + z
    · rw [if_pos hxy, hxy.1]
      unfold ml_et
      rw [hb.2.2]
      exact hrg _ (by omega)
    · rw [if_neg hxy]; exact h3 x y p1 p2 p3
  · intro x y p1 p2 p3
    unfold ml_cpy
    by_cases hxy : x = b ∧ dp ≤ y ∧ y < dp + z
    · rw [hxy.1] at p3; exact absurd (ml_rof_arr hb (by decide)) p3
    · rw [if_neg hxy]; exact h4 x y p1 p2 p3
theorem ml_cpl (X : ml_X p s m c meth args D cA cc nL own rt) {ix : Nat} (hw : Cond.methodLink own ix arraycopyName ∈ ml_T ∧ Cond.native arraycopyName ∈ ml_T ∧ Cond.static arraycopyName ∈ ml_T ∧ Cond.initialized "java/lang/System" ∈ ml_T) {a b sp dp z : Int} {n0 n1 : Nat} (ha : ml_at n a (4, n0)) (hb : ml_at n b (4, n1)) (r1 : I32 sp) (r2 : I32 dp) (r3 : I32 z) (q1 : 0 ≤ sp) (q2 : 0 ≤ dp) (q3 : 0 ≤ z) (q4 : sp + z ≤ n0) (q5 : dp + z ≤ n1) (hl : lv_has ls nL lst) (hrest : (rest.map fun v => v.category).sum ≤ 8) (hR : 1 ≤ R.frames ∧ 30 ≤ R.locals) (d : decode cc pc = .ok (.invokestatic ix, 3)) (kk : ∀ σ' : ml_St, σ' = ml_cpy σ a sp b dp z → ml_V p l e R s m args below meth c Q base D cA kc ks rr n σ' (F0 m (pc + 3) ls (rest))) : ml_V p l e R s m args below meth c Q base D cA kc ks rr n σ (F0 m (pc) ls (.int (Int32.ofInt z) :: .int (Int32.ofInt dp) :: .ref (base + b.toNat) :: .int (Int32.ofInt sp) :: .ref (base + a.toNat) :: rest)) := by
  intro H locs h1 h2 h3 h4
  have ga := ml_cells_get (base := base) (cA := cA) (σ := σ) ha
  have gb := ml_cells_get (base := base) (cA := cA) (σ := σ) hb
  have na := ml_len ha
  have nb := ml_len hb
  have na : n0 ≤ 100000 := na
  have nb : n1 ≤ 100000 := nb
  have e1 : (Int32.ofInt sp).toNatClampNeg = sp.toNat := ml_cl q1 (by omega)
  have e2 : (Int32.ofInt dp).toNatClampNeg = dp.toNat := ml_cl q2 (by omega)
  have e3 : (Int32.ofInt z).toNatClampNeg = z.toNat := ml_cl q3 (by omega)
  have hrg : ∀ y : Int, 0 ≤ y → I64 (σ a y) := fun y hy => by
    have := h3 a y ha.1 ha.2.1 hy
    unfold ml_et at this
    rw [ha.2.2] at this
    exact this
  refine va_copyl X.1 X.2.1 (by rw [X.2.2.1]; exact hl.1.symm) X.2.2.2.1 (X.2.2.2.2.1 _ hw.1) (X.2.2.2.2.1 _ hw.2.1) (X.2.2.2.2.1 _ hw.2.2.1) (X.2.2.2.2.1 _ hw.2.2.2) X.2.2.2.2.2.1 h1 (ml_cells_D base cA n σ) h2 (a.toNat - 1) (b.toNat - 1) 4 4 ga gb rfl rfl rfl (fun q => by have := (ml_lt r1 ml_i0).mp q; omega) (fun q => by have := (ml_lt r2 ml_i0).mp q; omega) (fun q => by have := (ml_lt r3 ml_i0).mp q; omega) (by rw [e1, e3]; omega) (by rw [e2, e3]; omega) (fun i _ => rfl) hR.1 (by have h9 : nativeFrameWords "java/lang/System" "arraycopy" 5 = 7 := (by decide +kernel); have := hR.2; omega) d (fun H1 locs1 g1 _ g3 => ?_)
  rw [e1, e2, e3] at g1
  have ef : va_cpy (fun j : Nat => Int64.ofInt (σ a j)) (fun j : Nat => Int64.ofInt (σ b j)) sp.toNat dp.toNat z.toNat = (fun j : Nat => Int64.ofInt (ml_cpy σ a sp b dp z b j)) := by
    funext j
    unfold va_cpy ml_cpy
    by_cases hj : dp.toNat ≤ j ∧ j < dp.toNat + z.toNat
    · rw [if_pos hj, if_pos ⟨rfl, by omega, by omega⟩]
      show Int64.ofInt (σ a ((sp.toNat + (j - dp.toNat) : Nat) : Int)) = Int64.ofInt (σ a (sp + ((j : Int) - dp)))
      rw [show ((sp.toNat + (j - dp.toNat) : Nat) : Int) = sp + ((j : Int) - dp) by omega]
    · rw [if_neg hj, if_neg (by omega)]
  rw [ef] at g1
  rw [ml_cells_set (kd := (4, n1)) (σ' := ml_cpy σ a sp b dp z) hb (by rfl) (fun x hx => by funext y; unfold ml_cpy; rw [if_neg (fun q => hx q.1)])] at g1
  refine kk _ rfl H1 locs1 g1 g3 ?_ ?_
  · intro x y p1 p2 p3
    unfold ml_cpy
    by_cases hxy : x = b ∧ dp ≤ y ∧ y < dp + z
    · rw [if_pos hxy, hxy.1]
      unfold ml_et
      rw [hb.2.2]
      exact hrg _ (by omega)
    · rw [if_neg hxy]; exact h3 x y p1 p2 p3
  · intro x y p1 p2 p3
    unfold ml_cpy
    by_cases hxy : x = b ∧ dp ≤ y ∧ y < dp + z
    · rw [hxy.1] at p3; exact absurd (ml_rof_arr hb (by decide)) p3
    · rw [if_neg hxy]; exact h4 x y p1 p2 p3
end MLM
theorem ml_c1 {n : Nat} (hn : 214 ≤ n) : ml_at n 1 (21, 13) := ⟨by decide, by omega, by decide +kernel⟩
theorem ml_c2 {n : Nat} (hn : 214 ≤ n) : ml_at n 2 (18, 2) := ⟨by decide, by omega, by decide +kernel⟩
theorem ml_c3 {n : Nat} (hn : 214 ≤ n) : ml_at n 3 (1, 200) := ⟨by decide, by omega, by decide +kernel⟩
theorem ml_c4 {n : Nat} (hn : 214 ≤ n) : ml_at n 4 (10, 2) := ⟨by decide, by omega, by decide +kernel⟩
theorem ml_c5 {n : Nat} (hn : 214 ≤ n) : ml_at n 5 (1, 10) := ⟨by decide, by omega, by decide +kernel⟩
theorem ml_c55 {n : Nat} (hn : 214 ≤ n) : ml_at n 55 (17, 14) := ⟨by decide, by omega, by decide +kernel⟩
theorem ml_c115 {n : Nat} (hn : 214 ≤ n) : ml_at n 115 (2, 100) := ⟨by decide, by omega, by decide +kernel⟩
theorem ml_c215 {n : Nat} (hn : 256 ≤ n) : ml_at n 215 (22, 62) := ⟨by decide, by omega, by decide +kernel⟩
theorem ml_c216 {n : Nat} (hn : 256 ≤ n) : ml_at n 216 (2, 200) := ⟨by decide, by omega, by decide +kernel⟩
theorem ml_c217 {n : Nat} (hn : 256 ≤ n) : ml_at n 217 (1, 10) := ⟨by decide, by omega, by decide +kernel⟩
theorem ml_c218 {n : Nat} (hn : 256 ≤ n) : ml_at n 218 (2, 1600) := ⟨by decide, by omega, by decide +kernel⟩
theorem ml_c219 {n : Nat} (hn : 256 ≤ n) : ml_at n 219 (1, 16) := ⟨by decide, by omega, by decide +kernel⟩
theorem ml_c220 {n : Nat} (hn : 256 ≤ n) : ml_at n 220 (1, 16) := ⟨by decide, by omega, by decide +kernel⟩
theorem ml_c221 {n : Nat} (hn : 256 ≤ n) : ml_at n 221 (4, 16) := ⟨by decide, by omega, by decide +kernel⟩
theorem ml_c222 {n : Nat} (hn : 256 ≤ n) : ml_at n 222 (4, 16) := ⟨by decide, by omega, by decide +kernel⟩
theorem ml_c227 {n : Nat} (hn : 256 ≤ n) : ml_at n 227 (1, 640) := ⟨by decide, by omega, by decide +kernel⟩
theorem ml_c228 {n : Nat} (hn : 256 ≤ n) : ml_at n 228 (4, 640) := ⟨by decide, by omega, by decide +kernel⟩
theorem ml_c229 {n : Nat} (hn : 256 ≤ n) : ml_at n 229 (4, 64) := ⟨by decide, by omega, by decide +kernel⟩
theorem ml_c230 {n : Nat} (hn : 256 ≤ n) : ml_at n 230 (4, 64) := ⟨by decide, by omega, by decide +kernel⟩
theorem ml_c231 {n : Nat} (hn : 256 ≤ n) : ml_at n 231 (4, 64) := ⟨by decide, by omega, by decide +kernel⟩
theorem ml_c236 {n : Nat} (hn : 256 ≤ n) : ml_at n 236 (4, 2900) := ⟨by decide, by omega, by decide +kernel⟩
theorem ml_c237 {n : Nat} (hn : 256 ≤ n) : ml_at n 237 (1, 6) := ⟨by decide, by omega, by decide +kernel⟩
theorem ml_c240 {n : Nat} (hn : 256 ≤ n) : ml_at n 240 (1, 5700) := ⟨by decide, by omega, by decide +kernel⟩
theorem ml_c241 {n : Nat} (hn : 256 ≤ n) : ml_at n 241 (1, 5700) := ⟨by decide, by omega, by decide +kernel⟩
theorem ml_c242 {n : Nat} (hn : 256 ≤ n) : ml_at n 242 (1, 6) := ⟨by decide, by omega, by decide +kernel⟩
theorem ml_c243 {n : Nat} (hn : 256 ≤ n) : ml_at n 243 (1, 950) := ⟨by decide, by omega, by decide +kernel⟩
theorem ml_c244 {n : Nat} (hn : 256 ≤ n) : ml_at n 244 (4, 3800) := ⟨by decide, by omega, by decide +kernel⟩
theorem ml_c245 {n : Nat} (hn : 256 ≤ n) : ml_at n 245 (4, 3800) := ⟨by decide, by omega, by decide +kernel⟩
theorem ml_c248 {n : Nat} (hn : 256 ≤ n) : ml_at n 248 (1, 3800) := ⟨by decide, by omega, by decide +kernel⟩
theorem ml_c249 {n : Nat} (hn : 256 ≤ n) : ml_at n 249 (1, 3800) := ⟨by decide, by omega, by decide +kernel⟩
theorem ml_c252 {n : Nat} (hn : 256 ≤ n) : ml_at n 252 (1, 10) := ⟨by decide, by omega, by decide +kernel⟩
theorem ml_c253 {n : Nat} (hn : 256 ≤ n) : ml_at n 253 (1, 10) := ⟨by decide, by omega, by decide +kernel⟩
theorem ml_c254 {n : Nat} (hn : 256 ≤ n) : ml_at n 254 (2, 32000) := ⟨by decide, by omega, by decide +kernel⟩
theorem ml_c255 {n : Nat} (hn : 256 ≤ n) : ml_at n 255 (1, 16) := ⟨by decide, by omega, by decide +kernel⟩
theorem ml_k1 {n : Nat} (hn : 1 ≤ n) : ml_at n 1 (21, 13) := ⟨by decide, by omega, by decide +kernel⟩
theorem ml_k2 {n : Nat} (hn : 2 ≤ n) : ml_at n 2 (18, 2) := ⟨by decide, by omega, by decide +kernel⟩
theorem ml_k4 {n : Nat} (hn : 4 ≤ n) : ml_at n 4 (10, 2) := ⟨by decide, by omega, by decide +kernel⟩
theorem ml_k6 {n : Nat} (hn : 6 ≤ n) : ml_at n 6 (12, 7) := ⟨by decide, by omega, by decide +kernel⟩
theorem ml_k8 {n : Nat} (hn : 8 ≤ n) : ml_at n 8 (14, 7) := ⟨by decide, by omega, by decide +kernel⟩
theorem ml_k9 {n : Nat} (hn : 9 ≤ n) : ml_at n 9 (13, 6) := ⟨by decide, by omega, by decide +kernel⟩
theorem ml_k11 {n : Nat} (hn : 11 ≤ n) : ml_at n 11 (5, 7) := ⟨by decide, by omega, by decide +kernel⟩
theorem ml_k25 {n : Nat} (hn : 25 ≤ n) : ml_at n 25 (19, 8) := ⟨by decide, by omega, by decide +kernel⟩
theorem ml_k28 {n : Nat} (hn : 28 ≤ n) : ml_at n 28 (19, 8) := ⟨by decide, by omega, by decide +kernel⟩
theorem ml_k31 {n : Nat} (hn : 31 ≤ n) : ml_at n 31 (19, 8) := ⟨by decide, by omega, by decide +kernel⟩
theorem ml_k34 {n : Nat} (hn : 34 ≤ n) : ml_at n 34 (19, 8) := ⟨by decide, by omega, by decide +kernel⟩
theorem ml_k37 {n : Nat} (hn : 37 ≤ n) : ml_at n 37 (19, 8) := ⟨by decide, by omega, by decide +kernel⟩
theorem ml_k40 {n : Nat} (hn : 40 ≤ n) : ml_at n 40 (19, 8) := ⟨by decide, by omega, by decide +kernel⟩
theorem ml_k43 {n : Nat} (hn : 43 ≤ n) : ml_at n 43 (19, 8) := ⟨by decide, by omega, by decide +kernel⟩
theorem ml_k46 {n : Nat} (hn : 46 ≤ n) : ml_at n 46 (16, 10) := ⟨by decide, by omega, by decide +kernel⟩
theorem ml_k55 {n : Nat} (hn : 55 ≤ n) : ml_at n 55 (17, 14) := ⟨by decide, by omega, by decide +kernel⟩
theorem ml_k70 {n : Nat} (hn : 70 ≤ n) : ml_at n 70 (11, 7) := ⟨by decide, by omega, by decide +kernel⟩
theorem ml_k76 {n : Nat} (hn : 76 ≤ n) : ml_at n 76 (15, 2) := ⟨by decide, by omega, by decide +kernel⟩
theorem ml_k77 {n : Nat} (hn : 77 ≤ n) : ml_at n 77 (5, 11) := ⟨by decide, by omega, by decide +kernel⟩
theorem ml_k81 {n : Nat} (hn : 81 ≤ n) : ml_at n 81 (19, 8) := ⟨by decide, by omega, by decide +kernel⟩
theorem ml_k84 {n : Nat} (hn : 84 ≤ n) : ml_at n 84 (19, 8) := ⟨by decide, by omega, by decide +kernel⟩
theorem ml_k87 {n : Nat} (hn : 87 ≤ n) : ml_at n 87 (19, 8) := ⟨by decide, by omega, by decide +kernel⟩
theorem ml_k90 {n : Nat} (hn : 90 ≤ n) : ml_at n 90 (19, 8) := ⟨by decide, by omega, by decide +kernel⟩
theorem ml_k93 {n : Nat} (hn : 93 ≤ n) : ml_at n 93 (19, 8) := ⟨by decide, by omega, by decide +kernel⟩
theorem ml_k96 {n : Nat} (hn : 96 ≤ n) : ml_at n 96 (19, 8) := ⟨by decide, by omega, by decide +kernel⟩
theorem ml_k99 {n : Nat} (hn : 99 ≤ n) : ml_at n 99 (19, 8) := ⟨by decide, by omega, by decide +kernel⟩
theorem ml_k102 {n : Nat} (hn : 102 ≤ n) : ml_at n 102 (19, 8) := ⟨by decide, by omega, by decide +kernel⟩
theorem ml_k105 {n : Nat} (hn : 105 ≤ n) : ml_at n 105 (19, 8) := ⟨by decide, by omega, by decide +kernel⟩
theorem ml_k108 {n : Nat} (hn : 108 ≤ n) : ml_at n 108 (19, 8) := ⟨by decide, by omega, by decide +kernel⟩
theorem ml_k111 {n : Nat} (hn : 111 ≤ n) : ml_at n 111 (19, 8) := ⟨by decide, by omega, by decide +kernel⟩
theorem ml_k114 {n : Nat} (hn : 114 ≤ n) : ml_at n 114 (6, 16) := ⟨by decide, by omega, by decide +kernel⟩
theorem ml_k119 {n : Nat} (hn : 119 ≤ n) : ml_at n 119 (20, 8) := ⟨by decide, by omega, by decide +kernel⟩
theorem ml_k125 {n : Nat} (hn : 125 ≤ n) : ml_at n 125 (20, 8) := ⟨by decide, by omega, by decide +kernel⟩
theorem ml_k131 {n : Nat} (hn : 131 ≤ n) : ml_at n 131 (20, 8) := ⟨by decide, by omega, by decide +kernel⟩
theorem ml_k137 {n : Nat} (hn : 137 ≤ n) : ml_at n 137 (20, 8) := ⟨by decide, by omega, by decide +kernel⟩
theorem ml_k143 {n : Nat} (hn : 143 ≤ n) : ml_at n 143 (20, 8) := ⟨by decide, by omega, by decide +kernel⟩
theorem ml_k149 {n : Nat} (hn : 149 ≤ n) : ml_at n 149 (20, 8) := ⟨by decide, by omega, by decide +kernel⟩
theorem ml_k155 {n : Nat} (hn : 155 ≤ n) : ml_at n 155 (20, 8) := ⟨by decide, by omega, by decide +kernel⟩
theorem ml_k161 {n : Nat} (hn : 161 ≤ n) : ml_at n 161 (20, 8) := ⟨by decide, by omega, by decide +kernel⟩
theorem ml_k167 {n : Nat} (hn : 167 ≤ n) : ml_at n 167 (20, 8) := ⟨by decide, by omega, by decide +kernel⟩
theorem ml_k173 {n : Nat} (hn : 173 ≤ n) : ml_at n 173 (20, 8) := ⟨by decide, by omega, by decide +kernel⟩
theorem ml_k179 {n : Nat} (hn : 179 ≤ n) : ml_at n 179 (20, 8) := ⟨by decide, by omega, by decide +kernel⟩
theorem ml_k185 {n : Nat} (hn : 185 ≤ n) : ml_at n 185 (20, 8) := ⟨by decide, by omega, by decide +kernel⟩
theorem ml_k191 {n : Nat} (hn : 191 ≤ n) : ml_at n 191 (20, 8) := ⟨by decide, by omega, by decide +kernel⟩
theorem ml_k197 {n : Nat} (hn : 197 ≤ n) : ml_at n 197 (20, 8) := ⟨by decide, by omega, by decide +kernel⟩
theorem ml_k203 {n : Nat} (hn : 203 ≤ n) : ml_at n 203 (20, 8) := ⟨by decide, by omega, by decide +kernel⟩
theorem ml_k209 {n : Nat} (hn : 209 ≤ n) : ml_at n 209 (20, 8) := ⟨by decide, by omega, by decide +kernel⟩
theorem ml_k215 {n : Nat} (hn : 215 ≤ n) : ml_at n 215 (22, 62) := ⟨by decide, by omega, by decide +kernel⟩
theorem ml_k220 {n : Nat} (hn : 220 ≤ n) : ml_at n 220 (1, 16) := ⟨by decide, by omega, by decide +kernel⟩
theorem df_X0 {base : Nat} : ∀ j, j < 2 → defaultValue (ml_ty 0 j) = ml_fv base (ml_ty 0 j) 0 := fun j hj => match j, hj with
  | 0, _ => rfl
  | 1, _ => rfl
  | j + 2, hj => absurd hj (by omega)
theorem df_X1 {base : Nat} : ∀ j, j < 7 → defaultValue (ml_ty 1 j) = ml_fv base (ml_ty 1 j) 0 := fun j hj => match j, hj with
  | 0, _ => rfl
  | 1, _ => rfl
  | 2, _ => rfl
  | 3, _ => rfl
  | 4, _ => rfl
  | 5, _ => rfl
  | 6, _ => rfl
  | j + 7, hj => absurd hj (by omega)
theorem df_X2 {base : Nat} : ∀ j, j < 7 → defaultValue (ml_ty 2 j) = ml_fv base (ml_ty 2 j) 0 := fun j hj => match j, hj with
  | 0, _ => rfl
  | 1, _ => rfl
  | 2, _ => rfl
  | 3, _ => rfl
  | 4, _ => rfl
  | 5, _ => rfl
  | 6, _ => rfl
  | j + 7, hj => absurd hj (by omega)
theorem df_X3 {base : Nat} : ∀ j, j < 6 → defaultValue (ml_ty 3 j) = ml_fv base (ml_ty 3 j) 0 := fun j hj => match j, hj with
  | 0, _ => rfl
  | 1, _ => rfl
  | 2, _ => rfl
  | 3, _ => rfl
  | 4, _ => rfl
  | 5, _ => rfl
  | j + 6, hj => absurd hj (by omega)
theorem df_X4 {base : Nat} : ∀ j, j < 7 → defaultValue (ml_ty 4 j) = ml_fv base (ml_ty 4 j) 0 := fun j hj => match j, hj with
  | 0, _ => rfl
  | 1, _ => rfl
  | 2, _ => rfl
  | 3, _ => rfl
  | 4, _ => rfl
  | 5, _ => rfl
  | 6, _ => rfl
  | j + 7, hj => absurd hj (by omega)
theorem df_X5 {base : Nat} : ∀ j, j < 2 → defaultValue (ml_ty 5 j) = ml_fv base (ml_ty 5 j) 0 := fun j hj => match j, hj with
  | 0, _ => rfl
  | 1, _ => rfl
  | j + 2, hj => absurd hj (by omega)
theorem df_X6 {base : Nat} : ∀ j, j < 10 → defaultValue (ml_ty 6 j) = ml_fv base (ml_ty 6 j) 0 := fun j hj => match j, hj with
  | 0, _ => rfl
  | 1, _ => rfl
  | 2, _ => rfl
  | 3, _ => rfl
  | 4, _ => rfl
  | 5, _ => rfl
  | 6, _ => rfl
  | 7, _ => rfl
  | 8, _ => rfl
  | 9, _ => rfl
  | j + 10, hj => absurd hj (by omega)
theorem df_X7 {base : Nat} : ∀ j, j < 14 → defaultValue (ml_ty 7 j) = ml_fv base (ml_ty 7 j) 0 := fun j hj => match j, hj with
  | 0, _ => rfl
  | 1, _ => rfl
  | 2, _ => rfl
  | 3, _ => rfl
  | 4, _ => rfl
  | 5, _ => rfl
  | 6, _ => rfl
  | 7, _ => rfl
  | 8, _ => rfl
  | 9, _ => rfl
  | 10, _ => rfl
  | 11, _ => rfl
  | 12, _ => rfl
  | 13, _ => rfl
  | j + 14, hj => absurd hj (by omega)
theorem df_X8 {base : Nat} : ∀ j, j < 2 → defaultValue (ml_ty 8 j) = ml_fv base (ml_ty 8 j) 0 := fun j hj => match j, hj with
  | 0, _ => rfl
  | 1, _ => rfl
  | j + 2, hj => absurd hj (by omega)
theorem df_X9 {base : Nat} : ∀ j, j < 8 → defaultValue (ml_ty 9 j) = ml_fv base (ml_ty 9 j) 0 := fun j hj => match j, hj with
  | 0, _ => rfl
  | 1, _ => rfl
  | 2, _ => rfl
  | 3, _ => rfl
  | 4, _ => rfl
  | 5, _ => rfl
  | 6, _ => rfl
  | 7, _ => rfl
  | j + 8, hj => absurd hj (by omega)
theorem df_X10 {base : Nat} : ∀ j, j < 8 → defaultValue (ml_ty 10 j) = ml_fv base (ml_ty 10 j) 0 := fun j hj => match j, hj with
  | 0, _ => rfl
  | 1, _ => rfl
  | 2, _ => rfl
  | 3, _ => rfl
  | 4, _ => rfl
  | 5, _ => rfl
  | 6, _ => rfl
  | 7, _ => rfl
  | j + 8, hj => absurd hj (by omega)
theorem df_X11 {base : Nat} : ∀ j, j < 13 → defaultValue (ml_ty 11 j) = ml_fv base (ml_ty 11 j) 0 := fun j hj => match j, hj with
  | 0, _ => rfl
  | 1, _ => rfl
  | 2, _ => rfl
  | 3, _ => rfl
  | 4, _ => rfl
  | 5, _ => rfl
  | 6, _ => rfl
  | 7, _ => rfl
  | 8, _ => rfl
  | 9, _ => rfl
  | 10, _ => rfl
  | 11, _ => rfl
  | 12, _ => rfl
  | j + 13, hj => absurd hj (by omega)
theorem df_X12 {base : Nat} : ∀ j, j < 62 → defaultValue (ml_ty 12 j) = ml_fv base (ml_ty 12 j) 0 := fun j hj => match j, hj with
  | 0, _ => rfl
  | 1, _ => rfl
  | 2, _ => rfl
  | 3, _ => rfl
  | 4, _ => rfl
  | 5, _ => rfl
  | 6, _ => rfl
  | 7, _ => rfl
  | 8, _ => rfl
  | 9, _ => rfl
  | 10, _ => rfl
  | 11, _ => rfl
  | 12, _ => rfl
  | 13, _ => rfl
  | 14, _ => rfl
  | 15, _ => rfl
  | 16, _ => rfl
  | 17, _ => rfl
  | 18, _ => rfl
  | 19, _ => rfl
  | 20, _ => rfl
  | 21, _ => rfl
  | 22, _ => rfl
  | 23, _ => rfl
  | 24, _ => rfl
  | 25, _ => rfl
  | 26, _ => rfl
  | 27, _ => rfl
  | 28, _ => rfl
  | 29, _ => rfl
  | 30, _ => rfl
  | 31, _ => rfl
  | 32, _ => rfl
  | 33, _ => rfl
  | 34, _ => rfl
  | 35, _ => rfl
  | 36, _ => rfl
  | 37, _ => rfl
  | 38, _ => rfl
  | 39, _ => rfl
  | 40, _ => rfl
  | 41, _ => rfl
  | 42, _ => rfl
  | 43, _ => rfl
  | 44, _ => rfl
  | 45, _ => rfl
  | 46, _ => rfl
  | 47, _ => rfl
  | 48, _ => rfl
  | 49, _ => rfl
  | 50, _ => rfl
  | 51, _ => rfl
  | 52, _ => rfl
  | 53, _ => rfl
  | 54, _ => rfl
  | 55, _ => rfl
  | 56, _ => rfl
  | 57, _ => rfl
  | 58, _ => rfl
  | 59, _ => rfl
  | 60, _ => rfl
  | 61, _ => rfl
  | j + 62, hj => absurd hj (by omega)
end
section
theorem gf_X0_9 {p : Program} {l : Launch} {e : Env} {R : Room} {s : State} {m : MethodId} {args : Array Value} {below : List Frame} {meth : Method} {c : Code} {Q : State → Prop} {base : Nat} {D : va_G} {cA : Nat → ClassId} {kc ks n : Nat} {σ : ml_St} {cc : ByteArray} {nL pc : Nat} {rt : Option FieldType} {ls : Array Slot} {rest : List Value} (X : ml_X p s m c meth args D cA cc nL RX0 rt) {k : Int} (hk : ml_at n k (10, 2)) (d : decode cc pc = .ok (.getfield 9, 3)) (kk : ml_V p l e R s m args below meth c Q base D cA kc ks n n σ (F0 m (pc + 3) ls (.ref (base + (5 : Int).toNat) :: rest))) : ml_V p l e R s m args below meth c Q base D cA kc ks n n σ (F0 m (pc) ls (.ref (base + k.toNat) :: rest)) := ml_getg X in_X0 rfl (by decide) 0 (by decide) tw_1_49 hk d (fun h4 => ml_refv (h4 k 0 hk.1 hk.2.1 (by rw [ml_rofO hk]; show (5 : Int) ≠ 0; decide)) (ml_rofO hk) (by show (5 : Int) ≠ 0; decide)) (fun _ => kk)
theorem gf_X11_10 {p : Program} {l : Launch} {e : Env} {R : Room} {s : State} {m : MethodId} {args : Array Value} {below : List Frame} {meth : Method} {c : Code} {Q : State → Prop} {base : Nat} {D : va_G} {cA : Nat → ClassId} {kc ks n : Nat} {σ : ml_St} {cc : ByteArray} {nL pc : Nat} {rt : Option FieldType} {ls : Array Slot} {rest : List Value} (X : ml_X p s m c meth args D cA cc nL RX11 rt) {k : Int} (hk : ml_at n k (21, 13)) (d : decode cc pc = .ok (.getfield 10, 3)) (kk : ml_V p l e R s m args below meth c Q base D cA kc ks n n σ (F0 m (pc + 3) ls (.ref (base + (2 : Int).toNat) :: rest))) : ml_V p l e R s m args below meth c Q base D cA kc ks n n σ (F0 m (pc) ls (.ref (base + k.toNat) :: rest)) := ml_getg X in_X11 rfl (by decide) 0 (by decide) tw_2_151 hk d (fun h4 => ml_refv (h4 k 0 hk.1 hk.2.1 (by rw [ml_rofO hk]; show (2 : Int) ≠ 0; decide)) (ml_rofO hk) (by show (2 : Int) ≠ 0; decide)) (fun _ => kk)
theorem gf_X11_19 {p : Program} {l : Launch} {e : Env} {R : Room} {s : State} {m : MethodId} {args : Array Value} {below : List Frame} {meth : Method} {c : Code} {Q : State → Prop} {base : Nat} {D : va_G} {cA : Nat → ClassId} {kc ks n : Nat} {σ : ml_St} {cc : ByteArray} {nL pc : Nat} {rt : Option FieldType} {ls : Array Slot} {rest : List Value} (X : ml_X p s m c meth args D cA cc nL RX11 rt) {k : Int} (hk : ml_at n k (21, 13)) (d : decode cc pc = .ok (.getfield 19, 3)) (kk : ml_V p l e R s m args below meth c Q base D cA kc ks n n σ (F0 m (pc + 3) ls (.ref (base + (4 : Int).toNat) :: rest))) : ml_V p l e R s m args below meth c Q base D cA kc ks n n σ (F0 m (pc) ls (.ref (base + k.toNat) :: rest)) := ml_getg X in_X11 rfl (by decide) 1 (by decide) tw_2_152 hk d (fun h4 => ml_refv (h4 k 1 hk.1 hk.2.1 (by rw [ml_rofO hk]; show (4 : Int) ≠ 0; decide)) (ml_rofO hk) (by show (4 : Int) ≠ 0; decide)) (fun _ => kk)
theorem gf_X11_26 {p : Program} {l : Launch} {e : Env} {R : Room} {s : State} {m : MethodId} {args : Array Value} {below : List Frame} {meth : Method} {c : Code} {Q : State → Prop} {base : Nat} {D : va_G} {cA : Nat → ClassId} {kc ks n : Nat} {σ : ml_St} {cc : ByteArray} {nL pc : Nat} {rt : Option FieldType} {ls : Array Slot} {rest : List Value} (X : ml_X p s m c meth args D cA cc nL RX11 rt) {k : Int} (hk : ml_at n k (21, 13)) (d : decode cc pc = .ok (.getfield 26, 3)) (kk : ml_V p l e R s m args below meth c Q base D cA kc ks n n σ (F0 m (pc + 3) ls (.ref (base + (6 : Int).toNat) :: rest))) : ml_V p l e R s m args below meth c Q base D cA kc ks n n σ (F0 m (pc) ls (.ref (base + k.toNat) :: rest)) := ml_getg X in_X11 rfl (by decide) 2 (by decide) tw_2_153 hk d (fun h4 => ml_refv (h4 k 2 hk.1 hk.2.1 (by rw [ml_rofO hk]; show (6 : Int) ≠ 0; decide)) (ml_rofO hk) (by show (6 : Int) ≠ 0; decide)) (fun _ => kk)
theorem gf_X11_33 {p : Program} {l : Launch} {e : Env} {R : Room} {s : State} {m : MethodId} {args : Array Value} {below : List Frame} {meth : Method} {c : Code} {Q : State → Prop} {base : Nat} {D : va_G} {cA : Nat → ClassId} {kc ks n : Nat} {σ : ml_St} {cc : ByteArray} {nL pc : Nat} {rt : Option FieldType} {ls : Array Slot} {rest : List Value} (X : ml_X p s m c meth args D cA cc nL RX11 rt) {k : Int} (hk : ml_at n k (21, 13)) (d : decode cc pc = .ok (.getfield 33, 3)) (kk : ml_V p l e R s m args below meth c Q base D cA kc ks n n σ (F0 m (pc + 3) ls (.ref (base + (8 : Int).toNat) :: rest))) : ml_V p l e R s m args below meth c Q base D cA kc ks n n σ (F0 m (pc) ls (.ref (base + k.toNat) :: rest)) := ml_getg X in_X11 rfl (by decide) 3 (by decide) tw_2_154 hk d (fun h4 => ml_refv (h4 k 3 hk.1 hk.2.1 (by rw [ml_rofO hk]; show (8 : Int) ≠ 0; decide)) (ml_rofO hk) (by show (8 : Int) ≠ 0; decide)) (fun _ => kk)
theorem gf_X11_40 {p : Program} {l : Launch} {e : Env} {R : Room} {s : State} {m : MethodId} {args : Array Value} {below : List Frame} {meth : Method} {c : Code} {Q : State → Prop} {base : Nat} {D : va_G} {cA : Nat → ClassId} {kc ks n : Nat} {σ : ml_St} {cc : ByteArray} {nL pc : Nat} {rt : Option FieldType} {ls : Array Slot} {rest : List Value} (X : ml_X p s m c meth args D cA cc nL RX11 rt) {k : Int} (hk : ml_at n k (21, 13)) (d : decode cc pc = .ok (.getfield 40, 3)) (kk : ml_V p l e R s m args below meth c Q base D cA kc ks n n σ (F0 m (pc + 3) ls (.ref (base + (46 : Int).toNat) :: rest))) : ml_V p l e R s m args below meth c Q base D cA kc ks n n σ (F0 m (pc) ls (.ref (base + k.toNat) :: rest)) := ml_getg X in_X11 rfl (by decide) 4 (by decide) tw_2_155 hk d (fun h4 => ml_refv (h4 k 4 hk.1 hk.2.1 (by rw [ml_rofO hk]; show (46 : Int) ≠ 0; decide)) (ml_rofO hk) (by show (46 : Int) ≠ 0; decide)) (fun _ => kk)
theorem gf_X11_47 {p : Program} {l : Launch} {e : Env} {R : Room} {s : State} {m : MethodId} {args : Array Value} {below : List Frame} {meth : Method} {c : Code} {Q : State → Prop} {base : Nat} {D : va_G} {cA : Nat → ClassId} {kc ks n : Nat} {σ : ml_St} {cc : ByteArray} {nL pc : Nat} {rt : Option FieldType} {ls : Array Slot} {rest : List Value} (X : ml_X p s m c meth args D cA cc nL RX11 rt) {k : Int} (hk : ml_at n k (21, 13)) (d : decode cc pc = .ok (.getfield 47, 3)) (kk : ml_V p l e R s m args below meth c Q base D cA kc ks n n σ (F0 m (pc + 3) ls (.ref (base + (55 : Int).toNat) :: rest))) : ml_V p l e R s m args below meth c Q base D cA kc ks n n σ (F0 m (pc) ls (.ref (base + k.toNat) :: rest)) := ml_getg X in_X11 rfl (by decide) 5 (by decide) tw_2_156 hk d (fun h4 => ml_refv (h4 k 5 hk.1 hk.2.1 (by rw [ml_rofO hk]; show (55 : Int) ≠ 0; decide)) (ml_rofO hk) (by show (55 : Int) ≠ 0; decide)) (fun _ => kk)
theorem gf_X11_61 {p : Program} {l : Launch} {e : Env} {R : Room} {s : State} {m : MethodId} {args : Array Value} {below : List Frame} {meth : Method} {c : Code} {Q : State → Prop} {base : Nat} {D : va_G} {cA : Nat → ClassId} {kc ks n : Nat} {σ : ml_St} {cc : ByteArray} {nL pc : Nat} {rt : Option FieldType} {ls : Array Slot} {rest : List Value} (X : ml_X p s m c meth args D cA cc nL RX11 rt) {k : Int} (hk : ml_at n k (21, 13)) (d : decode cc pc = .ok (.getfield 61, 3)) (kk : ml_V p l e R s m args below meth c Q base D cA kc ks n n σ (F0 m (pc + 3) ls (.ref (base + (76 : Int).toNat) :: rest))) : ml_V p l e R s m args below meth c Q base D cA kc ks n n σ (F0 m (pc) ls (.ref (base + k.toNat) :: rest)) := ml_getg X in_X11 rfl (by decide) 7 (by decide) tw_2_158 hk d (fun h4 => ml_refv (h4 k 7 hk.1 hk.2.1 (by rw [ml_rofO hk]; show (76 : Int) ≠ 0; decide)) (ml_rofO hk) (by show (76 : Int) ≠ 0; decide)) (fun _ => kk)
theorem gf_X11_67 {p : Program} {l : Launch} {e : Env} {R : Room} {s : State} {m : MethodId} {args : Array Value} {below : List Frame} {meth : Method} {c : Code} {Q : State → Prop} {base : Nat} {D : va_G} {cA : Nat → ClassId} {kc ks n : Nat} {σ : ml_St} {cc : ByteArray} {nL pc : Nat} {rt : Option FieldType} {ls : Array Slot} {rest : List Value} (X : ml_X p s m c meth args D cA cc nL RX11 rt) {k : Int} (hk : ml_at n k (21, 13)) (d : decode cc pc = .ok (.getfield 67, 3)) (kk : ml_V p l e R s m args below meth c Q base D cA kc ks n n σ (F0 m (pc + 3) ls (.ref (base + (114 : Int).toNat) :: rest))) : ml_V p l e R s m args below meth c Q base D cA kc ks n n σ (F0 m (pc) ls (.ref (base + k.toNat) :: rest)) := ml_getg X in_X11 rfl (by decide) 8 (by decide) tw_2_159 hk d (fun h4 => ml_refv (h4 k 8 hk.1 hk.2.1 (by rw [ml_rofO hk]; show (114 : Int) ≠ 0; decide)) (ml_rofO hk) (by show (114 : Int) ≠ 0; decide)) (fun _ => kk)
theorem gf_X11_71 {p : Program} {l : Launch} {e : Env} {R : Room} {s : State} {m : MethodId} {args : Array Value} {below : List Frame} {meth : Method} {c : Code} {Q : State → Prop} {base : Nat} {D : va_G} {cA : Nat → ClassId} {kc ks n : Nat} {σ : ml_St} {cc : ByteArray} {nL pc : Nat} {rt : Option FieldType} {ls : Array Slot} {rest : List Value} (X : ml_X p s m c meth args D cA cc nL RX11 rt) {k : Int} (hk : ml_at n k (21, 13)) (d : decode cc pc = .ok (.getfield 71, 3)) (kk : ml_V p l e R s m args below meth c Q base D cA kc ks n n σ (F0 m (pc + 3) ls (.ref (base + (115 : Int).toNat) :: rest))) : ml_V p l e R s m args below meth c Q base D cA kc ks n n σ (F0 m (pc) ls (.ref (base + k.toNat) :: rest)) := ml_getg X in_X11 rfl (by decide) 9 (by decide) tw_2_160 hk d (fun h4 => ml_refv (h4 k 9 hk.1 hk.2.1 (by rw [ml_rofO hk]; show (115 : Int) ≠ 0; decide)) (ml_rofO hk) (by show (115 : Int) ≠ 0; decide)) (fun _ => kk)
theorem gf_X11_82 {p : Program} {l : Launch} {e : Env} {R : Room} {s : State} {m : MethodId} {args : Array Value} {below : List Frame} {meth : Method} {c : Code} {Q : State → Prop} {base : Nat} {D : va_G} {cA : Nat → ClassId} {kc ks n : Nat} {σ : ml_St} {cc : ByteArray} {nL pc : Nat} {rt : Option FieldType} {ls : Array Slot} {rest : List Value} (X : ml_X p s m c meth args D cA cc nL RX11 rt) {k : Int} (hk : ml_at n k (21, 13)) (d : decode cc pc = .ok (.getfield 82, 3)) (kk : I32 (σ k 11) → ml_V p l e R s m args below meth c Q base D cA kc ks n n σ (F0 m (pc + 3) ls (.int (Int32.ofInt (σ k 11)) :: rest))) : ml_V p l e R s m args below meth c Q base D cA kc ks n n σ (F0 m (pc) ls (.ref (base + k.toNat) :: rest)) := ml_getg X in_X11 rfl (by decide) 11 (by decide) tw_2_162 hk d (fun _ => rfl) kk
theorem gf_X11_86 {p : Program} {l : Launch} {e : Env} {R : Room} {s : State} {m : MethodId} {args : Array Value} {below : List Frame} {meth : Method} {c : Code} {Q : State → Prop} {base : Nat} {D : va_G} {cA : Nat → ClassId} {kc ks n : Nat} {σ : ml_St} {cc : ByteArray} {nL pc : Nat} {rt : Option FieldType} {ls : Array Slot} {rest : List Value} (X : ml_X p s m c meth args D cA cc nL RX11 rt) {k : Int} (hk : ml_at n k (21, 13)) (d : decode cc pc = .ok (.getfield 86, 3)) (kk : I32 (σ k 12) → ml_V p l e R s m args below meth c Q base D cA kc ks n n σ (F0 m (pc + 3) ls (.int (Int32.ofInt (σ k 12)) :: rest))) : ml_V p l e R s m args below meth c Q base D cA kc ks n n σ (F0 m (pc) ls (.ref (base + k.toNat) :: rest)) := ml_getg X in_X11 rfl (by decide) 12 (by decide) tw_2_163 hk d (fun _ => rfl) kk
theorem gf_X11_94 {p : Program} {l : Launch} {e : Env} {R : Room} {s : State} {m : MethodId} {args : Array Value} {below : List Frame} {meth : Method} {c : Code} {Q : State → Prop} {base : Nat} {D : va_G} {cA : Nat → ClassId} {kc ks n : Nat} {σ : ml_St} {cc : ByteArray} {nL pc : Nat} {rt : Option FieldType} {ls : Array Slot} {rest : List Value} (X : ml_X p s m c meth args D cA cc nL RX11 rt) {k : Int} (hk : ml_at n k (18, 2)) (d : decode cc pc = .ok (.getfield 94, 3)) (kk : I32 (σ k 1) → ml_V p l e R s m args below meth c Q base D cA kc ks n n σ (F0 m (pc + 3) ls (.int (Int32.ofInt (σ k 1)) :: rest))) : ml_V p l e R s m args below meth c Q base D cA kc ks n n σ (F0 m (pc) ls (.ref (base + k.toNat) :: rest)) := ml_getg X in_X8 rfl (by decide) 1 (by decide) tw_1_36 hk d (fun _ => rfl) kk
theorem gf_X11_112 {p : Program} {l : Launch} {e : Env} {R : Room} {s : State} {m : MethodId} {args : Array Value} {below : List Frame} {meth : Method} {c : Code} {Q : State → Prop} {base : Nat} {D : va_G} {cA : Nat → ClassId} {kc ks n : Nat} {σ : ml_St} {cc : ByteArray} {nL pc : Nat} {rt : Option FieldType} {ls : Array Slot} {rest : List Value} (X : ml_X p s m c meth args D cA cc nL RX11 rt) {k : Int} (hk : ml_at n k (20, 8)) (d : decode cc pc = .ok (.getfield 112, 3)) (kk : ml_V p l e R s m args below meth c Q base D cA kc ks n n σ (F0 m (pc + 3) ls (.ref (base + ((k + 2) : Int).toNat) :: rest))) : ml_V p l e R s m args below meth c Q base D cA kc ks n n σ (F0 m (pc) ls (.ref (base + k.toNat) :: rest)) := ml_getg X in_X10 rfl (by decide) 4 (by decide) tw_2_122 hk d (fun h4 => ml_refv (h4 k 4 hk.1 hk.2.1 (by rw [ml_rofO hk]; show ((k + 2) : Int) ≠ 0; have := hk.1; omega)) (ml_rofO hk) (by show ((k + 2) : Int) ≠ 0; have := hk.1; omega)) (fun _ => kk)
theorem gf_X11_115 {p : Program} {l : Launch} {e : Env} {R : Room} {s : State} {m : MethodId} {args : Array Value} {below : List Frame} {meth : Method} {c : Code} {Q : State → Prop} {base : Nat} {D : va_G} {cA : Nat → ClassId} {kc ks n : Nat} {σ : ml_St} {cc : ByteArray} {nL pc : Nat} {rt : Option FieldType} {ls : Array Slot} {rest : List Value} (X : ml_X p s m c meth args D cA cc nL RX11 rt) {k : Int} (hk : ml_at n k (19, 8)) (d : decode cc pc = .ok (.getfield 115, 3)) (kk : I64 (σ k 5) → ml_V p l e R s m args below meth c Q base D cA kc ks n n σ (F0 m (pc + 3) ls (.long (Int64.ofInt (σ k 5)) :: rest))) : ml_V p l e R s m args below meth c Q base D cA kc ks n n σ (F0 m (pc) ls (.ref (base + k.toNat) :: rest)) := ml_getg X in_X9 rfl (by decide) 5 (by decide) tw_1_143 hk d (fun _ => rfl) kk
theorem gf_X11_127 {p : Program} {l : Launch} {e : Env} {R : Room} {s : State} {m : MethodId} {args : Array Value} {below : List Frame} {meth : Method} {c : Code} {Q : State → Prop} {base : Nat} {D : va_G} {cA : Nat → ClassId} {kc ks n : Nat} {σ : ml_St} {cc : ByteArray} {nL pc : Nat} {rt : Option FieldType} {ls : Array Slot} {rest : List Value} (X : ml_X p s m c meth args D cA cc nL RX11 rt) {k : Int} (hk : ml_at n k (19, 8)) (d : decode cc pc = .ok (.getfield 127, 3)) (kk : ml_V p l e R s m args below meth c Q base D cA kc ks n n σ (F0 m (pc + 3) ls (.ref (base + ((k + 1) : Int).toNat) :: rest))) : ml_V p l e R s m args below meth c Q base D cA kc ks n n σ (F0 m (pc) ls (.ref (base + k.toNat) :: rest)) := ml_getg X in_X9 rfl (by decide) 0 (by decide) tw_1_130 hk d (fun h4 => ml_refv (h4 k 0 hk.1 hk.2.1 (by rw [ml_rofO hk]; show ((k + 1) : Int) ≠ 0; have := hk.1; omega)) (ml_rofO hk) (by show ((k + 1) : Int) ≠ 0; have := hk.1; omega)) (fun _ => kk)
theorem gf_X11_131 {p : Program} {l : Launch} {e : Env} {R : Room} {s : State} {m : MethodId} {args : Array Value} {below : List Frame} {meth : Method} {c : Code} {Q : State → Prop} {base : Nat} {D : va_G} {cA : Nat → ClassId} {kc ks n : Nat} {σ : ml_St} {cc : ByteArray} {nL pc : Nat} {rt : Option FieldType} {ls : Array Slot} {rest : List Value} (X : ml_X p s m c meth args D cA cc nL RX11 rt) {k : Int} (hk : ml_at n k (19, 8)) (d : decode cc pc = .ok (.getfield 131, 3)) (kk : ml_V p l e R s m args below meth c Q base D cA kc ks n n σ (F0 m (pc + 3) ls (.ref (base + ((k + 2) : Int).toNat) :: rest))) : ml_V p l e R s m args below meth c Q base D cA kc ks n n σ (F0 m (pc) ls (.ref (base + k.toNat) :: rest)) := ml_getg X in_X9 rfl (by decide) 1 (by decide) tw_1_132 hk d (fun h4 => ml_refv (h4 k 1 hk.1 hk.2.1 (by rw [ml_rofO hk]; show ((k + 2) : Int) ≠ 0; have := hk.1; omega)) (ml_rofO hk) (by show ((k + 2) : Int) ≠ 0; have := hk.1; omega)) (fun _ => kk)
theorem gf_X11_135 {p : Program} {l : Launch} {e : Env} {R : Room} {s : State} {m : MethodId} {args : Array Value} {below : List Frame} {meth : Method} {c : Code} {Q : State → Prop} {base : Nat} {D : va_G} {cA : Nat → ClassId} {kc ks n : Nat} {σ : ml_St} {cc : ByteArray} {nL pc : Nat} {rt : Option FieldType} {ls : Array Slot} {rest : List Value} (X : ml_X p s m c meth args D cA cc nL RX11 rt) {k : Int} (hk : ml_at n k (19, 8)) (d : decode cc pc = .ok (.getfield 135, 3)) (kk : I64 (σ k 2) → ml_V p l e R s m args below meth c Q base D cA kc ks n n σ (F0 m (pc + 3) ls (.long (Int64.ofInt (σ k 2)) :: rest))) : ml_V p l e R s m args below meth c Q base D cA kc ks n n σ (F0 m (pc) ls (.ref (base + k.toNat) :: rest)) := ml_getg X in_X9 rfl (by decide) 2 (by decide) tw_1_137 hk d (fun _ => rfl) kk
theorem gf_X11_138 {p : Program} {l : Launch} {e : Env} {R : Room} {s : State} {m : MethodId} {args : Array Value} {below : List Frame} {meth : Method} {c : Code} {Q : State → Prop} {base : Nat} {D : va_G} {cA : Nat → ClassId} {kc ks n : Nat} {σ : ml_St} {cc : ByteArray} {nL pc : Nat} {rt : Option FieldType} {ls : Array Slot} {rest : List Value} (X : ml_X p s m c meth args D cA cc nL RX11 rt) {k : Int} (hk : ml_at n k (19, 8)) (d : decode cc pc = .ok (.getfield 138, 3)) (kk : I64 (σ k 3) → ml_V p l e R s m args below meth c Q base D cA kc ks n n σ (F0 m (pc + 3) ls (.long (Int64.ofInt (σ k 3)) :: rest))) : ml_V p l e R s m args below meth c Q base D cA kc ks n n σ (F0 m (pc) ls (.ref (base + k.toNat) :: rest)) := ml_getg X in_X9 rfl (by decide) 3 (by decide) tw_1_139 hk d (fun _ => rfl) kk
theorem gf_X11_141 {p : Program} {l : Launch} {e : Env} {R : Room} {s : State} {m : MethodId} {args : Array Value} {below : List Frame} {meth : Method} {c : Code} {Q : State → Prop} {base : Nat} {D : va_G} {cA : Nat → ClassId} {kc ks n : Nat} {σ : ml_St} {cc : ByteArray} {nL pc : Nat} {rt : Option FieldType} {ls : Array Slot} {rest : List Value} (X : ml_X p s m c meth args D cA cc nL RX11 rt) {k : Int} (hk : ml_at n k (19, 8)) (d : decode cc pc = .ok (.getfield 141, 3)) (kk : I64 (σ k 4) → ml_V p l e R s m args below meth c Q base D cA kc ks n n σ (F0 m (pc + 3) ls (.long (Int64.ofInt (σ k 4)) :: rest))) : ml_V p l e R s m args below meth c Q base D cA kc ks n n σ (F0 m (pc) ls (.ref (base + k.toNat) :: rest)) := ml_getg X in_X9 rfl (by decide) 4 (by decide) tw_1_141 hk d (fun _ => rfl) kk
theorem gf_X11_205 {p : Program} {l : Launch} {e : Env} {R : Room} {s : State} {m : MethodId} {args : Array Value} {below : List Frame} {meth : Method} {c : Code} {Q : State → Prop} {base : Nat} {D : va_G} {cA : Nat → ClassId} {kc ks n : Nat} {σ : ml_St} {cc : ByteArray} {nL pc : Nat} {rt : Option FieldType} {ls : Array Slot} {rest : List Value} (X : ml_X p s m c meth args D cA cc nL RX11 rt) {k : Int} (hk : ml_at n k (19, 8)) (d : decode cc pc = .ok (.getfield 205, 3)) (kk : ml_B (σ k 6) → ml_V p l e R s m args below meth c Q base D cA kc ks n n σ (F0 m (pc + 3) ls (.int (Int32.ofInt (σ k 6)) :: rest))) : ml_V p l e R s m args below meth c Q base D cA kc ks n n σ (F0 m (pc) ls (.ref (base + k.toNat) :: rest)) := ml_getg X in_X9 rfl (by decide) 6 (by decide) tw_1_145 hk d (fun _ => rfl) kk
theorem gf_X11_209 {p : Program} {l : Launch} {e : Env} {R : Room} {s : State} {m : MethodId} {args : Array Value} {below : List Frame} {meth : Method} {c : Code} {Q : State → Prop} {base : Nat} {D : va_G} {cA : Nat → ClassId} {kc ks n : Nat} {σ : ml_St} {cc : ByteArray} {nL pc : Nat} {rt : Option FieldType} {ls : Array Slot} {rest : List Value} (X : ml_X p s m c meth args D cA cc nL RX11 rt) {k : Int} (hk : ml_at n k (19, 8)) (d : decode cc pc = .ok (.getfield 209, 3)) (kk : ml_B (σ k 7) → ml_V p l e R s m args below meth c Q base D cA kc ks n n σ (F0 m (pc + 3) ls (.int (Int32.ofInt (σ k 7)) :: rest))) : ml_V p l e R s m args below meth c Q base D cA kc ks n n σ (F0 m (pc) ls (.ref (base + k.toNat) :: rest)) := ml_getg X in_X9 rfl (by decide) 7 (by decide) tw_1_147 hk d (fun _ => rfl) kk
theorem gf_X11_212 {p : Program} {l : Launch} {e : Env} {R : Room} {s : State} {m : MethodId} {args : Array Value} {below : List Frame} {meth : Method} {c : Code} {Q : State → Prop} {base : Nat} {D : va_G} {cA : Nat → ClassId} {kc ks n : Nat} {σ : ml_St} {cc : ByteArray} {nL pc : Nat} {rt : Option FieldType} {ls : Array Slot} {rest : List Value} (X : ml_X p s m c meth args D cA cc nL RX11 rt) {k : Int} (hk : ml_at n k (20, 8)) (d : decode cc pc = .ok (.getfield 212, 3)) (kk : ml_B (σ k 2) → ml_V p l e R s m args below meth c Q base D cA kc ks n n σ (F0 m (pc + 3) ls (.int (Int32.ofInt (σ k 2)) :: rest))) : ml_V p l e R s m args below meth c Q base D cA kc ks n n σ (F0 m (pc) ls (.ref (base + k.toNat) :: rest)) := ml_getg X in_X10 rfl (by decide) 2 (by decide) tw_2_115 hk d (fun _ => rfl) kk
theorem gf_X11_228 {p : Program} {l : Launch} {e : Env} {R : Room} {s : State} {m : MethodId} {args : Array Value} {below : List Frame} {meth : Method} {c : Code} {Q : State → Prop} {base : Nat} {D : va_G} {cA : Nat → ClassId} {kc ks n : Nat} {σ : ml_St} {cc : ByteArray} {nL pc : Nat} {rt : Option FieldType} {ls : Array Slot} {rest : List Value} (X : ml_X p s m c meth args D cA cc nL RX11 rt) {k : Int} (hk : ml_at n k (17, 14)) (d : decode cc pc = .ok (.getfield 228, 3)) (kk : I32 (σ k 2) → ml_V p l e R s m args below meth c Q base D cA kc ks n n σ (F0 m (pc + 3) ls (.int (Int32.ofInt (σ k 2)) :: rest))) : ml_V p l e R s m args below meth c Q base D cA kc ks n n σ (F0 m (pc) ls (.ref (base + k.toNat) :: rest)) := ml_getg X in_X7 rfl (by decide) 2 (by decide) tw_2_5 hk d (fun _ => rfl) kk
theorem gf_X11_239 {p : Program} {l : Launch} {e : Env} {R : Room} {s : State} {m : MethodId} {args : Array Value} {below : List Frame} {meth : Method} {c : Code} {Q : State → Prop} {base : Nat} {D : va_G} {cA : Nat → ClassId} {kc ks n : Nat} {σ : ml_St} {cc : ByteArray} {nL pc : Nat} {rt : Option FieldType} {ls : Array Slot} {rest : List Value} (X : ml_X p s m c meth args D cA cc nL RX11 rt) {k : Int} (hk : ml_at n k (20, 8)) (d : decode cc pc = .ok (.getfield 239, 3)) (kk : I32 (σ k 3) → ml_V p l e R s m args below meth c Q base D cA kc ks n n σ (F0 m (pc + 3) ls (.int (Int32.ofInt (σ k 3)) :: rest))) : ml_V p l e R s m args below meth c Q base D cA kc ks n n σ (F0 m (pc) ls (.ref (base + k.toNat) :: rest)) := ml_getg X in_X10 rfl (by decide) 3 (by decide) tw_2_118 hk d (fun _ => rfl) kk
theorem gf_X11_242 {p : Program} {l : Launch} {e : Env} {R : Room} {s : State} {m : MethodId} {args : Array Value} {below : List Frame} {meth : Method} {c : Code} {Q : State → Prop} {base : Nat} {D : va_G} {cA : Nat → ClassId} {kc ks n : Nat} {σ : ml_St} {cc : ByteArray} {nL pc : Nat} {rt : Option FieldType} {ls : Array Slot} {rest : List Value} (X : ml_X p s m c meth args D cA cc nL RX11 rt) {k : Int} (hk : ml_at n k (17, 14)) (d : decode cc pc = .ok (.getfield 242, 3)) (kk : ml_V p l e R s m args below meth c Q base D cA kc ks n n σ (F0 m (pc + 3) ls (.ref (base + (57 : Int).toNat) :: rest))) : ml_V p l e R s m args below meth c Q base D cA kc ks n n σ (F0 m (pc) ls (.ref (base + k.toNat) :: rest)) := ml_getg X in_X7 rfl (by decide) 4 (by decide) tw_2_9 hk d (fun h4 => ml_refv (h4 k 4 hk.1 hk.2.1 (by rw [ml_rofO hk]; show (57 : Int) ≠ 0; decide)) (ml_rofO hk) (by show (57 : Int) ≠ 0; decide)) (fun _ => kk)
theorem gf_X11_253 {p : Program} {l : Launch} {e : Env} {R : Room} {s : State} {m : MethodId} {args : Array Value} {below : List Frame} {meth : Method} {c : Code} {Q : State → Prop} {base : Nat} {D : va_G} {cA : Nat → ClassId} {kc ks n : Nat} {σ : ml_St} {cc : ByteArray} {nL pc : Nat} {rt : Option FieldType} {ls : Array Slot} {rest : List Value} (X : ml_X p s m c meth args D cA cc nL RX11 rt) {k : Int} (hk : ml_at n k (20, 8)) (d : decode cc pc = .ok (.getfield 253, 3)) (kk : I32 (σ k 1) → ml_V p l e R s m args below meth c Q base D cA kc ks n n σ (F0 m (pc + 3) ls (.int (Int32.ofInt (σ k 1)) :: rest))) : ml_V p l e R s m args below meth c Q base D cA kc ks n n σ (F0 m (pc) ls (.ref (base + k.toNat) :: rest)) := ml_getg X in_X10 rfl (by decide) 1 (by decide) tw_2_113 hk d (fun _ => rfl) kk
theorem gf_X11_264 {p : Program} {l : Launch} {e : Env} {R : Room} {s : State} {m : MethodId} {args : Array Value} {below : List Frame} {meth : Method} {c : Code} {Q : State → Prop} {base : Nat} {D : va_G} {cA : Nat → ClassId} {kc ks n : Nat} {σ : ml_St} {cc : ByteArray} {nL pc : Nat} {rt : Option FieldType} {ls : Array Slot} {rest : List Value} (X : ml_X p s m c meth args D cA cc nL RX11 rt) {k : Int} (hk : ml_at n k (20, 8)) (d : decode cc pc = .ok (.getfield 264, 3)) (kk : ml_B (σ k 7) → ml_V p l e R s m args below meth c Q base D cA kc ks n n σ (F0 m (pc + 3) ls (.int (Int32.ofInt (σ k 7)) :: rest))) : ml_V p l e R s m args below meth c Q base D cA kc ks n n σ (F0 m (pc) ls (.ref (base + k.toNat) :: rest)) := ml_getg X in_X10 rfl (by decide) 7 (by decide) tw_2_129 hk d (fun _ => rfl) kk
theorem gf_X11_275 {p : Program} {l : Launch} {e : Env} {R : Room} {s : State} {m : MethodId} {args : Array Value} {below : List Frame} {meth : Method} {c : Code} {Q : State → Prop} {base : Nat} {D : va_G} {cA : Nat → ClassId} {kc ks n : Nat} {σ : ml_St} {cc : ByteArray} {nL pc : Nat} {rt : Option FieldType} {ls : Array Slot} {rest : List Value} (X : ml_X p s m c meth args D cA cc nL RX11 rt) {k : Int} (hk : ml_at n k (18, 2)) (d : decode cc pc = .ok (.getfield 275, 3)) (kk : ml_V p l e R s m args below meth c Q base D cA kc ks n n σ (F0 m (pc + 3) ls (.ref (base + (3 : Int).toNat) :: rest))) : ml_V p l e R s m args below meth c Q base D cA kc ks n n σ (F0 m (pc) ls (.ref (base + k.toNat) :: rest)) := ml_getg X in_X8 rfl (by decide) 0 (by decide) tw_1_34 hk d (fun h4 => ml_refv (h4 k 0 hk.1 hk.2.1 (by rw [ml_rofO hk]; show (3 : Int) ≠ 0; decide)) (ml_rofO hk) (by show (3 : Int) ≠ 0; decide)) (fun _ => kk)
theorem gf_X11_278 {p : Program} {l : Launch} {e : Env} {R : Room} {s : State} {m : MethodId} {args : Array Value} {below : List Frame} {meth : Method} {c : Code} {Q : State → Prop} {base : Nat} {D : va_G} {cA : Nat → ClassId} {kc ks n : Nat} {σ : ml_St} {cc : ByteArray} {nL pc : Nat} {rt : Option FieldType} {ls : Array Slot} {rest : List Value} (X : ml_X p s m c meth args D cA cc nL RX11 rt) {k : Int} (hk : ml_at n k (10, 2)) (d : decode cc pc = .ok (.getfield 278, 3)) (kk : ml_B (σ k 1) → ml_V p l e R s m args below meth c Q base D cA kc ks n n σ (F0 m (pc + 3) ls (.int (Int32.ofInt (σ k 1)) :: rest))) : ml_V p l e R s m args below meth c Q base D cA kc ks n n σ (F0 m (pc) ls (.ref (base + k.toNat) :: rest)) := ml_getg X in_X0 rfl (by decide) 1 (by decide) tw_1_51 hk d (fun _ => rfl) kk
theorem gf_X12_7 {p : Program} {l : Launch} {e : Env} {R : Room} {s : State} {m : MethodId} {args : Array Value} {below : List Frame} {meth : Method} {c : Code} {Q : State → Prop} {base : Nat} {D : va_G} {cA : Nat → ClassId} {kc ks n : Nat} {σ : ml_St} {cc : ByteArray} {nL pc : Nat} {rt : Option FieldType} {ls : Array Slot} {rest : List Value} (X : ml_X p s m c meth args D cA cc nL RX12 rt) {k : Int} (hk : ml_at n k (22, 62)) (d : decode cc pc = .ok (.getfield 7, 3)) (kk : ml_V p l e R s m args below meth c Q base D cA kc ks n n σ (F0 m (pc + 3) ls (.ref (base + (216 : Int).toNat) :: rest))) : ml_V p l e R s m args below meth c Q base D cA kc ks n n σ (F0 m (pc) ls (.ref (base + k.toNat) :: rest)) := ml_getg X in_X12 rfl (by decide) 0 (by decide) tw_4_191 hk d (fun h4 => ml_refv (h4 k 0 hk.1 hk.2.1 (by rw [ml_rofO hk]; show (216 : Int) ≠ 0; decide)) (ml_rofO hk) (by show (216 : Int) ≠ 0; decide)) (fun _ => kk)
theorem gf_X12_13 {p : Program} {l : Launch} {e : Env} {R : Room} {s : State} {m : MethodId} {args : Array Value} {below : List Frame} {meth : Method} {c : Code} {Q : State → Prop} {base : Nat} {D : va_G} {cA : Nat → ClassId} {kc ks n : Nat} {σ : ml_St} {cc : ByteArray} {nL pc : Nat} {rt : Option FieldType} {ls : Array Slot} {rest : List Value} (X : ml_X p s m c meth args D cA cc nL RX12 rt) {k : Int} (hk : ml_at n k (22, 62)) (d : decode cc pc = .ok (.getfield 13, 3)) (kk : I32 (σ k 2) → ml_V p l e R s m args below meth c Q base D cA kc ks n n σ (F0 m (pc + 3) ls (.int (Int32.ofInt (σ k 2)) :: rest))) : ml_V p l e R s m args below meth c Q base D cA kc ks n n σ (F0 m (pc) ls (.ref (base + k.toNat) :: rest)) := ml_getg X in_X12 rfl (by decide) 2 (by decide) tw_4_193 hk d (fun _ => rfl) kk
theorem gf_X12_17 {p : Program} {l : Launch} {e : Env} {R : Room} {s : State} {m : MethodId} {args : Array Value} {below : List Frame} {meth : Method} {c : Code} {Q : State → Prop} {base : Nat} {D : va_G} {cA : Nat → ClassId} {kc ks n : Nat} {σ : ml_St} {cc : ByteArray} {nL pc : Nat} {rt : Option FieldType} {ls : Array Slot} {rest : List Value} (X : ml_X p s m c meth args D cA cc nL RX12 rt) {k : Int} (hk : ml_at n k (22, 62)) (d : decode cc pc = .ok (.getfield 17, 3)) (kk : ml_V p l e R s m args below meth c Q base D cA kc ks n n σ (F0 m (pc + 3) ls (.ref (base + (217 : Int).toNat) :: rest))) : ml_V p l e R s m args below meth c Q base D cA kc ks n n σ (F0 m (pc) ls (.ref (base + k.toNat) :: rest)) := ml_getg X in_X12 rfl (by decide) 5 (by decide) tw_4_196 hk d (fun h4 => ml_refv (h4 k 5 hk.1 hk.2.1 (by rw [ml_rofO hk]; show (217 : Int) ≠ 0; decide)) (ml_rofO hk) (by show (217 : Int) ≠ 0; decide)) (fun _ => kk)
theorem gf_X12_21 {p : Program} {l : Launch} {e : Env} {R : Room} {s : State} {m : MethodId} {args : Array Value} {below : List Frame} {meth : Method} {c : Code} {Q : State → Prop} {base : Nat} {D : va_G} {cA : Nat → ClassId} {kc ks n : Nat} {σ : ml_St} {cc : ByteArray} {nL pc : Nat} {rt : Option FieldType} {ls : Array Slot} {rest : List Value} (X : ml_X p s m c meth args D cA cc nL RX12 rt) {k : Int} (hk : ml_at n k (22, 62)) (d : decode cc pc = .ok (.getfield 21, 3)) (kk : ml_V p l e R s m args below meth c Q base D cA kc ks n n σ (F0 m (pc + 3) ls (.ref (base + (218 : Int).toNat) :: rest))) : ml_V p l e R s m args below meth c Q base D cA kc ks n n σ (F0 m (pc) ls (.ref (base + k.toNat) :: rest)) := ml_getg X in_X12 rfl (by decide) 6 (by decide) tw_4_197 hk d (fun h4 => ml_refv (h4 k 6 hk.1 hk.2.1 (by rw [ml_rofO hk]; show (218 : Int) ≠ 0; decide)) (ml_rofO hk) (by show (218 : Int) ≠ 0; decide)) (fun _ => kk)
theorem gf_X12_24 {p : Program} {l : Launch} {e : Env} {R : Room} {s : State} {m : MethodId} {args : Array Value} {below : List Frame} {meth : Method} {c : Code} {Q : State → Prop} {base : Nat} {D : va_G} {cA : Nat → ClassId} {kc ks n : Nat} {σ : ml_St} {cc : ByteArray} {nL pc : Nat} {rt : Option FieldType} {ls : Array Slot} {rest : List Value} (X : ml_X p s m c meth args D cA cc nL RX12 rt) {k : Int} (hk : ml_at n k (22, 62)) (d : decode cc pc = .ok (.getfield 24, 3)) (kk : ml_V p l e R s m args below meth c Q base D cA kc ks n n σ (F0 m (pc + 3) ls (.ref (base + (219 : Int).toNat) :: rest))) : ml_V p l e R s m args below meth c Q base D cA kc ks n n σ (F0 m (pc) ls (.ref (base + k.toNat) :: rest)) := ml_getg X in_X12 rfl (by decide) 7 (by decide) tw_4_198 hk d (fun h4 => ml_refv (h4 k 7 hk.1 hk.2.1 (by rw [ml_rofO hk]; show (219 : Int) ≠ 0; decide)) (ml_rofO hk) (by show (219 : Int) ≠ 0; decide)) (fun _ => kk)
theorem gf_X12_27 {p : Program} {l : Launch} {e : Env} {R : Room} {s : State} {m : MethodId} {args : Array Value} {below : List Frame} {meth : Method} {c : Code} {Q : State → Prop} {base : Nat} {D : va_G} {cA : Nat → ClassId} {kc ks n : Nat} {σ : ml_St} {cc : ByteArray} {nL pc : Nat} {rt : Option FieldType} {ls : Array Slot} {rest : List Value} (X : ml_X p s m c meth args D cA cc nL RX12 rt) {k : Int} (hk : ml_at n k (22, 62)) (d : decode cc pc = .ok (.getfield 27, 3)) (kk : ml_V p l e R s m args below meth c Q base D cA kc ks n n σ (F0 m (pc + 3) ls (.ref (base + (220 : Int).toNat) :: rest))) : ml_V p l e R s m args below meth c Q base D cA kc ks n n σ (F0 m (pc) ls (.ref (base + k.toNat) :: rest)) := ml_getg X in_X12 rfl (by decide) 8 (by decide) tw_4_199 hk d (fun h4 => ml_refv (h4 k 8 hk.1 hk.2.1 (by rw [ml_rofO hk]; show (220 : Int) ≠ 0; decide)) (ml_rofO hk) (by show (220 : Int) ≠ 0; decide)) (fun _ => kk)
theorem gf_X12_30 {p : Program} {l : Launch} {e : Env} {R : Room} {s : State} {m : MethodId} {args : Array Value} {below : List Frame} {meth : Method} {c : Code} {Q : State → Prop} {base : Nat} {D : va_G} {cA : Nat → ClassId} {kc ks n : Nat} {σ : ml_St} {cc : ByteArray} {nL pc : Nat} {rt : Option FieldType} {ls : Array Slot} {rest : List Value} (X : ml_X p s m c meth args D cA cc nL RX12 rt) {k : Int} (hk : ml_at n k (22, 62)) (d : decode cc pc = .ok (.getfield 30, 3)) (kk : ml_V p l e R s m args below meth c Q base D cA kc ks n n σ (F0 m (pc + 3) ls (.ref (base + (221 : Int).toNat) :: rest))) : ml_V p l e R s m args below meth c Q base D cA kc ks n n σ (F0 m (pc) ls (.ref (base + k.toNat) :: rest)) := ml_getg X in_X12 rfl (by decide) 13 (by decide) tw_4_204 hk d (fun h4 => ml_refv (h4 k 13 hk.1 hk.2.1 (by rw [ml_rofO hk]; show (221 : Int) ≠ 0; decide)) (ml_rofO hk) (by show (221 : Int) ≠ 0; decide)) (fun _ => kk)
theorem gf_X12_34 {p : Program} {l : Launch} {e : Env} {R : Room} {s : State} {m : MethodId} {args : Array Value} {below : List Frame} {meth : Method} {c : Code} {Q : State → Prop} {base : Nat} {D : va_G} {cA : Nat → ClassId} {kc ks n : Nat} {σ : ml_St} {cc : ByteArray} {nL pc : Nat} {rt : Option FieldType} {ls : Array Slot} {rest : List Value} (X : ml_X p s m c meth args D cA cc nL RX12 rt) {k : Int} (hk : ml_at n k (22, 62)) (d : decode cc pc = .ok (.getfield 34, 3)) (kk : ml_V p l e R s m args below meth c Q base D cA kc ks n n σ (F0 m (pc + 3) ls (.ref (base + (222 : Int).toNat) :: rest))) : ml_V p l e R s m args below meth c Q base D cA kc ks n n σ (F0 m (pc) ls (.ref (base + k.toNat) :: rest)) := ml_getg X in_X12 rfl (by decide) 14 (by decide) tw_4_205 hk d (fun h4 => ml_refv (h4 k 14 hk.1 hk.2.1 (by rw [ml_rofO hk]; show (222 : Int) ≠ 0; decide)) (ml_rofO hk) (by show (222 : Int) ≠ 0; decide)) (fun _ => kk)
theorem gf_X12_49 {p : Program} {l : Launch} {e : Env} {R : Room} {s : State} {m : MethodId} {args : Array Value} {below : List Frame} {meth : Method} {c : Code} {Q : State → Prop} {base : Nat} {D : va_G} {cA : Nat → ClassId} {kc ks n : Nat} {σ : ml_St} {cc : ByteArray} {nL pc : Nat} {rt : Option FieldType} {ls : Array Slot} {rest : List Value} (X : ml_X p s m c meth args D cA cc nL RX12 rt) {k : Int} (hk : ml_at n k (22, 62)) (d : decode cc pc = .ok (.getfield 49, 3)) (kk : ml_V p l e R s m args below meth c Q base D cA kc ks n n σ (F0 m (pc + 3) ls (.ref (base + (227 : Int).toNat) :: rest))) : ml_V p l e R s m args below meth c Q base D cA kc ks n n σ (F0 m (pc) ls (.ref (base + k.toNat) :: rest)) := ml_getg X in_X12 rfl (by decide) 21 (by decide) tw_4_212 hk d (fun h4 => ml_refv (h4 k 21 hk.1 hk.2.1 (by rw [ml_rofO hk]; show (227 : Int) ≠ 0; decide)) (ml_rofO hk) (by show (227 : Int) ≠ 0; decide)) (fun _ => kk)
theorem gf_X12_52 {p : Program} {l : Launch} {e : Env} {R : Room} {s : State} {m : MethodId} {args : Array Value} {below : List Frame} {meth : Method} {c : Code} {Q : State → Prop} {base : Nat} {D : va_G} {cA : Nat → ClassId} {kc ks n : Nat} {σ : ml_St} {cc : ByteArray} {nL pc : Nat} {rt : Option FieldType} {ls : Array Slot} {rest : List Value} (X : ml_X p s m c meth args D cA cc nL RX12 rt) {k : Int} (hk : ml_at n k (22, 62)) (d : decode cc pc = .ok (.getfield 52, 3)) (kk : ml_V p l e R s m args below meth c Q base D cA kc ks n n σ (F0 m (pc + 3) ls (.ref (base + (228 : Int).toNat) :: rest))) : ml_V p l e R s m args below meth c Q base D cA kc ks n n σ (F0 m (pc) ls (.ref (base + k.toNat) :: rest)) := ml_getg X in_X12 rfl (by decide) 22 (by decide) tw_4_213 hk d (fun h4 => ml_refv (h4 k 22 hk.1 hk.2.1 (by rw [ml_rofO hk]; show (228 : Int) ≠ 0; decide)) (ml_rofO hk) (by show (228 : Int) ≠ 0; decide)) (fun _ => kk)
theorem gf_X12_55 {p : Program} {l : Launch} {e : Env} {R : Room} {s : State} {m : MethodId} {args : Array Value} {below : List Frame} {meth : Method} {c : Code} {Q : State → Prop} {base : Nat} {D : va_G} {cA : Nat → ClassId} {kc ks n : Nat} {σ : ml_St} {cc : ByteArray} {nL pc : Nat} {rt : Option FieldType} {ls : Array Slot} {rest : List Value} (X : ml_X p s m c meth args D cA cc nL RX12 rt) {k : Int} (hk : ml_at n k (22, 62)) (d : decode cc pc = .ok (.getfield 55, 3)) (kk : ml_V p l e R s m args below meth c Q base D cA kc ks n n σ (F0 m (pc + 3) ls (.ref (base + (229 : Int).toNat) :: rest))) : ml_V p l e R s m args below meth c Q base D cA kc ks n n σ (F0 m (pc) ls (.ref (base + k.toNat) :: rest)) := ml_getg X in_X12 rfl (by decide) 23 (by decide) tw_4_214 hk d (fun h4 => ml_refv (h4 k 23 hk.1 hk.2.1 (by rw [ml_rofO hk]; show (229 : Int) ≠ 0; decide)) (ml_rofO hk) (by show (229 : Int) ≠ 0; decide)) (fun _ => kk)
theorem gf_X12_58 {p : Program} {l : Launch} {e : Env} {R : Room} {s : State} {m : MethodId} {args : Array Value} {below : List Frame} {meth : Method} {c : Code} {Q : State → Prop} {base : Nat} {D : va_G} {cA : Nat → ClassId} {kc ks n : Nat} {σ : ml_St} {cc : ByteArray} {nL pc : Nat} {rt : Option FieldType} {ls : Array Slot} {rest : List Value} (X : ml_X p s m c meth args D cA cc nL RX12 rt) {k : Int} (hk : ml_at n k (22, 62)) (d : decode cc pc = .ok (.getfield 58, 3)) (kk : ml_V p l e R s m args below meth c Q base D cA kc ks n n σ (F0 m (pc + 3) ls (.ref (base + (230 : Int).toNat) :: rest))) : ml_V p l e R s m args below meth c Q base D cA kc ks n n σ (F0 m (pc) ls (.ref (base + k.toNat) :: rest)) := ml_getg X in_X12 rfl (by decide) 24 (by decide) tw_4_215 hk d (fun h4 => ml_refv (h4 k 24 hk.1 hk.2.1 (by rw [ml_rofO hk]; show (230 : Int) ≠ 0; decide)) (ml_rofO hk) (by show (230 : Int) ≠ 0; decide)) (fun _ => kk)
theorem gf_X12_61 {p : Program} {l : Launch} {e : Env} {R : Room} {s : State} {m : MethodId} {args : Array Value} {below : List Frame} {meth : Method} {c : Code} {Q : State → Prop} {base : Nat} {D : va_G} {cA : Nat → ClassId} {kc ks n : Nat} {σ : ml_St} {cc : ByteArray} {nL pc : Nat} {rt : Option FieldType} {ls : Array Slot} {rest : List Value} (X : ml_X p s m c meth args D cA cc nL RX12 rt) {k : Int} (hk : ml_at n k (22, 62)) (d : decode cc pc = .ok (.getfield 61, 3)) (kk : ml_V p l e R s m args below meth c Q base D cA kc ks n n σ (F0 m (pc + 3) ls (.ref (base + (231 : Int).toNat) :: rest))) : ml_V p l e R s m args below meth c Q base D cA kc ks n n σ (F0 m (pc) ls (.ref (base + k.toNat) :: rest)) := ml_getg X in_X12 rfl (by decide) 25 (by decide) tw_4_216 hk d (fun h4 => ml_refv (h4 k 25 hk.1 hk.2.1 (by rw [ml_rofO hk]; show (231 : Int) ≠ 0; decide)) (ml_rofO hk) (by show (231 : Int) ≠ 0; decide)) (fun _ => kk)
theorem gf_X12_77 {p : Program} {l : Launch} {e : Env} {R : Room} {s : State} {m : MethodId} {args : Array Value} {below : List Frame} {meth : Method} {c : Code} {Q : State → Prop} {base : Nat} {D : va_G} {cA : Nat → ClassId} {kc ks n : Nat} {σ : ml_St} {cc : ByteArray} {nL pc : Nat} {rt : Option FieldType} {ls : Array Slot} {rest : List Value} (X : ml_X p s m c meth args D cA cc nL RX12 rt) {k : Int} (hk : ml_at n k (22, 62)) (d : decode cc pc = .ok (.getfield 77, 3)) (kk : ml_V p l e R s m args below meth c Q base D cA kc ks n n σ (F0 m (pc + 3) ls (.ref (base + (236 : Int).toNat) :: rest))) : ml_V p l e R s m args below meth c Q base D cA kc ks n n σ (F0 m (pc) ls (.ref (base + k.toNat) :: rest)) := ml_getg X in_X12 rfl (by decide) 31 (by decide) tw_4_222 hk d (fun h4 => ml_refv (h4 k 31 hk.1 hk.2.1 (by rw [ml_rofO hk]; show (236 : Int) ≠ 0; decide)) (ml_rofO hk) (by show (236 : Int) ≠ 0; decide)) (fun _ => kk)
theorem gf_X12_80 {p : Program} {l : Launch} {e : Env} {R : Room} {s : State} {m : MethodId} {args : Array Value} {below : List Frame} {meth : Method} {c : Code} {Q : State → Prop} {base : Nat} {D : va_G} {cA : Nat → ClassId} {kc ks n : Nat} {σ : ml_St} {cc : ByteArray} {nL pc : Nat} {rt : Option FieldType} {ls : Array Slot} {rest : List Value} (X : ml_X p s m c meth args D cA cc nL RX12 rt) {k : Int} (hk : ml_at n k (22, 62)) (d : decode cc pc = .ok (.getfield 80, 3)) (kk : ml_V p l e R s m args below meth c Q base D cA kc ks n n σ (F0 m (pc + 3) ls (.ref (base + (237 : Int).toNat) :: rest))) : ml_V p l e R s m args below meth c Q base D cA kc ks n n σ (F0 m (pc) ls (.ref (base + k.toNat) :: rest)) := ml_getg X in_X12 rfl (by decide) 40 (by decide) tw_4_231 hk d (fun h4 => ml_refv (h4 k 40 hk.1 hk.2.1 (by rw [ml_rofO hk]; show (237 : Int) ≠ 0; decide)) (ml_rofO hk) (by show (237 : Int) ≠ 0; decide)) (fun _ => kk)
theorem gf_X12_89 {p : Program} {l : Launch} {e : Env} {R : Room} {s : State} {m : MethodId} {args : Array Value} {below : List Frame} {meth : Method} {c : Code} {Q : State → Prop} {base : Nat} {D : va_G} {cA : Nat → ClassId} {kc ks n : Nat} {σ : ml_St} {cc : ByteArray} {nL pc : Nat} {rt : Option FieldType} {ls : Array Slot} {rest : List Value} (X : ml_X p s m c meth args D cA cc nL RX12 rt) {k : Int} (hk : ml_at n k (22, 62)) (d : decode cc pc = .ok (.getfield 89, 3)) (kk : ml_V p l e R s m args below meth c Q base D cA kc ks n n σ (F0 m (pc + 3) ls (.ref (base + (240 : Int).toNat) :: rest))) : ml_V p l e R s m args below meth c Q base D cA kc ks n n σ (F0 m (pc) ls (.ref (base + k.toNat) :: rest)) := ml_getg X in_X12 rfl (by decide) 43 (by decide) tw_4_234 hk d (fun h4 => ml_refv (h4 k 43 hk.1 hk.2.1 (by rw [ml_rofO hk]; show (240 : Int) ≠ 0; decide)) (ml_rofO hk) (by show (240 : Int) ≠ 0; decide)) (fun _ => kk)
theorem gf_X12_92 {p : Program} {l : Launch} {e : Env} {R : Room} {s : State} {m : MethodId} {args : Array Value} {below : List Frame} {meth : Method} {c : Code} {Q : State → Prop} {base : Nat} {D : va_G} {cA : Nat → ClassId} {kc ks n : Nat} {σ : ml_St} {cc : ByteArray} {nL pc : Nat} {rt : Option FieldType} {ls : Array Slot} {rest : List Value} (X : ml_X p s m c meth args D cA cc nL RX12 rt) {k : Int} (hk : ml_at n k (22, 62)) (d : decode cc pc = .ok (.getfield 92, 3)) (kk : ml_V p l e R s m args below meth c Q base D cA kc ks n n σ (F0 m (pc + 3) ls (.ref (base + (241 : Int).toNat) :: rest))) : ml_V p l e R s m args below meth c Q base D cA kc ks n n σ (F0 m (pc) ls (.ref (base + k.toNat) :: rest)) := ml_getg X in_X12 rfl (by decide) 44 (by decide) tw_4_235 hk d (fun h4 => ml_refv (h4 k 44 hk.1 hk.2.1 (by rw [ml_rofO hk]; show (241 : Int) ≠ 0; decide)) (ml_rofO hk) (by show (241 : Int) ≠ 0; decide)) (fun _ => kk)
theorem gf_X12_95 {p : Program} {l : Launch} {e : Env} {R : Room} {s : State} {m : MethodId} {args : Array Value} {below : List Frame} {meth : Method} {c : Code} {Q : State → Prop} {base : Nat} {D : va_G} {cA : Nat → ClassId} {kc ks n : Nat} {σ : ml_St} {cc : ByteArray} {nL pc : Nat} {rt : Option FieldType} {ls : Array Slot} {rest : List Value} (X : ml_X p s m c meth args D cA cc nL RX12 rt) {k : Int} (hk : ml_at n k (22, 62)) (d : decode cc pc = .ok (.getfield 95, 3)) (kk : ml_V p l e R s m args below meth c Q base D cA kc ks n n σ (F0 m (pc + 3) ls (.ref (base + (242 : Int).toNat) :: rest))) : ml_V p l e R s m args below meth c Q base D cA kc ks n n σ (F0 m (pc) ls (.ref (base + k.toNat) :: rest)) := ml_getg X in_X12 rfl (by decide) 45 (by decide) tw_4_236 hk d (fun h4 => ml_refv (h4 k 45 hk.1 hk.2.1 (by rw [ml_rofO hk]; show (242 : Int) ≠ 0; decide)) (ml_rofO hk) (by show (242 : Int) ≠ 0; decide)) (fun _ => kk)
theorem gf_X12_98 {p : Program} {l : Launch} {e : Env} {R : Room} {s : State} {m : MethodId} {args : Array Value} {below : List Frame} {meth : Method} {c : Code} {Q : State → Prop} {base : Nat} {D : va_G} {cA : Nat → ClassId} {kc ks n : Nat} {σ : ml_St} {cc : ByteArray} {nL pc : Nat} {rt : Option FieldType} {ls : Array Slot} {rest : List Value} (X : ml_X p s m c meth args D cA cc nL RX12 rt) {k : Int} (hk : ml_at n k (22, 62)) (d : decode cc pc = .ok (.getfield 98, 3)) (kk : ml_V p l e R s m args below meth c Q base D cA kc ks n n σ (F0 m (pc + 3) ls (.ref (base + (243 : Int).toNat) :: rest))) : ml_V p l e R s m args below meth c Q base D cA kc ks n n σ (F0 m (pc) ls (.ref (base + k.toNat) :: rest)) := ml_getg X in_X12 rfl (by decide) 46 (by decide) tw_4_237 hk d (fun h4 => ml_refv (h4 k 46 hk.1 hk.2.1 (by rw [ml_rofO hk]; show (243 : Int) ≠ 0; decide)) (ml_rofO hk) (by show (243 : Int) ≠ 0; decide)) (fun _ => kk)
theorem gf_X12_101 {p : Program} {l : Launch} {e : Env} {R : Room} {s : State} {m : MethodId} {args : Array Value} {below : List Frame} {meth : Method} {c : Code} {Q : State → Prop} {base : Nat} {D : va_G} {cA : Nat → ClassId} {kc ks n : Nat} {σ : ml_St} {cc : ByteArray} {nL pc : Nat} {rt : Option FieldType} {ls : Array Slot} {rest : List Value} (X : ml_X p s m c meth args D cA cc nL RX12 rt) {k : Int} (hk : ml_at n k (22, 62)) (d : decode cc pc = .ok (.getfield 101, 3)) (kk : ml_V p l e R s m args below meth c Q base D cA kc ks n n σ (F0 m (pc + 3) ls (.ref (base + (244 : Int).toNat) :: rest))) : ml_V p l e R s m args below meth c Q base D cA kc ks n n σ (F0 m (pc) ls (.ref (base + k.toNat) :: rest)) := ml_getg X in_X12 rfl (by decide) 47 (by decide) tw_4_238 hk d (fun h4 => ml_refv (h4 k 47 hk.1 hk.2.1 (by rw [ml_rofO hk]; show (244 : Int) ≠ 0; decide)) (ml_rofO hk) (by show (244 : Int) ≠ 0; decide)) (fun _ => kk)
theorem gf_X12_104 {p : Program} {l : Launch} {e : Env} {R : Room} {s : State} {m : MethodId} {args : Array Value} {below : List Frame} {meth : Method} {c : Code} {Q : State → Prop} {base : Nat} {D : va_G} {cA : Nat → ClassId} {kc ks n : Nat} {σ : ml_St} {cc : ByteArray} {nL pc : Nat} {rt : Option FieldType} {ls : Array Slot} {rest : List Value} (X : ml_X p s m c meth args D cA cc nL RX12 rt) {k : Int} (hk : ml_at n k (22, 62)) (d : decode cc pc = .ok (.getfield 104, 3)) (kk : ml_V p l e R s m args below meth c Q base D cA kc ks n n σ (F0 m (pc + 3) ls (.ref (base + (245 : Int).toNat) :: rest))) : ml_V p l e R s m args below meth c Q base D cA kc ks n n σ (F0 m (pc) ls (.ref (base + k.toNat) :: rest)) := ml_getg X in_X12 rfl (by decide) 48 (by decide) tw_4_239 hk d (fun h4 => ml_refv (h4 k 48 hk.1 hk.2.1 (by rw [ml_rofO hk]; show (245 : Int) ≠ 0; decide)) (ml_rofO hk) (by show (245 : Int) ≠ 0; decide)) (fun _ => kk)
theorem gf_X12_113 {p : Program} {l : Launch} {e : Env} {R : Room} {s : State} {m : MethodId} {args : Array Value} {below : List Frame} {meth : Method} {c : Code} {Q : State → Prop} {base : Nat} {D : va_G} {cA : Nat → ClassId} {kc ks n : Nat} {σ : ml_St} {cc : ByteArray} {nL pc : Nat} {rt : Option FieldType} {ls : Array Slot} {rest : List Value} (X : ml_X p s m c meth args D cA cc nL RX12 rt) {k : Int} (hk : ml_at n k (22, 62)) (d : decode cc pc = .ok (.getfield 113, 3)) (kk : ml_V p l e R s m args below meth c Q base D cA kc ks n n σ (F0 m (pc + 3) ls (.ref (base + (248 : Int).toNat) :: rest))) : ml_V p l e R s m args below meth c Q base D cA kc ks n n σ (F0 m (pc) ls (.ref (base + k.toNat) :: rest)) := ml_getg X in_X12 rfl (by decide) 51 (by decide) tw_5_2 hk d (fun h4 => ml_refv (h4 k 51 hk.1 hk.2.1 (by rw [ml_rofO hk]; show (248 : Int) ≠ 0; decide)) (ml_rofO hk) (by show (248 : Int) ≠ 0; decide)) (fun _ => kk)
theorem gf_X12_116 {p : Program} {l : Launch} {e : Env} {R : Room} {s : State} {m : MethodId} {args : Array Value} {below : List Frame} {meth : Method} {c : Code} {Q : State → Prop} {base : Nat} {D : va_G} {cA : Nat → ClassId} {kc ks n : Nat} {σ : ml_St} {cc : ByteArray} {nL pc : Nat} {rt : Option FieldType} {ls : Array Slot} {rest : List Value} (X : ml_X p s m c meth args D cA cc nL RX12 rt) {k : Int} (hk : ml_at n k (22, 62)) (d : decode cc pc = .ok (.getfield 116, 3)) (kk : ml_V p l e R s m args below meth c Q base D cA kc ks n n σ (F0 m (pc + 3) ls (.ref (base + (249 : Int).toNat) :: rest))) : ml_V p l e R s m args below meth c Q base D cA kc ks n n σ (F0 m (pc) ls (.ref (base + k.toNat) :: rest)) := ml_getg X in_X12 rfl (by decide) 52 (by decide) tw_5_3 hk d (fun h4 => ml_refv (h4 k 52 hk.1 hk.2.1 (by rw [ml_rofO hk]; show (249 : Int) ≠ 0; decide)) (ml_rofO hk) (by show (249 : Int) ≠ 0; decide)) (fun _ => kk)
theorem gf_X12_125 {p : Program} {l : Launch} {e : Env} {R : Room} {s : State} {m : MethodId} {args : Array Value} {below : List Frame} {meth : Method} {c : Code} {Q : State → Prop} {base : Nat} {D : va_G} {cA : Nat → ClassId} {kc ks n : Nat} {σ : ml_St} {cc : ByteArray} {nL pc : Nat} {rt : Option FieldType} {ls : Array Slot} {rest : List Value} (X : ml_X p s m c meth args D cA cc nL RX12 rt) {k : Int} (hk : ml_at n k (22, 62)) (d : decode cc pc = .ok (.getfield 125, 3)) (kk : ml_V p l e R s m args below meth c Q base D cA kc ks n n σ (F0 m (pc + 3) ls (.ref (base + (252 : Int).toNat) :: rest))) : ml_V p l e R s m args below meth c Q base D cA kc ks n n σ (F0 m (pc) ls (.ref (base + k.toNat) :: rest)) := ml_getg X in_X12 rfl (by decide) 56 (by decide) tw_5_7 hk d (fun h4 => ml_refv (h4 k 56 hk.1 hk.2.1 (by rw [ml_rofO hk]; show (252 : Int) ≠ 0; decide)) (ml_rofO hk) (by show (252 : Int) ≠ 0; decide)) (fun _ => kk)
theorem gf_X12_128 {p : Program} {l : Launch} {e : Env} {R : Room} {s : State} {m : MethodId} {args : Array Value} {below : List Frame} {meth : Method} {c : Code} {Q : State → Prop} {base : Nat} {D : va_G} {cA : Nat → ClassId} {kc ks n : Nat} {σ : ml_St} {cc : ByteArray} {nL pc : Nat} {rt : Option FieldType} {ls : Array Slot} {rest : List Value} (X : ml_X p s m c meth args D cA cc nL RX12 rt) {k : Int} (hk : ml_at n k (22, 62)) (d : decode cc pc = .ok (.getfield 128, 3)) (kk : ml_V p l e R s m args below meth c Q base D cA kc ks n n σ (F0 m (pc + 3) ls (.ref (base + (253 : Int).toNat) :: rest))) : ml_V p l e R s m args below meth c Q base D cA kc ks n n σ (F0 m (pc) ls (.ref (base + k.toNat) :: rest)) := ml_getg X in_X12 rfl (by decide) 57 (by decide) tw_5_8 hk d (fun h4 => ml_refv (h4 k 57 hk.1 hk.2.1 (by rw [ml_rofO hk]; show (253 : Int) ≠ 0; decide)) (ml_rofO hk) (by show (253 : Int) ≠ 0; decide)) (fun _ => kk)
theorem gf_X12_131 {p : Program} {l : Launch} {e : Env} {R : Room} {s : State} {m : MethodId} {args : Array Value} {below : List Frame} {meth : Method} {c : Code} {Q : State → Prop} {base : Nat} {D : va_G} {cA : Nat → ClassId} {kc ks n : Nat} {σ : ml_St} {cc : ByteArray} {nL pc : Nat} {rt : Option FieldType} {ls : Array Slot} {rest : List Value} (X : ml_X p s m c meth args D cA cc nL RX12 rt) {k : Int} (hk : ml_at n k (22, 62)) (d : decode cc pc = .ok (.getfield 131, 3)) (kk : ml_V p l e R s m args below meth c Q base D cA kc ks n n σ (F0 m (pc + 3) ls (.ref (base + (254 : Int).toNat) :: rest))) : ml_V p l e R s m args below meth c Q base D cA kc ks n n σ (F0 m (pc) ls (.ref (base + k.toNat) :: rest)) := ml_getg X in_X12 rfl (by decide) 58 (by decide) tw_5_9 hk d (fun h4 => ml_refv (h4 k 58 hk.1 hk.2.1 (by rw [ml_rofO hk]; show (254 : Int) ≠ 0; decide)) (ml_rofO hk) (by show (254 : Int) ≠ 0; decide)) (fun _ => kk)
theorem gf_X12_134 {p : Program} {l : Launch} {e : Env} {R : Room} {s : State} {m : MethodId} {args : Array Value} {below : List Frame} {meth : Method} {c : Code} {Q : State → Prop} {base : Nat} {D : va_G} {cA : Nat → ClassId} {kc ks n : Nat} {σ : ml_St} {cc : ByteArray} {nL pc : Nat} {rt : Option FieldType} {ls : Array Slot} {rest : List Value} (X : ml_X p s m c meth args D cA cc nL RX12 rt) {k : Int} (hk : ml_at n k (22, 62)) (d : decode cc pc = .ok (.getfield 134, 3)) (kk : ml_V p l e R s m args below meth c Q base D cA kc ks n n σ (F0 m (pc + 3) ls (.ref (base + (255 : Int).toNat) :: rest))) : ml_V p l e R s m args below meth c Q base D cA kc ks n n σ (F0 m (pc) ls (.ref (base + k.toNat) :: rest)) := ml_getg X in_X12 rfl (by decide) 59 (by decide) tw_5_10 hk d (fun h4 => ml_refv (h4 k 59 hk.1 hk.2.1 (by rw [ml_rofO hk]; show (255 : Int) ≠ 0; decide)) (ml_rofO hk) (by show (255 : Int) ≠ 0; decide)) (fun _ => kk)
theorem gf_X12_140 {p : Program} {l : Launch} {e : Env} {R : Room} {s : State} {m : MethodId} {args : Array Value} {below : List Frame} {meth : Method} {c : Code} {Q : State → Prop} {base : Nat} {D : va_G} {cA : Nat → ClassId} {kc ks n : Nat} {σ : ml_St} {cc : ByteArray} {nL pc : Nat} {rt : Option FieldType} {ls : Array Slot} {rest : List Value} (X : ml_X p s m c meth args D cA cc nL RX12 rt) {k : Int} (hk : ml_at n k (22, 62)) (d : decode cc pc = .ok (.getfield 140, 3)) (kk : I32 (σ k 3) → ml_V p l e R s m args below meth c Q base D cA kc ks n n σ (F0 m (pc + 3) ls (.int (Int32.ofInt (σ k 3)) :: rest))) : ml_V p l e R s m args below meth c Q base D cA kc ks n n σ (F0 m (pc) ls (.ref (base + k.toNat) :: rest)) := ml_getg X in_X12 rfl (by decide) 3 (by decide) tw_4_194 hk d (fun _ => rfl) kk
theorem gf_X12_151 {p : Program} {l : Launch} {e : Env} {R : Room} {s : State} {m : MethodId} {args : Array Value} {below : List Frame} {meth : Method} {c : Code} {Q : State → Prop} {base : Nat} {D : va_G} {cA : Nat → ClassId} {kc ks n : Nat} {σ : ml_St} {cc : ByteArray} {nL pc : Nat} {rt : Option FieldType} {ls : Array Slot} {rest : List Value} (X : ml_X p s m c meth args D cA cc nL RX12 rt) {k : Int} (hk : ml_at n k (22, 62)) (d : decode cc pc = .ok (.getfield 151, 3)) (kk : ml_B (σ k 4) → ml_V p l e R s m args below meth c Q base D cA kc ks n n σ (F0 m (pc + 3) ls (.int (Int32.ofInt (σ k 4)) :: rest))) : ml_V p l e R s m args below meth c Q base D cA kc ks n n σ (F0 m (pc) ls (.ref (base + k.toNat) :: rest)) := ml_getg X in_X12 rfl (by decide) 4 (by decide) tw_4_195 hk d (fun _ => rfl) kk
theorem gf_X12_155 {p : Program} {l : Launch} {e : Env} {R : Room} {s : State} {m : MethodId} {args : Array Value} {below : List Frame} {meth : Method} {c : Code} {Q : State → Prop} {base : Nat} {D : va_G} {cA : Nat → ClassId} {kc ks n : Nat} {σ : ml_St} {cc : ByteArray} {nL pc : Nat} {rt : Option FieldType} {ls : Array Slot} {rest : List Value} (X : ml_X p s m c meth args D cA cc nL RX12 rt) {k : Int} (hk : ml_at n k (22, 62)) (d : decode cc pc = .ok (.getfield 155, 3)) (kk : I32 (σ k 1) → ml_V p l e R s m args below meth c Q base D cA kc ks n n σ (F0 m (pc + 3) ls (.int (Int32.ofInt (σ k 1)) :: rest))) : ml_V p l e R s m args below meth c Q base D cA kc ks n n σ (F0 m (pc) ls (.ref (base + k.toNat) :: rest)) := ml_getg X in_X12 rfl (by decide) 1 (by decide) tw_4_192 hk d (fun _ => rfl) kk
theorem gf_X12_307 {p : Program} {l : Launch} {e : Env} {R : Room} {s : State} {m : MethodId} {args : Array Value} {below : List Frame} {meth : Method} {c : Code} {Q : State → Prop} {base : Nat} {D : va_G} {cA : Nat → ClassId} {kc ks n : Nat} {σ : ml_St} {cc : ByteArray} {nL pc : Nat} {rt : Option FieldType} {ls : Array Slot} {rest : List Value} (X : ml_X p s m c meth args D cA cc nL RX12 rt) {k : Int} (hk : ml_at n k (22, 62)) (d : decode cc pc = .ok (.getfield 307, 3)) (kk : I32 (σ k 32) → ml_V p l e R s m args below meth c Q base D cA kc ks n n σ (F0 m (pc + 3) ls (.int (Int32.ofInt (σ k 32)) :: rest))) : ml_V p l e R s m args below meth c Q base D cA kc ks n n σ (F0 m (pc) ls (.ref (base + k.toNat) :: rest)) := ml_getg X in_X12 rfl (by decide) 32 (by decide) tw_4_223 hk d (fun _ => rfl) kk
theorem gf_X12_364 {p : Program} {l : Launch} {e : Env} {R : Room} {s : State} {m : MethodId} {args : Array Value} {below : List Frame} {meth : Method} {c : Code} {Q : State → Prop} {base : Nat} {D : va_G} {cA : Nat → ClassId} {kc ks n : Nat} {σ : ml_St} {cc : ByteArray} {nL pc : Nat} {rt : Option FieldType} {ls : Array Slot} {rest : List Value} (X : ml_X p s m c meth args D cA cc nL RX12 rt) {k : Int} (hk : ml_at n k (22, 62)) (d : decode cc pc = .ok (.getfield 364, 3)) (kk : I32 (σ k 38) → ml_V p l e R s m args below meth c Q base D cA kc ks n n σ (F0 m (pc + 3) ls (.int (Int32.ofInt (σ k 38)) :: rest))) : ml_V p l e R s m args below meth c Q base D cA kc ks n n σ (F0 m (pc) ls (.ref (base + k.toNat) :: rest)) := ml_getg X in_X12 rfl (by decide) 38 (by decide) tw_4_229 hk d (fun _ => rfl) kk
theorem gf_X12_367 {p : Program} {l : Launch} {e : Env} {R : Room} {s : State} {m : MethodId} {args : Array Value} {below : List Frame} {meth : Method} {c : Code} {Q : State → Prop} {base : Nat} {D : va_G} {cA : Nat → ClassId} {kc ks n : Nat} {σ : ml_St} {cc : ByteArray} {nL pc : Nat} {rt : Option FieldType} {ls : Array Slot} {rest : List Value} (X : ml_X p s m c meth args D cA cc nL RX12 rt) {k : Int} (hk : ml_at n k (22, 62)) (d : decode cc pc = .ok (.getfield 367, 3)) (kk : I32 (σ k 39) → ml_V p l e R s m args below meth c Q base D cA kc ks n n σ (F0 m (pc + 3) ls (.int (Int32.ofInt (σ k 39)) :: rest))) : ml_V p l e R s m args below meth c Q base D cA kc ks n n σ (F0 m (pc) ls (.ref (base + k.toNat) :: rest)) := ml_getg X in_X12 rfl (by decide) 39 (by decide) tw_4_230 hk d (fun _ => rfl) kk
theorem gf_X8_9 {p : Program} {l : Launch} {e : Env} {R : Room} {s : State} {m : MethodId} {args : Array Value} {below : List Frame} {meth : Method} {c : Code} {Q : State → Prop} {base : Nat} {D : va_G} {cA : Nat → ClassId} {kc ks n : Nat} {σ : ml_St} {cc : ByteArray} {nL pc : Nat} {rt : Option FieldType} {ls : Array Slot} {rest : List Value} (X : ml_X p s m c meth args D cA cc nL RX8 rt) {k : Int} (hk : ml_at n k (18, 2)) (d : decode cc pc = .ok (.getfield 9, 3)) (kk : ml_V p l e R s m args below meth c Q base D cA kc ks n n σ (F0 m (pc + 3) ls (.ref (base + (3 : Int).toNat) :: rest))) : ml_V p l e R s m args below meth c Q base D cA kc ks n n σ (F0 m (pc) ls (.ref (base + k.toNat) :: rest)) := ml_getg X in_X8 rfl (by decide) 0 (by decide) tw_1_32 hk d (fun h4 => ml_refv (h4 k 0 hk.1 hk.2.1 (by rw [ml_rofO hk]; show (3 : Int) ≠ 0; decide)) (ml_rofO hk) (by show (3 : Int) ≠ 0; decide)) (fun _ => kk)
theorem gf_X8_15 {p : Program} {l : Launch} {e : Env} {R : Room} {s : State} {m : MethodId} {args : Array Value} {below : List Frame} {meth : Method} {c : Code} {Q : State → Prop} {base : Nat} {D : va_G} {cA : Nat → ClassId} {kc ks n : Nat} {σ : ml_St} {cc : ByteArray} {nL pc : Nat} {rt : Option FieldType} {ls : Array Slot} {rest : List Value} (X : ml_X p s m c meth args D cA cc nL RX8 rt) {k : Int} (hk : ml_at n k (18, 2)) (d : decode cc pc = .ok (.getfield 15, 3)) (kk : I32 (σ k 1) → ml_V p l e R s m args below meth c Q base D cA kc ks n n σ (F0 m (pc + 3) ls (.int (Int32.ofInt (σ k 1)) :: rest))) : ml_V p l e R s m args below meth c Q base D cA kc ks n n σ (F0 m (pc) ls (.ref (base + k.toNat) :: rest)) := ml_getg X in_X8 rfl (by decide) 1 (by decide) tw_1_35 hk d (fun _ => rfl) kk
theorem pf_X0_15 {p : Program} {l : Launch} {e : Env} {R : Room} {s : State} {m : MethodId} {args : Array Value} {below : List Frame} {meth : Method} {c : Code} {Q : State → Prop} {base : Nat} {D : va_G} {cA : Nat → ClassId} {kc ks n : Nat} {σ : ml_St} {cc : ByteArray} {nL pc : Nat} {rt : Option FieldType} {ls : Array Slot} {rest : List Value} (X : ml_X p s m c meth args D cA cc nL RX0 rt) {k x : Int} (hk : ml_at n k (10, 2)) (hx : ml_B x) (d : decode cc pc = .ok (.putfield 15, 3)) (kk : ∀ σ' : ml_St, σ' = ml_up σ k 1 x → ml_V p l e R s m args below meth c Q base D cA kc ks n n σ' (F0 m (pc + 3) ls (rest))) : ml_V p l e R s m args below meth c Q base D cA kc ks n n σ (F0 m (pc) ls (.int (Int32.ofInt x) :: .ref (base + k.toNat) :: rest)) := ml_putg X in_X0 rfl (by decide) tk_X0 nmX0 1 (by decide) rfl tw_1_50 hk d rfl hx (ml_narz hx) (ml_fitz hx) (Or.inr (ml_rofO hk)) kk
theorem pf_X11_82 {p : Program} {l : Launch} {e : Env} {R : Room} {s : State} {m : MethodId} {args : Array Value} {below : List Frame} {meth : Method} {c : Code} {Q : State → Prop} {base : Nat} {D : va_G} {cA : Nat → ClassId} {kc ks n : Nat} {σ : ml_St} {cc : ByteArray} {nL pc : Nat} {rt : Option FieldType} {ls : Array Slot} {rest : List Value} (X : ml_X p s m c meth args D cA cc nL RX11 rt) {k x : Int} (hk : ml_at n k (21, 13)) (hx : I32 x) (d : decode cc pc = .ok (.putfield 82, 3)) (kk : ∀ σ' : ml_St, σ' = ml_up σ k 11 x → ml_V p l e R s m args below meth c Q base D cA kc ks n n σ' (F0 m (pc + 3) ls (rest))) : ml_V p l e R s m args below meth c Q base D cA kc ks n n σ (F0 m (pc) ls (.int (Int32.ofInt x) :: .ref (base + k.toNat) :: rest)) := ml_putg X in_X11 rfl (by decide) tk_X11 nmX11 11 (by decide) rfl tw_2_162 hk d rfl hx rfl rfl (Or.inr (ml_rofO hk)) kk
theorem pf_X11_94 {p : Program} {l : Launch} {e : Env} {R : Room} {s : State} {m : MethodId} {args : Array Value} {below : List Frame} {meth : Method} {c : Code} {Q : State → Prop} {base : Nat} {D : va_G} {cA : Nat → ClassId} {kc ks n : Nat} {σ : ml_St} {cc : ByteArray} {nL pc : Nat} {rt : Option FieldType} {ls : Array Slot} {rest : List Value} (X : ml_X p s m c meth args D cA cc nL RX11 rt) {k x : Int} (hk : ml_at n k (18, 2)) (hx : I32 x) (d : decode cc pc = .ok (.putfield 94, 3)) (kk : ∀ σ' : ml_St, σ' = ml_up σ k 1 x → ml_V p l e R s m args below meth c Q base D cA kc ks n n σ' (F0 m (pc + 3) ls (rest))) : ml_V p l e R s m args below meth c Q base D cA kc ks n n σ (F0 m (pc) ls (.int (Int32.ofInt x) :: .ref (base + k.toNat) :: rest)) := ml_putg X in_X8 rfl (by decide) tk_X8 nmX8 1 (by decide) rfl tw_1_36 hk d rfl hx rfl rfl (Or.inr (ml_rofO hk)) kk
theorem pf_X11_239 {p : Program} {l : Launch} {e : Env} {R : Room} {s : State} {m : MethodId} {args : Array Value} {below : List Frame} {meth : Method} {c : Code} {Q : State → Prop} {base : Nat} {D : va_G} {cA : Nat → ClassId} {kc ks n : Nat} {σ : ml_St} {cc : ByteArray} {nL pc : Nat} {rt : Option FieldType} {ls : Array Slot} {rest : List Value} (X : ml_X p s m c meth args D cA cc nL RX11 rt) {k x : Int} (hk : ml_at n k (20, 8)) (hx : I32 x) (d : decode cc pc = .ok (.putfield 239, 3)) (kk : ∀ σ' : ml_St, σ' = ml_up σ k 3 x → ml_V p l e R s m args below meth c Q base D cA kc ks n n σ' (F0 m (pc + 3) ls (rest))) : ml_V p l e R s m args below meth c Q base D cA kc ks n n σ (F0 m (pc) ls (.int (Int32.ofInt x) :: .ref (base + k.toNat) :: rest)) := ml_putg X in_X10 rfl (by decide) tk_X10 nmX10 3 (by decide) rfl tw_2_118 hk d rfl hx rfl rfl (Or.inr (ml_rofO hk)) kk
theorem pf_X12_13 {p : Program} {l : Launch} {e : Env} {R : Room} {s : State} {m : MethodId} {args : Array Value} {below : List Frame} {meth : Method} {c : Code} {Q : State → Prop} {base : Nat} {D : va_G} {cA : Nat → ClassId} {kc ks n : Nat} {σ : ml_St} {cc : ByteArray} {nL pc : Nat} {rt : Option FieldType} {ls : Array Slot} {rest : List Value} (X : ml_X p s m c meth args D cA cc nL RX12 rt) {k x : Int} (hk : ml_at n k (22, 62)) (hx : I32 x) (d : decode cc pc = .ok (.putfield 13, 3)) (kk : ∀ σ' : ml_St, σ' = ml_up σ k 2 x → ml_V p l e R s m args below meth c Q base D cA kc ks n n σ' (F0 m (pc + 3) ls (rest))) : ml_V p l e R s m args below meth c Q base D cA kc ks n n σ (F0 m (pc) ls (.int (Int32.ofInt x) :: .ref (base + k.toNat) :: rest)) := ml_putg X in_X12 rfl (by decide) tk_X12 nmX12 2 (by decide) rfl tw_4_193 hk d rfl hx rfl rfl (Or.inr (ml_rofO hk)) kk
theorem pf_X12_151 {p : Program} {l : Launch} {e : Env} {R : Room} {s : State} {m : MethodId} {args : Array Value} {below : List Frame} {meth : Method} {c : Code} {Q : State → Prop} {base : Nat} {D : va_G} {cA : Nat → ClassId} {kc ks n : Nat} {σ : ml_St} {cc : ByteArray} {nL pc : Nat} {rt : Option FieldType} {ls : Array Slot} {rest : List Value} (X : ml_X p s m c meth args D cA cc nL RX12 rt) {k x : Int} (hk : ml_at n k (22, 62)) (hx : ml_B x) (d : decode cc pc = .ok (.putfield 151, 3)) (kk : ∀ σ' : ml_St, σ' = ml_up σ k 4 x → ml_V p l e R s m args below meth c Q base D cA kc ks n n σ' (F0 m (pc + 3) ls (rest))) : ml_V p l e R s m args below meth c Q base D cA kc ks n n σ (F0 m (pc) ls (.int (Int32.ofInt x) :: .ref (base + k.toNat) :: rest)) := ml_putg X in_X12 rfl (by decide) tk_X12 nmX12 4 (by decide) rfl tw_4_195 hk d rfl hx (ml_narz hx) (ml_fitz hx) (Or.inr (ml_rofO hk)) kk
theorem pf_X12_155 {p : Program} {l : Launch} {e : Env} {R : Room} {s : State} {m : MethodId} {args : Array Value} {below : List Frame} {meth : Method} {c : Code} {Q : State → Prop} {base : Nat} {D : va_G} {cA : Nat → ClassId} {kc ks n : Nat} {σ : ml_St} {cc : ByteArray} {nL pc : Nat} {rt : Option FieldType} {ls : Array Slot} {rest : List Value} (X : ml_X p s m c meth args D cA cc nL RX12 rt) {k x : Int} (hk : ml_at n k (22, 62)) (hx : I32 x) (d : decode cc pc = .ok (.putfield 155, 3)) (kk : ∀ σ' : ml_St, σ' = ml_up σ k 1 x → ml_V p l e R s m args below meth c Q base D cA kc ks n n σ' (F0 m (pc + 3) ls (rest))) : ml_V p l e R s m args below meth c Q base D cA kc ks n n σ (F0 m (pc) ls (.int (Int32.ofInt x) :: .ref (base + k.toNat) :: rest)) := ml_putg X in_X12 rfl (by decide) tk_X12 nmX12 1 (by decide) rfl tw_4_192 hk d rfl hx rfl rfl (Or.inr (ml_rofO hk)) kk
theorem pf_X12_364 {p : Program} {l : Launch} {e : Env} {R : Room} {s : State} {m : MethodId} {args : Array Value} {below : List Frame} {meth : Method} {c : Code} {Q : State → Prop} {base : Nat} {D : va_G} {cA : Nat → ClassId} {kc ks n : Nat} {σ : ml_St} {cc : ByteArray} {nL pc : Nat} {rt : Option FieldType} {ls : Array Slot} {rest : List Value} (X : ml_X p s m c meth args D cA cc nL RX12 rt) {k x : Int} (hk : ml_at n k (22, 62)) (hx : I32 x) (d : decode cc pc = .ok (.putfield 364, 3)) (kk : ∀ σ' : ml_St, σ' = ml_up σ k 38 x → ml_V p l e R s m args below meth c Q base D cA kc ks n n σ' (F0 m (pc + 3) ls (rest))) : ml_V p l e R s m args below meth c Q base D cA kc ks n n σ (F0 m (pc) ls (.int (Int32.ofInt x) :: .ref (base + k.toNat) :: rest)) := ml_putg X in_X12 rfl (by decide) tk_X12 nmX12 38 (by decide) rfl tw_4_229 hk d rfl hx rfl rfl (Or.inr (ml_rofO hk)) kk
theorem pf_X8_15 {p : Program} {l : Launch} {e : Env} {R : Room} {s : State} {m : MethodId} {args : Array Value} {below : List Frame} {meth : Method} {c : Code} {Q : State → Prop} {base : Nat} {D : va_G} {cA : Nat → ClassId} {kc ks n : Nat} {σ : ml_St} {cc : ByteArray} {nL pc : Nat} {rt : Option FieldType} {ls : Array Slot} {rest : List Value} (X : ml_X p s m c meth args D cA cc nL RX8 rt) {k x : Int} (hk : ml_at n k (18, 2)) (hx : I32 x) (d : decode cc pc = .ok (.putfield 15, 3)) (kk : ∀ σ' : ml_St, σ' = ml_up σ k 1 x → ml_V p l e R s m args below meth c Q base D cA kc ks n n σ' (F0 m (pc + 3) ls (rest))) : ml_V p l e R s m args below meth c Q base D cA kc ks n n σ (F0 m (pc) ls (.int (Int32.ofInt x) :: .ref (base + k.toNat) :: rest)) := ml_putg X in_X8 rfl (by decide) tk_X8 nmX8 1 (by decide) rfl tw_1_35 hk d rfl hx rfl rfl (Or.inr (ml_rofO hk)) kk
theorem cv_X11_90 : ml_CV RX11 RX0 90 yX0_goRound cX0_goRound 3 none 1 := ⟨⟨tw_2_147, tw_2_148, tw_2_149, tw_1_3, tw_2_150⟩, by decide +kernel⟩
theorem cv_X11_97 : ml_CV RX11 RX8 97 yX8_add cX8_add 3 none 1 := ⟨⟨tw_2_199, tw_2_200, tw_2_201, tw_1_2, tw_2_202⟩, by decide +kernel⟩
theorem cv_X11_100 : ml_CV RX11 RX11 100 yX11_tell cX11_tell 4 (some .int) 2 := ⟨⟨tw_2_207, tw_2_209, tv_0, tw_1_1, tw_2_210⟩, by decide +kernel⟩
theorem cv_X11_104 : ml_CV RX11 RX11 104 yX11_isTold cX11_isTold 2 (some .boolean) 1 := ⟨⟨tw_3_104, tw_3_106, tv_15, tw_1_1, tw_3_107⟩, by decide +kernel⟩
theorem cv_X11_121 : ml_CV RX11 RX11 121 yX11_isMade cX11_isMade 2 (some .boolean) 1 := ⟨⟨tw_3_130, tw_3_132, tv_16, tw_1_1, tw_3_133⟩, by decide +kernel⟩
theorem cv_X11_124 : ml_CV RX11 RX11 124 yX11_isEnd cX11_isEnd 2 (some .boolean) 1 := ⟨⟨tw_3_134, tw_3_136, tv_17, tw_1_1, tw_3_137⟩, by decide +kernel⟩
theorem cv_X11_170 : ml_CS RX11 RX11 170 yX11_isPower cX11_isPower 2 (some .boolean) 1 := ⟨⟨tw_3_200, tw_3_201, tw_1_1, tw_3_202⟩, by decide +kernel⟩
theorem cv_X11_180 : ml_CS RX11 RX11 180 yX11_isStretch cX11_isStretch 4 (some .boolean) 2 := ⟨⟨tw_3_209, tw_3_210, tw_1_1, tw_3_211⟩, by decide +kernel⟩
theorem cv_X11_219 : ml_CV RX11 RX11 219 yX11_openLetters cX11_openLetters 3 (some .boolean) 1 := ⟨⟨tw_4_23, tw_4_25, tv_23, tw_1_1, tw_4_26⟩, by decide +kernel⟩
theorem cv_X11_310 : ml_CS RX11 RJ6 310 yJ6_bitCount_0f7a4 cJ6_bitCount_0f7a4 1 (some .int) 1 := ⟨⟨tw_4_27, tw_3_169, tw_1_16, tw_3_170⟩, by decide +kernel⟩
theorem cv_X12_143 : ml_CS RX12 RX12 143 yX12_lies cX12_lies 6 (some .boolean) 3 := ⟨⟨tw_5_145, tw_5_146, tw_1_13, tw_5_147⟩, by decide +kernel⟩
theorem cv_X12_158 : ml_CV RX12 RX12 158 yX12_push cX12_push 3 none 1 := ⟨⟨tw_5_152, tw_5_154, tv_33, tw_1_13, tw_5_155⟩, by decide +kernel⟩
theorem cv_X12_277 : ml_CV RX12 RX12 277 yX12_isLength cX12_isLength 2 (some .boolean) 1 := ⟨⟨tw_5_160, tw_5_162, tv_34, tw_1_13, tw_5_163⟩, by decide +kernel⟩
theorem cv_X12_287 : ml_CV RX12 RX12 287 yX12_isWord cX12_isWord 2 (some .boolean) 1 := ⟨⟨tw_6_36, tw_6_38, tv_59, tw_1_13, tw_6_39⟩, by decide +kernel⟩
theorem cv_X12_292 : ml_CV RX12 RX12 292 yX12_isMade cX12_isMade 2 (some .boolean) 1 := ⟨⟨tw_6_57, tw_6_59, tv_60, tw_1_13, tw_6_60⟩, by decide +kernel⟩
theorem cv_X12_295 : ml_CV RX12 RX12 295 yX12_isEnd cX12_isEnd 2 (some .boolean) 1 := ⟨⟨tw_6_61, tw_6_63, tv_61, tw_1_13, tw_6_64⟩, by decide +kernel⟩
theorem cv_X12_379 : ml_CV RX12 RX12 379 yX12_isLetters cX12_isLetters 4 (some .boolean) 1 := ⟨⟨tw_6_154, tw_6_156, tv_72, tw_1_13, tw_6_157⟩, by decide +kernel⟩
end
section
def ml_NW : List Cond := [(Jvm.Cond.methodLinkNest "MirrorLane" (9 : Nat) ({ cls := "MirrorLane$Tape", name := "<init>", desc := "()V" } : Jvm.MethodName) "MirrorLane"), (Jvm.Cond.methodLinkNest "MirrorLane" (18 : Nat) ({ cls := "MirrorLane$Closing", name := "<init>", desc := "()V" } : Jvm.MethodName) "MirrorLane"), (Jvm.Cond.methodLinkNest "MirrorLane" (25 : Nat) ({ cls := "MirrorLane$Grammar", name := "<init>", desc := "()V" } : Jvm.MethodName) "MirrorLane"), (Jvm.Cond.methodLinkNest "MirrorLane$Loom" (11 : Nat) ({ cls := "MirrorLane$Items", name := "<init>", desc := "()V" } : Jvm.MethodName) "MirrorLane"), (Jvm.Cond.methodLinkNest "MirrorLane$Loom" (28 : Nat) ({ cls := "MirrorLane$Weave", name := "<init>", desc := "()V" } : Jvm.MethodName) "MirrorLane"), (Jvm.Cond.methodLinkNest "MirrorLane" (39 : Nat) ({ cls := "MirrorLane$Powers", name := "<init>", desc := "()V" } : Jvm.MethodName) "MirrorLane"), (Jvm.Cond.methodLinkNest "MirrorLane$Powers" (21 : Nat) ({ cls := "MirrorLane$Weave", name := "<init>", desc := "()V" } : Jvm.MethodName) "MirrorLane"), (Jvm.Cond.methodLinkNest "MirrorLane" (46 : Nat) ({ cls := "MirrorLane$Sentences", name := "<init>", desc := "()V" } : Jvm.MethodName) "MirrorLane"), (Jvm.Cond.methodLinkNest "MirrorLane$Sentences" (52 : Nat) ({ cls := "MirrorLane$Weave", name := "<init>", desc := "()V" } : Jvm.MethodName) "MirrorLane"), (Jvm.Cond.methodLinkNest "MirrorLane" (53 : Nat) ({ cls := "MirrorLane$Finder", name := "<init>", desc := "()V" } : Jvm.MethodName) "MirrorLane"), (Jvm.Cond.methodLinkNest "MirrorLane$Mender" (17 : Nat) ({ cls := "MirrorLane$Weave", name := "<init>", desc := "()V" } : Jvm.MethodName) "MirrorLane"), (Jvm.Cond.methodLinkNest "MirrorLane" (77 : Nat) ({ cls := "MirrorLane$Weave", name := "<init>", desc := "()V" } : Jvm.MethodName) "MirrorLane"), (Jvm.Cond.methodLinkNest "MirrorLane" (89 : Nat) ({ cls := "MirrorLane$Word", name := "<init>", desc := "()V" } : Jvm.MethodName) "MirrorLane"), (Jvm.Cond.methodLinkNest "MirrorLane$Word" (28 : Nat) ({ cls := "MirrorLane$Weave", name := "<init>", desc := "()V" } : Jvm.MethodName) "MirrorLane")]
/-! constructors: cells are made in the order of their ids -/
def ml_PC (base : Nat) (D : va_G) (cA : Nat → ClassId) (n : Nat) (σ : ml_St) (U : State) : Prop := va_P D ml_cls (ml_cells base cA n σ) U.heap ∧ va_K D ml_cls (ml_tys cA) U ∧ ml_ok n σ
def ml_N (U : State) : Prop := (∀ w ∈ ml_NW, va_Nw w U) ∧ va_AO "MirrorLane$Weave" U ∧ va_AO "MirrorLane$Word" U
def ml_UC (base : Nat) (D : va_G) (cA : Nat → ClassId) (n : Nat) (σ : ml_St) (U : State) : Prop := ml_PC base D cA n σ U ∧ U.heap.size = base + 1 + n ∧ ml_N U
def ml_QC (base : Nat) (D : va_G) (cA : Nat → ClassId) (n : Nat) (Q : ml_St → Prop) : Array Value → State → Outcome → State → Prop := va_Qv (fun u : ml_St => Q u) (fun u U => ml_PC base D cA n u U) (ml_A base)
def ml_XC (s : State) (meth : Method) (base n0 : Nat) : Prop := s.heap.size = base + 1 + n0 ∧ meth.name = "<init>" ∧ ml_N s
theorem ml_NWm : ∀ w ∈ ml_NW, ∃ (a : String) (i : Nat) (x : MethodName) (h : String), w = .methodLinkNest a i x h := by
  intro w hw
  unfold ml_NW at hw
  simp only [List.mem_cons, List.not_mem_nil, or_false] at hw
  rcases hw with rfl | rfl | rfl | rfl | rfl | rfl | rfl | rfl | rfl | rfl | rfl | rfl | rfl | rfl <;> exact ⟨_, _, _, _, rfl⟩
theorem ml_N.moved {s U : State} (hW : s.WarmedH U.vm) (h : ml_N s) : ml_N U := ⟨fun w hw => by
  obtain ⟨a, i, x, q, rfl⟩ := ml_NWm w hw
  exact va_Nw.warmM hW (h.1 _ hw), va_AO.moved hW.alike h.2.1, va_AO.moved hW.alike h.2.2⟩
theorem ml_N.same {u U : State} (e : u.vm = U.vm) (h : ml_N u) : ml_N U := ⟨fun w hw => by
  obtain ⟨a, i, x, q, rfl⟩ := ml_NWm w hw
  exact va_Nw.same rfl e (h.1 _ hw), va_AO.moved (e ▸ Vm.Alike.refl u.vm) h.2.1, va_AO.moved (e ▸ Vm.Alike.refl u.vm) h.2.2⟩
theorem ml_UC_blind {base : Nat} {D : va_G} {cA : Nat → ClassId} {n : Nat} {σ : ml_St} {As : List Value} : FrameBlind (va_Pc As (ml_UC base D cA n σ)) := fun a U g mk q => by
  obtain ⟨q0, ⟨qP, qK, q3⟩, q4, q5⟩ := q
  exact ⟨q0, ⟨qP, va_K.moved (u := U) (U := U.calling g mk a) (Vm.Alike.refl U.vm) qK, q3⟩, q4, ml_N.same (u := U) (U := U.calling g mk a) rfl q5⟩
theorem ml_fvA {base : Nat} {t : FieldType} {x : Int} (h : x ≠ 0) : Value.ref (base + x.toNat) = ml_fv base (.array t) x := (if_neg h).symm
theorem ml_fvO {base : Nat} {t : String} {x : Int} (h : x ≠ 0) : Value.ref (base + x.toNat) = ml_fv base (.object t) x := (if_neg h).symm
section MLC
variable {p : Program} {l : Launch} {e : Env} {R : Room} {s : State} {m : MethodId} {args : Array Value} {below : List Frame} {meth : Method} {c : Code} {Q : State → Prop} {base : Nat} {D : va_G} {cA : Nat → ClassId} {kc ks rr n0 n : Nat} {σ : ml_St} {cc : ByteArray} {nL pc : Nat} {own : String} {rt : Option FieldType} {ls : Array Slot} {rest : List Value} {lst : List (Nat × Value)}
theorem ml_up_bound {H : Heap} {locs : List Loc} {g : JFrame} (kk : H.size ≤ s.heap.size + kc → W p l e R s m args below meth c H locs kc ks Q g) : W p l e R s m args below meth c H locs kc ks Q g := fun T hT X => kk (by
  have h := X.same.2.2.1
  have h : T.heap.size ≤ s.heap.size + kc := h
  rw [hT] at h
  exact h) T hT X
theorem ml_low {H : Heap} (h1 : va_P D ml_cls (ml_cells base cA n σ) H) (hn : 1 ≤ n) : base + n < H.size := by
  have h := h1 (n - 1) (base + (n - 1 + 1), ml_cell base cA (ml_lay (((n - 1 : Nat) : Int) + 1)) (σ (((n - 1 : Nat) : Int) + 1))) (by
    have hn1 : n - 1 < n := by omega
    simp [ml_cells, hn1])
  have h := h.lt
  have h : base + (n - 1 + 1) < H.size := h
  omega
/-- what a new cell leaves of the old ones -/
theorem ml_newcore {H H1 : Heap} {locs : List Loc} {q : Nat} {x : va_E} (hsz : H.size = base + 1 + n) (hs0 : s.heap.size ≤ H.size) (h2 : va_S (ml_A base) s.heap H locs) (hb1 : H1.size ≤ H.size + 1) (g1 : va_P D ml_cls (ml_cells base cA n σ ++ [(q, x)]) H1) (g2 : va_D (va_A (ml_cells base cA n σ) H.size) (ml_cells base cA n σ ++ [(q, x)])) (g3 : va_S (va_A (ml_cells base cA n σ) H.size) H H1 locs) : q = base + (n + 1) ∧ va_S (ml_A base) s.heap H1 locs := by
  have hlen : (ml_cells base cA n σ).length = n := by simp [ml_cells]
  have hq : (ml_cells base cA n σ ++ [(q, x)])[n]? = some (q, x) := by rw [List.getElem?_append_right (by omega), hlen]; simp
  have hlt : q < H1.size := (g1 n _ hq).lt
  have hge : H.size ≤ q := by
    rcases g2.2 n _ hq with ⟨k, e, hk⟩ | hk
    · have hkn : k < n := by
        have := (List.getElem?_eq_some_iff.mp hk).1
        omega
      have h3 : (ml_cells base cA n σ ++ [(q, x)])[k]? = some (q, e) := by rw [List.getElem?_append_left (by omega)]; exact hk
      have := g2.1 k n _ _ h3 hq rfl
      omega
    · exact hk
  refine ⟨by omega, by have := g3.1; omega, fun a ha hna => ?_, h2.2.2⟩
  rw [g3.2.1 a (by omega) (fun hA => ?_)]
  · exact h2.2.1 a ha hna
  · rcases hA with ⟨k, e, hk⟩ | hk
    · have := (ml_cells_at hk).2
      have : a = base + (k + 1) := congrArg Prod.fst this
      exact hna (by show base < a; omega)
    · omega
theorem ml_inA {a S : Nat} (ha : ml_A base a) (hsz : S = base + 1 + n) : va_A (ml_cells base cA n σ) S a := by
  have ha : base < a := ha
  by_cases hb : a < S
  · refine Or.inl ⟨a - base - 1, ml_cell base cA (ml_lay (((a - base - 1 : Nat) : Int) + 1)) (σ (((a - base - 1 : Nat) : Int) + 1)), ?_⟩
    have e1 : a - base - 1 < n := by omega
    have e2 : base + (a - base - 1 + 1) = a := by omega
    simp [ml_cells, e1, e2]
  · exact Or.inr (by omega)
theorem ml_ok_push (h3 : ml_ok n σ) (hz : ∀ j : Int, σ ((n : Int) + 1) j = 0) : ml_ok (n + 1) σ := by
  intro k j h1 h2 h4
  by_cases hk : k = (n : Int) + 1
  · subst hk
    rw [hz]
    unfold ml_rg
    split
    · exact ⟨by decide, by decide⟩
    · exact ⟨by decide, by decide⟩
    · exact ⟨by decide, by decide⟩
    · exact ⟨by decide, by decide⟩
    · decide
  · exact h3 k j h1 (by omega) h4
theorem ml_RO0 {σ : ml_St} : ml_RO 0 σ := fun k j h1 h2 => by omega
theorem ml_newO (X : ml_X p s m c meth args D cA cc nL own rt) (hs : s.heap.size = base + 1 + n0) {C : String} {T : u_T} {N ci idx : Nat} (hw : Cond.classLink own idx C ∈ ml_T ∧ Cond.instantiable C N ∈ ml_T ∧ Cond.initialized C ∈ ml_T) (hin : ∀ w ∈ u_ws C T N, w ∈ ml_T) (hc : ml_cls[ci]? = some (C, T, N)) (hci : ci < 13) (hty : ∀ k, k < N → parseFieldDescriptor (T k).2.2.1 = some (ml_ty ci k)) (hdef : ∀ j, j < N → defaultValue (ml_ty ci j) = ml_fv base (ml_ty ci j) 0) (hn1 : n0 + kc = 0 ∨ 1 ≤ n0 + kc) (h0 : n0 = 0 → kc = 0) {k : Int} (hk : k = ((n0 + kc : Nat) : Int) + 1) (hlay : ml_lay k = (ci + 10, N)) (hz : ∀ j : Int, σ k j = 0) (hkc : kc + 1 ≤ R.cells ∧ ks + N ≤ R.slots) (d : decode cc pc = .ok (.new idx, 3))
    (kk : ml_V p l e R s m args below meth c Q base D cA (kc + 1) (ks + N) 0 (n0 + (kc + 1)) σ (F0 m (pc + 3) ls (.ref (base + k.toNat) :: rest))) : ml_V p l e R s m args below meth c Q base D cA kc ks 0 (n0 + kc) σ (F0 m pc ls rest) := by
  intro H locs h1 h2 h3 h4
  refine ml_up_bound fun hub => ?_
  have hsz : H.size = base + 1 + (n0 + kc) := by
    have := h2.1
    rcases hn1 with q | q
    · omega
    · have := ml_low h1 q
      omega
  refine va_new (ci := ci) (fs := (List.range N).map fun j => ml_fv base (ml_ty ci j) 0) (A := va_A (ml_cells base cA (n0 + kc) σ) H.size) (H0 := H) X.1 X.2.1 X.2.2.2.2.1 hin (ml_ty ci) hty X.2.2.2.1 (X.2.2.2.2.1 _ hw.1) (X.2.2.2.2.1 _ hw.2.1) (X.2.2.2.2.1 _ hw.2.2) X.2.2.2.2.2.1 h1 (ml_cells_D base cA (n0 + kc) σ).self ⟨Nat.le_refl _, fun _ _ _ => rfl, fun q hq => ?_⟩ (fun q hq => Or.inr hq) hc (fun j hj => ?_) hkc.1 hkc.2 d (fun q H1 g1 g2 g3 => ?_)
  · exact ml_inA (h2.2.2 q hq) hsz
  · unfold vp_V
    rw [List.getD_eq_getElem?_getD]
    simp [hj, hdef j hj]
  · refine ml_up_bound fun hub1 => ?_
    obtain ⟨e1, hS⟩ := ml_newcore (s := s) hsz h2.1 h2 (by omega) g1 g2 g3
    subst e1
    have ek : base + (n0 + kc + 1) = base + k.toNat := by omega
    rw [ek] at g1 ⊢
    refine kk H1 locs ?_ hS (ml_ok_push h3 (hk ▸ hz)) ml_RO0
    rw [show n0 + (kc + 1) = (n0 + kc) + 1 from rfl, ml_cells_push, ek, ← hk, hlay, ml_cell_obj hci]
    have ez : (List.range N).map (fun j => ml_fv base (ml_ty ci j) (σ k (j : Int))) = (List.range N).map (fun j => ml_fv base (ml_ty ci j) 0) := by
      congr 1
      funext j
      rw [hz]
    rw [ez]
    exact g1
theorem ml_newA (X : ml_X p s m c meth args D cA cc nL own rt) (hs : s.heap.size = base + 1 + n0) (atype : ArrayType) (ty : FieldType) (t N : Nat) (harr : Cond.arrayClass (newarray.typeOf atype) ∈ ml_T) (hty : newarray.typeOf atype = ty) (hta : (ml_tys cA)[t]? = some (cA t, ty)) (hnm : ∀ (U : State) (x : ClassId), va_RA U x ty → U.vm.findClass ("[" ++ ty.toString) = some x) (a0 : vp_A) (ha0 : ∀ x : ClassId, vp_cell x a0 = arrV x N (fun _ => defaultValue ty)) (hn1 : 1 ≤ n0 + kc) {k : Int} (hk : k = ((n0 + kc : Nat) : Int) + 1) (hlay : ml_lay k = (t, N)) (hcell : ∀ f : Int → Int, (∀ j, f j = 0) → ml_cell base cA (t, N) f = .inl (cA t, a0)) (hz : ∀ j : Int, σ k j = 0) (hN : N ≤ 100000) (hbytes : N * componentBytes ty ≤ 536870912) (hkc : kc + 1 ≤ R.cells ∧ ks + N ≤ R.slots) (d : decode cc pc = .ok (.newarray atype, 2))
    (kk : ml_V p l e R s m args below meth c Q base D cA (kc + 1) (ks + N) 0 (n0 + (kc + 1)) σ (F0 m (pc + 2) ls (.ref (base + k.toNat) :: rest))) : ml_V p l e R s m args below meth c Q base D cA kc ks 0 (n0 + kc) σ (F0 m pc ls (.int (Int32.ofInt N) :: rest)) := by
  intro H locs h1 h2 h3 h4
  refine ml_up_bound fun hub => ?_
  have hsz : H.size = base + 1 + (n0 + kc) := by
    have := h2.1
    have := ml_low h1 hn1
    omega
  have hNi : I32 (N : Int) := ⟨by omega, by omega⟩
  refine va_newa (N' := N) (a0 := a0) (A := va_A (ml_cells base cA (n0 + kc) σ) H.size) (H0 := H) X.1 X.2.1 (X.2.2.2.2.1 _ harr) hty X.2.2.2.2.2.1 h1 (ml_cells_D base cA (n0 + kc) σ).self ⟨Nat.le_refl _, fun _ _ _ => rfl, fun q hq => ?_⟩ (fun q hq => Or.inr hq) ha0 (fun q => by have := (ml_lt hNi ml_i0).mp q; omega) (by rw [ml_cl (by omega) (by omega)]; omega) hbytes hkc.1 hkc.2 d (fun q x H1 gK g1 g2 g3 => ?_)
  · exact ml_inA (h2.2.2 q hq) hsz
  · refine ml_up_bound fun hub1 => ?_
    obtain ⟨e1, hS⟩ := ml_newcore (s := s) hsz h2.1 h2 (by omega) g1 g2 g3
    subst e1
    have ek : base + (n0 + kc + 1) = base + k.toNat := by omega
    rw [ek] at g1 ⊢
    have ex : x = cA t := by
      have r1 := hnm _ _ (gK.2 (ml_tys cA).length (x, ty) (by rw [List.getElem?_append_right (Nat.le_refl _)]; simp)).2
      have r2 := hnm _ _ (X.2.2.2.2.2.1.2 t _ hta).2
      exact Option.some.inj (r1.symm.trans r2)
    subst ex
    refine kk H1 locs ?_ hS (ml_ok_push h3 (hk ▸ hz)) ml_RO0
    rw [show n0 + (kc + 1) = (n0 + kc) + 1 from rfl, ml_cells_push, ek, ← hk, hlay, hcell _ hz]
    exact g1
theorem ml_newR (X : ml_X p s m c meth args D cA cc nL own rt) (hs : s.heap.size = base + 1 + n0) {C : String} {idx : Nat} (t N : Nat) (hw : Cond.classLink own idx C ∈ ml_T) (hover : va_AO C s) (hta : (ml_tys cA)[t]? = some (cA t, .object C)) (hn1 : 1 ≤ n0 + kc) {k : Int} (hk : k = ((n0 + kc : Nat) : Int) + 1) (hlay : ml_lay k = (t, N)) (hcell : ∀ f : Int → Int, (∀ j, f j = 0) → ml_cell base cA (t, N) f = .inl (cA t, N, .inr (.inr (.inr (.inr (fun _ => none)))))) (hz : ∀ j : Int, σ k j = 0) (hN : N ≤ 100000) (hkc : kc + 1 ≤ R.cells ∧ ks + N ≤ R.slots) (d : decode cc pc = .ok (.anewarray idx, 3))
    (kk : ml_V p l e R s m args below meth c Q base D cA (kc + 1) (ks + N) 0 (n0 + (kc + 1)) σ (F0 m (pc + 3) ls (.ref (base + k.toNat) :: rest))) : ml_V p l e R s m args below meth c Q base D cA kc ks 0 (n0 + kc) σ (F0 m pc ls (.int (Int32.ofInt N) :: rest)) := by
  intro H locs h1 h2 h3 h4
  refine ml_up_bound fun hub => ?_
  have hsz : H.size = base + 1 + (n0 + kc) := by
    have := h2.1
    have := ml_low h1 hn1
    omega
  have hNi : I32 (N : Int) := ⟨by omega, by omega⟩
  refine va_newq (N' := N) (A := va_A (ml_cells base cA (n0 + kc) σ) H.size) (H0 := H) X.1 X.2.1 X.2.2.2.1 (X.2.2.2.2.1 _ hw) hover X.2.2.2.2.2.1 h1 (ml_cells_D base cA (n0 + kc) σ).self ⟨Nat.le_refl _, fun _ _ _ => rfl, fun q hq => ?_⟩ (fun q hq => Or.inr hq) (fun q => by have := (ml_lt hNi ml_i0).mp q; omega) (by rw [ml_cl (by omega) (by omega)]; omega) (by omega) hkc.1 hkc.2 d (fun q x H1 gK g1 g2 g3 => ?_)
  · exact ml_inA (h2.2.2 q hq) hsz
  · refine ml_up_bound fun hub1 => ?_
    obtain ⟨e1, hS⟩ := ml_newcore (s := s) hsz h2.1 h2 (by omega) g1 g2 g3
    subst e1
    have ek : base + (n0 + kc + 1) = base + k.toNat := by omega
    rw [ek] at g1 ⊢
    have ex : x = cA t := by
      obtain ⟨_, _, _, _, _, r1⟩ := (gK.2 (ml_tys cA).length (x, .object C) (by rw [List.getElem?_append_right (Nat.le_refl _)]; simp)).2
      obtain ⟨_, _, _, _, _, r2⟩ := (X.2.2.2.2.2.1.2 t _ hta).2
      exact Option.some.inj (r1.symm.trans r2)
    subst ex
    refine kk H1 locs ?_ hS (ml_ok_push h3 (hk ▸ hz)) ml_RO0
    rw [show n0 + (kc + 1) = (n0 + kc) + 1 from rfl, ml_cells_push, ek, ← hk, hlay, hcell _ hz]
    exact g1
theorem ml_objInit (X : ml_X p s m c meth args D cA cc nL own rt) {idx : Nat} (hw : Cond.methodLink own idx Lib.objectInit ∈ ml_T ∧ Cond.instanceMethod Lib.objectInit ∈ ml_T ∧ Cond.code Lib.objectInit ⟨#[0xb1]⟩ 1 none ∈ ml_T) (hl : lv_has ls nL lst) {a : Nat} (hR : 1 ≤ R.frames ∧ 30 ≤ R.locals) (hrest : (rest.map fun v => v.category).sum ≤ 8) (d : decode cc pc = .ok (.invokespecial idx, 3)) (kk : ml_V p l e R s m args below meth c Q base D cA kc ks rr n σ (F0 m (pc + 3) ls rest)) : ml_V p l e R s m args below meth c Q base D cA kc ks rr n σ (F0 m pc ls (.ref a :: rest)) :=
  fun H locs h1 h2 h3 h4 => W.objInit X.1 X.2.1 X.2.2.2.1 (X.2.2.2.2.1 _ hw.1) (X.2.2.2.2.1 _ hw.2.1) (X.2.2.2.2.1 _ hw.2.2) rfl (by rw [X.2.2.1]; exact hl.1) rfl d hR.1 (by show 2 * 0 + _ + 12 ≤ _; have := hR.2; omega) (kk H locs h1 h2 h3 h4)
theorem ml_toRO (h : ml_RO n σ) {g : JFrame} (kk : ml_V p l e R s m args below meth c Q base D cA kc ks n n σ g) : ml_V p l e R s m args below meth c Q base D cA kc ks 0 n σ g := fun H locs h1 h2 h3 _ => kk H locs h1 h2 h3 h
theorem ml_vretC (X : ml_X p s m c meth args D cA cc nL own none) {Qc : ml_St → Prop} (hq : Qc σ) (d : decode cc pc = .ok (.return_, 1)) : ml_V p l e R s m args below meth c (MQ below (ml_QC base D cA n Qc) args s kc ks (ml_A base)) base D cA kc ks rr n σ (F0 m (pc) ls ([])) :=
  fun H locs h1 h2 h3 h4 => W.vret X.1 X.2.1 X.2.2.2.2.2.2.2 (fun t ht hW => ⟨⟨σ, rfl, hq, by rw [ht]; exact h1, va_K.moved hW.alike X.2.2.2.2.2.1, h3⟩, h2.F ht⟩) h2.2.2 d (hlocks := X.2.2.2.2.2.2.1)
theorem ml_callC (X : ml_X p s m c meth args D cA cc nL own rt) (hs : s.heap.size = base + 1 + n0) (hN : ml_N s) {index mxl mc ms : Nat} {host : String} {y : MethodName} {bytes : ByteArray} {rm : Room} {k : Int} {Qc : ml_St → Prop} (hM : Met l y (Cond.code y bytes mxl none :: ml_T) rm (va_Pc [.ref (base + k.toNat)] (ml_UC base D cA (n0 + kc) σ)) (ml_QC base D cA (n0 + kc + mc) Qc) mc ms (ml_A base)) (cv : (Cond.methodLinkNest own index y host ∈ ml_NW ∧ Cond.instanceMethod y ∈ ml_T ∧ Cond.initialized y.cls ∈ ml_T ∧ Cond.code y bytes mxl none ∈ ml_T) ∧ y.name = "<init>" ∧ (y.cls ≠ "java/lang/invoke/MethodHandle" ∧ y.cls ≠ "java/lang/invoke/VarHandle" ∧ (parseMethodDescriptor y.desc).map (fun d => d.parameters.length) = some 0)) (h0 : rm.cells = mc ∧ rm.slots = ms) (hR : rm.frames + 1 ≤ R.frames ∧ 8 + (mxl + 11) + rm.locals ≤ R.locals) (hn1 : 1 ≤ n0 + kc) (hl : lv_has ls nL lst) (hrest : (rest.map fun v => v.category).sum ≤ 8) (hkc : kc + mc ≤ R.cells ∧ ks + ms ≤ R.slots) (d : decode cc pc = .ok (.invokespecial index, 3))
    (kk : ∀ σ' : ml_St, Qc σ' → ml_V p l e R s m args below meth c Q base D cA (kc + mc) (ks + ms) 0 (n0 + (kc + mc)) σ' (F0 m (pc + 3) ls rest)) : ml_V p l e R s m args below meth c Q base D cA kc ks 0 (n0 + kc) σ (F0 m pc ls (.ref (base + k.toNat) :: rest)) := by
  intro H locs h1 h2 h3 h4
  refine ml_up_bound fun hub => ?_
  have hsz : H.size = base + 1 + (n0 + kc) := by
    have := h2.1
    have := ml_low h1 hn1
    omega
  have hcn := va_cnB 0 X.2.2.2.2.1 (ml_gd cv.1.2.2.2) rfl h0.1 h0.2 (hN.1 _ cv.1.1) (X.2.2.2.2.1 _ cv.1.2.2.1) cv.2.2 hR
  refine va_callv (va_runIN (As := []) (rest := rest) ⟨X.1, X.2.1, X.2.2.1, X.2.2.2.1, X.2.2.2.2.1⟩ hM ⟨hcn, cv.2.1, X.2.2.2.2.1 _ cv.1.2.1⟩ ⟨ml_UC_blind, fun U hU hW => ⟨rfl, ⟨by rw [hU]; exact h1, va_K.moved hW.alike X.2.2.2.2.2.1, h3⟩, by rw [hU]; exact hsz, hN.moved hW⟩⟩ rfl rfl hl.1 rfl (lv_room hrest) d hkc) h2 (fun _ _ h => h) (fun _ h => h) (fun u t H1 locs ht hvm hw hB hz1 hk1 hS => ?_)
  obtain ⟨hP1, hK1, hok1⟩ := hB
  rw [ht] at hP1
  exact kk u hw H1 locs (by rw [show n0 + (kc + mc) = n0 + kc + mc by omega]; exact hP1) hS (by rw [show n0 + (kc + mc) = n0 + kc + mc by omega]; exact hok1) ml_RO0
theorem ml_callCI (X : ml_X p s m c meth args D cA cc nL own rt) (hs : s.heap.size = base + 1 + n0) (hN : ml_N s) {index mxl mc ms : Nat} {y : MethodName} {bytes : ByteArray} {rm : Room} {k : Int} {Qc : ml_St → Prop} (hM : Met l y (Cond.code y bytes mxl none :: ml_T) rm (va_Pc [.ref (base + k.toNat)] (ml_UC base D cA (n0 + kc) σ)) (ml_QC base D cA (n0 + kc + mc) Qc) mc ms (ml_A base)) (cv : (Cond.methodLink own index y ∈ ml_T ∧ Cond.instanceMethod y ∈ ml_T ∧ Cond.initialized y.cls ∈ ml_T ∧ Cond.code y bytes mxl none ∈ ml_T) ∧ y.name = "<init>" ∧ (y.cls ≠ "java/lang/invoke/MethodHandle" ∧ y.cls ≠ "java/lang/invoke/VarHandle" ∧ (parseMethodDescriptor y.desc).map (fun d => d.parameters.length) = some 0)) (h0 : rm.cells = mc ∧ rm.slots = ms) (hR : rm.frames + 1 ≤ R.frames ∧ 8 + (mxl + 11) + rm.locals ≤ R.locals) (hn1 : 1 ≤ n0 + kc) (hl : lv_has ls nL lst) (hrest : (rest.map fun v => v.category).sum ≤ 8) (hkc : kc + mc ≤ R.cells ∧ ks + ms ≤ R.slots) (d : decode cc pc = .ok (.invokespecial index, 3))
    (kk : ∀ σ' : ml_St, Qc σ' → ml_V p l e R s m args below meth c Q base D cA (kc + mc) (ks + ms) 0 (n0 + (kc + mc)) σ' (F0 m (pc + 3) ls rest)) : ml_V p l e R s m args below meth c Q base D cA kc ks 0 (n0 + kc) σ (F0 m pc ls (.ref (base + k.toNat) :: rest)) := by
  intro H locs h1 h2 h3 h4
  refine ml_up_bound fun hub => ?_
  have hsz : H.size = base + 1 + (n0 + kc) := by
    have := h2.1
    have := ml_low h1 hn1
    omega
  have hcn := cwI 0 X.2.2.2.2.1 (ml_gd cv.1.2.2.2) rfl h0.1 h0.2 (X.2.2.2.2.1 _ cv.1.2.2.1) (X.2.2.2.2.1 _ cv.1.1) (X.2.2.2.2.1 _ cv.1.2.1) cv.2.1 cv.2.2 hR
  refine va_callv (va_runI (As := []) (rest := rest) ⟨X.1, X.2.1, X.2.2.1, X.2.2.2.1, X.2.2.2.2.1⟩ hM hcn ⟨ml_UC_blind, fun U hU hW => ⟨rfl, ⟨by rw [hU]; exact h1, va_K.moved hW.alike X.2.2.2.2.2.1, h3⟩, by rw [hU]; exact hsz, hN.moved hW⟩⟩ rfl rfl hl.1 rfl (lv_room hrest) d hkc) h2 (fun _ _ h => h) (fun _ h => h) (fun u t H1 locs ht hvm hw hB hz1 hk1 hS => ?_)
  obtain ⟨hP1, hK1, hok1⟩ := hB
  rw [ht] at hP1
  exact kk u hw H1 locs (by rw [show n0 + (kc + mc) = n0 + kc + mc by omega]; exact hP1) hS (by rw [show n0 + (kc + mc) = n0 + kc + mc by omega]; exact hok1) ml_RO0
theorem ml_aast (X : ml_X p s m c meth args D cA cc nL own rt) {k i v : Int} {t N ci NO : Nat} {r : vw_C} (hk : ml_at n k (t, N)) (hcell : ∀ f : Int → Int, ml_cell base cA (t, N) f = .inl (cA t, N, .inr (.inr (.inr (.inr (fun j => ml_ro base (f j))))))) (hta : (ml_tys cA)[t]? = some (cA t, .object r.1)) (hv : ml_at n v (ci + 10, NO)) (hci : ci < 13) (hc : ml_cls[ci]? = some r) (het : ml_et k i = 5 ∨ ml_et k i = 6) (hi : 0 ≤ i) (hN : i < N) (d : decode cc pc = .ok (.aastore, 1))
    (kk : ∀ σ' : ml_St, σ' = ml_up σ k i v → ml_V p l e R s m args below meth c Q base D cA kc ks 0 n σ' (F0 m (pc + 1) ls rest)) : ml_V p l e R s m args below meth c Q base D cA kc ks 0 n σ (F0 m pc ls (.ref (base + v.toNat) :: .int (Int32.ofInt i) :: .ref (base + k.toNat) :: rest)) := by
  intro H locs h1 h2 h3 h4
  have hg := ml_cells_get (base := base) (cA := cA) (σ := σ) hk
  rw [hcell] at hg
  have hgv := ml_cells_get (base := base) (cA := cA) (σ := σ) hv
  rw [ml_cell_obj hci] at hgv
  have hl := ml_len hk
  have hl : N ≤ 100000 := hl
  refine va_astq X.1 X.2.1 X.2.2.2.2.2.1 h1 (ml_cells_D base cA n σ) h2 (k.toNat - 1) t (v.toNat - 1) ci hg hta hgv hc (ml_vin hi hN hl) d (fun H1 locs1 g1 _ g3 => ?_)
  rw [ml_cl hi (by omega)] at g1
  refine kk _ rfl H1 locs1 ?_ g3 (ml_ok_up h3 (by rcases het with q | q <;> rw [q] <;> exact (show (0 : Int) ≤ v by have := hv.1; omega))) ml_RO0
  rw [ml_cells_set (kd := (t, N)) (σ' := ml_up σ k i v) hk (by
    rw [hcell]
    congr 7
    funext j
    unfold ml_up va_up
    by_cases h : j = i.toNat
    · subst h
      have hv0 : ¬ v = 0 := by have := hv.1; omega
      simp [Int.toNat_of_nonneg hi, ml_ro, hv0]
    · have : ¬ (j : Int) = i := by omega
      simp [h, this]) (fun a ha => ml_up_k ha)] at g1
  exact g1
end MLC
end
section
theorem dX0_goRound_0 : decode cX0_goRound 0 = .ok (.iconst 0, 1) := by decide +kernel
theorem dX0_goRound_1 : decode cX0_goRound 1 = .ok (.istore_n 2, 1) := by decide +kernel
theorem dX0_goRound_2 : decode cX0_goRound 2 = .ok (.iload_n 2, 1) := by decide +kernel
theorem dX0_goRound_3 : decode cX0_goRound 3 = .ok (.iconst 2, 1) := by decide +kernel
theorem dX0_goRound_4 : decode cX0_goRound 4 = .ok (.iload_n 1, 1) := by decide +kernel
theorem dX0_goRound_5 : decode cX0_goRound 5 = .ok (.imul, 1) := by decide +kernel
theorem dX0_goRound_6 : decode cX0_goRound 6 = .ok (.if_icmp .ge 29, 3) := by decide +kernel
theorem dX0_goRound_9 : decode cX0_goRound 9 = .ok (.aload_n 0, 1) := by decide +kernel
theorem dX0_goRound_10 : decode cX0_goRound 10 = .ok (.getfield 9, 3) := by decide +kernel
theorem dX0_goRound_13 : decode cX0_goRound 13 = .ok (.iload_n 2, 1) := by decide +kernel
theorem dX0_goRound_14 : decode cX0_goRound 14 = .ok (.iload_n 2, 1) := by decide +kernel
theorem dX0_goRound_15 : decode cX0_goRound 15 = .ok (.iload_n 1, 1) := by decide +kernel
theorem dX0_goRound_16 : decode cX0_goRound 16 = .ok (.if_icmp .ge 9, 3) := by decide +kernel
theorem dX0_goRound_19 : decode cX0_goRound 19 = .ok (.iload_n 2, 1) := by decide +kernel
theorem dX0_goRound_20 : decode cX0_goRound 20 = .ok (.iload_n 1, 1) := by decide +kernel
theorem dX0_goRound_21 : decode cX0_goRound 21 = .ok (.iadd, 1) := by decide +kernel
theorem dX0_goRound_22 : decode cX0_goRound 22 = .ok (.goto 6, 3) := by decide +kernel
theorem dX0_goRound_25 : decode cX0_goRound 25 = .ok (.iload_n 2, 1) := by decide +kernel
theorem dX0_goRound_26 : decode cX0_goRound 26 = .ok (.iload_n 1, 1) := by decide +kernel
theorem dX0_goRound_27 : decode cX0_goRound 27 = .ok (.isub, 1) := by decide +kernel
theorem dX0_goRound_28 : decode cX0_goRound 28 = .ok (.iastore, 1) := by decide +kernel
theorem dX0_goRound_29 : decode cX0_goRound 29 = .ok (.iinc 2 1, 3) := by decide +kernel
theorem dX0_goRound_32 : decode cX0_goRound 32 = .ok (.goto (-30), 3) := by decide +kernel
theorem dX0_goRound_35 : decode cX0_goRound 35 = .ok (.aload_n 0, 1) := by decide +kernel
theorem dX0_goRound_36 : decode cX0_goRound 36 = .ok (.iconst 0, 1) := by decide +kernel
theorem dX0_goRound_37 : decode cX0_goRound 37 = .ok (.putfield 15, 3) := by decide +kernel
theorem dX0_goRound_40 : decode cX0_goRound 40 = .ok (.return_, 1) := by decide +kernel
def f_X0_goRound_u28 (Q : ml_St → Prop) (K2 : ml_St → Int → Int → Prop) (σ : ml_St) (x1 : Int) (x2 : Int) (s1 : Int) (s2 : Int) : Prop :=
(0 : Int) ≤ s1 ∧ (s1 : Int) < 10 ∧
∀ σ1, σ1 = ml_up σ 5 s1 s2 →
I32 (x2 + 1) ∧
∀ y2 : Int, y2 = x2 + 1 →
K2 σ1 x1 y2
def f_X0_goRound_u2 (Q : ml_St → Prop) (K35 : ml_St → Prop) : Nat → ml_St → Int → Int → Prop
| 0, _, _, _ => False
| N + 1, σ, x1, x2 =>
I32 (2 * x1) ∧
((2 * x1) ≤ x2 →
K35 σ) ∧
(¬ ((2 * x1) ≤ x2) →
(x1 ≤ x2 →
I32 (x2 - x1) ∧
f_X0_goRound_u28 Q (f_X0_goRound_u2 Q K35 N) σ x1 x2 x2 (x2 - x1)) ∧
(¬ (x1 ≤ x2) →
I32 (x2 + x1) ∧
f_X0_goRound_u28 Q (f_X0_goRound_u2 Q K35 N) σ x1 x2 x2 (x2 + x1)))
def f_X0_goRound_u35 (Q : ml_St → Prop) (σ : ml_St) : Prop :=
∀ σ1, σ1 = ml_up σ 4 1 0 →
Q σ1
def f_X0_goRound_u0 (Q : ml_St → Prop) (σ : ml_St) (x1 : Int) : Prop :=
∃ N1, f_X0_goRound_u2 Q (f_X0_goRound_u35 Q) N1 σ x1 0
def f_X0_goRound (σ : ml_St) (x1 : Int) (Q : ml_St → Prop) : Prop := f_X0_goRound_u0 Q σ x1
def rm_X0_goRound : Room := { frames := 0, cells := 0, slots := 0, locals := 0 }
set_option maxRecDepth 100000 in
set_option maxHeartbeats 4000000 in
theorem u_X0_goRound_28 {p : Program} {e : Env} {s : State} {m : MethodId} {args : Array Value} {below : List Frame} {meth : Method} {c : Code} {base : Nat} {D : va_G} {cA : Nat → ClassId} {n : Nat} {l : Launch} {Q : ml_St → Prop} {K2 : ml_St → Int → Int → Prop} (X : ml_X p s m c meth args D cA cX0_goRound 3 RX0 none) (hn : 214 ≤ n) (hK2 : ∀ (σ : ml_St) (x1 : Int) (x2 : Int) (h_x1 : I32 x1) (h_x2 : I32 x2) (ls : Array Slot), lv_has ls 3 [(0, .ref (base + (4 : Int).toNat)), (1, .int (Int32.ofInt x1)), (2, .int (Int32.ofInt x2))] → K2 σ x1 x2 → ml_V p l e rm_X0_goRound s m args below meth c (MQ below (ml_Qv base D cA n Q) args s 0 0 (ml_A base)) base D cA 0 0 n n σ (F0 m 2 ls [])) (σ : ml_St) (x1 : Int) (x2 : Int) (s1 : Int) (s2 : Int) (h_x1 : I32 x1) (h_x2 : I32 x2) (h_s1 : I32 s1) (h_s2 : I32 s2) (ls : Array Slot) (hl : lv_has ls 3 [(0, .ref (base + (4 : Int).toNat)), (1, .int (Int32.ofInt x1)), (2, .int (Int32.ofInt x2))]) (hw : f_X0_goRound_u28 Q K2 σ x1 x2 s1 s2) : ml_V p l e rm_X0_goRound s m args below meth c (MQ below (ml_Qv base D cA n Q) args s 0 0 (ml_A base)) base D cA 0 0 n n σ (F0 m 28 ls [.int (Int32.ofInt s2), .int (Int32.ofInt s1), .ref (base + (5 : Int).toNat)]) := by
  unfold f_X0_goRound_u28 at hw
  obtain ⟨a1, b1, hw⟩ := hw
  refine ml_iast (pc := 28) (N := 10) X (ml_c5 hn) a1 b1 h_s2 dX0_goRound_28 (fun σ1 g1 => ?_)
  have hw := hw σ1 g1
  obtain ⟨v2, hw⟩ := hw
  obtain ⟨y2, e2⟩ : ∃ y : Int, y = x2 + 1 := ⟨_, rfl⟩
  have hw := hw y2 e2
  rw [← e2] at v2
  refine ml_iinc (pc := 29) X e2 hl 2 rfl (by decide) (lst' := [(2, .int (Int32.ofInt y2)), (0, .ref (base + (4 : Int).toNat)), (1, .int (Int32.ofInt x1))]) rfl dX0_goRound_29 (fun ls hl => ?_)
  refine ml_goto (pc := 32) (tgt := 2) X dX0_goRound_32 (by decide) ?_
  exact hK2 σ1 x1 y2 h_x1 v2 _ (lv_sub hl [1, 2, 0] rfl) hw
set_option maxRecDepth 100000 in
set_option maxHeartbeats 4000000 in
theorem u_X0_goRound_2 {p : Program} {e : Env} {s : State} {m : MethodId} {args : Array Value} {below : List Frame} {meth : Method} {c : Code} {base : Nat} {D : va_G} {cA : Nat → ClassId} {n : Nat} {l : Launch} {Q : ml_St → Prop} {K35 : ml_St → Prop} (X : ml_X p s m c meth args D cA cX0_goRound 3 RX0 none) (hn : 214 ≤ n) (hK35 : ∀ (σ : ml_St) (ls : Array Slot), lv_has ls 3 [(0, .ref (base + (4 : Int).toNat))] → K35 σ → ml_V p l e rm_X0_goRound s m args below meth c (MQ below (ml_Qv base D cA n Q) args s 0 0 (ml_A base)) base D cA 0 0 n n σ (F0 m 35 ls [])) : ∀ (N : Nat) (σ : ml_St) (x1 : Int) (x2 : Int) (h_x1 : I32 x1) (h_x2 : I32 x2) (ls : Array Slot), lv_has ls 3 [(0, .ref (base + (4 : Int).toNat)), (1, .int (Int32.ofInt x1)), (2, .int (Int32.ofInt x2))] → f_X0_goRound_u2 Q K35 N σ x1 x2 → ml_V p l e rm_X0_goRound s m args below meth c (MQ below (ml_Qv base D cA n Q) args s 0 0 (ml_A base)) base D cA 0 0 n n σ (F0 m 2 ls []) := by
  intro N
  induction N with
  | zero => intro σ x1 x2 h_x1 h_x2 ls hl hw; exact False.elim hw
  | succ N ih =>
    intro σ x1 x2 h_x1 h_x2 ls hl hw
    unfold f_X0_goRound_u2 at hw
    refine ml_iload_n (pc := 2) X hl 2 rfl rfl dX0_goRound_2 ?_
    refine ml_iconst (pc := 3) X dX0_goRound_3 ?_
    refine ml_iload_n (pc := 4) X hl 1 rfl rfl dX0_goRound_4 ?_
    obtain ⟨v1, hw⟩ := hw
    refine ml_imul (pc := 5) X dX0_goRound_5 ?_
    refine ml_icmp_ge (pc := 6) (tgt := 35) X h_x2 v1 dX0_goRound_6 (by decide) (fun c2 => ?_) (fun c2 => ?_)
    · have hw := hw.1 c2
      exact hK35 σ   _ (lv_sub hl [0] rfl) hw
    · have hw := hw.2 c2
      refine ml_aload_n (pc := 9) X hl 0 rfl rfl dX0_goRound_9 ?_
      refine gf_X0_9 (pc := 10) X (ml_c4 hn) dX0_goRound_10 ?_
      refine ml_iload_n (pc := 13) X hl 2 rfl rfl dX0_goRound_13 ?_
      refine ml_iload_n (pc := 14) X hl 2 rfl rfl dX0_goRound_14 ?_
      refine ml_iload_n (pc := 15) X hl 1 rfl rfl dX0_goRound_15 ?_
      refine ml_icmp_ge (pc := 16) (tgt := 25) X h_x2 h_x1 dX0_goRound_16 (by decide) (fun c3 => ?_) (fun c3 => ?_)
      · have hw := hw.1 c3
        refine ml_iload_n (pc := 25) X hl 2 rfl rfl dX0_goRound_25 ?_
        refine ml_iload_n (pc := 26) X hl 1 rfl rfl dX0_goRound_26 ?_
        obtain ⟨v4, hw⟩ := hw
        refine ml_isub (pc := 27) X dX0_goRound_27 ?_
        exact u_X0_goRound_28 X hn ih σ x1 x2 x2 (x2 - x1) h_x1 h_x2 h_x2 v4 _ (lv_sub hl [0, 1, 2] rfl) hw
      · have hw := hw.2 c3
        refine ml_iload_n (pc := 19) X hl 2 rfl rfl dX0_goRound_19 ?_
        refine ml_iload_n (pc := 20) X hl 1 rfl rfl dX0_goRound_20 ?_
        obtain ⟨v5, hw⟩ := hw
        refine ml_iadd (pc := 21) X dX0_goRound_21 ?_
        refine ml_goto (pc := 22) (tgt := 28) X dX0_goRound_22 (by decide) ?_
        exact u_X0_goRound_28 X hn ih σ x1 x2 x2 (x2 + x1) h_x1 h_x2 h_x2 v5 _ (lv_sub hl [0, 1, 2] rfl) hw
set_option maxRecDepth 100000 in
set_option maxHeartbeats 4000000 in
theorem u_X0_goRound_35 {p : Program} {e : Env} {s : State} {m : MethodId} {args : Array Value} {below : List Frame} {meth : Method} {c : Code} {base : Nat} {D : va_G} {cA : Nat → ClassId} {n : Nat} {l : Launch} {Q : ml_St → Prop} (X : ml_X p s m c meth args D cA cX0_goRound 3 RX0 none) (hn : 214 ≤ n) (σ : ml_St) (ls : Array Slot) (hl : lv_has ls 3 [(0, .ref (base + (4 : Int).toNat))]) (hw : f_X0_goRound_u35 Q σ) : ml_V p l e rm_X0_goRound s m args below meth c (MQ below (ml_Qv base D cA n Q) args s 0 0 (ml_A base)) base D cA 0 0 n n σ (F0 m 35 ls []) := by
  unfold f_X0_goRound_u35 at hw
  refine ml_aload_n (pc := 35) X hl 0 rfl rfl dX0_goRound_35 ?_
  refine ml_iconst (pc := 36) X dX0_goRound_36 ?_
  refine pf_X0_15 (pc := 37) X (ml_c4 hn) ⟨by decide, by decide⟩ dX0_goRound_37 (fun σ1 g1 => ?_)
  have hw := hw σ1 g1
  exact ml_vret (pc := 40) X hw dX0_goRound_40
set_option maxRecDepth 100000 in
set_option maxHeartbeats 4000000 in
theorem u_X0_goRound_0 {p : Program} {e : Env} {s : State} {m : MethodId} {args : Array Value} {below : List Frame} {meth : Method} {c : Code} {base : Nat} {D : va_G} {cA : Nat → ClassId} {n : Nat} {l : Launch} {Q : ml_St → Prop} (X : ml_X p s m c meth args D cA cX0_goRound 3 RX0 none) (hn : 214 ≤ n) (σ : ml_St) (x1 : Int) (h_x1 : I32 x1) (ls : Array Slot) (hl : lv_has ls 3 [(0, .ref (base + (4 : Int).toNat)), (1, .int (Int32.ofInt x1))]) (hw : f_X0_goRound_u0 Q σ x1) : ml_V p l e rm_X0_goRound s m args below meth c (MQ below (ml_Qv base D cA n Q) args s 0 0 (ml_A base)) base D cA 0 0 n n σ (F0 m 0 ls []) := by
  unfold f_X0_goRound_u0 at hw
  refine ml_iconst (pc := 0) X dX0_goRound_0 ?_
  refine ml_istore_n (pc := 1) X rfl hl (by decide) (lst' := [(2, .int (Int32.ofInt 0)), (0, .ref (base + (4 : Int).toNat)), (1, .int (Int32.ofInt x1))]) rfl dX0_goRound_1 (fun ls hl => ?_)
  obtain ⟨N0, hw⟩ := hw
  exact u_X0_goRound_2 X hn (fun σ   ls hl hw => u_X0_goRound_35 X hn σ   ls hl hw) N0 σ x1 0 h_x1 ⟨by decide, by decide⟩ _ (lv_sub hl [1, 2, 0] rfl) hw
set_option maxRecDepth 100000 in
theorem c_X0_goRound (l : Launch) (base : Nat) (D : va_G) (cA : Nat → ClassId) (n : Nat) (hn : 214 ≤ n) (σ : ml_St) (x1 : Int) (h_x1 : I32 x1) (Q : ml_St → Prop) (hw : f_X0_goRound σ x1 Q) : Met l yX0_goRound (Cond.code yX0_goRound cX0_goRound 3 none :: ml_T) rm_X0_goRound (va_Pc [.ref (base + (4 : Int).toNat), .int (Int32.ofInt x1)] (ml_U base D cA n σ)) (ml_Qv base D cA n Q) 0 0 (ml_A base) := by
  refine Met.ofW (cc := cX0_goRound) (maxL := 3) (ret := none) (by decide) rfl ?_
  intro p e s m args below meth c s₁ B hml hv
  obtain ⟨rfl, hP, hK, hok, hro⟩ := hv
  have X : ml_X p s m c meth _ D cA cX0_goRound 3 RX0 none := ⟨B.exec, B.bytes, hml, findClass_of_methodNamed B.named, fun w hw => atoms_spec (ws := Cond.code yX0_goRound cX0_goRound 3 none :: ml_T) B.pre w (List.mem_cons_of_mem _ hw), hK, B.notSynchronized, B.returns⟩
  have hl := lv_entry [.ref (base + (4 : Int).toNat), .int (Int32.ofInt x1)] (n := 3) (Nat.le_of_ble_eq_true rfl)
  rw [lg_entry_eq]
  generalize (lg_sl [.ref (base + (4 : Int).toNat), .int (Int32.ofInt x1)] ++ List.replicate (3 - (lg_sl [.ref (base + (4 : Int).toNat), .int (Int32.ofInt x1)]).length) Slot.unset).toArray = ls at hl ⊢
  have hl : lv_has ls 3 [(0, .ref (base + (4 : Int).toNat)), (1, .int (Int32.ofInt x1))] := hl
  unfold f_X0_goRound at hw
  exact u_X0_goRound_0 X hn σ x1 h_x1 _ (lv_sub hl [0, 1] rfl) hw s.heap [] hP va_S.rf hok hro
theorem dX11_rails_0 : decode cX11_rails 0 = .ok (.iload_n 1, 1) := by decide +kernel
theorem dX11_rails_1 : decode cX11_rails 1 = .ok (.iconst 2, 1) := by decide +kernel
theorem dX11_rails_2 : decode cX11_rails 2 = .ok (.if_icmp .lt 15, 3) := by decide +kernel
theorem dX11_rails_5 : decode cX11_rails 5 = .ok (.iload_n 1, 1) := by decide +kernel
theorem dX11_rails_6 : decode cX11_rails 6 = .ok (.iconst 5, 1) := by decide +kernel
theorem dX11_rails_7 : decode cX11_rails 7 = .ok (.if_icmp .gt 10, 3) := by decide +kernel
theorem dX11_rails_10 : decode cX11_rails 10 = .ok (.aload_n 0, 1) := by decide +kernel
theorem dX11_rails_11 : decode cX11_rails 11 = .ok (.getfield 86, 3) := by decide +kernel
theorem dX11_rails_14 : decode cX11_rails 14 = .ok (.ifCond .le 5, 3) := by decide +kernel
theorem dX11_rails_17 : decode cX11_rails 17 = .ok (.iconst 0, 1) := by decide +kernel
theorem dX11_rails_18 : decode cX11_rails 18 = .ok (.ireturn, 1) := by decide +kernel
theorem dX11_rails_19 : decode cX11_rails 19 = .ok (.aload_n 0, 1) := by decide +kernel
theorem dX11_rails_20 : decode cX11_rails 20 = .ok (.iload_n 1, 1) := by decide +kernel
theorem dX11_rails_21 : decode cX11_rails 21 = .ok (.putfield 82, 3) := by decide +kernel
theorem dX11_rails_24 : decode cX11_rails 24 = .ok (.aload_n 0, 1) := by decide +kernel
theorem dX11_rails_25 : decode cX11_rails 25 = .ok (.getfield 19, 3) := by decide +kernel
theorem dX11_rails_28 : decode cX11_rails 28 = .ok (.iload_n 1, 1) := by decide +kernel
theorem dX11_rails_29 : decode cX11_rails 29 = .ok (.invokevirtual 90, 3) := by decide +kernel
theorem dX11_rails_32 : decode cX11_rails 32 = .ok (.iconst 1, 1) := by decide +kernel
theorem dX11_rails_33 : decode cX11_rails 33 = .ok (.ireturn, 1) := by decide +kernel
def f_X11_rails_u17 (Q : Int → ml_St → Prop) (σ : ml_St) : Prop :=
Q 0 σ
def f_X11_rails_u0 (Q : Int → ml_St → Prop) (σ : ml_St) (x1 : Int) : Prop :=
(x1 < 2 →
f_X11_rails_u17 Q σ) ∧
(¬ (x1 < 2) →
(5 < x1 →
f_X11_rails_u17 Q σ) ∧
(¬ (5 < x1) →
∀ _ : I32 (σ 1 12),
(((σ 1 12) : Int) ≤ 0 →
∀ σ5, σ5 = ml_up σ 1 11 x1 →
f_X0_goRound σ5 x1 (fun σ6 =>
Q 1 σ6)) ∧
(¬ (((σ 1 12) : Int) ≤ 0) →
f_X11_rails_u17 Q σ)))
def f_X11_rails (σ : ml_St) (x1 : Int) (Q : Int → ml_St → Prop) : Prop := f_X11_rails_u0 Q σ x1
def rm_X11_rails : Room := { frames := 1, cells := 0, slots := 0, locals := 22 }
set_option maxRecDepth 100000 in
set_option maxHeartbeats 4000000 in
theorem u_X11_rails_17 {p : Program} {e : Env} {s : State} {m : MethodId} {args : Array Value} {below : List Frame} {meth : Method} {c : Code} {base : Nat} {D : va_G} {cA : Nat → ClassId} {n : Nat} {l : Launch} {Q : Int → ml_St → Prop} (X : ml_X p s m c meth args D cA cX11_rails 2 RX11 (some .boolean)) (hn : 214 ≤ n) (σ : ml_St) (ls : Array Slot) (hl : lv_has ls 2 []) (hw : f_X11_rails_u17 Q σ) : ml_V p l e rm_X11_rails s m args below meth c (MQ below (ml_Qi ml_B base D cA n Q) args s 0 0 (ml_A base)) base D cA 0 0 n n σ (F0 m 17 ls []) := by
  unfold f_X11_rails_u17 at hw
  refine ml_iconst (pc := 17) X dX11_rails_17 ?_
  exact ml_zret (pc := 18) X ⟨by decide, by decide⟩ hw dX11_rails_18
set_option maxRecDepth 100000 in
set_option maxHeartbeats 4000000 in
theorem u_X11_rails_0 {p : Program} {e : Env} {s : State} {m : MethodId} {args : Array Value} {below : List Frame} {meth : Method} {c : Code} {base : Nat} {D : va_G} {cA : Nat → ClassId} {n : Nat} {l : Launch} {Q : Int → ml_St → Prop} (X : ml_X p s m c meth args D cA cX11_rails 2 RX11 (some .boolean)) (hn : 214 ≤ n) (σ : ml_St) (x1 : Int) (h_x1 : I32 x1) (ls : Array Slot) (hl : lv_has ls 2 [(0, .ref (base + (1 : Int).toNat)), (1, .int (Int32.ofInt x1))]) (hw : f_X11_rails_u0 Q σ x1) : ml_V p l e rm_X11_rails s m args below meth c (MQ below (ml_Qi ml_B base D cA n Q) args s 0 0 (ml_A base)) base D cA 0 0 n n σ (F0 m 0 ls []) := by
  unfold f_X11_rails_u0 at hw
  refine ml_iload_n (pc := 0) X hl 1 rfl rfl dX11_rails_0 ?_
  refine ml_iconst (pc := 1) X dX11_rails_1 ?_
  refine ml_icmp_lt (pc := 2) (tgt := 17) X h_x1 ⟨by decide, by decide⟩ dX11_rails_2 (by decide) (fun c1 => ?_) (fun c1 => ?_)
  · have hw := hw.1 c1
    exact u_X11_rails_17 X hn σ   _ (lv_sub hl [] rfl) hw
  · have hw := hw.2 c1
    refine ml_iload_n (pc := 5) X hl 1 rfl rfl dX11_rails_5 ?_
    refine ml_iconst (pc := 6) X dX11_rails_6 ?_
    refine ml_icmp_gt (pc := 7) (tgt := 17) X h_x1 ⟨by decide, by decide⟩ dX11_rails_7 (by decide) (fun c2 => ?_) (fun c2 => ?_)
    · have hw := hw.1 c2
      exact u_X11_rails_17 X hn σ   _ (lv_sub hl [] rfl) hw
    · have hw := hw.2 c2
      refine ml_aload_n (pc := 10) X hl 0 rfl rfl dX11_rails_10 ?_
      refine gf_X11_86 (pc := 11) X (ml_c1 hn) dX11_rails_11 (fun r3 => ?_)
      have hw := hw r3
      refine ml_if_le (pc := 14) (tgt := 19) X r3 dX11_rails_14 (by decide) (fun c4 => ?_) (fun c4 => ?_)
      · have hw := hw.1 c4
        refine ml_aload_n (pc := 19) X hl 0 rfl rfl dX11_rails_19 ?_
        refine ml_iload_n (pc := 20) X hl 1 rfl rfl dX11_rails_20 ?_
        refine pf_X11_82 (pc := 21) X (ml_c1 hn) h_x1 dX11_rails_21 (fun σ5 g5 => ?_)
        have hw := hw σ5 g5
        refine ml_aload_n (pc := 24) X hl 0 rfl rfl dX11_rails_24 ?_
        refine gf_X11_19 (pc := 25) X (ml_c1 hn) dX11_rails_25 ?_
        refine ml_iload_n (pc := 28) X hl 1 rfl rfl dX11_rails_28 ?_
        refine ml_callvV (pc := 29) (rest := []) X [.int (Int32.ofInt x1)] (by decide) rfl (ml_c4 hn) (c_X0_goRound l base D cA n hn σ5 x1 h_x1 _ hw) cv_X11_90 ⟨rfl, rfl⟩ ⟨by decide, by decide⟩ rfl rfl hl (Nat.le_of_ble_eq_true rfl) ⟨Nat.zero_le _, Nat.zero_le _⟩ dX11_rails_29 (fun σ6 hw => ?_)
        refine ml_iconst (pc := 32) X dX11_rails_32 ?_
        exact ml_zret (pc := 33) X ⟨by decide, by decide⟩ hw dX11_rails_33
      · have hw := hw.2 c4
        exact u_X11_rails_17 X hn σ   _ (lv_sub hl [] rfl) hw
set_option maxRecDepth 100000 in
theorem c_X11_rails (l : Launch) (base : Nat) (D : va_G) (cA : Nat → ClassId) (n : Nat) (hn : 214 ≤ n) (σ : ml_St) (x1 : Int) (h_x1 : I32 x1) (Q : Int → ml_St → Prop) (hw : f_X11_rails σ x1 Q) : Met l yX11_rails (Cond.code yX11_rails cX11_rails 2 (some .boolean) :: ml_T) rm_X11_rails (va_Pc [.ref (base + (1 : Int).toNat), .int (Int32.ofInt x1)] (ml_U base D cA n σ)) (ml_Qi ml_B base D cA n Q) 0 0 (ml_A base) := by
  refine Met.ofW (cc := cX11_rails) (maxL := 2) (ret := (some .boolean)) (by decide) rfl ?_
  intro p e s m args below meth c s₁ B hml hv
  obtain ⟨rfl, hP, hK, hok, hro⟩ := hv
  have X : ml_X p s m c meth _ D cA cX11_rails 2 RX11 (some .boolean) := ⟨B.exec, B.bytes, hml, findClass_of_methodNamed B.named, fun w hw => atoms_spec (ws := Cond.code yX11_rails cX11_rails 2 (some .boolean) :: ml_T) B.pre w (List.mem_cons_of_mem _ hw), hK, B.notSynchronized, B.returns⟩
  have hl := lv_entry [.ref (base + (1 : Int).toNat), .int (Int32.ofInt x1)] (n := 2) (Nat.le_of_ble_eq_true rfl)
  rw [lg_entry_eq]
  generalize (lg_sl [.ref (base + (1 : Int).toNat), .int (Int32.ofInt x1)] ++ List.replicate (2 - (lg_sl [.ref (base + (1 : Int).toNat), .int (Int32.ofInt x1)]).length) Slot.unset).toArray = ls at hl ⊢
  have hl : lv_has ls 2 [(0, .ref (base + (1 : Int).toNat)), (1, .int (Int32.ofInt x1))] := hl
  unfold f_X11_rails at hw
  exact u_X11_rails_0 X hn σ x1 h_x1 _ (lv_sub hl [0, 1] rfl) hw s.heap [] hP va_S.rf hok hro
theorem dX8_add_0 : decode cX8_add 0 = .ok (.bipush 24, 2) := by decide +kernel
theorem dX8_add_2 : decode cX8_add 2 = .ok (.istore_n 2, 1) := by decide +kernel
theorem dX8_add_3 : decode cX8_add 3 = .ok (.iload_n 2, 1) := by decide +kernel
theorem dX8_add_4 : decode cX8_add 4 = .ok (.ifCond .lt 45, 3) := by decide +kernel
theorem dX8_add_7 : decode cX8_add 7 = .ok (.aload_n 0, 1) := by decide +kernel
theorem dX8_add_8 : decode cX8_add 8 = .ok (.getfield 15, 3) := by decide +kernel
theorem dX8_add_11 : decode cX8_add 11 = .ok (.sipush 200, 3) := by decide +kernel
theorem dX8_add_14 : decode cX8_add 14 = .ok (.if_icmp .ge 35, 3) := by decide +kernel
theorem dX8_add_17 : decode cX8_add 17 = .ok (.aload_n 0, 1) := by decide +kernel
theorem dX8_add_18 : decode cX8_add 18 = .ok (.getfield 9, 3) := by decide +kernel
theorem dX8_add_21 : decode cX8_add 21 = .ok (.aload_n 0, 1) := by decide +kernel
theorem dX8_add_22 : decode cX8_add 22 = .ok (.getfield 15, 3) := by decide +kernel
theorem dX8_add_25 : decode cX8_add 25 = .ok (.iload_n 1, 1) := by decide +kernel
theorem dX8_add_26 : decode cX8_add 26 = .ok (.iload_n 2, 1) := by decide +kernel
theorem dX8_add_27 : decode cX8_add 27 = .ok (.ishr, 1) := by decide +kernel
theorem dX8_add_28 : decode cX8_add 28 = .ok (.sipush 255, 3) := by decide +kernel
theorem dX8_add_31 : decode cX8_add 31 = .ok (.iand, 1) := by decide +kernel
theorem dX8_add_32 : decode cX8_add 32 = .ok (.iastore, 1) := by decide +kernel
theorem dX8_add_33 : decode cX8_add 33 = .ok (.aload_n 0, 1) := by decide +kernel
theorem dX8_add_34 : decode cX8_add 34 = .ok (.dup, 1) := by decide +kernel
theorem dX8_add_35 : decode cX8_add 35 = .ok (.getfield 15, 3) := by decide +kernel
theorem dX8_add_38 : decode cX8_add 38 = .ok (.iconst 1, 1) := by decide +kernel
theorem dX8_add_39 : decode cX8_add 39 = .ok (.iadd, 1) := by decide +kernel
theorem dX8_add_40 : decode cX8_add 40 = .ok (.putfield 15, 3) := by decide +kernel
theorem dX8_add_43 : decode cX8_add 43 = .ok (.iinc 2 (-8), 3) := by decide +kernel
theorem dX8_add_46 : decode cX8_add 46 = .ok (.goto (-43), 3) := by decide +kernel
theorem dX8_add_49 : decode cX8_add 49 = .ok (.return_, 1) := by decide +kernel
def f_X8_add_u3 (Q : ml_St → Prop) (K49 : ml_St → Prop) : Nat → ml_St → Int → Int → Prop
| 0, _, _, _ => False
| N + 1, σ, x1, x2 =>
(x2 < 0 →
K49 σ) ∧
(¬ (x2 < 0) →
∀ _ : I32 (σ 2 1),
(200 ≤ ((σ 2 1) : Int) →
K49 σ) ∧
(¬ (200 ≤ ((σ 2 1) : Int)) →
∀ _ : I32 (σ 2 1),
(0 : Int) ≤ (σ 2 1) ∧ ((σ 2 1) : Int) < 200 ∧
∀ σ5, σ5 = ml_up σ 3 (σ 2 1) (b_and (b_shr x1 x2) 255) →
∀ _ : I32 (σ5 2 1),
I32 ((σ5 2 1) + 1) ∧
∀ σ8, σ8 = ml_up σ5 2 1 ((σ5 2 1) + 1) →
I32 (x2 + (-8)) ∧
∀ y9 : Int, y9 = x2 + (-8) →
f_X8_add_u3 Q K49 N σ8 x1 y9))
def f_X8_add_u49 (Q : ml_St → Prop) (σ : ml_St) : Prop :=
Q σ
def f_X8_add_u0 (Q : ml_St → Prop) (σ : ml_St) (x1 : Int) : Prop :=
∃ N1, f_X8_add_u3 Q (f_X8_add_u49 Q) N1 σ x1 24
def f_X8_add (σ : ml_St) (x1 : Int) (Q : ml_St → Prop) : Prop := f_X8_add_u0 Q σ x1
def rm_X8_add : Room := { frames := 0, cells := 0, slots := 0, locals := 0 }
set_option maxRecDepth 100000 in
set_option maxHeartbeats 4000000 in
theorem u_X8_add_3 {p : Program} {e : Env} {s : State} {m : MethodId} {args : Array Value} {below : List Frame} {meth : Method} {c : Code} {base : Nat} {D : va_G} {cA : Nat → ClassId} {n : Nat} {l : Launch} {Q : ml_St → Prop} {K49 : ml_St → Prop} (X : ml_X p s m c meth args D cA cX8_add 3 RX8 none) (hn : 214 ≤ n) (hK49 : ∀ (σ : ml_St) (ls : Array Slot), lv_has ls 3 [] → K49 σ → ml_V p l e rm_X8_add s m args below meth c (MQ below (ml_Qv base D cA n Q) args s 0 0 (ml_A base)) base D cA 0 0 n n σ (F0 m 49 ls [])) : ∀ (N : Nat) (σ : ml_St) (x1 : Int) (x2 : Int) (h_x1 : I32 x1) (h_x2 : I32 x2) (ls : Array Slot), lv_has ls 3 [(0, .ref (base + (2 : Int).toNat)), (1, .int (Int32.ofInt x1)), (2, .int (Int32.ofInt x2))] → f_X8_add_u3 Q K49 N σ x1 x2 → ml_V p l e rm_X8_add s m args below meth c (MQ below (ml_Qv base D cA n Q) args s 0 0 (ml_A base)) base D cA 0 0 n n σ (F0 m 3 ls []) := by
  intro N
  induction N with
  | zero => intro σ x1 x2 h_x1 h_x2 ls hl hw; exact False.elim hw
  | succ N ih =>
    intro σ x1 x2 h_x1 h_x2 ls hl hw
    unfold f_X8_add_u3 at hw
    refine ml_iload_n (pc := 3) X hl 2 rfl rfl dX8_add_3 ?_
    refine ml_if_lt (pc := 4) (tgt := 49) X h_x2 dX8_add_4 (by decide) (fun c1 => ?_) (fun c1 => ?_)
    · have hw := hw.1 c1
      exact hK49 σ   _ (lv_sub hl [] rfl) hw
    · have hw := hw.2 c1
      refine ml_aload_n (pc := 7) X hl 0 rfl rfl dX8_add_7 ?_
      refine gf_X8_15 (pc := 8) X (ml_c2 hn) dX8_add_8 (fun r2 => ?_)
      have hw := hw r2
      refine ml_sipush (pc := 11) X dX8_add_11 (by decide) ?_
      refine ml_icmp_ge (pc := 14) (tgt := 49) X r2 ⟨by decide, by decide⟩ dX8_add_14 (by decide) (fun c3 => ?_) (fun c3 => ?_)
      · have hw := hw.1 c3
        exact hK49 σ   _ (lv_sub hl [] rfl) hw
      · have hw := hw.2 c3
        refine ml_aload_n (pc := 17) X hl 0 rfl rfl dX8_add_17 ?_
        refine gf_X8_9 (pc := 18) X (ml_c2 hn) dX8_add_18 ?_
        refine ml_aload_n (pc := 21) X hl 0 rfl rfl dX8_add_21 ?_
        refine gf_X8_15 (pc := 22) X (ml_c2 hn) dX8_add_22 (fun r4 => ?_)
        have hw := hw r4
        refine ml_iload_n (pc := 25) X hl 1 rfl rfl dX8_add_25 ?_
        refine ml_iload_n (pc := 26) X hl 2 rfl rfl dX8_add_26 ?_
        refine ml_ishr (pc := 27) X dX8_add_27 ?_
        refine ml_sipush (pc := 28) X dX8_add_28 (by decide) ?_
        refine ml_iand (pc := 31) X dX8_add_31 ?_
        obtain ⟨a5, b5, hw⟩ := hw
        refine ml_iast (pc := 32) (N := 200) X (ml_c3 hn) a5 b5 (b_and_r _ _) dX8_add_32 (fun σ5 g5 => ?_)
        have hw := hw σ5 g5
        refine ml_aload_n (pc := 33) X hl 0 rfl rfl dX8_add_33 ?_
        refine ml_dup (pc := 34) X dX8_add_34 rfl ?_
        refine gf_X8_15 (pc := 35) X (ml_c2 hn) dX8_add_35 (fun r6 => ?_)
        have hw := hw r6
        refine ml_iconst (pc := 38) X dX8_add_38 ?_
        obtain ⟨v7, hw⟩ := hw
        refine ml_iadd (pc := 39) X dX8_add_39 ?_
        refine pf_X8_15 (pc := 40) X (ml_c2 hn) v7 dX8_add_40 (fun σ8 g8 => ?_)
        have hw := hw σ8 g8
        obtain ⟨v9, hw⟩ := hw
        obtain ⟨y9, e9⟩ : ∃ y : Int, y = x2 + (-8) := ⟨_, rfl⟩
        have hw := hw y9 e9
        rw [← e9] at v9
        refine ml_iinc (pc := 43) X e9 hl 2 rfl (by decide) (lst' := [(2, .int (Int32.ofInt y9)), (0, .ref (base + (2 : Int).toNat)), (1, .int (Int32.ofInt x1))]) rfl dX8_add_43 (fun ls hl => ?_)
        refine ml_goto (pc := 46) (tgt := 3) X dX8_add_46 (by decide) ?_
        exact ih σ8 x1 y9 h_x1 v9 _ (lv_sub hl [1, 2, 0] rfl) hw
set_option maxRecDepth 100000 in
set_option maxHeartbeats 4000000 in
theorem u_X8_add_49 {p : Program} {e : Env} {s : State} {m : MethodId} {args : Array Value} {below : List Frame} {meth : Method} {c : Code} {base : Nat} {D : va_G} {cA : Nat → ClassId} {n : Nat} {l : Launch} {Q : ml_St → Prop} (X : ml_X p s m c meth args D cA cX8_add 3 RX8 none) (hn : 214 ≤ n) (σ : ml_St) (ls : Array Slot) (hl : lv_has ls 3 []) (hw : f_X8_add_u49 Q σ) : ml_V p l e rm_X8_add s m args below meth c (MQ below (ml_Qv base D cA n Q) args s 0 0 (ml_A base)) base D cA 0 0 n n σ (F0 m 49 ls []) := by
  unfold f_X8_add_u49 at hw
  exact ml_vret (pc := 49) X hw dX8_add_49
set_option maxRecDepth 100000 in
set_option maxHeartbeats 4000000 in
theorem u_X8_add_0 {p : Program} {e : Env} {s : State} {m : MethodId} {args : Array Value} {below : List Frame} {meth : Method} {c : Code} {base : Nat} {D : va_G} {cA : Nat → ClassId} {n : Nat} {l : Launch} {Q : ml_St → Prop} (X : ml_X p s m c meth args D cA cX8_add 3 RX8 none) (hn : 214 ≤ n) (σ : ml_St) (x1 : Int) (h_x1 : I32 x1) (ls : Array Slot) (hl : lv_has ls 3 [(0, .ref (base + (2 : Int).toNat)), (1, .int (Int32.ofInt x1))]) (hw : f_X8_add_u0 Q σ x1) : ml_V p l e rm_X8_add s m args below meth c (MQ below (ml_Qv base D cA n Q) args s 0 0 (ml_A base)) base D cA 0 0 n n σ (F0 m 0 ls []) := by
  unfold f_X8_add_u0 at hw
  refine ml_bipush (pc := 0) X dX8_add_0 (by decide) ?_
  refine ml_istore_n (pc := 2) X rfl hl (by decide) (lst' := [(2, .int (Int32.ofInt 24)), (0, .ref (base + (2 : Int).toNat)), (1, .int (Int32.ofInt x1))]) rfl dX8_add_2 (fun ls hl => ?_)
  obtain ⟨N0, hw⟩ := hw
  exact u_X8_add_3 X hn (fun σ   ls hl hw => u_X8_add_49 X hn σ   ls hl hw) N0 σ x1 24 h_x1 ⟨by decide, by decide⟩ _ (lv_sub hl [1, 2, 0] rfl) hw
set_option maxRecDepth 100000 in
theorem c_X8_add (l : Launch) (base : Nat) (D : va_G) (cA : Nat → ClassId) (n : Nat) (hn : 214 ≤ n) (σ : ml_St) (x1 : Int) (h_x1 : I32 x1) (Q : ml_St → Prop) (hw : f_X8_add σ x1 Q) : Met l yX8_add (Cond.code yX8_add cX8_add 3 none :: ml_T) rm_X8_add (va_Pc [.ref (base + (2 : Int).toNat), .int (Int32.ofInt x1)] (ml_U base D cA n σ)) (ml_Qv base D cA n Q) 0 0 (ml_A base) := by
  refine Met.ofW (cc := cX8_add) (maxL := 3) (ret := none) (by decide) rfl ?_
  intro p e s m args below meth c s₁ B hml hv
  obtain ⟨rfl, hP, hK, hok, hro⟩ := hv
  have X : ml_X p s m c meth _ D cA cX8_add 3 RX8 none := ⟨B.exec, B.bytes, hml, findClass_of_methodNamed B.named, fun w hw => atoms_spec (ws := Cond.code yX8_add cX8_add 3 none :: ml_T) B.pre w (List.mem_cons_of_mem _ hw), hK, B.notSynchronized, B.returns⟩
  have hl := lv_entry [.ref (base + (2 : Int).toNat), .int (Int32.ofInt x1)] (n := 3) (Nat.le_of_ble_eq_true rfl)
  rw [lg_entry_eq]
  generalize (lg_sl [.ref (base + (2 : Int).toNat), .int (Int32.ofInt x1)] ++ List.replicate (3 - (lg_sl [.ref (base + (2 : Int).toNat), .int (Int32.ofInt x1)]).length) Slot.unset).toArray = ls at hl ⊢
  have hl : lv_has ls 3 [(0, .ref (base + (2 : Int).toNat)), (1, .int (Int32.ofInt x1))] := hl
  unfold f_X8_add at hw
  exact u_X8_add_0 X hn σ x1 h_x1 _ (lv_sub hl [0, 1] rfl) hw s.heap [] hP va_S.rf hok hro
theorem dX11_feed_0 : decode cX11_feed 0 = .ok (.aload_n 0, 1) := by decide +kernel
theorem dX11_feed_1 : decode cX11_feed 1 = .ok (.getfield 10, 3) := by decide +kernel
theorem dX11_feed_4 : decode cX11_feed 4 = .ok (.getfield 94, 3) := by decide +kernel
theorem dX11_feed_7 : decode cX11_feed 7 = .ok (.bipush 20, 2) := by decide +kernel
theorem dX11_feed_9 : decode cX11_feed 9 = .ok (.iadd, 1) := by decide +kernel
theorem dX11_feed_10 : decode cX11_feed 10 = .ok (.sipush 200, 3) := by decide +kernel
theorem dX11_feed_13 : decode cX11_feed 13 = .ok (.if_icmp .le 5, 3) := by decide +kernel
theorem dX11_feed_16 : decode cX11_feed 16 = .ok (.iconst (-1), 1) := by decide +kernel
theorem dX11_feed_17 : decode cX11_feed 17 = .ok (.ireturn, 1) := by decide +kernel
theorem dX11_feed_18 : decode cX11_feed 18 = .ok (.aload_n 0, 1) := by decide +kernel
theorem dX11_feed_19 : decode cX11_feed 19 = .ok (.getfield 10, 3) := by decide +kernel
theorem dX11_feed_22 : decode cX11_feed 22 = .ok (.iload_n 1, 1) := by decide +kernel
theorem dX11_feed_23 : decode cX11_feed 23 = .ok (.invokevirtual 97, 3) := by decide +kernel
theorem dX11_feed_26 : decode cX11_feed 26 = .ok (.aload_n 0, 1) := by decide +kernel
theorem dX11_feed_27 : decode cX11_feed 27 = .ok (.getfield 10, 3) := by decide +kernel
theorem dX11_feed_30 : decode cX11_feed 30 = .ok (.iload_n 2, 1) := by decide +kernel
theorem dX11_feed_31 : decode cX11_feed 31 = .ok (.invokevirtual 97, 3) := by decide +kernel
theorem dX11_feed_34 : decode cX11_feed 34 = .ok (.aload_n 0, 1) := by decide +kernel
theorem dX11_feed_35 : decode cX11_feed 35 = .ok (.getfield 10, 3) := by decide +kernel
theorem dX11_feed_38 : decode cX11_feed 38 = .ok (.iload_n 3, 1) := by decide +kernel
theorem dX11_feed_39 : decode cX11_feed 39 = .ok (.invokevirtual 97, 3) := by decide +kernel
theorem dX11_feed_42 : decode cX11_feed 42 = .ok (.aload_n 0, 1) := by decide +kernel
theorem dX11_feed_43 : decode cX11_feed 43 = .ok (.getfield 10, 3) := by decide +kernel
theorem dX11_feed_46 : decode cX11_feed 46 = .ok (.iload 4, 2) := by decide +kernel
theorem dX11_feed_48 : decode cX11_feed 48 = .ok (.invokevirtual 97, 3) := by decide +kernel
theorem dX11_feed_51 : decode cX11_feed 51 = .ok (.aload_n 0, 1) := by decide +kernel
theorem dX11_feed_52 : decode cX11_feed 52 = .ok (.getfield 10, 3) := by decide +kernel
theorem dX11_feed_55 : decode cX11_feed 55 = .ok (.iload 5, 2) := by decide +kernel
theorem dX11_feed_57 : decode cX11_feed 57 = .ok (.invokevirtual 97, 3) := by decide +kernel
theorem dX11_feed_60 : decode cX11_feed 60 = .ok (.aload_n 0, 1) := by decide +kernel
theorem dX11_feed_61 : decode cX11_feed 61 = .ok (.getfield 10, 3) := by decide +kernel
theorem dX11_feed_64 : decode cX11_feed 64 = .ok (.getfield 94, 3) := by decide +kernel
theorem dX11_feed_67 : decode cX11_feed 67 = .ok (.ireturn, 1) := by decide +kernel
def f_X11_feed_u0 (Q : Int → ml_St → Prop) (σ : ml_St) (x1 : Int) (x2 : Int) (x3 : Int) (x4 : Int) (x5 : Int) : Prop :=
∀ _ : I32 (σ 2 1),
I32 ((σ 2 1) + 20) ∧
((((σ 2 1) + 20) : Int) ≤ 200 →
f_X8_add σ x1 (fun σ4 =>
f_X8_add σ4 x2 (fun σ5 =>
f_X8_add σ5 x3 (fun σ6 =>
f_X8_add σ6 x4 (fun σ7 =>
f_X8_add σ7 x5 (fun σ8 =>
∀ _ : I32 (σ8 2 1),
Q (σ8 2 1) σ8)))))) ∧
(¬ ((((σ 2 1) + 20) : Int) ≤ 200) →
Q (-1) σ)
def f_X11_feed (σ : ml_St) (x1 : Int) (x2 : Int) (x3 : Int) (x4 : Int) (x5 : Int) (Q : Int → ml_St → Prop) : Prop := f_X11_feed_u0 Q σ x1 x2 x3 x4 x5
def rm_X11_feed : Room := { frames := 1, cells := 0, slots := 0, locals := 22 }
set_option maxRecDepth 100000 in
set_option maxHeartbeats 4000000 in
theorem u_X11_feed_0 {p : Program} {e : Env} {s : State} {m : MethodId} {args : Array Value} {below : List Frame} {meth : Method} {c : Code} {base : Nat} {D : va_G} {cA : Nat → ClassId} {n : Nat} {l : Launch} {Q : Int → ml_St → Prop} (X : ml_X p s m c meth args D cA cX11_feed 6 RX11 (some .int)) (hn : 214 ≤ n) (σ : ml_St) (x1 : Int) (x2 : Int) (x3 : Int) (x4 : Int) (x5 : Int) (h_x1 : I32 x1) (h_x2 : I32 x2) (h_x3 : I32 x3) (h_x4 : I32 x4) (h_x5 : I32 x5) (ls : Array Slot) (hl : lv_has ls 6 [(0, .ref (base + (1 : Int).toNat)), (1, .int (Int32.ofInt x1)), (2, .int (Int32.ofInt x2)), (3, .int (Int32.ofInt x3)), (4, .int (Int32.ofInt x4)), (5, .int (Int32.ofInt x5))]) (hw : f_X11_feed_u0 Q σ x1 x2 x3 x4 x5) : ml_V p l e rm_X11_feed s m args below meth c (MQ below (ml_Qi I32 base D cA n Q) args s 0 0 (ml_A base)) base D cA 0 0 n n σ (F0 m 0 ls []) := by
  unfold f_X11_feed_u0 at hw
  refine ml_aload_n (pc := 0) X hl 0 rfl rfl dX11_feed_0 ?_
  refine gf_X11_10 (pc := 1) X (ml_c1 hn) dX11_feed_1 ?_
  refine gf_X11_94 (pc := 4) X (ml_c2 hn) dX11_feed_4 (fun r1 => ?_)
  have hw := hw r1
  refine ml_bipush (pc := 7) X dX11_feed_7 (by decide) ?_
  obtain ⟨v2, hw⟩ := hw
  refine ml_iadd (pc := 9) X dX11_feed_9 ?_
  refine ml_sipush (pc := 10) X dX11_feed_10 (by decide) ?_
  refine ml_icmp_le (pc := 13) (tgt := 18) X v2 ⟨by decide, by decide⟩ dX11_feed_13 (by decide) (fun c3 => ?_) (fun c3 => ?_)
  · have hw := hw.1 c3
    refine ml_aload_n (pc := 18) X hl 0 rfl rfl dX11_feed_18 ?_
    refine gf_X11_10 (pc := 19) X (ml_c1 hn) dX11_feed_19 ?_
    refine ml_iload_n (pc := 22) X hl 1 rfl rfl dX11_feed_22 ?_
    refine ml_callvV (pc := 23) (rest := []) X [.int (Int32.ofInt x1)] (by decide) rfl (ml_c2 hn) (c_X8_add l base D cA n hn σ x1 h_x1 _ hw) cv_X11_97 ⟨rfl, rfl⟩ ⟨by decide, by decide⟩ rfl rfl hl (Nat.le_of_ble_eq_true rfl) ⟨Nat.zero_le _, Nat.zero_le _⟩ dX11_feed_23 (fun σ4 hw => ?_)
    refine ml_aload_n (pc := 26) X hl 0 rfl rfl dX11_feed_26 ?_
    refine gf_X11_10 (pc := 27) X (ml_c1 hn) dX11_feed_27 ?_
    refine ml_iload_n (pc := 30) X hl 2 rfl rfl dX11_feed_30 ?_
    refine ml_callvV (pc := 31) (rest := []) X [.int (Int32.ofInt x2)] (by decide) rfl (ml_c2 hn) (c_X8_add l base D cA n hn σ4 x2 h_x2 _ hw) cv_X11_97 ⟨rfl, rfl⟩ ⟨by decide, by decide⟩ rfl rfl hl (Nat.le_of_ble_eq_true rfl) ⟨Nat.zero_le _, Nat.zero_le _⟩ dX11_feed_31 (fun σ5 hw => ?_)
    refine ml_aload_n (pc := 34) X hl 0 rfl rfl dX11_feed_34 ?_
    refine gf_X11_10 (pc := 35) X (ml_c1 hn) dX11_feed_35 ?_
    refine ml_iload_n (pc := 38) X hl 3 rfl rfl dX11_feed_38 ?_
    refine ml_callvV (pc := 39) (rest := []) X [.int (Int32.ofInt x3)] (by decide) rfl (ml_c2 hn) (c_X8_add l base D cA n hn σ5 x3 h_x3 _ hw) cv_X11_97 ⟨rfl, rfl⟩ ⟨by decide, by decide⟩ rfl rfl hl (Nat.le_of_ble_eq_true rfl) ⟨Nat.zero_le _, Nat.zero_le _⟩ dX11_feed_39 (fun σ6 hw => ?_)
    refine ml_aload_n (pc := 42) X hl 0 rfl rfl dX11_feed_42 ?_
    refine gf_X11_10 (pc := 43) X (ml_c1 hn) dX11_feed_43 ?_
    refine ml_iload (pc := 46) X hl 4 rfl dX11_feed_46 ?_
    refine ml_callvV (pc := 48) (rest := []) X [.int (Int32.ofInt x4)] (by decide) rfl (ml_c2 hn) (c_X8_add l base D cA n hn σ6 x4 h_x4 _ hw) cv_X11_97 ⟨rfl, rfl⟩ ⟨by decide, by decide⟩ rfl rfl hl (Nat.le_of_ble_eq_true rfl) ⟨Nat.zero_le _, Nat.zero_le _⟩ dX11_feed_48 (fun σ7 hw => ?_)
    refine ml_aload_n (pc := 51) X hl 0 rfl rfl dX11_feed_51 ?_
    refine gf_X11_10 (pc := 52) X (ml_c1 hn) dX11_feed_52 ?_
    refine ml_iload (pc := 55) X hl 5 rfl dX11_feed_55 ?_
    refine ml_callvV (pc := 57) (rest := []) X [.int (Int32.ofInt x5)] (by decide) rfl (ml_c2 hn) (c_X8_add l base D cA n hn σ7 x5 h_x5 _ hw) cv_X11_97 ⟨rfl, rfl⟩ ⟨by decide, by decide⟩ rfl rfl hl (Nat.le_of_ble_eq_true rfl) ⟨Nat.zero_le _, Nat.zero_le _⟩ dX11_feed_57 (fun σ8 hw => ?_)
    refine ml_aload_n (pc := 60) X hl 0 rfl rfl dX11_feed_60 ?_
    refine gf_X11_10 (pc := 61) X (ml_c1 hn) dX11_feed_61 ?_
    refine gf_X11_94 (pc := 64) X (ml_c2 hn) dX11_feed_64 (fun r9 => ?_)
    have hw := hw r9
    exact ml_iret (pc := 67) X r9 hw dX11_feed_67
  · have hw := hw.2 c3
    refine ml_iconst (pc := 16) X dX11_feed_16 ?_
    exact ml_iret (pc := 17) X ⟨by decide, by decide⟩ hw dX11_feed_17
set_option maxRecDepth 100000 in
theorem c_X11_feed (l : Launch) (base : Nat) (D : va_G) (cA : Nat → ClassId) (n : Nat) (hn : 214 ≤ n) (σ : ml_St) (x1 : Int) (x2 : Int) (x3 : Int) (x4 : Int) (x5 : Int) (h_x1 : I32 x1) (h_x2 : I32 x2) (h_x3 : I32 x3) (h_x4 : I32 x4) (h_x5 : I32 x5) (Q : Int → ml_St → Prop) (hw : f_X11_feed σ x1 x2 x3 x4 x5 Q) : Met l yX11_feed (Cond.code yX11_feed cX11_feed 6 (some .int) :: ml_T) rm_X11_feed (va_Pc [.ref (base + (1 : Int).toNat), .int (Int32.ofInt x1), .int (Int32.ofInt x2), .int (Int32.ofInt x3), .int (Int32.ofInt x4), .int (Int32.ofInt x5)] (ml_U base D cA n σ)) (ml_Qi I32 base D cA n Q) 0 0 (ml_A base) := by
  refine Met.ofW (cc := cX11_feed) (maxL := 6) (ret := (some .int)) (by decide) rfl ?_
  intro p e s m args below meth c s₁ B hml hv
  obtain ⟨rfl, hP, hK, hok, hro⟩ := hv
  have X : ml_X p s m c meth _ D cA cX11_feed 6 RX11 (some .int) := ⟨B.exec, B.bytes, hml, findClass_of_methodNamed B.named, fun w hw => atoms_spec (ws := Cond.code yX11_feed cX11_feed 6 (some .int) :: ml_T) B.pre w (List.mem_cons_of_mem _ hw), hK, B.notSynchronized, B.returns⟩
  have hl := lv_entry [.ref (base + (1 : Int).toNat), .int (Int32.ofInt x1), .int (Int32.ofInt x2), .int (Int32.ofInt x3), .int (Int32.ofInt x4), .int (Int32.ofInt x5)] (n := 6) (Nat.le_of_ble_eq_true rfl)
  rw [lg_entry_eq]
  generalize (lg_sl [.ref (base + (1 : Int).toNat), .int (Int32.ofInt x1), .int (Int32.ofInt x2), .int (Int32.ofInt x3), .int (Int32.ofInt x4), .int (Int32.ofInt x5)] ++ List.replicate (6 - (lg_sl [.ref (base + (1 : Int).toNat), .int (Int32.ofInt x1), .int (Int32.ofInt x2), .int (Int32.ofInt x3), .int (Int32.ofInt x4), .int (Int32.ofInt x5)]).length) Slot.unset).toArray = ls at hl ⊢
  have hl : lv_has ls 6 [(0, .ref (base + (1 : Int).toNat)), (1, .int (Int32.ofInt x1)), (2, .int (Int32.ofInt x2)), (3, .int (Int32.ofInt x3)), (4, .int (Int32.ofInt x4)), (5, .int (Int32.ofInt x5))] := hl
  unfold f_X11_feed at hw
  exact u_X11_feed_0 X hn σ x1 x2 x3 x4 x5 h_x1 h_x2 h_x3 h_x4 h_x5 _ (lv_sub hl [0, 1, 2, 3, 4, 5] rfl) hw s.heap [] hP va_S.rf hok hro
theorem dX11_tell_0 : decode cX11_tell 0 = .ok (.iload_n 2, 1) := by decide +kernel
theorem dX11_tell_1 : decode cX11_tell 1 = .ok (.iconst 1, 1) := by decide +kernel
theorem dX11_tell_2 : decode cX11_tell 2 = .ok (.if_icmp .lt 20, 3) := by decide +kernel
theorem dX11_tell_5 : decode cX11_tell 5 = .ok (.iload_n 2, 1) := by decide +kernel
theorem dX11_tell_6 : decode cX11_tell 6 = .ok (.bipush 100, 2) := by decide +kernel
theorem dX11_tell_8 : decode cX11_tell 8 = .ok (.if_icmp .gt 14, 3) := by decide +kernel
theorem dX11_tell_11 : decode cX11_tell 11 = .ok (.aload_n 0, 1) := by decide +kernel
theorem dX11_tell_12 : decode cX11_tell 12 = .ok (.getfield 10, 3) := by decide +kernel
theorem dX11_tell_15 : decode cX11_tell 15 = .ok (.getfield 94, 3) := by decide +kernel
theorem dX11_tell_18 : decode cX11_tell 18 = .ok (.iload_n 2, 1) := by decide +kernel
theorem dX11_tell_19 : decode cX11_tell 19 = .ok (.if_icmp .ge 5, 3) := by decide +kernel
theorem dX11_tell_22 : decode cX11_tell 22 = .ok (.iconst (-1), 1) := by decide +kernel
theorem dX11_tell_23 : decode cX11_tell 23 = .ok (.ireturn, 1) := by decide +kernel
theorem dX11_tell_24 : decode cX11_tell 24 = .ok (.iconst 0, 1) := by decide +kernel
theorem dX11_tell_25 : decode cX11_tell 25 = .ok (.istore_n 3, 1) := by decide +kernel
theorem dX11_tell_26 : decode cX11_tell 26 = .ok (.iload_n 3, 1) := by decide +kernel
theorem dX11_tell_27 : decode cX11_tell 27 = .ok (.iload_n 2, 1) := by decide +kernel
theorem dX11_tell_28 : decode cX11_tell 28 = .ok (.if_icmp .ge 25, 3) := by decide +kernel
theorem dX11_tell_31 : decode cX11_tell 31 = .ok (.aload_n 0, 1) := by decide +kernel
theorem dX11_tell_32 : decode cX11_tell 32 = .ok (.getfield 71, 3) := by decide +kernel
theorem dX11_tell_35 : decode cX11_tell 35 = .ok (.iload_n 3, 1) := by decide +kernel
theorem dX11_tell_36 : decode cX11_tell 36 = .ok (.aload_n 0, 1) := by decide +kernel
theorem dX11_tell_37 : decode cX11_tell 37 = .ok (.getfield 10, 3) := by decide +kernel
theorem dX11_tell_40 : decode cX11_tell 40 = .ok (.getfield 275, 3) := by decide +kernel
theorem dX11_tell_43 : decode cX11_tell 43 = .ok (.iload_n 3, 1) := by decide +kernel
theorem dX11_tell_44 : decode cX11_tell 44 = .ok (.iaload, 1) := by decide +kernel
theorem dX11_tell_45 : decode cX11_tell 45 = .ok (.i2b, 1) := by decide +kernel
theorem dX11_tell_46 : decode cX11_tell 46 = .ok (.bastore, 1) := by decide +kernel
theorem dX11_tell_47 : decode cX11_tell 47 = .ok (.iinc 3 1, 3) := by decide +kernel
theorem dX11_tell_50 : decode cX11_tell 50 = .ok (.goto (-24), 3) := by decide +kernel
theorem dX11_tell_53 : decode cX11_tell 53 = .ok (.aload_n 0, 1) := by decide +kernel
theorem dX11_tell_54 : decode cX11_tell 54 = .ok (.getfield 10, 3) := by decide +kernel
theorem dX11_tell_57 : decode cX11_tell 57 = .ok (.iconst 0, 1) := by decide +kernel
theorem dX11_tell_58 : decode cX11_tell 58 = .ok (.putfield 94, 3) := by decide +kernel
theorem dX11_tell_61 : decode cX11_tell 61 = .ok (.aload_n 0, 1) := by decide +kernel
theorem dX11_tell_62 : decode cX11_tell 62 = .ok (.getfield 26, 3) := by decide +kernel
theorem dX11_tell_65 : decode cX11_tell 65 = .ok (.aload_n 0, 1) := by decide +kernel
theorem dX11_tell_66 : decode cX11_tell 66 = .ok (.getfield 71, 3) := by decide +kernel
theorem dX11_tell_69 : decode cX11_tell 69 = .ok (.iload_n 2, 1) := by decide +kernel
theorem dX11_tell_70 : decode cX11_tell 70 = .ok (.aload_n 0, 1) := by decide +kernel
theorem dX11_tell_71 : decode cX11_tell 71 = .ok (.getfield 82, 3) := by decide +kernel
theorem dX11_tell_74 : decode cX11_tell 74 = .ok (.iload_n 1, 1) := by decide +kernel
theorem dX11_tell_75 : decode cX11_tell 75 = .ok (.invokevirtual 281, 3) := by decide +kernel
theorem dX11_tell_78 : decode cX11_tell 78 = .ok (.istore_n 3, 1) := by decide +kernel
theorem dX11_tell_79 : decode cX11_tell 79 = .ok (.iload_n 3, 1) := by decide +kernel
theorem dX11_tell_80 : decode cX11_tell 80 = .ok (.ifCond .eq 5, 3) := by decide +kernel
theorem dX11_tell_83 : decode cX11_tell 83 = .ok (.iload_n 3, 1) := by decide +kernel
theorem dX11_tell_84 : decode cX11_tell 84 = .ok (.ireturn, 1) := by decide +kernel
theorem dX11_tell_85 : decode cX11_tell 85 = .ok (.aload_n 0, 1) := by decide +kernel
theorem dX11_tell_86 : decode cX11_tell 86 = .ok (.getfield 33, 3) := by decide +kernel
theorem dX11_tell_89 : decode cX11_tell 89 = .ok (.aload_n 0, 1) := by decide +kernel
theorem dX11_tell_90 : decode cX11_tell 90 = .ok (.getfield 71, 3) := by decide +kernel
theorem dX11_tell_93 : decode cX11_tell 93 = .ok (.iload_n 2, 1) := by decide +kernel
theorem dX11_tell_94 : decode cX11_tell 94 = .ok (.aload_n 0, 1) := by decide +kernel
theorem dX11_tell_95 : decode cX11_tell 95 = .ok (.getfield 67, 3) := by decide +kernel
theorem dX11_tell_98 : decode cX11_tell 98 = .ok (.aload_n 0, 1) := by decide +kernel
theorem dX11_tell_99 : decode cX11_tell 99 = .ok (.getfield 78, 3) := by decide +kernel
theorem dX11_tell_102 : decode cX11_tell 102 = .ok (.aload_n 0, 1) := by decide +kernel
theorem dX11_tell_103 : decode cX11_tell 103 = .ok (.getfield 82, 3) := by decide +kernel
theorem dX11_tell_106 : decode cX11_tell 106 = .ok (.invokevirtual 285, 3) := by decide +kernel
theorem dX11_tell_109 : decode cX11_tell 109 = .ok (.aload_n 0, 1) := by decide +kernel
theorem dX11_tell_110 : decode cX11_tell 110 = .ok (.getfield 78, 3) := by decide +kernel
theorem dX11_tell_113 : decode cX11_tell 113 = .ok (.invokevirtual 215, 3) := by decide +kernel
theorem dX11_tell_116 : decode cX11_tell 116 = .ok (.ifCond .eq 9, 3) := by decide +kernel
theorem dX11_tell_119 : decode cX11_tell 119 = .ok (.iconst 5, 1) := by decide +kernel
theorem dX11_tell_120 : decode cX11_tell 120 = .ok (.iload_n 2, 1) := by decide +kernel
theorem dX11_tell_121 : decode cX11_tell 121 = .ok (.invokestatic 289, 3) := by decide +kernel
theorem dX11_tell_124 : decode cX11_tell 124 = .ok (.ireturn, 1) := by decide +kernel
theorem dX11_tell_125 : decode cX11_tell 125 = .ok (.aload_n 0, 1) := by decide +kernel
theorem dX11_tell_126 : decode cX11_tell 126 = .ok (.getfield 67, 3) := by decide +kernel
theorem dX11_tell_129 : decode cX11_tell 129 = .ok (.iload_n 1, 1) := by decide +kernel
theorem dX11_tell_130 : decode cX11_tell 130 = .ok (.aaload, 1) := by decide +kernel
theorem dX11_tell_131 : decode cX11_tell 131 = .ok (.aload_n 0, 1) := by decide +kernel
theorem dX11_tell_132 : decode cX11_tell 132 = .ok (.getfield 71, 3) := by decide +kernel
theorem dX11_tell_135 : decode cX11_tell 135 = .ok (.iload_n 2, 1) := by decide +kernel
theorem dX11_tell_136 : decode cX11_tell 136 = .ok (.invokevirtual 292, 3) := by decide +kernel
theorem dX11_tell_139 : decode cX11_tell 139 = .ok (.aload_n 0, 1) := by decide +kernel
theorem dX11_tell_140 : decode cX11_tell 140 = .ok (.aload_n 0, 1) := by decide +kernel
theorem dX11_tell_141 : decode cX11_tell 141 = .ok (.getfield 86, 3) := by decide +kernel
theorem dX11_tell_144 : decode cX11_tell 144 = .ok (.iload_n 1, 1) := by decide +kernel
theorem dX11_tell_145 : decode cX11_tell 145 = .ok (.iconst 1, 1) := by decide +kernel
theorem dX11_tell_146 : decode cX11_tell 146 = .ok (.iadd, 1) := by decide +kernel
theorem dX11_tell_147 : decode cX11_tell 147 = .ok (.invokestatic 296, 3) := by decide +kernel
theorem dX11_tell_150 : decode cX11_tell 150 = .ok (.putfield 86, 3) := by decide +kernel
theorem dX11_tell_153 : decode cX11_tell 153 = .ok (.aload_n 0, 1) := by decide +kernel
theorem dX11_tell_154 : decode cX11_tell 154 = .ok (.iload_n 1, 1) := by decide +kernel
theorem dX11_tell_155 : decode cX11_tell 155 = .ok (.invokevirtual 301, 3) := by decide +kernel
theorem dX11_tell_158 : decode cX11_tell 158 = .ok (.iload_n 1, 1) := by decide +kernel
theorem dX11_tell_159 : decode cX11_tell 159 = .ok (.ireturn, 1) := by decide +kernel
def f_X11_tell_u22 (Q : Int → ml_St → Prop) (σ : ml_St) : Prop :=
Q (-1) σ
def f_X11_tell_u26 (Q : Int → ml_St → Prop) (K53 : ml_St → Int → Int → Prop) : Nat → ml_St → Int → Int → Int → Prop
| 0, _, _, _, _ => False
| N + 1, σ, x1, x2, x3 =>
(x2 ≤ x3 →
K53 σ x1 x2) ∧
(¬ (x2 ≤ x3) →
(0 : Int) ≤ x3 ∧ (x3 : Int) < 200 ∧
∀ _ : I32 (σ 3 x3),
(0 : Int) ≤ x3 ∧ (x3 : Int) < 100 ∧
∀ σ3, σ3 = ml_up σ 115 x3 (b_i2b (σ 3 x3)) →
I32 (x3 + 1) ∧
∀ y4 : Int, y4 = x3 + 1 →
f_X11_tell_u26 Q K53 N σ3 x1 x2 y4)
def f_X11_tell_u53 (Q : Int → ml_St → Prop) (σ : ml_St) (x1 : Int) (x2 : Int) : Prop :=
∀ σ1, σ1 = ml_up σ 2 1 0 →
∀ _ : I32 (σ1 1 11),
False
def f_X11_tell_u0 (Q : Int → ml_St → Prop) (σ : ml_St) (x1 : Int) (x2 : Int) : Prop :=
(x2 < 1 →
f_X11_tell_u22 Q σ) ∧
(¬ (x2 < 1) →
(100 < x2 →
f_X11_tell_u22 Q σ) ∧
(¬ (100 < x2) →
∀ _ : I32 (σ 2 1),
(x2 ≤ (σ 2 1) →
∃ N1, f_X11_tell_u26 Q (f_X11_tell_u53 Q) N1 σ x1 x2 0) ∧
(¬ (x2 ≤ (σ 2 1)) →
f_X11_tell_u22 Q σ)))
def f_X11_tell (σ : ml_St) (x1 : Int) (x2 : Int) (Q : Int → ml_St → Prop) : Prop := f_X11_tell_u0 Q σ x1 x2
def rm_X11_tell : Room := { frames := 1, cells := 0, slots := 0, locals := 60 }
set_option maxRecDepth 100000 in
set_option maxHeartbeats 4000000 in
theorem u_X11_tell_22 {p : Program} {e : Env} {s : State} {m : MethodId} {args : Array Value} {below : List Frame} {meth : Method} {c : Code} {base : Nat} {D : va_G} {cA : Nat → ClassId} {n : Nat} {l : Launch} {Q : Int → ml_St → Prop} (X : ml_X p s m c meth args D cA cX11_tell 4 RX11 (some .int)) (hn : 214 ≤ n) (σ : ml_St) (ls : Array Slot) (hl : lv_has ls 4 []) (hw : f_X11_tell_u22 Q σ) : ml_V p l e rm_X11_tell s m args below meth c (MQ below (ml_Qi I32 base D cA n Q) args s 0 0 (ml_A base)) base D cA 0 0 n n σ (F0 m 22 ls []) := by
  unfold f_X11_tell_u22 at hw
  refine ml_iconst (pc := 22) X dX11_tell_22 ?_
  exact ml_iret (pc := 23) X ⟨by decide, by decide⟩ hw dX11_tell_23
set_option maxRecDepth 100000 in
set_option maxHeartbeats 4000000 in
theorem u_X11_tell_26 {p : Program} {e : Env} {s : State} {m : MethodId} {args : Array Value} {below : List Frame} {meth : Method} {c : Code} {base : Nat} {D : va_G} {cA : Nat → ClassId} {n : Nat} {l : Launch} {Q : Int → ml_St → Prop} {K53 : ml_St → Int → Int → Prop} (X : ml_X p s m c meth args D cA cX11_tell 4 RX11 (some .int)) (hn : 214 ≤ n) (hK53 : ∀ (σ : ml_St) (x1 : Int) (x2 : Int) (h_x1 : I32 x1) (h_x2 : I32 x2) (ls : Array Slot), lv_has ls 4 [(0, .ref (base + (1 : Int).toNat)), (1, .int (Int32.ofInt x1)), (2, .int (Int32.ofInt x2))] → K53 σ x1 x2 → ml_V p l e rm_X11_tell s m args below meth c (MQ below (ml_Qi I32 base D cA n Q) args s 0 0 (ml_A base)) base D cA 0 0 n n σ (F0 m 53 ls [])) : ∀ (N : Nat) (σ : ml_St) (x1 : Int) (x2 : Int) (x3 : Int) (h_x1 : I32 x1) (h_x2 : I32 x2) (h_x3 : I32 x3) (ls : Array Slot), lv_has ls 4 [(0, .ref (base + (1 : Int).toNat)), (1, .int (Int32.ofInt x1)), (2, .int (Int32.ofInt x2)), (3, .int (Int32.ofInt x3))] → f_X11_tell_u26 Q K53 N σ x1 x2 x3 → ml_V p l e rm_X11_tell s m args below meth c (MQ below (ml_Qi I32 base D cA n Q) args s 0 0 (ml_A base)) base D cA 0 0 n n σ (F0 m 26 ls []) := by
  intro N
  induction N with
  | zero => intro σ x1 x2 x3 h_x1 h_x2 h_x3 ls hl hw; exact False.elim hw
  | succ N ih =>
    intro σ x1 x2 x3 h_x1 h_x2 h_x3 ls hl hw
    unfold f_X11_tell_u26 at hw
    refine ml_iload_n (pc := 26) X hl 3 rfl rfl dX11_tell_26 ?_
    refine ml_iload_n (pc := 27) X hl 2 rfl rfl dX11_tell_27 ?_
    refine ml_icmp_ge (pc := 28) (tgt := 53) X h_x3 h_x2 dX11_tell_28 (by decide) (fun c1 => ?_) (fun c1 => ?_)
    · have hw := hw.1 c1
      exact hK53 σ x1 x2 h_x1 h_x2 _ (lv_sub hl [0, 1, 2] rfl) hw
    · have hw := hw.2 c1
      refine ml_aload_n (pc := 31) X hl 0 rfl rfl dX11_tell_31 ?_
      refine gf_X11_71 (pc := 32) X (ml_c1 hn) dX11_tell_32 ?_
      refine ml_iload_n (pc := 35) X hl 3 rfl rfl dX11_tell_35 ?_
      refine ml_aload_n (pc := 36) X hl 0 rfl rfl dX11_tell_36 ?_
      refine gf_X11_10 (pc := 37) X (ml_c1 hn) dX11_tell_37 ?_
      refine gf_X11_275 (pc := 40) X (ml_c2 hn) dX11_tell_40 ?_
      refine ml_iload_n (pc := 43) X hl 3 rfl rfl dX11_tell_43 ?_
      obtain ⟨a2, b2, hw⟩ := hw
      refine ml_iald (pc := 44) (N := 200) X (ml_c3 hn) a2 b2 dX11_tell_44 (fun r2 => ?_)
      have hw := hw r2
      refine ml_i2b (pc := 45) X dX11_tell_45 ?_
      obtain ⟨a3, b3, hw⟩ := hw
      refine ml_bast (pc := 46) (N := 100) X (ml_c115 hn) a3 b3 (b_i2b_r _) dX11_tell_46 (fun σ3 g3 => ?_)
      have hw := hw σ3 g3
      obtain ⟨v4, hw⟩ := hw
      obtain ⟨y4, e4⟩ : ∃ y : Int, y = x3 + 1 := ⟨_, rfl⟩
      have hw := hw y4 e4
      rw [← e4] at v4
      refine ml_iinc (pc := 47) X e4 hl 3 rfl (by decide) (lst' := [(3, .int (Int32.ofInt y4)), (0, .ref (base + (1 : Int).toNat)), (1, .int (Int32.ofInt x1)), (2, .int (Int32.ofInt x2))]) rfl dX11_tell_47 (fun ls hl => ?_)
      refine ml_goto (pc := 50) (tgt := 26) X dX11_tell_50 (by decide) ?_
      exact ih σ3 x1 x2 y4 h_x1 h_x2 v4 _ (lv_sub hl [1, 2, 3, 0] rfl) hw
set_option maxRecDepth 100000 in
set_option maxHeartbeats 4000000 in
theorem u_X11_tell_53 {p : Program} {e : Env} {s : State} {m : MethodId} {args : Array Value} {below : List Frame} {meth : Method} {c : Code} {base : Nat} {D : va_G} {cA : Nat → ClassId} {n : Nat} {l : Launch} {Q : Int → ml_St → Prop} (X : ml_X p s m c meth args D cA cX11_tell 4 RX11 (some .int)) (hn : 214 ≤ n) (σ : ml_St) (x1 : Int) (x2 : Int) (h_x1 : I32 x1) (h_x2 : I32 x2) (ls : Array Slot) (hl : lv_has ls 4 [(0, .ref (base + (1 : Int).toNat)), (1, .int (Int32.ofInt x1)), (2, .int (Int32.ofInt x2))]) (hw : f_X11_tell_u53 Q σ x1 x2) : ml_V p l e rm_X11_tell s m args below meth c (MQ below (ml_Qi I32 base D cA n Q) args s 0 0 (ml_A base)) base D cA 0 0 n n σ (F0 m 53 ls []) := by
  unfold f_X11_tell_u53 at hw
  refine ml_aload_n (pc := 53) X hl 0 rfl rfl dX11_tell_53 ?_
  refine gf_X11_10 (pc := 54) X (ml_c1 hn) dX11_tell_54 ?_
  refine ml_iconst (pc := 57) X dX11_tell_57 ?_
  refine pf_X11_94 (pc := 58) X (ml_c2 hn) ⟨by decide, by decide⟩ dX11_tell_58 (fun σ1 g1 => ?_)
  have hw := hw σ1 g1
  refine ml_aload_n (pc := 61) X hl 0 rfl rfl dX11_tell_61 ?_
  refine gf_X11_26 (pc := 62) X (ml_c1 hn) dX11_tell_62 ?_
  refine ml_aload_n (pc := 65) X hl 0 rfl rfl dX11_tell_65 ?_
  refine gf_X11_71 (pc := 66) X (ml_c1 hn) dX11_tell_66 ?_
  refine ml_iload_n (pc := 69) X hl 2 rfl rfl dX11_tell_69 ?_
  refine ml_aload_n (pc := 70) X hl 0 rfl rfl dX11_tell_70 ?_
  refine gf_X11_82 (pc := 71) X (ml_c1 hn) dX11_tell_71 (fun r2 => ?_)
  have hw := hw r2
  refine ml_iload_n (pc := 74) X hl 1 rfl rfl dX11_tell_74 ?_
  exact hw.elim
set_option maxRecDepth 100000 in
set_option maxHeartbeats 4000000 in
theorem u_X11_tell_0 {p : Program} {e : Env} {s : State} {m : MethodId} {args : Array Value} {below : List Frame} {meth : Method} {c : Code} {base : Nat} {D : va_G} {cA : Nat → ClassId} {n : Nat} {l : Launch} {Q : Int → ml_St → Prop} (X : ml_X p s m c meth args D cA cX11_tell 4 RX11 (some .int)) (hn : 214 ≤ n) (σ : ml_St) (x1 : Int) (x2 : Int) (h_x1 : I32 x1) (h_x2 : I32 x2) (ls : Array Slot) (hl : lv_has ls 4 [(0, .ref (base + (1 : Int).toNat)), (1, .int (Int32.ofInt x1)), (2, .int (Int32.ofInt x2))]) (hw : f_X11_tell_u0 Q σ x1 x2) : ml_V p l e rm_X11_tell s m args below meth c (MQ below (ml_Qi I32 base D cA n Q) args s 0 0 (ml_A base)) base D cA 0 0 n n σ (F0 m 0 ls []) := by
  unfold f_X11_tell_u0 at hw
  refine ml_iload_n (pc := 0) X hl 2 rfl rfl dX11_tell_0 ?_
  refine ml_iconst (pc := 1) X dX11_tell_1 ?_
  refine ml_icmp_lt (pc := 2) (tgt := 22) X h_x2 ⟨by decide, by decide⟩ dX11_tell_2 (by decide) (fun c1 => ?_) (fun c1 => ?_)
  · have hw := hw.1 c1
    exact u_X11_tell_22 X hn σ   _ (lv_sub hl [] rfl) hw
  · have hw := hw.2 c1
    refine ml_iload_n (pc := 5) X hl 2 rfl rfl dX11_tell_5 ?_
    refine ml_bipush (pc := 6) X dX11_tell_6 (by decide) ?_
    refine ml_icmp_gt (pc := 8) (tgt := 22) X h_x2 ⟨by decide, by decide⟩ dX11_tell_8 (by decide) (fun c2 => ?_) (fun c2 => ?_)
    · have hw := hw.1 c2
      exact u_X11_tell_22 X hn σ   _ (lv_sub hl [] rfl) hw
    · have hw := hw.2 c2
      refine ml_aload_n (pc := 11) X hl 0 rfl rfl dX11_tell_11 ?_
      refine gf_X11_10 (pc := 12) X (ml_c1 hn) dX11_tell_12 ?_
      refine gf_X11_94 (pc := 15) X (ml_c2 hn) dX11_tell_15 (fun r3 => ?_)
      have hw := hw r3
      refine ml_iload_n (pc := 18) X hl 2 rfl rfl dX11_tell_18 ?_
      refine ml_icmp_ge (pc := 19) (tgt := 24) X r3 h_x2 dX11_tell_19 (by decide) (fun c4 => ?_) (fun c4 => ?_)
      · have hw := hw.1 c4
        refine ml_iconst (pc := 24) X dX11_tell_24 ?_
        refine ml_istore_n (pc := 25) X rfl hl (by decide) (lst' := [(3, .int (Int32.ofInt 0)), (0, .ref (base + (1 : Int).toNat)), (1, .int (Int32.ofInt x1)), (2, .int (Int32.ofInt x2))]) rfl dX11_tell_25 (fun ls hl => ?_)
        obtain ⟨N0, hw⟩ := hw
        exact u_X11_tell_26 X hn (fun σ x1 x2 h_x1 h_x2 ls hl hw => u_X11_tell_53 X hn σ x1 x2 h_x1 h_x2 ls hl hw) N0 σ x1 x2 0 h_x1 h_x2 ⟨by decide, by decide⟩ _ (lv_sub hl [1, 2, 3, 0] rfl) hw
      · have hw := hw.2 c4
        exact u_X11_tell_22 X hn σ   _ (lv_sub hl [] rfl) hw
set_option maxRecDepth 100000 in
theorem c_X11_tell (l : Launch) (base : Nat) (D : va_G) (cA : Nat → ClassId) (n : Nat) (hn : 214 ≤ n) (σ : ml_St) (x1 : Int) (x2 : Int) (h_x1 : I32 x1) (h_x2 : I32 x2) (Q : Int → ml_St → Prop) (hw : f_X11_tell σ x1 x2 Q) : Met l yX11_tell (Cond.code yX11_tell cX11_tell 4 (some .int) :: ml_T) rm_X11_tell (va_Pc [.ref (base + (1 : Int).toNat), .int (Int32.ofInt x1), .int (Int32.ofInt x2)] (ml_U base D cA n σ)) (ml_Qi I32 base D cA n Q) 0 0 (ml_A base) := by
  refine Met.ofW (cc := cX11_tell) (maxL := 4) (ret := (some .int)) (by decide) rfl ?_
  intro p e s m args below meth c s₁ B hml hv
  obtain ⟨rfl, hP, hK, hok, hro⟩ := hv
  have X : ml_X p s m c meth _ D cA cX11_tell 4 RX11 (some .int) := ⟨B.exec, B.bytes, hml, findClass_of_methodNamed B.named, fun w hw => atoms_spec (ws := Cond.code yX11_tell cX11_tell 4 (some .int) :: ml_T) B.pre w (List.mem_cons_of_mem _ hw), hK, B.notSynchronized, B.returns⟩
  have hl := lv_entry [.ref (base + (1 : Int).toNat), .int (Int32.ofInt x1), .int (Int32.ofInt x2)] (n := 4) (Nat.le_of_ble_eq_true rfl)
  rw [lg_entry_eq]
  generalize (lg_sl [.ref (base + (1 : Int).toNat), .int (Int32.ofInt x1), .int (Int32.ofInt x2)] ++ List.replicate (4 - (lg_sl [.ref (base + (1 : Int).toNat), .int (Int32.ofInt x1), .int (Int32.ofInt x2)]).length) Slot.unset).toArray = ls at hl ⊢
  have hl : lv_has ls 4 [(0, .ref (base + (1 : Int).toNat)), (1, .int (Int32.ofInt x1)), (2, .int (Int32.ofInt x2))] := hl
  unfold f_X11_tell at hw
  exact u_X11_tell_0 X hn σ x1 x2 h_x1 h_x2 _ (lv_sub hl [0, 1, 2] rfl) hw s.heap [] hP va_S.rf hok hro
theorem dX11_word_0 : decode cX11_word 0 = .ok (.aload_n 0, 1) := by decide +kernel
theorem dX11_word_1 : decode cX11_word 1 = .ok (.getfield 86, 3) := by decide +kernel
theorem dX11_word_4 : decode cX11_word 4 = .ok (.bipush 16, 2) := by decide +kernel
theorem dX11_word_6 : decode cX11_word 6 = .ok (.if_icmp .ne 5, 3) := by decide +kernel
theorem dX11_word_9 : decode cX11_word 9 = .ok (.iconst (-1), 1) := by decide +kernel
theorem dX11_word_10 : decode cX11_word 10 = .ok (.ireturn, 1) := by decide +kernel
theorem dX11_word_11 : decode cX11_word 11 = .ok (.aload_n 0, 1) := by decide +kernel
theorem dX11_word_12 : decode cX11_word 12 = .ok (.aload_n 0, 1) := by decide +kernel
theorem dX11_word_13 : decode cX11_word 13 = .ok (.getfield 86, 3) := by decide +kernel
theorem dX11_word_16 : decode cX11_word 16 = .ok (.iload_n 1, 1) := by decide +kernel
theorem dX11_word_17 : decode cX11_word 17 = .ok (.invokevirtual 100, 3) := by decide +kernel
theorem dX11_word_20 : decode cX11_word 20 = .ok (.ireturn, 1) := by decide +kernel
def f_X11_word_u0 (Q : Int → ml_St → Prop) (σ : ml_St) (x1 : Int) : Prop :=
∀ _ : I32 (σ 1 12),
(((σ 1 12) : Int) ≠ 16 →
∀ _ : I32 (σ 1 12),
f_X11_tell σ (σ 1 12) x1 (fun r4 σ4 => ∀ _ : I32 r4,
Q r4 σ4)) ∧
((σ 1 12) = 16 →
Q (-1) σ)
def f_X11_word (σ : ml_St) (x1 : Int) (Q : Int → ml_St → Prop) : Prop := f_X11_word_u0 Q σ x1
def rm_X11_word : Room := { frames := 2, cells := 0, slots := 0, locals := 83 }
set_option maxRecDepth 100000 in
set_option maxHeartbeats 4000000 in
theorem u_X11_word_0 {p : Program} {e : Env} {s : State} {m : MethodId} {args : Array Value} {below : List Frame} {meth : Method} {c : Code} {base : Nat} {D : va_G} {cA : Nat → ClassId} {n : Nat} {l : Launch} {Q : Int → ml_St → Prop} (X : ml_X p s m c meth args D cA cX11_word 2 RX11 (some .int)) (hn : 214 ≤ n) (σ : ml_St) (x1 : Int) (h_x1 : I32 x1) (ls : Array Slot) (hl : lv_has ls 2 [(0, .ref (base + (1 : Int).toNat)), (1, .int (Int32.ofInt x1))]) (hw : f_X11_word_u0 Q σ x1) : ml_V p l e rm_X11_word s m args below meth c (MQ below (ml_Qi I32 base D cA n Q) args s 0 0 (ml_A base)) base D cA 0 0 n n σ (F0 m 0 ls []) := by
  unfold f_X11_word_u0 at hw
  refine ml_aload_n (pc := 0) X hl 0 rfl rfl dX11_word_0 ?_
  refine gf_X11_86 (pc := 1) X (ml_c1 hn) dX11_word_1 (fun r1 => ?_)
  have hw := hw r1
  refine ml_bipush (pc := 4) X dX11_word_4 (by decide) ?_
  refine ml_icmp_ne (pc := 6) (tgt := 11) X r1 ⟨by decide, by decide⟩ dX11_word_6 (by decide) (fun c2 => ?_) (fun c2 => ?_)
  · have hw := hw.1 c2
    refine ml_aload_n (pc := 11) X hl 0 rfl rfl dX11_word_11 ?_
    refine ml_aload_n (pc := 12) X hl 0 rfl rfl dX11_word_12 ?_
    refine gf_X11_86 (pc := 13) X (ml_c1 hn) dX11_word_13 (fun r3 => ?_)
    have hw := hw r3
    refine ml_iload_n (pc := 16) X hl 1 rfl rfl dX11_word_16 ?_
    refine ml_calliV (pc := 17) (rest := []) X [.int (Int32.ofInt (σ 1 12)), .int (Int32.ofInt x1)] (by decide) rfl (ml_c1 hn) (c_X11_tell l base D cA n hn σ (σ 1 12) x1 r3 h_x1 _ hw) cv_X11_100 ⟨rfl, rfl⟩ ⟨by decide, by decide⟩ rfl rfl hl (Nat.le_of_ble_eq_true rfl) ⟨Nat.zero_le _, Nat.zero_le _⟩ dX11_word_17 (fun r4 σ4 t4 hw => ?_)
    have hw := hw t4
    exact ml_iret (pc := 20) X t4 hw dX11_word_20
  · have hw := hw.2 c2
    refine ml_iconst (pc := 9) X dX11_word_9 ?_
    exact ml_iret (pc := 10) X ⟨by decide, by decide⟩ hw dX11_word_10
set_option maxRecDepth 100000 in
theorem c_X11_word (l : Launch) (base : Nat) (D : va_G) (cA : Nat → ClassId) (n : Nat) (hn : 214 ≤ n) (σ : ml_St) (x1 : Int) (h_x1 : I32 x1) (Q : Int → ml_St → Prop) (hw : f_X11_word σ x1 Q) : Met l yX11_word (Cond.code yX11_word cX11_word 2 (some .int) :: ml_T) rm_X11_word (va_Pc [.ref (base + (1 : Int).toNat), .int (Int32.ofInt x1)] (ml_U base D cA n σ)) (ml_Qi I32 base D cA n Q) 0 0 (ml_A base) := by
  refine Met.ofW (cc := cX11_word) (maxL := 2) (ret := (some .int)) (by decide) rfl ?_
  intro p e s m args below meth c s₁ B hml hv
  obtain ⟨rfl, hP, hK, hok, hro⟩ := hv
  have X : ml_X p s m c meth _ D cA cX11_word 2 RX11 (some .int) := ⟨B.exec, B.bytes, hml, findClass_of_methodNamed B.named, fun w hw => atoms_spec (ws := Cond.code yX11_word cX11_word 2 (some .int) :: ml_T) B.pre w (List.mem_cons_of_mem _ hw), hK, B.notSynchronized, B.returns⟩
  have hl := lv_entry [.ref (base + (1 : Int).toNat), .int (Int32.ofInt x1)] (n := 2) (Nat.le_of_ble_eq_true rfl)
  rw [lg_entry_eq]
  generalize (lg_sl [.ref (base + (1 : Int).toNat), .int (Int32.ofInt x1)] ++ List.replicate (2 - (lg_sl [.ref (base + (1 : Int).toNat), .int (Int32.ofInt x1)]).length) Slot.unset).toArray = ls at hl ⊢
  have hl : lv_has ls 2 [(0, .ref (base + (1 : Int).toNat)), (1, .int (Int32.ofInt x1))] := hl
  unfold f_X11_word at hw
  exact u_X11_word_0 X hn σ x1 h_x1 _ (lv_sub hl [0, 1] rfl) hw s.heap [] hP va_S.rf hok hro
theorem dX11_isTold_0 : decode cX11_isTold 0 = .ok (.iload_n 1, 1) := by decide +kernel
theorem dX11_isTold_1 : decode cX11_isTold 1 = .ok (.ifCond .lt 15, 3) := by decide +kernel
theorem dX11_isTold_4 : decode cX11_isTold 4 = .ok (.iload_n 1, 1) := by decide +kernel
theorem dX11_isTold_5 : decode cX11_isTold 5 = .ok (.aload_n 0, 1) := by decide +kernel
theorem dX11_isTold_6 : decode cX11_isTold 6 = .ok (.getfield 86, 3) := by decide +kernel
theorem dX11_isTold_9 : decode cX11_isTold 9 = .ok (.if_icmp .ge 7, 3) := by decide +kernel
theorem dX11_isTold_12 : decode cX11_isTold 12 = .ok (.iconst 1, 1) := by decide +kernel
theorem dX11_isTold_13 : decode cX11_isTold 13 = .ok (.goto 4, 3) := by decide +kernel
theorem dX11_isTold_16 : decode cX11_isTold 16 = .ok (.iconst 0, 1) := by decide +kernel
theorem dX11_isTold_17 : decode cX11_isTold 17 = .ok (.ireturn, 1) := by decide +kernel
def f_X11_isTold_u17 (Q : Int → ml_St → Prop) (σ : ml_St) (s0 : Int) : Prop :=
Q s0 σ
def f_X11_isTold_u16 (Q : Int → ml_St → Prop) (σ : ml_St) : Prop :=
f_X11_isTold_u17 Q σ 0
def f_X11_isTold_u0 (Q : Int → ml_St → Prop) (σ : ml_St) (x1 : Int) : Prop :=
(x1 < 0 →
f_X11_isTold_u16 Q σ) ∧
(¬ (x1 < 0) →
∀ _ : I32 (σ 1 12),
((σ 1 12) ≤ x1 →
f_X11_isTold_u16 Q σ) ∧
(¬ ((σ 1 12) ≤ x1) →
f_X11_isTold_u17 Q σ 1))
def f_X11_isTold (σ : ml_St) (x1 : Int) (Q : Int → ml_St → Prop) : Prop := f_X11_isTold_u0 Q σ x1
def rm_X11_isTold : Room := { frames := 0, cells := 0, slots := 0, locals := 0 }
set_option maxRecDepth 100000 in
set_option maxHeartbeats 4000000 in
theorem u_X11_isTold_17 {p : Program} {e : Env} {s : State} {m : MethodId} {args : Array Value} {below : List Frame} {meth : Method} {c : Code} {base : Nat} {D : va_G} {cA : Nat → ClassId} {n : Nat} {l : Launch} {Q : Int → ml_St → Prop} (X : ml_X p s m c meth args D cA cX11_isTold 2 RX11 (some .boolean)) (hn : 214 ≤ n) (σ : ml_St) (s0 : Int) (h_s0 : ml_B s0) (ls : Array Slot) (hl : lv_has ls 2 []) (hw : f_X11_isTold_u17 Q σ s0) : ml_V p l e rm_X11_isTold s m args below meth c (MQ below (ml_Qi ml_B base D cA n Q) args s 0 0 (ml_A base)) base D cA 0 0 n n σ (F0 m 17 ls [.int (Int32.ofInt s0)]) := by
  unfold f_X11_isTold_u17 at hw
  exact ml_zret (pc := 17) X h_s0 hw dX11_isTold_17
set_option maxRecDepth 100000 in
set_option maxHeartbeats 4000000 in
theorem u_X11_isTold_16 {p : Program} {e : Env} {s : State} {m : MethodId} {args : Array Value} {below : List Frame} {meth : Method} {c : Code} {base : Nat} {D : va_G} {cA : Nat → ClassId} {n : Nat} {l : Launch} {Q : Int → ml_St → Prop} (X : ml_X p s m c meth args D cA cX11_isTold 2 RX11 (some .boolean)) (hn : 214 ≤ n) (σ : ml_St) (ls : Array Slot) (hl : lv_has ls 2 []) (hw : f_X11_isTold_u16 Q σ) : ml_V p l e rm_X11_isTold s m args below meth c (MQ below (ml_Qi ml_B base D cA n Q) args s 0 0 (ml_A base)) base D cA 0 0 n n σ (F0 m 16 ls []) := by
  unfold f_X11_isTold_u16 at hw
  refine ml_iconst (pc := 16) X dX11_isTold_16 ?_
  exact u_X11_isTold_17 X hn σ 0 ⟨by decide, by decide⟩ _ (lv_sub hl [] rfl) hw
set_option maxRecDepth 100000 in
set_option maxHeartbeats 4000000 in
theorem u_X11_isTold_0 {p : Program} {e : Env} {s : State} {m : MethodId} {args : Array Value} {below : List Frame} {meth : Method} {c : Code} {base : Nat} {D : va_G} {cA : Nat → ClassId} {n : Nat} {l : Launch} {Q : Int → ml_St → Prop} (X : ml_X p s m c meth args D cA cX11_isTold 2 RX11 (some .boolean)) (hn : 214 ≤ n) (σ : ml_St) (x1 : Int) (h_x1 : I32 x1) (ls : Array Slot) (hl : lv_has ls 2 [(0, .ref (base + (1 : Int).toNat)), (1, .int (Int32.ofInt x1))]) (hw : f_X11_isTold_u0 Q σ x1) : ml_V p l e rm_X11_isTold s m args below meth c (MQ below (ml_Qi ml_B base D cA n Q) args s 0 0 (ml_A base)) base D cA 0 0 n n σ (F0 m 0 ls []) := by
  unfold f_X11_isTold_u0 at hw
  refine ml_iload_n (pc := 0) X hl 1 rfl rfl dX11_isTold_0 ?_
  refine ml_if_lt (pc := 1) (tgt := 16) X h_x1 dX11_isTold_1 (by decide) (fun c1 => ?_) (fun c1 => ?_)
  · have hw := hw.1 c1
    exact u_X11_isTold_16 X hn σ   _ (lv_sub hl [] rfl) hw
  · have hw := hw.2 c1
    refine ml_iload_n (pc := 4) X hl 1 rfl rfl dX11_isTold_4 ?_
    refine ml_aload_n (pc := 5) X hl 0 rfl rfl dX11_isTold_5 ?_
    refine gf_X11_86 (pc := 6) X (ml_c1 hn) dX11_isTold_6 (fun r2 => ?_)
    have hw := hw r2
    refine ml_icmp_ge (pc := 9) (tgt := 16) X h_x1 r2 dX11_isTold_9 (by decide) (fun c3 => ?_) (fun c3 => ?_)
    · have hw := hw.1 c3
      exact u_X11_isTold_16 X hn σ   _ (lv_sub hl [] rfl) hw
    · have hw := hw.2 c3
      refine ml_iconst (pc := 12) X dX11_isTold_12 ?_
      refine ml_goto (pc := 13) (tgt := 17) X dX11_isTold_13 (by decide) ?_
      exact u_X11_isTold_17 X hn σ 1 ⟨by decide, by decide⟩ _ (lv_sub hl [] rfl) hw
set_option maxRecDepth 100000 in
theorem c_X11_isTold (l : Launch) (base : Nat) (D : va_G) (cA : Nat → ClassId) (n : Nat) (hn : 214 ≤ n) (σ : ml_St) (x1 : Int) (h_x1 : I32 x1) (Q : Int → ml_St → Prop) (hw : f_X11_isTold σ x1 Q) : Met l yX11_isTold (Cond.code yX11_isTold cX11_isTold 2 (some .boolean) :: ml_T) rm_X11_isTold (va_Pc [.ref (base + (1 : Int).toNat), .int (Int32.ofInt x1)] (ml_U base D cA n σ)) (ml_Qi ml_B base D cA n Q) 0 0 (ml_A base) := by
  refine Met.ofW (cc := cX11_isTold) (maxL := 2) (ret := (some .boolean)) (by decide) rfl ?_
  intro p e s m args below meth c s₁ B hml hv
  obtain ⟨rfl, hP, hK, hok, hro⟩ := hv
  have X : ml_X p s m c meth _ D cA cX11_isTold 2 RX11 (some .boolean) := ⟨B.exec, B.bytes, hml, findClass_of_methodNamed B.named, fun w hw => atoms_spec (ws := Cond.code yX11_isTold cX11_isTold 2 (some .boolean) :: ml_T) B.pre w (List.mem_cons_of_mem _ hw), hK, B.notSynchronized, B.returns⟩
  have hl := lv_entry [.ref (base + (1 : Int).toNat), .int (Int32.ofInt x1)] (n := 2) (Nat.le_of_ble_eq_true rfl)
  rw [lg_entry_eq]
  generalize (lg_sl [.ref (base + (1 : Int).toNat), .int (Int32.ofInt x1)] ++ List.replicate (2 - (lg_sl [.ref (base + (1 : Int).toNat), .int (Int32.ofInt x1)]).length) Slot.unset).toArray = ls at hl ⊢
  have hl : lv_has ls 2 [(0, .ref (base + (1 : Int).toNat)), (1, .int (Int32.ofInt x1))] := hl
  unfold f_X11_isTold at hw
  exact u_X11_isTold_0 X hn σ x1 h_x1 _ (lv_sub hl [0, 1] rfl) hw s.heap [] hP va_S.rf hok hro
theorem dX11_change_0 : decode cX11_change 0 = .ok (.aload_n 0, 1) := by decide +kernel
theorem dX11_change_1 : decode cX11_change 1 = .ok (.iload_n 1, 1) := by decide +kernel
theorem dX11_change_2 : decode cX11_change 2 = .ok (.invokevirtual 104, 3) := by decide +kernel
theorem dX11_change_5 : decode cX11_change 5 = .ok (.ifCond .ne 5, 3) := by decide +kernel
theorem dX11_change_8 : decode cX11_change 8 = .ok (.iconst (-1), 1) := by decide +kernel
theorem dX11_change_9 : decode cX11_change 9 = .ok (.ireturn, 1) := by decide +kernel
theorem dX11_change_10 : decode cX11_change 10 = .ok (.aload_n 0, 1) := by decide +kernel
theorem dX11_change_11 : decode cX11_change 11 = .ok (.iload_n 1, 1) := by decide +kernel
theorem dX11_change_12 : decode cX11_change 12 = .ok (.iload_n 2, 1) := by decide +kernel
theorem dX11_change_13 : decode cX11_change 13 = .ok (.invokevirtual 100, 3) := by decide +kernel
theorem dX11_change_16 : decode cX11_change 16 = .ok (.ireturn, 1) := by decide +kernel
def f_X11_change_u0 (Q : Int → ml_St → Prop) (σ : ml_St) (x1 : Int) (x2 : Int) : Prop :=
f_X11_isTold σ x1 (fun r1 σ1 => ∀ _ : ml_B r1,
(r1 ≠ 0 →
f_X11_tell σ1 x1 x2 (fun r3 σ3 => ∀ _ : I32 r3,
Q r3 σ3)) ∧
(r1 = 0 →
Q (-1) σ1))
def f_X11_change (σ : ml_St) (x1 : Int) (x2 : Int) (Q : Int → ml_St → Prop) : Prop := f_X11_change_u0 Q σ x1 x2
def rm_X11_change : Room := { frames := 2, cells := 0, slots := 0, locals := 83 }
set_option maxRecDepth 100000 in
set_option maxHeartbeats 4000000 in
theorem u_X11_change_0 {p : Program} {e : Env} {s : State} {m : MethodId} {args : Array Value} {below : List Frame} {meth : Method} {c : Code} {base : Nat} {D : va_G} {cA : Nat → ClassId} {n : Nat} {l : Launch} {Q : Int → ml_St → Prop} (X : ml_X p s m c meth args D cA cX11_change 3 RX11 (some .int)) (hn : 214 ≤ n) (σ : ml_St) (x1 : Int) (x2 : Int) (h_x1 : I32 x1) (h_x2 : I32 x2) (ls : Array Slot) (hl : lv_has ls 3 [(0, .ref (base + (1 : Int).toNat)), (1, .int (Int32.ofInt x1)), (2, .int (Int32.ofInt x2))]) (hw : f_X11_change_u0 Q σ x1 x2) : ml_V p l e rm_X11_change s m args below meth c (MQ below (ml_Qi I32 base D cA n Q) args s 0 0 (ml_A base)) base D cA 0 0 n n σ (F0 m 0 ls []) := by
  unfold f_X11_change_u0 at hw
  refine ml_aload_n (pc := 0) X hl 0 rfl rfl dX11_change_0 ?_
  refine ml_iload_n (pc := 1) X hl 1 rfl rfl dX11_change_1 ?_
  refine ml_callzV (pc := 2) (rest := []) X [.int (Int32.ofInt x1)] (by decide) rfl (ml_c1 hn) (c_X11_isTold l base D cA n hn σ x1 h_x1 _ hw) cv_X11_104 ⟨rfl, rfl⟩ ⟨by decide, by decide⟩ rfl rfl hl (Nat.le_of_ble_eq_true rfl) ⟨Nat.zero_le _, Nat.zero_le _⟩ dX11_change_2 (fun r1 σ1 t1 hw => ?_)
  have hw := hw t1
  refine ml_if_ne (pc := 5) (tgt := 10) X t1.i dX11_change_5 (by decide) (fun c2 => ?_) (fun c2 => ?_)
  · have hw := hw.1 c2
    refine ml_aload_n (pc := 10) X hl 0 rfl rfl dX11_change_10 ?_
    refine ml_iload_n (pc := 11) X hl 1 rfl rfl dX11_change_11 ?_
    refine ml_iload_n (pc := 12) X hl 2 rfl rfl dX11_change_12 ?_
    refine ml_calliV (pc := 13) (rest := []) X [.int (Int32.ofInt x1), .int (Int32.ofInt x2)] (by decide) rfl (ml_c1 hn) (c_X11_tell l base D cA n hn σ1 x1 x2 h_x1 h_x2 _ hw) cv_X11_100 ⟨rfl, rfl⟩ ⟨by decide, by decide⟩ rfl rfl hl (Nat.le_of_ble_eq_true rfl) ⟨Nat.zero_le _, Nat.zero_le _⟩ dX11_change_13 (fun r3 σ3 t3 hw => ?_)
    have hw := hw t3
    exact ml_iret (pc := 16) X t3 hw dX11_change_16
  · have hw := hw.2 c2
    refine ml_iconst (pc := 8) X dX11_change_8 ?_
    exact ml_iret (pc := 9) X ⟨by decide, by decide⟩ hw dX11_change_9
set_option maxRecDepth 100000 in
theorem c_X11_change (l : Launch) (base : Nat) (D : va_G) (cA : Nat → ClassId) (n : Nat) (hn : 214 ≤ n) (σ : ml_St) (x1 : Int) (x2 : Int) (h_x1 : I32 x1) (h_x2 : I32 x2) (Q : Int → ml_St → Prop) (hw : f_X11_change σ x1 x2 Q) : Met l yX11_change (Cond.code yX11_change cX11_change 3 (some .int) :: ml_T) rm_X11_change (va_Pc [.ref (base + (1 : Int).toNat), .int (Int32.ofInt x1), .int (Int32.ofInt x2)] (ml_U base D cA n σ)) (ml_Qi I32 base D cA n Q) 0 0 (ml_A base) := by
  refine Met.ofW (cc := cX11_change) (maxL := 3) (ret := (some .int)) (by decide) rfl ?_
  intro p e s m args below meth c s₁ B hml hv
  obtain ⟨rfl, hP, hK, hok, hro⟩ := hv
  have X : ml_X p s m c meth _ D cA cX11_change 3 RX11 (some .int) := ⟨B.exec, B.bytes, hml, findClass_of_methodNamed B.named, fun w hw => atoms_spec (ws := Cond.code yX11_change cX11_change 3 (some .int) :: ml_T) B.pre w (List.mem_cons_of_mem _ hw), hK, B.notSynchronized, B.returns⟩
  have hl := lv_entry [.ref (base + (1 : Int).toNat), .int (Int32.ofInt x1), .int (Int32.ofInt x2)] (n := 3) (Nat.le_of_ble_eq_true rfl)
  rw [lg_entry_eq]
  generalize (lg_sl [.ref (base + (1 : Int).toNat), .int (Int32.ofInt x1), .int (Int32.ofInt x2)] ++ List.replicate (3 - (lg_sl [.ref (base + (1 : Int).toNat), .int (Int32.ofInt x1), .int (Int32.ofInt x2)]).length) Slot.unset).toArray = ls at hl ⊢
  have hl : lv_has ls 3 [(0, .ref (base + (1 : Int).toNat)), (1, .int (Int32.ofInt x1)), (2, .int (Int32.ofInt x2))] := hl
  unfold f_X11_change at hw
  exact u_X11_change_0 X hn σ x1 x2 h_x1 h_x2 _ (lv_sub hl [0, 1, 2] rfl) hw s.heap [] hP va_S.rf hok hro
theorem dX11_round_0 : decode cX11_round 0 = .ok (.aload_n 0, 1) := by decide +kernel
theorem dX11_round_1 : decode cX11_round 1 = .ok (.getfield 19, 3) := by decide +kernel
theorem dX11_round_4 : decode cX11_round 4 = .ok (.aload_n 0, 1) := by decide +kernel
theorem dX11_round_5 : decode cX11_round 5 = .ok (.getfield 82, 3) := by decide +kernel
theorem dX11_round_8 : decode cX11_round 8 = .ok (.invokevirtual 90, 3) := by decide +kernel
theorem dX11_round_11 : decode cX11_round 11 = .ok (.iconst 1, 1) := by decide +kernel
theorem dX11_round_12 : decode cX11_round 12 = .ok (.ireturn, 1) := by decide +kernel
def f_X11_round_u0 (Q : Int → ml_St → Prop) (σ : ml_St) : Prop :=
∀ _ : I32 (σ 1 11),
f_X0_goRound σ (σ 1 11) (fun σ2 =>
Q 1 σ2)
def f_X11_round (σ : ml_St) (Q : Int → ml_St → Prop) : Prop := f_X11_round_u0 Q σ
def rm_X11_round : Room := { frames := 1, cells := 0, slots := 0, locals := 22 }
set_option maxRecDepth 100000 in
set_option maxHeartbeats 4000000 in
theorem u_X11_round_0 {p : Program} {e : Env} {s : State} {m : MethodId} {args : Array Value} {below : List Frame} {meth : Method} {c : Code} {base : Nat} {D : va_G} {cA : Nat → ClassId} {n : Nat} {l : Launch} {Q : Int → ml_St → Prop} (X : ml_X p s m c meth args D cA cX11_round 1 RX11 (some .boolean)) (hn : 214 ≤ n) (σ : ml_St) (ls : Array Slot) (hl : lv_has ls 1 [(0, .ref (base + (1 : Int).toNat))]) (hw : f_X11_round_u0 Q σ) : ml_V p l e rm_X11_round s m args below meth c (MQ below (ml_Qi ml_B base D cA n Q) args s 0 0 (ml_A base)) base D cA 0 0 n n σ (F0 m 0 ls []) := by
  unfold f_X11_round_u0 at hw
  refine ml_aload_n (pc := 0) X hl 0 rfl rfl dX11_round_0 ?_
  refine gf_X11_19 (pc := 1) X (ml_c1 hn) dX11_round_1 ?_
  refine ml_aload_n (pc := 4) X hl 0 rfl rfl dX11_round_4 ?_
  refine gf_X11_82 (pc := 5) X (ml_c1 hn) dX11_round_5 (fun r1 => ?_)
  have hw := hw r1
  refine ml_callvV (pc := 8) (rest := []) X [.int (Int32.ofInt (σ 1 11))] (by decide) rfl (ml_c4 hn) (c_X0_goRound l base D cA n hn σ (σ 1 11) r1 _ hw) cv_X11_90 ⟨rfl, rfl⟩ ⟨by decide, by decide⟩ rfl rfl hl (Nat.le_of_ble_eq_true rfl) ⟨Nat.zero_le _, Nat.zero_le _⟩ dX11_round_8 (fun σ2 hw => ?_)
  refine ml_iconst (pc := 11) X dX11_round_11 ?_
  exact ml_zret (pc := 12) X ⟨by decide, by decide⟩ hw dX11_round_12
set_option maxRecDepth 100000 in
theorem c_X11_round (l : Launch) (base : Nat) (D : va_G) (cA : Nat → ClassId) (n : Nat) (hn : 214 ≤ n) (σ : ml_St) (Q : Int → ml_St → Prop) (hw : f_X11_round σ Q) : Met l yX11_round (Cond.code yX11_round cX11_round 1 (some .boolean) :: ml_T) rm_X11_round (va_Pc [.ref (base + (1 : Int).toNat)] (ml_U base D cA n σ)) (ml_Qi ml_B base D cA n Q) 0 0 (ml_A base) := by
  refine Met.ofW (cc := cX11_round) (maxL := 1) (ret := (some .boolean)) (by decide) rfl ?_
  intro p e s m args below meth c s₁ B hml hv
  obtain ⟨rfl, hP, hK, hok, hro⟩ := hv
  have X : ml_X p s m c meth _ D cA cX11_round 1 RX11 (some .boolean) := ⟨B.exec, B.bytes, hml, findClass_of_methodNamed B.named, fun w hw => atoms_spec (ws := Cond.code yX11_round cX11_round 1 (some .boolean) :: ml_T) B.pre w (List.mem_cons_of_mem _ hw), hK, B.notSynchronized, B.returns⟩
  have hl := lv_entry [.ref (base + (1 : Int).toNat)] (n := 1) (Nat.le_of_ble_eq_true rfl)
  rw [lg_entry_eq]
  generalize (lg_sl [.ref (base + (1 : Int).toNat)] ++ List.replicate (1 - (lg_sl [.ref (base + (1 : Int).toNat)]).length) Slot.unset).toArray = ls at hl ⊢
  have hl : lv_has ls 1 [(0, .ref (base + (1 : Int).toNat))] := hl
  unfold f_X11_round at hw
  exact u_X11_round_0 X hn σ  _ (lv_sub hl [0] rfl) hw s.heap [] hP va_S.rf hok hro
theorem dX11_caps_0 : decode cX11_caps 0 = .ok (.aload_n 0, 1) := by decide +kernel
theorem dX11_caps_1 : decode cX11_caps 1 = .ok (.getfield 82, 3) := by decide +kernel
theorem dX11_caps_4 : decode cX11_caps 4 = .ok (.iconst 2, 1) := by decide +kernel
theorem dX11_caps_5 : decode cX11_caps 5 = .ok (.irem, 1) := by decide +kernel
theorem dX11_caps_6 : decode cX11_caps 6 = .ok (.ifCond .ne 19, 3) := by decide +kernel
theorem dX11_caps_9 : decode cX11_caps 9 = .ok (.aload_n 0, 1) := by decide +kernel
theorem dX11_caps_10 : decode cX11_caps 10 = .ok (.getfield 10, 3) := by decide +kernel
theorem dX11_caps_13 : decode cX11_caps 13 = .ok (.getfield 94, 3) := by decide +kernel
theorem dX11_caps_16 : decode cX11_caps 16 = .ok (.iconst 2, 1) := by decide +kernel
theorem dX11_caps_17 : decode cX11_caps 17 = .ok (.aload_n 0, 1) := by decide +kernel
theorem dX11_caps_18 : decode cX11_caps 18 = .ok (.getfield 82, 3) := by decide +kernel
theorem dX11_caps_21 : decode cX11_caps 21 = .ok (.imul, 1) := by decide +kernel
theorem dX11_caps_22 : decode cX11_caps 22 = .ok (.if_icmp .ge 5, 3) := by decide +kernel
theorem dX11_caps_25 : decode cX11_caps 25 = .ok (.iconst 0, 1) := by decide +kernel
theorem dX11_caps_26 : decode cX11_caps 26 = .ok (.ireturn, 1) := by decide +kernel
theorem dX11_caps_27 : decode cX11_caps 27 = .ok (.aload_n 0, 1) := by decide +kernel
theorem dX11_caps_28 : decode cX11_caps 28 = .ok (.getfield 19, 3) := by decide +kernel
theorem dX11_caps_31 : decode cX11_caps 31 = .ok (.aload_n 0, 1) := by decide +kernel
theorem dX11_caps_32 : decode cX11_caps 32 = .ok (.getfield 10, 3) := by decide +kernel
theorem dX11_caps_35 : decode cX11_caps 35 = .ok (.aload_n 0, 1) := by decide +kernel
theorem dX11_caps_36 : decode cX11_caps 36 = .ok (.getfield 82, 3) := by decide +kernel
theorem dX11_caps_39 : decode cX11_caps 39 = .ok (.invokevirtual 108, 3) := by decide +kernel
theorem dX11_caps_42 : decode cX11_caps 42 = .ok (.istore_n 1, 1) := by decide +kernel
theorem dX11_caps_43 : decode cX11_caps 43 = .ok (.aload_n 0, 1) := by decide +kernel
theorem dX11_caps_44 : decode cX11_caps 44 = .ok (.getfield 10, 3) := by decide +kernel
theorem dX11_caps_47 : decode cX11_caps 47 = .ok (.iconst 0, 1) := by decide +kernel
theorem dX11_caps_48 : decode cX11_caps 48 = .ok (.putfield 94, 3) := by decide +kernel
theorem dX11_caps_51 : decode cX11_caps 51 = .ok (.iload_n 1, 1) := by decide +kernel
theorem dX11_caps_52 : decode cX11_caps 52 = .ok (.ireturn, 1) := by decide +kernel
def f_X11_caps_u25 (Q : Int → ml_St → Prop) (σ : ml_St) : Prop :=
Q 0 σ
def f_X11_caps_u0 (Q : Int → ml_St → Prop) (σ : ml_St) : Prop :=
∀ _ : I32 (σ 1 11),
(2 : Int) ≠ 0 ∧ I32 (Int.tmod (σ 1 11) 2) ∧
(((Int.tmod (σ 1 11) 2) : Int) ≠ 0 →
f_X11_caps_u25 Q σ) ∧
((Int.tmod (σ 1 11) 2) = 0 →
∀ _ : I32 (σ 2 1),
∀ _ : I32 (σ 1 11),
I32 (2 * (σ 1 11)) ∧
((2 * (σ 1 11)) ≤ ((σ 2 1) : Int) →
∀ _ : I32 (σ 1 11),
False) ∧
(¬ ((2 * (σ 1 11)) ≤ ((σ 2 1) : Int)) →
f_X11_caps_u25 Q σ))
def f_X11_caps (σ : ml_St) (Q : Int → ml_St → Prop) : Prop := f_X11_caps_u0 Q σ
def rm_X11_caps : Room := { frames := 0, cells := 0, slots := 0, locals := 0 }
set_option maxRecDepth 100000 in
set_option maxHeartbeats 4000000 in
theorem u_X11_caps_25 {p : Program} {e : Env} {s : State} {m : MethodId} {args : Array Value} {below : List Frame} {meth : Method} {c : Code} {base : Nat} {D : va_G} {cA : Nat → ClassId} {n : Nat} {l : Launch} {Q : Int → ml_St → Prop} (X : ml_X p s m c meth args D cA cX11_caps 2 RX11 (some .boolean)) (hn : 214 ≤ n) (σ : ml_St) (ls : Array Slot) (hl : lv_has ls 2 []) (hw : f_X11_caps_u25 Q σ) : ml_V p l e rm_X11_caps s m args below meth c (MQ below (ml_Qi ml_B base D cA n Q) args s 0 0 (ml_A base)) base D cA 0 0 n n σ (F0 m 25 ls []) := by
  unfold f_X11_caps_u25 at hw
  refine ml_iconst (pc := 25) X dX11_caps_25 ?_
  exact ml_zret (pc := 26) X ⟨by decide, by decide⟩ hw dX11_caps_26
set_option maxRecDepth 100000 in
set_option maxHeartbeats 4000000 in
theorem u_X11_caps_0 {p : Program} {e : Env} {s : State} {m : MethodId} {args : Array Value} {below : List Frame} {meth : Method} {c : Code} {base : Nat} {D : va_G} {cA : Nat → ClassId} {n : Nat} {l : Launch} {Q : Int → ml_St → Prop} (X : ml_X p s m c meth args D cA cX11_caps 2 RX11 (some .boolean)) (hn : 214 ≤ n) (σ : ml_St) (ls : Array Slot) (hl : lv_has ls 2 [(0, .ref (base + (1 : Int).toNat))]) (hw : f_X11_caps_u0 Q σ) : ml_V p l e rm_X11_caps s m args below meth c (MQ below (ml_Qi ml_B base D cA n Q) args s 0 0 (ml_A base)) base D cA 0 0 n n σ (F0 m 0 ls []) := by
  unfold f_X11_caps_u0 at hw
  refine ml_aload_n (pc := 0) X hl 0 rfl rfl dX11_caps_0 ?_
  refine gf_X11_82 (pc := 1) X (ml_c1 hn) dX11_caps_1 (fun r1 => ?_)
  have hw := hw r1
  refine ml_iconst (pc := 4) X dX11_caps_4 ?_
  obtain ⟨z2, v2, hw⟩ := hw
  refine ml_irem (pc := 5) X r1 ⟨by decide, by decide⟩ z2 dX11_caps_5 ?_
  refine ml_if_ne (pc := 6) (tgt := 25) X v2 dX11_caps_6 (by decide) (fun c3 => ?_) (fun c3 => ?_)
  · have hw := hw.1 c3
    exact u_X11_caps_25 X hn σ   _ (lv_sub hl [] rfl) hw
  · have hw := hw.2 c3
    refine ml_aload_n (pc := 9) X hl 0 rfl rfl dX11_caps_9 ?_
    refine gf_X11_10 (pc := 10) X (ml_c1 hn) dX11_caps_10 ?_
    refine gf_X11_94 (pc := 13) X (ml_c2 hn) dX11_caps_13 (fun r4 => ?_)
    have hw := hw r4
    refine ml_iconst (pc := 16) X dX11_caps_16 ?_
    refine ml_aload_n (pc := 17) X hl 0 rfl rfl dX11_caps_17 ?_
    refine gf_X11_82 (pc := 18) X (ml_c1 hn) dX11_caps_18 (fun r5 => ?_)
    have hw := hw r5
    obtain ⟨v6, hw⟩ := hw
    refine ml_imul (pc := 21) X dX11_caps_21 ?_
    refine ml_icmp_ge (pc := 22) (tgt := 27) X r4 v6 dX11_caps_22 (by decide) (fun c7 => ?_) (fun c7 => ?_)
    · have hw := hw.1 c7
      refine ml_aload_n (pc := 27) X hl 0 rfl rfl dX11_caps_27 ?_
      refine gf_X11_19 (pc := 28) X (ml_c1 hn) dX11_caps_28 ?_
      refine ml_aload_n (pc := 31) X hl 0 rfl rfl dX11_caps_31 ?_
      refine gf_X11_10 (pc := 32) X (ml_c1 hn) dX11_caps_32 ?_
      refine ml_aload_n (pc := 35) X hl 0 rfl rfl dX11_caps_35 ?_
      refine gf_X11_82 (pc := 36) X (ml_c1 hn) dX11_caps_36 (fun r8 => ?_)
      have hw := hw r8
      exact hw.elim
    · have hw := hw.2 c7
      exact u_X11_caps_25 X hn σ   _ (lv_sub hl [] rfl) hw
set_option maxRecDepth 100000 in
theorem c_X11_caps (l : Launch) (base : Nat) (D : va_G) (cA : Nat → ClassId) (n : Nat) (hn : 214 ≤ n) (σ : ml_St) (Q : Int → ml_St → Prop) (hw : f_X11_caps σ Q) : Met l yX11_caps (Cond.code yX11_caps cX11_caps 2 (some .boolean) :: ml_T) rm_X11_caps (va_Pc [.ref (base + (1 : Int).toNat)] (ml_U base D cA n σ)) (ml_Qi ml_B base D cA n Q) 0 0 (ml_A base) := by
  refine Met.ofW (cc := cX11_caps) (maxL := 2) (ret := (some .boolean)) (by decide) rfl ?_
  intro p e s m args below meth c s₁ B hml hv
  obtain ⟨rfl, hP, hK, hok, hro⟩ := hv
  have X : ml_X p s m c meth _ D cA cX11_caps 2 RX11 (some .boolean) := ⟨B.exec, B.bytes, hml, findClass_of_methodNamed B.named, fun w hw => atoms_spec (ws := Cond.code yX11_caps cX11_caps 2 (some .boolean) :: ml_T) B.pre w (List.mem_cons_of_mem _ hw), hK, B.notSynchronized, B.returns⟩
  have hl := lv_entry [.ref (base + (1 : Int).toNat)] (n := 2) (Nat.le_of_ble_eq_true rfl)
  rw [lg_entry_eq]
  generalize (lg_sl [.ref (base + (1 : Int).toNat)] ++ List.replicate (2 - (lg_sl [.ref (base + (1 : Int).toNat)]).length) Slot.unset).toArray = ls at hl ⊢
  have hl : lv_has ls 2 [(0, .ref (base + (1 : Int).toNat))] := hl
  unfold f_X11_caps at hw
  exact u_X11_caps_0 X hn σ  _ (lv_sub hl [0] rfl) hw s.heap [] hP va_S.rf hok hro
theorem dX11_signs_0 : decode cX11_signs 0 = .ok (.aload_n 0, 1) := by decide +kernel
theorem dX11_signs_1 : decode cX11_signs 1 = .ok (.iload_n 1, 1) := by decide +kernel
theorem dX11_signs_2 : decode cX11_signs 2 = .ok (.invokevirtual 104, 3) := by decide +kernel
theorem dX11_signs_5 : decode cX11_signs 5 = .ok (.ifCond .eq 18, 3) := by decide +kernel
theorem dX11_signs_8 : decode cX11_signs 8 = .ok (.aload_n 0, 1) := by decide +kernel
theorem dX11_signs_9 : decode cX11_signs 9 = .ok (.getfield 67, 3) := by decide +kernel
theorem dX11_signs_12 : decode cX11_signs 12 = .ok (.iload_n 1, 1) := by decide +kernel
theorem dX11_signs_13 : decode cX11_signs 13 = .ok (.aaload, 1) := by decide +kernel
theorem dX11_signs_14 : decode cX11_signs 14 = .ok (.getfield 112, 3) := by decide +kernel
theorem dX11_signs_17 : decode cX11_signs 17 = .ok (.getfield 115, 3) := by decide +kernel
theorem dX11_signs_20 : decode cX11_signs 20 = .ok (.goto 6, 3) := by decide +kernel
theorem dX11_signs_23 : decode cX11_signs 23 = .ok (.ldc2_w 119, 3) := by decide +kernel
theorem dX11_signs_26 : decode cX11_signs 26 = .ok (.lreturn, 1) := by decide +kernel
def f_X11_signs_u26 (Q : Int → ml_St → Prop) (σ : ml_St) (s0 : Int) : Prop :=
Q s0 σ
def f_X11_signs_u0 (Q : Int → ml_St → Prop) (σ : ml_St) (x1 : Int) : Prop :=
f_X11_isTold σ x1 (fun r1 σ1 => ∀ _ : ml_B r1,
(r1 = 0 →
f_X11_signs_u26 Q σ1 (-1)) ∧
(r1 ≠ 0 →
(0 : Int) ≤ x1 ∧ (x1 : Int) < 16 ∧
∀ _ : I64 (σ1 ((119 + 6 * x1) + 2) 5),
f_X11_signs_u26 Q σ1 (σ1 ((119 + 6 * x1) + 2) 5)))
def f_X11_signs (σ : ml_St) (x1 : Int) (Q : Int → ml_St → Prop) : Prop := f_X11_signs_u0 Q σ x1
def rm_X11_signs : Room := { frames := 1, cells := 0, slots := 0, locals := 21 }
set_option maxRecDepth 100000 in
set_option maxHeartbeats 4000000 in
theorem u_X11_signs_26 {p : Program} {e : Env} {s : State} {m : MethodId} {args : Array Value} {below : List Frame} {meth : Method} {c : Code} {base : Nat} {D : va_G} {cA : Nat → ClassId} {n : Nat} {l : Launch} {Q : Int → ml_St → Prop} (X : ml_X p s m c meth args D cA cX11_signs 2 RX11 (some .long)) (hn : 214 ≤ n) (σ : ml_St) (s0 : Int) (h_s0 : I64 s0) (ls : Array Slot) (hl : lv_has ls 2 []) (hw : f_X11_signs_u26 Q σ s0) : ml_V p l e rm_X11_signs s m args below meth c (MQ below (ml_Ql base D cA n Q) args s 0 0 (ml_A base)) base D cA 0 0 n n σ (F0 m 26 ls [.long (Int64.ofInt s0)]) := by
  unfold f_X11_signs_u26 at hw
  exact ml_lret (pc := 26) X h_s0 hw dX11_signs_26
set_option maxRecDepth 100000 in
set_option maxHeartbeats 4000000 in
theorem u_X11_signs_0 {p : Program} {e : Env} {s : State} {m : MethodId} {args : Array Value} {below : List Frame} {meth : Method} {c : Code} {base : Nat} {D : va_G} {cA : Nat → ClassId} {n : Nat} {l : Launch} {Q : Int → ml_St → Prop} (X : ml_X p s m c meth args D cA cX11_signs 2 RX11 (some .long)) (hn : 214 ≤ n) (σ : ml_St) (x1 : Int) (h_x1 : I32 x1) (ls : Array Slot) (hl : lv_has ls 2 [(0, .ref (base + (1 : Int).toNat)), (1, .int (Int32.ofInt x1))]) (hw : f_X11_signs_u0 Q σ x1) : ml_V p l e rm_X11_signs s m args below meth c (MQ below (ml_Ql base D cA n Q) args s 0 0 (ml_A base)) base D cA 0 0 n n σ (F0 m 0 ls []) := by
  unfold f_X11_signs_u0 at hw
  refine ml_aload_n (pc := 0) X hl 0 rfl rfl dX11_signs_0 ?_
  refine ml_iload_n (pc := 1) X hl 1 rfl rfl dX11_signs_1 ?_
  refine ml_callzV (pc := 2) (rest := []) X [.int (Int32.ofInt x1)] (by decide) rfl (ml_c1 hn) (c_X11_isTold l base D cA n hn σ x1 h_x1 _ hw) cv_X11_104 ⟨rfl, rfl⟩ ⟨by decide, by decide⟩ rfl rfl hl (Nat.le_of_ble_eq_true rfl) ⟨Nat.zero_le _, Nat.zero_le _⟩ dX11_signs_2 (fun r1 σ1 t1 hw => ?_)
  have hw := hw t1
  refine ml_if_eq (pc := 5) (tgt := 23) X t1.i dX11_signs_5 (by decide) (fun c2 => ?_) (fun c2 => ?_)
  · have hw := hw.1 c2
    refine ml_ldc2 (pc := 23) (v := (-1)) X dX11_signs_23 tc_3_125 ?_
    exact u_X11_signs_26 X hn σ1 (-1) ⟨by decide, by decide⟩ _ (lv_sub hl [] rfl) hw
  · have hw := hw.2 c2
    refine ml_aload_n (pc := 8) X hl 0 rfl rfl dX11_signs_8 ?_
    refine gf_X11_67 (pc := 9) X (ml_c1 hn) dX11_signs_9 ?_
    refine ml_iload_n (pc := 12) X hl 1 rfl rfl dX11_signs_12 ?_
    obtain ⟨a3, b3, hw⟩ := hw
    refine ml_aald_words (pc := 13) X hn a3 b3 dX11_signs_13 ?_
    refine gf_X11_112 (pc := 14) X (ml_at_words hn a3 b3) dX11_signs_14 ?_
    refine gf_X11_115 (pc := 17) X (ml_r20_2 hn (ml_at_words hn a3 b3)) dX11_signs_17 (fun r4 => ?_)
    have hw := hw r4
    refine ml_goto (pc := 20) (tgt := 26) X dX11_signs_20 (by decide) ?_
    exact u_X11_signs_26 X hn σ1 (σ1 ((119 + 6 * x1) + 2) 5) r4 _ (lv_sub hl [] rfl) hw
set_option maxRecDepth 100000 in
theorem c_X11_signs (l : Launch) (base : Nat) (D : va_G) (cA : Nat → ClassId) (n : Nat) (hn : 214 ≤ n) (σ : ml_St) (x1 : Int) (h_x1 : I32 x1) (Q : Int → ml_St → Prop) (hw : f_X11_signs σ x1 Q) : Met l yX11_signs (Cond.code yX11_signs cX11_signs 2 (some .long) :: ml_T) rm_X11_signs (va_Pc [.ref (base + (1 : Int).toNat), .int (Int32.ofInt x1)] (ml_U base D cA n σ)) (ml_Ql base D cA n Q) 0 0 (ml_A base) := by
  refine Met.ofW (cc := cX11_signs) (maxL := 2) (ret := (some .long)) (by decide) rfl ?_
  intro p e s m args below meth c s₁ B hml hv
  obtain ⟨rfl, hP, hK, hok, hro⟩ := hv
  have X : ml_X p s m c meth _ D cA cX11_signs 2 RX11 (some .long) := ⟨B.exec, B.bytes, hml, findClass_of_methodNamed B.named, fun w hw => atoms_spec (ws := Cond.code yX11_signs cX11_signs 2 (some .long) :: ml_T) B.pre w (List.mem_cons_of_mem _ hw), hK, B.notSynchronized, B.returns⟩
  have hl := lv_entry [.ref (base + (1 : Int).toNat), .int (Int32.ofInt x1)] (n := 2) (Nat.le_of_ble_eq_true rfl)
  rw [lg_entry_eq]
  generalize (lg_sl [.ref (base + (1 : Int).toNat), .int (Int32.ofInt x1)] ++ List.replicate (2 - (lg_sl [.ref (base + (1 : Int).toNat), .int (Int32.ofInt x1)]).length) Slot.unset).toArray = ls at hl ⊢
  have hl : lv_has ls 2 [(0, .ref (base + (1 : Int).toNat)), (1, .int (Int32.ofInt x1))] := hl
  unfold f_X11_signs at hw
  exact u_X11_signs_0 X hn σ x1 h_x1 _ (lv_sub hl [0, 1] rfl) hw s.heap [] hP va_S.rf hok hro
theorem dX11_isEnd_0 : decode cX11_isEnd 0 = .ok (.iload_n 1, 1) := by decide +kernel
theorem dX11_isEnd_1 : decode cX11_isEnd 1 = .ok (.ifCond .lt 17, 3) := by decide +kernel
theorem dX11_isEnd_4 : decode cX11_isEnd 4 = .ok (.iload_n 1, 1) := by decide +kernel
theorem dX11_isEnd_5 : decode cX11_isEnd 5 = .ok (.iconst 2, 1) := by decide +kernel
theorem dX11_isEnd_6 : decode cX11_isEnd 6 = .ok (.aload_n 0, 1) := by decide +kernel
theorem dX11_isEnd_7 : decode cX11_isEnd 7 = .ok (.getfield 82, 3) := by decide +kernel
theorem dX11_isEnd_10 : decode cX11_isEnd 10 = .ok (.imul, 1) := by decide +kernel
theorem dX11_isEnd_11 : decode cX11_isEnd 11 = .ok (.if_icmp .ge 7, 3) := by decide +kernel
theorem dX11_isEnd_14 : decode cX11_isEnd 14 = .ok (.iconst 1, 1) := by decide +kernel
theorem dX11_isEnd_15 : decode cX11_isEnd 15 = .ok (.goto 4, 3) := by decide +kernel
theorem dX11_isEnd_18 : decode cX11_isEnd 18 = .ok (.iconst 0, 1) := by decide +kernel
theorem dX11_isEnd_19 : decode cX11_isEnd 19 = .ok (.ireturn, 1) := by decide +kernel
def f_X11_isEnd_u19 (Q : Int → ml_St → Prop) (σ : ml_St) (s0 : Int) : Prop :=
Q s0 σ
def f_X11_isEnd_u18 (Q : Int → ml_St → Prop) (σ : ml_St) : Prop :=
f_X11_isEnd_u19 Q σ 0
def f_X11_isEnd_u0 (Q : Int → ml_St → Prop) (σ : ml_St) (x1 : Int) : Prop :=
(x1 < 0 →
f_X11_isEnd_u18 Q σ) ∧
(¬ (x1 < 0) →
∀ _ : I32 (σ 1 11),
I32 (2 * (σ 1 11)) ∧
((2 * (σ 1 11)) ≤ x1 →
f_X11_isEnd_u18 Q σ) ∧
(¬ ((2 * (σ 1 11)) ≤ x1) →
f_X11_isEnd_u19 Q σ 1))
def f_X11_isEnd (σ : ml_St) (x1 : Int) (Q : Int → ml_St → Prop) : Prop := f_X11_isEnd_u0 Q σ x1
def rm_X11_isEnd : Room := { frames := 0, cells := 0, slots := 0, locals := 0 }
set_option maxRecDepth 100000 in
set_option maxHeartbeats 4000000 in
theorem u_X11_isEnd_19 {p : Program} {e : Env} {s : State} {m : MethodId} {args : Array Value} {below : List Frame} {meth : Method} {c : Code} {base : Nat} {D : va_G} {cA : Nat → ClassId} {n : Nat} {l : Launch} {Q : Int → ml_St → Prop} (X : ml_X p s m c meth args D cA cX11_isEnd 2 RX11 (some .boolean)) (hn : 214 ≤ n) (σ : ml_St) (s0 : Int) (h_s0 : ml_B s0) (ls : Array Slot) (hl : lv_has ls 2 []) (hw : f_X11_isEnd_u19 Q σ s0) : ml_V p l e rm_X11_isEnd s m args below meth c (MQ below (ml_Qi ml_B base D cA n Q) args s 0 0 (ml_A base)) base D cA 0 0 n n σ (F0 m 19 ls [.int (Int32.ofInt s0)]) := by
  unfold f_X11_isEnd_u19 at hw
  exact ml_zret (pc := 19) X h_s0 hw dX11_isEnd_19
set_option maxRecDepth 100000 in
set_option maxHeartbeats 4000000 in
theorem u_X11_isEnd_18 {p : Program} {e : Env} {s : State} {m : MethodId} {args : Array Value} {below : List Frame} {meth : Method} {c : Code} {base : Nat} {D : va_G} {cA : Nat → ClassId} {n : Nat} {l : Launch} {Q : Int → ml_St → Prop} (X : ml_X p s m c meth args D cA cX11_isEnd 2 RX11 (some .boolean)) (hn : 214 ≤ n) (σ : ml_St) (ls : Array Slot) (hl : lv_has ls 2 []) (hw : f_X11_isEnd_u18 Q σ) : ml_V p l e rm_X11_isEnd s m args below meth c (MQ below (ml_Qi ml_B base D cA n Q) args s 0 0 (ml_A base)) base D cA 0 0 n n σ (F0 m 18 ls []) := by
  unfold f_X11_isEnd_u18 at hw
  refine ml_iconst (pc := 18) X dX11_isEnd_18 ?_
  exact u_X11_isEnd_19 X hn σ 0 ⟨by decide, by decide⟩ _ (lv_sub hl [] rfl) hw
set_option maxRecDepth 100000 in
set_option maxHeartbeats 4000000 in
theorem u_X11_isEnd_0 {p : Program} {e : Env} {s : State} {m : MethodId} {args : Array Value} {below : List Frame} {meth : Method} {c : Code} {base : Nat} {D : va_G} {cA : Nat → ClassId} {n : Nat} {l : Launch} {Q : Int → ml_St → Prop} (X : ml_X p s m c meth args D cA cX11_isEnd 2 RX11 (some .boolean)) (hn : 214 ≤ n) (σ : ml_St) (x1 : Int) (h_x1 : I32 x1) (ls : Array Slot) (hl : lv_has ls 2 [(0, .ref (base + (1 : Int).toNat)), (1, .int (Int32.ofInt x1))]) (hw : f_X11_isEnd_u0 Q σ x1) : ml_V p l e rm_X11_isEnd s m args below meth c (MQ below (ml_Qi ml_B base D cA n Q) args s 0 0 (ml_A base)) base D cA 0 0 n n σ (F0 m 0 ls []) := by
  unfold f_X11_isEnd_u0 at hw
  refine ml_iload_n (pc := 0) X hl 1 rfl rfl dX11_isEnd_0 ?_
  refine ml_if_lt (pc := 1) (tgt := 18) X h_x1 dX11_isEnd_1 (by decide) (fun c1 => ?_) (fun c1 => ?_)
  · have hw := hw.1 c1
    exact u_X11_isEnd_18 X hn σ   _ (lv_sub hl [] rfl) hw
  · have hw := hw.2 c1
    refine ml_iload_n (pc := 4) X hl 1 rfl rfl dX11_isEnd_4 ?_
    refine ml_iconst (pc := 5) X dX11_isEnd_5 ?_
    refine ml_aload_n (pc := 6) X hl 0 rfl rfl dX11_isEnd_6 ?_
    refine gf_X11_82 (pc := 7) X (ml_c1 hn) dX11_isEnd_7 (fun r2 => ?_)
    have hw := hw r2
    obtain ⟨v3, hw⟩ := hw
    refine ml_imul (pc := 10) X dX11_isEnd_10 ?_
    refine ml_icmp_ge (pc := 11) (tgt := 18) X h_x1 v3 dX11_isEnd_11 (by decide) (fun c4 => ?_) (fun c4 => ?_)
    · have hw := hw.1 c4
      exact u_X11_isEnd_18 X hn σ   _ (lv_sub hl [] rfl) hw
    · have hw := hw.2 c4
      refine ml_iconst (pc := 14) X dX11_isEnd_14 ?_
      refine ml_goto (pc := 15) (tgt := 19) X dX11_isEnd_15 (by decide) ?_
      exact u_X11_isEnd_19 X hn σ 1 ⟨by decide, by decide⟩ _ (lv_sub hl [] rfl) hw
set_option maxRecDepth 100000 in
theorem c_X11_isEnd (l : Launch) (base : Nat) (D : va_G) (cA : Nat → ClassId) (n : Nat) (hn : 214 ≤ n) (σ : ml_St) (x1 : Int) (h_x1 : I32 x1) (Q : Int → ml_St → Prop) (hw : f_X11_isEnd σ x1 Q) : Met l yX11_isEnd (Cond.code yX11_isEnd cX11_isEnd 2 (some .boolean) :: ml_T) rm_X11_isEnd (va_Pc [.ref (base + (1 : Int).toNat), .int (Int32.ofInt x1)] (ml_U base D cA n σ)) (ml_Qi ml_B base D cA n Q) 0 0 (ml_A base) := by
  refine Met.ofW (cc := cX11_isEnd) (maxL := 2) (ret := (some .boolean)) (by decide) rfl ?_
  intro p e s m args below meth c s₁ B hml hv
  obtain ⟨rfl, hP, hK, hok, hro⟩ := hv
  have X : ml_X p s m c meth _ D cA cX11_isEnd 2 RX11 (some .boolean) := ⟨B.exec, B.bytes, hml, findClass_of_methodNamed B.named, fun w hw => atoms_spec (ws := Cond.code yX11_isEnd cX11_isEnd 2 (some .boolean) :: ml_T) B.pre w (List.mem_cons_of_mem _ hw), hK, B.notSynchronized, B.returns⟩
  have hl := lv_entry [.ref (base + (1 : Int).toNat), .int (Int32.ofInt x1)] (n := 2) (Nat.le_of_ble_eq_true rfl)
  rw [lg_entry_eq]
  generalize (lg_sl [.ref (base + (1 : Int).toNat), .int (Int32.ofInt x1)] ++ List.replicate (2 - (lg_sl [.ref (base + (1 : Int).toNat), .int (Int32.ofInt x1)]).length) Slot.unset).toArray = ls at hl ⊢
  have hl : lv_has ls 2 [(0, .ref (base + (1 : Int).toNat)), (1, .int (Int32.ofInt x1))] := hl
  unfold f_X11_isEnd at hw
  exact u_X11_isEnd_0 X hn σ x1 h_x1 _ (lv_sub hl [0, 1] rfl) hw s.heap [] hP va_S.rf hok hro
theorem dX11_isMade_0 : decode cX11_isMade 0 = .ok (.aload_n 0, 1) := by decide +kernel
theorem dX11_isMade_1 : decode cX11_isMade 1 = .ok (.iload_n 1, 1) := by decide +kernel
theorem dX11_isMade_2 : decode cX11_isMade 2 = .ok (.invokevirtual 104, 3) := by decide +kernel
theorem dX11_isMade_5 : decode cX11_isMade 5 = .ok (.ifCond .eq 22, 3) := by decide +kernel
theorem dX11_isMade_8 : decode cX11_isMade 8 = .ok (.aload_n 0, 1) := by decide +kernel
theorem dX11_isMade_9 : decode cX11_isMade 9 = .ok (.getfield 67, 3) := by decide +kernel
theorem dX11_isMade_12 : decode cX11_isMade 12 = .ok (.iload_n 1, 1) := by decide +kernel
theorem dX11_isMade_13 : decode cX11_isMade 13 = .ok (.aaload, 1) := by decide +kernel
theorem dX11_isMade_14 : decode cX11_isMade 14 = .ok (.getfield 112, 3) := by decide +kernel
theorem dX11_isMade_17 : decode cX11_isMade 17 = .ok (.invokevirtual 215, 3) := by decide +kernel
theorem dX11_isMade_20 : decode cX11_isMade 20 = .ok (.ifCond .ne 7, 3) := by decide +kernel
theorem dX11_isMade_23 : decode cX11_isMade 23 = .ok (.iconst 1, 1) := by decide +kernel
theorem dX11_isMade_24 : decode cX11_isMade 24 = .ok (.goto 4, 3) := by decide +kernel
theorem dX11_isMade_27 : decode cX11_isMade 27 = .ok (.iconst 0, 1) := by decide +kernel
theorem dX11_isMade_28 : decode cX11_isMade 28 = .ok (.ireturn, 1) := by decide +kernel
def f_X11_isMade_u28 (Q : Int → ml_St → Prop) (σ : ml_St) (s0 : Int) : Prop :=
Q s0 σ
def f_X11_isMade_u27 (Q : Int → ml_St → Prop) (σ : ml_St) : Prop :=
f_X11_isMade_u28 Q σ 0
def f_X11_isMade_u0 (Q : Int → ml_St → Prop) (σ : ml_St) (x1 : Int) : Prop :=
f_X11_isTold σ x1 (fun r1 σ1 => ∀ _ : ml_B r1,
(r1 = 0 →
f_X11_isMade_u27 Q σ1) ∧
(r1 ≠ 0 →
(0 : Int) ≤ x1 ∧ (x1 : Int) < 16 ∧
False))
def f_X11_isMade (σ : ml_St) (x1 : Int) (Q : Int → ml_St → Prop) : Prop := f_X11_isMade_u0 Q σ x1
def rm_X11_isMade : Room := { frames := 1, cells := 0, slots := 0, locals := 21 }
set_option maxRecDepth 100000 in
set_option maxHeartbeats 4000000 in
theorem u_X11_isMade_28 {p : Program} {e : Env} {s : State} {m : MethodId} {args : Array Value} {below : List Frame} {meth : Method} {c : Code} {base : Nat} {D : va_G} {cA : Nat → ClassId} {n : Nat} {l : Launch} {Q : Int → ml_St → Prop} (X : ml_X p s m c meth args D cA cX11_isMade 2 RX11 (some .boolean)) (hn : 214 ≤ n) (σ : ml_St) (s0 : Int) (h_s0 : ml_B s0) (ls : Array Slot) (hl : lv_has ls 2 []) (hw : f_X11_isMade_u28 Q σ s0) : ml_V p l e rm_X11_isMade s m args below meth c (MQ below (ml_Qi ml_B base D cA n Q) args s 0 0 (ml_A base)) base D cA 0 0 n n σ (F0 m 28 ls [.int (Int32.ofInt s0)]) := by
  unfold f_X11_isMade_u28 at hw
  exact ml_zret (pc := 28) X h_s0 hw dX11_isMade_28
set_option maxRecDepth 100000 in
set_option maxHeartbeats 4000000 in
theorem u_X11_isMade_27 {p : Program} {e : Env} {s : State} {m : MethodId} {args : Array Value} {below : List Frame} {meth : Method} {c : Code} {base : Nat} {D : va_G} {cA : Nat → ClassId} {n : Nat} {l : Launch} {Q : Int → ml_St → Prop} (X : ml_X p s m c meth args D cA cX11_isMade 2 RX11 (some .boolean)) (hn : 214 ≤ n) (σ : ml_St) (ls : Array Slot) (hl : lv_has ls 2 []) (hw : f_X11_isMade_u27 Q σ) : ml_V p l e rm_X11_isMade s m args below meth c (MQ below (ml_Qi ml_B base D cA n Q) args s 0 0 (ml_A base)) base D cA 0 0 n n σ (F0 m 27 ls []) := by
  unfold f_X11_isMade_u27 at hw
  refine ml_iconst (pc := 27) X dX11_isMade_27 ?_
  exact u_X11_isMade_28 X hn σ 0 ⟨by decide, by decide⟩ _ (lv_sub hl [] rfl) hw
set_option maxRecDepth 100000 in
set_option maxHeartbeats 4000000 in
theorem u_X11_isMade_0 {p : Program} {e : Env} {s : State} {m : MethodId} {args : Array Value} {below : List Frame} {meth : Method} {c : Code} {base : Nat} {D : va_G} {cA : Nat → ClassId} {n : Nat} {l : Launch} {Q : Int → ml_St → Prop} (X : ml_X p s m c meth args D cA cX11_isMade 2 RX11 (some .boolean)) (hn : 214 ≤ n) (σ : ml_St) (x1 : Int) (h_x1 : I32 x1) (ls : Array Slot) (hl : lv_has ls 2 [(0, .ref (base + (1 : Int).toNat)), (1, .int (Int32.ofInt x1))]) (hw : f_X11_isMade_u0 Q σ x1) : ml_V p l e rm_X11_isMade s m args below meth c (MQ below (ml_Qi ml_B base D cA n Q) args s 0 0 (ml_A base)) base D cA 0 0 n n σ (F0 m 0 ls []) := by
  unfold f_X11_isMade_u0 at hw
  refine ml_aload_n (pc := 0) X hl 0 rfl rfl dX11_isMade_0 ?_
  refine ml_iload_n (pc := 1) X hl 1 rfl rfl dX11_isMade_1 ?_
  refine ml_callzV (pc := 2) (rest := []) X [.int (Int32.ofInt x1)] (by decide) rfl (ml_c1 hn) (c_X11_isTold l base D cA n hn σ x1 h_x1 _ hw) cv_X11_104 ⟨rfl, rfl⟩ ⟨by decide, by decide⟩ rfl rfl hl (Nat.le_of_ble_eq_true rfl) ⟨Nat.zero_le _, Nat.zero_le _⟩ dX11_isMade_2 (fun r1 σ1 t1 hw => ?_)
  have hw := hw t1
  refine ml_if_eq (pc := 5) (tgt := 27) X t1.i dX11_isMade_5 (by decide) (fun c2 => ?_) (fun c2 => ?_)
  · have hw := hw.1 c2
    exact u_X11_isMade_27 X hn σ1   _ (lv_sub hl [] rfl) hw
  · have hw := hw.2 c2
    refine ml_aload_n (pc := 8) X hl 0 rfl rfl dX11_isMade_8 ?_
    refine gf_X11_67 (pc := 9) X (ml_c1 hn) dX11_isMade_9 ?_
    refine ml_iload_n (pc := 12) X hl 1 rfl rfl dX11_isMade_12 ?_
    obtain ⟨a3, b3, hw⟩ := hw
    refine ml_aald_words (pc := 13) X hn a3 b3 dX11_isMade_13 ?_
    refine gf_X11_112 (pc := 14) X (ml_at_words hn a3 b3) dX11_isMade_14 ?_
    exact hw.elim
set_option maxRecDepth 100000 in
theorem c_X11_isMade (l : Launch) (base : Nat) (D : va_G) (cA : Nat → ClassId) (n : Nat) (hn : 214 ≤ n) (σ : ml_St) (x1 : Int) (h_x1 : I32 x1) (Q : Int → ml_St → Prop) (hw : f_X11_isMade σ x1 Q) : Met l yX11_isMade (Cond.code yX11_isMade cX11_isMade 2 (some .boolean) :: ml_T) rm_X11_isMade (va_Pc [.ref (base + (1 : Int).toNat), .int (Int32.ofInt x1)] (ml_U base D cA n σ)) (ml_Qi ml_B base D cA n Q) 0 0 (ml_A base) := by
  refine Met.ofW (cc := cX11_isMade) (maxL := 2) (ret := (some .boolean)) (by decide) rfl ?_
  intro p e s m args below meth c s₁ B hml hv
  obtain ⟨rfl, hP, hK, hok, hro⟩ := hv
  have X : ml_X p s m c meth _ D cA cX11_isMade 2 RX11 (some .boolean) := ⟨B.exec, B.bytes, hml, findClass_of_methodNamed B.named, fun w hw => atoms_spec (ws := Cond.code yX11_isMade cX11_isMade 2 (some .boolean) :: ml_T) B.pre w (List.mem_cons_of_mem _ hw), hK, B.notSynchronized, B.returns⟩
  have hl := lv_entry [.ref (base + (1 : Int).toNat), .int (Int32.ofInt x1)] (n := 2) (Nat.le_of_ble_eq_true rfl)
  rw [lg_entry_eq]
  generalize (lg_sl [.ref (base + (1 : Int).toNat), .int (Int32.ofInt x1)] ++ List.replicate (2 - (lg_sl [.ref (base + (1 : Int).toNat), .int (Int32.ofInt x1)]).length) Slot.unset).toArray = ls at hl ⊢
  have hl : lv_has ls 2 [(0, .ref (base + (1 : Int).toNat)), (1, .int (Int32.ofInt x1))] := hl
  unfold f_X11_isMade at hw
  exact u_X11_isMade_0 X hn σ x1 h_x1 _ (lv_sub hl [0, 1] rfl) hw s.heap [] hP va_S.rf hok hro
theorem dX11_joined_0 : decode cX11_joined 0 = .ok (.aload_n 0, 1) := by decide +kernel
theorem dX11_joined_1 : decode cX11_joined 1 = .ok (.iload_n 1, 1) := by decide +kernel
theorem dX11_joined_2 : decode cX11_joined 2 = .ok (.invokevirtual 121, 3) := by decide +kernel
theorem dX11_joined_5 : decode cX11_joined 5 = .ok (.ifCond .eq 28, 3) := by decide +kernel
theorem dX11_joined_8 : decode cX11_joined 8 = .ok (.aload_n 0, 1) := by decide +kernel
theorem dX11_joined_9 : decode cX11_joined 9 = .ok (.iload_n 2, 1) := by decide +kernel
theorem dX11_joined_10 : decode cX11_joined 10 = .ok (.invokevirtual 124, 3) := by decide +kernel
theorem dX11_joined_13 : decode cX11_joined 13 = .ok (.ifCond .eq 20, 3) := by decide +kernel
theorem dX11_joined_16 : decode cX11_joined 16 = .ok (.aload_n 0, 1) := by decide +kernel
theorem dX11_joined_17 : decode cX11_joined 17 = .ok (.getfield 67, 3) := by decide +kernel
theorem dX11_joined_20 : decode cX11_joined 20 = .ok (.iload_n 1, 1) := by decide +kernel
theorem dX11_joined_21 : decode cX11_joined 21 = .ok (.aaload, 1) := by decide +kernel
theorem dX11_joined_22 : decode cX11_joined 22 = .ok (.getfield 112, 3) := by decide +kernel
theorem dX11_joined_25 : decode cX11_joined 25 = .ok (.getfield 127, 3) := by decide +kernel
theorem dX11_joined_28 : decode cX11_joined 28 = .ok (.iload_n 2, 1) := by decide +kernel
theorem dX11_joined_29 : decode cX11_joined 29 = .ok (.iaload, 1) := by decide +kernel
theorem dX11_joined_30 : decode cX11_joined 30 = .ok (.goto 4, 3) := by decide +kernel
theorem dX11_joined_33 : decode cX11_joined 33 = .ok (.iconst (-1), 1) := by decide +kernel
theorem dX11_joined_34 : decode cX11_joined 34 = .ok (.ireturn, 1) := by decide +kernel
def f_X11_joined_u34 (Q : Int → ml_St → Prop) (σ : ml_St) (s0 : Int) : Prop :=
Q s0 σ
def f_X11_joined_u33 (Q : Int → ml_St → Prop) (σ : ml_St) : Prop :=
f_X11_joined_u34 Q σ (-1)
def f_X11_joined_u0 (Q : Int → ml_St → Prop) (σ : ml_St) (x1 : Int) (x2 : Int) : Prop :=
f_X11_isMade σ x1 (fun r1 σ1 => ∀ _ : ml_B r1,
(r1 = 0 →
f_X11_joined_u33 Q σ1) ∧
(r1 ≠ 0 →
f_X11_isEnd σ1 x2 (fun r3 σ3 => ∀ _ : ml_B r3,
(r3 = 0 →
f_X11_joined_u33 Q σ3) ∧
(r3 ≠ 0 →
(0 : Int) ≤ x1 ∧ (x1 : Int) < 16 ∧
(0 : Int) ≤ x2 ∧ (x2 : Int) < 10 ∧
∀ _ : I32 (σ3 (((119 + 6 * x1) + 2) + 1) x2),
f_X11_joined_u34 Q σ3 (σ3 (((119 + 6 * x1) + 2) + 1) x2)))))
def f_X11_joined (σ : ml_St) (x1 : Int) (x2 : Int) (Q : Int → ml_St → Prop) : Prop := f_X11_joined_u0 Q σ x1 x2
def rm_X11_joined : Room := { frames := 2, cells := 0, slots := 0, locals := 42 }
set_option maxRecDepth 100000 in
set_option maxHeartbeats 4000000 in
theorem u_X11_joined_34 {p : Program} {e : Env} {s : State} {m : MethodId} {args : Array Value} {below : List Frame} {meth : Method} {c : Code} {base : Nat} {D : va_G} {cA : Nat → ClassId} {n : Nat} {l : Launch} {Q : Int → ml_St → Prop} (X : ml_X p s m c meth args D cA cX11_joined 3 RX11 (some .int)) (hn : 214 ≤ n) (σ : ml_St) (s0 : Int) (h_s0 : I32 s0) (ls : Array Slot) (hl : lv_has ls 3 []) (hw : f_X11_joined_u34 Q σ s0) : ml_V p l e rm_X11_joined s m args below meth c (MQ below (ml_Qi I32 base D cA n Q) args s 0 0 (ml_A base)) base D cA 0 0 n n σ (F0 m 34 ls [.int (Int32.ofInt s0)]) := by
  unfold f_X11_joined_u34 at hw
  exact ml_iret (pc := 34) X h_s0 hw dX11_joined_34
set_option maxRecDepth 100000 in
set_option maxHeartbeats 4000000 in
theorem u_X11_joined_33 {p : Program} {e : Env} {s : State} {m : MethodId} {args : Array Value} {below : List Frame} {meth : Method} {c : Code} {base : Nat} {D : va_G} {cA : Nat → ClassId} {n : Nat} {l : Launch} {Q : Int → ml_St → Prop} (X : ml_X p s m c meth args D cA cX11_joined 3 RX11 (some .int)) (hn : 214 ≤ n) (σ : ml_St) (ls : Array Slot) (hl : lv_has ls 3 []) (hw : f_X11_joined_u33 Q σ) : ml_V p l e rm_X11_joined s m args below meth c (MQ below (ml_Qi I32 base D cA n Q) args s 0 0 (ml_A base)) base D cA 0 0 n n σ (F0 m 33 ls []) := by
  unfold f_X11_joined_u33 at hw
  refine ml_iconst (pc := 33) X dX11_joined_33 ?_
  exact u_X11_joined_34 X hn σ (-1) ⟨by decide, by decide⟩ _ (lv_sub hl [] rfl) hw
set_option maxRecDepth 100000 in
set_option maxHeartbeats 4000000 in
theorem u_X11_joined_0 {p : Program} {e : Env} {s : State} {m : MethodId} {args : Array Value} {below : List Frame} {meth : Method} {c : Code} {base : Nat} {D : va_G} {cA : Nat → ClassId} {n : Nat} {l : Launch} {Q : Int → ml_St → Prop} (X : ml_X p s m c meth args D cA cX11_joined 3 RX11 (some .int)) (hn : 214 ≤ n) (σ : ml_St) (x1 : Int) (x2 : Int) (h_x1 : I32 x1) (h_x2 : I32 x2) (ls : Array Slot) (hl : lv_has ls 3 [(0, .ref (base + (1 : Int).toNat)), (1, .int (Int32.ofInt x1)), (2, .int (Int32.ofInt x2))]) (hw : f_X11_joined_u0 Q σ x1 x2) : ml_V p l e rm_X11_joined s m args below meth c (MQ below (ml_Qi I32 base D cA n Q) args s 0 0 (ml_A base)) base D cA 0 0 n n σ (F0 m 0 ls []) := by
  unfold f_X11_joined_u0 at hw
  refine ml_aload_n (pc := 0) X hl 0 rfl rfl dX11_joined_0 ?_
  refine ml_iload_n (pc := 1) X hl 1 rfl rfl dX11_joined_1 ?_
  refine ml_callzV (pc := 2) (rest := []) X [.int (Int32.ofInt x1)] (by decide) rfl (ml_c1 hn) (c_X11_isMade l base D cA n hn σ x1 h_x1 _ hw) cv_X11_121 ⟨rfl, rfl⟩ ⟨by decide, by decide⟩ rfl rfl hl (Nat.le_of_ble_eq_true rfl) ⟨Nat.zero_le _, Nat.zero_le _⟩ dX11_joined_2 (fun r1 σ1 t1 hw => ?_)
  have hw := hw t1
  refine ml_if_eq (pc := 5) (tgt := 33) X t1.i dX11_joined_5 (by decide) (fun c2 => ?_) (fun c2 => ?_)
  · have hw := hw.1 c2
    exact u_X11_joined_33 X hn σ1   _ (lv_sub hl [] rfl) hw
  · have hw := hw.2 c2
    refine ml_aload_n (pc := 8) X hl 0 rfl rfl dX11_joined_8 ?_
    refine ml_iload_n (pc := 9) X hl 2 rfl rfl dX11_joined_9 ?_
    refine ml_callzV (pc := 10) (rest := []) X [.int (Int32.ofInt x2)] (by decide) rfl (ml_c1 hn) (c_X11_isEnd l base D cA n hn σ1 x2 h_x2 _ hw) cv_X11_124 ⟨rfl, rfl⟩ ⟨by decide, by decide⟩ rfl rfl hl (Nat.le_of_ble_eq_true rfl) ⟨Nat.zero_le _, Nat.zero_le _⟩ dX11_joined_10 (fun r3 σ3 t3 hw => ?_)
    have hw := hw t3
    refine ml_if_eq (pc := 13) (tgt := 33) X t3.i dX11_joined_13 (by decide) (fun c4 => ?_) (fun c4 => ?_)
    · have hw := hw.1 c4
      exact u_X11_joined_33 X hn σ3   _ (lv_sub hl [] rfl) hw
    · have hw := hw.2 c4
      refine ml_aload_n (pc := 16) X hl 0 rfl rfl dX11_joined_16 ?_
      refine gf_X11_67 (pc := 17) X (ml_c1 hn) dX11_joined_17 ?_
      refine ml_iload_n (pc := 20) X hl 1 rfl rfl dX11_joined_20 ?_
      obtain ⟨a5, b5, hw⟩ := hw
      refine ml_aald_words (pc := 21) X hn a5 b5 dX11_joined_21 ?_
      refine gf_X11_112 (pc := 22) X (ml_at_words hn a5 b5) dX11_joined_22 ?_
      refine gf_X11_127 (pc := 25) X (ml_r20_2 hn (ml_at_words hn a5 b5)) dX11_joined_25 ?_
      refine ml_iload_n (pc := 28) X hl 2 rfl rfl dX11_joined_28 ?_
      obtain ⟨a6, b6, hw⟩ := hw
      refine ml_iald (pc := 29) (N := 10) X (ml_r19_1 hn (ml_r20_2 hn (ml_at_words hn a5 b5))) a6 b6 dX11_joined_29 (fun r6 => ?_)
      have hw := hw r6
      refine ml_goto (pc := 30) (tgt := 34) X dX11_joined_30 (by decide) ?_
      exact u_X11_joined_34 X hn σ3 (σ3 (((119 + 6 * x1) + 2) + 1) x2) r6 _ (lv_sub hl [] rfl) hw
set_option maxRecDepth 100000 in
theorem c_X11_joined (l : Launch) (base : Nat) (D : va_G) (cA : Nat → ClassId) (n : Nat) (hn : 214 ≤ n) (σ : ml_St) (x1 : Int) (x2 : Int) (h_x1 : I32 x1) (h_x2 : I32 x2) (Q : Int → ml_St → Prop) (hw : f_X11_joined σ x1 x2 Q) : Met l yX11_joined (Cond.code yX11_joined cX11_joined 3 (some .int) :: ml_T) rm_X11_joined (va_Pc [.ref (base + (1 : Int).toNat), .int (Int32.ofInt x1), .int (Int32.ofInt x2)] (ml_U base D cA n σ)) (ml_Qi I32 base D cA n Q) 0 0 (ml_A base) := by
  refine Met.ofW (cc := cX11_joined) (maxL := 3) (ret := (some .int)) (by decide) rfl ?_
  intro p e s m args below meth c s₁ B hml hv
  obtain ⟨rfl, hP, hK, hok, hro⟩ := hv
  have X : ml_X p s m c meth _ D cA cX11_joined 3 RX11 (some .int) := ⟨B.exec, B.bytes, hml, findClass_of_methodNamed B.named, fun w hw => atoms_spec (ws := Cond.code yX11_joined cX11_joined 3 (some .int) :: ml_T) B.pre w (List.mem_cons_of_mem _ hw), hK, B.notSynchronized, B.returns⟩
  have hl := lv_entry [.ref (base + (1 : Int).toNat), .int (Int32.ofInt x1), .int (Int32.ofInt x2)] (n := 3) (Nat.le_of_ble_eq_true rfl)
  rw [lg_entry_eq]
  generalize (lg_sl [.ref (base + (1 : Int).toNat), .int (Int32.ofInt x1), .int (Int32.ofInt x2)] ++ List.replicate (3 - (lg_sl [.ref (base + (1 : Int).toNat), .int (Int32.ofInt x1), .int (Int32.ofInt x2)]).length) Slot.unset).toArray = ls at hl ⊢
  have hl : lv_has ls 3 [(0, .ref (base + (1 : Int).toNat)), (1, .int (Int32.ofInt x1)), (2, .int (Int32.ofInt x2))] := hl
  unfold f_X11_joined at hw
  exact u_X11_joined_0 X hn σ x1 x2 h_x1 h_x2 _ (lv_sub hl [0, 1, 2] rfl) hw s.heap [] hP va_S.rf hok hro
theorem dX11_length_0 : decode cX11_length 0 = .ok (.aload_n 0, 1) := by decide +kernel
theorem dX11_length_1 : decode cX11_length 1 = .ok (.iload_n 1, 1) := by decide +kernel
theorem dX11_length_2 : decode cX11_length 2 = .ok (.invokevirtual 121, 3) := by decide +kernel
theorem dX11_length_5 : decode cX11_length 5 = .ok (.ifCond .eq 28, 3) := by decide +kernel
theorem dX11_length_8 : decode cX11_length 8 = .ok (.aload_n 0, 1) := by decide +kernel
theorem dX11_length_9 : decode cX11_length 9 = .ok (.iload_n 2, 1) := by decide +kernel
theorem dX11_length_10 : decode cX11_length 10 = .ok (.invokevirtual 124, 3) := by decide +kernel
theorem dX11_length_13 : decode cX11_length 13 = .ok (.ifCond .eq 20, 3) := by decide +kernel
theorem dX11_length_16 : decode cX11_length 16 = .ok (.aload_n 0, 1) := by decide +kernel
theorem dX11_length_17 : decode cX11_length 17 = .ok (.getfield 67, 3) := by decide +kernel
theorem dX11_length_20 : decode cX11_length 20 = .ok (.iload_n 1, 1) := by decide +kernel
theorem dX11_length_21 : decode cX11_length 21 = .ok (.aaload, 1) := by decide +kernel
theorem dX11_length_22 : decode cX11_length 22 = .ok (.getfield 112, 3) := by decide +kernel
theorem dX11_length_25 : decode cX11_length 25 = .ok (.getfield 131, 3) := by decide +kernel
theorem dX11_length_28 : decode cX11_length 28 = .ok (.iload_n 2, 1) := by decide +kernel
theorem dX11_length_29 : decode cX11_length 29 = .ok (.laload, 1) := by decide +kernel
theorem dX11_length_30 : decode cX11_length 30 = .ok (.goto 6, 3) := by decide +kernel
theorem dX11_length_33 : decode cX11_length 33 = .ok (.ldc2_w 119, 3) := by decide +kernel
theorem dX11_length_36 : decode cX11_length 36 = .ok (.lreturn, 1) := by decide +kernel
def f_X11_length_u36 (Q : Int → ml_St → Prop) (σ : ml_St) (s0 : Int) : Prop :=
Q s0 σ
def f_X11_length_u33 (Q : Int → ml_St → Prop) (σ : ml_St) : Prop :=
f_X11_length_u36 Q σ (-1)
def f_X11_length_u0 (Q : Int → ml_St → Prop) (σ : ml_St) (x1 : Int) (x2 : Int) : Prop :=
f_X11_isMade σ x1 (fun r1 σ1 => ∀ _ : ml_B r1,
(r1 = 0 →
f_X11_length_u33 Q σ1) ∧
(r1 ≠ 0 →
f_X11_isEnd σ1 x2 (fun r3 σ3 => ∀ _ : ml_B r3,
(r3 = 0 →
f_X11_length_u33 Q σ3) ∧
(r3 ≠ 0 →
(0 : Int) ≤ x1 ∧ (x1 : Int) < 16 ∧
(0 : Int) ≤ x2 ∧ (x2 : Int) < 10 ∧
∀ _ : I64 (σ3 (((119 + 6 * x1) + 2) + 2) x2),
f_X11_length_u36 Q σ3 (σ3 (((119 + 6 * x1) + 2) + 2) x2)))))
def f_X11_length (σ : ml_St) (x1 : Int) (x2 : Int) (Q : Int → ml_St → Prop) : Prop := f_X11_length_u0 Q σ x1 x2
def rm_X11_length : Room := { frames := 2, cells := 0, slots := 0, locals := 42 }
set_option maxRecDepth 100000 in
set_option maxHeartbeats 4000000 in
theorem u_X11_length_36 {p : Program} {e : Env} {s : State} {m : MethodId} {args : Array Value} {below : List Frame} {meth : Method} {c : Code} {base : Nat} {D : va_G} {cA : Nat → ClassId} {n : Nat} {l : Launch} {Q : Int → ml_St → Prop} (X : ml_X p s m c meth args D cA cX11_length 3 RX11 (some .long)) (hn : 214 ≤ n) (σ : ml_St) (s0 : Int) (h_s0 : I64 s0) (ls : Array Slot) (hl : lv_has ls 3 []) (hw : f_X11_length_u36 Q σ s0) : ml_V p l e rm_X11_length s m args below meth c (MQ below (ml_Ql base D cA n Q) args s 0 0 (ml_A base)) base D cA 0 0 n n σ (F0 m 36 ls [.long (Int64.ofInt s0)]) := by
  unfold f_X11_length_u36 at hw
  exact ml_lret (pc := 36) X h_s0 hw dX11_length_36
set_option maxRecDepth 100000 in
set_option maxHeartbeats 4000000 in
theorem u_X11_length_33 {p : Program} {e : Env} {s : State} {m : MethodId} {args : Array Value} {below : List Frame} {meth : Method} {c : Code} {base : Nat} {D : va_G} {cA : Nat → ClassId} {n : Nat} {l : Launch} {Q : Int → ml_St → Prop} (X : ml_X p s m c meth args D cA cX11_length 3 RX11 (some .long)) (hn : 214 ≤ n) (σ : ml_St) (ls : Array Slot) (hl : lv_has ls 3 []) (hw : f_X11_length_u33 Q σ) : ml_V p l e rm_X11_length s m args below meth c (MQ below (ml_Ql base D cA n Q) args s 0 0 (ml_A base)) base D cA 0 0 n n σ (F0 m 33 ls []) := by
  unfold f_X11_length_u33 at hw
  refine ml_ldc2 (pc := 33) (v := (-1)) X dX11_length_33 tc_3_125 ?_
  exact u_X11_length_36 X hn σ (-1) ⟨by decide, by decide⟩ _ (lv_sub hl [] rfl) hw
set_option maxRecDepth 100000 in
set_option maxHeartbeats 4000000 in
theorem u_X11_length_0 {p : Program} {e : Env} {s : State} {m : MethodId} {args : Array Value} {below : List Frame} {meth : Method} {c : Code} {base : Nat} {D : va_G} {cA : Nat → ClassId} {n : Nat} {l : Launch} {Q : Int → ml_St → Prop} (X : ml_X p s m c meth args D cA cX11_length 3 RX11 (some .long)) (hn : 214 ≤ n) (σ : ml_St) (x1 : Int) (x2 : Int) (h_x1 : I32 x1) (h_x2 : I32 x2) (ls : Array Slot) (hl : lv_has ls 3 [(0, .ref (base + (1 : Int).toNat)), (1, .int (Int32.ofInt x1)), (2, .int (Int32.ofInt x2))]) (hw : f_X11_length_u0 Q σ x1 x2) : ml_V p l e rm_X11_length s m args below meth c (MQ below (ml_Ql base D cA n Q) args s 0 0 (ml_A base)) base D cA 0 0 n n σ (F0 m 0 ls []) := by
  unfold f_X11_length_u0 at hw
  refine ml_aload_n (pc := 0) X hl 0 rfl rfl dX11_length_0 ?_
  refine ml_iload_n (pc := 1) X hl 1 rfl rfl dX11_length_1 ?_
  refine ml_callzV (pc := 2) (rest := []) X [.int (Int32.ofInt x1)] (by decide) rfl (ml_c1 hn) (c_X11_isMade l base D cA n hn σ x1 h_x1 _ hw) cv_X11_121 ⟨rfl, rfl⟩ ⟨by decide, by decide⟩ rfl rfl hl (Nat.le_of_ble_eq_true rfl) ⟨Nat.zero_le _, Nat.zero_le _⟩ dX11_length_2 (fun r1 σ1 t1 hw => ?_)
  have hw := hw t1
  refine ml_if_eq (pc := 5) (tgt := 33) X t1.i dX11_length_5 (by decide) (fun c2 => ?_) (fun c2 => ?_)
  · have hw := hw.1 c2
    exact u_X11_length_33 X hn σ1   _ (lv_sub hl [] rfl) hw
  · have hw := hw.2 c2
    refine ml_aload_n (pc := 8) X hl 0 rfl rfl dX11_length_8 ?_
    refine ml_iload_n (pc := 9) X hl 2 rfl rfl dX11_length_9 ?_
    refine ml_callzV (pc := 10) (rest := []) X [.int (Int32.ofInt x2)] (by decide) rfl (ml_c1 hn) (c_X11_isEnd l base D cA n hn σ1 x2 h_x2 _ hw) cv_X11_124 ⟨rfl, rfl⟩ ⟨by decide, by decide⟩ rfl rfl hl (Nat.le_of_ble_eq_true rfl) ⟨Nat.zero_le _, Nat.zero_le _⟩ dX11_length_10 (fun r3 σ3 t3 hw => ?_)
    have hw := hw t3
    refine ml_if_eq (pc := 13) (tgt := 33) X t3.i dX11_length_13 (by decide) (fun c4 => ?_) (fun c4 => ?_)
    · have hw := hw.1 c4
      exact u_X11_length_33 X hn σ3   _ (lv_sub hl [] rfl) hw
    · have hw := hw.2 c4
      refine ml_aload_n (pc := 16) X hl 0 rfl rfl dX11_length_16 ?_
      refine gf_X11_67 (pc := 17) X (ml_c1 hn) dX11_length_17 ?_
      refine ml_iload_n (pc := 20) X hl 1 rfl rfl dX11_length_20 ?_
      obtain ⟨a5, b5, hw⟩ := hw
      refine ml_aald_words (pc := 21) X hn a5 b5 dX11_length_21 ?_
      refine gf_X11_112 (pc := 22) X (ml_at_words hn a5 b5) dX11_length_22 ?_
      refine gf_X11_131 (pc := 25) X (ml_r20_2 hn (ml_at_words hn a5 b5)) dX11_length_25 ?_
      refine ml_iload_n (pc := 28) X hl 2 rfl rfl dX11_length_28 ?_
      obtain ⟨a6, b6, hw⟩ := hw
      refine ml_lald (pc := 29) (N := 10) X (ml_r19_2 hn (ml_r20_2 hn (ml_at_words hn a5 b5))) a6 b6 dX11_length_29 (fun r6 => ?_)
      have hw := hw r6
      refine ml_goto (pc := 30) (tgt := 36) X dX11_length_30 (by decide) ?_
      exact u_X11_length_36 X hn σ3 (σ3 (((119 + 6 * x1) + 2) + 2) x2) r6 _ (lv_sub hl [] rfl) hw
set_option maxRecDepth 100000 in
theorem c_X11_length (l : Launch) (base : Nat) (D : va_G) (cA : Nat → ClassId) (n : Nat) (hn : 214 ≤ n) (σ : ml_St) (x1 : Int) (x2 : Int) (h_x1 : I32 x1) (h_x2 : I32 x2) (Q : Int → ml_St → Prop) (hw : f_X11_length σ x1 x2 Q) : Met l yX11_length (Cond.code yX11_length cX11_length 3 (some .long) :: ml_T) rm_X11_length (va_Pc [.ref (base + (1 : Int).toNat), .int (Int32.ofInt x1), .int (Int32.ofInt x2)] (ml_U base D cA n σ)) (ml_Ql base D cA n Q) 0 0 (ml_A base) := by
  refine Met.ofW (cc := cX11_length) (maxL := 3) (ret := (some .long)) (by decide) rfl ?_
  intro p e s m args below meth c s₁ B hml hv
  obtain ⟨rfl, hP, hK, hok, hro⟩ := hv
  have X : ml_X p s m c meth _ D cA cX11_length 3 RX11 (some .long) := ⟨B.exec, B.bytes, hml, findClass_of_methodNamed B.named, fun w hw => atoms_spec (ws := Cond.code yX11_length cX11_length 3 (some .long) :: ml_T) B.pre w (List.mem_cons_of_mem _ hw), hK, B.notSynchronized, B.returns⟩
  have hl := lv_entry [.ref (base + (1 : Int).toNat), .int (Int32.ofInt x1), .int (Int32.ofInt x2)] (n := 3) (Nat.le_of_ble_eq_true rfl)
  rw [lg_entry_eq]
  generalize (lg_sl [.ref (base + (1 : Int).toNat), .int (Int32.ofInt x1), .int (Int32.ofInt x2)] ++ List.replicate (3 - (lg_sl [.ref (base + (1 : Int).toNat), .int (Int32.ofInt x1), .int (Int32.ofInt x2)]).length) Slot.unset).toArray = ls at hl ⊢
  have hl : lv_has ls 3 [(0, .ref (base + (1 : Int).toNat)), (1, .int (Int32.ofInt x1)), (2, .int (Int32.ofInt x2))] := hl
  unfold f_X11_length at hw
  exact u_X11_length_0 X hn σ x1 x2 h_x1 h_x2 _ (lv_sub hl [0, 1, 2] rfl) hw s.heap [] hP va_S.rf hok hro
theorem dX11_loops_0 : decode cX11_loops 0 = .ok (.aload_n 0, 1) := by decide +kernel
theorem dX11_loops_1 : decode cX11_loops 1 = .ok (.iload_n 1, 1) := by decide +kernel
theorem dX11_loops_2 : decode cX11_loops 2 = .ok (.invokevirtual 121, 3) := by decide +kernel
theorem dX11_loops_5 : decode cX11_loops 5 = .ok (.ifCond .ne 7, 3) := by decide +kernel
theorem dX11_loops_8 : decode cX11_loops 8 = .ok (.ldc2_w 119, 3) := by decide +kernel
theorem dX11_loops_11 : decode cX11_loops 11 = .ok (.lreturn, 1) := by decide +kernel
theorem dX11_loops_12 : decode cX11_loops 12 = .ok (.aload_n 0, 1) := by decide +kernel
theorem dX11_loops_13 : decode cX11_loops 13 = .ok (.getfield 67, 3) := by decide +kernel
theorem dX11_loops_16 : decode cX11_loops 16 = .ok (.iload_n 1, 1) := by decide +kernel
theorem dX11_loops_17 : decode cX11_loops 17 = .ok (.aaload, 1) := by decide +kernel
theorem dX11_loops_18 : decode cX11_loops 18 = .ok (.getfield 112, 3) := by decide +kernel
theorem dX11_loops_21 : decode cX11_loops 21 = .ok (.astore_n 3, 1) := by decide +kernel
theorem dX11_loops_22 : decode cX11_loops 22 = .ok (.iload_n 2, 1) := by decide +kernel
theorem dX11_loops_23 : decode cX11_loops 23 = .ok (.tableswitch 63 0 3 #[29, 34, 39, 44], 29) := by decide +kernel
theorem dX11_loops_52 : decode cX11_loops 52 = .ok (.aload_n 3, 1) := by decide +kernel
theorem dX11_loops_53 : decode cX11_loops 53 = .ok (.getfield 135, 3) := by decide +kernel
theorem dX11_loops_56 : decode cX11_loops 56 = .ok (.lreturn, 1) := by decide +kernel
theorem dX11_loops_57 : decode cX11_loops 57 = .ok (.aload_n 3, 1) := by decide +kernel
theorem dX11_loops_58 : decode cX11_loops 58 = .ok (.getfield 138, 3) := by decide +kernel
theorem dX11_loops_61 : decode cX11_loops 61 = .ok (.lreturn, 1) := by decide +kernel
theorem dX11_loops_62 : decode cX11_loops 62 = .ok (.aload_n 3, 1) := by decide +kernel
theorem dX11_loops_63 : decode cX11_loops 63 = .ok (.getfield 141, 3) := by decide +kernel
theorem dX11_loops_66 : decode cX11_loops 66 = .ok (.lreturn, 1) := by decide +kernel
theorem dX11_loops_67 : decode cX11_loops 67 = .ok (.aload_n 3, 1) := by decide +kernel
theorem dX11_loops_68 : decode cX11_loops 68 = .ok (.getfield 135, 3) := by decide +kernel
theorem dX11_loops_71 : decode cX11_loops 71 = .ok (.aload_n 0, 1) := by decide +kernel
theorem dX11_loops_72 : decode cX11_loops 72 = .ok (.getfield 19, 3) := by decide +kernel
theorem dX11_loops_75 : decode cX11_loops 75 = .ok (.aload_n 3, 1) := by decide +kernel
theorem dX11_loops_76 : decode cX11_loops 76 = .ok (.aload_n 0, 1) := by decide +kernel
theorem dX11_loops_77 : decode cX11_loops 77 = .ok (.getfield 82, 3) := by decide +kernel
theorem dX11_loops_80 : decode cX11_loops 80 = .ok (.invokevirtual 144, 3) := by decide +kernel
theorem dX11_loops_83 : decode cX11_loops 83 = .ok (.i2l, 1) := by decide +kernel
theorem dX11_loops_84 : decode cX11_loops 84 = .ok (.ladd, 1) := by decide +kernel
theorem dX11_loops_85 : decode cX11_loops 85 = .ok (.lreturn, 1) := by decide +kernel
theorem dX11_loops_86 : decode cX11_loops 86 = .ok (.ldc2_w 119, 3) := by decide +kernel
theorem dX11_loops_89 : decode cX11_loops 89 = .ok (.lreturn, 1) := by decide +kernel
def f_X11_loops_u0 (Q : Int → ml_St → Prop) (σ : ml_St) (x1 : Int) (x2 : Int) : Prop :=
f_X11_isMade σ x1 (fun r1 σ1 => ∀ _ : ml_B r1,
(r1 ≠ 0 →
(0 : Int) ≤ x1 ∧ (x1 : Int) < 16 ∧
(x2 = 0 →
∀ _ : I64 (σ1 ((119 + 6 * x1) + 2) 2),
Q (σ1 ((119 + 6 * x1) + 2) 2) σ1) ∧
(x2 = 1 →
∀ _ : I64 (σ1 ((119 + 6 * x1) + 2) 3),
Q (σ1 ((119 + 6 * x1) + 2) 3) σ1) ∧
(x2 = 2 →
∀ _ : I64 (σ1 ((119 + 6 * x1) + 2) 4),
Q (σ1 ((119 + 6 * x1) + 2) 4) σ1) ∧
(x2 = 3 →
∀ _ : I64 (σ1 ((119 + 6 * x1) + 2) 2),
∀ _ : I32 (σ1 1 11),
False) ∧
(x2 < 0 ∨ 3 < x2 →
Q (-1) σ1)) ∧
(r1 = 0 →
Q (-1) σ1))
def f_X11_loops (σ : ml_St) (x1 : Int) (x2 : Int) (Q : Int → ml_St → Prop) : Prop := f_X11_loops_u0 Q σ x1 x2
def rm_X11_loops : Room := { frames := 2, cells := 0, slots := 0, locals := 42 }
set_option maxRecDepth 100000 in
set_option maxHeartbeats 4000000 in
theorem u_X11_loops_0 {p : Program} {e : Env} {s : State} {m : MethodId} {args : Array Value} {below : List Frame} {meth : Method} {c : Code} {base : Nat} {D : va_G} {cA : Nat → ClassId} {n : Nat} {l : Launch} {Q : Int → ml_St → Prop} (X : ml_X p s m c meth args D cA cX11_loops 4 RX11 (some .long)) (hn : 214 ≤ n) (σ : ml_St) (x1 : Int) (x2 : Int) (h_x1 : I32 x1) (h_x2 : I32 x2) (ls : Array Slot) (hl : lv_has ls 4 [(0, .ref (base + (1 : Int).toNat)), (1, .int (Int32.ofInt x1)), (2, .int (Int32.ofInt x2))]) (hw : f_X11_loops_u0 Q σ x1 x2) : ml_V p l e rm_X11_loops s m args below meth c (MQ below (ml_Ql base D cA n Q) args s 0 0 (ml_A base)) base D cA 0 0 n n σ (F0 m 0 ls []) := by
  unfold f_X11_loops_u0 at hw
  refine ml_aload_n (pc := 0) X hl 0 rfl rfl dX11_loops_0 ?_
  refine ml_iload_n (pc := 1) X hl 1 rfl rfl dX11_loops_1 ?_
  refine ml_callzV (pc := 2) (rest := []) X [.int (Int32.ofInt x1)] (by decide) rfl (ml_c1 hn) (c_X11_isMade l base D cA n hn σ x1 h_x1 _ hw) cv_X11_121 ⟨rfl, rfl⟩ ⟨by decide, by decide⟩ rfl rfl hl (Nat.le_of_ble_eq_true rfl) ⟨Nat.zero_le _, Nat.zero_le _⟩ dX11_loops_2 (fun r1 σ1 t1 hw => ?_)
  have hw := hw t1
  refine ml_if_ne (pc := 5) (tgt := 12) X t1.i dX11_loops_5 (by decide) (fun c2 => ?_) (fun c2 => ?_)
  · have hw := hw.1 c2
    refine ml_aload_n (pc := 12) X hl 0 rfl rfl dX11_loops_12 ?_
    refine gf_X11_67 (pc := 13) X (ml_c1 hn) dX11_loops_13 ?_
    refine ml_iload_n (pc := 16) X hl 1 rfl rfl dX11_loops_16 ?_
    obtain ⟨a3, b3, hw⟩ := hw
    refine ml_aald_words (pc := 17) X hn a3 b3 dX11_loops_17 ?_
    refine gf_X11_112 (pc := 18) X (ml_at_words hn a3 b3) dX11_loops_18 ?_
    refine ml_astore_n (pc := 21) X rfl hl (by decide) (lst' := [(3, .ref (base + (((119 + 6 * x1) + 2) : Int).toNat)), (0, .ref (base + (1 : Int).toNat)), (1, .int (Int32.ofInt x1)), (2, .int (Int32.ofInt x2))]) rfl dX11_loops_21 (fun ls hl => ?_)
    refine ml_iload_n (pc := 22) X hl 3 rfl rfl dX11_loops_22 ?_
    rcases (show x2 = 0 ∨ x2 = 1 ∨ x2 = 2 ∨ x2 = 3 ∨ (x2 < 0 ∨ 3 < x2) by omega) with c4 | c4 | c4 | c4 | c4
    · have hw := hw.1 c4
      refine ml_tIn (pc := 23) (off := 29) (tgt := 52) X c4 dX11_loops_23 (by decide) (by decide) (by decide +kernel) (by decide) ?_
      refine ml_aload_n (pc := 52) X hl 0 rfl rfl dX11_loops_52 ?_
      refine gf_X11_135 (pc := 53) X (ml_r20_2 hn (ml_at_words hn a3 b3)) dX11_loops_53 (fun r5 => ?_)
      have hw := hw r5
      exact ml_lret (pc := 56) X r5 hw dX11_loops_56
    · have hw := hw.2.1 c4
      refine ml_tIn (pc := 23) (off := 34) (tgt := 57) X c4 dX11_loops_23 (by decide) (by decide) (by decide +kernel) (by decide) ?_
      refine ml_aload_n (pc := 57) X hl 0 rfl rfl dX11_loops_57 ?_
      refine gf_X11_138 (pc := 58) X (ml_r20_2 hn (ml_at_words hn a3 b3)) dX11_loops_58 (fun r6 => ?_)
      have hw := hw r6
      exact ml_lret (pc := 61) X r6 hw dX11_loops_61
    · have hw := hw.2.2.1 c4
      refine ml_tIn (pc := 23) (off := 39) (tgt := 62) X c4 dX11_loops_23 (by decide) (by decide) (by decide +kernel) (by decide) ?_
      refine ml_aload_n (pc := 62) X hl 0 rfl rfl dX11_loops_62 ?_
      refine gf_X11_141 (pc := 63) X (ml_r20_2 hn (ml_at_words hn a3 b3)) dX11_loops_63 (fun r7 => ?_)
      have hw := hw r7
      exact ml_lret (pc := 66) X r7 hw dX11_loops_66
    · have hw := hw.2.2.2.1 c4
      refine ml_tIn (pc := 23) (off := 44) (tgt := 67) X c4 dX11_loops_23 (by decide) (by decide) (by decide +kernel) (by decide) ?_
      refine ml_aload_n (pc := 67) X hl 0 rfl rfl dX11_loops_67 ?_
      refine gf_X11_135 (pc := 68) X (ml_r20_2 hn (ml_at_words hn a3 b3)) dX11_loops_68 (fun r8 => ?_)
      have hw := hw r8
      refine ml_aload_n (pc := 71) X hl 1 rfl rfl dX11_loops_71 ?_
      refine gf_X11_19 (pc := 72) X (ml_c1 hn) dX11_loops_72 ?_
      refine ml_aload_n (pc := 75) X hl 0 rfl rfl dX11_loops_75 ?_
      refine ml_aload_n (pc := 76) X hl 1 rfl rfl dX11_loops_76 ?_
      refine gf_X11_82 (pc := 77) X (ml_c1 hn) dX11_loops_77 (fun r9 => ?_)
      have hw := hw r9
      exact hw.elim
    · have hw := hw.2.2.2.2 c4
      refine ml_tOut (pc := 23) (tgt := 86) X h_x2 dX11_loops_23 c4 (by decide) ?_
      refine ml_ldc2 (pc := 86) (v := (-1)) X dX11_loops_86 tc_3_125 ?_
      exact ml_lret (pc := 89) X ⟨by decide, by decide⟩ hw dX11_loops_89
  · have hw := hw.2 c2
    refine ml_ldc2 (pc := 8) (v := (-1)) X dX11_loops_8 tc_3_125 ?_
    exact ml_lret (pc := 11) X ⟨by decide, by decide⟩ hw dX11_loops_11
set_option maxRecDepth 100000 in
theorem c_X11_loops (l : Launch) (base : Nat) (D : va_G) (cA : Nat → ClassId) (n : Nat) (hn : 214 ≤ n) (σ : ml_St) (x1 : Int) (x2 : Int) (h_x1 : I32 x1) (h_x2 : I32 x2) (Q : Int → ml_St → Prop) (hw : f_X11_loops σ x1 x2 Q) : Met l yX11_loops (Cond.code yX11_loops cX11_loops 4 (some .long) :: ml_T) rm_X11_loops (va_Pc [.ref (base + (1 : Int).toNat), .int (Int32.ofInt x1), .int (Int32.ofInt x2)] (ml_U base D cA n σ)) (ml_Ql base D cA n Q) 0 0 (ml_A base) := by
  refine Met.ofW (cc := cX11_loops) (maxL := 4) (ret := (some .long)) (by decide) rfl ?_
  intro p e s m args below meth c s₁ B hml hv
  obtain ⟨rfl, hP, hK, hok, hro⟩ := hv
  have X : ml_X p s m c meth _ D cA cX11_loops 4 RX11 (some .long) := ⟨B.exec, B.bytes, hml, findClass_of_methodNamed B.named, fun w hw => atoms_spec (ws := Cond.code yX11_loops cX11_loops 4 (some .long) :: ml_T) B.pre w (List.mem_cons_of_mem _ hw), hK, B.notSynchronized, B.returns⟩
  have hl := lv_entry [.ref (base + (1 : Int).toNat), .int (Int32.ofInt x1), .int (Int32.ofInt x2)] (n := 4) (Nat.le_of_ble_eq_true rfl)
  rw [lg_entry_eq]
  generalize (lg_sl [.ref (base + (1 : Int).toNat), .int (Int32.ofInt x1), .int (Int32.ofInt x2)] ++ List.replicate (4 - (lg_sl [.ref (base + (1 : Int).toNat), .int (Int32.ofInt x1), .int (Int32.ofInt x2)]).length) Slot.unset).toArray = ls at hl ⊢
  have hl : lv_has ls 4 [(0, .ref (base + (1 : Int).toNat)), (1, .int (Int32.ofInt x1)), (2, .int (Int32.ofInt x2))] := hl
  unfold f_X11_loops at hw
  exact u_X11_loops_0 X hn σ x1 x2 h_x1 h_x2 _ (lv_sub hl [0, 1, 2] rfl) hw s.heap [] hP va_S.rf hok hro
theorem dX11_power_0 : decode cX11_power 0 = .ok (.aload_n 0, 1) := by decide +kernel
theorem dX11_power_1 : decode cX11_power 1 = .ok (.iload_n 1, 1) := by decide +kernel
theorem dX11_power_2 : decode cX11_power 2 = .ok (.invokevirtual 121, 3) := by decide +kernel
theorem dX11_power_5 : decode cX11_power 5 = .ok (.ifCond .eq 12, 3) := by decide +kernel
theorem dX11_power_8 : decode cX11_power 8 = .ok (.iload_n 2, 1) := by decide +kernel
theorem dX11_power_9 : decode cX11_power 9 = .ok (.ifCond .lt 8, 3) := by decide +kernel
theorem dX11_power_12 : decode cX11_power 12 = .ok (.iload_n 2, 1) := by decide +kernel
theorem dX11_power_13 : decode cX11_power 13 = .ok (.iconst 1, 1) := by decide +kernel
theorem dX11_power_14 : decode cX11_power 14 = .ok (.if_icmp .le 5, 3) := by decide +kernel
theorem dX11_power_17 : decode cX11_power 17 = .ok (.iconst (-1), 1) := by decide +kernel
theorem dX11_power_18 : decode cX11_power 18 = .ok (.ireturn, 1) := by decide +kernel
theorem dX11_power_19 : decode cX11_power 19 = .ok (.aload_n 0, 1) := by decide +kernel
theorem dX11_power_20 : decode cX11_power 20 = .ok (.getfield 40, 3) := by decide +kernel
theorem dX11_power_23 : decode cX11_power 23 = .ok (.aload_n 0, 1) := by decide +kernel
theorem dX11_power_24 : decode cX11_power 24 = .ok (.getfield 67, 3) := by decide +kernel
theorem dX11_power_27 : decode cX11_power 27 = .ok (.iload_n 1, 1) := by decide +kernel
theorem dX11_power_28 : decode cX11_power 28 = .ok (.aaload, 1) := by decide +kernel
theorem dX11_power_29 : decode cX11_power 29 = .ok (.getfield 112, 3) := by decide +kernel
theorem dX11_power_32 : decode cX11_power 32 = .ok (.aload_n 0, 1) := by decide +kernel
theorem dX11_power_33 : decode cX11_power 33 = .ok (.getfield 19, 3) := by decide +kernel
theorem dX11_power_36 : decode cX11_power 36 = .ok (.aload_n 0, 1) := by decide +kernel
theorem dX11_power_37 : decode cX11_power 37 = .ok (.getfield 82, 3) := by decide +kernel
theorem dX11_power_40 : decode cX11_power 40 = .ok (.invokevirtual 148, 3) := by decide +kernel
theorem dX11_power_43 : decode cX11_power 43 = .ok (.iload_n 2, 1) := by decide +kernel
theorem dX11_power_44 : decode cX11_power 44 = .ok (.ifCond .ne 13, 3) := by decide +kernel
theorem dX11_power_47 : decode cX11_power 47 = .ok (.aload_n 0, 1) := by decide +kernel
theorem dX11_power_48 : decode cX11_power 48 = .ok (.getfield 40, 3) := by decide +kernel
theorem dX11_power_51 : decode cX11_power 51 = .ok (.getfield 152, 3) := by decide +kernel
theorem dX11_power_54 : decode cX11_power 54 = .ok (.goto 10, 3) := by decide +kernel
theorem dX11_power_57 : decode cX11_power 57 = .ok (.aload_n 0, 1) := by decide +kernel
theorem dX11_power_58 : decode cX11_power 58 = .ok (.getfield 40, 3) := by decide +kernel
theorem dX11_power_61 : decode cX11_power 61 = .ok (.getfield 155, 3) := by decide +kernel
theorem dX11_power_64 : decode cX11_power 64 = .ok (.ireturn, 1) := by decide +kernel
def f_X11_power_u17 (Q : Int → ml_St → Prop) (σ : ml_St) : Prop :=
Q (-1) σ
def f_X11_power_u64 (Q : Int → ml_St → Prop) (σ : ml_St) (s0 : Int) : Prop :=
Q s0 σ
def f_X11_power_u0 (Q : Int → ml_St → Prop) (σ : ml_St) (x1 : Int) (x2 : Int) : Prop :=
f_X11_isMade σ x1 (fun r1 σ1 => ∀ _ : ml_B r1,
(r1 = 0 →
f_X11_power_u17 Q σ1) ∧
(r1 ≠ 0 →
(x2 < 0 →
f_X11_power_u17 Q σ1) ∧
(¬ (x2 < 0) →
(x2 ≤ 1 →
(0 : Int) ≤ x1 ∧ (x1 : Int) < 16 ∧
∀ _ : I32 (σ1 1 11),
False) ∧
(¬ (x2 ≤ 1) →
f_X11_power_u17 Q σ1))))
def f_X11_power (σ : ml_St) (x1 : Int) (x2 : Int) (Q : Int → ml_St → Prop) : Prop := f_X11_power_u0 Q σ x1 x2
def rm_X11_power : Room := { frames := 2, cells := 0, slots := 0, locals := 42 }
set_option maxRecDepth 100000 in
set_option maxHeartbeats 4000000 in
theorem u_X11_power_17 {p : Program} {e : Env} {s : State} {m : MethodId} {args : Array Value} {below : List Frame} {meth : Method} {c : Code} {base : Nat} {D : va_G} {cA : Nat → ClassId} {n : Nat} {l : Launch} {Q : Int → ml_St → Prop} (X : ml_X p s m c meth args D cA cX11_power 3 RX11 (some .int)) (hn : 214 ≤ n) (σ : ml_St) (ls : Array Slot) (hl : lv_has ls 3 []) (hw : f_X11_power_u17 Q σ) : ml_V p l e rm_X11_power s m args below meth c (MQ below (ml_Qi I32 base D cA n Q) args s 0 0 (ml_A base)) base D cA 0 0 n n σ (F0 m 17 ls []) := by
  unfold f_X11_power_u17 at hw
  refine ml_iconst (pc := 17) X dX11_power_17 ?_
  exact ml_iret (pc := 18) X ⟨by decide, by decide⟩ hw dX11_power_18
set_option maxRecDepth 100000 in
set_option maxHeartbeats 4000000 in
theorem u_X11_power_64 {p : Program} {e : Env} {s : State} {m : MethodId} {args : Array Value} {below : List Frame} {meth : Method} {c : Code} {base : Nat} {D : va_G} {cA : Nat → ClassId} {n : Nat} {l : Launch} {Q : Int → ml_St → Prop} (X : ml_X p s m c meth args D cA cX11_power 3 RX11 (some .int)) (hn : 214 ≤ n) (σ : ml_St) (s0 : Int) (h_s0 : I32 s0) (ls : Array Slot) (hl : lv_has ls 3 []) (hw : f_X11_power_u64 Q σ s0) : ml_V p l e rm_X11_power s m args below meth c (MQ below (ml_Qi I32 base D cA n Q) args s 0 0 (ml_A base)) base D cA 0 0 n n σ (F0 m 64 ls [.int (Int32.ofInt s0)]) := by
  unfold f_X11_power_u64 at hw
  exact ml_iret (pc := 64) X h_s0 hw dX11_power_64
set_option maxRecDepth 100000 in
set_option maxHeartbeats 4000000 in
theorem u_X11_power_0 {p : Program} {e : Env} {s : State} {m : MethodId} {args : Array Value} {below : List Frame} {meth : Method} {c : Code} {base : Nat} {D : va_G} {cA : Nat → ClassId} {n : Nat} {l : Launch} {Q : Int → ml_St → Prop} (X : ml_X p s m c meth args D cA cX11_power 3 RX11 (some .int)) (hn : 214 ≤ n) (σ : ml_St) (x1 : Int) (x2 : Int) (h_x1 : I32 x1) (h_x2 : I32 x2) (ls : Array Slot) (hl : lv_has ls 3 [(0, .ref (base + (1 : Int).toNat)), (1, .int (Int32.ofInt x1)), (2, .int (Int32.ofInt x2))]) (hw : f_X11_power_u0 Q σ x1 x2) : ml_V p l e rm_X11_power s m args below meth c (MQ below (ml_Qi I32 base D cA n Q) args s 0 0 (ml_A base)) base D cA 0 0 n n σ (F0 m 0 ls []) := by
  unfold f_X11_power_u0 at hw
  refine ml_aload_n (pc := 0) X hl 0 rfl rfl dX11_power_0 ?_
  refine ml_iload_n (pc := 1) X hl 1 rfl rfl dX11_power_1 ?_
  refine ml_callzV (pc := 2) (rest := []) X [.int (Int32.ofInt x1)] (by decide) rfl (ml_c1 hn) (c_X11_isMade l base D cA n hn σ x1 h_x1 _ hw) cv_X11_121 ⟨rfl, rfl⟩ ⟨by decide, by decide⟩ rfl rfl hl (Nat.le_of_ble_eq_true rfl) ⟨Nat.zero_le _, Nat.zero_le _⟩ dX11_power_2 (fun r1 σ1 t1 hw => ?_)
  have hw := hw t1
  refine ml_if_eq (pc := 5) (tgt := 17) X t1.i dX11_power_5 (by decide) (fun c2 => ?_) (fun c2 => ?_)
  · have hw := hw.1 c2
    exact u_X11_power_17 X hn σ1   _ (lv_sub hl [] rfl) hw
  · have hw := hw.2 c2
    refine ml_iload_n (pc := 8) X hl 2 rfl rfl dX11_power_8 ?_
    refine ml_if_lt (pc := 9) (tgt := 17) X h_x2 dX11_power_9 (by decide) (fun c3 => ?_) (fun c3 => ?_)
    · have hw := hw.1 c3
      exact u_X11_power_17 X hn σ1   _ (lv_sub hl [] rfl) hw
    · have hw := hw.2 c3
      refine ml_iload_n (pc := 12) X hl 2 rfl rfl dX11_power_12 ?_
      refine ml_iconst (pc := 13) X dX11_power_13 ?_
      refine ml_icmp_le (pc := 14) (tgt := 19) X h_x2 ⟨by decide, by decide⟩ dX11_power_14 (by decide) (fun c4 => ?_) (fun c4 => ?_)
      · have hw := hw.1 c4
        refine ml_aload_n (pc := 19) X hl 0 rfl rfl dX11_power_19 ?_
        refine gf_X11_40 (pc := 20) X (ml_c1 hn) dX11_power_20 ?_
        refine ml_aload_n (pc := 23) X hl 0 rfl rfl dX11_power_23 ?_
        refine gf_X11_67 (pc := 24) X (ml_c1 hn) dX11_power_24 ?_
        refine ml_iload_n (pc := 27) X hl 1 rfl rfl dX11_power_27 ?_
        obtain ⟨a5, b5, hw⟩ := hw
        refine ml_aald_words (pc := 28) X hn a5 b5 dX11_power_28 ?_
        refine gf_X11_112 (pc := 29) X (ml_at_words hn a5 b5) dX11_power_29 ?_
        refine ml_aload_n (pc := 32) X hl 0 rfl rfl dX11_power_32 ?_
        refine gf_X11_19 (pc := 33) X (ml_c1 hn) dX11_power_33 ?_
        refine ml_aload_n (pc := 36) X hl 0 rfl rfl dX11_power_36 ?_
        refine gf_X11_82 (pc := 37) X (ml_c1 hn) dX11_power_37 (fun r6 => ?_)
        have hw := hw r6
        exact hw.elim
      · have hw := hw.2 c4
        exact u_X11_power_17 X hn σ1   _ (lv_sub hl [] rfl) hw
set_option maxRecDepth 100000 in
theorem c_X11_power (l : Launch) (base : Nat) (D : va_G) (cA : Nat → ClassId) (n : Nat) (hn : 214 ≤ n) (σ : ml_St) (x1 : Int) (x2 : Int) (h_x1 : I32 x1) (h_x2 : I32 x2) (Q : Int → ml_St → Prop) (hw : f_X11_power σ x1 x2 Q) : Met l yX11_power (Cond.code yX11_power cX11_power 3 (some .int) :: ml_T) rm_X11_power (va_Pc [.ref (base + (1 : Int).toNat), .int (Int32.ofInt x1), .int (Int32.ofInt x2)] (ml_U base D cA n σ)) (ml_Qi I32 base D cA n Q) 0 0 (ml_A base) := by
  refine Met.ofW (cc := cX11_power) (maxL := 3) (ret := (some .int)) (by decide) rfl ?_
  intro p e s m args below meth c s₁ B hml hv
  obtain ⟨rfl, hP, hK, hok, hro⟩ := hv
  have X : ml_X p s m c meth _ D cA cX11_power 3 RX11 (some .int) := ⟨B.exec, B.bytes, hml, findClass_of_methodNamed B.named, fun w hw => atoms_spec (ws := Cond.code yX11_power cX11_power 3 (some .int) :: ml_T) B.pre w (List.mem_cons_of_mem _ hw), hK, B.notSynchronized, B.returns⟩
  have hl := lv_entry [.ref (base + (1 : Int).toNat), .int (Int32.ofInt x1), .int (Int32.ofInt x2)] (n := 3) (Nat.le_of_ble_eq_true rfl)
  rw [lg_entry_eq]
  generalize (lg_sl [.ref (base + (1 : Int).toNat), .int (Int32.ofInt x1), .int (Int32.ofInt x2)] ++ List.replicate (3 - (lg_sl [.ref (base + (1 : Int).toNat), .int (Int32.ofInt x1), .int (Int32.ofInt x2)]).length) Slot.unset).toArray = ls at hl ⊢
  have hl : lv_has ls 3 [(0, .ref (base + (1 : Int).toNat)), (1, .int (Int32.ofInt x1)), (2, .int (Int32.ofInt x2))] := hl
  unfold f_X11_power at hw
  exact u_X11_power_0 X hn σ x1 x2 h_x1 h_x2 _ (lv_sub hl [0, 1, 2] rfl) hw s.heap [] hP va_S.rf hok hro
theorem dX11_rule_0 : decode cX11_rule 0 = .ok (.aload_n 0, 1) := by decide +kernel
theorem dX11_rule_1 : decode cX11_rule 1 = .ok (.iload_n 1, 1) := by decide +kernel
theorem dX11_rule_2 : decode cX11_rule 2 = .ok (.invokevirtual 121, 3) := by decide +kernel
theorem dX11_rule_5 : decode cX11_rule 5 = .ok (.ifCond .eq 12, 3) := by decide +kernel
theorem dX11_rule_8 : decode cX11_rule 8 = .ok (.iload_n 2, 1) := by decide +kernel
theorem dX11_rule_9 : decode cX11_rule 9 = .ok (.ifCond .lt 8, 3) := by decide +kernel
theorem dX11_rule_12 : decode cX11_rule 12 = .ok (.iload_n 2, 1) := by decide +kernel
theorem dX11_rule_13 : decode cX11_rule 13 = .ok (.iconst 2, 1) := by decide +kernel
theorem dX11_rule_14 : decode cX11_rule 14 = .ok (.if_icmp .le 7, 3) := by decide +kernel
theorem dX11_rule_17 : decode cX11_rule 17 = .ok (.ldc2_w 119, 3) := by decide +kernel
theorem dX11_rule_20 : decode cX11_rule 20 = .ok (.lreturn, 1) := by decide +kernel
theorem dX11_rule_21 : decode cX11_rule 21 = .ok (.aload_n 0, 1) := by decide +kernel
theorem dX11_rule_22 : decode cX11_rule 22 = .ok (.getfield 40, 3) := by decide +kernel
theorem dX11_rule_25 : decode cX11_rule 25 = .ok (.aload_n 0, 1) := by decide +kernel
theorem dX11_rule_26 : decode cX11_rule 26 = .ok (.getfield 67, 3) := by decide +kernel
theorem dX11_rule_29 : decode cX11_rule 29 = .ok (.iload_n 1, 1) := by decide +kernel
theorem dX11_rule_30 : decode cX11_rule 30 = .ok (.aaload, 1) := by decide +kernel
theorem dX11_rule_31 : decode cX11_rule 31 = .ok (.getfield 112, 3) := by decide +kernel
theorem dX11_rule_34 : decode cX11_rule 34 = .ok (.aload_n 0, 1) := by decide +kernel
theorem dX11_rule_35 : decode cX11_rule 35 = .ok (.getfield 19, 3) := by decide +kernel
theorem dX11_rule_38 : decode cX11_rule 38 = .ok (.aload_n 0, 1) := by decide +kernel
theorem dX11_rule_39 : decode cX11_rule 39 = .ok (.getfield 82, 3) := by decide +kernel
theorem dX11_rule_42 : decode cX11_rule 42 = .ok (.invokevirtual 148, 3) := by decide +kernel
theorem dX11_rule_45 : decode cX11_rule 45 = .ok (.aload_n 0, 1) := by decide +kernel
theorem dX11_rule_46 : decode cX11_rule 46 = .ok (.getfield 40, 3) := by decide +kernel
theorem dX11_rule_49 : decode cX11_rule 49 = .ok (.invokevirtual 158, 3) := by decide +kernel
theorem dX11_rule_52 : decode cX11_rule 52 = .ok (.iload_n 2, 1) := by decide +kernel
theorem dX11_rule_53 : decode cX11_rule 53 = .ok (.ifCond .ne 12, 3) := by decide +kernel
theorem dX11_rule_56 : decode cX11_rule 56 = .ok (.aload_n 0, 1) := by decide +kernel
theorem dX11_rule_57 : decode cX11_rule 57 = .ok (.getfield 40, 3) := by decide +kernel
theorem dX11_rule_60 : decode cX11_rule 60 = .ok (.getfield 161, 3) := by decide +kernel
theorem dX11_rule_63 : decode cX11_rule 63 = .ok (.i2l, 1) := by decide +kernel
theorem dX11_rule_64 : decode cX11_rule 64 = .ok (.lreturn, 1) := by decide +kernel
theorem dX11_rule_65 : decode cX11_rule 65 = .ok (.iload_n 2, 1) := by decide +kernel
theorem dX11_rule_66 : decode cX11_rule 66 = .ok (.iconst 1, 1) := by decide +kernel
theorem dX11_rule_67 : decode cX11_rule 67 = .ok (.if_icmp .ne 13, 3) := by decide +kernel
theorem dX11_rule_70 : decode cX11_rule 70 = .ok (.aload_n 0, 1) := by decide +kernel
theorem dX11_rule_71 : decode cX11_rule 71 = .ok (.getfield 40, 3) := by decide +kernel
theorem dX11_rule_74 : decode cX11_rule 74 = .ok (.getfield 164, 3) := by decide +kernel
theorem dX11_rule_77 : decode cX11_rule 77 = .ok (.goto 11, 3) := by decide +kernel
theorem dX11_rule_80 : decode cX11_rule 80 = .ok (.aload_n 0, 1) := by decide +kernel
theorem dX11_rule_81 : decode cX11_rule 81 = .ok (.getfield 40, 3) := by decide +kernel
theorem dX11_rule_84 : decode cX11_rule 84 = .ok (.getfield 167, 3) := by decide +kernel
theorem dX11_rule_87 : decode cX11_rule 87 = .ok (.i2l, 1) := by decide +kernel
theorem dX11_rule_88 : decode cX11_rule 88 = .ok (.lreturn, 1) := by decide +kernel
def f_X11_rule_u17 (Q : Int → ml_St → Prop) (σ : ml_St) : Prop :=
Q (-1) σ
def f_X11_rule_u88 (Q : Int → ml_St → Prop) (σ : ml_St) (s0 : Int) : Prop :=
Q s0 σ
def f_X11_rule_u0 (Q : Int → ml_St → Prop) (σ : ml_St) (x1 : Int) (x2 : Int) : Prop :=
f_X11_isMade σ x1 (fun r1 σ1 => ∀ _ : ml_B r1,
(r1 = 0 →
f_X11_rule_u17 Q σ1) ∧
(r1 ≠ 0 →
(x2 < 0 →
f_X11_rule_u17 Q σ1) ∧
(¬ (x2 < 0) →
(x2 ≤ 2 →
(0 : Int) ≤ x1 ∧ (x1 : Int) < 16 ∧
∀ _ : I32 (σ1 1 11),
False) ∧
(¬ (x2 ≤ 2) →
f_X11_rule_u17 Q σ1))))
def f_X11_rule (σ : ml_St) (x1 : Int) (x2 : Int) (Q : Int → ml_St → Prop) : Prop := f_X11_rule_u0 Q σ x1 x2
def rm_X11_rule : Room := { frames := 2, cells := 0, slots := 0, locals := 42 }
set_option maxRecDepth 100000 in
set_option maxHeartbeats 4000000 in
theorem u_X11_rule_17 {p : Program} {e : Env} {s : State} {m : MethodId} {args : Array Value} {below : List Frame} {meth : Method} {c : Code} {base : Nat} {D : va_G} {cA : Nat → ClassId} {n : Nat} {l : Launch} {Q : Int → ml_St → Prop} (X : ml_X p s m c meth args D cA cX11_rule 3 RX11 (some .long)) (hn : 214 ≤ n) (σ : ml_St) (ls : Array Slot) (hl : lv_has ls 3 []) (hw : f_X11_rule_u17 Q σ) : ml_V p l e rm_X11_rule s m args below meth c (MQ below (ml_Ql base D cA n Q) args s 0 0 (ml_A base)) base D cA 0 0 n n σ (F0 m 17 ls []) := by
  unfold f_X11_rule_u17 at hw
  refine ml_ldc2 (pc := 17) (v := (-1)) X dX11_rule_17 tc_3_125 ?_
  exact ml_lret (pc := 20) X ⟨by decide, by decide⟩ hw dX11_rule_20
set_option maxRecDepth 100000 in
set_option maxHeartbeats 4000000 in
theorem u_X11_rule_88 {p : Program} {e : Env} {s : State} {m : MethodId} {args : Array Value} {below : List Frame} {meth : Method} {c : Code} {base : Nat} {D : va_G} {cA : Nat → ClassId} {n : Nat} {l : Launch} {Q : Int → ml_St → Prop} (X : ml_X p s m c meth args D cA cX11_rule 3 RX11 (some .long)) (hn : 214 ≤ n) (σ : ml_St) (s0 : Int) (h_s0 : I64 s0) (ls : Array Slot) (hl : lv_has ls 3 []) (hw : f_X11_rule_u88 Q σ s0) : ml_V p l e rm_X11_rule s m args below meth c (MQ below (ml_Ql base D cA n Q) args s 0 0 (ml_A base)) base D cA 0 0 n n σ (F0 m 88 ls [.long (Int64.ofInt s0)]) := by
  unfold f_X11_rule_u88 at hw
  exact ml_lret (pc := 88) X h_s0 hw dX11_rule_88
set_option maxRecDepth 100000 in
set_option maxHeartbeats 4000000 in
theorem u_X11_rule_0 {p : Program} {e : Env} {s : State} {m : MethodId} {args : Array Value} {below : List Frame} {meth : Method} {c : Code} {base : Nat} {D : va_G} {cA : Nat → ClassId} {n : Nat} {l : Launch} {Q : Int → ml_St → Prop} (X : ml_X p s m c meth args D cA cX11_rule 3 RX11 (some .long)) (hn : 214 ≤ n) (σ : ml_St) (x1 : Int) (x2 : Int) (h_x1 : I32 x1) (h_x2 : I32 x2) (ls : Array Slot) (hl : lv_has ls 3 [(0, .ref (base + (1 : Int).toNat)), (1, .int (Int32.ofInt x1)), (2, .int (Int32.ofInt x2))]) (hw : f_X11_rule_u0 Q σ x1 x2) : ml_V p l e rm_X11_rule s m args below meth c (MQ below (ml_Ql base D cA n Q) args s 0 0 (ml_A base)) base D cA 0 0 n n σ (F0 m 0 ls []) := by
  unfold f_X11_rule_u0 at hw
  refine ml_aload_n (pc := 0) X hl 0 rfl rfl dX11_rule_0 ?_
  refine ml_iload_n (pc := 1) X hl 1 rfl rfl dX11_rule_1 ?_
  refine ml_callzV (pc := 2) (rest := []) X [.int (Int32.ofInt x1)] (by decide) rfl (ml_c1 hn) (c_X11_isMade l base D cA n hn σ x1 h_x1 _ hw) cv_X11_121 ⟨rfl, rfl⟩ ⟨by decide, by decide⟩ rfl rfl hl (Nat.le_of_ble_eq_true rfl) ⟨Nat.zero_le _, Nat.zero_le _⟩ dX11_rule_2 (fun r1 σ1 t1 hw => ?_)
  have hw := hw t1
  refine ml_if_eq (pc := 5) (tgt := 17) X t1.i dX11_rule_5 (by decide) (fun c2 => ?_) (fun c2 => ?_)
  · have hw := hw.1 c2
    exact u_X11_rule_17 X hn σ1   _ (lv_sub hl [] rfl) hw
  · have hw := hw.2 c2
    refine ml_iload_n (pc := 8) X hl 2 rfl rfl dX11_rule_8 ?_
    refine ml_if_lt (pc := 9) (tgt := 17) X h_x2 dX11_rule_9 (by decide) (fun c3 => ?_) (fun c3 => ?_)
    · have hw := hw.1 c3
      exact u_X11_rule_17 X hn σ1   _ (lv_sub hl [] rfl) hw
    · have hw := hw.2 c3
      refine ml_iload_n (pc := 12) X hl 2 rfl rfl dX11_rule_12 ?_
      refine ml_iconst (pc := 13) X dX11_rule_13 ?_
      refine ml_icmp_le (pc := 14) (tgt := 21) X h_x2 ⟨by decide, by decide⟩ dX11_rule_14 (by decide) (fun c4 => ?_) (fun c4 => ?_)
      · have hw := hw.1 c4
        refine ml_aload_n (pc := 21) X hl 0 rfl rfl dX11_rule_21 ?_
        refine gf_X11_40 (pc := 22) X (ml_c1 hn) dX11_rule_22 ?_
        refine ml_aload_n (pc := 25) X hl 0 rfl rfl dX11_rule_25 ?_
        refine gf_X11_67 (pc := 26) X (ml_c1 hn) dX11_rule_26 ?_
        refine ml_iload_n (pc := 29) X hl 1 rfl rfl dX11_rule_29 ?_
        obtain ⟨a5, b5, hw⟩ := hw
        refine ml_aald_words (pc := 30) X hn a5 b5 dX11_rule_30 ?_
        refine gf_X11_112 (pc := 31) X (ml_at_words hn a5 b5) dX11_rule_31 ?_
        refine ml_aload_n (pc := 34) X hl 0 rfl rfl dX11_rule_34 ?_
        refine gf_X11_19 (pc := 35) X (ml_c1 hn) dX11_rule_35 ?_
        refine ml_aload_n (pc := 38) X hl 0 rfl rfl dX11_rule_38 ?_
        refine gf_X11_82 (pc := 39) X (ml_c1 hn) dX11_rule_39 (fun r6 => ?_)
        have hw := hw r6
        exact hw.elim
      · have hw := hw.2 c4
        exact u_X11_rule_17 X hn σ1   _ (lv_sub hl [] rfl) hw
set_option maxRecDepth 100000 in
theorem c_X11_rule (l : Launch) (base : Nat) (D : va_G) (cA : Nat → ClassId) (n : Nat) (hn : 214 ≤ n) (σ : ml_St) (x1 : Int) (x2 : Int) (h_x1 : I32 x1) (h_x2 : I32 x2) (Q : Int → ml_St → Prop) (hw : f_X11_rule σ x1 x2 Q) : Met l yX11_rule (Cond.code yX11_rule cX11_rule 3 (some .long) :: ml_T) rm_X11_rule (va_Pc [.ref (base + (1 : Int).toNat), .int (Int32.ofInt x1), .int (Int32.ofInt x2)] (ml_U base D cA n σ)) (ml_Ql base D cA n Q) 0 0 (ml_A base) := by
  refine Met.ofW (cc := cX11_rule) (maxL := 3) (ret := (some .long)) (by decide) rfl ?_
  intro p e s m args below meth c s₁ B hml hv
  obtain ⟨rfl, hP, hK, hok, hro⟩ := hv
  have X : ml_X p s m c meth _ D cA cX11_rule 3 RX11 (some .long) := ⟨B.exec, B.bytes, hml, findClass_of_methodNamed B.named, fun w hw => atoms_spec (ws := Cond.code yX11_rule cX11_rule 3 (some .long) :: ml_T) B.pre w (List.mem_cons_of_mem _ hw), hK, B.notSynchronized, B.returns⟩
  have hl := lv_entry [.ref (base + (1 : Int).toNat), .int (Int32.ofInt x1), .int (Int32.ofInt x2)] (n := 3) (Nat.le_of_ble_eq_true rfl)
  rw [lg_entry_eq]
  generalize (lg_sl [.ref (base + (1 : Int).toNat), .int (Int32.ofInt x1), .int (Int32.ofInt x2)] ++ List.replicate (3 - (lg_sl [.ref (base + (1 : Int).toNat), .int (Int32.ofInt x1), .int (Int32.ofInt x2)]).length) Slot.unset).toArray = ls at hl ⊢
  have hl : lv_has ls 3 [(0, .ref (base + (1 : Int).toNat)), (1, .int (Int32.ofInt x1)), (2, .int (Int32.ofInt x2))] := hl
  unfold f_X11_rule at hw
  exact u_X11_rule_0 X hn σ x1 x2 h_x1 h_x2 _ (lv_sub hl [0, 1, 2] rfl) hw s.heap [] hP va_S.rf hok hro
theorem dX11_isPower_0 : decode cX11_isPower 0 = .ok (.lload_n 0, 1) := by decide +kernel
theorem dX11_isPower_1 : decode cX11_isPower 1 = .ok (.lconst 1, 1) := by decide +kernel
theorem dX11_isPower_2 : decode cX11_isPower 2 = .ok (.lcmp, 1) := by decide +kernel
theorem dX11_isPower_3 : decode cX11_isPower 3 = .ok (.ifCond .lt 15, 3) := by decide +kernel
theorem dX11_isPower_6 : decode cX11_isPower 6 = .ok (.lload_n 0, 1) := by decide +kernel
theorem dX11_isPower_7 : decode cX11_isPower 7 = .ok (.ldc2_w 178, 3) := by decide +kernel
theorem dX11_isPower_10 : decode cX11_isPower 10 = .ok (.lcmp, 1) := by decide +kernel
theorem dX11_isPower_11 : decode cX11_isPower 11 = .ok (.ifCond .gt 7, 3) := by decide +kernel
theorem dX11_isPower_14 : decode cX11_isPower 14 = .ok (.iconst 1, 1) := by decide +kernel
theorem dX11_isPower_15 : decode cX11_isPower 15 = .ok (.goto 4, 3) := by decide +kernel
theorem dX11_isPower_18 : decode cX11_isPower 18 = .ok (.iconst 0, 1) := by decide +kernel
theorem dX11_isPower_19 : decode cX11_isPower 19 = .ok (.ireturn, 1) := by decide +kernel
def f_X11_isPower_u19 (Q : Int → ml_St → Prop) (σ : ml_St) (s0 : Int) : Prop :=
Q s0 σ
def f_X11_isPower_u18 (Q : Int → ml_St → Prop) (σ : ml_St) : Prop :=
f_X11_isPower_u19 Q σ 0
def f_X11_isPower_u0 (Q : Int → ml_St → Prop) (σ : ml_St) (x0 : Int) : Prop :=
(x0 < 1 →
f_X11_isPower_u18 Q σ) ∧
(¬ (x0 < 1) →
(1000000000000000000 < x0 →
f_X11_isPower_u18 Q σ) ∧
(¬ (1000000000000000000 < x0) →
f_X11_isPower_u19 Q σ 1))
def f_X11_isPower (σ : ml_St) (x0 : Int) (Q : Int → ml_St → Prop) : Prop := f_X11_isPower_u0 Q σ x0
def rm_X11_isPower : Room := { frames := 0, cells := 0, slots := 0, locals := 0 }
set_option maxRecDepth 100000 in
set_option maxHeartbeats 4000000 in
theorem u_X11_isPower_19 {p : Program} {e : Env} {s : State} {m : MethodId} {args : Array Value} {below : List Frame} {meth : Method} {c : Code} {base : Nat} {D : va_G} {cA : Nat → ClassId} {n : Nat} {l : Launch} {Q : Int → ml_St → Prop} (X : ml_X p s m c meth args D cA cX11_isPower 2 RX11 (some .boolean)) (hn : 214 ≤ n) (σ : ml_St) (s0 : Int) (h_s0 : ml_B s0) (ls : Array Slot) (hl : lv_has ls 2 []) (hw : f_X11_isPower_u19 Q σ s0) : ml_V p l e rm_X11_isPower s m args below meth c (MQ below (ml_Qi ml_B base D cA n Q) args s 0 0 (ml_A base)) base D cA 0 0 n n σ (F0 m 19 ls [.int (Int32.ofInt s0)]) := by
  unfold f_X11_isPower_u19 at hw
  exact ml_zret (pc := 19) X h_s0 hw dX11_isPower_19
set_option maxRecDepth 100000 in
set_option maxHeartbeats 4000000 in
theorem u_X11_isPower_18 {p : Program} {e : Env} {s : State} {m : MethodId} {args : Array Value} {below : List Frame} {meth : Method} {c : Code} {base : Nat} {D : va_G} {cA : Nat → ClassId} {n : Nat} {l : Launch} {Q : Int → ml_St → Prop} (X : ml_X p s m c meth args D cA cX11_isPower 2 RX11 (some .boolean)) (hn : 214 ≤ n) (σ : ml_St) (ls : Array Slot) (hl : lv_has ls 2 []) (hw : f_X11_isPower_u18 Q σ) : ml_V p l e rm_X11_isPower s m args below meth c (MQ below (ml_Qi ml_B base D cA n Q) args s 0 0 (ml_A base)) base D cA 0 0 n n σ (F0 m 18 ls []) := by
  unfold f_X11_isPower_u18 at hw
  refine ml_iconst (pc := 18) X dX11_isPower_18 ?_
  exact u_X11_isPower_19 X hn σ 0 ⟨by decide, by decide⟩ _ (lv_sub hl [] rfl) hw
set_option maxRecDepth 100000 in
set_option maxHeartbeats 4000000 in
theorem u_X11_isPower_0 {p : Program} {e : Env} {s : State} {m : MethodId} {args : Array Value} {below : List Frame} {meth : Method} {c : Code} {base : Nat} {D : va_G} {cA : Nat → ClassId} {n : Nat} {l : Launch} {Q : Int → ml_St → Prop} (X : ml_X p s m c meth args D cA cX11_isPower 2 RX11 (some .boolean)) (hn : 214 ≤ n) (σ : ml_St) (x0 : Int) (h_x0 : I64 x0) (ls : Array Slot) (hl : lv_has ls 2 [(0, .long (Int64.ofInt x0))]) (hw : f_X11_isPower_u0 Q σ x0) : ml_V p l e rm_X11_isPower s m args below meth c (MQ below (ml_Qi ml_B base D cA n Q) args s 0 0 (ml_A base)) base D cA 0 0 n n σ (F0 m 0 ls []) := by
  unfold f_X11_isPower_u0 at hw
  refine ml_lload_n (pc := 0) X hl 0 rfl rfl dX11_isPower_0 ?_
  refine ml_lconst1 (pc := 1) X dX11_isPower_1 ?_
  refine ml_lcmp_lt (pc := 2) (tgt := 18) X h_x0 ⟨by decide, by decide⟩ dX11_isPower_2 dX11_isPower_3 (by decide) (fun c1 => ?_) (fun c1 => ?_)
  · have hw := hw.1 c1
    exact u_X11_isPower_18 X hn σ   _ (lv_sub hl [] rfl) hw
  · have hw := hw.2 c1
    refine ml_lload_n (pc := 6) X hl 0 rfl rfl dX11_isPower_6 ?_
    refine ml_ldc2 (pc := 7) (v := 1000000000000000000) X dX11_isPower_7 tc_3_203 ?_
    refine ml_lcmp_gt (pc := 10) (tgt := 18) X h_x0 ⟨by decide, by decide⟩ dX11_isPower_10 dX11_isPower_11 (by decide) (fun c2 => ?_) (fun c2 => ?_)
    · have hw := hw.1 c2
      exact u_X11_isPower_18 X hn σ   _ (lv_sub hl [] rfl) hw
    · have hw := hw.2 c2
      refine ml_iconst (pc := 14) X dX11_isPower_14 ?_
      refine ml_goto (pc := 15) (tgt := 19) X dX11_isPower_15 (by decide) ?_
      exact u_X11_isPower_19 X hn σ 1 ⟨by decide, by decide⟩ _ (lv_sub hl [] rfl) hw
set_option maxRecDepth 100000 in
theorem c_X11_isPower (l : Launch) (base : Nat) (D : va_G) (cA : Nat → ClassId) (n : Nat) (hn : 214 ≤ n) (σ : ml_St) (x0 : Int) (h_x0 : I64 x0) (Q : Int → ml_St → Prop) (hw : f_X11_isPower σ x0 Q) : Met l yX11_isPower (Cond.code yX11_isPower cX11_isPower 2 (some .boolean) :: ml_T) rm_X11_isPower (va_Pc [.long (Int64.ofInt x0)] (ml_U base D cA n σ)) (ml_Qi ml_B base D cA n Q) 0 0 (ml_A base) := by
  refine Met.ofW (cc := cX11_isPower) (maxL := 2) (ret := (some .boolean)) (by decide) rfl ?_
  intro p e s m args below meth c s₁ B hml hv
  obtain ⟨rfl, hP, hK, hok, hro⟩ := hv
  have X : ml_X p s m c meth _ D cA cX11_isPower 2 RX11 (some .boolean) := ⟨B.exec, B.bytes, hml, findClass_of_methodNamed B.named, fun w hw => atoms_spec (ws := Cond.code yX11_isPower cX11_isPower 2 (some .boolean) :: ml_T) B.pre w (List.mem_cons_of_mem _ hw), hK, B.notSynchronized, B.returns⟩
  have hl := lv_entry [.long (Int64.ofInt x0)] (n := 2) (Nat.le_of_ble_eq_true rfl)
  rw [lg_entry_eq]
  generalize (lg_sl [.long (Int64.ofInt x0)] ++ List.replicate (2 - (lg_sl [.long (Int64.ofInt x0)]).length) Slot.unset).toArray = ls at hl ⊢
  have hl : lv_has ls 2 [(0, .long (Int64.ofInt x0))] := hl
  unfold f_X11_isPower at hw
  exact u_X11_isPower_0 X hn σ x0 h_x0 _ (lv_sub hl [0] rfl) hw s.heap [] hP va_S.rf hok hro
theorem dX11_left_0 : decode cX11_left 0 = .ok (.aload_n 0, 1) := by decide +kernel
theorem dX11_left_1 : decode cX11_left 1 = .ok (.iload_n 1, 1) := by decide +kernel
theorem dX11_left_2 : decode cX11_left 2 = .ok (.invokevirtual 121, 3) := by decide +kernel
theorem dX11_left_5 : decode cX11_left 5 = .ok (.ifCond .eq 10, 3) := by decide +kernel
theorem dX11_left_8 : decode cX11_left 8 = .ok (.lload_n 2, 1) := by decide +kernel
theorem dX11_left_9 : decode cX11_left 9 = .ok (.invokestatic 170, 3) := by decide +kernel
theorem dX11_left_12 : decode cX11_left 12 = .ok (.ifCond .ne 7, 3) := by decide +kernel
theorem dX11_left_15 : decode cX11_left 15 = .ok (.ldc2_w 119, 3) := by decide +kernel
theorem dX11_left_18 : decode cX11_left 18 = .ok (.lreturn, 1) := by decide +kernel
theorem dX11_left_19 : decode cX11_left 19 = .ok (.aload_n 0, 1) := by decide +kernel
theorem dX11_left_20 : decode cX11_left 20 = .ok (.getfield 40, 3) := by decide +kernel
theorem dX11_left_23 : decode cX11_left 23 = .ok (.aload_n 0, 1) := by decide +kernel
theorem dX11_left_24 : decode cX11_left 24 = .ok (.getfield 67, 3) := by decide +kernel
theorem dX11_left_27 : decode cX11_left 27 = .ok (.iload_n 1, 1) := by decide +kernel
theorem dX11_left_28 : decode cX11_left 28 = .ok (.aaload, 1) := by decide +kernel
theorem dX11_left_29 : decode cX11_left 29 = .ok (.getfield 112, 3) := by decide +kernel
theorem dX11_left_32 : decode cX11_left 32 = .ok (.aload_n 0, 1) := by decide +kernel
theorem dX11_left_33 : decode cX11_left 33 = .ok (.getfield 19, 3) := by decide +kernel
theorem dX11_left_36 : decode cX11_left 36 = .ok (.aload_n 0, 1) := by decide +kernel
theorem dX11_left_37 : decode cX11_left 37 = .ok (.getfield 82, 3) := by decide +kernel
theorem dX11_left_40 : decode cX11_left 40 = .ok (.invokevirtual 148, 3) := by decide +kernel
theorem dX11_left_43 : decode cX11_left 43 = .ok (.aload_n 0, 1) := by decide +kernel
theorem dX11_left_44 : decode cX11_left 44 = .ok (.getfield 40, 3) := by decide +kernel
theorem dX11_left_47 : decode cX11_left 47 = .ok (.lload_n 2, 1) := by decide +kernel
theorem dX11_left_48 : decode cX11_left 48 = .ok (.invokevirtual 174, 3) := by decide +kernel
theorem dX11_left_51 : decode cX11_left 51 = .ok (.lreturn, 1) := by decide +kernel
def f_X11_left_u15 (Q : Int → ml_St → Prop) (σ : ml_St) : Prop :=
Q (-1) σ
def f_X11_left_u0 (Q : Int → ml_St → Prop) (σ : ml_St) (x1 : Int) (x2 : Int) : Prop :=
f_X11_isMade σ x1 (fun r1 σ1 => ∀ _ : ml_B r1,
(r1 = 0 →
f_X11_left_u15 Q σ1) ∧
(r1 ≠ 0 →
f_X11_isPower σ1 x2 (fun r3 σ3 => ∀ _ : ml_B r3,
(r3 ≠ 0 →
(0 : Int) ≤ x1 ∧ (x1 : Int) < 16 ∧
∀ _ : I32 (σ3 1 11),
False) ∧
(r3 = 0 →
f_X11_left_u15 Q σ3))))
def f_X11_left (σ : ml_St) (x1 : Int) (x2 : Int) (Q : Int → ml_St → Prop) : Prop := f_X11_left_u0 Q σ x1 x2
def rm_X11_left : Room := { frames := 2, cells := 0, slots := 0, locals := 42 }
set_option maxRecDepth 100000 in
set_option maxHeartbeats 4000000 in
theorem u_X11_left_15 {p : Program} {e : Env} {s : State} {m : MethodId} {args : Array Value} {below : List Frame} {meth : Method} {c : Code} {base : Nat} {D : va_G} {cA : Nat → ClassId} {n : Nat} {l : Launch} {Q : Int → ml_St → Prop} (X : ml_X p s m c meth args D cA cX11_left 4 RX11 (some .long)) (hn : 214 ≤ n) (σ : ml_St) (ls : Array Slot) (hl : lv_has ls 4 []) (hw : f_X11_left_u15 Q σ) : ml_V p l e rm_X11_left s m args below meth c (MQ below (ml_Ql base D cA n Q) args s 0 0 (ml_A base)) base D cA 0 0 n n σ (F0 m 15 ls []) := by
  unfold f_X11_left_u15 at hw
  refine ml_ldc2 (pc := 15) (v := (-1)) X dX11_left_15 tc_3_125 ?_
  exact ml_lret (pc := 18) X ⟨by decide, by decide⟩ hw dX11_left_18
set_option maxRecDepth 100000 in
set_option maxHeartbeats 4000000 in
theorem u_X11_left_0 {p : Program} {e : Env} {s : State} {m : MethodId} {args : Array Value} {below : List Frame} {meth : Method} {c : Code} {base : Nat} {D : va_G} {cA : Nat → ClassId} {n : Nat} {l : Launch} {Q : Int → ml_St → Prop} (X : ml_X p s m c meth args D cA cX11_left 4 RX11 (some .long)) (hn : 214 ≤ n) (σ : ml_St) (x1 : Int) (x2 : Int) (h_x1 : I32 x1) (h_x2 : I64 x2) (ls : Array Slot) (hl : lv_has ls 4 [(0, .ref (base + (1 : Int).toNat)), (1, .int (Int32.ofInt x1)), (2, .long (Int64.ofInt x2))]) (hw : f_X11_left_u0 Q σ x1 x2) : ml_V p l e rm_X11_left s m args below meth c (MQ below (ml_Ql base D cA n Q) args s 0 0 (ml_A base)) base D cA 0 0 n n σ (F0 m 0 ls []) := by
  unfold f_X11_left_u0 at hw
  refine ml_aload_n (pc := 0) X hl 0 rfl rfl dX11_left_0 ?_
  refine ml_iload_n (pc := 1) X hl 1 rfl rfl dX11_left_1 ?_
  refine ml_callzV (pc := 2) (rest := []) X [.int (Int32.ofInt x1)] (by decide) rfl (ml_c1 hn) (c_X11_isMade l base D cA n hn σ x1 h_x1 _ hw) cv_X11_121 ⟨rfl, rfl⟩ ⟨by decide, by decide⟩ rfl rfl hl (Nat.le_of_ble_eq_true rfl) ⟨Nat.zero_le _, Nat.zero_le _⟩ dX11_left_2 (fun r1 σ1 t1 hw => ?_)
  have hw := hw t1
  refine ml_if_eq (pc := 5) (tgt := 15) X t1.i dX11_left_5 (by decide) (fun c2 => ?_) (fun c2 => ?_)
  · have hw := hw.1 c2
    exact u_X11_left_15 X hn σ1   _ (lv_sub hl [] rfl) hw
  · have hw := hw.2 c2
    refine ml_lload_n (pc := 8) X hl 2 rfl rfl dX11_left_8 ?_
    refine ml_callzS (pc := 9) (rest := []) X [.long (Int64.ofInt x2)] (c_X11_isPower l base D cA n hn σ1 x2 h_x2 _ hw) cv_X11_170 ⟨rfl, rfl⟩ ⟨by decide, by decide⟩ rfl rfl hl (Nat.le_of_ble_eq_true rfl) ⟨Nat.zero_le _, Nat.zero_le _⟩ dX11_left_9 (fun r3 σ3 t3 hw => ?_)
    have hw := hw t3
    refine ml_if_ne (pc := 12) (tgt := 19) X t3.i dX11_left_12 (by decide) (fun c4 => ?_) (fun c4 => ?_)
    · have hw := hw.1 c4
      refine ml_aload_n (pc := 19) X hl 0 rfl rfl dX11_left_19 ?_
      refine gf_X11_40 (pc := 20) X (ml_c1 hn) dX11_left_20 ?_
      refine ml_aload_n (pc := 23) X hl 0 rfl rfl dX11_left_23 ?_
      refine gf_X11_67 (pc := 24) X (ml_c1 hn) dX11_left_24 ?_
      refine ml_iload_n (pc := 27) X hl 1 rfl rfl dX11_left_27 ?_
      obtain ⟨a5, b5, hw⟩ := hw
      refine ml_aald_words (pc := 28) X hn a5 b5 dX11_left_28 ?_
      refine gf_X11_112 (pc := 29) X (ml_at_words hn a5 b5) dX11_left_29 ?_
      refine ml_aload_n (pc := 32) X hl 0 rfl rfl dX11_left_32 ?_
      refine gf_X11_19 (pc := 33) X (ml_c1 hn) dX11_left_33 ?_
      refine ml_aload_n (pc := 36) X hl 0 rfl rfl dX11_left_36 ?_
      refine gf_X11_82 (pc := 37) X (ml_c1 hn) dX11_left_37 (fun r6 => ?_)
      have hw := hw r6
      exact hw.elim
    · have hw := hw.2 c4
      exact u_X11_left_15 X hn σ3   _ (lv_sub hl [] rfl) hw
set_option maxRecDepth 100000 in
theorem c_X11_left (l : Launch) (base : Nat) (D : va_G) (cA : Nat → ClassId) (n : Nat) (hn : 214 ≤ n) (σ : ml_St) (x1 : Int) (x2 : Int) (h_x1 : I32 x1) (h_x2 : I64 x2) (Q : Int → ml_St → Prop) (hw : f_X11_left σ x1 x2 Q) : Met l yX11_left (Cond.code yX11_left cX11_left 4 (some .long) :: ml_T) rm_X11_left (va_Pc [.ref (base + (1 : Int).toNat), .int (Int32.ofInt x1), .long (Int64.ofInt x2)] (ml_U base D cA n σ)) (ml_Ql base D cA n Q) 0 0 (ml_A base) := by
  refine Met.ofW (cc := cX11_left) (maxL := 4) (ret := (some .long)) (by decide) rfl ?_
  intro p e s m args below meth c s₁ B hml hv
  obtain ⟨rfl, hP, hK, hok, hro⟩ := hv
  have X : ml_X p s m c meth _ D cA cX11_left 4 RX11 (some .long) := ⟨B.exec, B.bytes, hml, findClass_of_methodNamed B.named, fun w hw => atoms_spec (ws := Cond.code yX11_left cX11_left 4 (some .long) :: ml_T) B.pre w (List.mem_cons_of_mem _ hw), hK, B.notSynchronized, B.returns⟩
  have hl := lv_entry [.ref (base + (1 : Int).toNat), .int (Int32.ofInt x1), .long (Int64.ofInt x2)] (n := 4) (Nat.le_of_ble_eq_true rfl)
  rw [lg_entry_eq]
  generalize (lg_sl [.ref (base + (1 : Int).toNat), .int (Int32.ofInt x1), .long (Int64.ofInt x2)] ++ List.replicate (4 - (lg_sl [.ref (base + (1 : Int).toNat), .int (Int32.ofInt x1), .long (Int64.ofInt x2)]).length) Slot.unset).toArray = ls at hl ⊢
  have hl : lv_has ls 4 [(0, .ref (base + (1 : Int).toNat)), (1, .int (Int32.ofInt x1)), (2, .long (Int64.ofInt x2))] := hl
  unfold f_X11_left at hw
  exact u_X11_left_0 X hn σ x1 x2 h_x1 h_x2 _ (lv_sub hl [0, 1, 2] rfl) hw s.heap [] hP va_S.rf hok hro
theorem dX11_isStretch_0 : decode cX11_isStretch 0 = .ok (.lload_n 0, 1) := by decide +kernel
theorem dX11_isStretch_1 : decode cX11_isStretch 1 = .ok (.invokestatic 170, 3) := by decide +kernel
theorem dX11_isStretch_4 : decode cX11_isStretch 4 = .ok (.ifCond .eq 20, 3) := by decide +kernel
theorem dX11_isStretch_7 : decode cX11_isStretch 7 = .ok (.lload_n 2, 1) := by decide +kernel
theorem dX11_isStretch_8 : decode cX11_isStretch 8 = .ok (.invokestatic 170, 3) := by decide +kernel
theorem dX11_isStretch_11 : decode cX11_isStretch 11 = .ok (.ifCond .eq 13, 3) := by decide +kernel
theorem dX11_isStretch_14 : decode cX11_isStretch 14 = .ok (.lload_n 0, 1) := by decide +kernel
theorem dX11_isStretch_15 : decode cX11_isStretch 15 = .ok (.lload_n 2, 1) := by decide +kernel
theorem dX11_isStretch_16 : decode cX11_isStretch 16 = .ok (.lcmp, 1) := by decide +kernel
theorem dX11_isStretch_17 : decode cX11_isStretch 17 = .ok (.ifCond .gt 7, 3) := by decide +kernel
theorem dX11_isStretch_20 : decode cX11_isStretch 20 = .ok (.iconst 1, 1) := by decide +kernel
theorem dX11_isStretch_21 : decode cX11_isStretch 21 = .ok (.goto 4, 3) := by decide +kernel
theorem dX11_isStretch_24 : decode cX11_isStretch 24 = .ok (.iconst 0, 1) := by decide +kernel
theorem dX11_isStretch_25 : decode cX11_isStretch 25 = .ok (.ireturn, 1) := by decide +kernel
def f_X11_isStretch_u25 (Q : Int → ml_St → Prop) (σ : ml_St) (s0 : Int) : Prop :=
Q s0 σ
def f_X11_isStretch_u24 (Q : Int → ml_St → Prop) (σ : ml_St) : Prop :=
f_X11_isStretch_u25 Q σ 0
def f_X11_isStretch_u0 (Q : Int → ml_St → Prop) (σ : ml_St) (x0 : Int) (x2 : Int) : Prop :=
f_X11_isPower σ x0 (fun r1 σ1 => ∀ _ : ml_B r1,
(r1 = 0 →
f_X11_isStretch_u24 Q σ1) ∧
(r1 ≠ 0 →
f_X11_isPower σ1 x2 (fun r3 σ3 => ∀ _ : ml_B r3,
(r3 = 0 →
f_X11_isStretch_u24 Q σ3) ∧
(r3 ≠ 0 →
(x2 < x0 →
f_X11_isStretch_u24 Q σ3) ∧
(¬ (x2 < x0) →
f_X11_isStretch_u25 Q σ3 1)))))
def f_X11_isStretch (σ : ml_St) (x0 : Int) (x2 : Int) (Q : Int → ml_St → Prop) : Prop := f_X11_isStretch_u0 Q σ x0 x2
def rm_X11_isStretch : Room := { frames := 1, cells := 0, slots := 0, locals := 21 }
set_option maxRecDepth 100000 in
set_option maxHeartbeats 4000000 in
theorem u_X11_isStretch_25 {p : Program} {e : Env} {s : State} {m : MethodId} {args : Array Value} {below : List Frame} {meth : Method} {c : Code} {base : Nat} {D : va_G} {cA : Nat → ClassId} {n : Nat} {l : Launch} {Q : Int → ml_St → Prop} (X : ml_X p s m c meth args D cA cX11_isStretch 4 RX11 (some .boolean)) (hn : 214 ≤ n) (σ : ml_St) (s0 : Int) (h_s0 : ml_B s0) (ls : Array Slot) (hl : lv_has ls 4 []) (hw : f_X11_isStretch_u25 Q σ s0) : ml_V p l e rm_X11_isStretch s m args below meth c (MQ below (ml_Qi ml_B base D cA n Q) args s 0 0 (ml_A base)) base D cA 0 0 n n σ (F0 m 25 ls [.int (Int32.ofInt s0)]) := by
  unfold f_X11_isStretch_u25 at hw
  exact ml_zret (pc := 25) X h_s0 hw dX11_isStretch_25
set_option maxRecDepth 100000 in
set_option maxHeartbeats 4000000 in
theorem u_X11_isStretch_24 {p : Program} {e : Env} {s : State} {m : MethodId} {args : Array Value} {below : List Frame} {meth : Method} {c : Code} {base : Nat} {D : va_G} {cA : Nat → ClassId} {n : Nat} {l : Launch} {Q : Int → ml_St → Prop} (X : ml_X p s m c meth args D cA cX11_isStretch 4 RX11 (some .boolean)) (hn : 214 ≤ n) (σ : ml_St) (ls : Array Slot) (hl : lv_has ls 4 []) (hw : f_X11_isStretch_u24 Q σ) : ml_V p l e rm_X11_isStretch s m args below meth c (MQ below (ml_Qi ml_B base D cA n Q) args s 0 0 (ml_A base)) base D cA 0 0 n n σ (F0 m 24 ls []) := by
  unfold f_X11_isStretch_u24 at hw
  refine ml_iconst (pc := 24) X dX11_isStretch_24 ?_
  exact u_X11_isStretch_25 X hn σ 0 ⟨by decide, by decide⟩ _ (lv_sub hl [] rfl) hw
set_option maxRecDepth 100000 in
set_option maxHeartbeats 4000000 in
theorem u_X11_isStretch_0 {p : Program} {e : Env} {s : State} {m : MethodId} {args : Array Value} {below : List Frame} {meth : Method} {c : Code} {base : Nat} {D : va_G} {cA : Nat → ClassId} {n : Nat} {l : Launch} {Q : Int → ml_St → Prop} (X : ml_X p s m c meth args D cA cX11_isStretch 4 RX11 (some .boolean)) (hn : 214 ≤ n) (σ : ml_St) (x0 : Int) (x2 : Int) (h_x0 : I64 x0) (h_x2 : I64 x2) (ls : Array Slot) (hl : lv_has ls 4 [(0, .long (Int64.ofInt x0)), (2, .long (Int64.ofInt x2))]) (hw : f_X11_isStretch_u0 Q σ x0 x2) : ml_V p l e rm_X11_isStretch s m args below meth c (MQ below (ml_Qi ml_B base D cA n Q) args s 0 0 (ml_A base)) base D cA 0 0 n n σ (F0 m 0 ls []) := by
  unfold f_X11_isStretch_u0 at hw
  refine ml_lload_n (pc := 0) X hl 0 rfl rfl dX11_isStretch_0 ?_
  refine ml_callzS (pc := 1) (rest := []) X [.long (Int64.ofInt x0)] (c_X11_isPower l base D cA n hn σ x0 h_x0 _ hw) cv_X11_170 ⟨rfl, rfl⟩ ⟨by decide, by decide⟩ rfl rfl hl (Nat.le_of_ble_eq_true rfl) ⟨Nat.zero_le _, Nat.zero_le _⟩ dX11_isStretch_1 (fun r1 σ1 t1 hw => ?_)
  have hw := hw t1
  refine ml_if_eq (pc := 4) (tgt := 24) X t1.i dX11_isStretch_4 (by decide) (fun c2 => ?_) (fun c2 => ?_)
  · have hw := hw.1 c2
    exact u_X11_isStretch_24 X hn σ1   _ (lv_sub hl [] rfl) hw
  · have hw := hw.2 c2
    refine ml_lload_n (pc := 7) X hl 1 rfl rfl dX11_isStretch_7 ?_
    refine ml_callzS (pc := 8) (rest := []) X [.long (Int64.ofInt x2)] (c_X11_isPower l base D cA n hn σ1 x2 h_x2 _ hw) cv_X11_170 ⟨rfl, rfl⟩ ⟨by decide, by decide⟩ rfl rfl hl (Nat.le_of_ble_eq_true rfl) ⟨Nat.zero_le _, Nat.zero_le _⟩ dX11_isStretch_8 (fun r3 σ3 t3 hw => ?_)
    have hw := hw t3
    refine ml_if_eq (pc := 11) (tgt := 24) X t3.i dX11_isStretch_11 (by decide) (fun c4 => ?_) (fun c4 => ?_)
    · have hw := hw.1 c4
      exact u_X11_isStretch_24 X hn σ3   _ (lv_sub hl [] rfl) hw
    · have hw := hw.2 c4
      refine ml_lload_n (pc := 14) X hl 0 rfl rfl dX11_isStretch_14 ?_
      refine ml_lload_n (pc := 15) X hl 1 rfl rfl dX11_isStretch_15 ?_
      refine ml_lcmp_gt (pc := 16) (tgt := 24) X h_x0 h_x2 dX11_isStretch_16 dX11_isStretch_17 (by decide) (fun c5 => ?_) (fun c5 => ?_)
      · have hw := hw.1 c5
        exact u_X11_isStretch_24 X hn σ3   _ (lv_sub hl [] rfl) hw
      · have hw := hw.2 c5
        refine ml_iconst (pc := 20) X dX11_isStretch_20 ?_
        refine ml_goto (pc := 21) (tgt := 25) X dX11_isStretch_21 (by decide) ?_
        exact u_X11_isStretch_25 X hn σ3 1 ⟨by decide, by decide⟩ _ (lv_sub hl [] rfl) hw
set_option maxRecDepth 100000 in
theorem c_X11_isStretch (l : Launch) (base : Nat) (D : va_G) (cA : Nat → ClassId) (n : Nat) (hn : 214 ≤ n) (σ : ml_St) (x0 : Int) (x2 : Int) (h_x0 : I64 x0) (h_x2 : I64 x2) (Q : Int → ml_St → Prop) (hw : f_X11_isStretch σ x0 x2 Q) : Met l yX11_isStretch (Cond.code yX11_isStretch cX11_isStretch 4 (some .boolean) :: ml_T) rm_X11_isStretch (va_Pc [.long (Int64.ofInt x0), .long (Int64.ofInt x2)] (ml_U base D cA n σ)) (ml_Qi ml_B base D cA n Q) 0 0 (ml_A base) := by
  refine Met.ofW (cc := cX11_isStretch) (maxL := 4) (ret := (some .boolean)) (by decide) rfl ?_
  intro p e s m args below meth c s₁ B hml hv
  obtain ⟨rfl, hP, hK, hok, hro⟩ := hv
  have X : ml_X p s m c meth _ D cA cX11_isStretch 4 RX11 (some .boolean) := ⟨B.exec, B.bytes, hml, findClass_of_methodNamed B.named, fun w hw => atoms_spec (ws := Cond.code yX11_isStretch cX11_isStretch 4 (some .boolean) :: ml_T) B.pre w (List.mem_cons_of_mem _ hw), hK, B.notSynchronized, B.returns⟩
  have hl := lv_entry [.long (Int64.ofInt x0), .long (Int64.ofInt x2)] (n := 4) (Nat.le_of_ble_eq_true rfl)
  rw [lg_entry_eq]
  generalize (lg_sl [.long (Int64.ofInt x0), .long (Int64.ofInt x2)] ++ List.replicate (4 - (lg_sl [.long (Int64.ofInt x0), .long (Int64.ofInt x2)]).length) Slot.unset).toArray = ls at hl ⊢
  have hl : lv_has ls 4 [(0, .long (Int64.ofInt x0)), (2, .long (Int64.ofInt x2))] := hl
  unfold f_X11_isStretch at hw
  exact u_X11_isStretch_0 X hn σ x0 x2 h_x0 h_x2 _ (lv_sub hl [0, 1] rfl) hw s.heap [] hP va_S.rf hok hro
theorem dX11_those_0 : decode cX11_those 0 = .ok (.aload_n 0, 1) := by decide +kernel
theorem dX11_those_1 : decode cX11_those 1 = .ok (.iload_n 1, 1) := by decide +kernel
theorem dX11_those_2 : decode cX11_those 2 = .ok (.invokevirtual 121, 3) := by decide +kernel
theorem dX11_those_5 : decode cX11_those 5 = .ok (.ifCond .eq 27, 3) := by decide +kernel
theorem dX11_those_8 : decode cX11_those 8 = .ok (.lload_n 2, 1) := by decide +kernel
theorem dX11_those_9 : decode cX11_those 9 = .ok (.lconst 0, 1) := by decide +kernel
theorem dX11_those_10 : decode cX11_those 10 = .ok (.lcmp, 1) := by decide +kernel
theorem dX11_those_11 : decode cX11_those 11 = .ok (.ifCond .lt 21, 3) := by decide +kernel
theorem dX11_those_14 : decode cX11_those 14 = .ok (.lload_n 2, 1) := by decide +kernel
theorem dX11_those_15 : decode cX11_those 15 = .ok (.ldc2_w 178, 3) := by decide +kernel
theorem dX11_those_18 : decode cX11_those 18 = .ok (.lcmp, 1) := by decide +kernel
theorem dX11_those_19 : decode cX11_those 19 = .ok (.ifCond .gt 13, 3) := by decide +kernel
theorem dX11_those_22 : decode cX11_those 22 = .ok (.lload 4, 2) := by decide +kernel
theorem dX11_those_24 : decode cX11_those 24 = .ok (.lload 6, 2) := by decide +kernel
theorem dX11_those_26 : decode cX11_those 26 = .ok (.invokestatic 180, 3) := by decide +kernel
theorem dX11_those_29 : decode cX11_those 29 = .ok (.ifCond .ne 7, 3) := by decide +kernel
theorem dX11_those_32 : decode cX11_those 32 = .ok (.ldc2_w 119, 3) := by decide +kernel
theorem dX11_those_35 : decode cX11_those 35 = .ok (.lreturn, 1) := by decide +kernel
theorem dX11_those_36 : decode cX11_those 36 = .ok (.aload_n 0, 1) := by decide +kernel
theorem dX11_those_37 : decode cX11_those 37 = .ok (.getfield 40, 3) := by decide +kernel
theorem dX11_those_40 : decode cX11_those 40 = .ok (.aload_n 0, 1) := by decide +kernel
theorem dX11_those_41 : decode cX11_those 41 = .ok (.getfield 67, 3) := by decide +kernel
theorem dX11_those_44 : decode cX11_those 44 = .ok (.iload_n 1, 1) := by decide +kernel
theorem dX11_those_45 : decode cX11_those 45 = .ok (.aaload, 1) := by decide +kernel
theorem dX11_those_46 : decode cX11_those 46 = .ok (.getfield 112, 3) := by decide +kernel
theorem dX11_those_49 : decode cX11_those 49 = .ok (.aload_n 0, 1) := by decide +kernel
theorem dX11_those_50 : decode cX11_those 50 = .ok (.getfield 19, 3) := by decide +kernel
theorem dX11_those_53 : decode cX11_those 53 = .ok (.aload_n 0, 1) := by decide +kernel
theorem dX11_those_54 : decode cX11_those 54 = .ok (.getfield 82, 3) := by decide +kernel
theorem dX11_those_57 : decode cX11_those 57 = .ok (.invokevirtual 148, 3) := by decide +kernel
theorem dX11_those_60 : decode cX11_those 60 = .ok (.aload_n 0, 1) := by decide +kernel
theorem dX11_those_61 : decode cX11_those 61 = .ok (.getfield 40, 3) := by decide +kernel
theorem dX11_those_64 : decode cX11_those 64 = .ok (.invokevirtual 158, 3) := by decide +kernel
theorem dX11_those_67 : decode cX11_those 67 = .ok (.aload_n 0, 1) := by decide +kernel
theorem dX11_those_68 : decode cX11_those 68 = .ok (.getfield 40, 3) := by decide +kernel
theorem dX11_those_71 : decode cX11_those 71 = .ok (.lload_n 2, 1) := by decide +kernel
theorem dX11_those_72 : decode cX11_those 72 = .ok (.lload 4, 2) := by decide +kernel
theorem dX11_those_74 : decode cX11_those 74 = .ok (.lload 6, 2) := by decide +kernel
theorem dX11_those_76 : decode cX11_those 76 = .ok (.invokevirtual 184, 3) := by decide +kernel
theorem dX11_those_79 : decode cX11_those 79 = .ok (.lreturn, 1) := by decide +kernel
def f_X11_those_u32 (Q : Int → ml_St → Prop) (σ : ml_St) : Prop :=
Q (-1) σ
def f_X11_those_u0 (Q : Int → ml_St → Prop) (σ : ml_St) (x1 : Int) (x2 : Int) (x4 : Int) (x6 : Int) : Prop :=
f_X11_isMade σ x1 (fun r1 σ1 => ∀ _ : ml_B r1,
(r1 = 0 →
f_X11_those_u32 Q σ1) ∧
(r1 ≠ 0 →
(x2 < 0 →
f_X11_those_u32 Q σ1) ∧
(¬ (x2 < 0) →
(1000000000000000000 < x2 →
f_X11_those_u32 Q σ1) ∧
(¬ (1000000000000000000 < x2) →
f_X11_isStretch σ1 x4 x6 (fun r5 σ5 => ∀ _ : ml_B r5,
(r5 ≠ 0 →
(0 : Int) ≤ x1 ∧ (x1 : Int) < 16 ∧
∀ _ : I32 (σ5 1 11),
False) ∧
(r5 = 0 →
f_X11_those_u32 Q σ5))))))
def f_X11_those (σ : ml_St) (x1 : Int) (x2 : Int) (x4 : Int) (x6 : Int) (Q : Int → ml_St → Prop) : Prop := f_X11_those_u0 Q σ x1 x2 x4 x6
def rm_X11_those : Room := { frames := 2, cells := 0, slots := 0, locals := 44 }
set_option maxRecDepth 100000 in
set_option maxHeartbeats 4000000 in
theorem u_X11_those_32 {p : Program} {e : Env} {s : State} {m : MethodId} {args : Array Value} {below : List Frame} {meth : Method} {c : Code} {base : Nat} {D : va_G} {cA : Nat → ClassId} {n : Nat} {l : Launch} {Q : Int → ml_St → Prop} (X : ml_X p s m c meth args D cA cX11_those 8 RX11 (some .long)) (hn : 214 ≤ n) (σ : ml_St) (ls : Array Slot) (hl : lv_has ls 8 []) (hw : f_X11_those_u32 Q σ) : ml_V p l e rm_X11_those s m args below meth c (MQ below (ml_Ql base D cA n Q) args s 0 0 (ml_A base)) base D cA 0 0 n n σ (F0 m 32 ls []) := by
  unfold f_X11_those_u32 at hw
  refine ml_ldc2 (pc := 32) (v := (-1)) X dX11_those_32 tc_3_125 ?_
  exact ml_lret (pc := 35) X ⟨by decide, by decide⟩ hw dX11_those_35
set_option maxRecDepth 100000 in
set_option maxHeartbeats 4000000 in
theorem u_X11_those_0 {p : Program} {e : Env} {s : State} {m : MethodId} {args : Array Value} {below : List Frame} {meth : Method} {c : Code} {base : Nat} {D : va_G} {cA : Nat → ClassId} {n : Nat} {l : Launch} {Q : Int → ml_St → Prop} (X : ml_X p s m c meth args D cA cX11_those 8 RX11 (some .long)) (hn : 214 ≤ n) (σ : ml_St) (x1 : Int) (x2 : Int) (x4 : Int) (x6 : Int) (h_x1 : I32 x1) (h_x2 : I64 x2) (h_x4 : I64 x4) (h_x6 : I64 x6) (ls : Array Slot) (hl : lv_has ls 8 [(0, .ref (base + (1 : Int).toNat)), (1, .int (Int32.ofInt x1)), (2, .long (Int64.ofInt x2)), (4, .long (Int64.ofInt x4)), (6, .long (Int64.ofInt x6))]) (hw : f_X11_those_u0 Q σ x1 x2 x4 x6) : ml_V p l e rm_X11_those s m args below meth c (MQ below (ml_Ql base D cA n Q) args s 0 0 (ml_A base)) base D cA 0 0 n n σ (F0 m 0 ls []) := by
  unfold f_X11_those_u0 at hw
  refine ml_aload_n (pc := 0) X hl 0 rfl rfl dX11_those_0 ?_
  refine ml_iload_n (pc := 1) X hl 1 rfl rfl dX11_those_1 ?_
  refine ml_callzV (pc := 2) (rest := []) X [.int (Int32.ofInt x1)] (by decide) rfl (ml_c1 hn) (c_X11_isMade l base D cA n hn σ x1 h_x1 _ hw) cv_X11_121 ⟨rfl, rfl⟩ ⟨by decide, by decide⟩ rfl rfl hl (Nat.le_of_ble_eq_true rfl) ⟨Nat.zero_le _, Nat.zero_le _⟩ dX11_those_2 (fun r1 σ1 t1 hw => ?_)
  have hw := hw t1
  refine ml_if_eq (pc := 5) (tgt := 32) X t1.i dX11_those_5 (by decide) (fun c2 => ?_) (fun c2 => ?_)
  · have hw := hw.1 c2
    exact u_X11_those_32 X hn σ1   _ (lv_sub hl [] rfl) hw
  · have hw := hw.2 c2
    refine ml_lload_n (pc := 8) X hl 2 rfl rfl dX11_those_8 ?_
    refine ml_lconst0 (pc := 9) X dX11_those_9 ?_
    refine ml_lcmp_lt (pc := 10) (tgt := 32) X h_x2 ⟨by decide, by decide⟩ dX11_those_10 dX11_those_11 (by decide) (fun c3 => ?_) (fun c3 => ?_)
    · have hw := hw.1 c3
      exact u_X11_those_32 X hn σ1   _ (lv_sub hl [] rfl) hw
    · have hw := hw.2 c3
      refine ml_lload_n (pc := 14) X hl 2 rfl rfl dX11_those_14 ?_
      refine ml_ldc2 (pc := 15) (v := 1000000000000000000) X dX11_those_15 tc_3_203 ?_
      refine ml_lcmp_gt (pc := 18) (tgt := 32) X h_x2 ⟨by decide, by decide⟩ dX11_those_18 dX11_those_19 (by decide) (fun c4 => ?_) (fun c4 => ?_)
      · have hw := hw.1 c4
        exact u_X11_those_32 X hn σ1   _ (lv_sub hl [] rfl) hw
      · have hw := hw.2 c4
        refine ml_lload (pc := 22) X hl 3 rfl dX11_those_22 ?_
        refine ml_lload (pc := 24) X hl 4 rfl dX11_those_24 ?_
        refine ml_callzS (pc := 26) (rest := []) X [.long (Int64.ofInt x4), .long (Int64.ofInt x6)] (c_X11_isStretch l base D cA n hn σ1 x4 x6 h_x4 h_x6 _ hw) cv_X11_180 ⟨rfl, rfl⟩ ⟨by decide, by decide⟩ rfl rfl hl (Nat.le_of_ble_eq_true rfl) ⟨Nat.zero_le _, Nat.zero_le _⟩ dX11_those_26 (fun r5 σ5 t5 hw => ?_)
        have hw := hw t5
        refine ml_if_ne (pc := 29) (tgt := 36) X t5.i dX11_those_29 (by decide) (fun c6 => ?_) (fun c6 => ?_)
        · have hw := hw.1 c6
          refine ml_aload_n (pc := 36) X hl 0 rfl rfl dX11_those_36 ?_
          refine gf_X11_40 (pc := 37) X (ml_c1 hn) dX11_those_37 ?_
          refine ml_aload_n (pc := 40) X hl 0 rfl rfl dX11_those_40 ?_
          refine gf_X11_67 (pc := 41) X (ml_c1 hn) dX11_those_41 ?_
          refine ml_iload_n (pc := 44) X hl 1 rfl rfl dX11_those_44 ?_
          obtain ⟨a7, b7, hw⟩ := hw
          refine ml_aald_words (pc := 45) X hn a7 b7 dX11_those_45 ?_
          refine gf_X11_112 (pc := 46) X (ml_at_words hn a7 b7) dX11_those_46 ?_
          refine ml_aload_n (pc := 49) X hl 0 rfl rfl dX11_those_49 ?_
          refine gf_X11_19 (pc := 50) X (ml_c1 hn) dX11_those_50 ?_
          refine ml_aload_n (pc := 53) X hl 0 rfl rfl dX11_those_53 ?_
          refine gf_X11_82 (pc := 54) X (ml_c1 hn) dX11_those_54 (fun r8 => ?_)
          have hw := hw r8
          exact hw.elim
        · have hw := hw.2 c6
          exact u_X11_those_32 X hn σ5   _ (lv_sub hl [] rfl) hw
set_option maxRecDepth 100000 in
theorem c_X11_those (l : Launch) (base : Nat) (D : va_G) (cA : Nat → ClassId) (n : Nat) (hn : 214 ≤ n) (σ : ml_St) (x1 : Int) (x2 : Int) (x4 : Int) (x6 : Int) (h_x1 : I32 x1) (h_x2 : I64 x2) (h_x4 : I64 x4) (h_x6 : I64 x6) (Q : Int → ml_St → Prop) (hw : f_X11_those σ x1 x2 x4 x6 Q) : Met l yX11_those (Cond.code yX11_those cX11_those 8 (some .long) :: ml_T) rm_X11_those (va_Pc [.ref (base + (1 : Int).toNat), .int (Int32.ofInt x1), .long (Int64.ofInt x2), .long (Int64.ofInt x4), .long (Int64.ofInt x6)] (ml_U base D cA n σ)) (ml_Ql base D cA n Q) 0 0 (ml_A base) := by
  refine Met.ofW (cc := cX11_those) (maxL := 8) (ret := (some .long)) (by decide) rfl ?_
  intro p e s m args below meth c s₁ B hml hv
  obtain ⟨rfl, hP, hK, hok, hro⟩ := hv
  have X : ml_X p s m c meth _ D cA cX11_those 8 RX11 (some .long) := ⟨B.exec, B.bytes, hml, findClass_of_methodNamed B.named, fun w hw => atoms_spec (ws := Cond.code yX11_those cX11_those 8 (some .long) :: ml_T) B.pre w (List.mem_cons_of_mem _ hw), hK, B.notSynchronized, B.returns⟩
  have hl := lv_entry [.ref (base + (1 : Int).toNat), .int (Int32.ofInt x1), .long (Int64.ofInt x2), .long (Int64.ofInt x4), .long (Int64.ofInt x6)] (n := 8) (Nat.le_of_ble_eq_true rfl)
  rw [lg_entry_eq]
  generalize (lg_sl [.ref (base + (1 : Int).toNat), .int (Int32.ofInt x1), .long (Int64.ofInt x2), .long (Int64.ofInt x4), .long (Int64.ofInt x6)] ++ List.replicate (8 - (lg_sl [.ref (base + (1 : Int).toNat), .int (Int32.ofInt x1), .long (Int64.ofInt x2), .long (Int64.ofInt x4), .long (Int64.ofInt x6)]).length) Slot.unset).toArray = ls at hl ⊢
  have hl : lv_has ls 8 [(0, .ref (base + (1 : Int).toNat)), (1, .int (Int32.ofInt x1)), (2, .long (Int64.ofInt x2)), (4, .long (Int64.ofInt x4)), (6, .long (Int64.ofInt x6))] := hl
  unfold f_X11_those at hw
  exact u_X11_those_0 X hn σ x1 x2 x4 x6 h_x1 h_x2 h_x4 h_x6 _ (lv_sub hl [0, 1, 2, 3, 4] rfl) hw s.heap [] hP va_S.rf hok hro
theorem dX11_first_0 : decode cX11_first 0 = .ok (.aload_n 0, 1) := by decide +kernel
theorem dX11_first_1 : decode cX11_first 1 = .ok (.iload_n 1, 1) := by decide +kernel
theorem dX11_first_2 : decode cX11_first 2 = .ok (.invokevirtual 121, 3) := by decide +kernel
theorem dX11_first_5 : decode cX11_first 5 = .ok (.ifCond .eq 17, 3) := by decide +kernel
theorem dX11_first_8 : decode cX11_first 8 = .ok (.lload_n 2, 1) := by decide +kernel
theorem dX11_first_9 : decode cX11_first 9 = .ok (.lconst 0, 1) := by decide +kernel
theorem dX11_first_10 : decode cX11_first 10 = .ok (.lcmp, 1) := by decide +kernel
theorem dX11_first_11 : decode cX11_first 11 = .ok (.ifCond .lt 11, 3) := by decide +kernel
theorem dX11_first_14 : decode cX11_first 14 = .ok (.lload_n 2, 1) := by decide +kernel
theorem dX11_first_15 : decode cX11_first 15 = .ok (.ldc2_w 178, 3) := by decide +kernel
theorem dX11_first_18 : decode cX11_first 18 = .ok (.lcmp, 1) := by decide +kernel
theorem dX11_first_19 : decode cX11_first 19 = .ok (.ifCond .le 7, 3) := by decide +kernel
theorem dX11_first_22 : decode cX11_first 22 = .ok (.ldc2_w 119, 3) := by decide +kernel
theorem dX11_first_25 : decode cX11_first 25 = .ok (.lreturn, 1) := by decide +kernel
theorem dX11_first_26 : decode cX11_first 26 = .ok (.aload_n 0, 1) := by decide +kernel
theorem dX11_first_27 : decode cX11_first 27 = .ok (.getfield 40, 3) := by decide +kernel
theorem dX11_first_30 : decode cX11_first 30 = .ok (.aload_n 0, 1) := by decide +kernel
theorem dX11_first_31 : decode cX11_first 31 = .ok (.getfield 67, 3) := by decide +kernel
theorem dX11_first_34 : decode cX11_first 34 = .ok (.iload_n 1, 1) := by decide +kernel
theorem dX11_first_35 : decode cX11_first 35 = .ok (.aaload, 1) := by decide +kernel
theorem dX11_first_36 : decode cX11_first 36 = .ok (.getfield 112, 3) := by decide +kernel
theorem dX11_first_39 : decode cX11_first 39 = .ok (.aload_n 0, 1) := by decide +kernel
theorem dX11_first_40 : decode cX11_first 40 = .ok (.getfield 19, 3) := by decide +kernel
theorem dX11_first_43 : decode cX11_first 43 = .ok (.aload_n 0, 1) := by decide +kernel
theorem dX11_first_44 : decode cX11_first 44 = .ok (.getfield 82, 3) := by decide +kernel
theorem dX11_first_47 : decode cX11_first 47 = .ok (.invokevirtual 148, 3) := by decide +kernel
theorem dX11_first_50 : decode cX11_first 50 = .ok (.aload_n 0, 1) := by decide +kernel
theorem dX11_first_51 : decode cX11_first 51 = .ok (.getfield 40, 3) := by decide +kernel
theorem dX11_first_54 : decode cX11_first 54 = .ok (.invokevirtual 158, 3) := by decide +kernel
theorem dX11_first_57 : decode cX11_first 57 = .ok (.aload_n 0, 1) := by decide +kernel
theorem dX11_first_58 : decode cX11_first 58 = .ok (.getfield 40, 3) := by decide +kernel
theorem dX11_first_61 : decode cX11_first 61 = .ok (.lload_n 2, 1) := by decide +kernel
theorem dX11_first_62 : decode cX11_first 62 = .ok (.invokevirtual 188, 3) := by decide +kernel
theorem dX11_first_65 : decode cX11_first 65 = .ok (.lreturn, 1) := by decide +kernel
def f_X11_first_u22 (Q : Int → ml_St → Prop) (σ : ml_St) : Prop :=
Q (-1) σ
def f_X11_first_u0 (Q : Int → ml_St → Prop) (σ : ml_St) (x1 : Int) (x2 : Int) : Prop :=
f_X11_isMade σ x1 (fun r1 σ1 => ∀ _ : ml_B r1,
(r1 = 0 →
f_X11_first_u22 Q σ1) ∧
(r1 ≠ 0 →
(x2 < 0 →
f_X11_first_u22 Q σ1) ∧
(¬ (x2 < 0) →
(x2 ≤ 1000000000000000000 →
(0 : Int) ≤ x1 ∧ (x1 : Int) < 16 ∧
∀ _ : I32 (σ1 1 11),
False) ∧
(¬ (x2 ≤ 1000000000000000000) →
f_X11_first_u22 Q σ1))))
def f_X11_first (σ : ml_St) (x1 : Int) (x2 : Int) (Q : Int → ml_St → Prop) : Prop := f_X11_first_u0 Q σ x1 x2
def rm_X11_first : Room := { frames := 2, cells := 0, slots := 0, locals := 42 }
set_option maxRecDepth 100000 in
set_option maxHeartbeats 4000000 in
theorem u_X11_first_22 {p : Program} {e : Env} {s : State} {m : MethodId} {args : Array Value} {below : List Frame} {meth : Method} {c : Code} {base : Nat} {D : va_G} {cA : Nat → ClassId} {n : Nat} {l : Launch} {Q : Int → ml_St → Prop} (X : ml_X p s m c meth args D cA cX11_first 4 RX11 (some .long)) (hn : 214 ≤ n) (σ : ml_St) (ls : Array Slot) (hl : lv_has ls 4 []) (hw : f_X11_first_u22 Q σ) : ml_V p l e rm_X11_first s m args below meth c (MQ below (ml_Ql base D cA n Q) args s 0 0 (ml_A base)) base D cA 0 0 n n σ (F0 m 22 ls []) := by
  unfold f_X11_first_u22 at hw
  refine ml_ldc2 (pc := 22) (v := (-1)) X dX11_first_22 tc_3_125 ?_
  exact ml_lret (pc := 25) X ⟨by decide, by decide⟩ hw dX11_first_25
set_option maxRecDepth 100000 in
set_option maxHeartbeats 4000000 in
theorem u_X11_first_0 {p : Program} {e : Env} {s : State} {m : MethodId} {args : Array Value} {below : List Frame} {meth : Method} {c : Code} {base : Nat} {D : va_G} {cA : Nat → ClassId} {n : Nat} {l : Launch} {Q : Int → ml_St → Prop} (X : ml_X p s m c meth args D cA cX11_first 4 RX11 (some .long)) (hn : 214 ≤ n) (σ : ml_St) (x1 : Int) (x2 : Int) (h_x1 : I32 x1) (h_x2 : I64 x2) (ls : Array Slot) (hl : lv_has ls 4 [(0, .ref (base + (1 : Int).toNat)), (1, .int (Int32.ofInt x1)), (2, .long (Int64.ofInt x2))]) (hw : f_X11_first_u0 Q σ x1 x2) : ml_V p l e rm_X11_first s m args below meth c (MQ below (ml_Ql base D cA n Q) args s 0 0 (ml_A base)) base D cA 0 0 n n σ (F0 m 0 ls []) := by
  unfold f_X11_first_u0 at hw
  refine ml_aload_n (pc := 0) X hl 0 rfl rfl dX11_first_0 ?_
  refine ml_iload_n (pc := 1) X hl 1 rfl rfl dX11_first_1 ?_
  refine ml_callzV (pc := 2) (rest := []) X [.int (Int32.ofInt x1)] (by decide) rfl (ml_c1 hn) (c_X11_isMade l base D cA n hn σ x1 h_x1 _ hw) cv_X11_121 ⟨rfl, rfl⟩ ⟨by decide, by decide⟩ rfl rfl hl (Nat.le_of_ble_eq_true rfl) ⟨Nat.zero_le _, Nat.zero_le _⟩ dX11_first_2 (fun r1 σ1 t1 hw => ?_)
  have hw := hw t1
  refine ml_if_eq (pc := 5) (tgt := 22) X t1.i dX11_first_5 (by decide) (fun c2 => ?_) (fun c2 => ?_)
  · have hw := hw.1 c2
    exact u_X11_first_22 X hn σ1   _ (lv_sub hl [] rfl) hw
  · have hw := hw.2 c2
    refine ml_lload_n (pc := 8) X hl 2 rfl rfl dX11_first_8 ?_
    refine ml_lconst0 (pc := 9) X dX11_first_9 ?_
    refine ml_lcmp_lt (pc := 10) (tgt := 22) X h_x2 ⟨by decide, by decide⟩ dX11_first_10 dX11_first_11 (by decide) (fun c3 => ?_) (fun c3 => ?_)
    · have hw := hw.1 c3
      exact u_X11_first_22 X hn σ1   _ (lv_sub hl [] rfl) hw
    · have hw := hw.2 c3
      refine ml_lload_n (pc := 14) X hl 2 rfl rfl dX11_first_14 ?_
      refine ml_ldc2 (pc := 15) (v := 1000000000000000000) X dX11_first_15 tc_3_203 ?_
      refine ml_lcmp_le (pc := 18) (tgt := 26) X h_x2 ⟨by decide, by decide⟩ dX11_first_18 dX11_first_19 (by decide) (fun c4 => ?_) (fun c4 => ?_)
      · have hw := hw.1 c4
        refine ml_aload_n (pc := 26) X hl 0 rfl rfl dX11_first_26 ?_
        refine gf_X11_40 (pc := 27) X (ml_c1 hn) dX11_first_27 ?_
        refine ml_aload_n (pc := 30) X hl 0 rfl rfl dX11_first_30 ?_
        refine gf_X11_67 (pc := 31) X (ml_c1 hn) dX11_first_31 ?_
        refine ml_iload_n (pc := 34) X hl 1 rfl rfl dX11_first_34 ?_
        obtain ⟨a5, b5, hw⟩ := hw
        refine ml_aald_words (pc := 35) X hn a5 b5 dX11_first_35 ?_
        refine gf_X11_112 (pc := 36) X (ml_at_words hn a5 b5) dX11_first_36 ?_
        refine ml_aload_n (pc := 39) X hl 0 rfl rfl dX11_first_39 ?_
        refine gf_X11_19 (pc := 40) X (ml_c1 hn) dX11_first_40 ?_
        refine ml_aload_n (pc := 43) X hl 0 rfl rfl dX11_first_43 ?_
        refine gf_X11_82 (pc := 44) X (ml_c1 hn) dX11_first_44 (fun r6 => ?_)
        have hw := hw r6
        exact hw.elim
      · have hw := hw.2 c4
        exact u_X11_first_22 X hn σ1   _ (lv_sub hl [] rfl) hw
set_option maxRecDepth 100000 in
theorem c_X11_first (l : Launch) (base : Nat) (D : va_G) (cA : Nat → ClassId) (n : Nat) (hn : 214 ≤ n) (σ : ml_St) (x1 : Int) (x2 : Int) (h_x1 : I32 x1) (h_x2 : I64 x2) (Q : Int → ml_St → Prop) (hw : f_X11_first σ x1 x2 Q) : Met l yX11_first (Cond.code yX11_first cX11_first 4 (some .long) :: ml_T) rm_X11_first (va_Pc [.ref (base + (1 : Int).toNat), .int (Int32.ofInt x1), .long (Int64.ofInt x2)] (ml_U base D cA n σ)) (ml_Ql base D cA n Q) 0 0 (ml_A base) := by
  refine Met.ofW (cc := cX11_first) (maxL := 4) (ret := (some .long)) (by decide) rfl ?_
  intro p e s m args below meth c s₁ B hml hv
  obtain ⟨rfl, hP, hK, hok, hro⟩ := hv
  have X : ml_X p s m c meth _ D cA cX11_first 4 RX11 (some .long) := ⟨B.exec, B.bytes, hml, findClass_of_methodNamed B.named, fun w hw => atoms_spec (ws := Cond.code yX11_first cX11_first 4 (some .long) :: ml_T) B.pre w (List.mem_cons_of_mem _ hw), hK, B.notSynchronized, B.returns⟩
  have hl := lv_entry [.ref (base + (1 : Int).toNat), .int (Int32.ofInt x1), .long (Int64.ofInt x2)] (n := 4) (Nat.le_of_ble_eq_true rfl)
  rw [lg_entry_eq]
  generalize (lg_sl [.ref (base + (1 : Int).toNat), .int (Int32.ofInt x1), .long (Int64.ofInt x2)] ++ List.replicate (4 - (lg_sl [.ref (base + (1 : Int).toNat), .int (Int32.ofInt x1), .long (Int64.ofInt x2)]).length) Slot.unset).toArray = ls at hl ⊢
  have hl : lv_has ls 4 [(0, .ref (base + (1 : Int).toNat)), (1, .int (Int32.ofInt x1)), (2, .long (Int64.ofInt x2))] := hl
  unfold f_X11_first at hw
  exact u_X11_first_0 X hn σ x1 x2 h_x1 h_x2 _ (lv_sub hl [0, 1, 2] rfl) hw s.heap [] hP va_S.rf hok hro
theorem dX11_both_0 : decode cX11_both 0 = .ok (.aload_n 0, 1) := by decide +kernel
theorem dX11_both_1 : decode cX11_both 1 = .ok (.iload_n 1, 1) := by decide +kernel
theorem dX11_both_2 : decode cX11_both 2 = .ok (.invokevirtual 121, 3) := by decide +kernel
theorem dX11_both_5 : decode cX11_both 5 = .ok (.ifCond .eq 11, 3) := by decide +kernel
theorem dX11_both_8 : decode cX11_both 8 = .ok (.aload_n 0, 1) := by decide +kernel
theorem dX11_both_9 : decode cX11_both 9 = .ok (.iload_n 2, 1) := by decide +kernel
theorem dX11_both_10 : decode cX11_both 10 = .ok (.invokevirtual 121, 3) := by decide +kernel
theorem dX11_both_13 : decode cX11_both 13 = .ok (.ifCond .ne 5, 3) := by decide +kernel
theorem dX11_both_16 : decode cX11_both 16 = .ok (.iconst (-1), 1) := by decide +kernel
theorem dX11_both_17 : decode cX11_both 17 = .ok (.ireturn, 1) := by decide +kernel
theorem dX11_both_18 : decode cX11_both 18 = .ok (.aload_n 0, 1) := by decide +kernel
theorem dX11_both_19 : decode cX11_both 19 = .ok (.getfield 67, 3) := by decide +kernel
theorem dX11_both_22 : decode cX11_both 22 = .ok (.iload_n 1, 1) := by decide +kernel
theorem dX11_both_23 : decode cX11_both 23 = .ok (.aaload, 1) := by decide +kernel
theorem dX11_both_24 : decode cX11_both 24 = .ok (.getfield 112, 3) := by decide +kernel
theorem dX11_both_27 : decode cX11_both 27 = .ok (.astore 4, 2) := by decide +kernel
theorem dX11_both_29 : decode cX11_both 29 = .ok (.aload_n 0, 1) := by decide +kernel
theorem dX11_both_30 : decode cX11_both 30 = .ok (.getfield 67, 3) := by decide +kernel
theorem dX11_both_33 : decode cX11_both 33 = .ok (.iload_n 2, 1) := by decide +kernel
theorem dX11_both_34 : decode cX11_both 34 = .ok (.aaload, 1) := by decide +kernel
theorem dX11_both_35 : decode cX11_both 35 = .ok (.getfield 112, 3) := by decide +kernel
theorem dX11_both_38 : decode cX11_both 38 = .ok (.astore 5, 2) := by decide +kernel
theorem dX11_both_40 : decode cX11_both 40 = .ok (.iload_n 3, 1) := by decide +kernel
theorem dX11_both_41 : decode cX11_both 41 = .ok (.tableswitch 123 0 3 #[31, 51, 75, 99], 31) := by decide +kernel
theorem dX11_both_72 : decode cX11_both 72 = .ok (.aload 4, 2) := by decide +kernel
theorem dX11_both_74 : decode cX11_both 74 = .ok (.aload 5, 2) := by decide +kernel
theorem dX11_both_76 : decode cX11_both 76 = .ok (.aload_n 0, 1) := by decide +kernel
theorem dX11_both_77 : decode cX11_both 77 = .ok (.getfield 82, 3) := by decide +kernel
theorem dX11_both_80 : decode cX11_both 80 = .ok (.invokevirtual 191, 3) := by decide +kernel
theorem dX11_both_83 : decode cX11_both 83 = .ok (.ifCond .eq 7, 3) := by decide +kernel
theorem dX11_both_86 : decode cX11_both 86 = .ok (.iconst 1, 1) := by decide +kernel
theorem dX11_both_87 : decode cX11_both 87 = .ok (.goto 4, 3) := by decide +kernel
theorem dX11_both_90 : decode cX11_both 90 = .ok (.iconst 0, 1) := by decide +kernel
theorem dX11_both_91 : decode cX11_both 91 = .ok (.ireturn, 1) := by decide +kernel
theorem dX11_both_92 : decode cX11_both 92 = .ok (.aload_n 0, 1) := by decide +kernel
theorem dX11_both_93 : decode cX11_both 93 = .ok (.getfield 33, 3) := by decide +kernel
theorem dX11_both_96 : decode cX11_both 96 = .ok (.aload 4, 2) := by decide +kernel
theorem dX11_both_98 : decode cX11_both 98 = .ok (.aload 5, 2) := by decide +kernel
theorem dX11_both_100 : decode cX11_both 100 = .ok (.aload_n 0, 1) := by decide +kernel
theorem dX11_both_101 : decode cX11_both 101 = .ok (.getfield 82, 3) := by decide +kernel
theorem dX11_both_104 : decode cX11_both 104 = .ok (.invokevirtual 195, 3) := by decide +kernel
theorem dX11_both_107 : decode cX11_both 107 = .ok (.ifCond .eq 7, 3) := by decide +kernel
theorem dX11_both_110 : decode cX11_both 110 = .ok (.iconst 1, 1) := by decide +kernel
theorem dX11_both_111 : decode cX11_both 111 = .ok (.goto 4, 3) := by decide +kernel
theorem dX11_both_114 : decode cX11_both 114 = .ok (.iconst 0, 1) := by decide +kernel
theorem dX11_both_115 : decode cX11_both 115 = .ok (.ireturn, 1) := by decide +kernel
theorem dX11_both_116 : decode cX11_both 116 = .ok (.aload_n 0, 1) := by decide +kernel
theorem dX11_both_117 : decode cX11_both 117 = .ok (.getfield 33, 3) := by decide +kernel
theorem dX11_both_120 : decode cX11_both 120 = .ok (.aload 4, 2) := by decide +kernel
theorem dX11_both_122 : decode cX11_both 122 = .ok (.aload 5, 2) := by decide +kernel
theorem dX11_both_124 : decode cX11_both 124 = .ok (.aload_n 0, 1) := by decide +kernel
theorem dX11_both_125 : decode cX11_both 125 = .ok (.getfield 82, 3) := by decide +kernel
theorem dX11_both_128 : decode cX11_both 128 = .ok (.invokevirtual 199, 3) := by decide +kernel
theorem dX11_both_131 : decode cX11_both 131 = .ok (.ifCond .eq 7, 3) := by decide +kernel
theorem dX11_both_134 : decode cX11_both 134 = .ok (.iconst 1, 1) := by decide +kernel
theorem dX11_both_135 : decode cX11_both 135 = .ok (.goto 4, 3) := by decide +kernel
theorem dX11_both_138 : decode cX11_both 138 = .ok (.iconst 0, 1) := by decide +kernel
theorem dX11_both_139 : decode cX11_both 139 = .ok (.ireturn, 1) := by decide +kernel
theorem dX11_both_140 : decode cX11_both 140 = .ok (.aload_n 0, 1) := by decide +kernel
theorem dX11_both_141 : decode cX11_both 141 = .ok (.getfield 33, 3) := by decide +kernel
theorem dX11_both_144 : decode cX11_both 144 = .ok (.aload 4, 2) := by decide +kernel
theorem dX11_both_146 : decode cX11_both 146 = .ok (.aload 5, 2) := by decide +kernel
theorem dX11_both_148 : decode cX11_both 148 = .ok (.aload_n 0, 1) := by decide +kernel
theorem dX11_both_149 : decode cX11_both 149 = .ok (.getfield 82, 3) := by decide +kernel
theorem dX11_both_152 : decode cX11_both 152 = .ok (.invokevirtual 202, 3) := by decide +kernel
theorem dX11_both_155 : decode cX11_both 155 = .ok (.ifCond .eq 7, 3) := by decide +kernel
theorem dX11_both_158 : decode cX11_both 158 = .ok (.iconst 1, 1) := by decide +kernel
theorem dX11_both_159 : decode cX11_both 159 = .ok (.goto 4, 3) := by decide +kernel
theorem dX11_both_162 : decode cX11_both 162 = .ok (.iconst 0, 1) := by decide +kernel
theorem dX11_both_163 : decode cX11_both 163 = .ok (.ireturn, 1) := by decide +kernel
theorem dX11_both_164 : decode cX11_both 164 = .ok (.iconst (-1), 1) := by decide +kernel
theorem dX11_both_165 : decode cX11_both 165 = .ok (.ireturn, 1) := by decide +kernel
def f_X11_both_u16 (Q : Int → ml_St → Prop) (σ : ml_St) : Prop :=
Q (-1) σ
def f_X11_both_u91 (Q : Int → ml_St → Prop) (σ : ml_St) (s0 : Int) : Prop :=
Q s0 σ
def f_X11_both_u115 (Q : Int → ml_St → Prop) (σ : ml_St) (s0 : Int) : Prop :=
Q s0 σ
def f_X11_both_u139 (Q : Int → ml_St → Prop) (σ : ml_St) (s0 : Int) : Prop :=
Q s0 σ
def f_X11_both_u163 (Q : Int → ml_St → Prop) (σ : ml_St) (s0 : Int) : Prop :=
Q s0 σ
def f_X11_both_u0 (Q : Int → ml_St → Prop) (σ : ml_St) (x1 : Int) (x2 : Int) (x3 : Int) : Prop :=
f_X11_isMade σ x1 (fun r1 σ1 => ∀ _ : ml_B r1,
(r1 = 0 →
f_X11_both_u16 Q σ1) ∧
(r1 ≠ 0 →
f_X11_isMade σ1 x2 (fun r3 σ3 => ∀ _ : ml_B r3,
(r3 ≠ 0 →
(0 : Int) ≤ x1 ∧ (x1 : Int) < 16 ∧
(0 : Int) ≤ x2 ∧ (x2 : Int) < 16 ∧
(x3 = 0 →
∀ _ : I32 (σ3 1 11),
False) ∧
(x3 = 1 →
∀ _ : I32 (σ3 1 11),
False) ∧
(x3 = 2 →
∀ _ : I32 (σ3 1 11),
False) ∧
(x3 = 3 →
∀ _ : I32 (σ3 1 11),
False) ∧
(x3 < 0 ∨ 3 < x3 →
Q (-1) σ3)) ∧
(r3 = 0 →
f_X11_both_u16 Q σ3))))
def f_X11_both (σ : ml_St) (x1 : Int) (x2 : Int) (x3 : Int) (Q : Int → ml_St → Prop) : Prop := f_X11_both_u0 Q σ x1 x2 x3
def rm_X11_both : Room := { frames := 2, cells := 0, slots := 0, locals := 42 }
set_option maxRecDepth 100000 in
set_option maxHeartbeats 4000000 in
theorem u_X11_both_16 {p : Program} {e : Env} {s : State} {m : MethodId} {args : Array Value} {below : List Frame} {meth : Method} {c : Code} {base : Nat} {D : va_G} {cA : Nat → ClassId} {n : Nat} {l : Launch} {Q : Int → ml_St → Prop} (X : ml_X p s m c meth args D cA cX11_both 6 RX11 (some .int)) (hn : 214 ≤ n) (σ : ml_St) (ls : Array Slot) (hl : lv_has ls 6 []) (hw : f_X11_both_u16 Q σ) : ml_V p l e rm_X11_both s m args below meth c (MQ below (ml_Qi I32 base D cA n Q) args s 0 0 (ml_A base)) base D cA 0 0 n n σ (F0 m 16 ls []) := by
  unfold f_X11_both_u16 at hw
  refine ml_iconst (pc := 16) X dX11_both_16 ?_
  exact ml_iret (pc := 17) X ⟨by decide, by decide⟩ hw dX11_both_17
set_option maxRecDepth 100000 in
set_option maxHeartbeats 4000000 in
theorem u_X11_both_91 {p : Program} {e : Env} {s : State} {m : MethodId} {args : Array Value} {below : List Frame} {meth : Method} {c : Code} {base : Nat} {D : va_G} {cA : Nat → ClassId} {n : Nat} {l : Launch} {Q : Int → ml_St → Prop} (X : ml_X p s m c meth args D cA cX11_both 6 RX11 (some .int)) (hn : 214 ≤ n) (σ : ml_St) (s0 : Int) (h_s0 : ml_B s0) (ls : Array Slot) (hl : lv_has ls 6 []) (hw : f_X11_both_u91 Q σ s0) : ml_V p l e rm_X11_both s m args below meth c (MQ below (ml_Qi I32 base D cA n Q) args s 0 0 (ml_A base)) base D cA 0 0 n n σ (F0 m 91 ls [.int (Int32.ofInt s0)]) := by
  unfold f_X11_both_u91 at hw
  exact ml_iret (pc := 91) X h_s0.i hw dX11_both_91
set_option maxRecDepth 100000 in
set_option maxHeartbeats 4000000 in
theorem u_X11_both_115 {p : Program} {e : Env} {s : State} {m : MethodId} {args : Array Value} {below : List Frame} {meth : Method} {c : Code} {base : Nat} {D : va_G} {cA : Nat → ClassId} {n : Nat} {l : Launch} {Q : Int → ml_St → Prop} (X : ml_X p s m c meth args D cA cX11_both 6 RX11 (some .int)) (hn : 214 ≤ n) (σ : ml_St) (s0 : Int) (h_s0 : ml_B s0) (ls : Array Slot) (hl : lv_has ls 6 []) (hw : f_X11_both_u115 Q σ s0) : ml_V p l e rm_X11_both s m args below meth c (MQ below (ml_Qi I32 base D cA n Q) args s 0 0 (ml_A base)) base D cA 0 0 n n σ (F0 m 115 ls [.int (Int32.ofInt s0)]) := by
  unfold f_X11_both_u115 at hw
  exact ml_iret (pc := 115) X h_s0.i hw dX11_both_115
set_option maxRecDepth 100000 in
set_option maxHeartbeats 4000000 in
theorem u_X11_both_139 {p : Program} {e : Env} {s : State} {m : MethodId} {args : Array Value} {below : List Frame} {meth : Method} {c : Code} {base : Nat} {D : va_G} {cA : Nat → ClassId} {n : Nat} {l : Launch} {Q : Int → ml_St → Prop} (X : ml_X p s m c meth args D cA cX11_both 6 RX11 (some .int)) (hn : 214 ≤ n) (σ : ml_St) (s0 : Int) (h_s0 : ml_B s0) (ls : Array Slot) (hl : lv_has ls 6 []) (hw : f_X11_both_u139 Q σ s0) : ml_V p l e rm_X11_both s m args below meth c (MQ below (ml_Qi I32 base D cA n Q) args s 0 0 (ml_A base)) base D cA 0 0 n n σ (F0 m 139 ls [.int (Int32.ofInt s0)]) := by
  unfold f_X11_both_u139 at hw
  exact ml_iret (pc := 139) X h_s0.i hw dX11_both_139
set_option maxRecDepth 100000 in
set_option maxHeartbeats 4000000 in
theorem u_X11_both_163 {p : Program} {e : Env} {s : State} {m : MethodId} {args : Array Value} {below : List Frame} {meth : Method} {c : Code} {base : Nat} {D : va_G} {cA : Nat → ClassId} {n : Nat} {l : Launch} {Q : Int → ml_St → Prop} (X : ml_X p s m c meth args D cA cX11_both 6 RX11 (some .int)) (hn : 214 ≤ n) (σ : ml_St) (s0 : Int) (h_s0 : ml_B s0) (ls : Array Slot) (hl : lv_has ls 6 []) (hw : f_X11_both_u163 Q σ s0) : ml_V p l e rm_X11_both s m args below meth c (MQ below (ml_Qi I32 base D cA n Q) args s 0 0 (ml_A base)) base D cA 0 0 n n σ (F0 m 163 ls [.int (Int32.ofInt s0)]) := by
  unfold f_X11_both_u163 at hw
  exact ml_iret (pc := 163) X h_s0.i hw dX11_both_163
set_option maxRecDepth 100000 in
set_option maxHeartbeats 4000000 in
theorem u_X11_both_0 {p : Program} {e : Env} {s : State} {m : MethodId} {args : Array Value} {below : List Frame} {meth : Method} {c : Code} {base : Nat} {D : va_G} {cA : Nat → ClassId} {n : Nat} {l : Launch} {Q : Int → ml_St → Prop} (X : ml_X p s m c meth args D cA cX11_both 6 RX11 (some .int)) (hn : 214 ≤ n) (σ : ml_St) (x1 : Int) (x2 : Int) (x3 : Int) (h_x1 : I32 x1) (h_x2 : I32 x2) (h_x3 : I32 x3) (ls : Array Slot) (hl : lv_has ls 6 [(0, .ref (base + (1 : Int).toNat)), (1, .int (Int32.ofInt x1)), (2, .int (Int32.ofInt x2)), (3, .int (Int32.ofInt x3))]) (hw : f_X11_both_u0 Q σ x1 x2 x3) : ml_V p l e rm_X11_both s m args below meth c (MQ below (ml_Qi I32 base D cA n Q) args s 0 0 (ml_A base)) base D cA 0 0 n n σ (F0 m 0 ls []) := by
  unfold f_X11_both_u0 at hw
  refine ml_aload_n (pc := 0) X hl 0 rfl rfl dX11_both_0 ?_
  refine ml_iload_n (pc := 1) X hl 1 rfl rfl dX11_both_1 ?_
  refine ml_callzV (pc := 2) (rest := []) X [.int (Int32.ofInt x1)] (by decide) rfl (ml_c1 hn) (c_X11_isMade l base D cA n hn σ x1 h_x1 _ hw) cv_X11_121 ⟨rfl, rfl⟩ ⟨by decide, by decide⟩ rfl rfl hl (Nat.le_of_ble_eq_true rfl) ⟨Nat.zero_le _, Nat.zero_le _⟩ dX11_both_2 (fun r1 σ1 t1 hw => ?_)
  have hw := hw t1
  refine ml_if_eq (pc := 5) (tgt := 16) X t1.i dX11_both_5 (by decide) (fun c2 => ?_) (fun c2 => ?_)
  · have hw := hw.1 c2
    exact u_X11_both_16 X hn σ1   _ (lv_sub hl [] rfl) hw
  · have hw := hw.2 c2
    refine ml_aload_n (pc := 8) X hl 0 rfl rfl dX11_both_8 ?_
    refine ml_iload_n (pc := 9) X hl 2 rfl rfl dX11_both_9 ?_
    refine ml_callzV (pc := 10) (rest := []) X [.int (Int32.ofInt x2)] (by decide) rfl (ml_c1 hn) (c_X11_isMade l base D cA n hn σ1 x2 h_x2 _ hw) cv_X11_121 ⟨rfl, rfl⟩ ⟨by decide, by decide⟩ rfl rfl hl (Nat.le_of_ble_eq_true rfl) ⟨Nat.zero_le _, Nat.zero_le _⟩ dX11_both_10 (fun r3 σ3 t3 hw => ?_)
    have hw := hw t3
    refine ml_if_ne (pc := 13) (tgt := 18) X t3.i dX11_both_13 (by decide) (fun c4 => ?_) (fun c4 => ?_)
    · have hw := hw.1 c4
      refine ml_aload_n (pc := 18) X hl 0 rfl rfl dX11_both_18 ?_
      refine gf_X11_67 (pc := 19) X (ml_c1 hn) dX11_both_19 ?_
      refine ml_iload_n (pc := 22) X hl 1 rfl rfl dX11_both_22 ?_
      obtain ⟨a5, b5, hw⟩ := hw
      refine ml_aald_words (pc := 23) X hn a5 b5 dX11_both_23 ?_
      refine gf_X11_112 (pc := 24) X (ml_at_words hn a5 b5) dX11_both_24 ?_
      refine ml_astore (pc := 27) X hl (by decide) (lst' := [(4, .ref (base + (((119 + 6 * x1) + 2) : Int).toNat)), (0, .ref (base + (1 : Int).toNat)), (1, .int (Int32.ofInt x1)), (2, .int (Int32.ofInt x2)), (3, .int (Int32.ofInt x3))]) rfl dX11_both_27 (fun ls hl => ?_)
      refine ml_aload_n (pc := 29) X hl 1 rfl rfl dX11_both_29 ?_
      refine gf_X11_67 (pc := 30) X (ml_c1 hn) dX11_both_30 ?_
      refine ml_iload_n (pc := 33) X hl 3 rfl rfl dX11_both_33 ?_
      obtain ⟨a6, b6, hw⟩ := hw
      refine ml_aald_words (pc := 34) X hn a6 b6 dX11_both_34 ?_
      refine gf_X11_112 (pc := 35) X (ml_at_words hn a6 b6) dX11_both_35 ?_
      refine ml_astore (pc := 38) X hl (by decide) (lst' := [(5, .ref (base + (((119 + 6 * x2) + 2) : Int).toNat)), (4, .ref (base + (((119 + 6 * x1) + 2) : Int).toNat)), (0, .ref (base + (1 : Int).toNat)), (1, .int (Int32.ofInt x1)), (2, .int (Int32.ofInt x2)), (3, .int (Int32.ofInt x3))]) rfl dX11_both_38 (fun ls hl => ?_)
      refine ml_iload_n (pc := 40) X hl 5 rfl rfl dX11_both_40 ?_
      rcases (show x3 = 0 ∨ x3 = 1 ∨ x3 = 2 ∨ x3 = 3 ∨ (x3 < 0 ∨ 3 < x3) by omega) with c7 | c7 | c7 | c7 | c7
      · have hw := hw.1 c7
        refine ml_tIn (pc := 41) (off := 31) (tgt := 72) X c7 dX11_both_41 (by decide) (by decide) (by decide +kernel) (by decide) ?_
        refine ml_aload (pc := 72) X hl 1 rfl dX11_both_72 ?_
        refine ml_aload (pc := 74) X hl 0 rfl dX11_both_74 ?_
        refine ml_aload_n (pc := 76) X hl 2 rfl rfl dX11_both_76 ?_
        refine gf_X11_82 (pc := 77) X (ml_c1 hn) dX11_both_77 (fun r8 => ?_)
        have hw := hw r8
        exact hw.elim
      · have hw := hw.2.1 c7
        refine ml_tIn (pc := 41) (off := 51) (tgt := 92) X c7 dX11_both_41 (by decide) (by decide) (by decide +kernel) (by decide) ?_
        refine ml_aload_n (pc := 92) X hl 2 rfl rfl dX11_both_92 ?_
        refine gf_X11_33 (pc := 93) X (ml_c1 hn) dX11_both_93 ?_
        refine ml_aload (pc := 96) X hl 1 rfl dX11_both_96 ?_
        refine ml_aload (pc := 98) X hl 0 rfl dX11_both_98 ?_
        refine ml_aload_n (pc := 100) X hl 2 rfl rfl dX11_both_100 ?_
        refine gf_X11_82 (pc := 101) X (ml_c1 hn) dX11_both_101 (fun r9 => ?_)
        have hw := hw r9
        exact hw.elim
      · have hw := hw.2.2.1 c7
        refine ml_tIn (pc := 41) (off := 75) (tgt := 116) X c7 dX11_both_41 (by decide) (by decide) (by decide +kernel) (by decide) ?_
        refine ml_aload_n (pc := 116) X hl 2 rfl rfl dX11_both_116 ?_
        refine gf_X11_33 (pc := 117) X (ml_c1 hn) dX11_both_117 ?_
        refine ml_aload (pc := 120) X hl 1 rfl dX11_both_120 ?_
        refine ml_aload (pc := 122) X hl 0 rfl dX11_both_122 ?_
        refine ml_aload_n (pc := 124) X hl 2 rfl rfl dX11_both_124 ?_
        refine gf_X11_82 (pc := 125) X (ml_c1 hn) dX11_both_125 (fun r10 => ?_)
        have hw := hw r10
        exact hw.elim
      · have hw := hw.2.2.2.1 c7
        refine ml_tIn (pc := 41) (off := 99) (tgt := 140) X c7 dX11_both_41 (by decide) (by decide) (by decide +kernel) (by decide) ?_
        refine ml_aload_n (pc := 140) X hl 2 rfl rfl dX11_both_140 ?_
        refine gf_X11_33 (pc := 141) X (ml_c1 hn) dX11_both_141 ?_
        refine ml_aload (pc := 144) X hl 1 rfl dX11_both_144 ?_
        refine ml_aload (pc := 146) X hl 0 rfl dX11_both_146 ?_
        refine ml_aload_n (pc := 148) X hl 2 rfl rfl dX11_both_148 ?_
        refine gf_X11_82 (pc := 149) X (ml_c1 hn) dX11_both_149 (fun r11 => ?_)
        have hw := hw r11
        exact hw.elim
      · have hw := hw.2.2.2.2 c7
        refine ml_tOut (pc := 41) (tgt := 164) X h_x3 dX11_both_41 c7 (by decide) ?_
        refine ml_iconst (pc := 164) X dX11_both_164 ?_
        exact ml_iret (pc := 165) X ⟨by decide, by decide⟩ hw dX11_both_165
    · have hw := hw.2 c4
      exact u_X11_both_16 X hn σ3   _ (lv_sub hl [] rfl) hw
set_option maxRecDepth 100000 in
theorem c_X11_both (l : Launch) (base : Nat) (D : va_G) (cA : Nat → ClassId) (n : Nat) (hn : 214 ≤ n) (σ : ml_St) (x1 : Int) (x2 : Int) (x3 : Int) (h_x1 : I32 x1) (h_x2 : I32 x2) (h_x3 : I32 x3) (Q : Int → ml_St → Prop) (hw : f_X11_both σ x1 x2 x3 Q) : Met l yX11_both (Cond.code yX11_both cX11_both 6 (some .int) :: ml_T) rm_X11_both (va_Pc [.ref (base + (1 : Int).toNat), .int (Int32.ofInt x1), .int (Int32.ofInt x2), .int (Int32.ofInt x3)] (ml_U base D cA n σ)) (ml_Qi I32 base D cA n Q) 0 0 (ml_A base) := by
  refine Met.ofW (cc := cX11_both) (maxL := 6) (ret := (some .int)) (by decide) rfl ?_
  intro p e s m args below meth c s₁ B hml hv
  obtain ⟨rfl, hP, hK, hok, hro⟩ := hv
  have X : ml_X p s m c meth _ D cA cX11_both 6 RX11 (some .int) := ⟨B.exec, B.bytes, hml, findClass_of_methodNamed B.named, fun w hw => atoms_spec (ws := Cond.code yX11_both cX11_both 6 (some .int) :: ml_T) B.pre w (List.mem_cons_of_mem _ hw), hK, B.notSynchronized, B.returns⟩
  have hl := lv_entry [.ref (base + (1 : Int).toNat), .int (Int32.ofInt x1), .int (Int32.ofInt x2), .int (Int32.ofInt x3)] (n := 6) (Nat.le_of_ble_eq_true rfl)
  rw [lg_entry_eq]
  generalize (lg_sl [.ref (base + (1 : Int).toNat), .int (Int32.ofInt x1), .int (Int32.ofInt x2), .int (Int32.ofInt x3)] ++ List.replicate (6 - (lg_sl [.ref (base + (1 : Int).toNat), .int (Int32.ofInt x1), .int (Int32.ofInt x2), .int (Int32.ofInt x3)]).length) Slot.unset).toArray = ls at hl ⊢
  have hl : lv_has ls 6 [(0, .ref (base + (1 : Int).toNat)), (1, .int (Int32.ofInt x1)), (2, .int (Int32.ofInt x2)), (3, .int (Int32.ofInt x3))] := hl
  unfold f_X11_both at hw
  exact u_X11_both_0 X hn σ x1 x2 x3 h_x1 h_x2 h_x3 _ (lv_sub hl [0, 1, 2, 3] rfl) hw s.heap [] hP va_S.rf hok hro
theorem dX11_is_0 : decode cX11_is 0 = .ok (.aload_n 0, 1) := by decide +kernel
theorem dX11_is_1 : decode cX11_is 1 = .ok (.iload_n 1, 1) := by decide +kernel
theorem dX11_is_2 : decode cX11_is 2 = .ok (.invokevirtual 104, 3) := by decide +kernel
theorem dX11_is_5 : decode cX11_is 5 = .ok (.ifCond .ne 5, 3) := by decide +kernel
theorem dX11_is_8 : decode cX11_is 8 = .ok (.iconst (-1), 1) := by decide +kernel
theorem dX11_is_9 : decode cX11_is 9 = .ok (.ireturn, 1) := by decide +kernel
theorem dX11_is_10 : decode cX11_is 10 = .ok (.iload_n 2, 1) := by decide +kernel
theorem dX11_is_11 : decode cX11_is 11 = .ok (.tableswitch 110 0 3 #[29, 50, 71, 89], 29) := by decide +kernel
theorem dX11_is_40 : decode cX11_is 40 = .ok (.aload_n 0, 1) := by decide +kernel
theorem dX11_is_41 : decode cX11_is 41 = .ok (.getfield 67, 3) := by decide +kernel
theorem dX11_is_44 : decode cX11_is 44 = .ok (.iload_n 1, 1) := by decide +kernel
theorem dX11_is_45 : decode cX11_is 45 = .ok (.aaload, 1) := by decide +kernel
theorem dX11_is_46 : decode cX11_is 46 = .ok (.getfield 112, 3) := by decide +kernel
theorem dX11_is_49 : decode cX11_is 49 = .ok (.getfield 205, 3) := by decide +kernel
theorem dX11_is_52 : decode cX11_is 52 = .ok (.ifCond .eq 7, 3) := by decide +kernel
theorem dX11_is_55 : decode cX11_is 55 = .ok (.iconst 0, 1) := by decide +kernel
theorem dX11_is_56 : decode cX11_is 56 = .ok (.goto 4, 3) := by decide +kernel
theorem dX11_is_59 : decode cX11_is 59 = .ok (.iconst 1, 1) := by decide +kernel
theorem dX11_is_60 : decode cX11_is 60 = .ok (.ireturn, 1) := by decide +kernel
theorem dX11_is_61 : decode cX11_is 61 = .ok (.aload_n 0, 1) := by decide +kernel
theorem dX11_is_62 : decode cX11_is 62 = .ok (.getfield 67, 3) := by decide +kernel
theorem dX11_is_65 : decode cX11_is 65 = .ok (.iload_n 1, 1) := by decide +kernel
theorem dX11_is_66 : decode cX11_is 66 = .ok (.aaload, 1) := by decide +kernel
theorem dX11_is_67 : decode cX11_is 67 = .ok (.getfield 112, 3) := by decide +kernel
theorem dX11_is_70 : decode cX11_is 70 = .ok (.getfield 209, 3) := by decide +kernel
theorem dX11_is_73 : decode cX11_is 73 = .ok (.ifCond .eq 7, 3) := by decide +kernel
theorem dX11_is_76 : decode cX11_is 76 = .ok (.iconst 0, 1) := by decide +kernel
theorem dX11_is_77 : decode cX11_is 77 = .ok (.goto 4, 3) := by decide +kernel
theorem dX11_is_80 : decode cX11_is 80 = .ok (.iconst 1, 1) := by decide +kernel
theorem dX11_is_81 : decode cX11_is 81 = .ok (.ireturn, 1) := by decide +kernel
theorem dX11_is_82 : decode cX11_is 82 = .ok (.aload_n 0, 1) := by decide +kernel
theorem dX11_is_83 : decode cX11_is 83 = .ok (.getfield 67, 3) := by decide +kernel
theorem dX11_is_86 : decode cX11_is 86 = .ok (.iload_n 1, 1) := by decide +kernel
theorem dX11_is_87 : decode cX11_is 87 = .ok (.aaload, 1) := by decide +kernel
theorem dX11_is_88 : decode cX11_is 88 = .ok (.getfield 212, 3) := by decide +kernel
theorem dX11_is_91 : decode cX11_is 91 = .ok (.ifCond .eq 7, 3) := by decide +kernel
theorem dX11_is_94 : decode cX11_is 94 = .ok (.iconst 1, 1) := by decide +kernel
theorem dX11_is_95 : decode cX11_is 95 = .ok (.goto 4, 3) := by decide +kernel
theorem dX11_is_98 : decode cX11_is 98 = .ok (.iconst 0, 1) := by decide +kernel
theorem dX11_is_99 : decode cX11_is 99 = .ok (.ireturn, 1) := by decide +kernel
theorem dX11_is_100 : decode cX11_is 100 = .ok (.aload_n 0, 1) := by decide +kernel
theorem dX11_is_101 : decode cX11_is 101 = .ok (.getfield 67, 3) := by decide +kernel
theorem dX11_is_104 : decode cX11_is 104 = .ok (.iload_n 1, 1) := by decide +kernel
theorem dX11_is_105 : decode cX11_is 105 = .ok (.aaload, 1) := by decide +kernel
theorem dX11_is_106 : decode cX11_is 106 = .ok (.getfield 112, 3) := by decide +kernel
theorem dX11_is_109 : decode cX11_is 109 = .ok (.invokevirtual 215, 3) := by decide +kernel
theorem dX11_is_112 : decode cX11_is 112 = .ok (.ifCond .eq 7, 3) := by decide +kernel
theorem dX11_is_115 : decode cX11_is 115 = .ok (.iconst 1, 1) := by decide +kernel
theorem dX11_is_116 : decode cX11_is 116 = .ok (.goto 4, 3) := by decide +kernel
theorem dX11_is_119 : decode cX11_is 119 = .ok (.iconst 0, 1) := by decide +kernel
theorem dX11_is_120 : decode cX11_is 120 = .ok (.ireturn, 1) := by decide +kernel
theorem dX11_is_121 : decode cX11_is 121 = .ok (.iconst (-1), 1) := by decide +kernel
theorem dX11_is_122 : decode cX11_is 122 = .ok (.ireturn, 1) := by decide +kernel
def f_X11_is_u60 (Q : Int → ml_St → Prop) (σ : ml_St) (s0 : Int) : Prop :=
Q s0 σ
def f_X11_is_u81 (Q : Int → ml_St → Prop) (σ : ml_St) (s0 : Int) : Prop :=
Q s0 σ
def f_X11_is_u99 (Q : Int → ml_St → Prop) (σ : ml_St) (s0 : Int) : Prop :=
Q s0 σ
def f_X11_is_u120 (Q : Int → ml_St → Prop) (σ : ml_St) (s0 : Int) : Prop :=
Q s0 σ
def f_X11_is_u0 (Q : Int → ml_St → Prop) (σ : ml_St) (x1 : Int) (x2 : Int) : Prop :=
f_X11_isTold σ x1 (fun r1 σ1 => ∀ _ : ml_B r1,
(r1 ≠ 0 →
(x2 = 0 →
(0 : Int) ≤ x1 ∧ (x1 : Int) < 16 ∧
∀ _ : ml_B (σ1 ((119 + 6 * x1) + 2) 6),
(((σ1 ((119 + 6 * x1) + 2) 6) : Int) = 0 →
f_X11_is_u60 Q σ1 1) ∧
((σ1 ((119 + 6 * x1) + 2) 6) ≠ 0 →
f_X11_is_u60 Q σ1 0)) ∧
(x2 = 1 →
(0 : Int) ≤ x1 ∧ (x1 : Int) < 16 ∧
∀ _ : ml_B (σ1 ((119 + 6 * x1) + 2) 7),
(((σ1 ((119 + 6 * x1) + 2) 7) : Int) = 0 →
f_X11_is_u81 Q σ1 1) ∧
((σ1 ((119 + 6 * x1) + 2) 7) ≠ 0 →
f_X11_is_u81 Q σ1 0)) ∧
(x2 = 2 →
(0 : Int) ≤ x1 ∧ (x1 : Int) < 16 ∧
∀ _ : ml_B (σ1 (119 + 6 * x1) 2),
(((σ1 (119 + 6 * x1) 2) : Int) = 0 →
f_X11_is_u99 Q σ1 0) ∧
((σ1 (119 + 6 * x1) 2) ≠ 0 →
f_X11_is_u99 Q σ1 1)) ∧
(x2 = 3 →
(0 : Int) ≤ x1 ∧ (x1 : Int) < 16 ∧
False) ∧
(x2 < 0 ∨ 3 < x2 →
Q (-1) σ1)) ∧
(r1 = 0 →
Q (-1) σ1))
def f_X11_is (σ : ml_St) (x1 : Int) (x2 : Int) (Q : Int → ml_St → Prop) : Prop := f_X11_is_u0 Q σ x1 x2
def rm_X11_is : Room := { frames := 1, cells := 0, slots := 0, locals := 21 }
set_option maxRecDepth 100000 in
set_option maxHeartbeats 4000000 in
theorem u_X11_is_60 {p : Program} {e : Env} {s : State} {m : MethodId} {args : Array Value} {below : List Frame} {meth : Method} {c : Code} {base : Nat} {D : va_G} {cA : Nat → ClassId} {n : Nat} {l : Launch} {Q : Int → ml_St → Prop} (X : ml_X p s m c meth args D cA cX11_is 3 RX11 (some .int)) (hn : 214 ≤ n) (σ : ml_St) (s0 : Int) (h_s0 : ml_B s0) (ls : Array Slot) (hl : lv_has ls 3 []) (hw : f_X11_is_u60 Q σ s0) : ml_V p l e rm_X11_is s m args below meth c (MQ below (ml_Qi I32 base D cA n Q) args s 0 0 (ml_A base)) base D cA 0 0 n n σ (F0 m 60 ls [.int (Int32.ofInt s0)]) := by
  unfold f_X11_is_u60 at hw
  exact ml_iret (pc := 60) X h_s0.i hw dX11_is_60
set_option maxRecDepth 100000 in
set_option maxHeartbeats 4000000 in
theorem u_X11_is_81 {p : Program} {e : Env} {s : State} {m : MethodId} {args : Array Value} {below : List Frame} {meth : Method} {c : Code} {base : Nat} {D : va_G} {cA : Nat → ClassId} {n : Nat} {l : Launch} {Q : Int → ml_St → Prop} (X : ml_X p s m c meth args D cA cX11_is 3 RX11 (some .int)) (hn : 214 ≤ n) (σ : ml_St) (s0 : Int) (h_s0 : ml_B s0) (ls : Array Slot) (hl : lv_has ls 3 []) (hw : f_X11_is_u81 Q σ s0) : ml_V p l e rm_X11_is s m args below meth c (MQ below (ml_Qi I32 base D cA n Q) args s 0 0 (ml_A base)) base D cA 0 0 n n σ (F0 m 81 ls [.int (Int32.ofInt s0)]) := by
  unfold f_X11_is_u81 at hw
  exact ml_iret (pc := 81) X h_s0.i hw dX11_is_81
set_option maxRecDepth 100000 in
set_option maxHeartbeats 4000000 in
theorem u_X11_is_99 {p : Program} {e : Env} {s : State} {m : MethodId} {args : Array Value} {below : List Frame} {meth : Method} {c : Code} {base : Nat} {D : va_G} {cA : Nat → ClassId} {n : Nat} {l : Launch} {Q : Int → ml_St → Prop} (X : ml_X p s m c meth args D cA cX11_is 3 RX11 (some .int)) (hn : 214 ≤ n) (σ : ml_St) (s0 : Int) (h_s0 : ml_B s0) (ls : Array Slot) (hl : lv_has ls 3 []) (hw : f_X11_is_u99 Q σ s0) : ml_V p l e rm_X11_is s m args below meth c (MQ below (ml_Qi I32 base D cA n Q) args s 0 0 (ml_A base)) base D cA 0 0 n n σ (F0 m 99 ls [.int (Int32.ofInt s0)]) := by
  unfold f_X11_is_u99 at hw
  exact ml_iret (pc := 99) X h_s0.i hw dX11_is_99
set_option maxRecDepth 100000 in
set_option maxHeartbeats 4000000 in
theorem u_X11_is_120 {p : Program} {e : Env} {s : State} {m : MethodId} {args : Array Value} {below : List Frame} {meth : Method} {c : Code} {base : Nat} {D : va_G} {cA : Nat → ClassId} {n : Nat} {l : Launch} {Q : Int → ml_St → Prop} (X : ml_X p s m c meth args D cA cX11_is 3 RX11 (some .int)) (hn : 214 ≤ n) (σ : ml_St) (s0 : Int) (h_s0 : ml_B s0) (ls : Array Slot) (hl : lv_has ls 3 []) (hw : f_X11_is_u120 Q σ s0) : ml_V p l e rm_X11_is s m args below meth c (MQ below (ml_Qi I32 base D cA n Q) args s 0 0 (ml_A base)) base D cA 0 0 n n σ (F0 m 120 ls [.int (Int32.ofInt s0)]) := by
  unfold f_X11_is_u120 at hw
  exact ml_iret (pc := 120) X h_s0.i hw dX11_is_120
set_option maxRecDepth 100000 in
set_option maxHeartbeats 4000000 in
theorem u_X11_is_0 {p : Program} {e : Env} {s : State} {m : MethodId} {args : Array Value} {below : List Frame} {meth : Method} {c : Code} {base : Nat} {D : va_G} {cA : Nat → ClassId} {n : Nat} {l : Launch} {Q : Int → ml_St → Prop} (X : ml_X p s m c meth args D cA cX11_is 3 RX11 (some .int)) (hn : 214 ≤ n) (σ : ml_St) (x1 : Int) (x2 : Int) (h_x1 : I32 x1) (h_x2 : I32 x2) (ls : Array Slot) (hl : lv_has ls 3 [(0, .ref (base + (1 : Int).toNat)), (1, .int (Int32.ofInt x1)), (2, .int (Int32.ofInt x2))]) (hw : f_X11_is_u0 Q σ x1 x2) : ml_V p l e rm_X11_is s m args below meth c (MQ below (ml_Qi I32 base D cA n Q) args s 0 0 (ml_A base)) base D cA 0 0 n n σ (F0 m 0 ls []) := by
  unfold f_X11_is_u0 at hw
  refine ml_aload_n (pc := 0) X hl 0 rfl rfl dX11_is_0 ?_
  refine ml_iload_n (pc := 1) X hl 1 rfl rfl dX11_is_1 ?_
  refine ml_callzV (pc := 2) (rest := []) X [.int (Int32.ofInt x1)] (by decide) rfl (ml_c1 hn) (c_X11_isTold l base D cA n hn σ x1 h_x1 _ hw) cv_X11_104 ⟨rfl, rfl⟩ ⟨by decide, by decide⟩ rfl rfl hl (Nat.le_of_ble_eq_true rfl) ⟨Nat.zero_le _, Nat.zero_le _⟩ dX11_is_2 (fun r1 σ1 t1 hw => ?_)
  have hw := hw t1
  refine ml_if_ne (pc := 5) (tgt := 10) X t1.i dX11_is_5 (by decide) (fun c2 => ?_) (fun c2 => ?_)
  · have hw := hw.1 c2
    refine ml_iload_n (pc := 10) X hl 2 rfl rfl dX11_is_10 ?_
    rcases (show x2 = 0 ∨ x2 = 1 ∨ x2 = 2 ∨ x2 = 3 ∨ (x2 < 0 ∨ 3 < x2) by omega) with c3 | c3 | c3 | c3 | c3
    · have hw := hw.1 c3
      refine ml_tIn (pc := 11) (off := 29) (tgt := 40) X c3 dX11_is_11 (by decide) (by decide) (by decide +kernel) (by decide) ?_
      refine ml_aload_n (pc := 40) X hl 0 rfl rfl dX11_is_40 ?_
      refine gf_X11_67 (pc := 41) X (ml_c1 hn) dX11_is_41 ?_
      refine ml_iload_n (pc := 44) X hl 1 rfl rfl dX11_is_44 ?_
      obtain ⟨a4, b4, hw⟩ := hw
      refine ml_aald_words (pc := 45) X hn a4 b4 dX11_is_45 ?_
      refine gf_X11_112 (pc := 46) X (ml_at_words hn a4 b4) dX11_is_46 ?_
      refine gf_X11_205 (pc := 49) X (ml_r20_2 hn (ml_at_words hn a4 b4)) dX11_is_49 (fun r5 => ?_)
      have hw := hw r5
      refine ml_if_eq (pc := 52) (tgt := 59) X r5.i dX11_is_52 (by decide) (fun c6 => ?_) (fun c6 => ?_)
      · have hw := hw.1 c6
        refine ml_iconst (pc := 59) X dX11_is_59 ?_
        exact u_X11_is_60 X hn σ1 1 ⟨by decide, by decide⟩ _ (lv_sub hl [] rfl) hw
      · have hw := hw.2 c6
        refine ml_iconst (pc := 55) X dX11_is_55 ?_
        refine ml_goto (pc := 56) (tgt := 60) X dX11_is_56 (by decide) ?_
        exact u_X11_is_60 X hn σ1 0 ⟨by decide, by decide⟩ _ (lv_sub hl [] rfl) hw
    · have hw := hw.2.1 c3
      refine ml_tIn (pc := 11) (off := 50) (tgt := 61) X c3 dX11_is_11 (by decide) (by decide) (by decide +kernel) (by decide) ?_
      refine ml_aload_n (pc := 61) X hl 0 rfl rfl dX11_is_61 ?_
      refine gf_X11_67 (pc := 62) X (ml_c1 hn) dX11_is_62 ?_
      refine ml_iload_n (pc := 65) X hl 1 rfl rfl dX11_is_65 ?_
      obtain ⟨a7, b7, hw⟩ := hw
      refine ml_aald_words (pc := 66) X hn a7 b7 dX11_is_66 ?_
      refine gf_X11_112 (pc := 67) X (ml_at_words hn a7 b7) dX11_is_67 ?_
      refine gf_X11_209 (pc := 70) X (ml_r20_2 hn (ml_at_words hn a7 b7)) dX11_is_70 (fun r8 => ?_)
      have hw := hw r8
      refine ml_if_eq (pc := 73) (tgt := 80) X r8.i dX11_is_73 (by decide) (fun c9 => ?_) (fun c9 => ?_)
      · have hw := hw.1 c9
        refine ml_iconst (pc := 80) X dX11_is_80 ?_
        exact u_X11_is_81 X hn σ1 1 ⟨by decide, by decide⟩ _ (lv_sub hl [] rfl) hw
      · have hw := hw.2 c9
        refine ml_iconst (pc := 76) X dX11_is_76 ?_
        refine ml_goto (pc := 77) (tgt := 81) X dX11_is_77 (by decide) ?_
        exact u_X11_is_81 X hn σ1 0 ⟨by decide, by decide⟩ _ (lv_sub hl [] rfl) hw
    · have hw := hw.2.2.1 c3
      refine ml_tIn (pc := 11) (off := 71) (tgt := 82) X c3 dX11_is_11 (by decide) (by decide) (by decide +kernel) (by decide) ?_
      refine ml_aload_n (pc := 82) X hl 0 rfl rfl dX11_is_82 ?_
      refine gf_X11_67 (pc := 83) X (ml_c1 hn) dX11_is_83 ?_
      refine ml_iload_n (pc := 86) X hl 1 rfl rfl dX11_is_86 ?_
      obtain ⟨a10, b10, hw⟩ := hw
      refine ml_aald_words (pc := 87) X hn a10 b10 dX11_is_87 ?_
      refine gf_X11_212 (pc := 88) X (ml_at_words hn a10 b10) dX11_is_88 (fun r11 => ?_)
      have hw := hw r11
      refine ml_if_eq (pc := 91) (tgt := 98) X r11.i dX11_is_91 (by decide) (fun c12 => ?_) (fun c12 => ?_)
      · have hw := hw.1 c12
        refine ml_iconst (pc := 98) X dX11_is_98 ?_
        exact u_X11_is_99 X hn σ1 0 ⟨by decide, by decide⟩ _ (lv_sub hl [] rfl) hw
      · have hw := hw.2 c12
        refine ml_iconst (pc := 94) X dX11_is_94 ?_
        refine ml_goto (pc := 95) (tgt := 99) X dX11_is_95 (by decide) ?_
        exact u_X11_is_99 X hn σ1 1 ⟨by decide, by decide⟩ _ (lv_sub hl [] rfl) hw
    · have hw := hw.2.2.2.1 c3
      refine ml_tIn (pc := 11) (off := 89) (tgt := 100) X c3 dX11_is_11 (by decide) (by decide) (by decide +kernel) (by decide) ?_
      refine ml_aload_n (pc := 100) X hl 0 rfl rfl dX11_is_100 ?_
      refine gf_X11_67 (pc := 101) X (ml_c1 hn) dX11_is_101 ?_
      refine ml_iload_n (pc := 104) X hl 1 rfl rfl dX11_is_104 ?_
      obtain ⟨a13, b13, hw⟩ := hw
      refine ml_aald_words (pc := 105) X hn a13 b13 dX11_is_105 ?_
      refine gf_X11_112 (pc := 106) X (ml_at_words hn a13 b13) dX11_is_106 ?_
      exact hw.elim
    · have hw := hw.2.2.2.2 c3
      refine ml_tOut (pc := 11) (tgt := 121) X h_x2 dX11_is_11 c3 (by decide) ?_
      refine ml_iconst (pc := 121) X dX11_is_121 ?_
      exact ml_iret (pc := 122) X ⟨by decide, by decide⟩ hw dX11_is_122
  · have hw := hw.2 c2
    refine ml_iconst (pc := 8) X dX11_is_8 ?_
    exact ml_iret (pc := 9) X ⟨by decide, by decide⟩ hw dX11_is_9
set_option maxRecDepth 100000 in
theorem c_X11_is (l : Launch) (base : Nat) (D : va_G) (cA : Nat → ClassId) (n : Nat) (hn : 214 ≤ n) (σ : ml_St) (x1 : Int) (x2 : Int) (h_x1 : I32 x1) (h_x2 : I32 x2) (Q : Int → ml_St → Prop) (hw : f_X11_is σ x1 x2 Q) : Met l yX11_is (Cond.code yX11_is cX11_is 3 (some .int) :: ml_T) rm_X11_is (va_Pc [.ref (base + (1 : Int).toNat), .int (Int32.ofInt x1), .int (Int32.ofInt x2)] (ml_U base D cA n σ)) (ml_Qi I32 base D cA n Q) 0 0 (ml_A base) := by
  refine Met.ofW (cc := cX11_is) (maxL := 3) (ret := (some .int)) (by decide) rfl ?_
  intro p e s m args below meth c s₁ B hml hv
  obtain ⟨rfl, hP, hK, hok, hro⟩ := hv
  have X : ml_X p s m c meth _ D cA cX11_is 3 RX11 (some .int) := ⟨B.exec, B.bytes, hml, findClass_of_methodNamed B.named, fun w hw => atoms_spec (ws := Cond.code yX11_is cX11_is 3 (some .int) :: ml_T) B.pre w (List.mem_cons_of_mem _ hw), hK, B.notSynchronized, B.returns⟩
  have hl := lv_entry [.ref (base + (1 : Int).toNat), .int (Int32.ofInt x1), .int (Int32.ofInt x2)] (n := 3) (Nat.le_of_ble_eq_true rfl)
  rw [lg_entry_eq]
  generalize (lg_sl [.ref (base + (1 : Int).toNat), .int (Int32.ofInt x1), .int (Int32.ofInt x2)] ++ List.replicate (3 - (lg_sl [.ref (base + (1 : Int).toNat), .int (Int32.ofInt x1), .int (Int32.ofInt x2)]).length) Slot.unset).toArray = ls at hl ⊢
  have hl : lv_has ls 3 [(0, .ref (base + (1 : Int).toNat)), (1, .int (Int32.ofInt x1)), (2, .int (Int32.ofInt x2))] := hl
  unfold f_X11_is at hw
  exact u_X11_is_0 X hn σ x1 x2 h_x1 h_x2 _ (lv_sub hl [0, 1, 2] rfl) hw s.heap [] hP va_S.rf hok hro
end
section
theorem dX8_init_0 : decode cX8_init 0 = .ok (.aload_n 0, 1) := by decide +kernel
theorem dX8_init_1 : decode cX8_init 1 = .ok (.invokespecial 3, 3) := by decide +kernel
theorem dX8_init_4 : decode cX8_init 4 = .ok (.aload_n 0, 1) := by decide +kernel
theorem dX8_init_5 : decode cX8_init 5 = .ok (.sipush 200, 3) := by decide +kernel
theorem dX8_init_8 : decode cX8_init 8 = .ok (.newarray .int, 2) := by decide +kernel
theorem dX8_init_10 : decode cX8_init 10 = .ok (.putfield 9, 3) := by decide +kernel
theorem dX8_init_13 : decode cX8_init 13 = .ok (.aload_n 0, 1) := by decide +kernel
theorem dX8_init_14 : decode cX8_init 14 = .ok (.iconst 0, 1) := by decide +kernel
theorem dX8_init_15 : decode cX8_init 15 = .ok (.putfield 15, 3) := by decide +kernel
theorem dX8_init_18 : decode cX8_init 18 = .ok (.return_, 1) := by decide +kernel
def f_X8_init (σ : ml_St) (Q : ml_St → Prop) : Prop :=
(∀ j : Int, σ 3 j = 0) ∧
∀ σ2, σ2 = ml_up σ 2 0 3 →
∀ σ3, σ3 = ml_up σ2 2 1 0 →
Q σ3
def rm_X8_init : Room := { frames := 1, cells := 1, slots := 200, locals := 60 }
set_option maxRecDepth 100000 in
set_option maxHeartbeats 4000000 in
theorem c_X8_init (l : Launch) (base : Nat) (D : va_G) (cA : Nat → ClassId) (σ : ml_St) (Q : ml_St → Prop) (hw : f_X8_init σ Q) : Met l yX8_init (Cond.code yX8_init cX8_init 1 none :: ml_T) rm_X8_init (va_Pc [.ref (base + (2 : Int).toNat)] (ml_UC base D cA 2 σ)) (ml_QC base D cA (2 + 1) Q) 1 200 (ml_A base) := by
  refine Met.ofW (cc := cX8_init) (maxL := 1) (ret := none) (by decide) rfl ?_
  intro p e s m args below meth c s₁ B hml hv
  obtain ⟨rfl, ⟨hP, hK, hok⟩, hs, hNN⟩ := hv
  have hini : meth.name = "<init>" := (name_of_methodNamed B.named B.method).1
  have X : ml_X p s m c meth _ D cA cX8_init 1 RX8 none := ⟨B.exec, B.bytes, hml, findClass_of_methodNamed B.named, fun w hw => atoms_spec (ws := Cond.code yX8_init cX8_init 1 none :: ml_T) B.pre w (List.mem_cons_of_mem _ hw), hK, B.notSynchronized, B.returns⟩
  have hl := lv_entry [.ref (base + (2 : Int).toNat)] (n := 1) (Nat.le_of_ble_eq_true rfl)
  rw [lg_entry_eq]
  generalize (lg_sl [.ref (base + (2 : Int).toNat)] ++ List.replicate (1 - (lg_sl [.ref (base + (2 : Int).toNat)]).length) Slot.unset).toArray = ls at hl ⊢
  have hl : lv_has ls 1 [(0, .ref (base + (2 : Int).toNat))] := hl
  unfold f_X8_init at hw
  suffices hV : ml_V p l e rm_X8_init s m [.ref (base + (2 : Int).toNat)].toArray below meth c (MQ below (ml_QC base D cA (2 + 1) Q) [.ref (base + (2 : Int).toNat)].toArray s 1 200 (ml_A base)) base D cA 0 0 0 (2 + 0) σ (F0 m 0 ls []) from hV s.heap [] hP va_S.rf hok ml_RO0
  refine ml_aload_n (pc := 0) X hl 0 rfl rfl dX8_init_0 ?_
  refine ml_objInit (pc := 1) X ⟨tw_1_31, tw_1_24, tw_1_25⟩ hl ⟨by decide, by decide⟩ (Nat.le_of_ble_eq_true rfl) dX8_init_1 ?_
  refine ml_aload_n (pc := 4) X hl 0 rfl rfl dX8_init_4 ?_
  refine ml_sipush (pc := 5) X dX8_init_5 (by decide) ?_
  obtain ⟨z1, hw⟩ := hw
  refine ml_newA (n0 := 2) (kc := 0) (ks := 0) (pc := 8) (k := 3) X hs .int .int 1 200 tw_1_42 rfl rfl (fun _ _ h => h) (200, .inl (fun _ => 0)) (fun _ => rfl) (by omega) (by omega) (by decide +kernel) (fun f hf => by show _ = _; unfold ml_cell; simp only [hf]; rfl) z1 (by decide) (by decide) ⟨by decide, by decide⟩ dX8_init_8 ?_
  refine ml_putF (pc := 10) (x := 3) (k := 2) X hini in_X8 rfl (by decide) tk_X8 nmX8 0 (by decide) rfl rfl tw_1_32 (ml_k2 (by decide)) dX8_init_10 (ml_fvA (by omega)) (show (0 : Int) ≤ 3 by omega) rfl rfl (Or.inl (by omega)) (fun σ2 g2 => ?_)
  have hw := hw σ2 g2
  refine ml_aload_n (pc := 13) X hl 0 rfl rfl dX8_init_13 ?_
  refine ml_iconst (pc := 14) X dX8_init_14 ?_
  refine ml_putg (pc := 15) (x := 0) (k := 2) X in_X8 rfl (by decide) tk_X8 nmX8 1 (by decide) rfl tw_1_35 (ml_k2 (by decide)) dX8_init_15 rfl ⟨by decide, by decide⟩ rfl rfl (Or.inl (by omega)) (fun σ3 g3 => ?_)
  have hw := hw σ3 g3
  exact ml_vretC (pc := 18) X hw dX8_init_18
theorem dX0_init_0 : decode cX0_init 0 = .ok (.aload_n 0, 1) := by decide +kernel
theorem dX0_init_1 : decode cX0_init 1 = .ok (.invokespecial 3, 3) := by decide +kernel
theorem dX0_init_4 : decode cX0_init 4 = .ok (.aload_n 0, 1) := by decide +kernel
theorem dX0_init_5 : decode cX0_init 5 = .ok (.bipush 10, 2) := by decide +kernel
theorem dX0_init_7 : decode cX0_init 7 = .ok (.newarray .int, 2) := by decide +kernel
theorem dX0_init_9 : decode cX0_init 9 = .ok (.putfield 9, 3) := by decide +kernel
theorem dX0_init_12 : decode cX0_init 12 = .ok (.aload_n 0, 1) := by decide +kernel
theorem dX0_init_13 : decode cX0_init 13 = .ok (.iconst 0, 1) := by decide +kernel
theorem dX0_init_14 : decode cX0_init 14 = .ok (.putfield 15, 3) := by decide +kernel
theorem dX0_init_17 : decode cX0_init 17 = .ok (.return_, 1) := by decide +kernel
def f_X0_init (σ : ml_St) (Q : ml_St → Prop) : Prop :=
(∀ j : Int, σ 5 j = 0) ∧
∀ σ2, σ2 = ml_up σ 4 0 5 →
∀ σ3, σ3 = ml_up σ2 4 1 0 →
Q σ3
def rm_X0_init : Room := { frames := 1, cells := 1, slots := 10, locals := 60 }
set_option maxRecDepth 100000 in
set_option maxHeartbeats 4000000 in
theorem c_X0_init (l : Launch) (base : Nat) (D : va_G) (cA : Nat → ClassId) (σ : ml_St) (Q : ml_St → Prop) (hw : f_X0_init σ Q) : Met l yX0_init (Cond.code yX0_init cX0_init 1 none :: ml_T) rm_X0_init (va_Pc [.ref (base + (4 : Int).toNat)] (ml_UC base D cA 4 σ)) (ml_QC base D cA (4 + 1) Q) 1 10 (ml_A base) := by
  refine Met.ofW (cc := cX0_init) (maxL := 1) (ret := none) (by decide) rfl ?_
  intro p e s m args below meth c s₁ B hml hv
  obtain ⟨rfl, ⟨hP, hK, hok⟩, hs, hNN⟩ := hv
  have hini : meth.name = "<init>" := (name_of_methodNamed B.named B.method).1
  have X : ml_X p s m c meth _ D cA cX0_init 1 RX0 none := ⟨B.exec, B.bytes, hml, findClass_of_methodNamed B.named, fun w hw => atoms_spec (ws := Cond.code yX0_init cX0_init 1 none :: ml_T) B.pre w (List.mem_cons_of_mem _ hw), hK, B.notSynchronized, B.returns⟩
  have hl := lv_entry [.ref (base + (4 : Int).toNat)] (n := 1) (Nat.le_of_ble_eq_true rfl)
  rw [lg_entry_eq]
  generalize (lg_sl [.ref (base + (4 : Int).toNat)] ++ List.replicate (1 - (lg_sl [.ref (base + (4 : Int).toNat)]).length) Slot.unset).toArray = ls at hl ⊢
  have hl : lv_has ls 1 [(0, .ref (base + (4 : Int).toNat))] := hl
  unfold f_X0_init at hw
  suffices hV : ml_V p l e rm_X0_init s m [.ref (base + (4 : Int).toNat)].toArray below meth c (MQ below (ml_QC base D cA (4 + 1) Q) [.ref (base + (4 : Int).toNat)].toArray s 1 10 (ml_A base)) base D cA 0 0 0 (4 + 0) σ (F0 m 0 ls []) from hV s.heap [] hP va_S.rf hok ml_RO0
  refine ml_aload_n (pc := 0) X hl 0 rfl rfl dX0_init_0 ?_
  refine ml_objInit (pc := 1) X ⟨tw_1_48, tw_1_24, tw_1_25⟩ hl ⟨by decide, by decide⟩ (Nat.le_of_ble_eq_true rfl) dX0_init_1 ?_
  refine ml_aload_n (pc := 4) X hl 0 rfl rfl dX0_init_4 ?_
  refine ml_bipush (pc := 5) X dX0_init_5 (by decide) ?_
  obtain ⟨z1, hw⟩ := hw
  refine ml_newA (n0 := 4) (kc := 0) (ks := 0) (pc := 7) (k := 5) X hs .int .int 1 10 tw_1_42 rfl rfl (fun _ _ h => h) (10, .inl (fun _ => 0)) (fun _ => rfl) (by omega) (by omega) (by decide +kernel) (fun f hf => by show _ = _; unfold ml_cell; simp only [hf]; rfl) z1 (by decide) (by decide) ⟨by decide, by decide⟩ dX0_init_7 ?_
  refine ml_putF (pc := 9) (x := 5) (k := 4) X hini in_X0 rfl (by decide) tk_X0 nmX0 0 (by decide) rfl rfl tw_1_49 (ml_k4 (by decide)) dX0_init_9 (ml_fvA (by omega)) (show (0 : Int) ≤ 5 by omega) rfl rfl (Or.inl (by omega)) (fun σ2 g2 => ?_)
  have hw := hw σ2 g2
  refine ml_aload_n (pc := 12) X hl 0 rfl rfl dX0_init_12 ?_
  refine ml_iconst (pc := 13) X dX0_init_13 ?_
  refine ml_putg (pc := 14) (x := 0) (k := 4) X in_X0 rfl (by decide) tk_X0 nmX0 1 (by decide) rfl tw_1_50 (ml_k4 (by decide)) dX0_init_14 rfl ⟨by decide, by decide⟩ (ml_narz ⟨by decide, by decide⟩) (ml_fitz ⟨by decide, by decide⟩) (Or.inl (by omega)) (fun σ3 g3 => ?_)
  have hw := hw σ3 g3
  exact ml_vretC (pc := 17) X hw dX0_init_17
theorem dX2_init_0 : decode cX2_init 0 = .ok (.aload_n 0, 1) := by decide +kernel
theorem dX2_init_1 : decode cX2_init 1 = .ok (.invokespecial 3, 3) := by decide +kernel
theorem dX2_init_4 : decode cX2_init 4 = .ok (.aload_n 0, 1) := by decide +kernel
theorem dX2_init_5 : decode cX2_init 5 = .ok (.iconst 0, 1) := by decide +kernel
theorem dX2_init_6 : decode cX2_init 6 = .ok (.newarray .byte, 2) := by decide +kernel
theorem dX2_init_8 : decode cX2_init 8 = .ok (.putfield 9, 3) := by decide +kernel
theorem dX2_init_11 : decode cX2_init 11 = .ok (.aload_n 0, 1) := by decide +kernel
theorem dX2_init_12 : decode cX2_init 12 = .ok (.iconst 0, 1) := by decide +kernel
theorem dX2_init_13 : decode cX2_init 13 = .ok (.putfield 15, 3) := by decide +kernel
theorem dX2_init_16 : decode cX2_init 16 = .ok (.aload_n 0, 1) := by decide +kernel
theorem dX2_init_17 : decode cX2_init 17 = .ok (.iconst 0, 1) := by decide +kernel
theorem dX2_init_18 : decode cX2_init 18 = .ok (.putfield 19, 3) := by decide +kernel
theorem dX2_init_21 : decode cX2_init 21 = .ok (.aload_n 0, 1) := by decide +kernel
theorem dX2_init_22 : decode cX2_init 22 = .ok (.iconst 0, 1) := by decide +kernel
theorem dX2_init_23 : decode cX2_init 23 = .ok (.putfield 22, 3) := by decide +kernel
theorem dX2_init_26 : decode cX2_init 26 = .ok (.aload_n 0, 1) := by decide +kernel
theorem dX2_init_27 : decode cX2_init 27 = .ok (.iconst 0, 1) := by decide +kernel
theorem dX2_init_28 : decode cX2_init 28 = .ok (.putfield 25, 3) := by decide +kernel
theorem dX2_init_31 : decode cX2_init 31 = .ok (.aload_n 0, 1) := by decide +kernel
theorem dX2_init_32 : decode cX2_init 32 = .ok (.iconst 1, 1) := by decide +kernel
theorem dX2_init_33 : decode cX2_init 33 = .ok (.putfield 29, 3) := by decide +kernel
theorem dX2_init_36 : decode cX2_init 36 = .ok (.aload_n 0, 1) := by decide +kernel
theorem dX2_init_37 : decode cX2_init 37 = .ok (.iconst 0, 1) := by decide +kernel
theorem dX2_init_38 : decode cX2_init 38 = .ok (.putfield 32, 3) := by decide +kernel
theorem dX2_init_41 : decode cX2_init 41 = .ok (.return_, 1) := by decide +kernel
def f_X2_init (σ : ml_St) (Q : ml_St → Prop) : Prop :=
(∀ j : Int, σ 7 j = 0) ∧
∀ σ2, σ2 = ml_up σ 6 0 7 →
∀ σ3, σ3 = ml_up σ2 6 1 0 →
∀ σ4, σ4 = ml_up σ3 6 2 0 →
∀ σ5, σ5 = ml_up σ4 6 3 0 →
∀ σ6, σ6 = ml_up σ5 6 4 0 →
∀ σ7, σ7 = ml_up σ6 6 5 1 →
∀ σ8, σ8 = ml_up σ7 6 6 0 →
Q σ8
def rm_X2_init : Room := { frames := 1, cells := 1, slots := 0, locals := 60 }
set_option maxRecDepth 100000 in
set_option maxHeartbeats 4000000 in
theorem c_X2_init (l : Launch) (base : Nat) (D : va_G) (cA : Nat → ClassId) (σ : ml_St) (Q : ml_St → Prop) (hw : f_X2_init σ Q) : Met l yX2_init (Cond.code yX2_init cX2_init 1 none :: ml_T) rm_X2_init (va_Pc [.ref (base + (6 : Int).toNat)] (ml_UC base D cA 6 σ)) (ml_QC base D cA (6 + 1) Q) 1 0 (ml_A base) := by
  refine Met.ofW (cc := cX2_init) (maxL := 1) (ret := none) (by decide) rfl ?_
  intro p e s m args below meth c s₁ B hml hv
  obtain ⟨rfl, ⟨hP, hK, hok⟩, hs, hNN⟩ := hv
  have hini : meth.name = "<init>" := (name_of_methodNamed B.named B.method).1
  have X : ml_X p s m c meth _ D cA cX2_init 1 RX2 none := ⟨B.exec, B.bytes, hml, findClass_of_methodNamed B.named, fun w hw => atoms_spec (ws := Cond.code yX2_init cX2_init 1 none :: ml_T) B.pre w (List.mem_cons_of_mem _ hw), hK, B.notSynchronized, B.returns⟩
  have hl := lv_entry [.ref (base + (6 : Int).toNat)] (n := 1) (Nat.le_of_ble_eq_true rfl)
  rw [lg_entry_eq]
  generalize (lg_sl [.ref (base + (6 : Int).toNat)] ++ List.replicate (1 - (lg_sl [.ref (base + (6 : Int).toNat)]).length) Slot.unset).toArray = ls at hl ⊢
  have hl : lv_has ls 1 [(0, .ref (base + (6 : Int).toNat))] := hl
  unfold f_X2_init at hw
  suffices hV : ml_V p l e rm_X2_init s m [.ref (base + (6 : Int).toNat)].toArray below meth c (MQ below (ml_QC base D cA (6 + 1) Q) [.ref (base + (6 : Int).toNat)].toArray s 1 0 (ml_A base)) base D cA 0 0 0 (6 + 0) σ (F0 m 0 ls []) from hV s.heap [] hP va_S.rf hok ml_RO0
  refine ml_aload_n (pc := 0) X hl 0 rfl rfl dX2_init_0 ?_
  refine ml_objInit (pc := 1) X ⟨tw_1_62, tw_1_24, tw_1_25⟩ hl ⟨by decide, by decide⟩ (Nat.le_of_ble_eq_true rfl) dX2_init_1 ?_
  refine ml_aload_n (pc := 4) X hl 0 rfl rfl dX2_init_4 ?_
  refine ml_iconst (pc := 5) X dX2_init_5 ?_
  obtain ⟨z1, hw⟩ := hw
  refine ml_newA (n0 := 6) (kc := 0) (ks := 0) (pc := 6) (k := 7) X hs .byte .byte 2 0 tw_1_85 rfl rfl (fun _ _ h => h) (0, .inl (fun _ => 0)) (fun _ => rfl) (by omega) (by omega) (by decide +kernel) (fun f hf => by show _ = _; unfold ml_cell; simp only [hf]; rfl) z1 (by decide) (by decide) ⟨by decide, by decide⟩ dX2_init_6 ?_
  refine ml_putg (pc := 8) (x := 7) (k := 6) X in_X2 rfl (by decide) tk_X2 nmX2 0 (by decide) rfl tw_1_63 (ml_k6 (by decide)) dX2_init_8 (ml_fvA (by omega)) (show (0 : Int) ≤ 7 by omega) rfl rfl (Or.inl (by omega)) (fun σ2 g2 => ?_)
  have hw := hw σ2 g2
  refine ml_aload_n (pc := 11) X hl 0 rfl rfl dX2_init_11 ?_
  refine ml_iconst (pc := 12) X dX2_init_12 ?_
  refine ml_putg (pc := 13) (x := 0) (k := 6) X in_X2 rfl (by decide) tk_X2 nmX2 1 (by decide) rfl tw_1_64 (ml_k6 (by decide)) dX2_init_13 rfl ⟨by decide, by decide⟩ rfl rfl (Or.inl (by omega)) (fun σ3 g3 => ?_)
  have hw := hw σ3 g3
  refine ml_aload_n (pc := 16) X hl 0 rfl rfl dX2_init_16 ?_
  refine ml_iconst (pc := 17) X dX2_init_17 ?_
  refine ml_putg (pc := 18) (x := 0) (k := 6) X in_X2 rfl (by decide) tk_X2 nmX2 2 (by decide) rfl tw_1_65 (ml_k6 (by decide)) dX2_init_18 rfl ⟨by decide, by decide⟩ rfl rfl (Or.inl (by omega)) (fun σ4 g4 => ?_)
  have hw := hw σ4 g4
  refine ml_aload_n (pc := 21) X hl 0 rfl rfl dX2_init_21 ?_
  refine ml_iconst (pc := 22) X dX2_init_22 ?_
  refine ml_putg (pc := 23) (x := 0) (k := 6) X in_X2 rfl (by decide) tk_X2 nmX2 3 (by decide) rfl tw_1_66 (ml_k6 (by decide)) dX2_init_23 rfl ⟨by decide, by decide⟩ rfl rfl (Or.inl (by omega)) (fun σ5 g5 => ?_)
  have hw := hw σ5 g5
  refine ml_aload_n (pc := 26) X hl 0 rfl rfl dX2_init_26 ?_
  refine ml_iconst (pc := 27) X dX2_init_27 ?_
  refine ml_putg (pc := 28) (x := 0) (k := 6) X in_X2 rfl (by decide) tk_X2 nmX2 4 (by decide) rfl tw_1_67 (ml_k6 (by decide)) dX2_init_28 rfl ⟨by decide, by decide⟩ (ml_narz ⟨by decide, by decide⟩) (ml_fitz ⟨by decide, by decide⟩) (Or.inl (by omega)) (fun σ6 g6 => ?_)
  have hw := hw σ6 g6
  refine ml_aload_n (pc := 31) X hl 0 rfl rfl dX2_init_31 ?_
  refine ml_iconst (pc := 32) X dX2_init_32 ?_
  refine ml_putg (pc := 33) (x := 1) (k := 6) X in_X2 rfl (by decide) tk_X2 nmX2 5 (by decide) rfl tw_1_68 (ml_k6 (by decide)) dX2_init_33 rfl ⟨by decide, by decide⟩ (ml_narz ⟨by decide, by decide⟩) (ml_fitz ⟨by decide, by decide⟩) (Or.inl (by omega)) (fun σ7 g7 => ?_)
  have hw := hw σ7 g7
  refine ml_aload_n (pc := 36) X hl 0 rfl rfl dX2_init_36 ?_
  refine ml_iconst (pc := 37) X dX2_init_37 ?_
  refine ml_putg (pc := 38) (x := 0) (k := 6) X in_X2 rfl (by decide) tk_X2 nmX2 6 (by decide) rfl tw_1_69 (ml_k6 (by decide)) dX2_init_38 rfl ⟨by decide, by decide⟩ rfl rfl (Or.inl (by omega)) (fun σ8 g8 => ?_)
  have hw := hw σ8 g8
  exact ml_vretC (pc := 41) X hw dX2_init_41
theorem dX3_init_0 : decode cX3_init 0 = .ok (.aload_n 0, 1) := by decide +kernel
theorem dX3_init_1 : decode cX3_init 1 = .ok (.invokespecial 1, 3) := by decide +kernel
theorem dX3_init_4 : decode cX3_init 4 = .ok (.aload_n 0, 1) := by decide +kernel
theorem dX3_init_5 : decode cX3_init 5 = .ok (.iconst 0, 1) := by decide +kernel
theorem dX3_init_6 : decode cX3_init 6 = .ok (.newarray .byte, 2) := by decide +kernel
theorem dX3_init_8 : decode cX3_init 8 = .ok (.putfield 7, 3) := by decide +kernel
theorem dX3_init_11 : decode cX3_init 11 = .ok (.aload_n 0, 1) := by decide +kernel
theorem dX3_init_12 : decode cX3_init 12 = .ok (.iconst 0, 1) := by decide +kernel
theorem dX3_init_13 : decode cX3_init 13 = .ok (.putfield 13, 3) := by decide +kernel
theorem dX3_init_16 : decode cX3_init 16 = .ok (.aload_n 0, 1) := by decide +kernel
theorem dX3_init_17 : decode cX3_init 17 = .ok (.iconst 0, 1) := by decide +kernel
theorem dX3_init_18 : decode cX3_init 18 = .ok (.putfield 17, 3) := by decide +kernel
theorem dX3_init_21 : decode cX3_init 21 = .ok (.aload_n 0, 1) := by decide +kernel
theorem dX3_init_22 : decode cX3_init 22 = .ok (.iconst 0, 1) := by decide +kernel
theorem dX3_init_23 : decode cX3_init 23 = .ok (.putfield 20, 3) := by decide +kernel
theorem dX3_init_26 : decode cX3_init 26 = .ok (.aload_n 0, 1) := by decide +kernel
theorem dX3_init_27 : decode cX3_init 27 = .ok (.iconst 0, 1) := by decide +kernel
theorem dX3_init_28 : decode cX3_init 28 = .ok (.putfield 23, 3) := by decide +kernel
theorem dX3_init_31 : decode cX3_init 31 = .ok (.aload_n 0, 1) := by decide +kernel
theorem dX3_init_32 : decode cX3_init 32 = .ok (.iconst 1, 1) := by decide +kernel
theorem dX3_init_33 : decode cX3_init 33 = .ok (.putfield 26, 3) := by decide +kernel
theorem dX3_init_36 : decode cX3_init 36 = .ok (.return_, 1) := by decide +kernel
def f_X3_init (σ : ml_St) (Q : ml_St → Prop) : Prop :=
(∀ j : Int, σ 10 j = 0) ∧
∀ σ2, σ2 = ml_up σ 9 0 10 →
∀ σ3, σ3 = ml_up σ2 9 1 0 →
∀ σ4, σ4 = ml_up σ3 9 2 0 →
∀ σ5, σ5 = ml_up σ4 9 3 0 →
∀ σ6, σ6 = ml_up σ5 9 4 0 →
∀ σ7, σ7 = ml_up σ6 9 5 1 →
Q σ7
def rm_X3_init : Room := { frames := 1, cells := 1, slots := 0, locals := 60 }
set_option maxRecDepth 100000 in
set_option maxHeartbeats 4000000 in
theorem c_X3_init (l : Launch) (base : Nat) (D : va_G) (cA : Nat → ClassId) (σ : ml_St) (Q : ml_St → Prop) (hw : f_X3_init σ Q) : Met l yX3_init (Cond.code yX3_init cX3_init 1 none :: ml_T) rm_X3_init (va_Pc [.ref (base + (9 : Int).toNat)] (ml_UC base D cA 9 σ)) (ml_QC base D cA (9 + 1) Q) 1 0 (ml_A base) := by
  refine Met.ofW (cc := cX3_init) (maxL := 1) (ret := none) (by decide) rfl ?_
  intro p e s m args below meth c s₁ B hml hv
  obtain ⟨rfl, ⟨hP, hK, hok⟩, hs, hNN⟩ := hv
  have hini : meth.name = "<init>" := (name_of_methodNamed B.named B.method).1
  have X : ml_X p s m c meth _ D cA cX3_init 1 RX3 none := ⟨B.exec, B.bytes, hml, findClass_of_methodNamed B.named, fun w hw => atoms_spec (ws := Cond.code yX3_init cX3_init 1 none :: ml_T) B.pre w (List.mem_cons_of_mem _ hw), hK, B.notSynchronized, B.returns⟩
  have hl := lv_entry [.ref (base + (9 : Int).toNat)] (n := 1) (Nat.le_of_ble_eq_true rfl)
  rw [lg_entry_eq]
  generalize (lg_sl [.ref (base + (9 : Int).toNat)] ++ List.replicate (1 - (lg_sl [.ref (base + (9 : Int).toNat)]).length) Slot.unset).toArray = ls at hl ⊢
  have hl : lv_has ls 1 [(0, .ref (base + (9 : Int).toNat))] := hl
  unfold f_X3_init at hw
  suffices hV : ml_V p l e rm_X3_init s m [.ref (base + (9 : Int).toNat)].toArray below meth c (MQ below (ml_QC base D cA (9 + 1) Q) [.ref (base + (9 : Int).toNat)].toArray s 1 0 (ml_A base)) base D cA 0 0 0 (9 + 0) σ (F0 m 0 ls []) from hV s.heap [] hP va_S.rf hok ml_RO0
  refine ml_aload_n (pc := 0) X hl 0 rfl rfl dX3_init_0 ?_
  refine ml_objInit (pc := 1) X ⟨tw_1_97, tw_1_24, tw_1_25⟩ hl ⟨by decide, by decide⟩ (Nat.le_of_ble_eq_true rfl) dX3_init_1 ?_
  refine ml_aload_n (pc := 4) X hl 0 rfl rfl dX3_init_4 ?_
  refine ml_iconst (pc := 5) X dX3_init_5 ?_
  obtain ⟨z1, hw⟩ := hw
  refine ml_newA (n0 := 9) (kc := 0) (ks := 0) (pc := 6) (k := 10) X hs .byte .byte 2 0 tw_1_85 rfl rfl (fun _ _ h => h) (0, .inl (fun _ => 0)) (fun _ => rfl) (by omega) (by omega) (by decide +kernel) (fun f hf => by show _ = _; unfold ml_cell; simp only [hf]; rfl) z1 (by decide) (by decide) ⟨by decide, by decide⟩ dX3_init_6 ?_
  refine ml_putg (pc := 8) (x := 10) (k := 9) X in_X3 rfl (by decide) tk_X3 nmX3 0 (by decide) rfl tw_1_98 (ml_k9 (by decide)) dX3_init_8 (ml_fvA (by omega)) (show (0 : Int) ≤ 10 by omega) rfl rfl (Or.inl (by omega)) (fun σ2 g2 => ?_)
  have hw := hw σ2 g2
  refine ml_aload_n (pc := 11) X hl 0 rfl rfl dX3_init_11 ?_
  refine ml_iconst (pc := 12) X dX3_init_12 ?_
  refine ml_putg (pc := 13) (x := 0) (k := 9) X in_X3 rfl (by decide) tk_X3 nmX3 1 (by decide) rfl tw_1_99 (ml_k9 (by decide)) dX3_init_13 rfl ⟨by decide, by decide⟩ rfl rfl (Or.inl (by omega)) (fun σ3 g3 => ?_)
  have hw := hw σ3 g3
  refine ml_aload_n (pc := 16) X hl 0 rfl rfl dX3_init_16 ?_
  refine ml_iconst (pc := 17) X dX3_init_17 ?_
  refine ml_putg (pc := 18) (x := 0) (k := 9) X in_X3 rfl (by decide) tk_X3 nmX3 2 (by decide) rfl tw_1_100 (ml_k9 (by decide)) dX3_init_18 rfl ⟨by decide, by decide⟩ rfl rfl (Or.inl (by omega)) (fun σ4 g4 => ?_)
  have hw := hw σ4 g4
  refine ml_aload_n (pc := 21) X hl 0 rfl rfl dX3_init_21 ?_
  refine ml_iconst (pc := 22) X dX3_init_22 ?_
  refine ml_putg (pc := 23) (x := 0) (k := 9) X in_X3 rfl (by decide) tk_X3 nmX3 3 (by decide) rfl tw_1_101 (ml_k9 (by decide)) dX3_init_23 rfl ⟨by decide, by decide⟩ rfl rfl (Or.inl (by omega)) (fun σ5 g5 => ?_)
  have hw := hw σ5 g5
  refine ml_aload_n (pc := 26) X hl 0 rfl rfl dX3_init_26 ?_
  refine ml_iconst (pc := 27) X dX3_init_27 ?_
  refine ml_putg (pc := 28) (x := 0) (k := 9) X in_X3 rfl (by decide) tk_X3 nmX3 4 (by decide) rfl tw_1_103 (ml_k9 (by decide)) dX3_init_28 rfl ⟨by decide, by decide⟩ rfl rfl (Or.inl (by omega)) (fun σ6 g6 => ?_)
  have hw := hw σ6 g6
  refine ml_aload_n (pc := 31) X hl 0 rfl rfl dX3_init_31 ?_
  refine ml_iconst (pc := 32) X dX3_init_32 ?_
  refine ml_putg (pc := 33) (x := 1) (k := 9) X in_X3 rfl (by decide) tk_X3 nmX3 5 (by decide) rfl tw_1_105 (ml_k9 (by decide)) dX3_init_33 rfl ⟨by decide, by decide⟩ rfl rfl (Or.inl (by omega)) (fun σ7 g7 => ?_)
  have hw := hw σ7 g7
  exact ml_vretC (pc := 36) X hw dX3_init_36
theorem dX9_init_0 : decode cX9_init 0 = .ok (.aload_n 0, 1) := by decide +kernel
theorem dX9_init_1 : decode cX9_init 1 = .ok (.invokespecial 3, 3) := by decide +kernel
theorem dX9_init_4 : decode cX9_init 4 = .ok (.aload_n 0, 1) := by decide +kernel
theorem dX9_init_5 : decode cX9_init 5 = .ok (.bipush 10, 2) := by decide +kernel
theorem dX9_init_7 : decode cX9_init 7 = .ok (.newarray .int, 2) := by decide +kernel
theorem dX9_init_9 : decode cX9_init 9 = .ok (.putfield 9, 3) := by decide +kernel
theorem dX9_init_12 : decode cX9_init 12 = .ok (.aload_n 0, 1) := by decide +kernel
theorem dX9_init_13 : decode cX9_init 13 = .ok (.bipush 10, 2) := by decide +kernel
theorem dX9_init_15 : decode cX9_init 15 = .ok (.newarray .long, 2) := by decide +kernel
theorem dX9_init_17 : decode cX9_init 17 = .ok (.putfield 15, 3) := by decide +kernel
theorem dX9_init_20 : decode cX9_init 20 = .ok (.aload_n 0, 1) := by decide +kernel
theorem dX9_init_21 : decode cX9_init 21 = .ok (.lconst 0, 1) := by decide +kernel
theorem dX9_init_22 : decode cX9_init 22 = .ok (.putfield 19, 3) := by decide +kernel
theorem dX9_init_25 : decode cX9_init 25 = .ok (.aload_n 0, 1) := by decide +kernel
theorem dX9_init_26 : decode cX9_init 26 = .ok (.lconst 0, 1) := by decide +kernel
theorem dX9_init_27 : decode cX9_init 27 = .ok (.putfield 23, 3) := by decide +kernel
theorem dX9_init_30 : decode cX9_init 30 = .ok (.aload_n 0, 1) := by decide +kernel
theorem dX9_init_31 : decode cX9_init 31 = .ok (.lconst 0, 1) := by decide +kernel
theorem dX9_init_32 : decode cX9_init 32 = .ok (.putfield 26, 3) := by decide +kernel
theorem dX9_init_35 : decode cX9_init 35 = .ok (.aload_n 0, 1) := by decide +kernel
theorem dX9_init_36 : decode cX9_init 36 = .ok (.lconst 0, 1) := by decide +kernel
theorem dX9_init_37 : decode cX9_init 37 = .ok (.putfield 29, 3) := by decide +kernel
theorem dX9_init_40 : decode cX9_init 40 = .ok (.aload_n 0, 1) := by decide +kernel
theorem dX9_init_41 : decode cX9_init 41 = .ok (.iconst 0, 1) := by decide +kernel
theorem dX9_init_42 : decode cX9_init 42 = .ok (.putfield 32, 3) := by decide +kernel
theorem dX9_init_45 : decode cX9_init 45 = .ok (.aload_n 0, 1) := by decide +kernel
theorem dX9_init_46 : decode cX9_init 46 = .ok (.iconst 0, 1) := by decide +kernel
theorem dX9_init_47 : decode cX9_init 47 = .ok (.putfield 36, 3) := by decide +kernel
theorem dX9_init_50 : decode cX9_init 50 = .ok (.return_, 1) := by decide +kernel
def f_X9_init (σ : ml_St) (th : Int) (Q : ml_St → Prop) : Prop :=
(∀ j : Int, σ (th + 1) j = 0) ∧
∀ σ2, σ2 = ml_up σ th 0 (th + 1) →
(∀ j : Int, σ2 (th + 2) j = 0) ∧
∀ σ4, σ4 = ml_up σ2 th 1 (th + 2) →
∀ σ5, σ5 = ml_up σ4 th 2 0 →
∀ σ6, σ6 = ml_up σ5 th 3 0 →
∀ σ7, σ7 = ml_up σ6 th 4 0 →
∀ σ8, σ8 = ml_up σ7 th 5 0 →
∀ σ9, σ9 = ml_up σ8 th 6 0 →
∀ σ10, σ10 = ml_up σ9 th 7 0 →
Q σ10
def rm_X9_init : Room := { frames := 1, cells := 2, slots := 20, locals := 60 }
set_option maxRecDepth 100000 in
set_option maxHeartbeats 4000000 in
theorem c_X9_init (l : Launch) (base : Nat) (D : va_G) (cA : Nat → ClassId) (n : Nat) (th : Int) (hth : th = (n : Int)) (hlay : ml_lay th = (19, 8)) (σ : ml_St) (Q : ml_St → Prop) (hw : f_X9_init σ th Q) : Met l yX9_init (Cond.code yX9_init cX9_init 1 none :: ml_T) rm_X9_init (va_Pc [.ref (base + (th : Int).toNat)] (ml_UC base D cA n σ)) (ml_QC base D cA (n + 2) Q) 2 20 (ml_A base) := by
  refine Met.ofW (cc := cX9_init) (maxL := 1) (ret := none) (by decide) rfl ?_
  intro p e s m args below meth c s₁ B hml hv
  obtain ⟨rfl, ⟨hP, hK, hok⟩, hs, hNN⟩ := hv
  have hini : meth.name = "<init>" := (name_of_methodNamed B.named B.method).1
  have X : ml_X p s m c meth _ D cA cX9_init 1 RX9 none := ⟨B.exec, B.bytes, hml, findClass_of_methodNamed B.named, fun w hw => atoms_spec (ws := Cond.code yX9_init cX9_init 1 none :: ml_T) B.pre w (List.mem_cons_of_mem _ hw), hK, B.notSynchronized, B.returns⟩
  have h1 := (ml_lay_in hlay (by decide)).1
  have hr1 := ml_weaveK hlay
  have hl := lv_entry [.ref (base + (th : Int).toNat)] (n := 1) (Nat.le_of_ble_eq_true rfl)
  rw [lg_entry_eq]
  generalize (lg_sl [.ref (base + (th : Int).toNat)] ++ List.replicate (1 - (lg_sl [.ref (base + (th : Int).toNat)]).length) Slot.unset).toArray = ls at hl ⊢
  have hl : lv_has ls 1 [(0, .ref (base + (th : Int).toNat))] := hl
  unfold f_X9_init at hw
  suffices hV : ml_V p l e rm_X9_init s m [.ref (base + (th : Int).toNat)].toArray below meth c (MQ below (ml_QC base D cA (n + 2) Q) [.ref (base + (th : Int).toNat)].toArray s 2 20 (ml_A base)) base D cA 0 0 0 (n + 0) σ (F0 m 0 ls []) from hV s.heap [] hP va_S.rf hok ml_RO0
  refine ml_aload_n (pc := 0) X hl 0 rfl rfl dX9_init_0 ?_
  refine ml_objInit (pc := 1) X ⟨tw_1_126, tw_1_24, tw_1_25⟩ hl ⟨by decide, by decide⟩ (Nat.le_of_ble_eq_true rfl) dX9_init_1 ?_
  refine ml_aload_n (pc := 4) X hl 0 rfl rfl dX9_init_4 ?_
  refine ml_bipush (pc := 5) X dX9_init_5 (by decide) ?_
  obtain ⟨z1, hw⟩ := hw
  refine ml_newA (n0 := n) (kc := 0) (ks := 0) (pc := 7) (k := (th + 1)) X hs .int .int 1 10 tw_1_42 rfl rfl (fun _ _ h => h) (10, .inl (fun _ => 0)) (fun _ => rfl) (by omega) (by omega) hr1.2.1 (fun f hf => by show _ = _; unfold ml_cell; simp only [hf]; rfl) z1 (by decide) (by decide) ⟨by decide, by decide⟩ dX9_init_7 ?_
  refine ml_putF (pc := 9) (x := (th + 1)) (k := th) X hini in_X9 rfl (by decide) tk_X9 nmX9 0 (by decide) rfl rfl tw_1_127 ⟨by omega, by omega, hlay⟩ dX9_init_9 (ml_fvA (by omega)) (show (0 : Int) ≤ (th + 1) by omega) rfl rfl (Or.inl (by omega)) (fun σ2 g2 => ?_)
  have hw := hw σ2 g2
  refine ml_aload_n (pc := 12) X hl 0 rfl rfl dX9_init_12 ?_
  refine ml_bipush (pc := 13) X dX9_init_13 (by decide) ?_
  obtain ⟨z3, hw⟩ := hw
  refine ml_newA (n0 := n) (kc := 1) (ks := 10) (pc := 15) (k := (th + 2)) X hs .long .long 4 10 tw_1_165 rfl rfl (fun _ _ h => h) (10, .inr (.inl (fun _ => 0))) (fun _ => rfl) (by omega) (by omega) hr1.2.2 (fun f hf => by show _ = _; unfold ml_cell; simp only [hf]; rfl) z3 (by decide) (by decide) ⟨by decide, by decide⟩ dX9_init_15 ?_
  refine ml_putF (pc := 17) (x := (th + 2)) (k := th) X hini in_X9 rfl (by decide) tk_X9 nmX9 1 (by decide) rfl rfl tw_1_131 ⟨by omega, by omega, hlay⟩ dX9_init_17 (ml_fvA (by omega)) (show (0 : Int) ≤ (th + 2) by omega) rfl rfl (Or.inl (by omega)) (fun σ4 g4 => ?_)
  have hw := hw σ4 g4
  refine ml_aload_n (pc := 20) X hl 0 rfl rfl dX9_init_20 ?_
  refine ml_lconst0 (pc := 21) X dX9_init_21 ?_
  refine ml_putg (pc := 22) (x := 0) (k := th) X in_X9 rfl (by decide) tk_X9 nmX9 2 (by decide) rfl tw_1_133 ⟨by omega, by omega, hlay⟩ dX9_init_22 rfl ⟨by decide, by decide⟩ rfl rfl (Or.inl (by omega)) (fun σ5 g5 => ?_)
  have hw := hw σ5 g5
  refine ml_aload_n (pc := 25) X hl 0 rfl rfl dX9_init_25 ?_
  refine ml_lconst0 (pc := 26) X dX9_init_26 ?_
  refine ml_putg (pc := 27) (x := 0) (k := th) X in_X9 rfl (by decide) tk_X9 nmX9 3 (by decide) rfl tw_1_138 ⟨by omega, by omega, hlay⟩ dX9_init_27 rfl ⟨by decide, by decide⟩ rfl rfl (Or.inl (by omega)) (fun σ6 g6 => ?_)
  have hw := hw σ6 g6
  refine ml_aload_n (pc := 30) X hl 0 rfl rfl dX9_init_30 ?_
  refine ml_lconst0 (pc := 31) X dX9_init_31 ?_
  refine ml_putg (pc := 32) (x := 0) (k := th) X in_X9 rfl (by decide) tk_X9 nmX9 4 (by decide) rfl tw_1_140 ⟨by omega, by omega, hlay⟩ dX9_init_32 rfl ⟨by decide, by decide⟩ rfl rfl (Or.inl (by omega)) (fun σ7 g7 => ?_)
  have hw := hw σ7 g7
  refine ml_aload_n (pc := 35) X hl 0 rfl rfl dX9_init_35 ?_
  refine ml_lconst0 (pc := 36) X dX9_init_36 ?_
  refine ml_putg (pc := 37) (x := 0) (k := th) X in_X9 rfl (by decide) tk_X9 nmX9 5 (by decide) rfl tw_1_142 ⟨by omega, by omega, hlay⟩ dX9_init_37 rfl ⟨by decide, by decide⟩ rfl rfl (Or.inl (by omega)) (fun σ8 g8 => ?_)
  have hw := hw σ8 g8
  refine ml_aload_n (pc := 40) X hl 0 rfl rfl dX9_init_40 ?_
  refine ml_iconst (pc := 41) X dX9_init_41 ?_
  refine ml_putg (pc := 42) (x := 0) (k := th) X in_X9 rfl (by decide) tk_X9 nmX9 6 (by decide) rfl tw_1_144 ⟨by omega, by omega, hlay⟩ dX9_init_42 rfl ⟨by decide, by decide⟩ (ml_narz ⟨by decide, by decide⟩) (ml_fitz ⟨by decide, by decide⟩) (Or.inl (by omega)) (fun σ9 g9 => ?_)
  have hw := hw σ9 g9
  refine ml_aload_n (pc := 45) X hl 0 rfl rfl dX9_init_45 ?_
  refine ml_iconst (pc := 46) X dX9_init_46 ?_
  refine ml_putg (pc := 47) (x := 0) (k := th) X in_X9 rfl (by decide) tk_X9 nmX9 7 (by decide) rfl tw_1_146 ⟨by omega, by omega, hlay⟩ dX9_init_47 rfl ⟨by decide, by decide⟩ (ml_narz ⟨by decide, by decide⟩) (ml_fitz ⟨by decide, by decide⟩) (Or.inl (by omega)) (fun σ10 g10 => ?_)
  have hw := hw σ10 g10
  exact ml_vretC (pc := 50) X hw dX9_init_50
theorem dX4_init_0 : decode cX4_init 0 = .ok (.aload_n 0, 1) := by decide +kernel
theorem dX4_init_1 : decode cX4_init 1 = .ok (.invokespecial 3, 3) := by decide +kernel
theorem dX4_init_4 : decode cX4_init 4 = .ok (.aload_n 0, 1) := by decide +kernel
theorem dX4_init_5 : decode cX4_init 5 = .ok (.new 9, 3) := by decide +kernel
theorem dX4_init_8 : decode cX4_init 8 = .ok (.dup, 1) := by decide +kernel
theorem dX4_init_9 : decode cX4_init 9 = .ok (.invokespecial 11, 3) := by decide +kernel
theorem dX4_init_12 : decode cX4_init 12 = .ok (.putfield 12, 3) := by decide +kernel
theorem dX4_init_15 : decode cX4_init 15 = .ok (.aload_n 0, 1) := by decide +kernel
theorem dX4_init_16 : decode cX4_init 16 = .ok (.bipush 7, 2) := by decide +kernel
theorem dX4_init_18 : decode cX4_init 18 = .ok (.anewarray 18, 3) := by decide +kernel
theorem dX4_init_21 : decode cX4_init 21 = .ok (.putfield 20, 3) := by decide +kernel
theorem dX4_init_24 : decode cX4_init 24 = .ok (.aload_n 0, 1) := by decide +kernel
theorem dX4_init_25 : decode cX4_init 25 = .ok (.bipush 7, 2) := by decide +kernel
theorem dX4_init_27 : decode cX4_init 27 = .ok (.newarray .int, 2) := by decide +kernel
theorem dX4_init_29 : decode cX4_init 29 = .ok (.putfield 24, 3) := by decide +kernel
theorem dX4_init_32 : decode cX4_init 32 = .ok (.aload_n 0, 1) := by decide +kernel
theorem dX4_init_33 : decode cX4_init 33 = .ok (.new 18, 3) := by decide +kernel
theorem dX4_init_36 : decode cX4_init 36 = .ok (.dup, 1) := by decide +kernel
theorem dX4_init_37 : decode cX4_init 37 = .ok (.invokespecial 28, 3) := by decide +kernel
theorem dX4_init_40 : decode cX4_init 40 = .ok (.putfield 29, 3) := by decide +kernel
theorem dX4_init_43 : decode cX4_init 43 = .ok (.aload_n 0, 1) := by decide +kernel
theorem dX4_init_44 : decode cX4_init 44 = .ok (.new 18, 3) := by decide +kernel
theorem dX4_init_47 : decode cX4_init 47 = .ok (.dup, 1) := by decide +kernel
theorem dX4_init_48 : decode cX4_init 48 = .ok (.invokespecial 28, 3) := by decide +kernel
theorem dX4_init_51 : decode cX4_init 51 = .ok (.putfield 33, 3) := by decide +kernel
theorem dX4_init_54 : decode cX4_init 54 = .ok (.aload_n 0, 1) := by decide +kernel
theorem dX4_init_55 : decode cX4_init 55 = .ok (.new 18, 3) := by decide +kernel
theorem dX4_init_58 : decode cX4_init 58 = .ok (.dup, 1) := by decide +kernel
theorem dX4_init_59 : decode cX4_init 59 = .ok (.invokespecial 28, 3) := by decide +kernel
theorem dX4_init_62 : decode cX4_init 62 = .ok (.putfield 36, 3) := by decide +kernel
theorem dX4_init_65 : decode cX4_init 65 = .ok (.aload_n 0, 1) := by decide +kernel
theorem dX4_init_66 : decode cX4_init 66 = .ok (.new 18, 3) := by decide +kernel
theorem dX4_init_69 : decode cX4_init 69 = .ok (.dup, 1) := by decide +kernel
theorem dX4_init_70 : decode cX4_init 70 = .ok (.invokespecial 28, 3) := by decide +kernel
theorem dX4_init_73 : decode cX4_init 73 = .ok (.putfield 39, 3) := by decide +kernel
theorem dX4_init_76 : decode cX4_init 76 = .ok (.iconst 0, 1) := by decide +kernel
theorem dX4_init_77 : decode cX4_init 77 = .ok (.istore_n 1, 1) := by decide +kernel
theorem dX4_init_78 : decode cX4_init 78 = .ok (.iload_n 1, 1) := by decide +kernel
theorem dX4_init_79 : decode cX4_init 79 = .ok (.bipush 6, 2) := by decide +kernel
theorem dX4_init_81 : decode cX4_init 81 = .ok (.if_icmp .gt 22, 3) := by decide +kernel
theorem dX4_init_84 : decode cX4_init 84 = .ok (.aload_n 0, 1) := by decide +kernel
theorem dX4_init_85 : decode cX4_init 85 = .ok (.getfield 20, 3) := by decide +kernel
theorem dX4_init_88 : decode cX4_init 88 = .ok (.iload_n 1, 1) := by decide +kernel
theorem dX4_init_89 : decode cX4_init 89 = .ok (.new 18, 3) := by decide +kernel
theorem dX4_init_92 : decode cX4_init 92 = .ok (.dup, 1) := by decide +kernel
theorem dX4_init_93 : decode cX4_init 93 = .ok (.invokespecial 28, 3) := by decide +kernel
theorem dX4_init_96 : decode cX4_init 96 = .ok (.aastore, 1) := by decide +kernel
theorem dX4_init_97 : decode cX4_init 97 = .ok (.iinc 1 1, 3) := by decide +kernel
theorem dX4_init_100 : decode cX4_init 100 = .ok (.goto (-22), 3) := by decide +kernel
theorem dX4_init_103 : decode cX4_init 103 = .ok (.return_, 1) := by decide +kernel
def f_X4_init (σ : ml_St) (Q : ml_St → Prop) : Prop :=
(∀ j : Int, σ 9 j = 0) ∧
f_X3_init σ (fun σ2 =>
∀ σ3, σ3 = ml_up σ2 8 0 9 →
(∀ j : Int, σ3 11 j = 0) ∧
∀ σ5, σ5 = ml_up σ3 8 1 11 →
(∀ j : Int, σ5 12 j = 0) ∧
∀ σ7, σ7 = ml_up σ5 8 2 12 →
(∀ j : Int, σ7 13 j = 0) ∧
f_X9_init σ7 13 (fun σ9 =>
∀ σ10, σ10 = ml_up σ9 8 3 13 →
(∀ j : Int, σ10 16 j = 0) ∧
f_X9_init σ10 16 (fun σ12 =>
∀ σ13, σ13 = ml_up σ12 8 4 16 →
(∀ j : Int, σ13 19 j = 0) ∧
f_X9_init σ13 19 (fun σ15 =>
∀ σ16, σ16 = ml_up σ15 8 5 19 →
(∀ j : Int, σ16 22 j = 0) ∧
f_X9_init σ16 22 (fun σ18 =>
∀ σ19, σ19 = ml_up σ18 8 6 22 →
σ19 8 1 = 11 ∧
(∀ j : Int, σ19 25 j = 0) ∧
f_X9_init σ19 25 (fun σ23 =>
∀ σ24, σ24 = ml_up σ23 11 0 25 →
σ24 8 1 = 11 ∧
(∀ j : Int, σ24 28 j = 0) ∧
f_X9_init σ24 28 (fun σ28 =>
∀ σ29, σ29 = ml_up σ28 11 1 28 →
σ29 8 1 = 11 ∧
(∀ j : Int, σ29 31 j = 0) ∧
f_X9_init σ29 31 (fun σ33 =>
∀ σ34, σ34 = ml_up σ33 11 2 31 →
σ34 8 1 = 11 ∧
(∀ j : Int, σ34 34 j = 0) ∧
f_X9_init σ34 34 (fun σ38 =>
∀ σ39, σ39 = ml_up σ38 11 3 34 →
σ39 8 1 = 11 ∧
(∀ j : Int, σ39 37 j = 0) ∧
f_X9_init σ39 37 (fun σ43 =>
∀ σ44, σ44 = ml_up σ43 11 4 37 →
σ44 8 1 = 11 ∧
(∀ j : Int, σ44 40 j = 0) ∧
f_X9_init σ44 40 (fun σ48 =>
∀ σ49, σ49 = ml_up σ48 11 5 40 →
σ49 8 1 = 11 ∧
(∀ j : Int, σ49 43 j = 0) ∧
f_X9_init σ49 43 (fun σ53 =>
∀ σ54, σ54 = ml_up σ53 11 6 43 →
Q σ54))))))))))))
def rm_X4_init : Room := { frames := 2, cells := 37, slots := 328, locals := 80 }
set_option maxRecDepth 100000 in
set_option maxHeartbeats 4000000 in
theorem c_X4_init (l : Launch) (base : Nat) (D : va_G) (cA : Nat → ClassId) (σ : ml_St) (Q : ml_St → Prop) (hw : f_X4_init σ Q) : Met l yX4_init (Cond.code yX4_init cX4_init 2 none :: ml_T) rm_X4_init (va_Pc [.ref (base + (8 : Int).toNat)] (ml_UC base D cA 8 σ)) (ml_QC base D cA (8 + 37) Q) 37 328 (ml_A base) := by
  refine Met.ofW (cc := cX4_init) (maxL := 2) (ret := none) (by decide) rfl ?_
  intro p e s m args below meth c s₁ B hml hv
  obtain ⟨rfl, ⟨hP, hK, hok⟩, hs, hNN⟩ := hv
  have hini : meth.name = "<init>" := (name_of_methodNamed B.named B.method).1
  have X : ml_X p s m c meth _ D cA cX4_init 2 RX4 none := ⟨B.exec, B.bytes, hml, findClass_of_methodNamed B.named, fun w hw => atoms_spec (ws := Cond.code yX4_init cX4_init 2 none :: ml_T) B.pre w (List.mem_cons_of_mem _ hw), hK, B.notSynchronized, B.returns⟩
  have hl := lv_entry [.ref (base + (8 : Int).toNat)] (n := 2) (Nat.le_of_ble_eq_true rfl)
  rw [lg_entry_eq]
  generalize (lg_sl [.ref (base + (8 : Int).toNat)] ++ List.replicate (2 - (lg_sl [.ref (base + (8 : Int).toNat)]).length) Slot.unset).toArray = ls at hl ⊢
  have hl : lv_has ls 2 [(0, .ref (base + (8 : Int).toNat))] := hl
  unfold f_X4_init at hw
  suffices hV : ml_V p l e rm_X4_init s m [.ref (base + (8 : Int).toNat)].toArray below meth c (MQ below (ml_QC base D cA (8 + 37) Q) [.ref (base + (8 : Int).toNat)].toArray s 37 328 (ml_A base)) base D cA 0 0 0 (8 + 0) σ (F0 m 0 ls []) from hV s.heap [] hP va_S.rf hok ml_RO0
  refine ml_aload_n (pc := 0) X hl 0 rfl rfl dX4_init_0 ?_
  refine ml_objInit (pc := 1) X ⟨tw_1_91, tw_1_24, tw_1_25⟩ hl ⟨by decide, by decide⟩ (Nat.le_of_ble_eq_true rfl) dX4_init_1 ?_
  refine ml_aload_n (pc := 4) X hl 0 rfl rfl dX4_init_4 ?_
  obtain ⟨z1, hw⟩ := hw
  refine ml_newO (n0 := 8) (kc := 0) (ks := 0) (pc := 5) (k := 9) X hs ⟨tw_1_92, tw_1_93, tw_1_6⟩ in_X3 rfl (by decide) tk_X3 df_X3 (Or.inr (by omega)) (by omega) (by omega) (by decide +kernel) z1 ⟨by decide, by decide⟩ dX4_init_5 ?_
  refine ml_dup (pc := 8) X dX4_init_8 rfl ?_
  refine ml_callC (n0 := 8) (kc := 1) (ks := 6) (pc := 9) (k := 9) (mc := 1) (ms := 0) X hs hNN (c_X3_init l base D cA σ _ hw) ⟨⟨(List.mem_of_getElem? (i := 3) rfl), tw_1_95, tw_1_6, tw_1_96⟩, rfl, by decide +kernel⟩ ⟨rfl, rfl⟩ ⟨by decide, by decide⟩ (by omega) hl (Nat.le_of_ble_eq_true rfl) ⟨by decide, by decide⟩ dX4_init_9 (fun σ2 hw => ?_)
  refine ml_putF (pc := 12) (x := 9) (k := 8) X hini in_X4 rfl (by decide) tk_X4 nmX4 0 (by decide) rfl rfl tw_1_166 (ml_k8 (by decide)) dX4_init_12 (ml_fvO (by omega)) (show (0 : Int) ≤ 9 by omega) rfl rfl (Or.inl (by omega)) (fun σ3 g3 => ?_)
  have hw := hw σ3 g3
  refine ml_aload_n (pc := 15) X hl 0 rfl rfl dX4_init_15 ?_
  refine ml_bipush (pc := 16) X dX4_init_16 (by decide) ?_
  obtain ⟨z4, hw⟩ := hw
  refine ml_newR (n0 := 8) (kc := 2) (ks := 6) (pc := 18) (k := 11) X hs 5 7 tw_1_120 hNN.2.1 rfl (by omega) (by omega) (by decide +kernel) (fun f hf => by show _ = _; unfold ml_cell; simp only [hf]; rfl) z4 (by decide) ⟨by decide, by decide⟩ dX4_init_18 ?_
  refine ml_putF (pc := 21) (x := 11) (k := 8) X hini in_X4 rfl (by decide) tk_X4 nmX4 1 (by decide) rfl rfl tw_1_167 (ml_k8 (by decide)) dX4_init_21 (ml_fvA (by omega)) (show (0 : Int) ≤ 11 by omega) rfl rfl (Or.inl (by omega)) (fun σ5 g5 => ?_)
  have hw := hw σ5 g5
  refine ml_aload_n (pc := 24) X hl 0 rfl rfl dX4_init_24 ?_
  refine ml_bipush (pc := 25) X dX4_init_25 (by decide) ?_
  obtain ⟨z6, hw⟩ := hw
  refine ml_newA (n0 := 8) (kc := 3) (ks := 13) (pc := 27) (k := 12) X hs .int .int 1 7 tw_1_42 rfl rfl (fun _ _ h => h) (7, .inl (fun _ => 0)) (fun _ => rfl) (by omega) (by omega) (by decide +kernel) (fun f hf => by show _ = _; unfold ml_cell; simp only [hf]; rfl) z6 (by decide) (by decide) ⟨by decide, by decide⟩ dX4_init_27 ?_
  refine ml_putF (pc := 29) (x := 12) (k := 8) X hini in_X4 rfl (by decide) tk_X4 nmX4 2 (by decide) rfl rfl tw_1_168 (ml_k8 (by decide)) dX4_init_29 (ml_fvA (by omega)) (show (0 : Int) ≤ 12 by omega) rfl rfl (Or.inl (by omega)) (fun σ7 g7 => ?_)
  have hw := hw σ7 g7
  refine ml_aload_n (pc := 32) X hl 0 rfl rfl dX4_init_32 ?_
  obtain ⟨z8, hw⟩ := hw
  refine ml_newO (n0 := 8) (kc := 4) (ks := 20) (pc := 33) (k := 13) X hs ⟨tw_1_120, tw_1_122, tw_1_7⟩ in_X9 rfl (by decide) tk_X9 df_X9 (Or.inr (by omega)) (by omega) (by omega) (by decide +kernel) z8 ⟨by decide, by decide⟩ dX4_init_33 ?_
  refine ml_dup (pc := 36) X dX4_init_36 rfl ?_
  refine ml_callC (n0 := 8) (kc := 5) (ks := 28) (pc := 37) (k := 13) (mc := 2) (ms := 20) X hs hNN (c_X9_init l base D cA (8 + 5) 13 (by omega) (by decide +kernel) σ7 _ hw) ⟨⟨(List.mem_of_getElem? (i := 4) rfl), tw_1_124, tw_1_7, tw_1_125⟩, rfl, by decide +kernel⟩ ⟨rfl, rfl⟩ ⟨by decide, by decide⟩ (by omega) hl (Nat.le_of_ble_eq_true rfl) ⟨by decide, by decide⟩ dX4_init_37 (fun σ9 hw => ?_)
  refine ml_putF (pc := 40) (x := 13) (k := 8) X hini in_X4 rfl (by decide) tk_X4 nmX4 3 (by decide) rfl rfl tw_1_169 (ml_k8 (by decide)) dX4_init_40 (ml_fvO (by omega)) (show (0 : Int) ≤ 13 by omega) rfl rfl (Or.inl (by omega)) (fun σ10 g10 => ?_)
  have hw := hw σ10 g10
  refine ml_aload_n (pc := 43) X hl 0 rfl rfl dX4_init_43 ?_
  obtain ⟨z11, hw⟩ := hw
  refine ml_newO (n0 := 8) (kc := 7) (ks := 48) (pc := 44) (k := 16) X hs ⟨tw_1_120, tw_1_122, tw_1_7⟩ in_X9 rfl (by decide) tk_X9 df_X9 (Or.inr (by omega)) (by omega) (by omega) (by decide +kernel) z11 ⟨by decide, by decide⟩ dX4_init_44 ?_
  refine ml_dup (pc := 47) X dX4_init_47 rfl ?_
  refine ml_callC (n0 := 8) (kc := 8) (ks := 56) (pc := 48) (k := 16) (mc := 2) (ms := 20) X hs hNN (c_X9_init l base D cA (8 + 8) 16 (by omega) (by decide +kernel) σ10 _ hw) ⟨⟨(List.mem_of_getElem? (i := 4) rfl), tw_1_124, tw_1_7, tw_1_125⟩, rfl, by decide +kernel⟩ ⟨rfl, rfl⟩ ⟨by decide, by decide⟩ (by omega) hl (Nat.le_of_ble_eq_true rfl) ⟨by decide, by decide⟩ dX4_init_48 (fun σ12 hw => ?_)
  refine ml_putF (pc := 51) (x := 16) (k := 8) X hini in_X4 rfl (by decide) tk_X4 nmX4 4 (by decide) rfl rfl tw_1_170 (ml_k8 (by decide)) dX4_init_51 (ml_fvO (by omega)) (show (0 : Int) ≤ 16 by omega) rfl rfl (Or.inl (by omega)) (fun σ13 g13 => ?_)
  have hw := hw σ13 g13
  refine ml_aload_n (pc := 54) X hl 0 rfl rfl dX4_init_54 ?_
  obtain ⟨z14, hw⟩ := hw
  refine ml_newO (n0 := 8) (kc := 10) (ks := 76) (pc := 55) (k := 19) X hs ⟨tw_1_120, tw_1_122, tw_1_7⟩ in_X9 rfl (by decide) tk_X9 df_X9 (Or.inr (by omega)) (by omega) (by omega) (by decide +kernel) z14 ⟨by decide, by decide⟩ dX4_init_55 ?_
  refine ml_dup (pc := 58) X dX4_init_58 rfl ?_
  refine ml_callC (n0 := 8) (kc := 11) (ks := 84) (pc := 59) (k := 19) (mc := 2) (ms := 20) X hs hNN (c_X9_init l base D cA (8 + 11) 19 (by omega) (by decide +kernel) σ13 _ hw) ⟨⟨(List.mem_of_getElem? (i := 4) rfl), tw_1_124, tw_1_7, tw_1_125⟩, rfl, by decide +kernel⟩ ⟨rfl, rfl⟩ ⟨by decide, by decide⟩ (by omega) hl (Nat.le_of_ble_eq_true rfl) ⟨by decide, by decide⟩ dX4_init_59 (fun σ15 hw => ?_)
  refine ml_putF (pc := 62) (x := 19) (k := 8) X hini in_X4 rfl (by decide) tk_X4 nmX4 5 (by decide) rfl rfl tw_1_171 (ml_k8 (by decide)) dX4_init_62 (ml_fvO (by omega)) (show (0 : Int) ≤ 19 by omega) rfl rfl (Or.inl (by omega)) (fun σ16 g16 => ?_)
  have hw := hw σ16 g16
  refine ml_aload_n (pc := 65) X hl 0 rfl rfl dX4_init_65 ?_
  obtain ⟨z17, hw⟩ := hw
  refine ml_newO (n0 := 8) (kc := 13) (ks := 104) (pc := 66) (k := 22) X hs ⟨tw_1_120, tw_1_122, tw_1_7⟩ in_X9 rfl (by decide) tk_X9 df_X9 (Or.inr (by omega)) (by omega) (by omega) (by decide +kernel) z17 ⟨by decide, by decide⟩ dX4_init_66 ?_
  refine ml_dup (pc := 69) X dX4_init_69 rfl ?_
  refine ml_callC (n0 := 8) (kc := 14) (ks := 112) (pc := 70) (k := 22) (mc := 2) (ms := 20) X hs hNN (c_X9_init l base D cA (8 + 14) 22 (by omega) (by decide +kernel) σ16 _ hw) ⟨⟨(List.mem_of_getElem? (i := 4) rfl), tw_1_124, tw_1_7, tw_1_125⟩, rfl, by decide +kernel⟩ ⟨rfl, rfl⟩ ⟨by decide, by decide⟩ (by omega) hl (Nat.le_of_ble_eq_true rfl) ⟨by decide, by decide⟩ dX4_init_70 (fun σ18 hw => ?_)
  refine ml_putF (pc := 73) (x := 22) (k := 8) X hini in_X4 rfl (by decide) tk_X4 nmX4 6 (by decide) rfl rfl tw_1_172 (ml_k8 (by decide)) dX4_init_73 (ml_fvO (by omega)) (show (0 : Int) ≤ 22 by omega) rfl rfl (Or.inl (by omega)) (fun σ19 g19 => ?_)
  have hw := hw σ19 g19
  refine ml_iconst (pc := 76) X dX4_init_76 ?_
  refine ml_istore_n (pc := 77) X rfl hl (by decide) (lst' := [(1, .int (Int32.ofInt 0)), (0, .ref (base + (8 : Int).toNat))]) rfl dX4_init_77 (fun ls hl => ?_)
  refine ml_iload_n (pc := 78) X hl 0 rfl rfl dX4_init_78 ?_
  refine ml_bipush (pc := 79) X dX4_init_79 (by decide) ?_
  refine ml_icmp_gt (pc := 81) (tgt := 103) X ⟨by decide, by decide⟩ ⟨by decide, by decide⟩ dX4_init_81 (by decide) (fun c20 => absurd c20 (by decide)) (fun c20 => ?_)
  refine ml_aload_n (pc := 84) X hl 1 rfl rfl dX4_init_84 ?_
  obtain ⟨e21, hw⟩ := hw
  refine ml_getg (pc := 85) (k := 8) X in_X4 rfl (by decide) 1 (by decide) tw_1_167 (ml_k8 (by decide)) dX4_init_85 (v := .ref (base + (11 : Int).toNat)) (fun _ => by show (if σ19 8 1 = 0 then Value.null else .ref (base + (σ19 8 1).toNat)) = _; rw [e21]; exact if_neg (by omega)) (fun _ => ?_)
  refine ml_iload_n (pc := 88) X hl 0 rfl rfl dX4_init_88 ?_
  obtain ⟨z22, hw⟩ := hw
  refine ml_newO (n0 := 8) (kc := 16) (ks := 132) (pc := 89) (k := 25) X hs ⟨tw_1_120, tw_1_122, tw_1_7⟩ in_X9 rfl (by decide) tk_X9 df_X9 (Or.inr (by omega)) (by omega) (by omega) (by decide +kernel) z22 ⟨by decide, by decide⟩ dX4_init_89 ?_
  refine ml_dup (pc := 92) X dX4_init_92 rfl ?_
  refine ml_callC (n0 := 8) (kc := 17) (ks := 140) (pc := 93) (k := 25) (mc := 2) (ms := 20) X hs hNN (c_X9_init l base D cA (8 + 17) 25 (by omega) (by decide +kernel) σ19 _ hw) ⟨⟨(List.mem_of_getElem? (i := 4) rfl), tw_1_124, tw_1_7, tw_1_125⟩, rfl, by decide +kernel⟩ ⟨rfl, rfl⟩ ⟨by decide, by decide⟩ (by omega) hl (Nat.le_of_ble_eq_true rfl) ⟨by decide, by decide⟩ dX4_init_93 (fun σ23 hw => ?_)
  refine ml_aast (pc := 96) (k := 11) (i := 0) (v := 25) X (ml_k11 (by decide)) (fun _ => rfl) rfl (ml_k25 (by decide)) (by decide) rfl (Or.inl (by decide +kernel)) (by decide) (by decide) dX4_init_96 (fun σ24 g24 => ?_)
  have hw := hw σ24 g24
  refine ml_iinc (pc := 97) X (x := 0) (y := 1) (by decide) hl 0 rfl (by decide) (lst' := [(1, .int (Int32.ofInt 1)), (0, .ref (base + (8 : Int).toNat))]) rfl dX4_init_97 (fun ls hl => ?_)
  refine ml_goto (pc := 100) (tgt := 78) X dX4_init_100 (by decide) ?_
  refine ml_iload_n (pc := 78) X hl 0 rfl rfl dX4_init_78 ?_
  refine ml_bipush (pc := 79) X dX4_init_79 (by decide) ?_
  refine ml_icmp_gt (pc := 81) (tgt := 103) X ⟨by decide, by decide⟩ ⟨by decide, by decide⟩ dX4_init_81 (by decide) (fun c25 => absurd c25 (by decide)) (fun c25 => ?_)
  refine ml_aload_n (pc := 84) X hl 1 rfl rfl dX4_init_84 ?_
  obtain ⟨e26, hw⟩ := hw
  refine ml_getg (pc := 85) (k := 8) X in_X4 rfl (by decide) 1 (by decide) tw_1_167 (ml_k8 (by decide)) dX4_init_85 (v := .ref (base + (11 : Int).toNat)) (fun _ => by show (if σ24 8 1 = 0 then Value.null else .ref (base + (σ24 8 1).toNat)) = _; rw [e26]; exact if_neg (by omega)) (fun _ => ?_)
  refine ml_iload_n (pc := 88) X hl 0 rfl rfl dX4_init_88 ?_
  obtain ⟨z27, hw⟩ := hw
  refine ml_newO (n0 := 8) (kc := 19) (ks := 160) (pc := 89) (k := 28) X hs ⟨tw_1_120, tw_1_122, tw_1_7⟩ in_X9 rfl (by decide) tk_X9 df_X9 (Or.inr (by omega)) (by omega) (by omega) (by decide +kernel) z27 ⟨by decide, by decide⟩ dX4_init_89 ?_
  refine ml_dup (pc := 92) X dX4_init_92 rfl ?_
  refine ml_callC (n0 := 8) (kc := 20) (ks := 168) (pc := 93) (k := 28) (mc := 2) (ms := 20) X hs hNN (c_X9_init l base D cA (8 + 20) 28 (by omega) (by decide +kernel) σ24 _ hw) ⟨⟨(List.mem_of_getElem? (i := 4) rfl), tw_1_124, tw_1_7, tw_1_125⟩, rfl, by decide +kernel⟩ ⟨rfl, rfl⟩ ⟨by decide, by decide⟩ (by omega) hl (Nat.le_of_ble_eq_true rfl) ⟨by decide, by decide⟩ dX4_init_93 (fun σ28 hw => ?_)
  refine ml_aast (pc := 96) (k := 11) (i := 1) (v := 28) X (ml_k11 (by decide)) (fun _ => rfl) rfl (ml_k28 (by decide)) (by decide) rfl (Or.inl (by decide +kernel)) (by decide) (by decide) dX4_init_96 (fun σ29 g29 => ?_)
  have hw := hw σ29 g29
  refine ml_iinc (pc := 97) X (x := 1) (y := 2) (by decide) hl 0 rfl (by decide) (lst' := [(1, .int (Int32.ofInt 2)), (0, .ref (base + (8 : Int).toNat))]) rfl dX4_init_97 (fun ls hl => ?_)
  refine ml_goto (pc := 100) (tgt := 78) X dX4_init_100 (by decide) ?_
  refine ml_iload_n (pc := 78) X hl 0 rfl rfl dX4_init_78 ?_
  refine ml_bipush (pc := 79) X dX4_init_79 (by decide) ?_
  refine ml_icmp_gt (pc := 81) (tgt := 103) X ⟨by decide, by decide⟩ ⟨by decide, by decide⟩ dX4_init_81 (by decide) (fun c30 => absurd c30 (by decide)) (fun c30 => ?_)
  refine ml_aload_n (pc := 84) X hl 1 rfl rfl dX4_init_84 ?_
  obtain ⟨e31, hw⟩ := hw
  refine ml_getg (pc := 85) (k := 8) X in_X4 rfl (by decide) 1 (by decide) tw_1_167 (ml_k8 (by decide)) dX4_init_85 (v := .ref (base + (11 : Int).toNat)) (fun _ => by show (if σ29 8 1 = 0 then Value.null else .ref (base + (σ29 8 1).toNat)) = _; rw [e31]; exact if_neg (by omega)) (fun _ => ?_)
  refine ml_iload_n (pc := 88) X hl 0 rfl rfl dX4_init_88 ?_
  obtain ⟨z32, hw⟩ := hw
  refine ml_newO (n0 := 8) (kc := 22) (ks := 188) (pc := 89) (k := 31) X hs ⟨tw_1_120, tw_1_122, tw_1_7⟩ in_X9 rfl (by decide) tk_X9 df_X9 (Or.inr (by omega)) (by omega) (by omega) (by decide +kernel) z32 ⟨by decide, by decide⟩ dX4_init_89 ?_
  refine ml_dup (pc := 92) X dX4_init_92 rfl ?_
  refine ml_callC (n0 := 8) (kc := 23) (ks := 196) (pc := 93) (k := 31) (mc := 2) (ms := 20) X hs hNN (c_X9_init l base D cA (8 + 23) 31 (by omega) (by decide +kernel) σ29 _ hw) ⟨⟨(List.mem_of_getElem? (i := 4) rfl), tw_1_124, tw_1_7, tw_1_125⟩, rfl, by decide +kernel⟩ ⟨rfl, rfl⟩ ⟨by decide, by decide⟩ (by omega) hl (Nat.le_of_ble_eq_true rfl) ⟨by decide, by decide⟩ dX4_init_93 (fun σ33 hw => ?_)
  refine ml_aast (pc := 96) (k := 11) (i := 2) (v := 31) X (ml_k11 (by decide)) (fun _ => rfl) rfl (ml_k31 (by decide)) (by decide) rfl (Or.inl (by decide +kernel)) (by decide) (by decide) dX4_init_96 (fun σ34 g34 => ?_)
  have hw := hw σ34 g34
  refine ml_iinc (pc := 97) X (x := 2) (y := 3) (by decide) hl 0 rfl (by decide) (lst' := [(1, .int (Int32.ofInt 3)), (0, .ref (base + (8 : Int).toNat))]) rfl dX4_init_97 (fun ls hl => ?_)
  refine ml_goto (pc := 100) (tgt := 78) X dX4_init_100 (by decide) ?_
  refine ml_iload_n (pc := 78) X hl 0 rfl rfl dX4_init_78 ?_
  refine ml_bipush (pc := 79) X dX4_init_79 (by decide) ?_
  refine ml_icmp_gt (pc := 81) (tgt := 103) X ⟨by decide, by decide⟩ ⟨by decide, by decide⟩ dX4_init_81 (by decide) (fun c35 => absurd c35 (by decide)) (fun c35 => ?_)
  refine ml_aload_n (pc := 84) X hl 1 rfl rfl dX4_init_84 ?_
  obtain ⟨e36, hw⟩ := hw
  refine ml_getg (pc := 85) (k := 8) X in_X4 rfl (by decide) 1 (by decide) tw_1_167 (ml_k8 (by decide)) dX4_init_85 (v := .ref (base + (11 : Int).toNat)) (fun _ => by show (if σ34 8 1 = 0 then Value.null else .ref (base + (σ34 8 1).toNat)) = _; rw [e36]; exact if_neg (by omega)) (fun _ => ?_)
  refine ml_iload_n (pc := 88) X hl 0 rfl rfl dX4_init_88 ?_
  obtain ⟨z37, hw⟩ := hw
  refine ml_newO (n0 := 8) (kc := 25) (ks := 216) (pc := 89) (k := 34) X hs ⟨tw_1_120, tw_1_122, tw_1_7⟩ in_X9 rfl (by decide) tk_X9 df_X9 (Or.inr (by omega)) (by omega) (by omega) (by decide +kernel) z37 ⟨by decide, by decide⟩ dX4_init_89 ?_
  refine ml_dup (pc := 92) X dX4_init_92 rfl ?_
  refine ml_callC (n0 := 8) (kc := 26) (ks := 224) (pc := 93) (k := 34) (mc := 2) (ms := 20) X hs hNN (c_X9_init l base D cA (8 + 26) 34 (by omega) (by decide +kernel) σ34 _ hw) ⟨⟨(List.mem_of_getElem? (i := 4) rfl), tw_1_124, tw_1_7, tw_1_125⟩, rfl, by decide +kernel⟩ ⟨rfl, rfl⟩ ⟨by decide, by decide⟩ (by omega) hl (Nat.le_of_ble_eq_true rfl) ⟨by decide, by decide⟩ dX4_init_93 (fun σ38 hw => ?_)
  refine ml_aast (pc := 96) (k := 11) (i := 3) (v := 34) X (ml_k11 (by decide)) (fun _ => rfl) rfl (ml_k34 (by decide)) (by decide) rfl (Or.inl (by decide +kernel)) (by decide) (by decide) dX4_init_96 (fun σ39 g39 => ?_)
  have hw := hw σ39 g39
  refine ml_iinc (pc := 97) X (x := 3) (y := 4) (by decide) hl 0 rfl (by decide) (lst' := [(1, .int (Int32.ofInt 4)), (0, .ref (base + (8 : Int).toNat))]) rfl dX4_init_97 (fun ls hl => ?_)
  refine ml_goto (pc := 100) (tgt := 78) X dX4_init_100 (by decide) ?_
  refine ml_iload_n (pc := 78) X hl 0 rfl rfl dX4_init_78 ?_
  refine ml_bipush (pc := 79) X dX4_init_79 (by decide) ?_
  refine ml_icmp_gt (pc := 81) (tgt := 103) X ⟨by decide, by decide⟩ ⟨by decide, by decide⟩ dX4_init_81 (by decide) (fun c40 => absurd c40 (by decide)) (fun c40 => ?_)
  refine ml_aload_n (pc := 84) X hl 1 rfl rfl dX4_init_84 ?_
  obtain ⟨e41, hw⟩ := hw
  refine ml_getg (pc := 85) (k := 8) X in_X4 rfl (by decide) 1 (by decide) tw_1_167 (ml_k8 (by decide)) dX4_init_85 (v := .ref (base + (11 : Int).toNat)) (fun _ => by show (if σ39 8 1 = 0 then Value.null else .ref (base + (σ39 8 1).toNat)) = _; rw [e41]; exact if_neg (by omega)) (fun _ => ?_)
  refine ml_iload_n (pc := 88) X hl 0 rfl rfl dX4_init_88 ?_
  obtain ⟨z42, hw⟩ := hw
  refine ml_newO (n0 := 8) (kc := 28) (ks := 244) (pc := 89) (k := 37) X hs ⟨tw_1_120, tw_1_122, tw_1_7⟩ in_X9 rfl (by decide) tk_X9 df_X9 (Or.inr (by omega)) (by omega) (by omega) (by decide +kernel) z42 ⟨by decide, by decide⟩ dX4_init_89 ?_
  refine ml_dup (pc := 92) X dX4_init_92 rfl ?_
  refine ml_callC (n0 := 8) (kc := 29) (ks := 252) (pc := 93) (k := 37) (mc := 2) (ms := 20) X hs hNN (c_X9_init l base D cA (8 + 29) 37 (by omega) (by decide +kernel) σ39 _ hw) ⟨⟨(List.mem_of_getElem? (i := 4) rfl), tw_1_124, tw_1_7, tw_1_125⟩, rfl, by decide +kernel⟩ ⟨rfl, rfl⟩ ⟨by decide, by decide⟩ (by omega) hl (Nat.le_of_ble_eq_true rfl) ⟨by decide, by decide⟩ dX4_init_93 (fun σ43 hw => ?_)
  refine ml_aast (pc := 96) (k := 11) (i := 4) (v := 37) X (ml_k11 (by decide)) (fun _ => rfl) rfl (ml_k37 (by decide)) (by decide) rfl (Or.inl (by decide +kernel)) (by decide) (by decide) dX4_init_96 (fun σ44 g44 => ?_)
  have hw := hw σ44 g44
  refine ml_iinc (pc := 97) X (x := 4) (y := 5) (by decide) hl 0 rfl (by decide) (lst' := [(1, .int (Int32.ofInt 5)), (0, .ref (base + (8 : Int).toNat))]) rfl dX4_init_97 (fun ls hl => ?_)
  refine ml_goto (pc := 100) (tgt := 78) X dX4_init_100 (by decide) ?_
  refine ml_iload_n (pc := 78) X hl 0 rfl rfl dX4_init_78 ?_
  refine ml_bipush (pc := 79) X dX4_init_79 (by decide) ?_
  refine ml_icmp_gt (pc := 81) (tgt := 103) X ⟨by decide, by decide⟩ ⟨by decide, by decide⟩ dX4_init_81 (by decide) (fun c45 => absurd c45 (by decide)) (fun c45 => ?_)
  refine ml_aload_n (pc := 84) X hl 1 rfl rfl dX4_init_84 ?_
  obtain ⟨e46, hw⟩ := hw
  refine ml_getg (pc := 85) (k := 8) X in_X4 rfl (by decide) 1 (by decide) tw_1_167 (ml_k8 (by decide)) dX4_init_85 (v := .ref (base + (11 : Int).toNat)) (fun _ => by show (if σ44 8 1 = 0 then Value.null else .ref (base + (σ44 8 1).toNat)) = _; rw [e46]; exact if_neg (by omega)) (fun _ => ?_)
  refine ml_iload_n (pc := 88) X hl 0 rfl rfl dX4_init_88 ?_
  obtain ⟨z47, hw⟩ := hw
  refine ml_newO (n0 := 8) (kc := 31) (ks := 272) (pc := 89) (k := 40) X hs ⟨tw_1_120, tw_1_122, tw_1_7⟩ in_X9 rfl (by decide) tk_X9 df_X9 (Or.inr (by omega)) (by omega) (by omega) (by decide +kernel) z47 ⟨by decide, by decide⟩ dX4_init_89 ?_
  refine ml_dup (pc := 92) X dX4_init_92 rfl ?_
  refine ml_callC (n0 := 8) (kc := 32) (ks := 280) (pc := 93) (k := 40) (mc := 2) (ms := 20) X hs hNN (c_X9_init l base D cA (8 + 32) 40 (by omega) (by decide +kernel) σ44 _ hw) ⟨⟨(List.mem_of_getElem? (i := 4) rfl), tw_1_124, tw_1_7, tw_1_125⟩, rfl, by decide +kernel⟩ ⟨rfl, rfl⟩ ⟨by decide, by decide⟩ (by omega) hl (Nat.le_of_ble_eq_true rfl) ⟨by decide, by decide⟩ dX4_init_93 (fun σ48 hw => ?_)
  refine ml_aast (pc := 96) (k := 11) (i := 5) (v := 40) X (ml_k11 (by decide)) (fun _ => rfl) rfl (ml_k40 (by decide)) (by decide) rfl (Or.inl (by decide +kernel)) (by decide) (by decide) dX4_init_96 (fun σ49 g49 => ?_)
  have hw := hw σ49 g49
  refine ml_iinc (pc := 97) X (x := 5) (y := 6) (by decide) hl 0 rfl (by decide) (lst' := [(1, .int (Int32.ofInt 6)), (0, .ref (base + (8 : Int).toNat))]) rfl dX4_init_97 (fun ls hl => ?_)
  refine ml_goto (pc := 100) (tgt := 78) X dX4_init_100 (by decide) ?_
  refine ml_iload_n (pc := 78) X hl 0 rfl rfl dX4_init_78 ?_
  refine ml_bipush (pc := 79) X dX4_init_79 (by decide) ?_
  refine ml_icmp_gt (pc := 81) (tgt := 103) X ⟨by decide, by decide⟩ ⟨by decide, by decide⟩ dX4_init_81 (by decide) (fun c50 => absurd c50 (by decide)) (fun c50 => ?_)
  refine ml_aload_n (pc := 84) X hl 1 rfl rfl dX4_init_84 ?_
  obtain ⟨e51, hw⟩ := hw
  refine ml_getg (pc := 85) (k := 8) X in_X4 rfl (by decide) 1 (by decide) tw_1_167 (ml_k8 (by decide)) dX4_init_85 (v := .ref (base + (11 : Int).toNat)) (fun _ => by show (if σ49 8 1 = 0 then Value.null else .ref (base + (σ49 8 1).toNat)) = _; rw [e51]; exact if_neg (by omega)) (fun _ => ?_)
  refine ml_iload_n (pc := 88) X hl 0 rfl rfl dX4_init_88 ?_
  obtain ⟨z52, hw⟩ := hw
  refine ml_newO (n0 := 8) (kc := 34) (ks := 300) (pc := 89) (k := 43) X hs ⟨tw_1_120, tw_1_122, tw_1_7⟩ in_X9 rfl (by decide) tk_X9 df_X9 (Or.inr (by omega)) (by omega) (by omega) (by decide +kernel) z52 ⟨by decide, by decide⟩ dX4_init_89 ?_
  refine ml_dup (pc := 92) X dX4_init_92 rfl ?_
  refine ml_callC (n0 := 8) (kc := 35) (ks := 308) (pc := 93) (k := 43) (mc := 2) (ms := 20) X hs hNN (c_X9_init l base D cA (8 + 35) 43 (by omega) (by decide +kernel) σ49 _ hw) ⟨⟨(List.mem_of_getElem? (i := 4) rfl), tw_1_124, tw_1_7, tw_1_125⟩, rfl, by decide +kernel⟩ ⟨rfl, rfl⟩ ⟨by decide, by decide⟩ (by omega) hl (Nat.le_of_ble_eq_true rfl) ⟨by decide, by decide⟩ dX4_init_93 (fun σ53 hw => ?_)
  refine ml_aast (pc := 96) (k := 11) (i := 6) (v := 43) X (ml_k11 (by decide)) (fun _ => rfl) rfl (ml_k43 (by decide)) (by decide) rfl (Or.inl (by decide +kernel)) (by decide) (by decide) dX4_init_96 (fun σ54 g54 => ?_)
  have hw := hw σ54 g54
  refine ml_iinc (pc := 97) X (x := 6) (y := 7) (by decide) hl 0 rfl (by decide) (lst' := [(1, .int (Int32.ofInt 7)), (0, .ref (base + (8 : Int).toNat))]) rfl dX4_init_97 (fun ls hl => ?_)
  refine ml_goto (pc := 100) (tgt := 78) X dX4_init_100 (by decide) ?_
  refine ml_iload_n (pc := 78) X hl 0 rfl rfl dX4_init_78 ?_
  refine ml_bipush (pc := 79) X dX4_init_79 (by decide) ?_
  refine ml_icmp_gt (pc := 81) (tgt := 103) X ⟨by decide, by decide⟩ ⟨by decide, by decide⟩ dX4_init_81 (by decide) (fun c55 => ?_) (fun c55 => absurd c55 (by decide))
  exact ml_vretC (pc := 103) X hw dX4_init_103
theorem dX6_init_0 : decode cX6_init 0 = .ok (.aload_n 0, 1) := by decide +kernel
theorem dX6_init_1 : decode cX6_init 1 = .ok (.invokespecial 3, 3) := by decide +kernel
theorem dX6_init_4 : decode cX6_init 4 = .ok (.aload_n 0, 1) := by decide +kernel
theorem dX6_init_5 : decode cX6_init 5 = .ok (.bipush 65, 2) := by decide +kernel
theorem dX6_init_7 : decode cX6_init 7 = .ok (.newarray .int, 2) := by decide +kernel
theorem dX6_init_9 : decode cX6_init 9 = .ok (.putfield 11, 3) := by decide +kernel
theorem dX6_init_12 : decode cX6_init 12 = .ok (.aload_n 0, 1) := by decide +kernel
theorem dX6_init_13 : decode cX6_init 13 = .ok (.bipush 65, 2) := by decide +kernel
theorem dX6_init_15 : decode cX6_init 15 = .ok (.newarray .long, 2) := by decide +kernel
theorem dX6_init_17 : decode cX6_init 17 = .ok (.putfield 15, 3) := by decide +kernel
theorem dX6_init_20 : decode cX6_init 20 = .ok (.aload_n 0, 1) := by decide +kernel
theorem dX6_init_21 : decode cX6_init 21 = .ok (.new 19, 3) := by decide +kernel
theorem dX6_init_24 : decode cX6_init 24 = .ok (.dup, 1) := by decide +kernel
theorem dX6_init_25 : decode cX6_init 25 = .ok (.invokespecial 21, 3) := by decide +kernel
theorem dX6_init_28 : decode cX6_init 28 = .ok (.putfield 22, 3) := by decide +kernel
theorem dX6_init_31 : decode cX6_init 31 = .ok (.aload_n 0, 1) := by decide +kernel
theorem dX6_init_32 : decode cX6_init 32 = .ok (.new 19, 3) := by decide +kernel
theorem dX6_init_35 : decode cX6_init 35 = .ok (.dup, 1) := by decide +kernel
theorem dX6_init_36 : decode cX6_init 36 = .ok (.invokespecial 21, 3) := by decide +kernel
theorem dX6_init_39 : decode cX6_init 39 = .ok (.putfield 26, 3) := by decide +kernel
theorem dX6_init_42 : decode cX6_init 42 = .ok (.aload_n 0, 1) := by decide +kernel
theorem dX6_init_43 : decode cX6_init 43 = .ok (.iconst 1, 1) := by decide +kernel
theorem dX6_init_44 : decode cX6_init 44 = .ok (.putfield 29, 3) := by decide +kernel
theorem dX6_init_47 : decode cX6_init 47 = .ok (.aload_n 0, 1) := by decide +kernel
theorem dX6_init_48 : decode cX6_init 48 = .ok (.iconst 1, 1) := by decide +kernel
theorem dX6_init_49 : decode cX6_init 49 = .ok (.putfield 33, 3) := by decide +kernel
theorem dX6_init_52 : decode cX6_init 52 = .ok (.aload_n 0, 1) := by decide +kernel
theorem dX6_init_53 : decode cX6_init 53 = .ok (.lconst 0, 1) := by decide +kernel
theorem dX6_init_54 : decode cX6_init 54 = .ok (.putfield 36, 3) := by decide +kernel
theorem dX6_init_57 : decode cX6_init 57 = .ok (.aload_n 0, 1) := by decide +kernel
theorem dX6_init_58 : decode cX6_init 58 = .ok (.iconst 1, 1) := by decide +kernel
theorem dX6_init_59 : decode cX6_init 59 = .ok (.putfield 40, 3) := by decide +kernel
theorem dX6_init_62 : decode cX6_init 62 = .ok (.aload_n 0, 1) := by decide +kernel
theorem dX6_init_63 : decode cX6_init 63 = .ok (.lconst 0, 1) := by decide +kernel
theorem dX6_init_64 : decode cX6_init 64 = .ok (.putfield 43, 3) := by decide +kernel
theorem dX6_init_67 : decode cX6_init 67 = .ok (.aload_n 0, 1) := by decide +kernel
theorem dX6_init_68 : decode cX6_init 68 = .ok (.iconst 1, 1) := by decide +kernel
theorem dX6_init_69 : decode cX6_init 69 = .ok (.putfield 46, 3) := by decide +kernel
theorem dX6_init_72 : decode cX6_init 72 = .ok (.return_, 1) := by decide +kernel
def f_X6_init (σ : ml_St) (Q : ml_St → Prop) : Prop :=
(∀ j : Int, σ 47 j = 0) ∧
∀ σ2, σ2 = ml_up σ 46 0 47 →
(∀ j : Int, σ2 48 j = 0) ∧
∀ σ4, σ4 = ml_up σ2 46 1 48 →
(∀ j : Int, σ4 49 j = 0) ∧
f_X9_init σ4 49 (fun σ6 =>
∀ σ7, σ7 = ml_up σ6 46 2 49 →
(∀ j : Int, σ7 52 j = 0) ∧
f_X9_init σ7 52 (fun σ9 =>
∀ σ10, σ10 = ml_up σ9 46 3 52 →
∀ σ11, σ11 = ml_up σ10 46 4 1 →
∀ σ12, σ12 = ml_up σ11 46 5 1 →
∀ σ13, σ13 = ml_up σ12 46 6 0 →
∀ σ14, σ14 = ml_up σ13 46 7 1 →
∀ σ15, σ15 = ml_up σ14 46 8 0 →
∀ σ16, σ16 = ml_up σ15 46 9 1 →
Q σ16))
def rm_X6_init : Room := { frames := 2, cells := 8, slots := 186, locals := 80 }
set_option maxRecDepth 100000 in
set_option maxHeartbeats 4000000 in
theorem c_X6_init (l : Launch) (base : Nat) (D : va_G) (cA : Nat → ClassId) (σ : ml_St) (Q : ml_St → Prop) (hw : f_X6_init σ Q) : Met l yX6_init (Cond.code yX6_init cX6_init 1 none :: ml_T) rm_X6_init (va_Pc [.ref (base + (46 : Int).toNat)] (ml_UC base D cA 46 σ)) (ml_QC base D cA (46 + 8) Q) 8 186 (ml_A base) := by
  refine Met.ofW (cc := cX6_init) (maxL := 1) (ret := none) (by decide) rfl ?_
  intro p e s m args below meth c s₁ B hml hv
  obtain ⟨rfl, ⟨hP, hK, hok⟩, hs, hNN⟩ := hv
  have hini : meth.name = "<init>" := (name_of_methodNamed B.named B.method).1
  have X : ml_X p s m c meth _ D cA cX6_init 1 RX6 none := ⟨B.exec, B.bytes, hml, findClass_of_methodNamed B.named, fun w hw => atoms_spec (ws := Cond.code yX6_init cX6_init 1 none :: ml_T) B.pre w (List.mem_cons_of_mem _ hw), hK, B.notSynchronized, B.returns⟩
  have hl := lv_entry [.ref (base + (46 : Int).toNat)] (n := 1) (Nat.le_of_ble_eq_true rfl)
  rw [lg_entry_eq]
  generalize (lg_sl [.ref (base + (46 : Int).toNat)] ++ List.replicate (1 - (lg_sl [.ref (base + (46 : Int).toNat)]).length) Slot.unset).toArray = ls at hl ⊢
  have hl : lv_has ls 1 [(0, .ref (base + (46 : Int).toNat))] := hl
  unfold f_X6_init at hw
  suffices hV : ml_V p l e rm_X6_init s m [.ref (base + (46 : Int).toNat)].toArray below meth c (MQ below (ml_QC base D cA (46 + 8) Q) [.ref (base + (46 : Int).toNat)].toArray s 8 186 (ml_A base)) base D cA 0 0 0 (46 + 0) σ (F0 m 0 ls []) from hV s.heap [] hP va_S.rf hok ml_RO0
  refine ml_aload_n (pc := 0) X hl 0 rfl rfl dX6_init_0 ?_
  refine ml_objInit (pc := 1) X ⟨tw_1_193, tw_1_24, tw_1_25⟩ hl ⟨by decide, by decide⟩ (Nat.le_of_ble_eq_true rfl) dX6_init_1 ?_
  refine ml_aload_n (pc := 4) X hl 0 rfl rfl dX6_init_4 ?_
  refine ml_bipush (pc := 5) X dX6_init_5 (by decide) ?_
  obtain ⟨z1, hw⟩ := hw
  refine ml_newA (n0 := 46) (kc := 0) (ks := 0) (pc := 7) (k := 47) X hs .int .int 1 65 tw_1_42 rfl rfl (fun _ _ h => h) (65, .inl (fun _ => 0)) (fun _ => rfl) (by omega) (by omega) (by decide +kernel) (fun f hf => by show _ = _; unfold ml_cell; simp only [hf]; rfl) z1 (by decide) (by decide) ⟨by decide, by decide⟩ dX6_init_7 ?_
  refine ml_putF (pc := 9) (x := 47) (k := 46) X hini in_X6 rfl (by decide) tk_X6 nmX6 0 (by decide) rfl rfl tw_1_196 (ml_k46 (by decide)) dX6_init_9 (ml_fvA (by omega)) (show (0 : Int) ≤ 47 by omega) rfl rfl (Or.inl (by omega)) (fun σ2 g2 => ?_)
  have hw := hw σ2 g2
  refine ml_aload_n (pc := 12) X hl 0 rfl rfl dX6_init_12 ?_
  refine ml_bipush (pc := 13) X dX6_init_13 (by decide) ?_
  obtain ⟨z3, hw⟩ := hw
  refine ml_newA (n0 := 46) (kc := 1) (ks := 65) (pc := 15) (k := 48) X hs .long .long 4 65 tw_1_165 rfl rfl (fun _ _ h => h) (65, .inr (.inl (fun _ => 0))) (fun _ => rfl) (by omega) (by omega) (by decide +kernel) (fun f hf => by show _ = _; unfold ml_cell; simp only [hf]; rfl) z3 (by decide) (by decide) ⟨by decide, by decide⟩ dX6_init_15 ?_
  refine ml_putF (pc := 17) (x := 48) (k := 46) X hini in_X6 rfl (by decide) tk_X6 nmX6 1 (by decide) rfl rfl tw_1_197 (ml_k46 (by decide)) dX6_init_17 (ml_fvA (by omega)) (show (0 : Int) ≤ 48 by omega) rfl rfl (Or.inl (by omega)) (fun σ4 g4 => ?_)
  have hw := hw σ4 g4
  refine ml_aload_n (pc := 20) X hl 0 rfl rfl dX6_init_20 ?_
  obtain ⟨z5, hw⟩ := hw
  refine ml_newO (n0 := 46) (kc := 2) (ks := 130) (pc := 21) (k := 49) X hs ⟨tw_1_194, tw_1_122, tw_1_7⟩ in_X9 rfl (by decide) tk_X9 df_X9 (Or.inr (by omega)) (by omega) (by omega) (by decide +kernel) z5 ⟨by decide, by decide⟩ dX6_init_21 ?_
  refine ml_dup (pc := 24) X dX6_init_24 rfl ?_
  refine ml_callC (n0 := 46) (kc := 3) (ks := 138) (pc := 25) (k := 49) (mc := 2) (ms := 20) X hs hNN (c_X9_init l base D cA (46 + 3) 49 (by omega) (by decide +kernel) σ4 _ hw) ⟨⟨(List.mem_of_getElem? (i := 6) rfl), tw_1_124, tw_1_7, tw_1_125⟩, rfl, by decide +kernel⟩ ⟨rfl, rfl⟩ ⟨by decide, by decide⟩ (by omega) hl (Nat.le_of_ble_eq_true rfl) ⟨by decide, by decide⟩ dX6_init_25 (fun σ6 hw => ?_)
  refine ml_putF (pc := 28) (x := 49) (k := 46) X hini in_X6 rfl (by decide) tk_X6 nmX6 2 (by decide) rfl rfl tw_1_198 (ml_k46 (by decide)) dX6_init_28 (ml_fvO (by omega)) (show (0 : Int) ≤ 49 by omega) rfl rfl (Or.inl (by omega)) (fun σ7 g7 => ?_)
  have hw := hw σ7 g7
  refine ml_aload_n (pc := 31) X hl 0 rfl rfl dX6_init_31 ?_
  obtain ⟨z8, hw⟩ := hw
  refine ml_newO (n0 := 46) (kc := 5) (ks := 158) (pc := 32) (k := 52) X hs ⟨tw_1_194, tw_1_122, tw_1_7⟩ in_X9 rfl (by decide) tk_X9 df_X9 (Or.inr (by omega)) (by omega) (by omega) (by decide +kernel) z8 ⟨by decide, by decide⟩ dX6_init_32 ?_
  refine ml_dup (pc := 35) X dX6_init_35 rfl ?_
  refine ml_callC (n0 := 46) (kc := 6) (ks := 166) (pc := 36) (k := 52) (mc := 2) (ms := 20) X hs hNN (c_X9_init l base D cA (46 + 6) 52 (by omega) (by decide +kernel) σ7 _ hw) ⟨⟨(List.mem_of_getElem? (i := 6) rfl), tw_1_124, tw_1_7, tw_1_125⟩, rfl, by decide +kernel⟩ ⟨rfl, rfl⟩ ⟨by decide, by decide⟩ (by omega) hl (Nat.le_of_ble_eq_true rfl) ⟨by decide, by decide⟩ dX6_init_36 (fun σ9 hw => ?_)
  refine ml_putF (pc := 39) (x := 52) (k := 46) X hini in_X6 rfl (by decide) tk_X6 nmX6 3 (by decide) rfl rfl tw_1_199 (ml_k46 (by decide)) dX6_init_39 (ml_fvO (by omega)) (show (0 : Int) ≤ 52 by omega) rfl rfl (Or.inl (by omega)) (fun σ10 g10 => ?_)
  have hw := hw σ10 g10
  refine ml_aload_n (pc := 42) X hl 0 rfl rfl dX6_init_42 ?_
  refine ml_iconst (pc := 43) X dX6_init_43 ?_
  refine ml_putg (pc := 44) (x := 1) (k := 46) X in_X6 rfl (by decide) tk_X6 nmX6 4 (by decide) rfl tw_1_200 (ml_k46 (by decide)) dX6_init_44 rfl ⟨by decide, by decide⟩ rfl rfl (Or.inl (by omega)) (fun σ11 g11 => ?_)
  have hw := hw σ11 g11
  refine ml_aload_n (pc := 47) X hl 0 rfl rfl dX6_init_47 ?_
  refine ml_iconst (pc := 48) X dX6_init_48 ?_
  refine ml_putg (pc := 49) (x := 1) (k := 46) X in_X6 rfl (by decide) tk_X6 nmX6 5 (by decide) rfl tw_1_202 (ml_k46 (by decide)) dX6_init_49 rfl ⟨by decide, by decide⟩ rfl rfl (Or.inl (by omega)) (fun σ12 g12 => ?_)
  have hw := hw σ12 g12
  refine ml_aload_n (pc := 52) X hl 0 rfl rfl dX6_init_52 ?_
  refine ml_lconst0 (pc := 53) X dX6_init_53 ?_
  refine ml_putg (pc := 54) (x := 0) (k := 46) X in_X6 rfl (by decide) tk_X6 nmX6 6 (by decide) rfl tw_1_204 (ml_k46 (by decide)) dX6_init_54 rfl ⟨by decide, by decide⟩ rfl rfl (Or.inl (by omega)) (fun σ13 g13 => ?_)
  have hw := hw σ13 g13
  refine ml_aload_n (pc := 57) X hl 0 rfl rfl dX6_init_57 ?_
  refine ml_iconst (pc := 58) X dX6_init_58 ?_
  refine ml_putg (pc := 59) (x := 1) (k := 46) X in_X6 rfl (by decide) tk_X6 nmX6 7 (by decide) rfl tw_1_205 (ml_k46 (by decide)) dX6_init_59 rfl ⟨by decide, by decide⟩ rfl rfl (Or.inl (by omega)) (fun σ14 g14 => ?_)
  have hw := hw σ14 g14
  refine ml_aload_n (pc := 62) X hl 0 rfl rfl dX6_init_62 ?_
  refine ml_lconst0 (pc := 63) X dX6_init_63 ?_
  refine ml_putg (pc := 64) (x := 0) (k := 46) X in_X6 rfl (by decide) tk_X6 nmX6 8 (by decide) rfl tw_1_207 (ml_k46 (by decide)) dX6_init_64 rfl ⟨by decide, by decide⟩ rfl rfl (Or.inl (by omega)) (fun σ15 g15 => ?_)
  have hw := hw σ15 g15
  refine ml_aload_n (pc := 67) X hl 0 rfl rfl dX6_init_67 ?_
  refine ml_iconst (pc := 68) X dX6_init_68 ?_
  refine ml_putg (pc := 69) (x := 1) (k := 46) X in_X6 rfl (by decide) tk_X6 nmX6 9 (by decide) rfl tw_1_209 (ml_k46 (by decide)) dX6_init_69 rfl ⟨by decide, by decide⟩ rfl rfl (Or.inl (by omega)) (fun σ16 g16 => ?_)
  have hw := hw σ16 g16
  exact ml_vretC (pc := 72) X hw dX6_init_72
theorem dX7_init_0 : decode cX7_init 0 = .ok (.aload_n 0, 1) := by decide +kernel
theorem dX7_init_1 : decode cX7_init 1 = .ok (.invokespecial 5, 3) := by decide +kernel
theorem dX7_init_4 : decode cX7_init 4 = .ok (.aload_n 0, 1) := by decide +kernel
theorem dX7_init_5 : decode cX7_init 5 = .ok (.iconst 0, 1) := by decide +kernel
theorem dX7_init_6 : decode cX7_init 6 = .ok (.putfield 11, 3) := by decide +kernel
theorem dX7_init_9 : decode cX7_init 9 = .ok (.aload_n 0, 1) := by decide +kernel
theorem dX7_init_10 : decode cX7_init 10 = .ok (.iconst 0, 1) := by decide +kernel
theorem dX7_init_11 : decode cX7_init 11 = .ok (.putfield 15, 3) := by decide +kernel
theorem dX7_init_14 : decode cX7_init 14 = .ok (.aload_n 0, 1) := by decide +kernel
theorem dX7_init_15 : decode cX7_init 15 = .ok (.iconst 0, 1) := by decide +kernel
theorem dX7_init_16 : decode cX7_init 16 = .ok (.putfield 18, 3) := by decide +kernel
theorem dX7_init_19 : decode cX7_init 19 = .ok (.aload_n 0, 1) := by decide +kernel
theorem dX7_init_20 : decode cX7_init 20 = .ok (.bipush 6, 2) := by decide +kernel
theorem dX7_init_22 : decode cX7_init 22 = .ok (.newarray .int, 2) := by decide +kernel
theorem dX7_init_24 : decode cX7_init 24 = .ok (.putfield 21, 3) := by decide +kernel
theorem dX7_init_27 : decode cX7_init 27 = .ok (.aload_n 0, 1) := by decide +kernel
theorem dX7_init_28 : decode cX7_init 28 = .ok (.sipush 945, 3) := by decide +kernel
theorem dX7_init_31 : decode cX7_init 31 = .ok (.newarray .int, 2) := by decide +kernel
theorem dX7_init_33 : decode cX7_init 33 = .ok (.putfield 25, 3) := by decide +kernel
theorem dX7_init_36 : decode cX7_init 36 = .ok (.aload_n 0, 1) := by decide +kernel
theorem dX7_init_37 : decode cX7_init 37 = .ok (.sipush 5676, 3) := by decide +kernel
theorem dX7_init_40 : decode cX7_init 40 = .ok (.newarray .int, 2) := by decide +kernel
theorem dX7_init_42 : decode cX7_init 42 = .ok (.putfield 28, 3) := by decide +kernel
theorem dX7_init_45 : decode cX7_init 45 = .ok (.aload_n 0, 1) := by decide +kernel
theorem dX7_init_46 : decode cX7_init 46 = .ok (.sipush 5676, 3) := by decide +kernel
theorem dX7_init_49 : decode cX7_init 49 = .ok (.newarray .int, 2) := by decide +kernel
theorem dX7_init_51 : decode cX7_init 51 = .ok (.putfield 31, 3) := by decide +kernel
theorem dX7_init_54 : decode cX7_init 54 = .ok (.aload_n 0, 1) := by decide +kernel
theorem dX7_init_55 : decode cX7_init 55 = .ok (.sipush 946, 3) := by decide +kernel
theorem dX7_init_58 : decode cX7_init 58 = .ok (.newarray .int, 2) := by decide +kernel
theorem dX7_init_60 : decode cX7_init 60 = .ok (.putfield 34, 3) := by decide +kernel
theorem dX7_init_63 : decode cX7_init 63 = .ok (.aload_n 0, 1) := by decide +kernel
theorem dX7_init_64 : decode cX7_init 64 = .ok (.sipush 9460, 3) := by decide +kernel
theorem dX7_init_67 : decode cX7_init 67 = .ok (.newarray .int, 2) := by decide +kernel
theorem dX7_init_69 : decode cX7_init 69 = .ok (.putfield 37, 3) := by decide +kernel
theorem dX7_init_72 : decode cX7_init 72 = .ok (.aload_n 0, 1) := by decide +kernel
theorem dX7_init_73 : decode cX7_init 73 = .ok (.sipush 2838, 3) := by decide +kernel
theorem dX7_init_76 : decode cX7_init 76 = .ok (.newarray .long, 2) := by decide +kernel
theorem dX7_init_78 : decode cX7_init 78 = .ok (.putfield 40, 3) := by decide +kernel
theorem dX7_init_81 : decode cX7_init 81 = .ok (.aload_n 0, 1) := by decide +kernel
theorem dX7_init_82 : decode cX7_init 82 = .ok (.sipush 2838, 3) := by decide +kernel
theorem dX7_init_85 : decode cX7_init 85 = .ok (.newarray .long, 2) := by decide +kernel
theorem dX7_init_87 : decode cX7_init 87 = .ok (.putfield 44, 3) := by decide +kernel
theorem dX7_init_90 : decode cX7_init 90 = .ok (.aload_n 0, 1) := by decide +kernel
theorem dX7_init_91 : decode cX7_init 91 = .ok (.iconst 0, 1) := by decide +kernel
theorem dX7_init_92 : decode cX7_init 92 = .ok (.putfield 47, 3) := by decide +kernel
theorem dX7_init_95 : decode cX7_init 95 = .ok (.aload_n 0, 1) := by decide +kernel
theorem dX7_init_96 : decode cX7_init 96 = .ok (.new 50, 3) := by decide +kernel
theorem dX7_init_99 : decode cX7_init 99 = .ok (.dup, 1) := by decide +kernel
theorem dX7_init_100 : decode cX7_init 100 = .ok (.invokespecial 52, 3) := by decide +kernel
theorem dX7_init_103 : decode cX7_init 103 = .ok (.putfield 53, 3) := by decide +kernel
theorem dX7_init_106 : decode cX7_init 106 = .ok (.aload_n 0, 1) := by decide +kernel
theorem dX7_init_107 : decode cX7_init 107 = .ok (.new 50, 3) := by decide +kernel
theorem dX7_init_110 : decode cX7_init 110 = .ok (.dup, 1) := by decide +kernel
theorem dX7_init_111 : decode cX7_init 111 = .ok (.invokespecial 52, 3) := by decide +kernel
theorem dX7_init_114 : decode cX7_init 114 = .ok (.putfield 57, 3) := by decide +kernel
theorem dX7_init_117 : decode cX7_init 117 = .ok (.return_, 1) := by decide +kernel
def f_X7_init (σ : ml_St) (Q : ml_St → Prop) : Prop :=
∀ σ1, σ1 = ml_up σ 55 0 0 →
∀ σ2, σ2 = ml_up σ1 55 1 0 →
∀ σ3, σ3 = ml_up σ2 55 2 0 →
(∀ j : Int, σ3 56 j = 0) ∧
∀ σ5, σ5 = ml_up σ3 55 3 56 →
(∀ j : Int, σ5 57 j = 0) ∧
∀ σ7, σ7 = ml_up σ5 55 4 57 →
(∀ j : Int, σ7 58 j = 0) ∧
∀ σ9, σ9 = ml_up σ7 55 5 58 →
(∀ j : Int, σ9 59 j = 0) ∧
∀ σ11, σ11 = ml_up σ9 55 6 59 →
(∀ j : Int, σ11 60 j = 0) ∧
∀ σ13, σ13 = ml_up σ11 55 7 60 →
(∀ j : Int, σ13 61 j = 0) ∧
∀ σ15, σ15 = ml_up σ13 55 8 61 →
(∀ j : Int, σ15 62 j = 0) ∧
∀ σ17, σ17 = ml_up σ15 55 9 62 →
(∀ j : Int, σ17 63 j = 0) ∧
∀ σ19, σ19 = ml_up σ17 55 10 63 →
∀ σ20, σ20 = ml_up σ19 55 11 0 →
(∀ j : Int, σ20 64 j = 0) ∧
f_X9_init σ20 64 (fun σ22 =>
∀ σ23, σ23 = ml_up σ22 55 12 64 →
(∀ j : Int, σ23 67 j = 0) ∧
f_X9_init σ23 67 (fun σ25 =>
∀ σ26, σ26 = ml_up σ25 55 13 67 →
Q σ26))
def rm_X7_init : Room := { frames := 2, cells := 14, slots := 28441, locals := 80 }
set_option maxRecDepth 100000 in
set_option maxHeartbeats 4000000 in
theorem c_X7_init (l : Launch) (base : Nat) (D : va_G) (cA : Nat → ClassId) (σ : ml_St) (Q : ml_St → Prop) (hw : f_X7_init σ Q) : Met l yX7_init (Cond.code yX7_init cX7_init 1 none :: ml_T) rm_X7_init (va_Pc [.ref (base + (55 : Int).toNat)] (ml_UC base D cA 55 σ)) (ml_QC base D cA (55 + 14) Q) 14 28441 (ml_A base) := by
  refine Met.ofW (cc := cX7_init) (maxL := 1) (ret := none) (by decide) rfl ?_
  intro p e s m args below meth c s₁ B hml hv
  obtain ⟨rfl, ⟨hP, hK, hok⟩, hs, hNN⟩ := hv
  have hini : meth.name = "<init>" := (name_of_methodNamed B.named B.method).1
  have X : ml_X p s m c meth _ D cA cX7_init 1 RX7 none := ⟨B.exec, B.bytes, hml, findClass_of_methodNamed B.named, fun w hw => atoms_spec (ws := Cond.code yX7_init cX7_init 1 none :: ml_T) B.pre w (List.mem_cons_of_mem _ hw), hK, B.notSynchronized, B.returns⟩
  have hl := lv_entry [.ref (base + (55 : Int).toNat)] (n := 1) (Nat.le_of_ble_eq_true rfl)
  rw [lg_entry_eq]
  generalize (lg_sl [.ref (base + (55 : Int).toNat)] ++ List.replicate (1 - (lg_sl [.ref (base + (55 : Int).toNat)]).length) Slot.unset).toArray = ls at hl ⊢
  have hl : lv_has ls 1 [(0, .ref (base + (55 : Int).toNat))] := hl
  unfold f_X7_init at hw
  suffices hV : ml_V p l e rm_X7_init s m [.ref (base + (55 : Int).toNat)].toArray below meth c (MQ below (ml_QC base D cA (55 + 14) Q) [.ref (base + (55 : Int).toNat)].toArray s 14 28441 (ml_A base)) base D cA 0 0 0 (55 + 0) σ (F0 m 0 ls []) from hV s.heap [] hP va_S.rf hok ml_RO0
  refine ml_aload_n (pc := 0) X hl 0 rfl rfl dX7_init_0 ?_
  refine ml_objInit (pc := 1) X ⟨tw_1_237, tw_1_24, tw_1_25⟩ hl ⟨by decide, by decide⟩ (Nat.le_of_ble_eq_true rfl) dX7_init_1 ?_
  refine ml_aload_n (pc := 4) X hl 0 rfl rfl dX7_init_4 ?_
  refine ml_iconst (pc := 5) X dX7_init_5 ?_
  refine ml_putg (pc := 6) (x := 0) (k := 55) X in_X7 rfl (by decide) tk_X7 nmX7 0 (by decide) rfl tw_2_0 (ml_k55 (by decide)) dX7_init_6 rfl ⟨by decide, by decide⟩ rfl rfl (Or.inl (by omega)) (fun σ1 g1 => ?_)
  have hw := hw σ1 g1
  refine ml_aload_n (pc := 9) X hl 0 rfl rfl dX7_init_9 ?_
  refine ml_iconst (pc := 10) X dX7_init_10 ?_
  refine ml_putg (pc := 11) (x := 0) (k := 55) X in_X7 rfl (by decide) tk_X7 nmX7 1 (by decide) rfl tw_2_1 (ml_k55 (by decide)) dX7_init_11 rfl ⟨by decide, by decide⟩ rfl rfl (Or.inl (by omega)) (fun σ2 g2 => ?_)
  have hw := hw σ2 g2
  refine ml_aload_n (pc := 14) X hl 0 rfl rfl dX7_init_14 ?_
  refine ml_iconst (pc := 15) X dX7_init_15 ?_
  refine ml_putg (pc := 16) (x := 0) (k := 55) X in_X7 rfl (by decide) tk_X7 nmX7 2 (by decide) rfl tw_2_3 (ml_k55 (by decide)) dX7_init_16 rfl ⟨by decide, by decide⟩ rfl rfl (Or.inl (by omega)) (fun σ3 g3 => ?_)
  have hw := hw σ3 g3
  refine ml_aload_n (pc := 19) X hl 0 rfl rfl dX7_init_19 ?_
  refine ml_bipush (pc := 20) X dX7_init_20 (by decide) ?_
  obtain ⟨z4, hw⟩ := hw
  refine ml_newA (n0 := 55) (kc := 0) (ks := 0) (pc := 22) (k := 56) X hs .int .int 1 6 tw_1_42 rfl rfl (fun _ _ h => h) (6, .inl (fun _ => 0)) (fun _ => rfl) (by omega) (by omega) (by decide +kernel) (fun f hf => by show _ = _; unfold ml_cell; simp only [hf]; rfl) z4 (by decide) (by decide) ⟨by decide, by decide⟩ dX7_init_22 ?_
  refine ml_putF (pc := 24) (x := 56) (k := 55) X hini in_X7 rfl (by decide) tk_X7 nmX7 3 (by decide) rfl rfl tw_2_6 (ml_k55 (by decide)) dX7_init_24 (ml_fvA (by omega)) (show (0 : Int) ≤ 56 by omega) rfl rfl (Or.inl (by omega)) (fun σ5 g5 => ?_)
  have hw := hw σ5 g5
  refine ml_aload_n (pc := 27) X hl 0 rfl rfl dX7_init_27 ?_
  refine ml_sipush (pc := 28) X dX7_init_28 (by decide) ?_
  obtain ⟨z6, hw⟩ := hw
  refine ml_newA (n0 := 55) (kc := 1) (ks := 6) (pc := 31) (k := 57) X hs .int .int 1 945 tw_1_42 rfl rfl (fun _ _ h => h) (945, .inl (fun _ => 0)) (fun _ => rfl) (by omega) (by omega) (by decide +kernel) (fun f hf => by show _ = _; unfold ml_cell; simp only [hf]; rfl) z6 (by decide) (by decide) ⟨by decide, by decide⟩ dX7_init_31 ?_
  refine ml_putF (pc := 33) (x := 57) (k := 55) X hini in_X7 rfl (by decide) tk_X7 nmX7 4 (by decide) rfl rfl tw_2_8 (ml_k55 (by decide)) dX7_init_33 (ml_fvA (by omega)) (show (0 : Int) ≤ 57 by omega) rfl rfl (Or.inl (by omega)) (fun σ7 g7 => ?_)
  have hw := hw σ7 g7
  refine ml_aload_n (pc := 36) X hl 0 rfl rfl dX7_init_36 ?_
  refine ml_sipush (pc := 37) X dX7_init_37 (by decide) ?_
  obtain ⟨z8, hw⟩ := hw
  refine ml_newA (n0 := 55) (kc := 2) (ks := 951) (pc := 40) (k := 58) X hs .int .int 1 5676 tw_1_42 rfl rfl (fun _ _ h => h) (5676, .inl (fun _ => 0)) (fun _ => rfl) (by omega) (by omega) (by decide +kernel) (fun f hf => by show _ = _; unfold ml_cell; simp only [hf]; rfl) z8 (by decide) (by decide) ⟨by decide, by decide⟩ dX7_init_40 ?_
  refine ml_putF (pc := 42) (x := 58) (k := 55) X hini in_X7 rfl (by decide) tk_X7 nmX7 5 (by decide) rfl rfl tw_2_10 (ml_k55 (by decide)) dX7_init_42 (ml_fvA (by omega)) (show (0 : Int) ≤ 58 by omega) rfl rfl (Or.inl (by omega)) (fun σ9 g9 => ?_)
  have hw := hw σ9 g9
  refine ml_aload_n (pc := 45) X hl 0 rfl rfl dX7_init_45 ?_
  refine ml_sipush (pc := 46) X dX7_init_46 (by decide) ?_
  obtain ⟨z10, hw⟩ := hw
  refine ml_newA (n0 := 55) (kc := 3) (ks := 6627) (pc := 49) (k := 59) X hs .int .int 1 5676 tw_1_42 rfl rfl (fun _ _ h => h) (5676, .inl (fun _ => 0)) (fun _ => rfl) (by omega) (by omega) (by decide +kernel) (fun f hf => by show _ = _; unfold ml_cell; simp only [hf]; rfl) z10 (by decide) (by decide) ⟨by decide, by decide⟩ dX7_init_49 ?_
  refine ml_putF (pc := 51) (x := 59) (k := 55) X hini in_X7 rfl (by decide) tk_X7 nmX7 6 (by decide) rfl rfl tw_2_12 (ml_k55 (by decide)) dX7_init_51 (ml_fvA (by omega)) (show (0 : Int) ≤ 59 by omega) rfl rfl (Or.inl (by omega)) (fun σ11 g11 => ?_)
  have hw := hw σ11 g11
  refine ml_aload_n (pc := 54) X hl 0 rfl rfl dX7_init_54 ?_
  refine ml_sipush (pc := 55) X dX7_init_55 (by decide) ?_
  obtain ⟨z12, hw⟩ := hw
  refine ml_newA (n0 := 55) (kc := 4) (ks := 12303) (pc := 58) (k := 60) X hs .int .int 1 946 tw_1_42 rfl rfl (fun _ _ h => h) (946, .inl (fun _ => 0)) (fun _ => rfl) (by omega) (by omega) (by decide +kernel) (fun f hf => by show _ = _; unfold ml_cell; simp only [hf]; rfl) z12 (by decide) (by decide) ⟨by decide, by decide⟩ dX7_init_58 ?_
  refine ml_putF (pc := 60) (x := 60) (k := 55) X hini in_X7 rfl (by decide) tk_X7 nmX7 7 (by decide) rfl rfl tw_2_14 (ml_k55 (by decide)) dX7_init_60 (ml_fvA (by omega)) (show (0 : Int) ≤ 60 by omega) rfl rfl (Or.inl (by omega)) (fun σ13 g13 => ?_)
  have hw := hw σ13 g13
  refine ml_aload_n (pc := 63) X hl 0 rfl rfl dX7_init_63 ?_
  refine ml_sipush (pc := 64) X dX7_init_64 (by decide) ?_
  obtain ⟨z14, hw⟩ := hw
  refine ml_newA (n0 := 55) (kc := 5) (ks := 13249) (pc := 67) (k := 61) X hs .int .int 1 9460 tw_1_42 rfl rfl (fun _ _ h => h) (9460, .inl (fun _ => 0)) (fun _ => rfl) (by omega) (by omega) (by decide +kernel) (fun f hf => by show _ = _; unfold ml_cell; simp only [hf]; rfl) z14 (by decide) (by decide) ⟨by decide, by decide⟩ dX7_init_67 ?_
  refine ml_putF (pc := 69) (x := 61) (k := 55) X hini in_X7 rfl (by decide) tk_X7 nmX7 8 (by decide) rfl rfl tw_2_16 (ml_k55 (by decide)) dX7_init_69 (ml_fvA (by omega)) (show (0 : Int) ≤ 61 by omega) rfl rfl (Or.inl (by omega)) (fun σ15 g15 => ?_)
  have hw := hw σ15 g15
  refine ml_aload_n (pc := 72) X hl 0 rfl rfl dX7_init_72 ?_
  refine ml_sipush (pc := 73) X dX7_init_73 (by decide) ?_
  obtain ⟨z16, hw⟩ := hw
  refine ml_newA (n0 := 55) (kc := 6) (ks := 22709) (pc := 76) (k := 62) X hs .long .long 4 2838 tw_1_165 rfl rfl (fun _ _ h => h) (2838, .inr (.inl (fun _ => 0))) (fun _ => rfl) (by omega) (by omega) (by decide +kernel) (fun f hf => by show _ = _; unfold ml_cell; simp only [hf]; rfl) z16 (by decide) (by decide) ⟨by decide, by decide⟩ dX7_init_76 ?_
  refine ml_putF (pc := 78) (x := 62) (k := 55) X hini in_X7 rfl (by decide) tk_X7 nmX7 9 (by decide) rfl rfl tw_2_17 (ml_k55 (by decide)) dX7_init_78 (ml_fvA (by omega)) (show (0 : Int) ≤ 62 by omega) rfl rfl (Or.inl (by omega)) (fun σ17 g17 => ?_)
  have hw := hw σ17 g17
  refine ml_aload_n (pc := 81) X hl 0 rfl rfl dX7_init_81 ?_
  refine ml_sipush (pc := 82) X dX7_init_82 (by decide) ?_
  obtain ⟨z18, hw⟩ := hw
  refine ml_newA (n0 := 55) (kc := 7) (ks := 25547) (pc := 85) (k := 63) X hs .long .long 4 2838 tw_1_165 rfl rfl (fun _ _ h => h) (2838, .inr (.inl (fun _ => 0))) (fun _ => rfl) (by omega) (by omega) (by decide +kernel) (fun f hf => by show _ = _; unfold ml_cell; simp only [hf]; rfl) z18 (by decide) (by decide) ⟨by decide, by decide⟩ dX7_init_85 ?_
  refine ml_putF (pc := 87) (x := 63) (k := 55) X hini in_X7 rfl (by decide) tk_X7 nmX7 10 (by decide) rfl rfl tw_2_18 (ml_k55 (by decide)) dX7_init_87 (ml_fvA (by omega)) (show (0 : Int) ≤ 63 by omega) rfl rfl (Or.inl (by omega)) (fun σ19 g19 => ?_)
  have hw := hw σ19 g19
  refine ml_aload_n (pc := 90) X hl 0 rfl rfl dX7_init_90 ?_
  refine ml_iconst (pc := 91) X dX7_init_91 ?_
  refine ml_putg (pc := 92) (x := 0) (k := 55) X in_X7 rfl (by decide) tk_X7 nmX7 11 (by decide) rfl tw_2_19 (ml_k55 (by decide)) dX7_init_92 rfl ⟨by decide, by decide⟩ rfl rfl (Or.inl (by omega)) (fun σ20 g20 => ?_)
  have hw := hw σ20 g20
  refine ml_aload_n (pc := 95) X hl 0 rfl rfl dX7_init_95 ?_
  obtain ⟨z21, hw⟩ := hw
  refine ml_newO (n0 := 55) (kc := 8) (ks := 28385) (pc := 96) (k := 64) X hs ⟨tw_1_238, tw_1_122, tw_1_7⟩ in_X9 rfl (by decide) tk_X9 df_X9 (Or.inr (by omega)) (by omega) (by omega) (by decide +kernel) z21 ⟨by decide, by decide⟩ dX7_init_96 ?_
  refine ml_dup (pc := 99) X dX7_init_99 rfl ?_
  refine ml_callC (n0 := 55) (kc := 9) (ks := 28393) (pc := 100) (k := 64) (mc := 2) (ms := 20) X hs hNN (c_X9_init l base D cA (55 + 9) 64 (by omega) (by decide +kernel) σ20 _ hw) ⟨⟨(List.mem_of_getElem? (i := 8) rfl), tw_1_124, tw_1_7, tw_1_125⟩, rfl, by decide +kernel⟩ ⟨rfl, rfl⟩ ⟨by decide, by decide⟩ (by omega) hl (Nat.le_of_ble_eq_true rfl) ⟨by decide, by decide⟩ dX7_init_100 (fun σ22 hw => ?_)
  refine ml_putF (pc := 103) (x := 64) (k := 55) X hini in_X7 rfl (by decide) tk_X7 nmX7 12 (by decide) rfl rfl tw_2_20 (ml_k55 (by decide)) dX7_init_103 (ml_fvO (by omega)) (show (0 : Int) ≤ 64 by omega) rfl rfl (Or.inl (by omega)) (fun σ23 g23 => ?_)
  have hw := hw σ23 g23
  refine ml_aload_n (pc := 106) X hl 0 rfl rfl dX7_init_106 ?_
  obtain ⟨z24, hw⟩ := hw
  refine ml_newO (n0 := 55) (kc := 11) (ks := 28413) (pc := 107) (k := 67) X hs ⟨tw_1_238, tw_1_122, tw_1_7⟩ in_X9 rfl (by decide) tk_X9 df_X9 (Or.inr (by omega)) (by omega) (by omega) (by decide +kernel) z24 ⟨by decide, by decide⟩ dX7_init_107 ?_
  refine ml_dup (pc := 110) X dX7_init_110 rfl ?_
  refine ml_callC (n0 := 55) (kc := 12) (ks := 28421) (pc := 111) (k := 67) (mc := 2) (ms := 20) X hs hNN (c_X9_init l base D cA (55 + 12) 67 (by omega) (by decide +kernel) σ23 _ hw) ⟨⟨(List.mem_of_getElem? (i := 8) rfl), tw_1_124, tw_1_7, tw_1_125⟩, rfl, by decide +kernel⟩ ⟨rfl, rfl⟩ ⟨by decide, by decide⟩ (by omega) hl (Nat.le_of_ble_eq_true rfl) ⟨by decide, by decide⟩ dX7_init_111 (fun σ25 hw => ?_)
  refine ml_putF (pc := 114) (x := 67) (k := 55) X hini in_X7 rfl (by decide) tk_X7 nmX7 13 (by decide) rfl rfl tw_2_21 (ml_k55 (by decide)) dX7_init_114 (ml_fvO (by omega)) (show (0 : Int) ≤ 67 by omega) rfl rfl (Or.inl (by omega)) (fun σ26 g26 => ?_)
  have hw := hw σ26 g26
  exact ml_vretC (pc := 117) X hw dX7_init_117
theorem dX1_init_0 : decode cX1_init 0 = .ok (.aload_n 0, 1) := by decide +kernel
theorem dX1_init_1 : decode cX1_init 1 = .ok (.invokespecial 5, 3) := by decide +kernel
theorem dX1_init_4 : decode cX1_init 4 = .ok (.aload_n 0, 1) := by decide +kernel
theorem dX1_init_5 : decode cX1_init 5 = .ok (.sipush 2838, 3) := by decide +kernel
theorem dX1_init_8 : decode cX1_init 8 = .ok (.newarray .int, 2) := by decide +kernel
theorem dX1_init_10 : decode cX1_init 10 = .ok (.putfield 13, 3) := by decide +kernel
theorem dX1_init_13 : decode cX1_init 13 = .ok (.aload_n 0, 1) := by decide +kernel
theorem dX1_init_14 : decode cX1_init 14 = .ok (.sipush 2838, 3) := by decide +kernel
theorem dX1_init_17 : decode cX1_init 17 = .ok (.newarray .int, 2) := by decide +kernel
theorem dX1_init_19 : decode cX1_init 19 = .ok (.putfield 17, 3) := by decide +kernel
theorem dX1_init_22 : decode cX1_init 22 = .ok (.aload_n 0, 1) := by decide +kernel
theorem dX1_init_23 : decode cX1_init 23 = .ok (.sipush 2838, 3) := by decide +kernel
theorem dX1_init_26 : decode cX1_init 26 = .ok (.newarray .int, 2) := by decide +kernel
theorem dX1_init_28 : decode cX1_init 28 = .ok (.putfield 20, 3) := by decide +kernel
theorem dX1_init_31 : decode cX1_init 31 = .ok (.aload_n 0, 1) := by decide +kernel
theorem dX1_init_32 : decode cX1_init 32 = .ok (.sipush 2838, 3) := by decide +kernel
theorem dX1_init_35 : decode cX1_init 35 = .ok (.newarray .int, 2) := by decide +kernel
theorem dX1_init_37 : decode cX1_init 37 = .ok (.putfield 23, 3) := by decide +kernel
theorem dX1_init_40 : decode cX1_init 40 = .ok (.aload_n 0, 1) := by decide +kernel
theorem dX1_init_41 : decode cX1_init 41 = .ok (.sipush 946, 3) := by decide +kernel
theorem dX1_init_44 : decode cX1_init 44 = .ok (.newarray .long, 2) := by decide +kernel
theorem dX1_init_46 : decode cX1_init 46 = .ok (.putfield 26, 3) := by decide +kernel
theorem dX1_init_49 : decode cX1_init 49 = .ok (.aload_n 0, 1) := by decide +kernel
theorem dX1_init_50 : decode cX1_init 50 = .ok (.iconst (-1), 1) := by decide +kernel
theorem dX1_init_51 : decode cX1_init 51 = .ok (.putfield 30, 3) := by decide +kernel
theorem dX1_init_54 : decode cX1_init 54 = .ok (.aload_n 0, 1) := by decide +kernel
theorem dX1_init_55 : decode cX1_init 55 = .ok (.iconst (-1), 1) := by decide +kernel
theorem dX1_init_56 : decode cX1_init 56 = .ok (.putfield 34, 3) := by decide +kernel
theorem dX1_init_59 : decode cX1_init 59 = .ok (.return_, 1) := by decide +kernel
def f_X1_init (σ : ml_St) (Q : ml_St → Prop) : Prop :=
(∀ j : Int, σ 71 j = 0) ∧
∀ σ2, σ2 = ml_up σ 70 0 71 →
(∀ j : Int, σ2 72 j = 0) ∧
∀ σ4, σ4 = ml_up σ2 70 1 72 →
(∀ j : Int, σ4 73 j = 0) ∧
∀ σ6, σ6 = ml_up σ4 70 2 73 →
(∀ j : Int, σ6 74 j = 0) ∧
∀ σ8, σ8 = ml_up σ6 70 3 74 →
(∀ j : Int, σ8 75 j = 0) ∧
∀ σ10, σ10 = ml_up σ8 70 4 75 →
∀ σ11, σ11 = ml_up σ10 70 5 (-1) →
∀ σ12, σ12 = ml_up σ11 70 6 (-1) →
Q σ12
def rm_X1_init : Room := { frames := 1, cells := 5, slots := 12298, locals := 60 }
set_option maxRecDepth 100000 in
set_option maxHeartbeats 4000000 in
theorem c_X1_init (l : Launch) (base : Nat) (D : va_G) (cA : Nat → ClassId) (σ : ml_St) (Q : ml_St → Prop) (hw : f_X1_init σ Q) : Met l yX1_init (Cond.code yX1_init cX1_init 1 none :: ml_T) rm_X1_init (va_Pc [.ref (base + (70 : Int).toNat)] (ml_UC base D cA 70 σ)) (ml_QC base D cA (70 + 5) Q) 5 12298 (ml_A base) := by
  refine Met.ofW (cc := cX1_init) (maxL := 1) (ret := none) (by decide) rfl ?_
  intro p e s m args below meth c s₁ B hml hv
  obtain ⟨rfl, ⟨hP, hK, hok⟩, hs, hNN⟩ := hv
  have hini : meth.name = "<init>" := (name_of_methodNamed B.named B.method).1
  have X : ml_X p s m c meth _ D cA cX1_init 1 RX1 none := ⟨B.exec, B.bytes, hml, findClass_of_methodNamed B.named, fun w hw => atoms_spec (ws := Cond.code yX1_init cX1_init 1 none :: ml_T) B.pre w (List.mem_cons_of_mem _ hw), hK, B.notSynchronized, B.returns⟩
  have hl := lv_entry [.ref (base + (70 : Int).toNat)] (n := 1) (Nat.le_of_ble_eq_true rfl)
  rw [lg_entry_eq]
  generalize (lg_sl [.ref (base + (70 : Int).toNat)] ++ List.replicate (1 - (lg_sl [.ref (base + (70 : Int).toNat)]).length) Slot.unset).toArray = ls at hl ⊢
  have hl : lv_has ls 1 [(0, .ref (base + (70 : Int).toNat))] := hl
  unfold f_X1_init at hw
  suffices hV : ml_V p l e rm_X1_init s m [.ref (base + (70 : Int).toNat)].toArray below meth c (MQ below (ml_QC base D cA (70 + 5) Q) [.ref (base + (70 : Int).toNat)].toArray s 5 12298 (ml_A base)) base D cA 0 0 0 (70 + 0) σ (F0 m 0 ls []) from hV s.heap [] hP va_S.rf hok ml_RO0
  refine ml_aload_n (pc := 0) X hl 0 rfl rfl dX1_init_0 ?_
  refine ml_objInit (pc := 1) X ⟨tw_2_56, tw_1_24, tw_1_25⟩ hl ⟨by decide, by decide⟩ (Nat.le_of_ble_eq_true rfl) dX1_init_1 ?_
  refine ml_aload_n (pc := 4) X hl 0 rfl rfl dX1_init_4 ?_
  refine ml_sipush (pc := 5) X dX1_init_5 (by decide) ?_
  obtain ⟨z1, hw⟩ := hw
  refine ml_newA (n0 := 70) (kc := 0) (ks := 0) (pc := 8) (k := 71) X hs .int .int 1 2838 tw_1_42 rfl rfl (fun _ _ h => h) (2838, .inl (fun _ => 0)) (fun _ => rfl) (by omega) (by omega) (by decide +kernel) (fun f hf => by show _ = _; unfold ml_cell; simp only [hf]; rfl) z1 (by decide) (by decide) ⟨by decide, by decide⟩ dX1_init_8 ?_
  refine ml_putF (pc := 10) (x := 71) (k := 70) X hini in_X1 rfl (by decide) tk_X1 nmX1 0 (by decide) rfl rfl tw_2_57 (ml_k70 (by decide)) dX1_init_10 (ml_fvA (by omega)) (show (0 : Int) ≤ 71 by omega) rfl rfl (Or.inl (by omega)) (fun σ2 g2 => ?_)
  have hw := hw σ2 g2
  refine ml_aload_n (pc := 13) X hl 0 rfl rfl dX1_init_13 ?_
  refine ml_sipush (pc := 14) X dX1_init_14 (by decide) ?_
  obtain ⟨z3, hw⟩ := hw
  refine ml_newA (n0 := 70) (kc := 1) (ks := 2838) (pc := 17) (k := 72) X hs .int .int 1 2838 tw_1_42 rfl rfl (fun _ _ h => h) (2838, .inl (fun _ => 0)) (fun _ => rfl) (by omega) (by omega) (by decide +kernel) (fun f hf => by show _ = _; unfold ml_cell; simp only [hf]; rfl) z3 (by decide) (by decide) ⟨by decide, by decide⟩ dX1_init_17 ?_
  refine ml_putF (pc := 19) (x := 72) (k := 70) X hini in_X1 rfl (by decide) tk_X1 nmX1 1 (by decide) rfl rfl tw_2_58 (ml_k70 (by decide)) dX1_init_19 (ml_fvA (by omega)) (show (0 : Int) ≤ 72 by omega) rfl rfl (Or.inl (by omega)) (fun σ4 g4 => ?_)
  have hw := hw σ4 g4
  refine ml_aload_n (pc := 22) X hl 0 rfl rfl dX1_init_22 ?_
  refine ml_sipush (pc := 23) X dX1_init_23 (by decide) ?_
  obtain ⟨z5, hw⟩ := hw
  refine ml_newA (n0 := 70) (kc := 2) (ks := 5676) (pc := 26) (k := 73) X hs .int .int 1 2838 tw_1_42 rfl rfl (fun _ _ h => h) (2838, .inl (fun _ => 0)) (fun _ => rfl) (by omega) (by omega) (by decide +kernel) (fun f hf => by show _ = _; unfold ml_cell; simp only [hf]; rfl) z5 (by decide) (by decide) ⟨by decide, by decide⟩ dX1_init_26 ?_
  refine ml_putF (pc := 28) (x := 73) (k := 70) X hini in_X1 rfl (by decide) tk_X1 nmX1 2 (by decide) rfl rfl tw_2_59 (ml_k70 (by decide)) dX1_init_28 (ml_fvA (by omega)) (show (0 : Int) ≤ 73 by omega) rfl rfl (Or.inl (by omega)) (fun σ6 g6 => ?_)
  have hw := hw σ6 g6
  refine ml_aload_n (pc := 31) X hl 0 rfl rfl dX1_init_31 ?_
  refine ml_sipush (pc := 32) X dX1_init_32 (by decide) ?_
  obtain ⟨z7, hw⟩ := hw
  refine ml_newA (n0 := 70) (kc := 3) (ks := 8514) (pc := 35) (k := 74) X hs .int .int 1 2838 tw_1_42 rfl rfl (fun _ _ h => h) (2838, .inl (fun _ => 0)) (fun _ => rfl) (by omega) (by omega) (by decide +kernel) (fun f hf => by show _ = _; unfold ml_cell; simp only [hf]; rfl) z7 (by decide) (by decide) ⟨by decide, by decide⟩ dX1_init_35 ?_
  refine ml_putF (pc := 37) (x := 74) (k := 70) X hini in_X1 rfl (by decide) tk_X1 nmX1 3 (by decide) rfl rfl tw_2_60 (ml_k70 (by decide)) dX1_init_37 (ml_fvA (by omega)) (show (0 : Int) ≤ 74 by omega) rfl rfl (Or.inl (by omega)) (fun σ8 g8 => ?_)
  have hw := hw σ8 g8
  refine ml_aload_n (pc := 40) X hl 0 rfl rfl dX1_init_40 ?_
  refine ml_sipush (pc := 41) X dX1_init_41 (by decide) ?_
  obtain ⟨z9, hw⟩ := hw
  refine ml_newA (n0 := 70) (kc := 4) (ks := 11352) (pc := 44) (k := 75) X hs .long .long 4 946 tw_1_165 rfl rfl (fun _ _ h => h) (946, .inr (.inl (fun _ => 0))) (fun _ => rfl) (by omega) (by omega) (by decide +kernel) (fun f hf => by show _ = _; unfold ml_cell; simp only [hf]; rfl) z9 (by decide) (by decide) ⟨by decide, by decide⟩ dX1_init_44 ?_
  refine ml_putF (pc := 46) (x := 75) (k := 70) X hini in_X1 rfl (by decide) tk_X1 nmX1 4 (by decide) rfl rfl tw_2_61 (ml_k70 (by decide)) dX1_init_46 (ml_fvA (by omega)) (show (0 : Int) ≤ 75 by omega) rfl rfl (Or.inl (by omega)) (fun σ10 g10 => ?_)
  have hw := hw σ10 g10
  refine ml_aload_n (pc := 49) X hl 0 rfl rfl dX1_init_49 ?_
  refine ml_iconst (pc := 50) X dX1_init_50 ?_
  refine ml_putg (pc := 51) (x := (-1)) (k := 70) X in_X1 rfl (by decide) tk_X1 nmX1 5 (by decide) rfl tw_2_62 (ml_k70 (by decide)) dX1_init_51 rfl ⟨by decide, by decide⟩ rfl rfl (Or.inl (by omega)) (fun σ11 g11 => ?_)
  have hw := hw σ11 g11
  refine ml_aload_n (pc := 54) X hl 0 rfl rfl dX1_init_54 ?_
  refine ml_iconst (pc := 55) X dX1_init_55 ?_
  refine ml_putg (pc := 56) (x := (-1)) (k := 70) X in_X1 rfl (by decide) tk_X1 nmX1 6 (by decide) rfl tw_2_63 (ml_k70 (by decide)) dX1_init_56 rfl ⟨by decide, by decide⟩ rfl rfl (Or.inl (by omega)) (fun σ12 g12 => ?_)
  have hw := hw σ12 g12
  exact ml_vretC (pc := 59) X hw dX1_init_59
theorem dX5_init_0 : decode cX5_init 0 = .ok (.aload_n 0, 1) := by decide +kernel
theorem dX5_init_1 : decode cX5_init 1 = .ok (.invokespecial 3, 3) := by decide +kernel
theorem dX5_init_4 : decode cX5_init 4 = .ok (.aload_n 0, 1) := by decide +kernel
theorem dX5_init_5 : decode cX5_init 5 = .ok (.bipush 11, 2) := by decide +kernel
theorem dX5_init_7 : decode cX5_init 7 = .ok (.anewarray 9, 3) := by decide +kernel
theorem dX5_init_10 : decode cX5_init 10 = .ok (.putfield 11, 3) := by decide +kernel
theorem dX5_init_13 : decode cX5_init 13 = .ok (.aload_n 0, 1) := by decide +kernel
theorem dX5_init_14 : decode cX5_init 14 = .ok (.new 9, 3) := by decide +kernel
theorem dX5_init_17 : decode cX5_init 17 = .ok (.dup, 1) := by decide +kernel
theorem dX5_init_18 : decode cX5_init 18 = .ok (.invokespecial 17, 3) := by decide +kernel
theorem dX5_init_21 : decode cX5_init 21 = .ok (.putfield 18, 3) := by decide +kernel
theorem dX5_init_24 : decode cX5_init 24 = .ok (.iconst 0, 1) := by decide +kernel
theorem dX5_init_25 : decode cX5_init 25 = .ok (.istore_n 1, 1) := by decide +kernel
theorem dX5_init_26 : decode cX5_init 26 = .ok (.iload_n 1, 1) := by decide +kernel
theorem dX5_init_27 : decode cX5_init 27 = .ok (.bipush 10, 2) := by decide +kernel
theorem dX5_init_29 : decode cX5_init 29 = .ok (.if_icmp .gt 22, 3) := by decide +kernel
theorem dX5_init_32 : decode cX5_init 32 = .ok (.aload_n 0, 1) := by decide +kernel
theorem dX5_init_33 : decode cX5_init 33 = .ok (.getfield 11, 3) := by decide +kernel
theorem dX5_init_36 : decode cX5_init 36 = .ok (.iload_n 1, 1) := by decide +kernel
theorem dX5_init_37 : decode cX5_init 37 = .ok (.new 9, 3) := by decide +kernel
theorem dX5_init_40 : decode cX5_init 40 = .ok (.dup, 1) := by decide +kernel
theorem dX5_init_41 : decode cX5_init 41 = .ok (.invokespecial 17, 3) := by decide +kernel
theorem dX5_init_44 : decode cX5_init 44 = .ok (.aastore, 1) := by decide +kernel
theorem dX5_init_45 : decode cX5_init 45 = .ok (.iinc 1 1, 3) := by decide +kernel
theorem dX5_init_48 : decode cX5_init 48 = .ok (.goto (-22), 3) := by decide +kernel
theorem dX5_init_51 : decode cX5_init 51 = .ok (.return_, 1) := by decide +kernel
def f_X5_init (σ : ml_St) (Q : ml_St → Prop) : Prop :=
(∀ j : Int, σ 77 j = 0) ∧
∀ σ2, σ2 = ml_up σ 76 0 77 →
(∀ j : Int, σ2 78 j = 0) ∧
f_X9_init σ2 78 (fun σ4 =>
∀ σ5, σ5 = ml_up σ4 76 1 78 →
σ5 76 0 = 77 ∧
(∀ j : Int, σ5 81 j = 0) ∧
f_X9_init σ5 81 (fun σ9 =>
∀ σ10, σ10 = ml_up σ9 77 0 81 →
σ10 76 0 = 77 ∧
(∀ j : Int, σ10 84 j = 0) ∧
f_X9_init σ10 84 (fun σ14 =>
∀ σ15, σ15 = ml_up σ14 77 1 84 →
σ15 76 0 = 77 ∧
(∀ j : Int, σ15 87 j = 0) ∧
f_X9_init σ15 87 (fun σ19 =>
∀ σ20, σ20 = ml_up σ19 77 2 87 →
σ20 76 0 = 77 ∧
(∀ j : Int, σ20 90 j = 0) ∧
f_X9_init σ20 90 (fun σ24 =>
∀ σ25, σ25 = ml_up σ24 77 3 90 →
σ25 76 0 = 77 ∧
(∀ j : Int, σ25 93 j = 0) ∧
f_X9_init σ25 93 (fun σ29 =>
∀ σ30, σ30 = ml_up σ29 77 4 93 →
σ30 76 0 = 77 ∧
(∀ j : Int, σ30 96 j = 0) ∧
f_X9_init σ30 96 (fun σ34 =>
∀ σ35, σ35 = ml_up σ34 77 5 96 →
σ35 76 0 = 77 ∧
(∀ j : Int, σ35 99 j = 0) ∧
f_X9_init σ35 99 (fun σ39 =>
∀ σ40, σ40 = ml_up σ39 77 6 99 →
σ40 76 0 = 77 ∧
(∀ j : Int, σ40 102 j = 0) ∧
f_X9_init σ40 102 (fun σ44 =>
∀ σ45, σ45 = ml_up σ44 77 7 102 →
σ45 76 0 = 77 ∧
(∀ j : Int, σ45 105 j = 0) ∧
f_X9_init σ45 105 (fun σ49 =>
∀ σ50, σ50 = ml_up σ49 77 8 105 →
σ50 76 0 = 77 ∧
(∀ j : Int, σ50 108 j = 0) ∧
f_X9_init σ50 108 (fun σ54 =>
∀ σ55, σ55 = ml_up σ54 77 9 108 →
σ55 76 0 = 77 ∧
(∀ j : Int, σ55 111 j = 0) ∧
f_X9_init σ55 111 (fun σ59 =>
∀ σ60, σ60 = ml_up σ59 77 10 111 →
Q σ60))))))))))))
def rm_X5_init : Room := { frames := 2, cells := 37, slots := 347, locals := 80 }
set_option maxRecDepth 100000 in
set_option maxHeartbeats 4000000 in
theorem c_X5_init (l : Launch) (base : Nat) (D : va_G) (cA : Nat → ClassId) (σ : ml_St) (Q : ml_St → Prop) (hw : f_X5_init σ Q) : Met l yX5_init (Cond.code yX5_init cX5_init 2 none :: ml_T) rm_X5_init (va_Pc [.ref (base + (76 : Int).toNat)] (ml_UC base D cA 76 σ)) (ml_QC base D cA (76 + 37) Q) 37 347 (ml_A base) := by
  refine Met.ofW (cc := cX5_init) (maxL := 2) (ret := none) (by decide) rfl ?_
  intro p e s m args below meth c s₁ B hml hv
  obtain ⟨rfl, ⟨hP, hK, hok⟩, hs, hNN⟩ := hv
  have hini : meth.name = "<init>" := (name_of_methodNamed B.named B.method).1
  have X : ml_X p s m c meth _ D cA cX5_init 2 RX5 none := ⟨B.exec, B.bytes, hml, findClass_of_methodNamed B.named, fun w hw => atoms_spec (ws := Cond.code yX5_init cX5_init 2 none :: ml_T) B.pre w (List.mem_cons_of_mem _ hw), hK, B.notSynchronized, B.returns⟩
  have hl := lv_entry [.ref (base + (76 : Int).toNat)] (n := 2) (Nat.le_of_ble_eq_true rfl)
  rw [lg_entry_eq]
  generalize (lg_sl [.ref (base + (76 : Int).toNat)] ++ List.replicate (2 - (lg_sl [.ref (base + (76 : Int).toNat)]).length) Slot.unset).toArray = ls at hl ⊢
  have hl : lv_has ls 2 [(0, .ref (base + (76 : Int).toNat))] := hl
  unfold f_X5_init at hw
  suffices hV : ml_V p l e rm_X5_init s m [.ref (base + (76 : Int).toNat)].toArray below meth c (MQ below (ml_QC base D cA (76 + 37) Q) [.ref (base + (76 : Int).toNat)].toArray s 37 347 (ml_A base)) base D cA 0 0 0 (76 + 0) σ (F0 m 0 ls []) from hV s.heap [] hP va_S.rf hok ml_RO0
  refine ml_aload_n (pc := 0) X hl 0 rfl rfl dX5_init_0 ?_
  refine ml_objInit (pc := 1) X ⟨tw_2_85, tw_1_24, tw_1_25⟩ hl ⟨by decide, by decide⟩ (Nat.le_of_ble_eq_true rfl) dX5_init_1 ?_
  refine ml_aload_n (pc := 4) X hl 0 rfl rfl dX5_init_4 ?_
  refine ml_bipush (pc := 5) X dX5_init_5 (by decide) ?_
  obtain ⟨z1, hw⟩ := hw
  refine ml_newR (n0 := 76) (kc := 0) (ks := 0) (pc := 7) (k := 77) X hs 5 11 tw_2_86 hNN.2.1 rfl (by omega) (by omega) (by decide +kernel) (fun f hf => by show _ = _; unfold ml_cell; simp only [hf]; rfl) z1 (by decide) ⟨by decide, by decide⟩ dX5_init_7 ?_
  refine ml_putF (pc := 10) (x := 77) (k := 76) X hini in_X5 rfl (by decide) tk_X5 nmX5 0 (by decide) rfl rfl tw_2_88 (ml_k76 (by decide)) dX5_init_10 (ml_fvA (by omega)) (show (0 : Int) ≤ 77 by omega) rfl rfl (Or.inl (by omega)) (fun σ2 g2 => ?_)
  have hw := hw σ2 g2
  refine ml_aload_n (pc := 13) X hl 0 rfl rfl dX5_init_13 ?_
  obtain ⟨z3, hw⟩ := hw
  refine ml_newO (n0 := 76) (kc := 1) (ks := 11) (pc := 14) (k := 78) X hs ⟨tw_2_86, tw_1_122, tw_1_7⟩ in_X9 rfl (by decide) tk_X9 df_X9 (Or.inr (by omega)) (by omega) (by omega) (by decide +kernel) z3 ⟨by decide, by decide⟩ dX5_init_14 ?_
  refine ml_dup (pc := 17) X dX5_init_17 rfl ?_
  refine ml_callC (n0 := 76) (kc := 2) (ks := 19) (pc := 18) (k := 78) (mc := 2) (ms := 20) X hs hNN (c_X9_init l base D cA (76 + 2) 78 (by omega) (by decide +kernel) σ2 _ hw) ⟨⟨(List.mem_of_getElem? (i := 10) rfl), tw_1_124, tw_1_7, tw_1_125⟩, rfl, by decide +kernel⟩ ⟨rfl, rfl⟩ ⟨by decide, by decide⟩ (by omega) hl (Nat.le_of_ble_eq_true rfl) ⟨by decide, by decide⟩ dX5_init_18 (fun σ4 hw => ?_)
  refine ml_putF (pc := 21) (x := 78) (k := 76) X hini in_X5 rfl (by decide) tk_X5 nmX5 1 (by decide) rfl rfl tw_2_89 (ml_k76 (by decide)) dX5_init_21 (ml_fvO (by omega)) (show (0 : Int) ≤ 78 by omega) rfl rfl (Or.inl (by omega)) (fun σ5 g5 => ?_)
  have hw := hw σ5 g5
  refine ml_iconst (pc := 24) X dX5_init_24 ?_
  refine ml_istore_n (pc := 25) X rfl hl (by decide) (lst' := [(1, .int (Int32.ofInt 0)), (0, .ref (base + (76 : Int).toNat))]) rfl dX5_init_25 (fun ls hl => ?_)
  refine ml_iload_n (pc := 26) X hl 0 rfl rfl dX5_init_26 ?_
  refine ml_bipush (pc := 27) X dX5_init_27 (by decide) ?_
  refine ml_icmp_gt (pc := 29) (tgt := 51) X ⟨by decide, by decide⟩ ⟨by decide, by decide⟩ dX5_init_29 (by decide) (fun c6 => absurd c6 (by decide)) (fun c6 => ?_)
  refine ml_aload_n (pc := 32) X hl 1 rfl rfl dX5_init_32 ?_
  obtain ⟨e7, hw⟩ := hw
  refine ml_getg (pc := 33) (k := 76) X in_X5 rfl (by decide) 0 (by decide) tw_2_88 (ml_k76 (by decide)) dX5_init_33 (v := .ref (base + (77 : Int).toNat)) (fun _ => by show (if σ5 76 0 = 0 then Value.null else .ref (base + (σ5 76 0).toNat)) = _; rw [e7]; exact if_neg (by omega)) (fun _ => ?_)
  refine ml_iload_n (pc := 36) X hl 0 rfl rfl dX5_init_36 ?_
  obtain ⟨z8, hw⟩ := hw
  refine ml_newO (n0 := 76) (kc := 4) (ks := 39) (pc := 37) (k := 81) X hs ⟨tw_2_86, tw_1_122, tw_1_7⟩ in_X9 rfl (by decide) tk_X9 df_X9 (Or.inr (by omega)) (by omega) (by omega) (by decide +kernel) z8 ⟨by decide, by decide⟩ dX5_init_37 ?_
  refine ml_dup (pc := 40) X dX5_init_40 rfl ?_
  refine ml_callC (n0 := 76) (kc := 5) (ks := 47) (pc := 41) (k := 81) (mc := 2) (ms := 20) X hs hNN (c_X9_init l base D cA (76 + 5) 81 (by omega) (by decide +kernel) σ5 _ hw) ⟨⟨(List.mem_of_getElem? (i := 10) rfl), tw_1_124, tw_1_7, tw_1_125⟩, rfl, by decide +kernel⟩ ⟨rfl, rfl⟩ ⟨by decide, by decide⟩ (by omega) hl (Nat.le_of_ble_eq_true rfl) ⟨by decide, by decide⟩ dX5_init_41 (fun σ9 hw => ?_)
  refine ml_aast (pc := 44) (k := 77) (i := 0) (v := 81) X (ml_k77 (by decide)) (fun _ => rfl) rfl (ml_k81 (by decide)) (by decide) rfl (Or.inl (by decide +kernel)) (by decide) (by decide) dX5_init_44 (fun σ10 g10 => ?_)
  have hw := hw σ10 g10
  refine ml_iinc (pc := 45) X (x := 0) (y := 1) (by decide) hl 0 rfl (by decide) (lst' := [(1, .int (Int32.ofInt 1)), (0, .ref (base + (76 : Int).toNat))]) rfl dX5_init_45 (fun ls hl => ?_)
  refine ml_goto (pc := 48) (tgt := 26) X dX5_init_48 (by decide) ?_
  refine ml_iload_n (pc := 26) X hl 0 rfl rfl dX5_init_26 ?_
  refine ml_bipush (pc := 27) X dX5_init_27 (by decide) ?_
  refine ml_icmp_gt (pc := 29) (tgt := 51) X ⟨by decide, by decide⟩ ⟨by decide, by decide⟩ dX5_init_29 (by decide) (fun c11 => absurd c11 (by decide)) (fun c11 => ?_)
  refine ml_aload_n (pc := 32) X hl 1 rfl rfl dX5_init_32 ?_
  obtain ⟨e12, hw⟩ := hw
  refine ml_getg (pc := 33) (k := 76) X in_X5 rfl (by decide) 0 (by decide) tw_2_88 (ml_k76 (by decide)) dX5_init_33 (v := .ref (base + (77 : Int).toNat)) (fun _ => by show (if σ10 76 0 = 0 then Value.null else .ref (base + (σ10 76 0).toNat)) = _; rw [e12]; exact if_neg (by omega)) (fun _ => ?_)
  refine ml_iload_n (pc := 36) X hl 0 rfl rfl dX5_init_36 ?_
  obtain ⟨z13, hw⟩ := hw
  refine ml_newO (n0 := 76) (kc := 7) (ks := 67) (pc := 37) (k := 84) X hs ⟨tw_2_86, tw_1_122, tw_1_7⟩ in_X9 rfl (by decide) tk_X9 df_X9 (Or.inr (by omega)) (by omega) (by omega) (by decide +kernel) z13 ⟨by decide, by decide⟩ dX5_init_37 ?_
  refine ml_dup (pc := 40) X dX5_init_40 rfl ?_
  refine ml_callC (n0 := 76) (kc := 8) (ks := 75) (pc := 41) (k := 84) (mc := 2) (ms := 20) X hs hNN (c_X9_init l base D cA (76 + 8) 84 (by omega) (by decide +kernel) σ10 _ hw) ⟨⟨(List.mem_of_getElem? (i := 10) rfl), tw_1_124, tw_1_7, tw_1_125⟩, rfl, by decide +kernel⟩ ⟨rfl, rfl⟩ ⟨by decide, by decide⟩ (by omega) hl (Nat.le_of_ble_eq_true rfl) ⟨by decide, by decide⟩ dX5_init_41 (fun σ14 hw => ?_)
  refine ml_aast (pc := 44) (k := 77) (i := 1) (v := 84) X (ml_k77 (by decide)) (fun _ => rfl) rfl (ml_k84 (by decide)) (by decide) rfl (Or.inl (by decide +kernel)) (by decide) (by decide) dX5_init_44 (fun σ15 g15 => ?_)
  have hw := hw σ15 g15
  refine ml_iinc (pc := 45) X (x := 1) (y := 2) (by decide) hl 0 rfl (by decide) (lst' := [(1, .int (Int32.ofInt 2)), (0, .ref (base + (76 : Int).toNat))]) rfl dX5_init_45 (fun ls hl => ?_)
  refine ml_goto (pc := 48) (tgt := 26) X dX5_init_48 (by decide) ?_
  refine ml_iload_n (pc := 26) X hl 0 rfl rfl dX5_init_26 ?_
  refine ml_bipush (pc := 27) X dX5_init_27 (by decide) ?_
  refine ml_icmp_gt (pc := 29) (tgt := 51) X ⟨by decide, by decide⟩ ⟨by decide, by decide⟩ dX5_init_29 (by decide) (fun c16 => absurd c16 (by decide)) (fun c16 => ?_)
  refine ml_aload_n (pc := 32) X hl 1 rfl rfl dX5_init_32 ?_
  obtain ⟨e17, hw⟩ := hw
  refine ml_getg (pc := 33) (k := 76) X in_X5 rfl (by decide) 0 (by decide) tw_2_88 (ml_k76 (by decide)) dX5_init_33 (v := .ref (base + (77 : Int).toNat)) (fun _ => by show (if σ15 76 0 = 0 then Value.null else .ref (base + (σ15 76 0).toNat)) = _; rw [e17]; exact if_neg (by omega)) (fun _ => ?_)
  refine ml_iload_n (pc := 36) X hl 0 rfl rfl dX5_init_36 ?_
  obtain ⟨z18, hw⟩ := hw
  refine ml_newO (n0 := 76) (kc := 10) (ks := 95) (pc := 37) (k := 87) X hs ⟨tw_2_86, tw_1_122, tw_1_7⟩ in_X9 rfl (by decide) tk_X9 df_X9 (Or.inr (by omega)) (by omega) (by omega) (by decide +kernel) z18 ⟨by decide, by decide⟩ dX5_init_37 ?_
  refine ml_dup (pc := 40) X dX5_init_40 rfl ?_
  refine ml_callC (n0 := 76) (kc := 11) (ks := 103) (pc := 41) (k := 87) (mc := 2) (ms := 20) X hs hNN (c_X9_init l base D cA (76 + 11) 87 (by omega) (by decide +kernel) σ15 _ hw) ⟨⟨(List.mem_of_getElem? (i := 10) rfl), tw_1_124, tw_1_7, tw_1_125⟩, rfl, by decide +kernel⟩ ⟨rfl, rfl⟩ ⟨by decide, by decide⟩ (by omega) hl (Nat.le_of_ble_eq_true rfl) ⟨by decide, by decide⟩ dX5_init_41 (fun σ19 hw => ?_)
  refine ml_aast (pc := 44) (k := 77) (i := 2) (v := 87) X (ml_k77 (by decide)) (fun _ => rfl) rfl (ml_k87 (by decide)) (by decide) rfl (Or.inl (by decide +kernel)) (by decide) (by decide) dX5_init_44 (fun σ20 g20 => ?_)
  have hw := hw σ20 g20
  refine ml_iinc (pc := 45) X (x := 2) (y := 3) (by decide) hl 0 rfl (by decide) (lst' := [(1, .int (Int32.ofInt 3)), (0, .ref (base + (76 : Int).toNat))]) rfl dX5_init_45 (fun ls hl => ?_)
  refine ml_goto (pc := 48) (tgt := 26) X dX5_init_48 (by decide) ?_
  refine ml_iload_n (pc := 26) X hl 0 rfl rfl dX5_init_26 ?_
  refine ml_bipush (pc := 27) X dX5_init_27 (by decide) ?_
  refine ml_icmp_gt (pc := 29) (tgt := 51) X ⟨by decide, by decide⟩ ⟨by decide, by decide⟩ dX5_init_29 (by decide) (fun c21 => absurd c21 (by decide)) (fun c21 => ?_)
  refine ml_aload_n (pc := 32) X hl 1 rfl rfl dX5_init_32 ?_
  obtain ⟨e22, hw⟩ := hw
  refine ml_getg (pc := 33) (k := 76) X in_X5 rfl (by decide) 0 (by decide) tw_2_88 (ml_k76 (by decide)) dX5_init_33 (v := .ref (base + (77 : Int).toNat)) (fun _ => by show (if σ20 76 0 = 0 then Value.null else .ref (base + (σ20 76 0).toNat)) = _; rw [e22]; exact if_neg (by omega)) (fun _ => ?_)
  refine ml_iload_n (pc := 36) X hl 0 rfl rfl dX5_init_36 ?_
  obtain ⟨z23, hw⟩ := hw
  refine ml_newO (n0 := 76) (kc := 13) (ks := 123) (pc := 37) (k := 90) X hs ⟨tw_2_86, tw_1_122, tw_1_7⟩ in_X9 rfl (by decide) tk_X9 df_X9 (Or.inr (by omega)) (by omega) (by omega) (by decide +kernel) z23 ⟨by decide, by decide⟩ dX5_init_37 ?_
  refine ml_dup (pc := 40) X dX5_init_40 rfl ?_
  refine ml_callC (n0 := 76) (kc := 14) (ks := 131) (pc := 41) (k := 90) (mc := 2) (ms := 20) X hs hNN (c_X9_init l base D cA (76 + 14) 90 (by omega) (by decide +kernel) σ20 _ hw) ⟨⟨(List.mem_of_getElem? (i := 10) rfl), tw_1_124, tw_1_7, tw_1_125⟩, rfl, by decide +kernel⟩ ⟨rfl, rfl⟩ ⟨by decide, by decide⟩ (by omega) hl (Nat.le_of_ble_eq_true rfl) ⟨by decide, by decide⟩ dX5_init_41 (fun σ24 hw => ?_)
  refine ml_aast (pc := 44) (k := 77) (i := 3) (v := 90) X (ml_k77 (by decide)) (fun _ => rfl) rfl (ml_k90 (by decide)) (by decide) rfl (Or.inl (by decide +kernel)) (by decide) (by decide) dX5_init_44 (fun σ25 g25 => ?_)
  have hw := hw σ25 g25
  refine ml_iinc (pc := 45) X (x := 3) (y := 4) (by decide) hl 0 rfl (by decide) (lst' := [(1, .int (Int32.ofInt 4)), (0, .ref (base + (76 : Int).toNat))]) rfl dX5_init_45 (fun ls hl => ?_)
  refine ml_goto (pc := 48) (tgt := 26) X dX5_init_48 (by decide) ?_
  refine ml_iload_n (pc := 26) X hl 0 rfl rfl dX5_init_26 ?_
  refine ml_bipush (pc := 27) X dX5_init_27 (by decide) ?_
  refine ml_icmp_gt (pc := 29) (tgt := 51) X ⟨by decide, by decide⟩ ⟨by decide, by decide⟩ dX5_init_29 (by decide) (fun c26 => absurd c26 (by decide)) (fun c26 => ?_)
  refine ml_aload_n (pc := 32) X hl 1 rfl rfl dX5_init_32 ?_
  obtain ⟨e27, hw⟩ := hw
  refine ml_getg (pc := 33) (k := 76) X in_X5 rfl (by decide) 0 (by decide) tw_2_88 (ml_k76 (by decide)) dX5_init_33 (v := .ref (base + (77 : Int).toNat)) (fun _ => by show (if σ25 76 0 = 0 then Value.null else .ref (base + (σ25 76 0).toNat)) = _; rw [e27]; exact if_neg (by omega)) (fun _ => ?_)
  refine ml_iload_n (pc := 36) X hl 0 rfl rfl dX5_init_36 ?_
  obtain ⟨z28, hw⟩ := hw
  refine ml_newO (n0 := 76) (kc := 16) (ks := 151) (pc := 37) (k := 93) X hs ⟨tw_2_86, tw_1_122, tw_1_7⟩ in_X9 rfl (by decide) tk_X9 df_X9 (Or.inr (by omega)) (by omega) (by omega) (by decide +kernel) z28 ⟨by decide, by decide⟩ dX5_init_37 ?_
  refine ml_dup (pc := 40) X dX5_init_40 rfl ?_
  refine ml_callC (n0 := 76) (kc := 17) (ks := 159) (pc := 41) (k := 93) (mc := 2) (ms := 20) X hs hNN (c_X9_init l base D cA (76 + 17) 93 (by omega) (by decide +kernel) σ25 _ hw) ⟨⟨(List.mem_of_getElem? (i := 10) rfl), tw_1_124, tw_1_7, tw_1_125⟩, rfl, by decide +kernel⟩ ⟨rfl, rfl⟩ ⟨by decide, by decide⟩ (by omega) hl (Nat.le_of_ble_eq_true rfl) ⟨by decide, by decide⟩ dX5_init_41 (fun σ29 hw => ?_)
  refine ml_aast (pc := 44) (k := 77) (i := 4) (v := 93) X (ml_k77 (by decide)) (fun _ => rfl) rfl (ml_k93 (by decide)) (by decide) rfl (Or.inl (by decide +kernel)) (by decide) (by decide) dX5_init_44 (fun σ30 g30 => ?_)
  have hw := hw σ30 g30
  refine ml_iinc (pc := 45) X (x := 4) (y := 5) (by decide) hl 0 rfl (by decide) (lst' := [(1, .int (Int32.ofInt 5)), (0, .ref (base + (76 : Int).toNat))]) rfl dX5_init_45 (fun ls hl => ?_)
  refine ml_goto (pc := 48) (tgt := 26) X dX5_init_48 (by decide) ?_
  refine ml_iload_n (pc := 26) X hl 0 rfl rfl dX5_init_26 ?_
  refine ml_bipush (pc := 27) X dX5_init_27 (by decide) ?_
  refine ml_icmp_gt (pc := 29) (tgt := 51) X ⟨by decide, by decide⟩ ⟨by decide, by decide⟩ dX5_init_29 (by decide) (fun c31 => absurd c31 (by decide)) (fun c31 => ?_)
  refine ml_aload_n (pc := 32) X hl 1 rfl rfl dX5_init_32 ?_
  obtain ⟨e32, hw⟩ := hw
  refine ml_getg (pc := 33) (k := 76) X in_X5 rfl (by decide) 0 (by decide) tw_2_88 (ml_k76 (by decide)) dX5_init_33 (v := .ref (base + (77 : Int).toNat)) (fun _ => by show (if σ30 76 0 = 0 then Value.null else .ref (base + (σ30 76 0).toNat)) = _; rw [e32]; exact if_neg (by omega)) (fun _ => ?_)
  refine ml_iload_n (pc := 36) X hl 0 rfl rfl dX5_init_36 ?_
  obtain ⟨z33, hw⟩ := hw
  refine ml_newO (n0 := 76) (kc := 19) (ks := 179) (pc := 37) (k := 96) X hs ⟨tw_2_86, tw_1_122, tw_1_7⟩ in_X9 rfl (by decide) tk_X9 df_X9 (Or.inr (by omega)) (by omega) (by omega) (by decide +kernel) z33 ⟨by decide, by decide⟩ dX5_init_37 ?_
  refine ml_dup (pc := 40) X dX5_init_40 rfl ?_
  refine ml_callC (n0 := 76) (kc := 20) (ks := 187) (pc := 41) (k := 96) (mc := 2) (ms := 20) X hs hNN (c_X9_init l base D cA (76 + 20) 96 (by omega) (by decide +kernel) σ30 _ hw) ⟨⟨(List.mem_of_getElem? (i := 10) rfl), tw_1_124, tw_1_7, tw_1_125⟩, rfl, by decide +kernel⟩ ⟨rfl, rfl⟩ ⟨by decide, by decide⟩ (by omega) hl (Nat.le_of_ble_eq_true rfl) ⟨by decide, by decide⟩ dX5_init_41 (fun σ34 hw => ?_)
  refine ml_aast (pc := 44) (k := 77) (i := 5) (v := 96) X (ml_k77 (by decide)) (fun _ => rfl) rfl (ml_k96 (by decide)) (by decide) rfl (Or.inl (by decide +kernel)) (by decide) (by decide) dX5_init_44 (fun σ35 g35 => ?_)
  have hw := hw σ35 g35
  refine ml_iinc (pc := 45) X (x := 5) (y := 6) (by decide) hl 0 rfl (by decide) (lst' := [(1, .int (Int32.ofInt 6)), (0, .ref (base + (76 : Int).toNat))]) rfl dX5_init_45 (fun ls hl => ?_)
  refine ml_goto (pc := 48) (tgt := 26) X dX5_init_48 (by decide) ?_
  refine ml_iload_n (pc := 26) X hl 0 rfl rfl dX5_init_26 ?_
  refine ml_bipush (pc := 27) X dX5_init_27 (by decide) ?_
  refine ml_icmp_gt (pc := 29) (tgt := 51) X ⟨by decide, by decide⟩ ⟨by decide, by decide⟩ dX5_init_29 (by decide) (fun c36 => absurd c36 (by decide)) (fun c36 => ?_)
  refine ml_aload_n (pc := 32) X hl 1 rfl rfl dX5_init_32 ?_
  obtain ⟨e37, hw⟩ := hw
  refine ml_getg (pc := 33) (k := 76) X in_X5 rfl (by decide) 0 (by decide) tw_2_88 (ml_k76 (by decide)) dX5_init_33 (v := .ref (base + (77 : Int).toNat)) (fun _ => by show (if σ35 76 0 = 0 then Value.null else .ref (base + (σ35 76 0).toNat)) = _; rw [e37]; exact if_neg (by omega)) (fun _ => ?_)
  refine ml_iload_n (pc := 36) X hl 0 rfl rfl dX5_init_36 ?_
  obtain ⟨z38, hw⟩ := hw
  refine ml_newO (n0 := 76) (kc := 22) (ks := 207) (pc := 37) (k := 99) X hs ⟨tw_2_86, tw_1_122, tw_1_7⟩ in_X9 rfl (by decide) tk_X9 df_X9 (Or.inr (by omega)) (by omega) (by omega) (by decide +kernel) z38 ⟨by decide, by decide⟩ dX5_init_37 ?_
  refine ml_dup (pc := 40) X dX5_init_40 rfl ?_
  refine ml_callC (n0 := 76) (kc := 23) (ks := 215) (pc := 41) (k := 99) (mc := 2) (ms := 20) X hs hNN (c_X9_init l base D cA (76 + 23) 99 (by omega) (by decide +kernel) σ35 _ hw) ⟨⟨(List.mem_of_getElem? (i := 10) rfl), tw_1_124, tw_1_7, tw_1_125⟩, rfl, by decide +kernel⟩ ⟨rfl, rfl⟩ ⟨by decide, by decide⟩ (by omega) hl (Nat.le_of_ble_eq_true rfl) ⟨by decide, by decide⟩ dX5_init_41 (fun σ39 hw => ?_)
  refine ml_aast (pc := 44) (k := 77) (i := 6) (v := 99) X (ml_k77 (by decide)) (fun _ => rfl) rfl (ml_k99 (by decide)) (by decide) rfl (Or.inl (by decide +kernel)) (by decide) (by decide) dX5_init_44 (fun σ40 g40 => ?_)
  have hw := hw σ40 g40
  refine ml_iinc (pc := 45) X (x := 6) (y := 7) (by decide) hl 0 rfl (by decide) (lst' := [(1, .int (Int32.ofInt 7)), (0, .ref (base + (76 : Int).toNat))]) rfl dX5_init_45 (fun ls hl => ?_)
  refine ml_goto (pc := 48) (tgt := 26) X dX5_init_48 (by decide) ?_
  refine ml_iload_n (pc := 26) X hl 0 rfl rfl dX5_init_26 ?_
  refine ml_bipush (pc := 27) X dX5_init_27 (by decide) ?_
  refine ml_icmp_gt (pc := 29) (tgt := 51) X ⟨by decide, by decide⟩ ⟨by decide, by decide⟩ dX5_init_29 (by decide) (fun c41 => absurd c41 (by decide)) (fun c41 => ?_)
  refine ml_aload_n (pc := 32) X hl 1 rfl rfl dX5_init_32 ?_
  obtain ⟨e42, hw⟩ := hw
  refine ml_getg (pc := 33) (k := 76) X in_X5 rfl (by decide) 0 (by decide) tw_2_88 (ml_k76 (by decide)) dX5_init_33 (v := .ref (base + (77 : Int).toNat)) (fun _ => by show (if σ40 76 0 = 0 then Value.null else .ref (base + (σ40 76 0).toNat)) = _; rw [e42]; exact if_neg (by omega)) (fun _ => ?_)
  refine ml_iload_n (pc := 36) X hl 0 rfl rfl dX5_init_36 ?_
  obtain ⟨z43, hw⟩ := hw
  refine ml_newO (n0 := 76) (kc := 25) (ks := 235) (pc := 37) (k := 102) X hs ⟨tw_2_86, tw_1_122, tw_1_7⟩ in_X9 rfl (by decide) tk_X9 df_X9 (Or.inr (by omega)) (by omega) (by omega) (by decide +kernel) z43 ⟨by decide, by decide⟩ dX5_init_37 ?_
  refine ml_dup (pc := 40) X dX5_init_40 rfl ?_
  refine ml_callC (n0 := 76) (kc := 26) (ks := 243) (pc := 41) (k := 102) (mc := 2) (ms := 20) X hs hNN (c_X9_init l base D cA (76 + 26) 102 (by omega) (by decide +kernel) σ40 _ hw) ⟨⟨(List.mem_of_getElem? (i := 10) rfl), tw_1_124, tw_1_7, tw_1_125⟩, rfl, by decide +kernel⟩ ⟨rfl, rfl⟩ ⟨by decide, by decide⟩ (by omega) hl (Nat.le_of_ble_eq_true rfl) ⟨by decide, by decide⟩ dX5_init_41 (fun σ44 hw => ?_)
  refine ml_aast (pc := 44) (k := 77) (i := 7) (v := 102) X (ml_k77 (by decide)) (fun _ => rfl) rfl (ml_k102 (by decide)) (by decide) rfl (Or.inl (by decide +kernel)) (by decide) (by decide) dX5_init_44 (fun σ45 g45 => ?_)
  have hw := hw σ45 g45
  refine ml_iinc (pc := 45) X (x := 7) (y := 8) (by decide) hl 0 rfl (by decide) (lst' := [(1, .int (Int32.ofInt 8)), (0, .ref (base + (76 : Int).toNat))]) rfl dX5_init_45 (fun ls hl => ?_)
  refine ml_goto (pc := 48) (tgt := 26) X dX5_init_48 (by decide) ?_
  refine ml_iload_n (pc := 26) X hl 0 rfl rfl dX5_init_26 ?_
  refine ml_bipush (pc := 27) X dX5_init_27 (by decide) ?_
  refine ml_icmp_gt (pc := 29) (tgt := 51) X ⟨by decide, by decide⟩ ⟨by decide, by decide⟩ dX5_init_29 (by decide) (fun c46 => absurd c46 (by decide)) (fun c46 => ?_)
  refine ml_aload_n (pc := 32) X hl 1 rfl rfl dX5_init_32 ?_
  obtain ⟨e47, hw⟩ := hw
  refine ml_getg (pc := 33) (k := 76) X in_X5 rfl (by decide) 0 (by decide) tw_2_88 (ml_k76 (by decide)) dX5_init_33 (v := .ref (base + (77 : Int).toNat)) (fun _ => by show (if σ45 76 0 = 0 then Value.null else .ref (base + (σ45 76 0).toNat)) = _; rw [e47]; exact if_neg (by omega)) (fun _ => ?_)
  refine ml_iload_n (pc := 36) X hl 0 rfl rfl dX5_init_36 ?_
  obtain ⟨z48, hw⟩ := hw
  refine ml_newO (n0 := 76) (kc := 28) (ks := 263) (pc := 37) (k := 105) X hs ⟨tw_2_86, tw_1_122, tw_1_7⟩ in_X9 rfl (by decide) tk_X9 df_X9 (Or.inr (by omega)) (by omega) (by omega) (by decide +kernel) z48 ⟨by decide, by decide⟩ dX5_init_37 ?_
  refine ml_dup (pc := 40) X dX5_init_40 rfl ?_
  refine ml_callC (n0 := 76) (kc := 29) (ks := 271) (pc := 41) (k := 105) (mc := 2) (ms := 20) X hs hNN (c_X9_init l base D cA (76 + 29) 105 (by omega) (by decide +kernel) σ45 _ hw) ⟨⟨(List.mem_of_getElem? (i := 10) rfl), tw_1_124, tw_1_7, tw_1_125⟩, rfl, by decide +kernel⟩ ⟨rfl, rfl⟩ ⟨by decide, by decide⟩ (by omega) hl (Nat.le_of_ble_eq_true rfl) ⟨by decide, by decide⟩ dX5_init_41 (fun σ49 hw => ?_)
  refine ml_aast (pc := 44) (k := 77) (i := 8) (v := 105) X (ml_k77 (by decide)) (fun _ => rfl) rfl (ml_k105 (by decide)) (by decide) rfl (Or.inl (by decide +kernel)) (by decide) (by decide) dX5_init_44 (fun σ50 g50 => ?_)
  have hw := hw σ50 g50
  refine ml_iinc (pc := 45) X (x := 8) (y := 9) (by decide) hl 0 rfl (by decide) (lst' := [(1, .int (Int32.ofInt 9)), (0, .ref (base + (76 : Int).toNat))]) rfl dX5_init_45 (fun ls hl => ?_)
  refine ml_goto (pc := 48) (tgt := 26) X dX5_init_48 (by decide) ?_
  refine ml_iload_n (pc := 26) X hl 0 rfl rfl dX5_init_26 ?_
  refine ml_bipush (pc := 27) X dX5_init_27 (by decide) ?_
  refine ml_icmp_gt (pc := 29) (tgt := 51) X ⟨by decide, by decide⟩ ⟨by decide, by decide⟩ dX5_init_29 (by decide) (fun c51 => absurd c51 (by decide)) (fun c51 => ?_)
  refine ml_aload_n (pc := 32) X hl 1 rfl rfl dX5_init_32 ?_
  obtain ⟨e52, hw⟩ := hw
  refine ml_getg (pc := 33) (k := 76) X in_X5 rfl (by decide) 0 (by decide) tw_2_88 (ml_k76 (by decide)) dX5_init_33 (v := .ref (base + (77 : Int).toNat)) (fun _ => by show (if σ50 76 0 = 0 then Value.null else .ref (base + (σ50 76 0).toNat)) = _; rw [e52]; exact if_neg (by omega)) (fun _ => ?_)
  refine ml_iload_n (pc := 36) X hl 0 rfl rfl dX5_init_36 ?_
  obtain ⟨z53, hw⟩ := hw
  refine ml_newO (n0 := 76) (kc := 31) (ks := 291) (pc := 37) (k := 108) X hs ⟨tw_2_86, tw_1_122, tw_1_7⟩ in_X9 rfl (by decide) tk_X9 df_X9 (Or.inr (by omega)) (by omega) (by omega) (by decide +kernel) z53 ⟨by decide, by decide⟩ dX5_init_37 ?_
  refine ml_dup (pc := 40) X dX5_init_40 rfl ?_
  refine ml_callC (n0 := 76) (kc := 32) (ks := 299) (pc := 41) (k := 108) (mc := 2) (ms := 20) X hs hNN (c_X9_init l base D cA (76 + 32) 108 (by omega) (by decide +kernel) σ50 _ hw) ⟨⟨(List.mem_of_getElem? (i := 10) rfl), tw_1_124, tw_1_7, tw_1_125⟩, rfl, by decide +kernel⟩ ⟨rfl, rfl⟩ ⟨by decide, by decide⟩ (by omega) hl (Nat.le_of_ble_eq_true rfl) ⟨by decide, by decide⟩ dX5_init_41 (fun σ54 hw => ?_)
  refine ml_aast (pc := 44) (k := 77) (i := 9) (v := 108) X (ml_k77 (by decide)) (fun _ => rfl) rfl (ml_k108 (by decide)) (by decide) rfl (Or.inl (by decide +kernel)) (by decide) (by decide) dX5_init_44 (fun σ55 g55 => ?_)
  have hw := hw σ55 g55
  refine ml_iinc (pc := 45) X (x := 9) (y := 10) (by decide) hl 0 rfl (by decide) (lst' := [(1, .int (Int32.ofInt 10)), (0, .ref (base + (76 : Int).toNat))]) rfl dX5_init_45 (fun ls hl => ?_)
  refine ml_goto (pc := 48) (tgt := 26) X dX5_init_48 (by decide) ?_
  refine ml_iload_n (pc := 26) X hl 0 rfl rfl dX5_init_26 ?_
  refine ml_bipush (pc := 27) X dX5_init_27 (by decide) ?_
  refine ml_icmp_gt (pc := 29) (tgt := 51) X ⟨by decide, by decide⟩ ⟨by decide, by decide⟩ dX5_init_29 (by decide) (fun c56 => absurd c56 (by decide)) (fun c56 => ?_)
  refine ml_aload_n (pc := 32) X hl 1 rfl rfl dX5_init_32 ?_
  obtain ⟨e57, hw⟩ := hw
  refine ml_getg (pc := 33) (k := 76) X in_X5 rfl (by decide) 0 (by decide) tw_2_88 (ml_k76 (by decide)) dX5_init_33 (v := .ref (base + (77 : Int).toNat)) (fun _ => by show (if σ55 76 0 = 0 then Value.null else .ref (base + (σ55 76 0).toNat)) = _; rw [e57]; exact if_neg (by omega)) (fun _ => ?_)
  refine ml_iload_n (pc := 36) X hl 0 rfl rfl dX5_init_36 ?_
  obtain ⟨z58, hw⟩ := hw
  refine ml_newO (n0 := 76) (kc := 34) (ks := 319) (pc := 37) (k := 111) X hs ⟨tw_2_86, tw_1_122, tw_1_7⟩ in_X9 rfl (by decide) tk_X9 df_X9 (Or.inr (by omega)) (by omega) (by omega) (by decide +kernel) z58 ⟨by decide, by decide⟩ dX5_init_37 ?_
  refine ml_dup (pc := 40) X dX5_init_40 rfl ?_
  refine ml_callC (n0 := 76) (kc := 35) (ks := 327) (pc := 41) (k := 111) (mc := 2) (ms := 20) X hs hNN (c_X9_init l base D cA (76 + 35) 111 (by omega) (by decide +kernel) σ55 _ hw) ⟨⟨(List.mem_of_getElem? (i := 10) rfl), tw_1_124, tw_1_7, tw_1_125⟩, rfl, by decide +kernel⟩ ⟨rfl, rfl⟩ ⟨by decide, by decide⟩ (by omega) hl (Nat.le_of_ble_eq_true rfl) ⟨by decide, by decide⟩ dX5_init_41 (fun σ59 hw => ?_)
  refine ml_aast (pc := 44) (k := 77) (i := 10) (v := 111) X (ml_k77 (by decide)) (fun _ => rfl) rfl (ml_k111 (by decide)) (by decide) rfl (Or.inl (by decide +kernel)) (by decide) (by decide) dX5_init_44 (fun σ60 g60 => ?_)
  have hw := hw σ60 g60
  refine ml_iinc (pc := 45) X (x := 10) (y := 11) (by decide) hl 0 rfl (by decide) (lst' := [(1, .int (Int32.ofInt 11)), (0, .ref (base + (76 : Int).toNat))]) rfl dX5_init_45 (fun ls hl => ?_)
  refine ml_goto (pc := 48) (tgt := 26) X dX5_init_48 (by decide) ?_
  refine ml_iload_n (pc := 26) X hl 0 rfl rfl dX5_init_26 ?_
  refine ml_bipush (pc := 27) X dX5_init_27 (by decide) ?_
  refine ml_icmp_gt (pc := 29) (tgt := 51) X ⟨by decide, by decide⟩ ⟨by decide, by decide⟩ dX5_init_29 (by decide) (fun c61 => ?_) (fun c61 => absurd c61 (by decide))
  exact ml_vretC (pc := 51) X hw dX5_init_51
theorem dX10_init_0 : decode cX10_init 0 = .ok (.aload_n 0, 1) := by decide +kernel
theorem dX10_init_1 : decode cX10_init 1 = .ok (.invokespecial 3, 3) := by decide +kernel
theorem dX10_init_4 : decode cX10_init 4 = .ok (.aload_n 0, 1) := by decide +kernel
theorem dX10_init_5 : decode cX10_init 5 = .ok (.bipush 100, 2) := by decide +kernel
theorem dX10_init_7 : decode cX10_init 7 = .ok (.newarray .byte, 2) := by decide +kernel
theorem dX10_init_9 : decode cX10_init 9 = .ok (.putfield 9, 3) := by decide +kernel
theorem dX10_init_12 : decode cX10_init 12 = .ok (.aload_n 0, 1) := by decide +kernel
theorem dX10_init_13 : decode cX10_init 13 = .ok (.iconst 0, 1) := by decide +kernel
theorem dX10_init_14 : decode cX10_init 14 = .ok (.putfield 15, 3) := by decide +kernel
theorem dX10_init_17 : decode cX10_init 17 = .ok (.aload_n 0, 1) := by decide +kernel
theorem dX10_init_18 : decode cX10_init 18 = .ok (.iconst 0, 1) := by decide +kernel
theorem dX10_init_19 : decode cX10_init 19 = .ok (.putfield 19, 3) := by decide +kernel
theorem dX10_init_22 : decode cX10_init 22 = .ok (.aload_n 0, 1) := by decide +kernel
theorem dX10_init_23 : decode cX10_init 23 = .ok (.iconst 1, 1) := by decide +kernel
theorem dX10_init_24 : decode cX10_init 24 = .ok (.putfield 23, 3) := by decide +kernel
theorem dX10_init_27 : decode cX10_init 27 = .ok (.aload_n 0, 1) := by decide +kernel
theorem dX10_init_28 : decode cX10_init 28 = .ok (.new 26, 3) := by decide +kernel
theorem dX10_init_31 : decode cX10_init 31 = .ok (.dup, 1) := by decide +kernel
theorem dX10_init_32 : decode cX10_init 32 = .ok (.invokespecial 28, 3) := by decide +kernel
theorem dX10_init_35 : decode cX10_init 35 = .ok (.putfield 29, 3) := by decide +kernel
theorem dX10_init_38 : decode cX10_init 38 = .ok (.aload_n 0, 1) := by decide +kernel
theorem dX10_init_39 : decode cX10_init 39 = .ok (.sipush 2000, 3) := by decide +kernel
theorem dX10_init_42 : decode cX10_init 42 = .ok (.newarray .byte, 2) := by decide +kernel
theorem dX10_init_44 : decode cX10_init 44 = .ok (.putfield 33, 3) := by decide +kernel
theorem dX10_init_47 : decode cX10_init 47 = .ok (.aload_n 0, 1) := by decide +kernel
theorem dX10_init_48 : decode cX10_init 48 = .ok (.iconst 0, 1) := by decide +kernel
theorem dX10_init_49 : decode cX10_init 49 = .ok (.putfield 36, 3) := by decide +kernel
theorem dX10_init_52 : decode cX10_init 52 = .ok (.aload_n 0, 1) := by decide +kernel
theorem dX10_init_53 : decode cX10_init 53 = .ok (.iconst 0, 1) := by decide +kernel
theorem dX10_init_54 : decode cX10_init 54 = .ok (.putfield 39, 3) := by decide +kernel
theorem dX10_init_57 : decode cX10_init 57 = .ok (.return_, 1) := by decide +kernel
def f_X10_init (σ : ml_St) (th : Int) (Q : ml_St → Prop) : Prop :=
(∀ j : Int, σ (th + 1) j = 0) ∧
∀ σ2, σ2 = ml_up σ th 0 (th + 1) →
∀ σ3, σ3 = ml_up σ2 th 1 0 →
∀ σ4, σ4 = ml_up σ3 th 2 0 →
∀ σ5, σ5 = ml_up σ4 th 3 1 →
(∀ j : Int, σ5 (th + 2) j = 0) ∧
f_X9_init σ5 (th + 2) (fun σ7 =>
∀ σ8, σ8 = ml_up σ7 th 4 (th + 2) →
(∀ j : Int, σ8 (th + 5) j = 0) ∧
∀ σ10, σ10 = ml_up σ8 th 5 (th + 5) →
∀ σ11, σ11 = ml_up σ10 th 6 0 →
∀ σ12, σ12 = ml_up σ11 th 7 0 →
Q σ12)
def rm_X10_init : Room := { frames := 2, cells := 5, slots := 2128, locals := 80 }
set_option maxRecDepth 100000 in
set_option maxHeartbeats 4000000 in
theorem c_X10_init (l : Launch) (base : Nat) (D : va_G) (cA : Nat → ClassId) (n : Nat) (th : Int) (hth : th = (n : Int)) (hlay : ml_lay th = (20, 8)) (σ : ml_St) (Q : ml_St → Prop) (hw : f_X10_init σ th Q) : Met l yX10_init (Cond.code yX10_init cX10_init 1 none :: ml_T) rm_X10_init (va_Pc [.ref (base + (th : Int).toNat)] (ml_UC base D cA n σ)) (ml_QC base D cA (n + 5) Q) 5 2128 (ml_A base) := by
  refine Met.ofW (cc := cX10_init) (maxL := 1) (ret := none) (by decide) rfl ?_
  intro p e s m args below meth c s₁ B hml hv
  obtain ⟨rfl, ⟨hP, hK, hok⟩, hs, hNN⟩ := hv
  have hini : meth.name = "<init>" := (name_of_methodNamed B.named B.method).1
  have X : ml_X p s m c meth _ D cA cX10_init 1 RX10 none := ⟨B.exec, B.bytes, hml, findClass_of_methodNamed B.named, fun w hw => atoms_spec (ws := Cond.code yX10_init cX10_init 1 none :: ml_T) B.pre w (List.mem_cons_of_mem _ hw), hK, B.notSynchronized, B.returns⟩
  have h1 := (ml_lay_in hlay (by decide)).1
  have hr1 := ml_wordK hlay
  have hl := lv_entry [.ref (base + (th : Int).toNat)] (n := 1) (Nat.le_of_ble_eq_true rfl)
  rw [lg_entry_eq]
  generalize (lg_sl [.ref (base + (th : Int).toNat)] ++ List.replicate (1 - (lg_sl [.ref (base + (th : Int).toNat)]).length) Slot.unset).toArray = ls at hl ⊢
  have hl : lv_has ls 1 [(0, .ref (base + (th : Int).toNat))] := hl
  unfold f_X10_init at hw
  suffices hV : ml_V p l e rm_X10_init s m [.ref (base + (th : Int).toNat)].toArray below meth c (MQ below (ml_QC base D cA (n + 5) Q) [.ref (base + (th : Int).toNat)].toArray s 5 2128 (ml_A base)) base D cA 0 0 0 (n + 0) σ (F0 m 0 ls []) from hV s.heap [] hP va_S.rf hok ml_RO0
  refine ml_aload_n (pc := 0) X hl 0 rfl rfl dX10_init_0 ?_
  refine ml_objInit (pc := 1) X ⟨tw_2_103, tw_1_24, tw_1_25⟩ hl ⟨by decide, by decide⟩ (Nat.le_of_ble_eq_true rfl) dX10_init_1 ?_
  refine ml_aload_n (pc := 4) X hl 0 rfl rfl dX10_init_4 ?_
  refine ml_bipush (pc := 5) X dX10_init_5 (by decide) ?_
  obtain ⟨z1, hw⟩ := hw
  refine ml_newA (n0 := n) (kc := 0) (ks := 0) (pc := 7) (k := (th + 1)) X hs .byte .byte 2 100 tw_1_85 rfl rfl (fun _ _ h => h) (100, .inl (fun _ => 0)) (fun _ => rfl) (by omega) (by omega) hr1.2.2.1 (fun f hf => by show _ = _; unfold ml_cell; simp only [hf]; rfl) z1 (by decide) (by decide) ⟨by decide, by decide⟩ dX10_init_7 ?_
  refine ml_putF (pc := 9) (x := (th + 1)) (k := th) X hini in_X10 rfl (by decide) tk_X10 nmX10 0 (by decide) rfl rfl tw_2_106 ⟨by omega, by omega, hlay⟩ dX10_init_9 (ml_fvA (by omega)) (show (0 : Int) ≤ (th + 1) by omega) rfl rfl (Or.inl (by omega)) (fun σ2 g2 => ?_)
  have hw := hw σ2 g2
  refine ml_aload_n (pc := 12) X hl 0 rfl rfl dX10_init_12 ?_
  refine ml_iconst (pc := 13) X dX10_init_13 ?_
  refine ml_putg (pc := 14) (x := 0) (k := th) X in_X10 rfl (by decide) tk_X10 nmX10 1 (by decide) rfl tw_2_110 ⟨by omega, by omega, hlay⟩ dX10_init_14 rfl ⟨by decide, by decide⟩ rfl rfl (Or.inl (by omega)) (fun σ3 g3 => ?_)
  have hw := hw σ3 g3
  refine ml_aload_n (pc := 17) X hl 0 rfl rfl dX10_init_17 ?_
  refine ml_iconst (pc := 18) X dX10_init_18 ?_
  refine ml_putg (pc := 19) (x := 0) (k := th) X in_X10 rfl (by decide) tk_X10 nmX10 2 (by decide) rfl tw_2_114 ⟨by omega, by omega, hlay⟩ dX10_init_19 rfl ⟨by decide, by decide⟩ (ml_narz ⟨by decide, by decide⟩) (ml_fitz ⟨by decide, by decide⟩) (Or.inl (by omega)) (fun σ4 g4 => ?_)
  have hw := hw σ4 g4
  refine ml_aload_n (pc := 22) X hl 0 rfl rfl dX10_init_22 ?_
  refine ml_iconst (pc := 23) X dX10_init_23 ?_
  refine ml_putg (pc := 24) (x := 1) (k := th) X in_X10 rfl (by decide) tk_X10 nmX10 3 (by decide) rfl tw_2_116 ⟨by omega, by omega, hlay⟩ dX10_init_24 rfl ⟨by decide, by decide⟩ rfl rfl (Or.inl (by omega)) (fun σ5 g5 => ?_)
  have hw := hw σ5 g5
  refine ml_aload_n (pc := 27) X hl 0 rfl rfl dX10_init_27 ?_
  obtain ⟨z6, hw⟩ := hw
  refine ml_newO (n0 := n) (kc := 1) (ks := 100) (pc := 28) (k := (th + 2)) X hs ⟨tw_2_104, tw_1_122, tw_1_7⟩ in_X9 rfl (by decide) tk_X9 df_X9 (Or.inr (by omega)) (by omega) (by omega) hr1.2.2.2.1 z6 ⟨by decide, by decide⟩ dX10_init_28 ?_
  refine ml_dup (pc := 31) X dX10_init_31 rfl ?_
  refine ml_callC (n0 := n) (kc := 2) (ks := 108) (pc := 32) (k := (th + 2)) (mc := 2) (ms := 20) X hs hNN (c_X9_init l base D cA (n + 2) (th + 2) (by omega) hr1.2.2.2.1 σ5 _ hw) ⟨⟨(List.mem_of_getElem? (i := 13) rfl), tw_1_124, tw_1_7, tw_1_125⟩, rfl, by decide +kernel⟩ ⟨rfl, rfl⟩ ⟨by decide, by decide⟩ (by omega) hl (Nat.le_of_ble_eq_true rfl) ⟨by decide, by decide⟩ dX10_init_32 (fun σ7 hw => ?_)
  refine ml_putF (pc := 35) (x := (th + 2)) (k := th) X hini in_X10 rfl (by decide) tk_X10 nmX10 4 (by decide) rfl rfl tw_2_119 ⟨by omega, by omega, hlay⟩ dX10_init_35 (ml_fvO (by omega)) (show (0 : Int) ≤ (th + 2) by omega) rfl rfl (Or.inl (by omega)) (fun σ8 g8 => ?_)
  have hw := hw σ8 g8
  refine ml_aload_n (pc := 38) X hl 0 rfl rfl dX10_init_38 ?_
  refine ml_sipush (pc := 39) X dX10_init_39 (by decide) ?_
  obtain ⟨z9, hw⟩ := hw
  refine ml_newA (n0 := n) (kc := 4) (ks := 128) (pc := 42) (k := (th + 5)) X hs .byte .byte 2 2000 tw_1_85 rfl rfl (fun _ _ h => h) (2000, .inl (fun _ => 0)) (fun _ => rfl) (by omega) (by omega) hr1.2.2.2.2 (fun f hf => by show _ = _; unfold ml_cell; simp only [hf]; rfl) z9 (by decide) (by decide) ⟨by decide, by decide⟩ dX10_init_42 ?_
  refine ml_putF (pc := 44) (x := (th + 5)) (k := th) X hini in_X10 rfl (by decide) tk_X10 nmX10 5 (by decide) rfl rfl tw_2_123 ⟨by omega, by omega, hlay⟩ dX10_init_44 (ml_fvA (by omega)) (show (0 : Int) ≤ (th + 5) by omega) rfl rfl (Or.inl (by omega)) (fun σ10 g10 => ?_)
  have hw := hw σ10 g10
  refine ml_aload_n (pc := 47) X hl 0 rfl rfl dX10_init_47 ?_
  refine ml_iconst (pc := 48) X dX10_init_48 ?_
  refine ml_putg (pc := 49) (x := 0) (k := th) X in_X10 rfl (by decide) tk_X10 nmX10 6 (by decide) rfl tw_2_125 ⟨by omega, by omega, hlay⟩ dX10_init_49 rfl ⟨by decide, by decide⟩ rfl rfl (Or.inl (by omega)) (fun σ11 g11 => ?_)
  have hw := hw σ11 g11
  refine ml_aload_n (pc := 52) X hl 0 rfl rfl dX10_init_52 ?_
  refine ml_iconst (pc := 53) X dX10_init_53 ?_
  refine ml_putg (pc := 54) (x := 0) (k := th) X in_X10 rfl (by decide) tk_X10 nmX10 7 (by decide) rfl tw_2_127 ⟨by omega, by omega, hlay⟩ dX10_init_54 rfl ⟨by decide, by decide⟩ (ml_narz ⟨by decide, by decide⟩) (ml_fitz ⟨by decide, by decide⟩) (Or.inl (by omega)) (fun σ12 g12 => ?_)
  have hw := hw σ12 g12
  exact ml_vretC (pc := 57) X hw dX10_init_57
theorem dX11_init_0 : decode cX11_init 0 = .ok (.aload_n 0, 1) := by decide +kernel
theorem dX11_init_1 : decode cX11_init 1 = .ok (.invokespecial 1, 3) := by decide +kernel
theorem dX11_init_4 : decode cX11_init 4 = .ok (.aload_n 0, 1) := by decide +kernel
theorem dX11_init_5 : decode cX11_init 5 = .ok (.new 7, 3) := by decide +kernel
theorem dX11_init_8 : decode cX11_init 8 = .ok (.dup, 1) := by decide +kernel
theorem dX11_init_9 : decode cX11_init 9 = .ok (.invokespecial 9, 3) := by decide +kernel
theorem dX11_init_12 : decode cX11_init 12 = .ok (.putfield 10, 3) := by decide +kernel
theorem dX11_init_15 : decode cX11_init 15 = .ok (.aload_n 0, 1) := by decide +kernel
theorem dX11_init_16 : decode cX11_init 16 = .ok (.new 16, 3) := by decide +kernel
theorem dX11_init_19 : decode cX11_init 19 = .ok (.dup, 1) := by decide +kernel
theorem dX11_init_20 : decode cX11_init 20 = .ok (.invokespecial 18, 3) := by decide +kernel
theorem dX11_init_23 : decode cX11_init 23 = .ok (.putfield 19, 3) := by decide +kernel
theorem dX11_init_26 : decode cX11_init 26 = .ok (.aload_n 0, 1) := by decide +kernel
theorem dX11_init_27 : decode cX11_init 27 = .ok (.new 23, 3) := by decide +kernel
theorem dX11_init_30 : decode cX11_init 30 = .ok (.dup, 1) := by decide +kernel
theorem dX11_init_31 : decode cX11_init 31 = .ok (.invokespecial 25, 3) := by decide +kernel
theorem dX11_init_34 : decode cX11_init 34 = .ok (.putfield 26, 3) := by decide +kernel
theorem dX11_init_37 : decode cX11_init 37 = .ok (.aload_n 0, 1) := by decide +kernel
theorem dX11_init_38 : decode cX11_init 38 = .ok (.new 30, 3) := by decide +kernel
theorem dX11_init_41 : decode cX11_init 41 = .ok (.dup, 1) := by decide +kernel
theorem dX11_init_42 : decode cX11_init 42 = .ok (.invokespecial 32, 3) := by decide +kernel
theorem dX11_init_45 : decode cX11_init 45 = .ok (.putfield 33, 3) := by decide +kernel
theorem dX11_init_48 : decode cX11_init 48 = .ok (.aload_n 0, 1) := by decide +kernel
theorem dX11_init_49 : decode cX11_init 49 = .ok (.new 37, 3) := by decide +kernel
theorem dX11_init_52 : decode cX11_init 52 = .ok (.dup, 1) := by decide +kernel
theorem dX11_init_53 : decode cX11_init 53 = .ok (.invokespecial 39, 3) := by decide +kernel
theorem dX11_init_56 : decode cX11_init 56 = .ok (.putfield 40, 3) := by decide +kernel
theorem dX11_init_59 : decode cX11_init 59 = .ok (.aload_n 0, 1) := by decide +kernel
theorem dX11_init_60 : decode cX11_init 60 = .ok (.new 44, 3) := by decide +kernel
theorem dX11_init_63 : decode cX11_init 63 = .ok (.dup, 1) := by decide +kernel
theorem dX11_init_64 : decode cX11_init 64 = .ok (.invokespecial 46, 3) := by decide +kernel
theorem dX11_init_67 : decode cX11_init 67 = .ok (.putfield 47, 3) := by decide +kernel
theorem dX11_init_70 : decode cX11_init 70 = .ok (.aload_n 0, 1) := by decide +kernel
theorem dX11_init_71 : decode cX11_init 71 = .ok (.new 51, 3) := by decide +kernel
theorem dX11_init_74 : decode cX11_init 74 = .ok (.dup, 1) := by decide +kernel
theorem dX11_init_75 : decode cX11_init 75 = .ok (.invokespecial 53, 3) := by decide +kernel
theorem dX11_init_78 : decode cX11_init 78 = .ok (.putfield 54, 3) := by decide +kernel
theorem dX11_init_81 : decode cX11_init 81 = .ok (.aload_n 0, 1) := by decide +kernel
theorem dX11_init_82 : decode cX11_init 82 = .ok (.new 58, 3) := by decide +kernel
theorem dX11_init_85 : decode cX11_init 85 = .ok (.dup, 1) := by decide +kernel
theorem dX11_init_86 : decode cX11_init 86 = .ok (.invokespecial 60, 3) := by decide +kernel
theorem dX11_init_89 : decode cX11_init 89 = .ok (.putfield 61, 3) := by decide +kernel
theorem dX11_init_92 : decode cX11_init 92 = .ok (.aload_n 0, 1) := by decide +kernel
theorem dX11_init_93 : decode cX11_init 93 = .ok (.bipush 16, 2) := by decide +kernel
theorem dX11_init_95 : decode cX11_init 95 = .ok (.anewarray 65, 3) := by decide +kernel
theorem dX11_init_98 : decode cX11_init 98 = .ok (.putfield 67, 3) := by decide +kernel
theorem dX11_init_101 : decode cX11_init 101 = .ok (.aload_n 0, 1) := by decide +kernel
theorem dX11_init_102 : decode cX11_init 102 = .ok (.bipush 100, 2) := by decide +kernel
theorem dX11_init_104 : decode cX11_init 104 = .ok (.newarray .byte, 2) := by decide +kernel
theorem dX11_init_106 : decode cX11_init 106 = .ok (.putfield 71, 3) := by decide +kernel
theorem dX11_init_109 : decode cX11_init 109 = .ok (.aload_n 0, 1) := by decide +kernel
theorem dX11_init_110 : decode cX11_init 110 = .ok (.new 75, 3) := by decide +kernel
theorem dX11_init_113 : decode cX11_init 113 = .ok (.dup, 1) := by decide +kernel
theorem dX11_init_114 : decode cX11_init 114 = .ok (.invokespecial 77, 3) := by decide +kernel
theorem dX11_init_117 : decode cX11_init 117 = .ok (.putfield 78, 3) := by decide +kernel
theorem dX11_init_120 : decode cX11_init 120 = .ok (.aload_n 0, 1) := by decide +kernel
theorem dX11_init_121 : decode cX11_init 121 = .ok (.iconst 4, 1) := by decide +kernel
theorem dX11_init_122 : decode cX11_init 122 = .ok (.putfield 82, 3) := by decide +kernel
theorem dX11_init_125 : decode cX11_init 125 = .ok (.aload_n 0, 1) := by decide +kernel
theorem dX11_init_126 : decode cX11_init 126 = .ok (.iconst 0, 1) := by decide +kernel
theorem dX11_init_127 : decode cX11_init 127 = .ok (.putfield 86, 3) := by decide +kernel
theorem dX11_init_130 : decode cX11_init 130 = .ok (.iconst 0, 1) := by decide +kernel
theorem dX11_init_131 : decode cX11_init 131 = .ok (.istore_n 1, 1) := by decide +kernel
theorem dX11_init_132 : decode cX11_init 132 = .ok (.iload_n 1, 1) := by decide +kernel
theorem dX11_init_133 : decode cX11_init 133 = .ok (.bipush 16, 2) := by decide +kernel
theorem dX11_init_135 : decode cX11_init 135 = .ok (.if_icmp .ge 22, 3) := by decide +kernel
theorem dX11_init_138 : decode cX11_init 138 = .ok (.aload_n 0, 1) := by decide +kernel
theorem dX11_init_139 : decode cX11_init 139 = .ok (.getfield 67, 3) := by decide +kernel
theorem dX11_init_142 : decode cX11_init 142 = .ok (.iload_n 1, 1) := by decide +kernel
theorem dX11_init_143 : decode cX11_init 143 = .ok (.new 65, 3) := by decide +kernel
theorem dX11_init_146 : decode cX11_init 146 = .ok (.dup, 1) := by decide +kernel
theorem dX11_init_147 : decode cX11_init 147 = .ok (.invokespecial 89, 3) := by decide +kernel
theorem dX11_init_150 : decode cX11_init 150 = .ok (.aastore, 1) := by decide +kernel
theorem dX11_init_151 : decode cX11_init 151 = .ok (.iinc 1 1, 3) := by decide +kernel
theorem dX11_init_154 : decode cX11_init 154 = .ok (.goto (-22), 3) := by decide +kernel
theorem dX11_init_157 : decode cX11_init 157 = .ok (.aload_n 0, 1) := by decide +kernel
theorem dX11_init_158 : decode cX11_init 158 = .ok (.getfield 19, 3) := by decide +kernel
theorem dX11_init_161 : decode cX11_init 161 = .ok (.aload_n 0, 1) := by decide +kernel
theorem dX11_init_162 : decode cX11_init 162 = .ok (.getfield 82, 3) := by decide +kernel
theorem dX11_init_165 : decode cX11_init 165 = .ok (.invokevirtual 90, 3) := by decide +kernel
theorem dX11_init_168 : decode cX11_init 168 = .ok (.return_, 1) := by decide +kernel
def f_X11_init (σ : ml_St) (Q : ml_St → Prop) : Prop :=
(∀ j : Int, σ 2 j = 0) ∧
f_X8_init σ (fun σ2 =>
∀ σ3, σ3 = ml_up σ2 1 0 2 →
(∀ j : Int, σ3 4 j = 0) ∧
f_X0_init σ3 (fun σ5 =>
∀ σ6, σ6 = ml_up σ5 1 1 4 →
(∀ j : Int, σ6 6 j = 0) ∧
f_X2_init σ6 (fun σ8 =>
∀ σ9, σ9 = ml_up σ8 1 2 6 →
(∀ j : Int, σ9 8 j = 0) ∧
f_X4_init σ9 (fun σ11 =>
∀ σ12, σ12 = ml_up σ11 1 3 8 →
(∀ j : Int, σ12 46 j = 0) ∧
f_X6_init σ12 (fun σ14 =>
∀ σ15, σ15 = ml_up σ14 1 4 46 →
(∀ j : Int, σ15 55 j = 0) ∧
f_X7_init σ15 (fun σ17 =>
∀ σ18, σ18 = ml_up σ17 1 5 55 →
(∀ j : Int, σ18 70 j = 0) ∧
f_X1_init σ18 (fun σ20 =>
∀ σ21, σ21 = ml_up σ20 1 6 70 →
(∀ j : Int, σ21 76 j = 0) ∧
f_X5_init σ21 (fun σ23 =>
∀ σ24, σ24 = ml_up σ23 1 7 76 →
(∀ j : Int, σ24 114 j = 0) ∧
∀ σ26, σ26 = ml_up σ24 1 8 114 →
(∀ j : Int, σ26 115 j = 0) ∧
∀ σ28, σ28 = ml_up σ26 1 9 115 →
(∀ j : Int, σ28 116 j = 0) ∧
f_X9_init σ28 116 (fun σ30 =>
∀ σ31, σ31 = ml_up σ30 1 10 116 →
∀ σ32, σ32 = ml_up σ31 1 11 4 →
∀ σ33, σ33 = ml_up σ32 1 12 0 →
σ33 1 8 = 114 ∧
(∀ j : Int, σ33 119 j = 0) ∧
f_X10_init σ33 119 (fun σ37 =>
∀ σ38, σ38 = ml_up σ37 114 0 119 →
σ38 1 8 = 114 ∧
(∀ j : Int, σ38 125 j = 0) ∧
f_X10_init σ38 125 (fun σ42 =>
∀ σ43, σ43 = ml_up σ42 114 1 125 →
σ43 1 8 = 114 ∧
(∀ j : Int, σ43 131 j = 0) ∧
f_X10_init σ43 131 (fun σ47 =>
∀ σ48, σ48 = ml_up σ47 114 2 131 →
σ48 1 8 = 114 ∧
(∀ j : Int, σ48 137 j = 0) ∧
f_X10_init σ48 137 (fun σ52 =>
∀ σ53, σ53 = ml_up σ52 114 3 137 →
σ53 1 8 = 114 ∧
(∀ j : Int, σ53 143 j = 0) ∧
f_X10_init σ53 143 (fun σ57 =>
∀ σ58, σ58 = ml_up σ57 114 4 143 →
σ58 1 8 = 114 ∧
(∀ j : Int, σ58 149 j = 0) ∧
f_X10_init σ58 149 (fun σ62 =>
∀ σ63, σ63 = ml_up σ62 114 5 149 →
σ63 1 8 = 114 ∧
(∀ j : Int, σ63 155 j = 0) ∧
f_X10_init σ63 155 (fun σ67 =>
∀ σ68, σ68 = ml_up σ67 114 6 155 →
σ68 1 8 = 114 ∧
(∀ j : Int, σ68 161 j = 0) ∧
f_X10_init σ68 161 (fun σ72 =>
∀ σ73, σ73 = ml_up σ72 114 7 161 →
σ73 1 8 = 114 ∧
(∀ j : Int, σ73 167 j = 0) ∧
f_X10_init σ73 167 (fun σ77 =>
∀ σ78, σ78 = ml_up σ77 114 8 167 →
σ78 1 8 = 114 ∧
(∀ j : Int, σ78 173 j = 0) ∧
f_X10_init σ78 173 (fun σ82 =>
∀ σ83, σ83 = ml_up σ82 114 9 173 →
σ83 1 8 = 114 ∧
(∀ j : Int, σ83 179 j = 0) ∧
f_X10_init σ83 179 (fun σ87 =>
∀ σ88, σ88 = ml_up σ87 114 10 179 →
σ88 1 8 = 114 ∧
(∀ j : Int, σ88 185 j = 0) ∧
f_X10_init σ88 185 (fun σ92 =>
∀ σ93, σ93 = ml_up σ92 114 11 185 →
σ93 1 8 = 114 ∧
(∀ j : Int, σ93 191 j = 0) ∧
f_X10_init σ93 191 (fun σ97 =>
∀ σ98, σ98 = ml_up σ97 114 12 191 →
σ98 1 8 = 114 ∧
(∀ j : Int, σ98 197 j = 0) ∧
f_X10_init σ98 197 (fun σ102 =>
∀ σ103, σ103 = ml_up σ102 114 13 197 →
σ103 1 8 = 114 ∧
(∀ j : Int, σ103 203 j = 0) ∧
f_X10_init σ103 203 (fun σ107 =>
∀ σ108, σ108 = ml_up σ107 114 14 203 →
σ108 1 8 = 114 ∧
(∀ j : Int, σ108 209 j = 0) ∧
f_X10_init σ108 209 (fun σ112 =>
∀ σ113, σ113 = ml_up σ112 114 15 209 →
σ113 1 1 = 4 ∧
∀ _ : I32 (σ113 1 11),
ml_RO 214 σ113 ∧
f_X0_goRound σ113 (σ113 1 11) (fun σ117 =>
Q σ117))))))))))))))))))))))))))
def rm_X11_init : Room := { frames := 3, cells := 213, slots := 76181, locals := 101 }
set_option maxRecDepth 100000 in
set_option maxHeartbeats 4000000 in
theorem c_X11_init (l : Launch) (base : Nat) (D : va_G) (cA : Nat → ClassId) (σ : ml_St) (Q : ml_St → Prop) (hw : f_X11_init σ Q) : Met l yX11_init (Cond.code yX11_init cX11_init 2 none :: ml_T) rm_X11_init (va_Pc [.ref (base + (1 : Int).toNat)] (ml_UC base D cA 1 σ)) (ml_QC base D cA (1 + 213) Q) 213 76181 (ml_A base) := by
  refine Met.ofW (cc := cX11_init) (maxL := 2) (ret := none) (by decide) rfl ?_
  intro p e s m args below meth c s₁ B hml hv
  obtain ⟨rfl, ⟨hP, hK, hok⟩, hs, hNN⟩ := hv
  have hini : meth.name = "<init>" := (name_of_methodNamed B.named B.method).1
  have X : ml_X p s m c meth _ D cA cX11_init 2 RX11 none := ⟨B.exec, B.bytes, hml, findClass_of_methodNamed B.named, fun w hw => atoms_spec (ws := Cond.code yX11_init cX11_init 2 none :: ml_T) B.pre w (List.mem_cons_of_mem _ hw), hK, B.notSynchronized, B.returns⟩
  have hl := lv_entry [.ref (base + (1 : Int).toNat)] (n := 2) (Nat.le_of_ble_eq_true rfl)
  rw [lg_entry_eq]
  generalize (lg_sl [.ref (base + (1 : Int).toNat)] ++ List.replicate (2 - (lg_sl [.ref (base + (1 : Int).toNat)]).length) Slot.unset).toArray = ls at hl ⊢
  have hl : lv_has ls 2 [(0, .ref (base + (1 : Int).toNat))] := hl
  unfold f_X11_init at hw
  suffices hV : ml_V p l e rm_X11_init s m [.ref (base + (1 : Int).toNat)].toArray below meth c (MQ below (ml_QC base D cA (1 + 213) Q) [.ref (base + (1 : Int).toNat)].toArray s 213 76181 (ml_A base)) base D cA 0 0 0 (1 + 0) σ (F0 m 0 ls []) from hV s.heap [] hP va_S.rf hok ml_RO0
  refine ml_aload_n (pc := 0) X hl 0 rfl rfl dX11_init_0 ?_
  refine ml_objInit (pc := 1) X ⟨tw_1_23, tw_1_24, tw_1_25⟩ hl ⟨by decide, by decide⟩ (Nat.le_of_ble_eq_true rfl) dX11_init_1 ?_
  refine ml_aload_n (pc := 4) X hl 0 rfl rfl dX11_init_4 ?_
  obtain ⟨z1, hw⟩ := hw
  refine ml_newO (n0 := 1) (kc := 0) (ks := 0) (pc := 5) (k := 2) X hs ⟨tw_1_26, tw_1_27, tw_1_2⟩ in_X8 rfl (by decide) tk_X8 df_X8 (Or.inr (by omega)) (by omega) (by omega) (by decide +kernel) z1 ⟨by decide, by decide⟩ dX11_init_5 ?_
  refine ml_dup (pc := 8) X dX11_init_8 rfl ?_
  refine ml_callC (n0 := 1) (kc := 1) (ks := 2) (pc := 9) (k := 2) (mc := 1) (ms := 200) X hs hNN (c_X8_init l base D cA σ _ hw) ⟨⟨(List.mem_of_getElem? (i := 0) rfl), tw_1_29, tw_1_2, tw_1_30⟩, rfl, by decide +kernel⟩ ⟨rfl, rfl⟩ ⟨by decide, by decide⟩ (by omega) hl (Nat.le_of_ble_eq_true rfl) ⟨by decide, by decide⟩ dX11_init_9 (fun σ2 hw => ?_)
  refine ml_putF (pc := 12) (x := 2) (k := 1) X hini in_X11 rfl (by decide) tk_X11 nmX11 0 (by decide) rfl rfl tw_2_151 (ml_k1 (by decide)) dX11_init_12 (ml_fvO (by omega)) (show (0 : Int) ≤ 2 by omega) rfl rfl (Or.inl (by omega)) (fun σ3 g3 => ?_)
  have hw := hw σ3 g3
  refine ml_aload_n (pc := 15) X hl 0 rfl rfl dX11_init_15 ?_
  obtain ⟨z4, hw⟩ := hw
  refine ml_newO (n0 := 1) (kc := 2) (ks := 202) (pc := 16) (k := 4) X hs ⟨tw_1_43, tw_1_44, tw_1_3⟩ in_X0 rfl (by decide) tk_X0 df_X0 (Or.inr (by omega)) (by omega) (by omega) (by decide +kernel) z4 ⟨by decide, by decide⟩ dX11_init_16 ?_
  refine ml_dup (pc := 19) X dX11_init_19 rfl ?_
  refine ml_callC (n0 := 1) (kc := 3) (ks := 204) (pc := 20) (k := 4) (mc := 1) (ms := 10) X hs hNN (c_X0_init l base D cA σ3 _ hw) ⟨⟨(List.mem_of_getElem? (i := 1) rfl), tw_1_46, tw_1_3, tw_1_47⟩, rfl, by decide +kernel⟩ ⟨rfl, rfl⟩ ⟨by decide, by decide⟩ (by omega) hl (Nat.le_of_ble_eq_true rfl) ⟨by decide, by decide⟩ dX11_init_20 (fun σ5 hw => ?_)
  refine ml_putF (pc := 23) (x := 4) (k := 1) X hini in_X11 rfl (by decide) tk_X11 nmX11 1 (by decide) rfl rfl tw_2_152 (ml_k1 (by decide)) dX11_init_23 (ml_fvO (by omega)) (show (0 : Int) ≤ 4 by omega) rfl rfl (Or.inl (by omega)) (fun σ6 g6 => ?_)
  have hw := hw σ6 g6
  refine ml_aload_n (pc := 26) X hl 0 rfl rfl dX11_init_26 ?_
  obtain ⟨z7, hw⟩ := hw
  refine ml_newO (n0 := 1) (kc := 4) (ks := 214) (pc := 27) (k := 6) X hs ⟨tw_1_57, tw_1_58, tw_1_4⟩ in_X2 rfl (by decide) tk_X2 df_X2 (Or.inr (by omega)) (by omega) (by omega) (by decide +kernel) z7 ⟨by decide, by decide⟩ dX11_init_27 ?_
  refine ml_dup (pc := 30) X dX11_init_30 rfl ?_
  refine ml_callC (n0 := 1) (kc := 5) (ks := 221) (pc := 31) (k := 6) (mc := 1) (ms := 0) X hs hNN (c_X2_init l base D cA σ6 _ hw) ⟨⟨(List.mem_of_getElem? (i := 2) rfl), tw_1_60, tw_1_4, tw_1_61⟩, rfl, by decide +kernel⟩ ⟨rfl, rfl⟩ ⟨by decide, by decide⟩ (by omega) hl (Nat.le_of_ble_eq_true rfl) ⟨by decide, by decide⟩ dX11_init_31 (fun σ8 hw => ?_)
  refine ml_putF (pc := 34) (x := 6) (k := 1) X hini in_X11 rfl (by decide) tk_X11 nmX11 2 (by decide) rfl rfl tw_2_153 (ml_k1 (by decide)) dX11_init_34 (ml_fvO (by omega)) (show (0 : Int) ≤ 6 by omega) rfl rfl (Or.inl (by omega)) (fun σ9 g9 => ?_)
  have hw := hw σ9 g9
  refine ml_aload_n (pc := 37) X hl 0 rfl rfl dX11_init_37 ?_
  obtain ⟨z10, hw⟩ := hw
  refine ml_newO (n0 := 1) (kc := 6) (ks := 221) (pc := 38) (k := 8) X hs ⟨tw_1_86, tw_1_87, tw_1_5⟩ in_X4 rfl (by decide) tk_X4 df_X4 (Or.inr (by omega)) (by omega) (by omega) (by decide +kernel) z10 ⟨by decide, by decide⟩ dX11_init_38 ?_
  refine ml_dup (pc := 41) X dX11_init_41 rfl ?_
  refine ml_callCI (n0 := 1) (kc := 7) (ks := 228) (pc := 42) (k := 8) (mc := 37) (ms := 328) X hs hNN (c_X4_init l base D cA σ9 _ hw) ⟨⟨tw_1_88, tw_1_89, tw_1_5, tw_1_90⟩, rfl, by decide +kernel⟩ ⟨rfl, rfl⟩ ⟨by decide, by decide⟩ (by omega) hl (Nat.le_of_ble_eq_true rfl) ⟨by decide, by decide⟩ dX11_init_42 (fun σ11 hw => ?_)
  refine ml_putF (pc := 45) (x := 8) (k := 1) X hini in_X11 rfl (by decide) tk_X11 nmX11 3 (by decide) rfl rfl tw_2_154 (ml_k1 (by decide)) dX11_init_45 (ml_fvO (by omega)) (show (0 : Int) ≤ 8 by omega) rfl rfl (Or.inl (by omega)) (fun σ12 g12 => ?_)
  have hw := hw σ12 g12
  refine ml_aload_n (pc := 48) X hl 0 rfl rfl dX11_init_48 ?_
  obtain ⟨z13, hw⟩ := hw
  refine ml_newO (n0 := 1) (kc := 44) (ks := 556) (pc := 49) (k := 46) X hs ⟨tw_1_188, tw_1_189, tw_1_8⟩ in_X6 rfl (by decide) tk_X6 df_X6 (Or.inr (by omega)) (by omega) (by omega) (by decide +kernel) z13 ⟨by decide, by decide⟩ dX11_init_49 ?_
  refine ml_dup (pc := 52) X dX11_init_52 rfl ?_
  refine ml_callC (n0 := 1) (kc := 45) (ks := 566) (pc := 53) (k := 46) (mc := 8) (ms := 186) X hs hNN (c_X6_init l base D cA σ12 _ hw) ⟨⟨(List.mem_of_getElem? (i := 5) rfl), tw_1_191, tw_1_8, tw_1_192⟩, rfl, by decide +kernel⟩ ⟨rfl, rfl⟩ ⟨by decide, by decide⟩ (by omega) hl (Nat.le_of_ble_eq_true rfl) ⟨by decide, by decide⟩ dX11_init_53 (fun σ14 hw => ?_)
  refine ml_putF (pc := 56) (x := 46) (k := 1) X hini in_X11 rfl (by decide) tk_X11 nmX11 4 (by decide) rfl rfl tw_2_155 (ml_k1 (by decide)) dX11_init_56 (ml_fvO (by omega)) (show (0 : Int) ≤ 46 by omega) rfl rfl (Or.inl (by omega)) (fun σ15 g15 => ?_)
  have hw := hw σ15 g15
  refine ml_aload_n (pc := 59) X hl 0 rfl rfl dX11_init_59 ?_
  obtain ⟨z16, hw⟩ := hw
  refine ml_newO (n0 := 1) (kc := 53) (ks := 752) (pc := 60) (k := 55) X hs ⟨tw_1_232, tw_1_233, tw_1_9⟩ in_X7 rfl (by decide) tk_X7 df_X7 (Or.inr (by omega)) (by omega) (by omega) (by decide +kernel) z16 ⟨by decide, by decide⟩ dX11_init_60 ?_
  refine ml_dup (pc := 63) X dX11_init_63 rfl ?_
  refine ml_callC (n0 := 1) (kc := 54) (ks := 766) (pc := 64) (k := 55) (mc := 14) (ms := 28441) X hs hNN (c_X7_init l base D cA σ15 _ hw) ⟨⟨(List.mem_of_getElem? (i := 7) rfl), tw_1_235, tw_1_9, tw_1_236⟩, rfl, by decide +kernel⟩ ⟨rfl, rfl⟩ ⟨by decide, by decide⟩ (by omega) hl (Nat.le_of_ble_eq_true rfl) ⟨by decide, by decide⟩ dX11_init_64 (fun σ17 hw => ?_)
  refine ml_putF (pc := 67) (x := 55) (k := 1) X hini in_X11 rfl (by decide) tk_X11 nmX11 5 (by decide) rfl rfl tw_2_156 (ml_k1 (by decide)) dX11_init_67 (ml_fvO (by omega)) (show (0 : Int) ≤ 55 by omega) rfl rfl (Or.inl (by omega)) (fun σ18 g18 => ?_)
  have hw := hw σ18 g18
  refine ml_aload_n (pc := 70) X hl 0 rfl rfl dX11_init_70 ?_
  obtain ⟨z19, hw⟩ := hw
  refine ml_newO (n0 := 1) (kc := 68) (ks := 29207) (pc := 71) (k := 70) X hs ⟨tw_2_51, tw_2_52, tw_1_10⟩ in_X1 rfl (by decide) tk_X1 df_X1 (Or.inr (by omega)) (by omega) (by omega) (by decide +kernel) z19 ⟨by decide, by decide⟩ dX11_init_71 ?_
  refine ml_dup (pc := 74) X dX11_init_74 rfl ?_
  refine ml_callC (n0 := 1) (kc := 69) (ks := 29214) (pc := 75) (k := 70) (mc := 5) (ms := 12298) X hs hNN (c_X1_init l base D cA σ18 _ hw) ⟨⟨(List.mem_of_getElem? (i := 9) rfl), tw_2_54, tw_1_10, tw_2_55⟩, rfl, by decide +kernel⟩ ⟨rfl, rfl⟩ ⟨by decide, by decide⟩ (by omega) hl (Nat.le_of_ble_eq_true rfl) ⟨by decide, by decide⟩ dX11_init_75 (fun σ20 hw => ?_)
  refine ml_putF (pc := 78) (x := 70) (k := 1) X hini in_X11 rfl (by decide) tk_X11 nmX11 6 (by decide) rfl rfl tw_2_157 (ml_k1 (by decide)) dX11_init_78 (ml_fvO (by omega)) (show (0 : Int) ≤ 70 by omega) rfl rfl (Or.inl (by omega)) (fun σ21 g21 => ?_)
  have hw := hw σ21 g21
  refine ml_aload_n (pc := 81) X hl 0 rfl rfl dX11_init_81 ?_
  obtain ⟨z22, hw⟩ := hw
  refine ml_newO (n0 := 1) (kc := 74) (ks := 41512) (pc := 82) (k := 76) X hs ⟨tw_2_80, tw_2_81, tw_1_11⟩ in_X5 rfl (by decide) tk_X5 df_X5 (Or.inr (by omega)) (by omega) (by omega) (by decide +kernel) z22 ⟨by decide, by decide⟩ dX11_init_82 ?_
  refine ml_dup (pc := 85) X dX11_init_85 rfl ?_
  refine ml_callCI (n0 := 1) (kc := 75) (ks := 41514) (pc := 86) (k := 76) (mc := 37) (ms := 347) X hs hNN (c_X5_init l base D cA σ21 _ hw) ⟨⟨tw_2_82, tw_2_83, tw_1_11, tw_2_84⟩, rfl, by decide +kernel⟩ ⟨rfl, rfl⟩ ⟨by decide, by decide⟩ (by omega) hl (Nat.le_of_ble_eq_true rfl) ⟨by decide, by decide⟩ dX11_init_86 (fun σ23 hw => ?_)
  refine ml_putF (pc := 89) (x := 76) (k := 1) X hini in_X11 rfl (by decide) tk_X11 nmX11 7 (by decide) rfl rfl tw_2_158 (ml_k1 (by decide)) dX11_init_89 (ml_fvO (by omega)) (show (0 : Int) ≤ 76 by omega) rfl rfl (Or.inl (by omega)) (fun σ24 g24 => ?_)
  have hw := hw σ24 g24
  refine ml_aload_n (pc := 92) X hl 0 rfl rfl dX11_init_92 ?_
  refine ml_bipush (pc := 93) X dX11_init_93 (by decide) ?_
  obtain ⟨z25, hw⟩ := hw
  refine ml_newR (n0 := 1) (kc := 112) (ks := 41861) (pc := 95) (k := 114) X hs 6 16 tw_2_95 hNN.2.2 rfl (by omega) (by omega) (by decide +kernel) (fun f hf => by show _ = _; unfold ml_cell; simp only [hf]; rfl) z25 (by decide) ⟨by decide, by decide⟩ dX11_init_95 ?_
  refine ml_putF (pc := 98) (x := 114) (k := 1) X hini in_X11 rfl (by decide) tk_X11 nmX11 8 (by decide) rfl rfl tw_2_159 (ml_k1 (by decide)) dX11_init_98 (ml_fvA (by omega)) (show (0 : Int) ≤ 114 by omega) rfl rfl (Or.inl (by omega)) (fun σ26 g26 => ?_)
  have hw := hw σ26 g26
  refine ml_aload_n (pc := 101) X hl 0 rfl rfl dX11_init_101 ?_
  refine ml_bipush (pc := 102) X dX11_init_102 (by decide) ?_
  obtain ⟨z27, hw⟩ := hw
  refine ml_newA (n0 := 1) (kc := 113) (ks := 41877) (pc := 104) (k := 115) X hs .byte .byte 2 100 tw_1_85 rfl rfl (fun _ _ h => h) (100, .inl (fun _ => 0)) (fun _ => rfl) (by omega) (by omega) (by decide +kernel) (fun f hf => by show _ = _; unfold ml_cell; simp only [hf]; rfl) z27 (by decide) (by decide) ⟨by decide, by decide⟩ dX11_init_104 ?_
  refine ml_putF (pc := 106) (x := 115) (k := 1) X hini in_X11 rfl (by decide) tk_X11 nmX11 9 (by decide) rfl rfl tw_2_160 (ml_k1 (by decide)) dX11_init_106 (ml_fvA (by omega)) (show (0 : Int) ≤ 115 by omega) rfl rfl (Or.inl (by omega)) (fun σ28 g28 => ?_)
  have hw := hw σ28 g28
  refine ml_aload_n (pc := 109) X hl 0 rfl rfl dX11_init_109 ?_
  obtain ⟨z29, hw⟩ := hw
  refine ml_newO (n0 := 1) (kc := 114) (ks := 41977) (pc := 110) (k := 116) X hs ⟨tw_2_97, tw_1_122, tw_1_7⟩ in_X9 rfl (by decide) tk_X9 df_X9 (Or.inr (by omega)) (by omega) (by omega) (by decide +kernel) z29 ⟨by decide, by decide⟩ dX11_init_110 ?_
  refine ml_dup (pc := 113) X dX11_init_113 rfl ?_
  refine ml_callC (n0 := 1) (kc := 115) (ks := 41985) (pc := 114) (k := 116) (mc := 2) (ms := 20) X hs hNN (c_X9_init l base D cA (1 + 115) 116 (by omega) (by decide +kernel) σ28 _ hw) ⟨⟨(List.mem_of_getElem? (i := 11) rfl), tw_1_124, tw_1_7, tw_1_125⟩, rfl, by decide +kernel⟩ ⟨rfl, rfl⟩ ⟨by decide, by decide⟩ (by omega) hl (Nat.le_of_ble_eq_true rfl) ⟨by decide, by decide⟩ dX11_init_114 (fun σ30 hw => ?_)
  refine ml_putF (pc := 117) (x := 116) (k := 1) X hini in_X11 rfl (by decide) tk_X11 nmX11 10 (by decide) rfl rfl tw_2_161 (ml_k1 (by decide)) dX11_init_117 (ml_fvO (by omega)) (show (0 : Int) ≤ 116 by omega) rfl rfl (Or.inl (by omega)) (fun σ31 g31 => ?_)
  have hw := hw σ31 g31
  refine ml_aload_n (pc := 120) X hl 0 rfl rfl dX11_init_120 ?_
  refine ml_iconst (pc := 121) X dX11_init_121 ?_
  refine ml_putg (pc := 122) (x := 4) (k := 1) X in_X11 rfl (by decide) tk_X11 nmX11 11 (by decide) rfl tw_2_162 (ml_k1 (by decide)) dX11_init_122 rfl ⟨by decide, by decide⟩ rfl rfl (Or.inl (by omega)) (fun σ32 g32 => ?_)
  have hw := hw σ32 g32
  refine ml_aload_n (pc := 125) X hl 0 rfl rfl dX11_init_125 ?_
  refine ml_iconst (pc := 126) X dX11_init_126 ?_
  refine ml_putg (pc := 127) (x := 0) (k := 1) X in_X11 rfl (by decide) tk_X11 nmX11 12 (by decide) rfl tw_2_163 (ml_k1 (by decide)) dX11_init_127 rfl ⟨by decide, by decide⟩ rfl rfl (Or.inl (by omega)) (fun σ33 g33 => ?_)
  have hw := hw σ33 g33
  refine ml_iconst (pc := 130) X dX11_init_130 ?_
  refine ml_istore_n (pc := 131) X rfl hl (by decide) (lst' := [(1, .int (Int32.ofInt 0)), (0, .ref (base + (1 : Int).toNat))]) rfl dX11_init_131 (fun ls hl => ?_)
  refine ml_iload_n (pc := 132) X hl 0 rfl rfl dX11_init_132 ?_
  refine ml_bipush (pc := 133) X dX11_init_133 (by decide) ?_
  refine ml_icmp_ge (pc := 135) (tgt := 157) X ⟨by decide, by decide⟩ ⟨by decide, by decide⟩ dX11_init_135 (by decide) (fun c34 => absurd c34 (by decide)) (fun c34 => ?_)
  refine ml_aload_n (pc := 138) X hl 1 rfl rfl dX11_init_138 ?_
  obtain ⟨e35, hw⟩ := hw
  refine ml_getg (pc := 139) (k := 1) X in_X11 rfl (by decide) 8 (by decide) tw_2_159 (ml_k1 (by decide)) dX11_init_139 (v := .ref (base + (114 : Int).toNat)) (fun _ => by show (if σ33 1 8 = 0 then Value.null else .ref (base + (σ33 1 8).toNat)) = _; rw [e35]; exact if_neg (by omega)) (fun _ => ?_)
  refine ml_iload_n (pc := 142) X hl 0 rfl rfl dX11_init_142 ?_
  obtain ⟨z36, hw⟩ := hw
  refine ml_newO (n0 := 1) (kc := 117) (ks := 42005) (pc := 143) (k := 119) X hs ⟨tw_2_95, tw_2_99, tw_1_12⟩ in_X10 rfl (by decide) tk_X10 df_X10 (Or.inr (by omega)) (by omega) (by omega) (by decide +kernel) z36 ⟨by decide, by decide⟩ dX11_init_143 ?_
  refine ml_dup (pc := 146) X dX11_init_146 rfl ?_
  refine ml_callC (n0 := 1) (kc := 118) (ks := 42013) (pc := 147) (k := 119) (mc := 5) (ms := 2128) X hs hNN (c_X10_init l base D cA (1 + 118) 119 (by omega) (by decide +kernel) σ33 _ hw) ⟨⟨(List.mem_of_getElem? (i := 12) rfl), tw_2_101, tw_1_12, tw_2_102⟩, rfl, by decide +kernel⟩ ⟨rfl, rfl⟩ ⟨by decide, by decide⟩ (by omega) hl (Nat.le_of_ble_eq_true rfl) ⟨by decide, by decide⟩ dX11_init_147 (fun σ37 hw => ?_)
  refine ml_aast (pc := 150) (k := 114) (i := 0) (v := 119) X (ml_k114 (by decide)) (fun _ => rfl) rfl (ml_k119 (by decide)) (by decide) rfl (Or.inr (by decide +kernel)) (by decide) (by decide) dX11_init_150 (fun σ38 g38 => ?_)
  have hw := hw σ38 g38
  refine ml_iinc (pc := 151) X (x := 0) (y := 1) (by decide) hl 0 rfl (by decide) (lst' := [(1, .int (Int32.ofInt 1)), (0, .ref (base + (1 : Int).toNat))]) rfl dX11_init_151 (fun ls hl => ?_)
  refine ml_goto (pc := 154) (tgt := 132) X dX11_init_154 (by decide) ?_
  refine ml_iload_n (pc := 132) X hl 0 rfl rfl dX11_init_132 ?_
  refine ml_bipush (pc := 133) X dX11_init_133 (by decide) ?_
  refine ml_icmp_ge (pc := 135) (tgt := 157) X ⟨by decide, by decide⟩ ⟨by decide, by decide⟩ dX11_init_135 (by decide) (fun c39 => absurd c39 (by decide)) (fun c39 => ?_)
  refine ml_aload_n (pc := 138) X hl 1 rfl rfl dX11_init_138 ?_
  obtain ⟨e40, hw⟩ := hw
  refine ml_getg (pc := 139) (k := 1) X in_X11 rfl (by decide) 8 (by decide) tw_2_159 (ml_k1 (by decide)) dX11_init_139 (v := .ref (base + (114 : Int).toNat)) (fun _ => by show (if σ38 1 8 = 0 then Value.null else .ref (base + (σ38 1 8).toNat)) = _; rw [e40]; exact if_neg (by omega)) (fun _ => ?_)
  refine ml_iload_n (pc := 142) X hl 0 rfl rfl dX11_init_142 ?_
  obtain ⟨z41, hw⟩ := hw
  refine ml_newO (n0 := 1) (kc := 123) (ks := 44141) (pc := 143) (k := 125) X hs ⟨tw_2_95, tw_2_99, tw_1_12⟩ in_X10 rfl (by decide) tk_X10 df_X10 (Or.inr (by omega)) (by omega) (by omega) (by decide +kernel) z41 ⟨by decide, by decide⟩ dX11_init_143 ?_
  refine ml_dup (pc := 146) X dX11_init_146 rfl ?_
  refine ml_callC (n0 := 1) (kc := 124) (ks := 44149) (pc := 147) (k := 125) (mc := 5) (ms := 2128) X hs hNN (c_X10_init l base D cA (1 + 124) 125 (by omega) (by decide +kernel) σ38 _ hw) ⟨⟨(List.mem_of_getElem? (i := 12) rfl), tw_2_101, tw_1_12, tw_2_102⟩, rfl, by decide +kernel⟩ ⟨rfl, rfl⟩ ⟨by decide, by decide⟩ (by omega) hl (Nat.le_of_ble_eq_true rfl) ⟨by decide, by decide⟩ dX11_init_147 (fun σ42 hw => ?_)
  refine ml_aast (pc := 150) (k := 114) (i := 1) (v := 125) X (ml_k114 (by decide)) (fun _ => rfl) rfl (ml_k125 (by decide)) (by decide) rfl (Or.inr (by decide +kernel)) (by decide) (by decide) dX11_init_150 (fun σ43 g43 => ?_)
  have hw := hw σ43 g43
  refine ml_iinc (pc := 151) X (x := 1) (y := 2) (by decide) hl 0 rfl (by decide) (lst' := [(1, .int (Int32.ofInt 2)), (0, .ref (base + (1 : Int).toNat))]) rfl dX11_init_151 (fun ls hl => ?_)
  refine ml_goto (pc := 154) (tgt := 132) X dX11_init_154 (by decide) ?_
  refine ml_iload_n (pc := 132) X hl 0 rfl rfl dX11_init_132 ?_
  refine ml_bipush (pc := 133) X dX11_init_133 (by decide) ?_
  refine ml_icmp_ge (pc := 135) (tgt := 157) X ⟨by decide, by decide⟩ ⟨by decide, by decide⟩ dX11_init_135 (by decide) (fun c44 => absurd c44 (by decide)) (fun c44 => ?_)
  refine ml_aload_n (pc := 138) X hl 1 rfl rfl dX11_init_138 ?_
  obtain ⟨e45, hw⟩ := hw
  refine ml_getg (pc := 139) (k := 1) X in_X11 rfl (by decide) 8 (by decide) tw_2_159 (ml_k1 (by decide)) dX11_init_139 (v := .ref (base + (114 : Int).toNat)) (fun _ => by show (if σ43 1 8 = 0 then Value.null else .ref (base + (σ43 1 8).toNat)) = _; rw [e45]; exact if_neg (by omega)) (fun _ => ?_)
  refine ml_iload_n (pc := 142) X hl 0 rfl rfl dX11_init_142 ?_
  obtain ⟨z46, hw⟩ := hw
  refine ml_newO (n0 := 1) (kc := 129) (ks := 46277) (pc := 143) (k := 131) X hs ⟨tw_2_95, tw_2_99, tw_1_12⟩ in_X10 rfl (by decide) tk_X10 df_X10 (Or.inr (by omega)) (by omega) (by omega) (by decide +kernel) z46 ⟨by decide, by decide⟩ dX11_init_143 ?_
  refine ml_dup (pc := 146) X dX11_init_146 rfl ?_
  refine ml_callC (n0 := 1) (kc := 130) (ks := 46285) (pc := 147) (k := 131) (mc := 5) (ms := 2128) X hs hNN (c_X10_init l base D cA (1 + 130) 131 (by omega) (by decide +kernel) σ43 _ hw) ⟨⟨(List.mem_of_getElem? (i := 12) rfl), tw_2_101, tw_1_12, tw_2_102⟩, rfl, by decide +kernel⟩ ⟨rfl, rfl⟩ ⟨by decide, by decide⟩ (by omega) hl (Nat.le_of_ble_eq_true rfl) ⟨by decide, by decide⟩ dX11_init_147 (fun σ47 hw => ?_)
  refine ml_aast (pc := 150) (k := 114) (i := 2) (v := 131) X (ml_k114 (by decide)) (fun _ => rfl) rfl (ml_k131 (by decide)) (by decide) rfl (Or.inr (by decide +kernel)) (by decide) (by decide) dX11_init_150 (fun σ48 g48 => ?_)
  have hw := hw σ48 g48
  refine ml_iinc (pc := 151) X (x := 2) (y := 3) (by decide) hl 0 rfl (by decide) (lst' := [(1, .int (Int32.ofInt 3)), (0, .ref (base + (1 : Int).toNat))]) rfl dX11_init_151 (fun ls hl => ?_)
  refine ml_goto (pc := 154) (tgt := 132) X dX11_init_154 (by decide) ?_
  refine ml_iload_n (pc := 132) X hl 0 rfl rfl dX11_init_132 ?_
  refine ml_bipush (pc := 133) X dX11_init_133 (by decide) ?_
  refine ml_icmp_ge (pc := 135) (tgt := 157) X ⟨by decide, by decide⟩ ⟨by decide, by decide⟩ dX11_init_135 (by decide) (fun c49 => absurd c49 (by decide)) (fun c49 => ?_)
  refine ml_aload_n (pc := 138) X hl 1 rfl rfl dX11_init_138 ?_
  obtain ⟨e50, hw⟩ := hw
  refine ml_getg (pc := 139) (k := 1) X in_X11 rfl (by decide) 8 (by decide) tw_2_159 (ml_k1 (by decide)) dX11_init_139 (v := .ref (base + (114 : Int).toNat)) (fun _ => by show (if σ48 1 8 = 0 then Value.null else .ref (base + (σ48 1 8).toNat)) = _; rw [e50]; exact if_neg (by omega)) (fun _ => ?_)
  refine ml_iload_n (pc := 142) X hl 0 rfl rfl dX11_init_142 ?_
  obtain ⟨z51, hw⟩ := hw
  refine ml_newO (n0 := 1) (kc := 135) (ks := 48413) (pc := 143) (k := 137) X hs ⟨tw_2_95, tw_2_99, tw_1_12⟩ in_X10 rfl (by decide) tk_X10 df_X10 (Or.inr (by omega)) (by omega) (by omega) (by decide +kernel) z51 ⟨by decide, by decide⟩ dX11_init_143 ?_
  refine ml_dup (pc := 146) X dX11_init_146 rfl ?_
  refine ml_callC (n0 := 1) (kc := 136) (ks := 48421) (pc := 147) (k := 137) (mc := 5) (ms := 2128) X hs hNN (c_X10_init l base D cA (1 + 136) 137 (by omega) (by decide +kernel) σ48 _ hw) ⟨⟨(List.mem_of_getElem? (i := 12) rfl), tw_2_101, tw_1_12, tw_2_102⟩, rfl, by decide +kernel⟩ ⟨rfl, rfl⟩ ⟨by decide, by decide⟩ (by omega) hl (Nat.le_of_ble_eq_true rfl) ⟨by decide, by decide⟩ dX11_init_147 (fun σ52 hw => ?_)
  refine ml_aast (pc := 150) (k := 114) (i := 3) (v := 137) X (ml_k114 (by decide)) (fun _ => rfl) rfl (ml_k137 (by decide)) (by decide) rfl (Or.inr (by decide +kernel)) (by decide) (by decide) dX11_init_150 (fun σ53 g53 => ?_)
  have hw := hw σ53 g53
  refine ml_iinc (pc := 151) X (x := 3) (y := 4) (by decide) hl 0 rfl (by decide) (lst' := [(1, .int (Int32.ofInt 4)), (0, .ref (base + (1 : Int).toNat))]) rfl dX11_init_151 (fun ls hl => ?_)
  refine ml_goto (pc := 154) (tgt := 132) X dX11_init_154 (by decide) ?_
  refine ml_iload_n (pc := 132) X hl 0 rfl rfl dX11_init_132 ?_
  refine ml_bipush (pc := 133) X dX11_init_133 (by decide) ?_
  refine ml_icmp_ge (pc := 135) (tgt := 157) X ⟨by decide, by decide⟩ ⟨by decide, by decide⟩ dX11_init_135 (by decide) (fun c54 => absurd c54 (by decide)) (fun c54 => ?_)
  refine ml_aload_n (pc := 138) X hl 1 rfl rfl dX11_init_138 ?_
  obtain ⟨e55, hw⟩ := hw
  refine ml_getg (pc := 139) (k := 1) X in_X11 rfl (by decide) 8 (by decide) tw_2_159 (ml_k1 (by decide)) dX11_init_139 (v := .ref (base + (114 : Int).toNat)) (fun _ => by show (if σ53 1 8 = 0 then Value.null else .ref (base + (σ53 1 8).toNat)) = _; rw [e55]; exact if_neg (by omega)) (fun _ => ?_)
  refine ml_iload_n (pc := 142) X hl 0 rfl rfl dX11_init_142 ?_
  obtain ⟨z56, hw⟩ := hw
  refine ml_newO (n0 := 1) (kc := 141) (ks := 50549) (pc := 143) (k := 143) X hs ⟨tw_2_95, tw_2_99, tw_1_12⟩ in_X10 rfl (by decide) tk_X10 df_X10 (Or.inr (by omega)) (by omega) (by omega) (by decide +kernel) z56 ⟨by decide, by decide⟩ dX11_init_143 ?_
  refine ml_dup (pc := 146) X dX11_init_146 rfl ?_
  refine ml_callC (n0 := 1) (kc := 142) (ks := 50557) (pc := 147) (k := 143) (mc := 5) (ms := 2128) X hs hNN (c_X10_init l base D cA (1 + 142) 143 (by omega) (by decide +kernel) σ53 _ hw) ⟨⟨(List.mem_of_getElem? (i := 12) rfl), tw_2_101, tw_1_12, tw_2_102⟩, rfl, by decide +kernel⟩ ⟨rfl, rfl⟩ ⟨by decide, by decide⟩ (by omega) hl (Nat.le_of_ble_eq_true rfl) ⟨by decide, by decide⟩ dX11_init_147 (fun σ57 hw => ?_)
  refine ml_aast (pc := 150) (k := 114) (i := 4) (v := 143) X (ml_k114 (by decide)) (fun _ => rfl) rfl (ml_k143 (by decide)) (by decide) rfl (Or.inr (by decide +kernel)) (by decide) (by decide) dX11_init_150 (fun σ58 g58 => ?_)
  have hw := hw σ58 g58
  refine ml_iinc (pc := 151) X (x := 4) (y := 5) (by decide) hl 0 rfl (by decide) (lst' := [(1, .int (Int32.ofInt 5)), (0, .ref (base + (1 : Int).toNat))]) rfl dX11_init_151 (fun ls hl => ?_)
  refine ml_goto (pc := 154) (tgt := 132) X dX11_init_154 (by decide) ?_
  refine ml_iload_n (pc := 132) X hl 0 rfl rfl dX11_init_132 ?_
  refine ml_bipush (pc := 133) X dX11_init_133 (by decide) ?_
  refine ml_icmp_ge (pc := 135) (tgt := 157) X ⟨by decide, by decide⟩ ⟨by decide, by decide⟩ dX11_init_135 (by decide) (fun c59 => absurd c59 (by decide)) (fun c59 => ?_)
  refine ml_aload_n (pc := 138) X hl 1 rfl rfl dX11_init_138 ?_
  obtain ⟨e60, hw⟩ := hw
  refine ml_getg (pc := 139) (k := 1) X in_X11 rfl (by decide) 8 (by decide) tw_2_159 (ml_k1 (by decide)) dX11_init_139 (v := .ref (base + (114 : Int).toNat)) (fun _ => by show (if σ58 1 8 = 0 then Value.null else .ref (base + (σ58 1 8).toNat)) = _; rw [e60]; exact if_neg (by omega)) (fun _ => ?_)
  refine ml_iload_n (pc := 142) X hl 0 rfl rfl dX11_init_142 ?_
  obtain ⟨z61, hw⟩ := hw
  refine ml_newO (n0 := 1) (kc := 147) (ks := 52685) (pc := 143) (k := 149) X hs ⟨tw_2_95, tw_2_99, tw_1_12⟩ in_X10 rfl (by decide) tk_X10 df_X10 (Or.inr (by omega)) (by omega) (by omega) (by decide +kernel) z61 ⟨by decide, by decide⟩ dX11_init_143 ?_
  refine ml_dup (pc := 146) X dX11_init_146 rfl ?_
  refine ml_callC (n0 := 1) (kc := 148) (ks := 52693) (pc := 147) (k := 149) (mc := 5) (ms := 2128) X hs hNN (c_X10_init l base D cA (1 + 148) 149 (by omega) (by decide +kernel) σ58 _ hw) ⟨⟨(List.mem_of_getElem? (i := 12) rfl), tw_2_101, tw_1_12, tw_2_102⟩, rfl, by decide +kernel⟩ ⟨rfl, rfl⟩ ⟨by decide, by decide⟩ (by omega) hl (Nat.le_of_ble_eq_true rfl) ⟨by decide, by decide⟩ dX11_init_147 (fun σ62 hw => ?_)
  refine ml_aast (pc := 150) (k := 114) (i := 5) (v := 149) X (ml_k114 (by decide)) (fun _ => rfl) rfl (ml_k149 (by decide)) (by decide) rfl (Or.inr (by decide +kernel)) (by decide) (by decide) dX11_init_150 (fun σ63 g63 => ?_)
  have hw := hw σ63 g63
  refine ml_iinc (pc := 151) X (x := 5) (y := 6) (by decide) hl 0 rfl (by decide) (lst' := [(1, .int (Int32.ofInt 6)), (0, .ref (base + (1 : Int).toNat))]) rfl dX11_init_151 (fun ls hl => ?_)
  refine ml_goto (pc := 154) (tgt := 132) X dX11_init_154 (by decide) ?_
  refine ml_iload_n (pc := 132) X hl 0 rfl rfl dX11_init_132 ?_
  refine ml_bipush (pc := 133) X dX11_init_133 (by decide) ?_
  refine ml_icmp_ge (pc := 135) (tgt := 157) X ⟨by decide, by decide⟩ ⟨by decide, by decide⟩ dX11_init_135 (by decide) (fun c64 => absurd c64 (by decide)) (fun c64 => ?_)
  refine ml_aload_n (pc := 138) X hl 1 rfl rfl dX11_init_138 ?_
  obtain ⟨e65, hw⟩ := hw
  refine ml_getg (pc := 139) (k := 1) X in_X11 rfl (by decide) 8 (by decide) tw_2_159 (ml_k1 (by decide)) dX11_init_139 (v := .ref (base + (114 : Int).toNat)) (fun _ => by show (if σ63 1 8 = 0 then Value.null else .ref (base + (σ63 1 8).toNat)) = _; rw [e65]; exact if_neg (by omega)) (fun _ => ?_)
  refine ml_iload_n (pc := 142) X hl 0 rfl rfl dX11_init_142 ?_
  obtain ⟨z66, hw⟩ := hw
  refine ml_newO (n0 := 1) (kc := 153) (ks := 54821) (pc := 143) (k := 155) X hs ⟨tw_2_95, tw_2_99, tw_1_12⟩ in_X10 rfl (by decide) tk_X10 df_X10 (Or.inr (by omega)) (by omega) (by omega) (by decide +kernel) z66 ⟨by decide, by decide⟩ dX11_init_143 ?_
  refine ml_dup (pc := 146) X dX11_init_146 rfl ?_
  refine ml_callC (n0 := 1) (kc := 154) (ks := 54829) (pc := 147) (k := 155) (mc := 5) (ms := 2128) X hs hNN (c_X10_init l base D cA (1 + 154) 155 (by omega) (by decide +kernel) σ63 _ hw) ⟨⟨(List.mem_of_getElem? (i := 12) rfl), tw_2_101, tw_1_12, tw_2_102⟩, rfl, by decide +kernel⟩ ⟨rfl, rfl⟩ ⟨by decide, by decide⟩ (by omega) hl (Nat.le_of_ble_eq_true rfl) ⟨by decide, by decide⟩ dX11_init_147 (fun σ67 hw => ?_)
  refine ml_aast (pc := 150) (k := 114) (i := 6) (v := 155) X (ml_k114 (by decide)) (fun _ => rfl) rfl (ml_k155 (by decide)) (by decide) rfl (Or.inr (by decide +kernel)) (by decide) (by decide) dX11_init_150 (fun σ68 g68 => ?_)
  have hw := hw σ68 g68
  refine ml_iinc (pc := 151) X (x := 6) (y := 7) (by decide) hl 0 rfl (by decide) (lst' := [(1, .int (Int32.ofInt 7)), (0, .ref (base + (1 : Int).toNat))]) rfl dX11_init_151 (fun ls hl => ?_)
  refine ml_goto (pc := 154) (tgt := 132) X dX11_init_154 (by decide) ?_
  refine ml_iload_n (pc := 132) X hl 0 rfl rfl dX11_init_132 ?_
  refine ml_bipush (pc := 133) X dX11_init_133 (by decide) ?_
  refine ml_icmp_ge (pc := 135) (tgt := 157) X ⟨by decide, by decide⟩ ⟨by decide, by decide⟩ dX11_init_135 (by decide) (fun c69 => absurd c69 (by decide)) (fun c69 => ?_)
  refine ml_aload_n (pc := 138) X hl 1 rfl rfl dX11_init_138 ?_
  obtain ⟨e70, hw⟩ := hw
  refine ml_getg (pc := 139) (k := 1) X in_X11 rfl (by decide) 8 (by decide) tw_2_159 (ml_k1 (by decide)) dX11_init_139 (v := .ref (base + (114 : Int).toNat)) (fun _ => by show (if σ68 1 8 = 0 then Value.null else .ref (base + (σ68 1 8).toNat)) = _; rw [e70]; exact if_neg (by omega)) (fun _ => ?_)
  refine ml_iload_n (pc := 142) X hl 0 rfl rfl dX11_init_142 ?_
  obtain ⟨z71, hw⟩ := hw
  refine ml_newO (n0 := 1) (kc := 159) (ks := 56957) (pc := 143) (k := 161) X hs ⟨tw_2_95, tw_2_99, tw_1_12⟩ in_X10 rfl (by decide) tk_X10 df_X10 (Or.inr (by omega)) (by omega) (by omega) (by decide +kernel) z71 ⟨by decide, by decide⟩ dX11_init_143 ?_
  refine ml_dup (pc := 146) X dX11_init_146 rfl ?_
  refine ml_callC (n0 := 1) (kc := 160) (ks := 56965) (pc := 147) (k := 161) (mc := 5) (ms := 2128) X hs hNN (c_X10_init l base D cA (1 + 160) 161 (by omega) (by decide +kernel) σ68 _ hw) ⟨⟨(List.mem_of_getElem? (i := 12) rfl), tw_2_101, tw_1_12, tw_2_102⟩, rfl, by decide +kernel⟩ ⟨rfl, rfl⟩ ⟨by decide, by decide⟩ (by omega) hl (Nat.le_of_ble_eq_true rfl) ⟨by decide, by decide⟩ dX11_init_147 (fun σ72 hw => ?_)
  refine ml_aast (pc := 150) (k := 114) (i := 7) (v := 161) X (ml_k114 (by decide)) (fun _ => rfl) rfl (ml_k161 (by decide)) (by decide) rfl (Or.inr (by decide +kernel)) (by decide) (by decide) dX11_init_150 (fun σ73 g73 => ?_)
  have hw := hw σ73 g73
  refine ml_iinc (pc := 151) X (x := 7) (y := 8) (by decide) hl 0 rfl (by decide) (lst' := [(1, .int (Int32.ofInt 8)), (0, .ref (base + (1 : Int).toNat))]) rfl dX11_init_151 (fun ls hl => ?_)
  refine ml_goto (pc := 154) (tgt := 132) X dX11_init_154 (by decide) ?_
  refine ml_iload_n (pc := 132) X hl 0 rfl rfl dX11_init_132 ?_
  refine ml_bipush (pc := 133) X dX11_init_133 (by decide) ?_
  refine ml_icmp_ge (pc := 135) (tgt := 157) X ⟨by decide, by decide⟩ ⟨by decide, by decide⟩ dX11_init_135 (by decide) (fun c74 => absurd c74 (by decide)) (fun c74 => ?_)
  refine ml_aload_n (pc := 138) X hl 1 rfl rfl dX11_init_138 ?_
  obtain ⟨e75, hw⟩ := hw
  refine ml_getg (pc := 139) (k := 1) X in_X11 rfl (by decide) 8 (by decide) tw_2_159 (ml_k1 (by decide)) dX11_init_139 (v := .ref (base + (114 : Int).toNat)) (fun _ => by show (if σ73 1 8 = 0 then Value.null else .ref (base + (σ73 1 8).toNat)) = _; rw [e75]; exact if_neg (by omega)) (fun _ => ?_)
  refine ml_iload_n (pc := 142) X hl 0 rfl rfl dX11_init_142 ?_
  obtain ⟨z76, hw⟩ := hw
  refine ml_newO (n0 := 1) (kc := 165) (ks := 59093) (pc := 143) (k := 167) X hs ⟨tw_2_95, tw_2_99, tw_1_12⟩ in_X10 rfl (by decide) tk_X10 df_X10 (Or.inr (by omega)) (by omega) (by omega) (by decide +kernel) z76 ⟨by decide, by decide⟩ dX11_init_143 ?_
  refine ml_dup (pc := 146) X dX11_init_146 rfl ?_
  refine ml_callC (n0 := 1) (kc := 166) (ks := 59101) (pc := 147) (k := 167) (mc := 5) (ms := 2128) X hs hNN (c_X10_init l base D cA (1 + 166) 167 (by omega) (by decide +kernel) σ73 _ hw) ⟨⟨(List.mem_of_getElem? (i := 12) rfl), tw_2_101, tw_1_12, tw_2_102⟩, rfl, by decide +kernel⟩ ⟨rfl, rfl⟩ ⟨by decide, by decide⟩ (by omega) hl (Nat.le_of_ble_eq_true rfl) ⟨by decide, by decide⟩ dX11_init_147 (fun σ77 hw => ?_)
  refine ml_aast (pc := 150) (k := 114) (i := 8) (v := 167) X (ml_k114 (by decide)) (fun _ => rfl) rfl (ml_k167 (by decide)) (by decide) rfl (Or.inr (by decide +kernel)) (by decide) (by decide) dX11_init_150 (fun σ78 g78 => ?_)
  have hw := hw σ78 g78
  refine ml_iinc (pc := 151) X (x := 8) (y := 9) (by decide) hl 0 rfl (by decide) (lst' := [(1, .int (Int32.ofInt 9)), (0, .ref (base + (1 : Int).toNat))]) rfl dX11_init_151 (fun ls hl => ?_)
  refine ml_goto (pc := 154) (tgt := 132) X dX11_init_154 (by decide) ?_
  refine ml_iload_n (pc := 132) X hl 0 rfl rfl dX11_init_132 ?_
  refine ml_bipush (pc := 133) X dX11_init_133 (by decide) ?_
  refine ml_icmp_ge (pc := 135) (tgt := 157) X ⟨by decide, by decide⟩ ⟨by decide, by decide⟩ dX11_init_135 (by decide) (fun c79 => absurd c79 (by decide)) (fun c79 => ?_)
  refine ml_aload_n (pc := 138) X hl 1 rfl rfl dX11_init_138 ?_
  obtain ⟨e80, hw⟩ := hw
  refine ml_getg (pc := 139) (k := 1) X in_X11 rfl (by decide) 8 (by decide) tw_2_159 (ml_k1 (by decide)) dX11_init_139 (v := .ref (base + (114 : Int).toNat)) (fun _ => by show (if σ78 1 8 = 0 then Value.null else .ref (base + (σ78 1 8).toNat)) = _; rw [e80]; exact if_neg (by omega)) (fun _ => ?_)
  refine ml_iload_n (pc := 142) X hl 0 rfl rfl dX11_init_142 ?_
  obtain ⟨z81, hw⟩ := hw
  refine ml_newO (n0 := 1) (kc := 171) (ks := 61229) (pc := 143) (k := 173) X hs ⟨tw_2_95, tw_2_99, tw_1_12⟩ in_X10 rfl (by decide) tk_X10 df_X10 (Or.inr (by omega)) (by omega) (by omega) (by decide +kernel) z81 ⟨by decide, by decide⟩ dX11_init_143 ?_
  refine ml_dup (pc := 146) X dX11_init_146 rfl ?_
  refine ml_callC (n0 := 1) (kc := 172) (ks := 61237) (pc := 147) (k := 173) (mc := 5) (ms := 2128) X hs hNN (c_X10_init l base D cA (1 + 172) 173 (by omega) (by decide +kernel) σ78 _ hw) ⟨⟨(List.mem_of_getElem? (i := 12) rfl), tw_2_101, tw_1_12, tw_2_102⟩, rfl, by decide +kernel⟩ ⟨rfl, rfl⟩ ⟨by decide, by decide⟩ (by omega) hl (Nat.le_of_ble_eq_true rfl) ⟨by decide, by decide⟩ dX11_init_147 (fun σ82 hw => ?_)
  refine ml_aast (pc := 150) (k := 114) (i := 9) (v := 173) X (ml_k114 (by decide)) (fun _ => rfl) rfl (ml_k173 (by decide)) (by decide) rfl (Or.inr (by decide +kernel)) (by decide) (by decide) dX11_init_150 (fun σ83 g83 => ?_)
  have hw := hw σ83 g83
  refine ml_iinc (pc := 151) X (x := 9) (y := 10) (by decide) hl 0 rfl (by decide) (lst' := [(1, .int (Int32.ofInt 10)), (0, .ref (base + (1 : Int).toNat))]) rfl dX11_init_151 (fun ls hl => ?_)
  refine ml_goto (pc := 154) (tgt := 132) X dX11_init_154 (by decide) ?_
  refine ml_iload_n (pc := 132) X hl 0 rfl rfl dX11_init_132 ?_
  refine ml_bipush (pc := 133) X dX11_init_133 (by decide) ?_
  refine ml_icmp_ge (pc := 135) (tgt := 157) X ⟨by decide, by decide⟩ ⟨by decide, by decide⟩ dX11_init_135 (by decide) (fun c84 => absurd c84 (by decide)) (fun c84 => ?_)
  refine ml_aload_n (pc := 138) X hl 1 rfl rfl dX11_init_138 ?_
  obtain ⟨e85, hw⟩ := hw
  refine ml_getg (pc := 139) (k := 1) X in_X11 rfl (by decide) 8 (by decide) tw_2_159 (ml_k1 (by decide)) dX11_init_139 (v := .ref (base + (114 : Int).toNat)) (fun _ => by show (if σ83 1 8 = 0 then Value.null else .ref (base + (σ83 1 8).toNat)) = _; rw [e85]; exact if_neg (by omega)) (fun _ => ?_)
  refine ml_iload_n (pc := 142) X hl 0 rfl rfl dX11_init_142 ?_
  obtain ⟨z86, hw⟩ := hw
  refine ml_newO (n0 := 1) (kc := 177) (ks := 63365) (pc := 143) (k := 179) X hs ⟨tw_2_95, tw_2_99, tw_1_12⟩ in_X10 rfl (by decide) tk_X10 df_X10 (Or.inr (by omega)) (by omega) (by omega) (by decide +kernel) z86 ⟨by decide, by decide⟩ dX11_init_143 ?_
  refine ml_dup (pc := 146) X dX11_init_146 rfl ?_
  refine ml_callC (n0 := 1) (kc := 178) (ks := 63373) (pc := 147) (k := 179) (mc := 5) (ms := 2128) X hs hNN (c_X10_init l base D cA (1 + 178) 179 (by omega) (by decide +kernel) σ83 _ hw) ⟨⟨(List.mem_of_getElem? (i := 12) rfl), tw_2_101, tw_1_12, tw_2_102⟩, rfl, by decide +kernel⟩ ⟨rfl, rfl⟩ ⟨by decide, by decide⟩ (by omega) hl (Nat.le_of_ble_eq_true rfl) ⟨by decide, by decide⟩ dX11_init_147 (fun σ87 hw => ?_)
  refine ml_aast (pc := 150) (k := 114) (i := 10) (v := 179) X (ml_k114 (by decide)) (fun _ => rfl) rfl (ml_k179 (by decide)) (by decide) rfl (Or.inr (by decide +kernel)) (by decide) (by decide) dX11_init_150 (fun σ88 g88 => ?_)
  have hw := hw σ88 g88
  refine ml_iinc (pc := 151) X (x := 10) (y := 11) (by decide) hl 0 rfl (by decide) (lst' := [(1, .int (Int32.ofInt 11)), (0, .ref (base + (1 : Int).toNat))]) rfl dX11_init_151 (fun ls hl => ?_)
  refine ml_goto (pc := 154) (tgt := 132) X dX11_init_154 (by decide) ?_
  refine ml_iload_n (pc := 132) X hl 0 rfl rfl dX11_init_132 ?_
  refine ml_bipush (pc := 133) X dX11_init_133 (by decide) ?_
  refine ml_icmp_ge (pc := 135) (tgt := 157) X ⟨by decide, by decide⟩ ⟨by decide, by decide⟩ dX11_init_135 (by decide) (fun c89 => absurd c89 (by decide)) (fun c89 => ?_)
  refine ml_aload_n (pc := 138) X hl 1 rfl rfl dX11_init_138 ?_
  obtain ⟨e90, hw⟩ := hw
  refine ml_getg (pc := 139) (k := 1) X in_X11 rfl (by decide) 8 (by decide) tw_2_159 (ml_k1 (by decide)) dX11_init_139 (v := .ref (base + (114 : Int).toNat)) (fun _ => by show (if σ88 1 8 = 0 then Value.null else .ref (base + (σ88 1 8).toNat)) = _; rw [e90]; exact if_neg (by omega)) (fun _ => ?_)
  refine ml_iload_n (pc := 142) X hl 0 rfl rfl dX11_init_142 ?_
  obtain ⟨z91, hw⟩ := hw
  refine ml_newO (n0 := 1) (kc := 183) (ks := 65501) (pc := 143) (k := 185) X hs ⟨tw_2_95, tw_2_99, tw_1_12⟩ in_X10 rfl (by decide) tk_X10 df_X10 (Or.inr (by omega)) (by omega) (by omega) (by decide +kernel) z91 ⟨by decide, by decide⟩ dX11_init_143 ?_
  refine ml_dup (pc := 146) X dX11_init_146 rfl ?_
  refine ml_callC (n0 := 1) (kc := 184) (ks := 65509) (pc := 147) (k := 185) (mc := 5) (ms := 2128) X hs hNN (c_X10_init l base D cA (1 + 184) 185 (by omega) (by decide +kernel) σ88 _ hw) ⟨⟨(List.mem_of_getElem? (i := 12) rfl), tw_2_101, tw_1_12, tw_2_102⟩, rfl, by decide +kernel⟩ ⟨rfl, rfl⟩ ⟨by decide, by decide⟩ (by omega) hl (Nat.le_of_ble_eq_true rfl) ⟨by decide, by decide⟩ dX11_init_147 (fun σ92 hw => ?_)
  refine ml_aast (pc := 150) (k := 114) (i := 11) (v := 185) X (ml_k114 (by decide)) (fun _ => rfl) rfl (ml_k185 (by decide)) (by decide) rfl (Or.inr (by decide +kernel)) (by decide) (by decide) dX11_init_150 (fun σ93 g93 => ?_)
  have hw := hw σ93 g93
  refine ml_iinc (pc := 151) X (x := 11) (y := 12) (by decide) hl 0 rfl (by decide) (lst' := [(1, .int (Int32.ofInt 12)), (0, .ref (base + (1 : Int).toNat))]) rfl dX11_init_151 (fun ls hl => ?_)
  refine ml_goto (pc := 154) (tgt := 132) X dX11_init_154 (by decide) ?_
  refine ml_iload_n (pc := 132) X hl 0 rfl rfl dX11_init_132 ?_
  refine ml_bipush (pc := 133) X dX11_init_133 (by decide) ?_
  refine ml_icmp_ge (pc := 135) (tgt := 157) X ⟨by decide, by decide⟩ ⟨by decide, by decide⟩ dX11_init_135 (by decide) (fun c94 => absurd c94 (by decide)) (fun c94 => ?_)
  refine ml_aload_n (pc := 138) X hl 1 rfl rfl dX11_init_138 ?_
  obtain ⟨e95, hw⟩ := hw
  refine ml_getg (pc := 139) (k := 1) X in_X11 rfl (by decide) 8 (by decide) tw_2_159 (ml_k1 (by decide)) dX11_init_139 (v := .ref (base + (114 : Int).toNat)) (fun _ => by show (if σ93 1 8 = 0 then Value.null else .ref (base + (σ93 1 8).toNat)) = _; rw [e95]; exact if_neg (by omega)) (fun _ => ?_)
  refine ml_iload_n (pc := 142) X hl 0 rfl rfl dX11_init_142 ?_
  obtain ⟨z96, hw⟩ := hw
  refine ml_newO (n0 := 1) (kc := 189) (ks := 67637) (pc := 143) (k := 191) X hs ⟨tw_2_95, tw_2_99, tw_1_12⟩ in_X10 rfl (by decide) tk_X10 df_X10 (Or.inr (by omega)) (by omega) (by omega) (by decide +kernel) z96 ⟨by decide, by decide⟩ dX11_init_143 ?_
  refine ml_dup (pc := 146) X dX11_init_146 rfl ?_
  refine ml_callC (n0 := 1) (kc := 190) (ks := 67645) (pc := 147) (k := 191) (mc := 5) (ms := 2128) X hs hNN (c_X10_init l base D cA (1 + 190) 191 (by omega) (by decide +kernel) σ93 _ hw) ⟨⟨(List.mem_of_getElem? (i := 12) rfl), tw_2_101, tw_1_12, tw_2_102⟩, rfl, by decide +kernel⟩ ⟨rfl, rfl⟩ ⟨by decide, by decide⟩ (by omega) hl (Nat.le_of_ble_eq_true rfl) ⟨by decide, by decide⟩ dX11_init_147 (fun σ97 hw => ?_)
  refine ml_aast (pc := 150) (k := 114) (i := 12) (v := 191) X (ml_k114 (by decide)) (fun _ => rfl) rfl (ml_k191 (by decide)) (by decide) rfl (Or.inr (by decide +kernel)) (by decide) (by decide) dX11_init_150 (fun σ98 g98 => ?_)
  have hw := hw σ98 g98
  refine ml_iinc (pc := 151) X (x := 12) (y := 13) (by decide) hl 0 rfl (by decide) (lst' := [(1, .int (Int32.ofInt 13)), (0, .ref (base + (1 : Int).toNat))]) rfl dX11_init_151 (fun ls hl => ?_)
  refine ml_goto (pc := 154) (tgt := 132) X dX11_init_154 (by decide) ?_
  refine ml_iload_n (pc := 132) X hl 0 rfl rfl dX11_init_132 ?_
  refine ml_bipush (pc := 133) X dX11_init_133 (by decide) ?_
  refine ml_icmp_ge (pc := 135) (tgt := 157) X ⟨by decide, by decide⟩ ⟨by decide, by decide⟩ dX11_init_135 (by decide) (fun c99 => absurd c99 (by decide)) (fun c99 => ?_)
  refine ml_aload_n (pc := 138) X hl 1 rfl rfl dX11_init_138 ?_
  obtain ⟨e100, hw⟩ := hw
  refine ml_getg (pc := 139) (k := 1) X in_X11 rfl (by decide) 8 (by decide) tw_2_159 (ml_k1 (by decide)) dX11_init_139 (v := .ref (base + (114 : Int).toNat)) (fun _ => by show (if σ98 1 8 = 0 then Value.null else .ref (base + (σ98 1 8).toNat)) = _; rw [e100]; exact if_neg (by omega)) (fun _ => ?_)
  refine ml_iload_n (pc := 142) X hl 0 rfl rfl dX11_init_142 ?_
  obtain ⟨z101, hw⟩ := hw
  refine ml_newO (n0 := 1) (kc := 195) (ks := 69773) (pc := 143) (k := 197) X hs ⟨tw_2_95, tw_2_99, tw_1_12⟩ in_X10 rfl (by decide) tk_X10 df_X10 (Or.inr (by omega)) (by omega) (by omega) (by decide +kernel) z101 ⟨by decide, by decide⟩ dX11_init_143 ?_
  refine ml_dup (pc := 146) X dX11_init_146 rfl ?_
  refine ml_callC (n0 := 1) (kc := 196) (ks := 69781) (pc := 147) (k := 197) (mc := 5) (ms := 2128) X hs hNN (c_X10_init l base D cA (1 + 196) 197 (by omega) (by decide +kernel) σ98 _ hw) ⟨⟨(List.mem_of_getElem? (i := 12) rfl), tw_2_101, tw_1_12, tw_2_102⟩, rfl, by decide +kernel⟩ ⟨rfl, rfl⟩ ⟨by decide, by decide⟩ (by omega) hl (Nat.le_of_ble_eq_true rfl) ⟨by decide, by decide⟩ dX11_init_147 (fun σ102 hw => ?_)
  refine ml_aast (pc := 150) (k := 114) (i := 13) (v := 197) X (ml_k114 (by decide)) (fun _ => rfl) rfl (ml_k197 (by decide)) (by decide) rfl (Or.inr (by decide +kernel)) (by decide) (by decide) dX11_init_150 (fun σ103 g103 => ?_)
  have hw := hw σ103 g103
  refine ml_iinc (pc := 151) X (x := 13) (y := 14) (by decide) hl 0 rfl (by decide) (lst' := [(1, .int (Int32.ofInt 14)), (0, .ref (base + (1 : Int).toNat))]) rfl dX11_init_151 (fun ls hl => ?_)
  refine ml_goto (pc := 154) (tgt := 132) X dX11_init_154 (by decide) ?_
  refine ml_iload_n (pc := 132) X hl 0 rfl rfl dX11_init_132 ?_
  refine ml_bipush (pc := 133) X dX11_init_133 (by decide) ?_
  refine ml_icmp_ge (pc := 135) (tgt := 157) X ⟨by decide, by decide⟩ ⟨by decide, by decide⟩ dX11_init_135 (by decide) (fun c104 => absurd c104 (by decide)) (fun c104 => ?_)
  refine ml_aload_n (pc := 138) X hl 1 rfl rfl dX11_init_138 ?_
  obtain ⟨e105, hw⟩ := hw
  refine ml_getg (pc := 139) (k := 1) X in_X11 rfl (by decide) 8 (by decide) tw_2_159 (ml_k1 (by decide)) dX11_init_139 (v := .ref (base + (114 : Int).toNat)) (fun _ => by show (if σ103 1 8 = 0 then Value.null else .ref (base + (σ103 1 8).toNat)) = _; rw [e105]; exact if_neg (by omega)) (fun _ => ?_)
  refine ml_iload_n (pc := 142) X hl 0 rfl rfl dX11_init_142 ?_
  obtain ⟨z106, hw⟩ := hw
  refine ml_newO (n0 := 1) (kc := 201) (ks := 71909) (pc := 143) (k := 203) X hs ⟨tw_2_95, tw_2_99, tw_1_12⟩ in_X10 rfl (by decide) tk_X10 df_X10 (Or.inr (by omega)) (by omega) (by omega) (by decide +kernel) z106 ⟨by decide, by decide⟩ dX11_init_143 ?_
  refine ml_dup (pc := 146) X dX11_init_146 rfl ?_
  refine ml_callC (n0 := 1) (kc := 202) (ks := 71917) (pc := 147) (k := 203) (mc := 5) (ms := 2128) X hs hNN (c_X10_init l base D cA (1 + 202) 203 (by omega) (by decide +kernel) σ103 _ hw) ⟨⟨(List.mem_of_getElem? (i := 12) rfl), tw_2_101, tw_1_12, tw_2_102⟩, rfl, by decide +kernel⟩ ⟨rfl, rfl⟩ ⟨by decide, by decide⟩ (by omega) hl (Nat.le_of_ble_eq_true rfl) ⟨by decide, by decide⟩ dX11_init_147 (fun σ107 hw => ?_)
  refine ml_aast (pc := 150) (k := 114) (i := 14) (v := 203) X (ml_k114 (by decide)) (fun _ => rfl) rfl (ml_k203 (by decide)) (by decide) rfl (Or.inr (by decide +kernel)) (by decide) (by decide) dX11_init_150 (fun σ108 g108 => ?_)
  have hw := hw σ108 g108
  refine ml_iinc (pc := 151) X (x := 14) (y := 15) (by decide) hl 0 rfl (by decide) (lst' := [(1, .int (Int32.ofInt 15)), (0, .ref (base + (1 : Int).toNat))]) rfl dX11_init_151 (fun ls hl => ?_)
  refine ml_goto (pc := 154) (tgt := 132) X dX11_init_154 (by decide) ?_
  refine ml_iload_n (pc := 132) X hl 0 rfl rfl dX11_init_132 ?_
  refine ml_bipush (pc := 133) X dX11_init_133 (by decide) ?_
  refine ml_icmp_ge (pc := 135) (tgt := 157) X ⟨by decide, by decide⟩ ⟨by decide, by decide⟩ dX11_init_135 (by decide) (fun c109 => absurd c109 (by decide)) (fun c109 => ?_)
  refine ml_aload_n (pc := 138) X hl 1 rfl rfl dX11_init_138 ?_
  obtain ⟨e110, hw⟩ := hw
  refine ml_getg (pc := 139) (k := 1) X in_X11 rfl (by decide) 8 (by decide) tw_2_159 (ml_k1 (by decide)) dX11_init_139 (v := .ref (base + (114 : Int).toNat)) (fun _ => by show (if σ108 1 8 = 0 then Value.null else .ref (base + (σ108 1 8).toNat)) = _; rw [e110]; exact if_neg (by omega)) (fun _ => ?_)
  refine ml_iload_n (pc := 142) X hl 0 rfl rfl dX11_init_142 ?_
  obtain ⟨z111, hw⟩ := hw
  refine ml_newO (n0 := 1) (kc := 207) (ks := 74045) (pc := 143) (k := 209) X hs ⟨tw_2_95, tw_2_99, tw_1_12⟩ in_X10 rfl (by decide) tk_X10 df_X10 (Or.inr (by omega)) (by omega) (by omega) (by decide +kernel) z111 ⟨by decide, by decide⟩ dX11_init_143 ?_
  refine ml_dup (pc := 146) X dX11_init_146 rfl ?_
  refine ml_callC (n0 := 1) (kc := 208) (ks := 74053) (pc := 147) (k := 209) (mc := 5) (ms := 2128) X hs hNN (c_X10_init l base D cA (1 + 208) 209 (by omega) (by decide +kernel) σ108 _ hw) ⟨⟨(List.mem_of_getElem? (i := 12) rfl), tw_2_101, tw_1_12, tw_2_102⟩, rfl, by decide +kernel⟩ ⟨rfl, rfl⟩ ⟨by decide, by decide⟩ (by omega) hl (Nat.le_of_ble_eq_true rfl) ⟨by decide, by decide⟩ dX11_init_147 (fun σ112 hw => ?_)
  refine ml_aast (pc := 150) (k := 114) (i := 15) (v := 209) X (ml_k114 (by decide)) (fun _ => rfl) rfl (ml_k209 (by decide)) (by decide) rfl (Or.inr (by decide +kernel)) (by decide) (by decide) dX11_init_150 (fun σ113 g113 => ?_)
  have hw := hw σ113 g113
  refine ml_iinc (pc := 151) X (x := 15) (y := 16) (by decide) hl 0 rfl (by decide) (lst' := [(1, .int (Int32.ofInt 16)), (0, .ref (base + (1 : Int).toNat))]) rfl dX11_init_151 (fun ls hl => ?_)
  refine ml_goto (pc := 154) (tgt := 132) X dX11_init_154 (by decide) ?_
  refine ml_iload_n (pc := 132) X hl 0 rfl rfl dX11_init_132 ?_
  refine ml_bipush (pc := 133) X dX11_init_133 (by decide) ?_
  refine ml_icmp_ge (pc := 135) (tgt := 157) X ⟨by decide, by decide⟩ ⟨by decide, by decide⟩ dX11_init_135 (by decide) (fun c114 => ?_) (fun c114 => absurd c114 (by decide))
  refine ml_aload_n (pc := 157) X hl 1 rfl rfl dX11_init_157 ?_
  obtain ⟨e115, hw⟩ := hw
  refine ml_getg (pc := 158) (k := 1) X in_X11 rfl (by decide) 1 (by decide) tw_2_152 (ml_k1 (by decide)) dX11_init_158 (v := .ref (base + (4 : Int).toNat)) (fun _ => by show (if σ113 1 1 = 0 then Value.null else .ref (base + (σ113 1 1).toNat)) = _; rw [e115]; exact if_neg (by omega)) (fun _ => ?_)
  refine ml_aload_n (pc := 161) X hl 1 rfl rfl dX11_init_161 ?_
  refine ml_getg (pc := 162) (k := 1) X in_X11 rfl (by decide) 11 (by decide) tw_2_162 (ml_k1 (by decide)) dX11_init_162 (v := .int (Int32.ofInt (σ113 1 11))) (fun _ => rfl) (fun r116 => ?_)
  have hw := hw r116
  obtain ⟨o117, hw⟩ := hw
  refine ml_toRO o117 ?_
  have hn : 214 ≤ 1 + 213 := by decide
  refine ml_callvV (pc := 165) (rest := []) (n := 1 + 213) X [.int (Int32.ofInt (σ113 1 11))] (by decide) rfl (ml_k4 (by decide)) (c_X0_goRound l base D cA _ hn σ113 (σ113 1 11) r116 _ hw) cv_X11_90 ⟨rfl, rfl⟩ ⟨by decide, by decide⟩ rfl rfl hl (Nat.le_of_ble_eq_true rfl) ⟨by decide, by decide⟩ dX11_init_165 (fun σ117 hw => ?_)
  exact ml_vretC (pc := 168) X hw dX11_init_168
theorem dX12_init_0 : decode cX12_init 0 = .ok (.aload_n 0, 1) := by decide +kernel
theorem dX12_init_1 : decode cX12_init 1 = .ok (.invokespecial 1, 3) := by decide +kernel
theorem dX12_init_4 : decode cX12_init 4 = .ok (.aload_n 0, 1) := by decide +kernel
theorem dX12_init_5 : decode cX12_init 5 = .ok (.sipush 200, 3) := by decide +kernel
theorem dX12_init_8 : decode cX12_init 8 = .ok (.newarray .byte, 2) := by decide +kernel
theorem dX12_init_10 : decode cX12_init 10 = .ok (.putfield 7, 3) := by decide +kernel
theorem dX12_init_13 : decode cX12_init 13 = .ok (.aload_n 0, 1) := by decide +kernel
theorem dX12_init_14 : decode cX12_init 14 = .ok (.iconst 4, 1) := by decide +kernel
theorem dX12_init_15 : decode cX12_init 15 = .ok (.putfield 13, 3) := by decide +kernel
theorem dX12_init_18 : decode cX12_init 18 = .ok (.aload_n 0, 1) := by decide +kernel
theorem dX12_init_19 : decode cX12_init 19 = .ok (.bipush 10, 2) := by decide +kernel
theorem dX12_init_21 : decode cX12_init 21 = .ok (.newarray .int, 2) := by decide +kernel
theorem dX12_init_23 : decode cX12_init 23 = .ok (.putfield 17, 3) := by decide +kernel
theorem dX12_init_26 : decode cX12_init 26 = .ok (.aload_n 0, 1) := by decide +kernel
theorem dX12_init_27 : decode cX12_init 27 = .ok (.sipush 1600, 3) := by decide +kernel
theorem dX12_init_30 : decode cX12_init 30 = .ok (.newarray .byte, 2) := by decide +kernel
theorem dX12_init_32 : decode cX12_init 32 = .ok (.putfield 21, 3) := by decide +kernel
theorem dX12_init_35 : decode cX12_init 35 = .ok (.aload_n 0, 1) := by decide +kernel
theorem dX12_init_36 : decode cX12_init 36 = .ok (.bipush 16, 2) := by decide +kernel
theorem dX12_init_38 : decode cX12_init 38 = .ok (.newarray .int, 2) := by decide +kernel
theorem dX12_init_40 : decode cX12_init 40 = .ok (.putfield 24, 3) := by decide +kernel
theorem dX12_init_43 : decode cX12_init 43 = .ok (.aload_n 0, 1) := by decide +kernel
theorem dX12_init_44 : decode cX12_init 44 = .ok (.bipush 16, 2) := by decide +kernel
theorem dX12_init_46 : decode cX12_init 46 = .ok (.newarray .int, 2) := by decide +kernel
theorem dX12_init_48 : decode cX12_init 48 = .ok (.putfield 27, 3) := by decide +kernel
theorem dX12_init_51 : decode cX12_init 51 = .ok (.aload_n 0, 1) := by decide +kernel
theorem dX12_init_52 : decode cX12_init 52 = .ok (.bipush 16, 2) := by decide +kernel
theorem dX12_init_54 : decode cX12_init 54 = .ok (.newarray .long, 2) := by decide +kernel
theorem dX12_init_56 : decode cX12_init 56 = .ok (.putfield 30, 3) := by decide +kernel
theorem dX12_init_59 : decode cX12_init 59 = .ok (.aload_n 0, 1) := by decide +kernel
theorem dX12_init_60 : decode cX12_init 60 = .ok (.bipush 16, 2) := by decide +kernel
theorem dX12_init_62 : decode cX12_init 62 = .ok (.newarray .long, 2) := by decide +kernel
theorem dX12_init_64 : decode cX12_init 64 = .ok (.putfield 34, 3) := by decide +kernel
theorem dX12_init_67 : decode cX12_init 67 = .ok (.aload_n 0, 1) := by decide +kernel
theorem dX12_init_68 : decode cX12_init 68 = .ok (.bipush 8, 2) := by decide +kernel
theorem dX12_init_70 : decode cX12_init 70 = .ok (.newarray .long, 2) := by decide +kernel
theorem dX12_init_72 : decode cX12_init 72 = .ok (.putfield 37, 3) := by decide +kernel
theorem dX12_init_75 : decode cX12_init 75 = .ok (.aload_n 0, 1) := by decide +kernel
theorem dX12_init_76 : decode cX12_init 76 = .ok (.bipush 8, 2) := by decide +kernel
theorem dX12_init_78 : decode cX12_init 78 = .ok (.newarray .long, 2) := by decide +kernel
theorem dX12_init_80 : decode cX12_init 80 = .ok (.putfield 40, 3) := by decide +kernel
theorem dX12_init_83 : decode cX12_init 83 = .ok (.aload_n 0, 1) := by decide +kernel
theorem dX12_init_84 : decode cX12_init 84 = .ok (.bipush 8, 2) := by decide +kernel
theorem dX12_init_86 : decode cX12_init 86 = .ok (.newarray .long, 2) := by decide +kernel
theorem dX12_init_88 : decode cX12_init 88 = .ok (.putfield 43, 3) := by decide +kernel
theorem dX12_init_91 : decode cX12_init 91 = .ok (.aload_n 0, 1) := by decide +kernel
theorem dX12_init_92 : decode cX12_init 92 = .ok (.bipush 8, 2) := by decide +kernel
theorem dX12_init_94 : decode cX12_init 94 = .ok (.newarray .long, 2) := by decide +kernel
theorem dX12_init_96 : decode cX12_init 96 = .ok (.putfield 46, 3) := by decide +kernel
theorem dX12_init_99 : decode cX12_init 99 = .ok (.aload_n 0, 1) := by decide +kernel
theorem dX12_init_100 : decode cX12_init 100 = .ok (.sipush 640, 3) := by decide +kernel
theorem dX12_init_103 : decode cX12_init 103 = .ok (.newarray .int, 2) := by decide +kernel
theorem dX12_init_105 : decode cX12_init 105 = .ok (.putfield 49, 3) := by decide +kernel
theorem dX12_init_108 : decode cX12_init 108 = .ok (.aload_n 0, 1) := by decide +kernel
theorem dX12_init_109 : decode cX12_init 109 = .ok (.sipush 640, 3) := by decide +kernel
theorem dX12_init_112 : decode cX12_init 112 = .ok (.newarray .long, 2) := by decide +kernel
theorem dX12_init_114 : decode cX12_init 114 = .ok (.putfield 52, 3) := by decide +kernel
theorem dX12_init_117 : decode cX12_init 117 = .ok (.aload_n 0, 1) := by decide +kernel
theorem dX12_init_118 : decode cX12_init 118 = .ok (.bipush 64, 2) := by decide +kernel
theorem dX12_init_120 : decode cX12_init 120 = .ok (.newarray .long, 2) := by decide +kernel
theorem dX12_init_122 : decode cX12_init 122 = .ok (.putfield 55, 3) := by decide +kernel
theorem dX12_init_125 : decode cX12_init 125 = .ok (.aload_n 0, 1) := by decide +kernel
theorem dX12_init_126 : decode cX12_init 126 = .ok (.bipush 64, 2) := by decide +kernel
theorem dX12_init_128 : decode cX12_init 128 = .ok (.newarray .long, 2) := by decide +kernel
theorem dX12_init_130 : decode cX12_init 130 = .ok (.putfield 58, 3) := by decide +kernel
theorem dX12_init_133 : decode cX12_init 133 = .ok (.aload_n 0, 1) := by decide +kernel
theorem dX12_init_134 : decode cX12_init 134 = .ok (.bipush 64, 2) := by decide +kernel
theorem dX12_init_136 : decode cX12_init 136 = .ok (.newarray .long, 2) := by decide +kernel
theorem dX12_init_138 : decode cX12_init 138 = .ok (.putfield 61, 3) := by decide +kernel
theorem dX12_init_141 : decode cX12_init 141 = .ok (.aload_n 0, 1) := by decide +kernel
theorem dX12_init_142 : decode cX12_init 142 = .ok (.iconst 5, 1) := by decide +kernel
theorem dX12_init_143 : decode cX12_init 143 = .ok (.newarray .boolean, 2) := by decide +kernel
theorem dX12_init_145 : decode cX12_init 145 = .ok (.putfield 64, 3) := by decide +kernel
theorem dX12_init_148 : decode cX12_init 148 = .ok (.aload_n 0, 1) := by decide +kernel
theorem dX12_init_149 : decode cX12_init 149 = .ok (.bipush 100, 2) := by decide +kernel
theorem dX12_init_151 : decode cX12_init 151 = .ok (.newarray .byte, 2) := by decide +kernel
theorem dX12_init_153 : decode cX12_init 153 = .ok (.putfield 68, 3) := by decide +kernel
theorem dX12_init_156 : decode cX12_init 156 = .ok (.aload_n 0, 1) := by decide +kernel
theorem dX12_init_157 : decode cX12_init 157 = .ok (.bipush 10, 2) := by decide +kernel
theorem dX12_init_159 : decode cX12_init 159 = .ok (.newarray .boolean, 2) := by decide +kernel
theorem dX12_init_161 : decode cX12_init 161 = .ok (.putfield 71, 3) := by decide +kernel
theorem dX12_init_164 : decode cX12_init 164 = .ok (.aload_n 0, 1) := by decide +kernel
theorem dX12_init_165 : decode cX12_init 165 = .ok (.sipush 1000, 3) := by decide +kernel
theorem dX12_init_168 : decode cX12_init 168 = .ok (.newarray .long, 2) := by decide +kernel
theorem dX12_init_170 : decode cX12_init 170 = .ok (.putfield 74, 3) := by decide +kernel
theorem dX12_init_173 : decode cX12_init 173 = .ok (.aload_n 0, 1) := by decide +kernel
theorem dX12_init_174 : decode cX12_init 174 = .ok (.sipush 2900, 3) := by decide +kernel
theorem dX12_init_177 : decode cX12_init 177 = .ok (.newarray .long, 2) := by decide +kernel
theorem dX12_init_179 : decode cX12_init 179 = .ok (.putfield 77, 3) := by decide +kernel
theorem dX12_init_182 : decode cX12_init 182 = .ok (.aload_n 0, 1) := by decide +kernel
theorem dX12_init_183 : decode cX12_init 183 = .ok (.bipush 6, 2) := by decide +kernel
theorem dX12_init_185 : decode cX12_init 185 = .ok (.newarray .int, 2) := by decide +kernel
theorem dX12_init_187 : decode cX12_init 187 = .ok (.putfield 80, 3) := by decide +kernel
theorem dX12_init_190 : decode cX12_init 190 = .ok (.aload_n 0, 1) := by decide +kernel
theorem dX12_init_191 : decode cX12_init 191 = .ok (.sipush 950, 3) := by decide +kernel
theorem dX12_init_194 : decode cX12_init 194 = .ok (.newarray .long, 2) := by decide +kernel
theorem dX12_init_196 : decode cX12_init 196 = .ok (.putfield 83, 3) := by decide +kernel
theorem dX12_init_199 : decode cX12_init 199 = .ok (.aload_n 0, 1) := by decide +kernel
theorem dX12_init_200 : decode cX12_init 200 = .ok (.sipush 9500, 3) := by decide +kernel
theorem dX12_init_203 : decode cX12_init 203 = .ok (.newarray .byte, 2) := by decide +kernel
theorem dX12_init_205 : decode cX12_init 205 = .ok (.putfield 86, 3) := by decide +kernel
theorem dX12_init_208 : decode cX12_init 208 = .ok (.aload_n 0, 1) := by decide +kernel
theorem dX12_init_209 : decode cX12_init 209 = .ok (.sipush 5700, 3) := by decide +kernel
theorem dX12_init_212 : decode cX12_init 212 = .ok (.newarray .int, 2) := by decide +kernel
theorem dX12_init_214 : decode cX12_init 214 = .ok (.putfield 89, 3) := by decide +kernel
theorem dX12_init_217 : decode cX12_init 217 = .ok (.aload_n 0, 1) := by decide +kernel
theorem dX12_init_218 : decode cX12_init 218 = .ok (.sipush 5700, 3) := by decide +kernel
theorem dX12_init_221 : decode cX12_init 221 = .ok (.newarray .int, 2) := by decide +kernel
theorem dX12_init_223 : decode cX12_init 223 = .ok (.putfield 92, 3) := by decide +kernel
theorem dX12_init_226 : decode cX12_init 226 = .ok (.aload_n 0, 1) := by decide +kernel
theorem dX12_init_227 : decode cX12_init 227 = .ok (.bipush 6, 2) := by decide +kernel
theorem dX12_init_229 : decode cX12_init 229 = .ok (.newarray .int, 2) := by decide +kernel
theorem dX12_init_231 : decode cX12_init 231 = .ok (.putfield 95, 3) := by decide +kernel
theorem dX12_init_234 : decode cX12_init 234 = .ok (.aload_n 0, 1) := by decide +kernel
theorem dX12_init_235 : decode cX12_init 235 = .ok (.sipush 950, 3) := by decide +kernel
theorem dX12_init_238 : decode cX12_init 238 = .ok (.newarray .int, 2) := by decide +kernel
theorem dX12_init_240 : decode cX12_init 240 = .ok (.putfield 98, 3) := by decide +kernel
theorem dX12_init_243 : decode cX12_init 243 = .ok (.aload_n 0, 1) := by decide +kernel
theorem dX12_init_244 : decode cX12_init 244 = .ok (.sipush 3800, 3) := by decide +kernel
theorem dX12_init_247 : decode cX12_init 247 = .ok (.newarray .long, 2) := by decide +kernel
theorem dX12_init_249 : decode cX12_init 249 = .ok (.putfield 101, 3) := by decide +kernel
theorem dX12_init_252 : decode cX12_init 252 = .ok (.aload_n 0, 1) := by decide +kernel
theorem dX12_init_253 : decode cX12_init 253 = .ok (.sipush 3800, 3) := by decide +kernel
theorem dX12_init_256 : decode cX12_init 256 = .ok (.newarray .long, 2) := by decide +kernel
theorem dX12_init_258 : decode cX12_init 258 = .ok (.putfield 104, 3) := by decide +kernel
theorem dX12_init_261 : decode cX12_init 261 = .ok (.aload_n 0, 1) := by decide +kernel
theorem dX12_init_262 : decode cX12_init 262 = .ok (.sipush 3800, 3) := by decide +kernel
theorem dX12_init_265 : decode cX12_init 265 = .ok (.newarray .boolean, 2) := by decide +kernel
theorem dX12_init_267 : decode cX12_init 267 = .ok (.putfield 107, 3) := by decide +kernel
theorem dX12_init_270 : decode cX12_init 270 = .ok (.aload_n 0, 1) := by decide +kernel
theorem dX12_init_271 : decode cX12_init 271 = .ok (.sipush 3800, 3) := by decide +kernel
theorem dX12_init_274 : decode cX12_init 274 = .ok (.newarray .int, 2) := by decide +kernel
theorem dX12_init_276 : decode cX12_init 276 = .ok (.putfield 110, 3) := by decide +kernel
theorem dX12_init_279 : decode cX12_init 279 = .ok (.aload_n 0, 1) := by decide +kernel
theorem dX12_init_280 : decode cX12_init 280 = .ok (.sipush 3800, 3) := by decide +kernel
theorem dX12_init_283 : decode cX12_init 283 = .ok (.newarray .int, 2) := by decide +kernel
theorem dX12_init_285 : decode cX12_init 285 = .ok (.putfield 113, 3) := by decide +kernel
theorem dX12_init_288 : decode cX12_init 288 = .ok (.aload_n 0, 1) := by decide +kernel
theorem dX12_init_289 : decode cX12_init 289 = .ok (.sipush 3800, 3) := by decide +kernel
theorem dX12_init_292 : decode cX12_init 292 = .ok (.newarray .int, 2) := by decide +kernel
theorem dX12_init_294 : decode cX12_init 294 = .ok (.putfield 116, 3) := by decide +kernel
theorem dX12_init_297 : decode cX12_init 297 = .ok (.aload_n 0, 1) := by decide +kernel
theorem dX12_init_298 : decode cX12_init 298 = .ok (.sipush 950, 3) := by decide +kernel
theorem dX12_init_301 : decode cX12_init 301 = .ok (.newarray .int, 2) := by decide +kernel
theorem dX12_init_303 : decode cX12_init 303 = .ok (.putfield 119, 3) := by decide +kernel
theorem dX12_init_306 : decode cX12_init 306 = .ok (.aload_n 0, 1) := by decide +kernel
theorem dX12_init_307 : decode cX12_init 307 = .ok (.sipush 950, 3) := by decide +kernel
theorem dX12_init_310 : decode cX12_init 310 = .ok (.newarray .int, 2) := by decide +kernel
theorem dX12_init_312 : decode cX12_init 312 = .ok (.putfield 122, 3) := by decide +kernel
theorem dX12_init_315 : decode cX12_init 315 = .ok (.aload_n 0, 1) := by decide +kernel
theorem dX12_init_316 : decode cX12_init 316 = .ok (.bipush 10, 2) := by decide +kernel
theorem dX12_init_318 : decode cX12_init 318 = .ok (.newarray .int, 2) := by decide +kernel
theorem dX12_init_320 : decode cX12_init 320 = .ok (.putfield 125, 3) := by decide +kernel
theorem dX12_init_323 : decode cX12_init 323 = .ok (.aload_n 0, 1) := by decide +kernel
theorem dX12_init_324 : decode cX12_init 324 = .ok (.bipush 10, 2) := by decide +kernel
theorem dX12_init_326 : decode cX12_init 326 = .ok (.newarray .int, 2) := by decide +kernel
theorem dX12_init_328 : decode cX12_init 328 = .ok (.putfield 128, 3) := by decide +kernel
theorem dX12_init_331 : decode cX12_init 331 = .ok (.aload_n 0, 1) := by decide +kernel
theorem dX12_init_332 : decode cX12_init 332 = .ok (.sipush 32000, 3) := by decide +kernel
theorem dX12_init_335 : decode cX12_init 335 = .ok (.newarray .byte, 2) := by decide +kernel
theorem dX12_init_337 : decode cX12_init 337 = .ok (.putfield 131, 3) := by decide +kernel
theorem dX12_init_340 : decode cX12_init 340 = .ok (.aload_n 0, 1) := by decide +kernel
theorem dX12_init_341 : decode cX12_init 341 = .ok (.bipush 16, 2) := by decide +kernel
theorem dX12_init_343 : decode cX12_init 343 = .ok (.newarray .int, 2) := by decide +kernel
theorem dX12_init_345 : decode cX12_init 345 = .ok (.putfield 134, 3) := by decide +kernel
theorem dX12_init_348 : decode cX12_init 348 = .ok (.aload_n 0, 1) := by decide +kernel
theorem dX12_init_349 : decode cX12_init 349 = .ok (.bipush 8, 2) := by decide +kernel
theorem dX12_init_351 : decode cX12_init 351 = .ok (.newarray .int, 2) := by decide +kernel
theorem dX12_init_353 : decode cX12_init 353 = .ok (.putfield 137, 3) := by decide +kernel
theorem dX12_init_356 : decode cX12_init 356 = .ok (.iconst 0, 1) := by decide +kernel
theorem dX12_init_357 : decode cX12_init 357 = .ok (.istore_n 1, 1) := by decide +kernel
theorem dX12_init_358 : decode cX12_init 358 = .ok (.iload_n 1, 1) := by decide +kernel
theorem dX12_init_359 : decode cX12_init 359 = .ok (.bipush 16, 2) := by decide +kernel
theorem dX12_init_361 : decode cX12_init 361 = .ok (.if_icmp .ge 16, 3) := by decide +kernel
theorem dX12_init_364 : decode cX12_init 364 = .ok (.aload_n 0, 1) := by decide +kernel
theorem dX12_init_365 : decode cX12_init 365 = .ok (.getfield 27, 3) := by decide +kernel
theorem dX12_init_368 : decode cX12_init 368 = .ok (.iload_n 1, 1) := by decide +kernel
theorem dX12_init_369 : decode cX12_init 369 = .ok (.iconst 1, 1) := by decide +kernel
theorem dX12_init_370 : decode cX12_init 370 = .ok (.iastore, 1) := by decide +kernel
theorem dX12_init_371 : decode cX12_init 371 = .ok (.iinc 1 1, 3) := by decide +kernel
theorem dX12_init_374 : decode cX12_init 374 = .ok (.goto (-16), 3) := by decide +kernel
theorem dX12_init_377 : decode cX12_init 377 = .ok (.return_, 1) := by decide +kernel
def f_X12_init (σ : ml_St) (Q : ml_St → Prop) : Prop :=
(∀ j : Int, σ 216 j = 0) ∧
∀ σ2, σ2 = ml_up σ 215 0 216 →
∀ σ3, σ3 = ml_up σ2 215 2 4 →
(∀ j : Int, σ3 217 j = 0) ∧
∀ σ5, σ5 = ml_up σ3 215 5 217 →
(∀ j : Int, σ5 218 j = 0) ∧
∀ σ7, σ7 = ml_up σ5 215 6 218 →
(∀ j : Int, σ7 219 j = 0) ∧
∀ σ9, σ9 = ml_up σ7 215 7 219 →
(∀ j : Int, σ9 220 j = 0) ∧
∀ σ11, σ11 = ml_up σ9 215 8 220 →
(∀ j : Int, σ11 221 j = 0) ∧
∀ σ13, σ13 = ml_up σ11 215 13 221 →
(∀ j : Int, σ13 222 j = 0) ∧
∀ σ15, σ15 = ml_up σ13 215 14 222 →
(∀ j : Int, σ15 223 j = 0) ∧
∀ σ17, σ17 = ml_up σ15 215 15 223 →
(∀ j : Int, σ17 224 j = 0) ∧
∀ σ19, σ19 = ml_up σ17 215 16 224 →
(∀ j : Int, σ19 225 j = 0) ∧
∀ σ21, σ21 = ml_up σ19 215 17 225 →
(∀ j : Int, σ21 226 j = 0) ∧
∀ σ23, σ23 = ml_up σ21 215 18 226 →
(∀ j : Int, σ23 227 j = 0) ∧
∀ σ25, σ25 = ml_up σ23 215 21 227 →
(∀ j : Int, σ25 228 j = 0) ∧
∀ σ27, σ27 = ml_up σ25 215 22 228 →
(∀ j : Int, σ27 229 j = 0) ∧
∀ σ29, σ29 = ml_up σ27 215 23 229 →
(∀ j : Int, σ29 230 j = 0) ∧
∀ σ31, σ31 = ml_up σ29 215 24 230 →
(∀ j : Int, σ31 231 j = 0) ∧
∀ σ33, σ33 = ml_up σ31 215 25 231 →
(∀ j : Int, σ33 232 j = 0) ∧
∀ σ35, σ35 = ml_up σ33 215 26 232 →
(∀ j : Int, σ35 233 j = 0) ∧
∀ σ37, σ37 = ml_up σ35 215 28 233 →
(∀ j : Int, σ37 234 j = 0) ∧
∀ σ39, σ39 = ml_up σ37 215 29 234 →
(∀ j : Int, σ39 235 j = 0) ∧
∀ σ41, σ41 = ml_up σ39 215 30 235 →
(∀ j : Int, σ41 236 j = 0) ∧
∀ σ43, σ43 = ml_up σ41 215 31 236 →
(∀ j : Int, σ43 237 j = 0) ∧
∀ σ45, σ45 = ml_up σ43 215 40 237 →
(∀ j : Int, σ45 238 j = 0) ∧
∀ σ47, σ47 = ml_up σ45 215 41 238 →
(∀ j : Int, σ47 239 j = 0) ∧
∀ σ49, σ49 = ml_up σ47 215 42 239 →
(∀ j : Int, σ49 240 j = 0) ∧
∀ σ51, σ51 = ml_up σ49 215 43 240 →
(∀ j : Int, σ51 241 j = 0) ∧
∀ σ53, σ53 = ml_up σ51 215 44 241 →
(∀ j : Int, σ53 242 j = 0) ∧
∀ σ55, σ55 = ml_up σ53 215 45 242 →
(∀ j : Int, σ55 243 j = 0) ∧
∀ σ57, σ57 = ml_up σ55 215 46 243 →
(∀ j : Int, σ57 244 j = 0) ∧
∀ σ59, σ59 = ml_up σ57 215 47 244 →
(∀ j : Int, σ59 245 j = 0) ∧
∀ σ61, σ61 = ml_up σ59 215 48 245 →
(∀ j : Int, σ61 246 j = 0) ∧
∀ σ63, σ63 = ml_up σ61 215 49 246 →
(∀ j : Int, σ63 247 j = 0) ∧
∀ σ65, σ65 = ml_up σ63 215 50 247 →
(∀ j : Int, σ65 248 j = 0) ∧
∀ σ67, σ67 = ml_up σ65 215 51 248 →
(∀ j : Int, σ67 249 j = 0) ∧
∀ σ69, σ69 = ml_up σ67 215 52 249 →
(∀ j : Int, σ69 250 j = 0) ∧
∀ σ71, σ71 = ml_up σ69 215 54 250 →
(∀ j : Int, σ71 251 j = 0) ∧
∀ σ73, σ73 = ml_up σ71 215 55 251 →
(∀ j : Int, σ73 252 j = 0) ∧
∀ σ75, σ75 = ml_up σ73 215 56 252 →
(∀ j : Int, σ75 253 j = 0) ∧
∀ σ77, σ77 = ml_up σ75 215 57 253 →
(∀ j : Int, σ77 254 j = 0) ∧
∀ σ79, σ79 = ml_up σ77 215 58 254 →
(∀ j : Int, σ79 255 j = 0) ∧
∀ σ81, σ81 = ml_up σ79 215 59 255 →
(∀ j : Int, σ81 256 j = 0) ∧
∀ σ83, σ83 = ml_up σ81 215 60 256 →
σ83 215 8 = 220 ∧
∀ σ86, σ86 = ml_up σ83 220 0 1 →
σ86 215 8 = 220 ∧
∀ σ89, σ89 = ml_up σ86 220 1 1 →
σ89 215 8 = 220 ∧
∀ σ92, σ92 = ml_up σ89 220 2 1 →
σ92 215 8 = 220 ∧
∀ σ95, σ95 = ml_up σ92 220 3 1 →
σ95 215 8 = 220 ∧
∀ σ98, σ98 = ml_up σ95 220 4 1 →
σ98 215 8 = 220 ∧
∀ σ101, σ101 = ml_up σ98 220 5 1 →
σ101 215 8 = 220 ∧
∀ σ104, σ104 = ml_up σ101 220 6 1 →
σ104 215 8 = 220 ∧
∀ σ107, σ107 = ml_up σ104 220 7 1 →
σ107 215 8 = 220 ∧
∀ σ110, σ110 = ml_up σ107 220 8 1 →
σ110 215 8 = 220 ∧
∀ σ113, σ113 = ml_up σ110 220 9 1 →
σ113 215 8 = 220 ∧
∀ σ116, σ116 = ml_up σ113 220 10 1 →
σ116 215 8 = 220 ∧
∀ σ119, σ119 = ml_up σ116 220 11 1 →
σ119 215 8 = 220 ∧
∀ σ122, σ122 = ml_up σ119 220 12 1 →
σ122 215 8 = 220 ∧
∀ σ125, σ125 = ml_up σ122 220 13 1 →
σ125 215 8 = 220 ∧
∀ σ128, σ128 = ml_up σ125 220 14 1 →
σ128 215 8 = 220 ∧
∀ σ131, σ131 = ml_up σ128 220 15 1 →
Q σ131
def rm_X12_init : Room := { frames := 1, cells := 41, slots := 86949, locals := 60 }
set_option maxRecDepth 100000 in
set_option maxHeartbeats 4000000 in
theorem c_X12_init (l : Launch) (base : Nat) (D : va_G) (cA : Nat → ClassId) (σ : ml_St) (Q : ml_St → Prop) (hw : f_X12_init σ Q) : Met l yX12_init (Cond.code yX12_init cX12_init 2 none :: ml_T) rm_X12_init (va_Pc [.ref (base + (215 : Int).toNat)] (ml_UC base D cA 215 σ)) (ml_QC base D cA (215 + 41) Q) 41 86949 (ml_A base) := by
  refine Met.ofW (cc := cX12_init) (maxL := 2) (ret := none) (by decide) rfl ?_
  intro p e s m args below meth c s₁ B hml hv
  obtain ⟨rfl, ⟨hP, hK, hok⟩, hs, hNN⟩ := hv
  have hini : meth.name = "<init>" := (name_of_methodNamed B.named B.method).1
  have X : ml_X p s m c meth _ D cA cX12_init 2 RX12 none := ⟨B.exec, B.bytes, hml, findClass_of_methodNamed B.named, fun w hw => atoms_spec (ws := Cond.code yX12_init cX12_init 2 none :: ml_T) B.pre w (List.mem_cons_of_mem _ hw), hK, B.notSynchronized, B.returns⟩
  have hl := lv_entry [.ref (base + (215 : Int).toNat)] (n := 2) (Nat.le_of_ble_eq_true rfl)
  rw [lg_entry_eq]
  generalize (lg_sl [.ref (base + (215 : Int).toNat)] ++ List.replicate (2 - (lg_sl [.ref (base + (215 : Int).toNat)]).length) Slot.unset).toArray = ls at hl ⊢
  have hl : lv_has ls 2 [(0, .ref (base + (215 : Int).toNat))] := hl
  unfold f_X12_init at hw
  suffices hV : ml_V p l e rm_X12_init s m [.ref (base + (215 : Int).toNat)].toArray below meth c (MQ below (ml_QC base D cA (215 + 41) Q) [.ref (base + (215 : Int).toNat)].toArray s 41 86949 (ml_A base)) base D cA 0 0 0 (215 + 0) σ (F0 m 0 ls []) from hV s.heap [] hP va_S.rf hok ml_RO0
  refine ml_aload_n (pc := 0) X hl 0 rfl rfl dX12_init_0 ?_
  refine ml_objInit (pc := 1) X ⟨tw_4_190, tw_1_24, tw_1_25⟩ hl ⟨by decide, by decide⟩ (Nat.le_of_ble_eq_true rfl) dX12_init_1 ?_
  refine ml_aload_n (pc := 4) X hl 0 rfl rfl dX12_init_4 ?_
  refine ml_sipush (pc := 5) X dX12_init_5 (by decide) ?_
  obtain ⟨z1, hw⟩ := hw
  refine ml_newA (n0 := 215) (kc := 0) (ks := 0) (pc := 8) (k := 216) X hs .byte .byte 2 200 tw_1_85 rfl rfl (fun _ _ h => h) (200, .inl (fun _ => 0)) (fun _ => rfl) (by omega) (by omega) (by decide +kernel) (fun f hf => by show _ = _; unfold ml_cell; simp only [hf]; rfl) z1 (by decide) (by decide) ⟨by decide, by decide⟩ dX12_init_8 ?_
  refine ml_putF (pc := 10) (x := 216) (k := 215) X hini in_X12 rfl (by decide) tk_X12 nmX12 0 (by decide) rfl rfl tw_4_191 (ml_k215 (by decide)) dX12_init_10 (ml_fvA (by omega)) (show (0 : Int) ≤ 216 by omega) rfl rfl (Or.inl (by omega)) (fun σ2 g2 => ?_)
  have hw := hw σ2 g2
  refine ml_aload_n (pc := 13) X hl 0 rfl rfl dX12_init_13 ?_
  refine ml_iconst (pc := 14) X dX12_init_14 ?_
  refine ml_putg (pc := 15) (x := 4) (k := 215) X in_X12 rfl (by decide) tk_X12 nmX12 2 (by decide) rfl tw_4_193 (ml_k215 (by decide)) dX12_init_15 rfl ⟨by decide, by decide⟩ rfl rfl (Or.inl (by omega)) (fun σ3 g3 => ?_)
  have hw := hw σ3 g3
  refine ml_aload_n (pc := 18) X hl 0 rfl rfl dX12_init_18 ?_
  refine ml_bipush (pc := 19) X dX12_init_19 (by decide) ?_
  obtain ⟨z4, hw⟩ := hw
  refine ml_newA (n0 := 215) (kc := 1) (ks := 200) (pc := 21) (k := 217) X hs .int .int 1 10 tw_1_42 rfl rfl (fun _ _ h => h) (10, .inl (fun _ => 0)) (fun _ => rfl) (by omega) (by omega) (by decide +kernel) (fun f hf => by show _ = _; unfold ml_cell; simp only [hf]; rfl) z4 (by decide) (by decide) ⟨by decide, by decide⟩ dX12_init_21 ?_
  refine ml_putF (pc := 23) (x := 217) (k := 215) X hini in_X12 rfl (by decide) tk_X12 nmX12 5 (by decide) rfl rfl tw_4_196 (ml_k215 (by decide)) dX12_init_23 (ml_fvA (by omega)) (show (0 : Int) ≤ 217 by omega) rfl rfl (Or.inl (by omega)) (fun σ5 g5 => ?_)
  have hw := hw σ5 g5
  refine ml_aload_n (pc := 26) X hl 0 rfl rfl dX12_init_26 ?_
  refine ml_sipush (pc := 27) X dX12_init_27 (by decide) ?_
  obtain ⟨z6, hw⟩ := hw
  refine ml_newA (n0 := 215) (kc := 2) (ks := 210) (pc := 30) (k := 218) X hs .byte .byte 2 1600 tw_1_85 rfl rfl (fun _ _ h => h) (1600, .inl (fun _ => 0)) (fun _ => rfl) (by omega) (by omega) (by decide +kernel) (fun f hf => by show _ = _; unfold ml_cell; simp only [hf]; rfl) z6 (by decide) (by decide) ⟨by decide, by decide⟩ dX12_init_30 ?_
  refine ml_putF (pc := 32) (x := 218) (k := 215) X hini in_X12 rfl (by decide) tk_X12 nmX12 6 (by decide) rfl rfl tw_4_197 (ml_k215 (by decide)) dX12_init_32 (ml_fvA (by omega)) (show (0 : Int) ≤ 218 by omega) rfl rfl (Or.inl (by omega)) (fun σ7 g7 => ?_)
  have hw := hw σ7 g7
  refine ml_aload_n (pc := 35) X hl 0 rfl rfl dX12_init_35 ?_
  refine ml_bipush (pc := 36) X dX12_init_36 (by decide) ?_
  obtain ⟨z8, hw⟩ := hw
  refine ml_newA (n0 := 215) (kc := 3) (ks := 1810) (pc := 38) (k := 219) X hs .int .int 1 16 tw_1_42 rfl rfl (fun _ _ h => h) (16, .inl (fun _ => 0)) (fun _ => rfl) (by omega) (by omega) (by decide +kernel) (fun f hf => by show _ = _; unfold ml_cell; simp only [hf]; rfl) z8 (by decide) (by decide) ⟨by decide, by decide⟩ dX12_init_38 ?_
  refine ml_putF (pc := 40) (x := 219) (k := 215) X hini in_X12 rfl (by decide) tk_X12 nmX12 7 (by decide) rfl rfl tw_4_198 (ml_k215 (by decide)) dX12_init_40 (ml_fvA (by omega)) (show (0 : Int) ≤ 219 by omega) rfl rfl (Or.inl (by omega)) (fun σ9 g9 => ?_)
  have hw := hw σ9 g9
  refine ml_aload_n (pc := 43) X hl 0 rfl rfl dX12_init_43 ?_
  refine ml_bipush (pc := 44) X dX12_init_44 (by decide) ?_
  obtain ⟨z10, hw⟩ := hw
  refine ml_newA (n0 := 215) (kc := 4) (ks := 1826) (pc := 46) (k := 220) X hs .int .int 1 16 tw_1_42 rfl rfl (fun _ _ h => h) (16, .inl (fun _ => 0)) (fun _ => rfl) (by omega) (by omega) (by decide +kernel) (fun f hf => by show _ = _; unfold ml_cell; simp only [hf]; rfl) z10 (by decide) (by decide) ⟨by decide, by decide⟩ dX12_init_46 ?_
  refine ml_putF (pc := 48) (x := 220) (k := 215) X hini in_X12 rfl (by decide) tk_X12 nmX12 8 (by decide) rfl rfl tw_4_199 (ml_k215 (by decide)) dX12_init_48 (ml_fvA (by omega)) (show (0 : Int) ≤ 220 by omega) rfl rfl (Or.inl (by omega)) (fun σ11 g11 => ?_)
  have hw := hw σ11 g11
  refine ml_aload_n (pc := 51) X hl 0 rfl rfl dX12_init_51 ?_
  refine ml_bipush (pc := 52) X dX12_init_52 (by decide) ?_
  obtain ⟨z12, hw⟩ := hw
  refine ml_newA (n0 := 215) (kc := 5) (ks := 1842) (pc := 54) (k := 221) X hs .long .long 4 16 tw_1_165 rfl rfl (fun _ _ h => h) (16, .inr (.inl (fun _ => 0))) (fun _ => rfl) (by omega) (by omega) (by decide +kernel) (fun f hf => by show _ = _; unfold ml_cell; simp only [hf]; rfl) z12 (by decide) (by decide) ⟨by decide, by decide⟩ dX12_init_54 ?_
  refine ml_putF (pc := 56) (x := 221) (k := 215) X hini in_X12 rfl (by decide) tk_X12 nmX12 13 (by decide) rfl rfl tw_4_204 (ml_k215 (by decide)) dX12_init_56 (ml_fvA (by omega)) (show (0 : Int) ≤ 221 by omega) rfl rfl (Or.inl (by omega)) (fun σ13 g13 => ?_)
  have hw := hw σ13 g13
  refine ml_aload_n (pc := 59) X hl 0 rfl rfl dX12_init_59 ?_
  refine ml_bipush (pc := 60) X dX12_init_60 (by decide) ?_
  obtain ⟨z14, hw⟩ := hw
  refine ml_newA (n0 := 215) (kc := 6) (ks := 1858) (pc := 62) (k := 222) X hs .long .long 4 16 tw_1_165 rfl rfl (fun _ _ h => h) (16, .inr (.inl (fun _ => 0))) (fun _ => rfl) (by omega) (by omega) (by decide +kernel) (fun f hf => by show _ = _; unfold ml_cell; simp only [hf]; rfl) z14 (by decide) (by decide) ⟨by decide, by decide⟩ dX12_init_62 ?_
  refine ml_putF (pc := 64) (x := 222) (k := 215) X hini in_X12 rfl (by decide) tk_X12 nmX12 14 (by decide) rfl rfl tw_4_205 (ml_k215 (by decide)) dX12_init_64 (ml_fvA (by omega)) (show (0 : Int) ≤ 222 by omega) rfl rfl (Or.inl (by omega)) (fun σ15 g15 => ?_)
  have hw := hw σ15 g15
  refine ml_aload_n (pc := 67) X hl 0 rfl rfl dX12_init_67 ?_
  refine ml_bipush (pc := 68) X dX12_init_68 (by decide) ?_
  obtain ⟨z16, hw⟩ := hw
  refine ml_newA (n0 := 215) (kc := 7) (ks := 1874) (pc := 70) (k := 223) X hs .long .long 4 8 tw_1_165 rfl rfl (fun _ _ h => h) (8, .inr (.inl (fun _ => 0))) (fun _ => rfl) (by omega) (by omega) (by decide +kernel) (fun f hf => by show _ = _; unfold ml_cell; simp only [hf]; rfl) z16 (by decide) (by decide) ⟨by decide, by decide⟩ dX12_init_70 ?_
  refine ml_putF (pc := 72) (x := 223) (k := 215) X hini in_X12 rfl (by decide) tk_X12 nmX12 15 (by decide) rfl rfl tw_4_206 (ml_k215 (by decide)) dX12_init_72 (ml_fvA (by omega)) (show (0 : Int) ≤ 223 by omega) rfl rfl (Or.inl (by omega)) (fun σ17 g17 => ?_)
  have hw := hw σ17 g17
  refine ml_aload_n (pc := 75) X hl 0 rfl rfl dX12_init_75 ?_
  refine ml_bipush (pc := 76) X dX12_init_76 (by decide) ?_
  obtain ⟨z18, hw⟩ := hw
  refine ml_newA (n0 := 215) (kc := 8) (ks := 1882) (pc := 78) (k := 224) X hs .long .long 4 8 tw_1_165 rfl rfl (fun _ _ h => h) (8, .inr (.inl (fun _ => 0))) (fun _ => rfl) (by omega) (by omega) (by decide +kernel) (fun f hf => by show _ = _; unfold ml_cell; simp only [hf]; rfl) z18 (by decide) (by decide) ⟨by decide, by decide⟩ dX12_init_78 ?_
  refine ml_putF (pc := 80) (x := 224) (k := 215) X hini in_X12 rfl (by decide) tk_X12 nmX12 16 (by decide) rfl rfl tw_4_207 (ml_k215 (by decide)) dX12_init_80 (ml_fvA (by omega)) (show (0 : Int) ≤ 224 by omega) rfl rfl (Or.inl (by omega)) (fun σ19 g19 => ?_)
  have hw := hw σ19 g19
  refine ml_aload_n (pc := 83) X hl 0 rfl rfl dX12_init_83 ?_
  refine ml_bipush (pc := 84) X dX12_init_84 (by decide) ?_
  obtain ⟨z20, hw⟩ := hw
  refine ml_newA (n0 := 215) (kc := 9) (ks := 1890) (pc := 86) (k := 225) X hs .long .long 4 8 tw_1_165 rfl rfl (fun _ _ h => h) (8, .inr (.inl (fun _ => 0))) (fun _ => rfl) (by omega) (by omega) (by decide +kernel) (fun f hf => by show _ = _; unfold ml_cell; simp only [hf]; rfl) z20 (by decide) (by decide) ⟨by decide, by decide⟩ dX12_init_86 ?_
  refine ml_putF (pc := 88) (x := 225) (k := 215) X hini in_X12 rfl (by decide) tk_X12 nmX12 17 (by decide) rfl rfl tw_4_208 (ml_k215 (by decide)) dX12_init_88 (ml_fvA (by omega)) (show (0 : Int) ≤ 225 by omega) rfl rfl (Or.inl (by omega)) (fun σ21 g21 => ?_)
  have hw := hw σ21 g21
  refine ml_aload_n (pc := 91) X hl 0 rfl rfl dX12_init_91 ?_
  refine ml_bipush (pc := 92) X dX12_init_92 (by decide) ?_
  obtain ⟨z22, hw⟩ := hw
  refine ml_newA (n0 := 215) (kc := 10) (ks := 1898) (pc := 94) (k := 226) X hs .long .long 4 8 tw_1_165 rfl rfl (fun _ _ h => h) (8, .inr (.inl (fun _ => 0))) (fun _ => rfl) (by omega) (by omega) (by decide +kernel) (fun f hf => by show _ = _; unfold ml_cell; simp only [hf]; rfl) z22 (by decide) (by decide) ⟨by decide, by decide⟩ dX12_init_94 ?_
  refine ml_putF (pc := 96) (x := 226) (k := 215) X hini in_X12 rfl (by decide) tk_X12 nmX12 18 (by decide) rfl rfl tw_4_209 (ml_k215 (by decide)) dX12_init_96 (ml_fvA (by omega)) (show (0 : Int) ≤ 226 by omega) rfl rfl (Or.inl (by omega)) (fun σ23 g23 => ?_)
  have hw := hw σ23 g23
  refine ml_aload_n (pc := 99) X hl 0 rfl rfl dX12_init_99 ?_
  refine ml_sipush (pc := 100) X dX12_init_100 (by decide) ?_
  obtain ⟨z24, hw⟩ := hw
  refine ml_newA (n0 := 215) (kc := 11) (ks := 1906) (pc := 103) (k := 227) X hs .int .int 1 640 tw_1_42 rfl rfl (fun _ _ h => h) (640, .inl (fun _ => 0)) (fun _ => rfl) (by omega) (by omega) (by decide +kernel) (fun f hf => by show _ = _; unfold ml_cell; simp only [hf]; rfl) z24 (by decide) (by decide) ⟨by decide, by decide⟩ dX12_init_103 ?_
  refine ml_putF (pc := 105) (x := 227) (k := 215) X hini in_X12 rfl (by decide) tk_X12 nmX12 21 (by decide) rfl rfl tw_4_212 (ml_k215 (by decide)) dX12_init_105 (ml_fvA (by omega)) (show (0 : Int) ≤ 227 by omega) rfl rfl (Or.inl (by omega)) (fun σ25 g25 => ?_)
  have hw := hw σ25 g25
  refine ml_aload_n (pc := 108) X hl 0 rfl rfl dX12_init_108 ?_
  refine ml_sipush (pc := 109) X dX12_init_109 (by decide) ?_
  obtain ⟨z26, hw⟩ := hw
  refine ml_newA (n0 := 215) (kc := 12) (ks := 2546) (pc := 112) (k := 228) X hs .long .long 4 640 tw_1_165 rfl rfl (fun _ _ h => h) (640, .inr (.inl (fun _ => 0))) (fun _ => rfl) (by omega) (by omega) (by decide +kernel) (fun f hf => by show _ = _; unfold ml_cell; simp only [hf]; rfl) z26 (by decide) (by decide) ⟨by decide, by decide⟩ dX12_init_112 ?_
  refine ml_putF (pc := 114) (x := 228) (k := 215) X hini in_X12 rfl (by decide) tk_X12 nmX12 22 (by decide) rfl rfl tw_4_213 (ml_k215 (by decide)) dX12_init_114 (ml_fvA (by omega)) (show (0 : Int) ≤ 228 by omega) rfl rfl (Or.inl (by omega)) (fun σ27 g27 => ?_)
  have hw := hw σ27 g27
  refine ml_aload_n (pc := 117) X hl 0 rfl rfl dX12_init_117 ?_
  refine ml_bipush (pc := 118) X dX12_init_118 (by decide) ?_
  obtain ⟨z28, hw⟩ := hw
  refine ml_newA (n0 := 215) (kc := 13) (ks := 3186) (pc := 120) (k := 229) X hs .long .long 4 64 tw_1_165 rfl rfl (fun _ _ h => h) (64, .inr (.inl (fun _ => 0))) (fun _ => rfl) (by omega) (by omega) (by decide +kernel) (fun f hf => by show _ = _; unfold ml_cell; simp only [hf]; rfl) z28 (by decide) (by decide) ⟨by decide, by decide⟩ dX12_init_120 ?_
  refine ml_putF (pc := 122) (x := 229) (k := 215) X hini in_X12 rfl (by decide) tk_X12 nmX12 23 (by decide) rfl rfl tw_4_214 (ml_k215 (by decide)) dX12_init_122 (ml_fvA (by omega)) (show (0 : Int) ≤ 229 by omega) rfl rfl (Or.inl (by omega)) (fun σ29 g29 => ?_)
  have hw := hw σ29 g29
  refine ml_aload_n (pc := 125) X hl 0 rfl rfl dX12_init_125 ?_
  refine ml_bipush (pc := 126) X dX12_init_126 (by decide) ?_
  obtain ⟨z30, hw⟩ := hw
  refine ml_newA (n0 := 215) (kc := 14) (ks := 3250) (pc := 128) (k := 230) X hs .long .long 4 64 tw_1_165 rfl rfl (fun _ _ h => h) (64, .inr (.inl (fun _ => 0))) (fun _ => rfl) (by omega) (by omega) (by decide +kernel) (fun f hf => by show _ = _; unfold ml_cell; simp only [hf]; rfl) z30 (by decide) (by decide) ⟨by decide, by decide⟩ dX12_init_128 ?_
  refine ml_putF (pc := 130) (x := 230) (k := 215) X hini in_X12 rfl (by decide) tk_X12 nmX12 24 (by decide) rfl rfl tw_4_215 (ml_k215 (by decide)) dX12_init_130 (ml_fvA (by omega)) (show (0 : Int) ≤ 230 by omega) rfl rfl (Or.inl (by omega)) (fun σ31 g31 => ?_)
  have hw := hw σ31 g31
  refine ml_aload_n (pc := 133) X hl 0 rfl rfl dX12_init_133 ?_
  refine ml_bipush (pc := 134) X dX12_init_134 (by decide) ?_
  obtain ⟨z32, hw⟩ := hw
  refine ml_newA (n0 := 215) (kc := 15) (ks := 3314) (pc := 136) (k := 231) X hs .long .long 4 64 tw_1_165 rfl rfl (fun _ _ h => h) (64, .inr (.inl (fun _ => 0))) (fun _ => rfl) (by omega) (by omega) (by decide +kernel) (fun f hf => by show _ = _; unfold ml_cell; simp only [hf]; rfl) z32 (by decide) (by decide) ⟨by decide, by decide⟩ dX12_init_136 ?_
  refine ml_putF (pc := 138) (x := 231) (k := 215) X hini in_X12 rfl (by decide) tk_X12 nmX12 25 (by decide) rfl rfl tw_4_216 (ml_k215 (by decide)) dX12_init_138 (ml_fvA (by omega)) (show (0 : Int) ≤ 231 by omega) rfl rfl (Or.inl (by omega)) (fun σ33 g33 => ?_)
  have hw := hw σ33 g33
  refine ml_aload_n (pc := 141) X hl 0 rfl rfl dX12_init_141 ?_
  refine ml_iconst (pc := 142) X dX12_init_142 ?_
  obtain ⟨z34, hw⟩ := hw
  refine ml_newA (n0 := 215) (kc := 16) (ks := 3378) (pc := 143) (k := 232) X hs .boolean .boolean 3 5 tw_5_138 rfl rfl (fun _ _ h => h) (5, .inl (fun _ => 0)) (fun _ => rfl) (by omega) (by omega) (by decide +kernel) (fun f hf => by show _ = _; unfold ml_cell; simp only [hf]; rfl) z34 (by decide) (by decide) ⟨by decide, by decide⟩ dX12_init_143 ?_
  refine ml_putF (pc := 145) (x := 232) (k := 215) X hini in_X12 rfl (by decide) tk_X12 nmX12 26 (by decide) rfl rfl tw_4_217 (ml_k215 (by decide)) dX12_init_145 (ml_fvA (by omega)) (show (0 : Int) ≤ 232 by omega) rfl rfl (Or.inl (by omega)) (fun σ35 g35 => ?_)
  have hw := hw σ35 g35
  refine ml_aload_n (pc := 148) X hl 0 rfl rfl dX12_init_148 ?_
  refine ml_bipush (pc := 149) X dX12_init_149 (by decide) ?_
  obtain ⟨z36, hw⟩ := hw
  refine ml_newA (n0 := 215) (kc := 17) (ks := 3383) (pc := 151) (k := 233) X hs .byte .byte 2 100 tw_1_85 rfl rfl (fun _ _ h => h) (100, .inl (fun _ => 0)) (fun _ => rfl) (by omega) (by omega) (by decide +kernel) (fun f hf => by show _ = _; unfold ml_cell; simp only [hf]; rfl) z36 (by decide) (by decide) ⟨by decide, by decide⟩ dX12_init_151 ?_
  refine ml_putF (pc := 153) (x := 233) (k := 215) X hini in_X12 rfl (by decide) tk_X12 nmX12 28 (by decide) rfl rfl tw_4_219 (ml_k215 (by decide)) dX12_init_153 (ml_fvA (by omega)) (show (0 : Int) ≤ 233 by omega) rfl rfl (Or.inl (by omega)) (fun σ37 g37 => ?_)
  have hw := hw σ37 g37
  refine ml_aload_n (pc := 156) X hl 0 rfl rfl dX12_init_156 ?_
  refine ml_bipush (pc := 157) X dX12_init_157 (by decide) ?_
  obtain ⟨z38, hw⟩ := hw
  refine ml_newA (n0 := 215) (kc := 18) (ks := 3483) (pc := 159) (k := 234) X hs .boolean .boolean 3 10 tw_5_138 rfl rfl (fun _ _ h => h) (10, .inl (fun _ => 0)) (fun _ => rfl) (by omega) (by omega) (by decide +kernel) (fun f hf => by show _ = _; unfold ml_cell; simp only [hf]; rfl) z38 (by decide) (by decide) ⟨by decide, by decide⟩ dX12_init_159 ?_
  refine ml_putF (pc := 161) (x := 234) (k := 215) X hini in_X12 rfl (by decide) tk_X12 nmX12 29 (by decide) rfl rfl tw_4_220 (ml_k215 (by decide)) dX12_init_161 (ml_fvA (by omega)) (show (0 : Int) ≤ 234 by omega) rfl rfl (Or.inl (by omega)) (fun σ39 g39 => ?_)
  have hw := hw σ39 g39
  refine ml_aload_n (pc := 164) X hl 0 rfl rfl dX12_init_164 ?_
  refine ml_sipush (pc := 165) X dX12_init_165 (by decide) ?_
  obtain ⟨z40, hw⟩ := hw
  refine ml_newA (n0 := 215) (kc := 19) (ks := 3493) (pc := 168) (k := 235) X hs .long .long 4 1000 tw_1_165 rfl rfl (fun _ _ h => h) (1000, .inr (.inl (fun _ => 0))) (fun _ => rfl) (by omega) (by omega) (by decide +kernel) (fun f hf => by show _ = _; unfold ml_cell; simp only [hf]; rfl) z40 (by decide) (by decide) ⟨by decide, by decide⟩ dX12_init_168 ?_
  refine ml_putF (pc := 170) (x := 235) (k := 215) X hini in_X12 rfl (by decide) tk_X12 nmX12 30 (by decide) rfl rfl tw_4_221 (ml_k215 (by decide)) dX12_init_170 (ml_fvA (by omega)) (show (0 : Int) ≤ 235 by omega) rfl rfl (Or.inl (by omega)) (fun σ41 g41 => ?_)
  have hw := hw σ41 g41
  refine ml_aload_n (pc := 173) X hl 0 rfl rfl dX12_init_173 ?_
  refine ml_sipush (pc := 174) X dX12_init_174 (by decide) ?_
  obtain ⟨z42, hw⟩ := hw
  refine ml_newA (n0 := 215) (kc := 20) (ks := 4493) (pc := 177) (k := 236) X hs .long .long 4 2900 tw_1_165 rfl rfl (fun _ _ h => h) (2900, .inr (.inl (fun _ => 0))) (fun _ => rfl) (by omega) (by omega) (by decide +kernel) (fun f hf => by show _ = _; unfold ml_cell; simp only [hf]; rfl) z42 (by decide) (by decide) ⟨by decide, by decide⟩ dX12_init_177 ?_
  refine ml_putF (pc := 179) (x := 236) (k := 215) X hini in_X12 rfl (by decide) tk_X12 nmX12 31 (by decide) rfl rfl tw_4_222 (ml_k215 (by decide)) dX12_init_179 (ml_fvA (by omega)) (show (0 : Int) ≤ 236 by omega) rfl rfl (Or.inl (by omega)) (fun σ43 g43 => ?_)
  have hw := hw σ43 g43
  refine ml_aload_n (pc := 182) X hl 0 rfl rfl dX12_init_182 ?_
  refine ml_bipush (pc := 183) X dX12_init_183 (by decide) ?_
  obtain ⟨z44, hw⟩ := hw
  refine ml_newA (n0 := 215) (kc := 21) (ks := 7393) (pc := 185) (k := 237) X hs .int .int 1 6 tw_1_42 rfl rfl (fun _ _ h => h) (6, .inl (fun _ => 0)) (fun _ => rfl) (by omega) (by omega) (by decide +kernel) (fun f hf => by show _ = _; unfold ml_cell; simp only [hf]; rfl) z44 (by decide) (by decide) ⟨by decide, by decide⟩ dX12_init_185 ?_
  refine ml_putF (pc := 187) (x := 237) (k := 215) X hini in_X12 rfl (by decide) tk_X12 nmX12 40 (by decide) rfl rfl tw_4_231 (ml_k215 (by decide)) dX12_init_187 (ml_fvA (by omega)) (show (0 : Int) ≤ 237 by omega) rfl rfl (Or.inl (by omega)) (fun σ45 g45 => ?_)
  have hw := hw σ45 g45
  refine ml_aload_n (pc := 190) X hl 0 rfl rfl dX12_init_190 ?_
  refine ml_sipush (pc := 191) X dX12_init_191 (by decide) ?_
  obtain ⟨z46, hw⟩ := hw
  refine ml_newA (n0 := 215) (kc := 22) (ks := 7399) (pc := 194) (k := 238) X hs .long .long 4 950 tw_1_165 rfl rfl (fun _ _ h => h) (950, .inr (.inl (fun _ => 0))) (fun _ => rfl) (by omega) (by omega) (by decide +kernel) (fun f hf => by show _ = _; unfold ml_cell; simp only [hf]; rfl) z46 (by decide) (by decide) ⟨by decide, by decide⟩ dX12_init_194 ?_
  refine ml_putF (pc := 196) (x := 238) (k := 215) X hini in_X12 rfl (by decide) tk_X12 nmX12 41 (by decide) rfl rfl tw_4_232 (ml_k215 (by decide)) dX12_init_196 (ml_fvA (by omega)) (show (0 : Int) ≤ 238 by omega) rfl rfl (Or.inl (by omega)) (fun σ47 g47 => ?_)
  have hw := hw σ47 g47
  refine ml_aload_n (pc := 199) X hl 0 rfl rfl dX12_init_199 ?_
  refine ml_sipush (pc := 200) X dX12_init_200 (by decide) ?_
  obtain ⟨z48, hw⟩ := hw
  refine ml_newA (n0 := 215) (kc := 23) (ks := 8349) (pc := 203) (k := 239) X hs .byte .byte 2 9500 tw_1_85 rfl rfl (fun _ _ h => h) (9500, .inl (fun _ => 0)) (fun _ => rfl) (by omega) (by omega) (by decide +kernel) (fun f hf => by show _ = _; unfold ml_cell; simp only [hf]; rfl) z48 (by decide) (by decide) ⟨by decide, by decide⟩ dX12_init_203 ?_
  refine ml_putF (pc := 205) (x := 239) (k := 215) X hini in_X12 rfl (by decide) tk_X12 nmX12 42 (by decide) rfl rfl tw_4_233 (ml_k215 (by decide)) dX12_init_205 (ml_fvA (by omega)) (show (0 : Int) ≤ 239 by omega) rfl rfl (Or.inl (by omega)) (fun σ49 g49 => ?_)
  have hw := hw σ49 g49
  refine ml_aload_n (pc := 208) X hl 0 rfl rfl dX12_init_208 ?_
  refine ml_sipush (pc := 209) X dX12_init_209 (by decide) ?_
  obtain ⟨z50, hw⟩ := hw
  refine ml_newA (n0 := 215) (kc := 24) (ks := 17849) (pc := 212) (k := 240) X hs .int .int 1 5700 tw_1_42 rfl rfl (fun _ _ h => h) (5700, .inl (fun _ => 0)) (fun _ => rfl) (by omega) (by omega) (by decide +kernel) (fun f hf => by show _ = _; unfold ml_cell; simp only [hf]; rfl) z50 (by decide) (by decide) ⟨by decide, by decide⟩ dX12_init_212 ?_
  refine ml_putF (pc := 214) (x := 240) (k := 215) X hini in_X12 rfl (by decide) tk_X12 nmX12 43 (by decide) rfl rfl tw_4_234 (ml_k215 (by decide)) dX12_init_214 (ml_fvA (by omega)) (show (0 : Int) ≤ 240 by omega) rfl rfl (Or.inl (by omega)) (fun σ51 g51 => ?_)
  have hw := hw σ51 g51
  refine ml_aload_n (pc := 217) X hl 0 rfl rfl dX12_init_217 ?_
  refine ml_sipush (pc := 218) X dX12_init_218 (by decide) ?_
  obtain ⟨z52, hw⟩ := hw
  refine ml_newA (n0 := 215) (kc := 25) (ks := 23549) (pc := 221) (k := 241) X hs .int .int 1 5700 tw_1_42 rfl rfl (fun _ _ h => h) (5700, .inl (fun _ => 0)) (fun _ => rfl) (by omega) (by omega) (by decide +kernel) (fun f hf => by show _ = _; unfold ml_cell; simp only [hf]; rfl) z52 (by decide) (by decide) ⟨by decide, by decide⟩ dX12_init_221 ?_
  refine ml_putF (pc := 223) (x := 241) (k := 215) X hini in_X12 rfl (by decide) tk_X12 nmX12 44 (by decide) rfl rfl tw_4_235 (ml_k215 (by decide)) dX12_init_223 (ml_fvA (by omega)) (show (0 : Int) ≤ 241 by omega) rfl rfl (Or.inl (by omega)) (fun σ53 g53 => ?_)
  have hw := hw σ53 g53
  refine ml_aload_n (pc := 226) X hl 0 rfl rfl dX12_init_226 ?_
  refine ml_bipush (pc := 227) X dX12_init_227 (by decide) ?_
  obtain ⟨z54, hw⟩ := hw
  refine ml_newA (n0 := 215) (kc := 26) (ks := 29249) (pc := 229) (k := 242) X hs .int .int 1 6 tw_1_42 rfl rfl (fun _ _ h => h) (6, .inl (fun _ => 0)) (fun _ => rfl) (by omega) (by omega) (by decide +kernel) (fun f hf => by show _ = _; unfold ml_cell; simp only [hf]; rfl) z54 (by decide) (by decide) ⟨by decide, by decide⟩ dX12_init_229 ?_
  refine ml_putF (pc := 231) (x := 242) (k := 215) X hini in_X12 rfl (by decide) tk_X12 nmX12 45 (by decide) rfl rfl tw_4_236 (ml_k215 (by decide)) dX12_init_231 (ml_fvA (by omega)) (show (0 : Int) ≤ 242 by omega) rfl rfl (Or.inl (by omega)) (fun σ55 g55 => ?_)
  have hw := hw σ55 g55
  refine ml_aload_n (pc := 234) X hl 0 rfl rfl dX12_init_234 ?_
  refine ml_sipush (pc := 235) X dX12_init_235 (by decide) ?_
  obtain ⟨z56, hw⟩ := hw
  refine ml_newA (n0 := 215) (kc := 27) (ks := 29255) (pc := 238) (k := 243) X hs .int .int 1 950 tw_1_42 rfl rfl (fun _ _ h => h) (950, .inl (fun _ => 0)) (fun _ => rfl) (by omega) (by omega) (by decide +kernel) (fun f hf => by show _ = _; unfold ml_cell; simp only [hf]; rfl) z56 (by decide) (by decide) ⟨by decide, by decide⟩ dX12_init_238 ?_
  refine ml_putF (pc := 240) (x := 243) (k := 215) X hini in_X12 rfl (by decide) tk_X12 nmX12 46 (by decide) rfl rfl tw_4_237 (ml_k215 (by decide)) dX12_init_240 (ml_fvA (by omega)) (show (0 : Int) ≤ 243 by omega) rfl rfl (Or.inl (by omega)) (fun σ57 g57 => ?_)
  have hw := hw σ57 g57
  refine ml_aload_n (pc := 243) X hl 0 rfl rfl dX12_init_243 ?_
  refine ml_sipush (pc := 244) X dX12_init_244 (by decide) ?_
  obtain ⟨z58, hw⟩ := hw
  refine ml_newA (n0 := 215) (kc := 28) (ks := 30205) (pc := 247) (k := 244) X hs .long .long 4 3800 tw_1_165 rfl rfl (fun _ _ h => h) (3800, .inr (.inl (fun _ => 0))) (fun _ => rfl) (by omega) (by omega) (by decide +kernel) (fun f hf => by show _ = _; unfold ml_cell; simp only [hf]; rfl) z58 (by decide) (by decide) ⟨by decide, by decide⟩ dX12_init_247 ?_
  refine ml_putF (pc := 249) (x := 244) (k := 215) X hini in_X12 rfl (by decide) tk_X12 nmX12 47 (by decide) rfl rfl tw_4_238 (ml_k215 (by decide)) dX12_init_249 (ml_fvA (by omega)) (show (0 : Int) ≤ 244 by omega) rfl rfl (Or.inl (by omega)) (fun σ59 g59 => ?_)
  have hw := hw σ59 g59
  refine ml_aload_n (pc := 252) X hl 0 rfl rfl dX12_init_252 ?_
  refine ml_sipush (pc := 253) X dX12_init_253 (by decide) ?_
  obtain ⟨z60, hw⟩ := hw
  refine ml_newA (n0 := 215) (kc := 29) (ks := 34005) (pc := 256) (k := 245) X hs .long .long 4 3800 tw_1_165 rfl rfl (fun _ _ h => h) (3800, .inr (.inl (fun _ => 0))) (fun _ => rfl) (by omega) (by omega) (by decide +kernel) (fun f hf => by show _ = _; unfold ml_cell; simp only [hf]; rfl) z60 (by decide) (by decide) ⟨by decide, by decide⟩ dX12_init_256 ?_
  refine ml_putF (pc := 258) (x := 245) (k := 215) X hini in_X12 rfl (by decide) tk_X12 nmX12 48 (by decide) rfl rfl tw_4_239 (ml_k215 (by decide)) dX12_init_258 (ml_fvA (by omega)) (show (0 : Int) ≤ 245 by omega) rfl rfl (Or.inl (by omega)) (fun σ61 g61 => ?_)
  have hw := hw σ61 g61
  refine ml_aload_n (pc := 261) X hl 0 rfl rfl dX12_init_261 ?_
  refine ml_sipush (pc := 262) X dX12_init_262 (by decide) ?_
  obtain ⟨z62, hw⟩ := hw
  refine ml_newA (n0 := 215) (kc := 30) (ks := 37805) (pc := 265) (k := 246) X hs .boolean .boolean 3 3800 tw_5_138 rfl rfl (fun _ _ h => h) (3800, .inl (fun _ => 0)) (fun _ => rfl) (by omega) (by omega) (by decide +kernel) (fun f hf => by show _ = _; unfold ml_cell; simp only [hf]; rfl) z62 (by decide) (by decide) ⟨by decide, by decide⟩ dX12_init_265 ?_
  refine ml_putF (pc := 267) (x := 246) (k := 215) X hini in_X12 rfl (by decide) tk_X12 nmX12 49 (by decide) rfl rfl tw_5_0 (ml_k215 (by decide)) dX12_init_267 (ml_fvA (by omega)) (show (0 : Int) ≤ 246 by omega) rfl rfl (Or.inl (by omega)) (fun σ63 g63 => ?_)
  have hw := hw σ63 g63
  refine ml_aload_n (pc := 270) X hl 0 rfl rfl dX12_init_270 ?_
  refine ml_sipush (pc := 271) X dX12_init_271 (by decide) ?_
  obtain ⟨z64, hw⟩ := hw
  refine ml_newA (n0 := 215) (kc := 31) (ks := 41605) (pc := 274) (k := 247) X hs .int .int 1 3800 tw_1_42 rfl rfl (fun _ _ h => h) (3800, .inl (fun _ => 0)) (fun _ => rfl) (by omega) (by omega) (by decide +kernel) (fun f hf => by show _ = _; unfold ml_cell; simp only [hf]; rfl) z64 (by decide) (by decide) ⟨by decide, by decide⟩ dX12_init_274 ?_
  refine ml_putF (pc := 276) (x := 247) (k := 215) X hini in_X12 rfl (by decide) tk_X12 nmX12 50 (by decide) rfl rfl tw_5_1 (ml_k215 (by decide)) dX12_init_276 (ml_fvA (by omega)) (show (0 : Int) ≤ 247 by omega) rfl rfl (Or.inl (by omega)) (fun σ65 g65 => ?_)
  have hw := hw σ65 g65
  refine ml_aload_n (pc := 279) X hl 0 rfl rfl dX12_init_279 ?_
  refine ml_sipush (pc := 280) X dX12_init_280 (by decide) ?_
  obtain ⟨z66, hw⟩ := hw
  refine ml_newA (n0 := 215) (kc := 32) (ks := 45405) (pc := 283) (k := 248) X hs .int .int 1 3800 tw_1_42 rfl rfl (fun _ _ h => h) (3800, .inl (fun _ => 0)) (fun _ => rfl) (by omega) (by omega) (by decide +kernel) (fun f hf => by show _ = _; unfold ml_cell; simp only [hf]; rfl) z66 (by decide) (by decide) ⟨by decide, by decide⟩ dX12_init_283 ?_
  refine ml_putF (pc := 285) (x := 248) (k := 215) X hini in_X12 rfl (by decide) tk_X12 nmX12 51 (by decide) rfl rfl tw_5_2 (ml_k215 (by decide)) dX12_init_285 (ml_fvA (by omega)) (show (0 : Int) ≤ 248 by omega) rfl rfl (Or.inl (by omega)) (fun σ67 g67 => ?_)
  have hw := hw σ67 g67
  refine ml_aload_n (pc := 288) X hl 0 rfl rfl dX12_init_288 ?_
  refine ml_sipush (pc := 289) X dX12_init_289 (by decide) ?_
  obtain ⟨z68, hw⟩ := hw
  refine ml_newA (n0 := 215) (kc := 33) (ks := 49205) (pc := 292) (k := 249) X hs .int .int 1 3800 tw_1_42 rfl rfl (fun _ _ h => h) (3800, .inl (fun _ => 0)) (fun _ => rfl) (by omega) (by omega) (by decide +kernel) (fun f hf => by show _ = _; unfold ml_cell; simp only [hf]; rfl) z68 (by decide) (by decide) ⟨by decide, by decide⟩ dX12_init_292 ?_
  refine ml_putF (pc := 294) (x := 249) (k := 215) X hini in_X12 rfl (by decide) tk_X12 nmX12 52 (by decide) rfl rfl tw_5_3 (ml_k215 (by decide)) dX12_init_294 (ml_fvA (by omega)) (show (0 : Int) ≤ 249 by omega) rfl rfl (Or.inl (by omega)) (fun σ69 g69 => ?_)
  have hw := hw σ69 g69
  refine ml_aload_n (pc := 297) X hl 0 rfl rfl dX12_init_297 ?_
  refine ml_sipush (pc := 298) X dX12_init_298 (by decide) ?_
  obtain ⟨z70, hw⟩ := hw
  refine ml_newA (n0 := 215) (kc := 34) (ks := 53005) (pc := 301) (k := 250) X hs .int .int 1 950 tw_1_42 rfl rfl (fun _ _ h => h) (950, .inl (fun _ => 0)) (fun _ => rfl) (by omega) (by omega) (by decide +kernel) (fun f hf => by show _ = _; unfold ml_cell; simp only [hf]; rfl) z70 (by decide) (by decide) ⟨by decide, by decide⟩ dX12_init_301 ?_
  refine ml_putF (pc := 303) (x := 250) (k := 215) X hini in_X12 rfl (by decide) tk_X12 nmX12 54 (by decide) rfl rfl tw_5_5 (ml_k215 (by decide)) dX12_init_303 (ml_fvA (by omega)) (show (0 : Int) ≤ 250 by omega) rfl rfl (Or.inl (by omega)) (fun σ71 g71 => ?_)
  have hw := hw σ71 g71
  refine ml_aload_n (pc := 306) X hl 0 rfl rfl dX12_init_306 ?_
  refine ml_sipush (pc := 307) X dX12_init_307 (by decide) ?_
  obtain ⟨z72, hw⟩ := hw
  refine ml_newA (n0 := 215) (kc := 35) (ks := 53955) (pc := 310) (k := 251) X hs .int .int 1 950 tw_1_42 rfl rfl (fun _ _ h => h) (950, .inl (fun _ => 0)) (fun _ => rfl) (by omega) (by omega) (by decide +kernel) (fun f hf => by show _ = _; unfold ml_cell; simp only [hf]; rfl) z72 (by decide) (by decide) ⟨by decide, by decide⟩ dX12_init_310 ?_
  refine ml_putF (pc := 312) (x := 251) (k := 215) X hini in_X12 rfl (by decide) tk_X12 nmX12 55 (by decide) rfl rfl tw_5_6 (ml_k215 (by decide)) dX12_init_312 (ml_fvA (by omega)) (show (0 : Int) ≤ 251 by omega) rfl rfl (Or.inl (by omega)) (fun σ73 g73 => ?_)
  have hw := hw σ73 g73
  refine ml_aload_n (pc := 315) X hl 0 rfl rfl dX12_init_315 ?_
  refine ml_bipush (pc := 316) X dX12_init_316 (by decide) ?_
  obtain ⟨z74, hw⟩ := hw
  refine ml_newA (n0 := 215) (kc := 36) (ks := 54905) (pc := 318) (k := 252) X hs .int .int 1 10 tw_1_42 rfl rfl (fun _ _ h => h) (10, .inl (fun _ => 0)) (fun _ => rfl) (by omega) (by omega) (by decide +kernel) (fun f hf => by show _ = _; unfold ml_cell; simp only [hf]; rfl) z74 (by decide) (by decide) ⟨by decide, by decide⟩ dX12_init_318 ?_
  refine ml_putF (pc := 320) (x := 252) (k := 215) X hini in_X12 rfl (by decide) tk_X12 nmX12 56 (by decide) rfl rfl tw_5_7 (ml_k215 (by decide)) dX12_init_320 (ml_fvA (by omega)) (show (0 : Int) ≤ 252 by omega) rfl rfl (Or.inl (by omega)) (fun σ75 g75 => ?_)
  have hw := hw σ75 g75
  refine ml_aload_n (pc := 323) X hl 0 rfl rfl dX12_init_323 ?_
  refine ml_bipush (pc := 324) X dX12_init_324 (by decide) ?_
  obtain ⟨z76, hw⟩ := hw
  refine ml_newA (n0 := 215) (kc := 37) (ks := 54915) (pc := 326) (k := 253) X hs .int .int 1 10 tw_1_42 rfl rfl (fun _ _ h => h) (10, .inl (fun _ => 0)) (fun _ => rfl) (by omega) (by omega) (by decide +kernel) (fun f hf => by show _ = _; unfold ml_cell; simp only [hf]; rfl) z76 (by decide) (by decide) ⟨by decide, by decide⟩ dX12_init_326 ?_
  refine ml_putF (pc := 328) (x := 253) (k := 215) X hini in_X12 rfl (by decide) tk_X12 nmX12 57 (by decide) rfl rfl tw_5_8 (ml_k215 (by decide)) dX12_init_328 (ml_fvA (by omega)) (show (0 : Int) ≤ 253 by omega) rfl rfl (Or.inl (by omega)) (fun σ77 g77 => ?_)
  have hw := hw σ77 g77
  refine ml_aload_n (pc := 331) X hl 0 rfl rfl dX12_init_331 ?_
  refine ml_sipush (pc := 332) X dX12_init_332 (by decide) ?_
  obtain ⟨z78, hw⟩ := hw
  refine ml_newA (n0 := 215) (kc := 38) (ks := 54925) (pc := 335) (k := 254) X hs .byte .byte 2 32000 tw_1_85 rfl rfl (fun _ _ h => h) (32000, .inl (fun _ => 0)) (fun _ => rfl) (by omega) (by omega) (by decide +kernel) (fun f hf => by show _ = _; unfold ml_cell; simp only [hf]; rfl) z78 (by decide) (by decide) ⟨by decide, by decide⟩ dX12_init_335 ?_
  refine ml_putF (pc := 337) (x := 254) (k := 215) X hini in_X12 rfl (by decide) tk_X12 nmX12 58 (by decide) rfl rfl tw_5_9 (ml_k215 (by decide)) dX12_init_337 (ml_fvA (by omega)) (show (0 : Int) ≤ 254 by omega) rfl rfl (Or.inl (by omega)) (fun σ79 g79 => ?_)
  have hw := hw σ79 g79
  refine ml_aload_n (pc := 340) X hl 0 rfl rfl dX12_init_340 ?_
  refine ml_bipush (pc := 341) X dX12_init_341 (by decide) ?_
  obtain ⟨z80, hw⟩ := hw
  refine ml_newA (n0 := 215) (kc := 39) (ks := 86925) (pc := 343) (k := 255) X hs .int .int 1 16 tw_1_42 rfl rfl (fun _ _ h => h) (16, .inl (fun _ => 0)) (fun _ => rfl) (by omega) (by omega) (by decide +kernel) (fun f hf => by show _ = _; unfold ml_cell; simp only [hf]; rfl) z80 (by decide) (by decide) ⟨by decide, by decide⟩ dX12_init_343 ?_
  refine ml_putF (pc := 345) (x := 255) (k := 215) X hini in_X12 rfl (by decide) tk_X12 nmX12 59 (by decide) rfl rfl tw_5_10 (ml_k215 (by decide)) dX12_init_345 (ml_fvA (by omega)) (show (0 : Int) ≤ 255 by omega) rfl rfl (Or.inl (by omega)) (fun σ81 g81 => ?_)
  have hw := hw σ81 g81
  refine ml_aload_n (pc := 348) X hl 0 rfl rfl dX12_init_348 ?_
  refine ml_bipush (pc := 349) X dX12_init_349 (by decide) ?_
  obtain ⟨z82, hw⟩ := hw
  refine ml_newA (n0 := 215) (kc := 40) (ks := 86941) (pc := 351) (k := 256) X hs .int .int 1 8 tw_1_42 rfl rfl (fun _ _ h => h) (8, .inl (fun _ => 0)) (fun _ => rfl) (by omega) (by omega) (by decide +kernel) (fun f hf => by show _ = _; unfold ml_cell; simp only [hf]; rfl) z82 (by decide) (by decide) ⟨by decide, by decide⟩ dX12_init_351 ?_
  refine ml_putF (pc := 353) (x := 256) (k := 215) X hini in_X12 rfl (by decide) tk_X12 nmX12 60 (by decide) rfl rfl tw_5_11 (ml_k215 (by decide)) dX12_init_353 (ml_fvA (by omega)) (show (0 : Int) ≤ 256 by omega) rfl rfl (Or.inl (by omega)) (fun σ83 g83 => ?_)
  have hw := hw σ83 g83
  refine ml_iconst (pc := 356) X dX12_init_356 ?_
  refine ml_istore_n (pc := 357) X rfl hl (by decide) (lst' := [(1, .int (Int32.ofInt 0)), (0, .ref (base + (215 : Int).toNat))]) rfl dX12_init_357 (fun ls hl => ?_)
  refine ml_iload_n (pc := 358) X hl 0 rfl rfl dX12_init_358 ?_
  refine ml_bipush (pc := 359) X dX12_init_359 (by decide) ?_
  refine ml_icmp_ge (pc := 361) (tgt := 377) X ⟨by decide, by decide⟩ ⟨by decide, by decide⟩ dX12_init_361 (by decide) (fun c84 => absurd c84 (by decide)) (fun c84 => ?_)
  refine ml_aload_n (pc := 364) X hl 1 rfl rfl dX12_init_364 ?_
  obtain ⟨e85, hw⟩ := hw
  refine ml_getg (pc := 365) (k := 215) X in_X12 rfl (by decide) 8 (by decide) tw_4_199 (ml_k215 (by decide)) dX12_init_365 (v := .ref (base + (220 : Int).toNat)) (fun _ => by show (if σ83 215 8 = 0 then Value.null else .ref (base + (σ83 215 8).toNat)) = _; rw [e85]; exact if_neg (by omega)) (fun _ => ?_)
  refine ml_iload_n (pc := 368) X hl 0 rfl rfl dX12_init_368 ?_
  refine ml_iconst (pc := 369) X dX12_init_369 ?_
  refine ml_iast (pc := 370) (k := 220) (i := 0) (v := 1) (N := 16) X (ml_k220 (by decide)) (by decide) (by decide) ⟨by decide, by decide⟩ dX12_init_370 (fun σ86 g86 => ?_)
  have hw := hw σ86 g86
  refine ml_iinc (pc := 371) X (x := 0) (y := 1) (by decide) hl 0 rfl (by decide) (lst' := [(1, .int (Int32.ofInt 1)), (0, .ref (base + (215 : Int).toNat))]) rfl dX12_init_371 (fun ls hl => ?_)
  refine ml_goto (pc := 374) (tgt := 358) X dX12_init_374 (by decide) ?_
  refine ml_iload_n (pc := 358) X hl 0 rfl rfl dX12_init_358 ?_
  refine ml_bipush (pc := 359) X dX12_init_359 (by decide) ?_
  refine ml_icmp_ge (pc := 361) (tgt := 377) X ⟨by decide, by decide⟩ ⟨by decide, by decide⟩ dX12_init_361 (by decide) (fun c87 => absurd c87 (by decide)) (fun c87 => ?_)
  refine ml_aload_n (pc := 364) X hl 1 rfl rfl dX12_init_364 ?_
  obtain ⟨e88, hw⟩ := hw
  refine ml_getg (pc := 365) (k := 215) X in_X12 rfl (by decide) 8 (by decide) tw_4_199 (ml_k215 (by decide)) dX12_init_365 (v := .ref (base + (220 : Int).toNat)) (fun _ => by show (if σ86 215 8 = 0 then Value.null else .ref (base + (σ86 215 8).toNat)) = _; rw [e88]; exact if_neg (by omega)) (fun _ => ?_)
  refine ml_iload_n (pc := 368) X hl 0 rfl rfl dX12_init_368 ?_
  refine ml_iconst (pc := 369) X dX12_init_369 ?_
  refine ml_iast (pc := 370) (k := 220) (i := 1) (v := 1) (N := 16) X (ml_k220 (by decide)) (by decide) (by decide) ⟨by decide, by decide⟩ dX12_init_370 (fun σ89 g89 => ?_)
  have hw := hw σ89 g89
  refine ml_iinc (pc := 371) X (x := 1) (y := 2) (by decide) hl 0 rfl (by decide) (lst' := [(1, .int (Int32.ofInt 2)), (0, .ref (base + (215 : Int).toNat))]) rfl dX12_init_371 (fun ls hl => ?_)
  refine ml_goto (pc := 374) (tgt := 358) X dX12_init_374 (by decide) ?_
  refine ml_iload_n (pc := 358) X hl 0 rfl rfl dX12_init_358 ?_
  refine ml_bipush (pc := 359) X dX12_init_359 (by decide) ?_
  refine ml_icmp_ge (pc := 361) (tgt := 377) X ⟨by decide, by decide⟩ ⟨by decide, by decide⟩ dX12_init_361 (by decide) (fun c90 => absurd c90 (by decide)) (fun c90 => ?_)
  refine ml_aload_n (pc := 364) X hl 1 rfl rfl dX12_init_364 ?_
  obtain ⟨e91, hw⟩ := hw
  refine ml_getg (pc := 365) (k := 215) X in_X12 rfl (by decide) 8 (by decide) tw_4_199 (ml_k215 (by decide)) dX12_init_365 (v := .ref (base + (220 : Int).toNat)) (fun _ => by show (if σ89 215 8 = 0 then Value.null else .ref (base + (σ89 215 8).toNat)) = _; rw [e91]; exact if_neg (by omega)) (fun _ => ?_)
  refine ml_iload_n (pc := 368) X hl 0 rfl rfl dX12_init_368 ?_
  refine ml_iconst (pc := 369) X dX12_init_369 ?_
  refine ml_iast (pc := 370) (k := 220) (i := 2) (v := 1) (N := 16) X (ml_k220 (by decide)) (by decide) (by decide) ⟨by decide, by decide⟩ dX12_init_370 (fun σ92 g92 => ?_)
  have hw := hw σ92 g92
  refine ml_iinc (pc := 371) X (x := 2) (y := 3) (by decide) hl 0 rfl (by decide) (lst' := [(1, .int (Int32.ofInt 3)), (0, .ref (base + (215 : Int).toNat))]) rfl dX12_init_371 (fun ls hl => ?_)
  refine ml_goto (pc := 374) (tgt := 358) X dX12_init_374 (by decide) ?_
  refine ml_iload_n (pc := 358) X hl 0 rfl rfl dX12_init_358 ?_
  refine ml_bipush (pc := 359) X dX12_init_359 (by decide) ?_
  refine ml_icmp_ge (pc := 361) (tgt := 377) X ⟨by decide, by decide⟩ ⟨by decide, by decide⟩ dX12_init_361 (by decide) (fun c93 => absurd c93 (by decide)) (fun c93 => ?_)
  refine ml_aload_n (pc := 364) X hl 1 rfl rfl dX12_init_364 ?_
  obtain ⟨e94, hw⟩ := hw
  refine ml_getg (pc := 365) (k := 215) X in_X12 rfl (by decide) 8 (by decide) tw_4_199 (ml_k215 (by decide)) dX12_init_365 (v := .ref (base + (220 : Int).toNat)) (fun _ => by show (if σ92 215 8 = 0 then Value.null else .ref (base + (σ92 215 8).toNat)) = _; rw [e94]; exact if_neg (by omega)) (fun _ => ?_)
  refine ml_iload_n (pc := 368) X hl 0 rfl rfl dX12_init_368 ?_
  refine ml_iconst (pc := 369) X dX12_init_369 ?_
  refine ml_iast (pc := 370) (k := 220) (i := 3) (v := 1) (N := 16) X (ml_k220 (by decide)) (by decide) (by decide) ⟨by decide, by decide⟩ dX12_init_370 (fun σ95 g95 => ?_)
  have hw := hw σ95 g95
  refine ml_iinc (pc := 371) X (x := 3) (y := 4) (by decide) hl 0 rfl (by decide) (lst' := [(1, .int (Int32.ofInt 4)), (0, .ref (base + (215 : Int).toNat))]) rfl dX12_init_371 (fun ls hl => ?_)
  refine ml_goto (pc := 374) (tgt := 358) X dX12_init_374 (by decide) ?_
  refine ml_iload_n (pc := 358) X hl 0 rfl rfl dX12_init_358 ?_
  refine ml_bipush (pc := 359) X dX12_init_359 (by decide) ?_
  refine ml_icmp_ge (pc := 361) (tgt := 377) X ⟨by decide, by decide⟩ ⟨by decide, by decide⟩ dX12_init_361 (by decide) (fun c96 => absurd c96 (by decide)) (fun c96 => ?_)
  refine ml_aload_n (pc := 364) X hl 1 rfl rfl dX12_init_364 ?_
  obtain ⟨e97, hw⟩ := hw
  refine ml_getg (pc := 365) (k := 215) X in_X12 rfl (by decide) 8 (by decide) tw_4_199 (ml_k215 (by decide)) dX12_init_365 (v := .ref (base + (220 : Int).toNat)) (fun _ => by show (if σ95 215 8 = 0 then Value.null else .ref (base + (σ95 215 8).toNat)) = _; rw [e97]; exact if_neg (by omega)) (fun _ => ?_)
  refine ml_iload_n (pc := 368) X hl 0 rfl rfl dX12_init_368 ?_
  refine ml_iconst (pc := 369) X dX12_init_369 ?_
  refine ml_iast (pc := 370) (k := 220) (i := 4) (v := 1) (N := 16) X (ml_k220 (by decide)) (by decide) (by decide) ⟨by decide, by decide⟩ dX12_init_370 (fun σ98 g98 => ?_)
  have hw := hw σ98 g98
  refine ml_iinc (pc := 371) X (x := 4) (y := 5) (by decide) hl 0 rfl (by decide) (lst' := [(1, .int (Int32.ofInt 5)), (0, .ref (base + (215 : Int).toNat))]) rfl dX12_init_371 (fun ls hl => ?_)
  refine ml_goto (pc := 374) (tgt := 358) X dX12_init_374 (by decide) ?_
  refine ml_iload_n (pc := 358) X hl 0 rfl rfl dX12_init_358 ?_
  refine ml_bipush (pc := 359) X dX12_init_359 (by decide) ?_
  refine ml_icmp_ge (pc := 361) (tgt := 377) X ⟨by decide, by decide⟩ ⟨by decide, by decide⟩ dX12_init_361 (by decide) (fun c99 => absurd c99 (by decide)) (fun c99 => ?_)
  refine ml_aload_n (pc := 364) X hl 1 rfl rfl dX12_init_364 ?_
  obtain ⟨e100, hw⟩ := hw
  refine ml_getg (pc := 365) (k := 215) X in_X12 rfl (by decide) 8 (by decide) tw_4_199 (ml_k215 (by decide)) dX12_init_365 (v := .ref (base + (220 : Int).toNat)) (fun _ => by show (if σ98 215 8 = 0 then Value.null else .ref (base + (σ98 215 8).toNat)) = _; rw [e100]; exact if_neg (by omega)) (fun _ => ?_)
  refine ml_iload_n (pc := 368) X hl 0 rfl rfl dX12_init_368 ?_
  refine ml_iconst (pc := 369) X dX12_init_369 ?_
  refine ml_iast (pc := 370) (k := 220) (i := 5) (v := 1) (N := 16) X (ml_k220 (by decide)) (by decide) (by decide) ⟨by decide, by decide⟩ dX12_init_370 (fun σ101 g101 => ?_)
  have hw := hw σ101 g101
  refine ml_iinc (pc := 371) X (x := 5) (y := 6) (by decide) hl 0 rfl (by decide) (lst' := [(1, .int (Int32.ofInt 6)), (0, .ref (base + (215 : Int).toNat))]) rfl dX12_init_371 (fun ls hl => ?_)
  refine ml_goto (pc := 374) (tgt := 358) X dX12_init_374 (by decide) ?_
  refine ml_iload_n (pc := 358) X hl 0 rfl rfl dX12_init_358 ?_
  refine ml_bipush (pc := 359) X dX12_init_359 (by decide) ?_
  refine ml_icmp_ge (pc := 361) (tgt := 377) X ⟨by decide, by decide⟩ ⟨by decide, by decide⟩ dX12_init_361 (by decide) (fun c102 => absurd c102 (by decide)) (fun c102 => ?_)
  refine ml_aload_n (pc := 364) X hl 1 rfl rfl dX12_init_364 ?_
  obtain ⟨e103, hw⟩ := hw
  refine ml_getg (pc := 365) (k := 215) X in_X12 rfl (by decide) 8 (by decide) tw_4_199 (ml_k215 (by decide)) dX12_init_365 (v := .ref (base + (220 : Int).toNat)) (fun _ => by show (if σ101 215 8 = 0 then Value.null else .ref (base + (σ101 215 8).toNat)) = _; rw [e103]; exact if_neg (by omega)) (fun _ => ?_)
  refine ml_iload_n (pc := 368) X hl 0 rfl rfl dX12_init_368 ?_
  refine ml_iconst (pc := 369) X dX12_init_369 ?_
  refine ml_iast (pc := 370) (k := 220) (i := 6) (v := 1) (N := 16) X (ml_k220 (by decide)) (by decide) (by decide) ⟨by decide, by decide⟩ dX12_init_370 (fun σ104 g104 => ?_)
  have hw := hw σ104 g104
  refine ml_iinc (pc := 371) X (x := 6) (y := 7) (by decide) hl 0 rfl (by decide) (lst' := [(1, .int (Int32.ofInt 7)), (0, .ref (base + (215 : Int).toNat))]) rfl dX12_init_371 (fun ls hl => ?_)
  refine ml_goto (pc := 374) (tgt := 358) X dX12_init_374 (by decide) ?_
  refine ml_iload_n (pc := 358) X hl 0 rfl rfl dX12_init_358 ?_
  refine ml_bipush (pc := 359) X dX12_init_359 (by decide) ?_
  refine ml_icmp_ge (pc := 361) (tgt := 377) X ⟨by decide, by decide⟩ ⟨by decide, by decide⟩ dX12_init_361 (by decide) (fun c105 => absurd c105 (by decide)) (fun c105 => ?_)
  refine ml_aload_n (pc := 364) X hl 1 rfl rfl dX12_init_364 ?_
  obtain ⟨e106, hw⟩ := hw
  refine ml_getg (pc := 365) (k := 215) X in_X12 rfl (by decide) 8 (by decide) tw_4_199 (ml_k215 (by decide)) dX12_init_365 (v := .ref (base + (220 : Int).toNat)) (fun _ => by show (if σ104 215 8 = 0 then Value.null else .ref (base + (σ104 215 8).toNat)) = _; rw [e106]; exact if_neg (by omega)) (fun _ => ?_)
  refine ml_iload_n (pc := 368) X hl 0 rfl rfl dX12_init_368 ?_
  refine ml_iconst (pc := 369) X dX12_init_369 ?_
  refine ml_iast (pc := 370) (k := 220) (i := 7) (v := 1) (N := 16) X (ml_k220 (by decide)) (by decide) (by decide) ⟨by decide, by decide⟩ dX12_init_370 (fun σ107 g107 => ?_)
  have hw := hw σ107 g107
  refine ml_iinc (pc := 371) X (x := 7) (y := 8) (by decide) hl 0 rfl (by decide) (lst' := [(1, .int (Int32.ofInt 8)), (0, .ref (base + (215 : Int).toNat))]) rfl dX12_init_371 (fun ls hl => ?_)
  refine ml_goto (pc := 374) (tgt := 358) X dX12_init_374 (by decide) ?_
  refine ml_iload_n (pc := 358) X hl 0 rfl rfl dX12_init_358 ?_
  refine ml_bipush (pc := 359) X dX12_init_359 (by decide) ?_
  refine ml_icmp_ge (pc := 361) (tgt := 377) X ⟨by decide, by decide⟩ ⟨by decide, by decide⟩ dX12_init_361 (by decide) (fun c108 => absurd c108 (by decide)) (fun c108 => ?_)
  refine ml_aload_n (pc := 364) X hl 1 rfl rfl dX12_init_364 ?_
  obtain ⟨e109, hw⟩ := hw
  refine ml_getg (pc := 365) (k := 215) X in_X12 rfl (by decide) 8 (by decide) tw_4_199 (ml_k215 (by decide)) dX12_init_365 (v := .ref (base + (220 : Int).toNat)) (fun _ => by show (if σ107 215 8 = 0 then Value.null else .ref (base + (σ107 215 8).toNat)) = _; rw [e109]; exact if_neg (by omega)) (fun _ => ?_)
  refine ml_iload_n (pc := 368) X hl 0 rfl rfl dX12_init_368 ?_
  refine ml_iconst (pc := 369) X dX12_init_369 ?_
  refine ml_iast (pc := 370) (k := 220) (i := 8) (v := 1) (N := 16) X (ml_k220 (by decide)) (by decide) (by decide) ⟨by decide, by decide⟩ dX12_init_370 (fun σ110 g110 => ?_)
  have hw := hw σ110 g110
  refine ml_iinc (pc := 371) X (x := 8) (y := 9) (by decide) hl 0 rfl (by decide) (lst' := [(1, .int (Int32.ofInt 9)), (0, .ref (base + (215 : Int).toNat))]) rfl dX12_init_371 (fun ls hl => ?_)
  refine ml_goto (pc := 374) (tgt := 358) X dX12_init_374 (by decide) ?_
  refine ml_iload_n (pc := 358) X hl 0 rfl rfl dX12_init_358 ?_
  refine ml_bipush (pc := 359) X dX12_init_359 (by decide) ?_
  refine ml_icmp_ge (pc := 361) (tgt := 377) X ⟨by decide, by decide⟩ ⟨by decide, by decide⟩ dX12_init_361 (by decide) (fun c111 => absurd c111 (by decide)) (fun c111 => ?_)
  refine ml_aload_n (pc := 364) X hl 1 rfl rfl dX12_init_364 ?_
  obtain ⟨e112, hw⟩ := hw
  refine ml_getg (pc := 365) (k := 215) X in_X12 rfl (by decide) 8 (by decide) tw_4_199 (ml_k215 (by decide)) dX12_init_365 (v := .ref (base + (220 : Int).toNat)) (fun _ => by show (if σ110 215 8 = 0 then Value.null else .ref (base + (σ110 215 8).toNat)) = _; rw [e112]; exact if_neg (by omega)) (fun _ => ?_)
  refine ml_iload_n (pc := 368) X hl 0 rfl rfl dX12_init_368 ?_
  refine ml_iconst (pc := 369) X dX12_init_369 ?_
  refine ml_iast (pc := 370) (k := 220) (i := 9) (v := 1) (N := 16) X (ml_k220 (by decide)) (by decide) (by decide) ⟨by decide, by decide⟩ dX12_init_370 (fun σ113 g113 => ?_)
  have hw := hw σ113 g113
  refine ml_iinc (pc := 371) X (x := 9) (y := 10) (by decide) hl 0 rfl (by decide) (lst' := [(1, .int (Int32.ofInt 10)), (0, .ref (base + (215 : Int).toNat))]) rfl dX12_init_371 (fun ls hl => ?_)
  refine ml_goto (pc := 374) (tgt := 358) X dX12_init_374 (by decide) ?_
  refine ml_iload_n (pc := 358) X hl 0 rfl rfl dX12_init_358 ?_
  refine ml_bipush (pc := 359) X dX12_init_359 (by decide) ?_
  refine ml_icmp_ge (pc := 361) (tgt := 377) X ⟨by decide, by decide⟩ ⟨by decide, by decide⟩ dX12_init_361 (by decide) (fun c114 => absurd c114 (by decide)) (fun c114 => ?_)
  refine ml_aload_n (pc := 364) X hl 1 rfl rfl dX12_init_364 ?_
  obtain ⟨e115, hw⟩ := hw
  refine ml_getg (pc := 365) (k := 215) X in_X12 rfl (by decide) 8 (by decide) tw_4_199 (ml_k215 (by decide)) dX12_init_365 (v := .ref (base + (220 : Int).toNat)) (fun _ => by show (if σ113 215 8 = 0 then Value.null else .ref (base + (σ113 215 8).toNat)) = _; rw [e115]; exact if_neg (by omega)) (fun _ => ?_)
  refine ml_iload_n (pc := 368) X hl 0 rfl rfl dX12_init_368 ?_
  refine ml_iconst (pc := 369) X dX12_init_369 ?_
  refine ml_iast (pc := 370) (k := 220) (i := 10) (v := 1) (N := 16) X (ml_k220 (by decide)) (by decide) (by decide) ⟨by decide, by decide⟩ dX12_init_370 (fun σ116 g116 => ?_)
  have hw := hw σ116 g116
  refine ml_iinc (pc := 371) X (x := 10) (y := 11) (by decide) hl 0 rfl (by decide) (lst' := [(1, .int (Int32.ofInt 11)), (0, .ref (base + (215 : Int).toNat))]) rfl dX12_init_371 (fun ls hl => ?_)
  refine ml_goto (pc := 374) (tgt := 358) X dX12_init_374 (by decide) ?_
  refine ml_iload_n (pc := 358) X hl 0 rfl rfl dX12_init_358 ?_
  refine ml_bipush (pc := 359) X dX12_init_359 (by decide) ?_
  refine ml_icmp_ge (pc := 361) (tgt := 377) X ⟨by decide, by decide⟩ ⟨by decide, by decide⟩ dX12_init_361 (by decide) (fun c117 => absurd c117 (by decide)) (fun c117 => ?_)
  refine ml_aload_n (pc := 364) X hl 1 rfl rfl dX12_init_364 ?_
  obtain ⟨e118, hw⟩ := hw
  refine ml_getg (pc := 365) (k := 215) X in_X12 rfl (by decide) 8 (by decide) tw_4_199 (ml_k215 (by decide)) dX12_init_365 (v := .ref (base + (220 : Int).toNat)) (fun _ => by show (if σ116 215 8 = 0 then Value.null else .ref (base + (σ116 215 8).toNat)) = _; rw [e118]; exact if_neg (by omega)) (fun _ => ?_)
  refine ml_iload_n (pc := 368) X hl 0 rfl rfl dX12_init_368 ?_
  refine ml_iconst (pc := 369) X dX12_init_369 ?_
  refine ml_iast (pc := 370) (k := 220) (i := 11) (v := 1) (N := 16) X (ml_k220 (by decide)) (by decide) (by decide) ⟨by decide, by decide⟩ dX12_init_370 (fun σ119 g119 => ?_)
  have hw := hw σ119 g119
  refine ml_iinc (pc := 371) X (x := 11) (y := 12) (by decide) hl 0 rfl (by decide) (lst' := [(1, .int (Int32.ofInt 12)), (0, .ref (base + (215 : Int).toNat))]) rfl dX12_init_371 (fun ls hl => ?_)
  refine ml_goto (pc := 374) (tgt := 358) X dX12_init_374 (by decide) ?_
  refine ml_iload_n (pc := 358) X hl 0 rfl rfl dX12_init_358 ?_
  refine ml_bipush (pc := 359) X dX12_init_359 (by decide) ?_
  refine ml_icmp_ge (pc := 361) (tgt := 377) X ⟨by decide, by decide⟩ ⟨by decide, by decide⟩ dX12_init_361 (by decide) (fun c120 => absurd c120 (by decide)) (fun c120 => ?_)
  refine ml_aload_n (pc := 364) X hl 1 rfl rfl dX12_init_364 ?_
  obtain ⟨e121, hw⟩ := hw
  refine ml_getg (pc := 365) (k := 215) X in_X12 rfl (by decide) 8 (by decide) tw_4_199 (ml_k215 (by decide)) dX12_init_365 (v := .ref (base + (220 : Int).toNat)) (fun _ => by show (if σ119 215 8 = 0 then Value.null else .ref (base + (σ119 215 8).toNat)) = _; rw [e121]; exact if_neg (by omega)) (fun _ => ?_)
  refine ml_iload_n (pc := 368) X hl 0 rfl rfl dX12_init_368 ?_
  refine ml_iconst (pc := 369) X dX12_init_369 ?_
  refine ml_iast (pc := 370) (k := 220) (i := 12) (v := 1) (N := 16) X (ml_k220 (by decide)) (by decide) (by decide) ⟨by decide, by decide⟩ dX12_init_370 (fun σ122 g122 => ?_)
  have hw := hw σ122 g122
  refine ml_iinc (pc := 371) X (x := 12) (y := 13) (by decide) hl 0 rfl (by decide) (lst' := [(1, .int (Int32.ofInt 13)), (0, .ref (base + (215 : Int).toNat))]) rfl dX12_init_371 (fun ls hl => ?_)
  refine ml_goto (pc := 374) (tgt := 358) X dX12_init_374 (by decide) ?_
  refine ml_iload_n (pc := 358) X hl 0 rfl rfl dX12_init_358 ?_
  refine ml_bipush (pc := 359) X dX12_init_359 (by decide) ?_
  refine ml_icmp_ge (pc := 361) (tgt := 377) X ⟨by decide, by decide⟩ ⟨by decide, by decide⟩ dX12_init_361 (by decide) (fun c123 => absurd c123 (by decide)) (fun c123 => ?_)
  refine ml_aload_n (pc := 364) X hl 1 rfl rfl dX12_init_364 ?_
  obtain ⟨e124, hw⟩ := hw
  refine ml_getg (pc := 365) (k := 215) X in_X12 rfl (by decide) 8 (by decide) tw_4_199 (ml_k215 (by decide)) dX12_init_365 (v := .ref (base + (220 : Int).toNat)) (fun _ => by show (if σ122 215 8 = 0 then Value.null else .ref (base + (σ122 215 8).toNat)) = _; rw [e124]; exact if_neg (by omega)) (fun _ => ?_)
  refine ml_iload_n (pc := 368) X hl 0 rfl rfl dX12_init_368 ?_
  refine ml_iconst (pc := 369) X dX12_init_369 ?_
  refine ml_iast (pc := 370) (k := 220) (i := 13) (v := 1) (N := 16) X (ml_k220 (by decide)) (by decide) (by decide) ⟨by decide, by decide⟩ dX12_init_370 (fun σ125 g125 => ?_)
  have hw := hw σ125 g125
  refine ml_iinc (pc := 371) X (x := 13) (y := 14) (by decide) hl 0 rfl (by decide) (lst' := [(1, .int (Int32.ofInt 14)), (0, .ref (base + (215 : Int).toNat))]) rfl dX12_init_371 (fun ls hl => ?_)
  refine ml_goto (pc := 374) (tgt := 358) X dX12_init_374 (by decide) ?_
  refine ml_iload_n (pc := 358) X hl 0 rfl rfl dX12_init_358 ?_
  refine ml_bipush (pc := 359) X dX12_init_359 (by decide) ?_
  refine ml_icmp_ge (pc := 361) (tgt := 377) X ⟨by decide, by decide⟩ ⟨by decide, by decide⟩ dX12_init_361 (by decide) (fun c126 => absurd c126 (by decide)) (fun c126 => ?_)
  refine ml_aload_n (pc := 364) X hl 1 rfl rfl dX12_init_364 ?_
  obtain ⟨e127, hw⟩ := hw
  refine ml_getg (pc := 365) (k := 215) X in_X12 rfl (by decide) 8 (by decide) tw_4_199 (ml_k215 (by decide)) dX12_init_365 (v := .ref (base + (220 : Int).toNat)) (fun _ => by show (if σ125 215 8 = 0 then Value.null else .ref (base + (σ125 215 8).toNat)) = _; rw [e127]; exact if_neg (by omega)) (fun _ => ?_)
  refine ml_iload_n (pc := 368) X hl 0 rfl rfl dX12_init_368 ?_
  refine ml_iconst (pc := 369) X dX12_init_369 ?_
  refine ml_iast (pc := 370) (k := 220) (i := 14) (v := 1) (N := 16) X (ml_k220 (by decide)) (by decide) (by decide) ⟨by decide, by decide⟩ dX12_init_370 (fun σ128 g128 => ?_)
  have hw := hw σ128 g128
  refine ml_iinc (pc := 371) X (x := 14) (y := 15) (by decide) hl 0 rfl (by decide) (lst' := [(1, .int (Int32.ofInt 15)), (0, .ref (base + (215 : Int).toNat))]) rfl dX12_init_371 (fun ls hl => ?_)
  refine ml_goto (pc := 374) (tgt := 358) X dX12_init_374 (by decide) ?_
  refine ml_iload_n (pc := 358) X hl 0 rfl rfl dX12_init_358 ?_
  refine ml_bipush (pc := 359) X dX12_init_359 (by decide) ?_
  refine ml_icmp_ge (pc := 361) (tgt := 377) X ⟨by decide, by decide⟩ ⟨by decide, by decide⟩ dX12_init_361 (by decide) (fun c129 => absurd c129 (by decide)) (fun c129 => ?_)
  refine ml_aload_n (pc := 364) X hl 1 rfl rfl dX12_init_364 ?_
  obtain ⟨e130, hw⟩ := hw
  refine ml_getg (pc := 365) (k := 215) X in_X12 rfl (by decide) 8 (by decide) tw_4_199 (ml_k215 (by decide)) dX12_init_365 (v := .ref (base + (220 : Int).toNat)) (fun _ => by show (if σ128 215 8 = 0 then Value.null else .ref (base + (σ128 215 8).toNat)) = _; rw [e130]; exact if_neg (by omega)) (fun _ => ?_)
  refine ml_iload_n (pc := 368) X hl 0 rfl rfl dX12_init_368 ?_
  refine ml_iconst (pc := 369) X dX12_init_369 ?_
  refine ml_iast (pc := 370) (k := 220) (i := 15) (v := 1) (N := 16) X (ml_k220 (by decide)) (by decide) (by decide) ⟨by decide, by decide⟩ dX12_init_370 (fun σ131 g131 => ?_)
  have hw := hw σ131 g131
  refine ml_iinc (pc := 371) X (x := 15) (y := 16) (by decide) hl 0 rfl (by decide) (lst' := [(1, .int (Int32.ofInt 16)), (0, .ref (base + (215 : Int).toNat))]) rfl dX12_init_371 (fun ls hl => ?_)
  refine ml_goto (pc := 374) (tgt := 358) X dX12_init_374 (by decide) ?_
  refine ml_iload_n (pc := 358) X hl 0 rfl rfl dX12_init_358 ?_
  refine ml_bipush (pc := 359) X dX12_init_359 (by decide) ?_
  refine ml_icmp_ge (pc := 361) (tgt := 377) X ⟨by decide, by decide⟩ ⟨by decide, by decide⟩ dX12_init_361 (by decide) (fun c132 => ?_) (fun c132 => absurd c132 (by decide))
  exact ml_vretC (pc := 377) X hw dX12_init_377
end

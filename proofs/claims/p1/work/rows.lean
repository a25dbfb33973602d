section
-- ===== PART A: goes FIRST, ahead of the names: the tables' words, and 'selects' of the private methods out of them =====
/-- a private method of a class that the tables say can be made, by its rows of tables_1 -/
def lw_okq (q : MethodName × Nat) : Prop := (q.1.cls ≠ "java/lang/invoke/MethodHandle" ∧ q.1.cls ≠ "java/lang/invoke/VarHandle") ∧ Cond.instantiable q.1.cls q.2 ∈ tables_1 ∧ Cond.privateMethod q.1 ∈ tables_1 ∧ Cond.instanceMethod q.1 ∈ tables_1
theorem lw_p0 : lw_okq (⟨"MirrorLane", "tell", "(II)I"⟩, 13) := ⟨⟨by decide +kernel, by decide +kernel⟩, List.mem_of_getElem? (i := 19) (by decide +kernel), List.mem_of_getElem? (i := 448) (by decide +kernel), List.mem_of_getElem? (i := 449) (by decide +kernel)⟩
theorem lw_p1 : lw_okq (⟨"MirrorLane$Grammar", "read", "(III)V"⟩, 7) := ⟨⟨by decide +kernel, by decide +kernel⟩, List.mem_of_getElem? (i := 58) (by decide +kernel), List.mem_of_getElem? (i := 456) (by decide +kernel), List.mem_of_getElem? (i := 457) (by decide +kernel)⟩
theorem lw_p2 : lw_okq (⟨"MirrorLane$Grammar", "readOpening", "()V"⟩, 7) := ⟨⟨by decide +kernel, by decide +kernel⟩, List.mem_of_getElem? (i := 58) (by decide +kernel), List.mem_of_getElem? (i := 460) (by decide +kernel), List.mem_of_getElem? (i := 461) (by decide +kernel)⟩
theorem lw_p3 : lw_okq (⟨"MirrorLane$Grammar", "readClosing", "()V"⟩, 7) := ⟨⟨by decide +kernel, by decide +kernel⟩, List.mem_of_getElem? (i := 58) (by decide +kernel), List.mem_of_getElem? (i := 467) (by decide +kernel), List.mem_of_getElem? (i := 468) (by decide +kernel)⟩
theorem lw_p4 : lw_okq (⟨"MirrorLane$Grammar", "takeItem", "(I)V"⟩, 7) := ⟨⟨by decide +kernel, by decide +kernel⟩, List.mem_of_getElem? (i := 58) (by decide +kernel), List.mem_of_getElem? (i := 471) (by decide +kernel), List.mem_of_getElem? (i := 472) (by decide +kernel)⟩
theorem lw_p5 : lw_okq (⟨"MirrorLane$Grammar", "readDigit", "(I)V"⟩, 7) := ⟨⟨by decide +kernel, by decide +kernel⟩, List.mem_of_getElem? (i := 58) (by decide +kernel), List.mem_of_getElem? (i := 475) (by decide +kernel), List.mem_of_getElem? (i := 476) (by decide +kernel)⟩
theorem lw_p6 : lw_okq (⟨"MirrorLane$Grammar", "next", "(I)I"⟩, 7) := ⟨⟨by decide +kernel, by decide +kernel⟩, List.mem_of_getElem? (i := 58) (by decide +kernel), List.mem_of_getElem? (i := 479) (by decide +kernel), List.mem_of_getElem? (i := 480) (by decide +kernel)⟩
theorem lw_p7 : lw_okq (⟨"MirrorLane$Grammar", "readTimes", "()V"⟩, 7) := ⟨⟨by decide +kernel, by decide +kernel⟩, List.mem_of_getElem? (i := 58) (by decide +kernel), List.mem_of_getElem? (i := 486) (by decide +kernel), List.mem_of_getElem? (i := 487) (by decide +kernel)⟩
theorem lw_p8 : lw_okq (⟨"MirrorLane$Items", "take", "()I"⟩, 6) := ⟨⟨by decide +kernel, by decide +kernel⟩, List.mem_of_getElem? (i := 93) (by decide +kernel), List.mem_of_getElem? (i := 506) (by decide +kernel), List.mem_of_getElem? (i := 507) (by decide +kernel)⟩
theorem lw_p9 : lw_okq (⟨"MirrorLane$Items", "readTimes", "()V"⟩, 6) := ⟨⟨by decide +kernel, by decide +kernel⟩, List.mem_of_getElem? (i := 93) (by decide +kernel), List.mem_of_getElem? (i := 510) (by decide +kernel), List.mem_of_getElem? (i := 511) (by decide +kernel)⟩
theorem lw_p10 : lw_okq (⟨"MirrorLane$Weave", "touch", "(II)V"⟩, 8) := ⟨⟨by decide +kernel, by decide +kernel⟩, List.mem_of_getElem? (i := 122) (by decide +kernel), List.mem_of_getElem? (i := 533) (by decide +kernel), List.mem_of_getElem? (i := 534) (by decide +kernel)⟩
theorem lw_p11 : lw_okq (⟨"MirrorLane$Loom", "repeatItem", "(II)V"⟩, 7) := ⟨⟨by decide +kernel, by decide +kernel⟩, List.mem_of_getElem? (i := 87) (by decide +kernel), List.mem_of_getElem? (i := 537) (by decide +kernel), List.mem_of_getElem? (i := 538) (by decide +kernel)⟩
theorem lw_p12 : lw_okq (⟨"MirrorLane$Weave", "joinFrom", "(ILMirrorLane$Weave;LMirrorLane$Weave;I)I"⟩, 8) := ⟨⟨by decide +kernel, by decide +kernel⟩, List.mem_of_getElem? (i := 122) (by decide +kernel), List.mem_of_getElem? (i := 552) (by decide +kernel), List.mem_of_getElem? (i := 553) (by decide +kernel)⟩
theorem lw_p13 : lw_okq (⟨"MirrorLane$Weave", "addLoop", "(ILMirrorLane$Weave;LMirrorLane$Weave;I)I"⟩, 8) := ⟨⟨by decide +kernel, by decide +kernel⟩, List.mem_of_getElem? (i := 122) (by decide +kernel), List.mem_of_getElem? (i := 556) (by decide +kernel), List.mem_of_getElem? (i := 557) (by decide +kernel)⟩
theorem lw_p14 : lw_okq (⟨"MirrorLane", "weaveFrom", "(I)V"⟩, 13) := ⟨⟨by decide +kernel, by decide +kernel⟩, List.mem_of_getElem? (i := 19) (by decide +kernel), List.mem_of_getElem? (i := 573) (by decide +kernel), List.mem_of_getElem? (i := 574) (by decide +kernel)⟩
theorem lw_p15 : lw_okq (⟨"MirrorLane", "isTold", "(I)Z"⟩, 13) := ⟨⟨by decide +kernel, by decide +kernel⟩, List.mem_of_getElem? (i := 19) (by decide +kernel), List.mem_of_getElem? (i := 585) (by decide +kernel), List.mem_of_getElem? (i := 586) (by decide +kernel)⟩
def lw_privs_1 : List (MethodName × Nat) := [(⟨"MirrorLane", "tell", "(II)I"⟩, 13), (⟨"MirrorLane$Grammar", "read", "(III)V"⟩, 7), (⟨"MirrorLane$Grammar", "readOpening", "()V"⟩, 7), (⟨"MirrorLane$Grammar", "readClosing", "()V"⟩, 7), (⟨"MirrorLane$Grammar", "takeItem", "(I)V"⟩, 7), (⟨"MirrorLane$Grammar", "readDigit", "(I)V"⟩, 7), (⟨"MirrorLane$Grammar", "next", "(I)I"⟩, 7), (⟨"MirrorLane$Grammar", "readTimes", "()V"⟩, 7), (⟨"MirrorLane$Items", "take", "()I"⟩, 6), (⟨"MirrorLane$Items", "readTimes", "()V"⟩, 6), (⟨"MirrorLane$Weave", "touch", "(II)V"⟩, 8), (⟨"MirrorLane$Loom", "repeatItem", "(II)V"⟩, 7), (⟨"MirrorLane$Weave", "joinFrom", "(ILMirrorLane$Weave;LMirrorLane$Weave;I)I"⟩, 8), (⟨"MirrorLane$Weave", "addLoop", "(ILMirrorLane$Weave;LMirrorLane$Weave;I)I"⟩, 8), (⟨"MirrorLane", "weaveFrom", "(I)V"⟩, 13), (⟨"MirrorLane", "isTold", "(I)Z"⟩, 13)]
theorem lw_r1 : ∀ q ∈ lw_privs_1, lw_okq q := List.forall_mem_cons.mpr ⟨lw_p0, List.forall_mem_cons.mpr ⟨lw_p1, List.forall_mem_cons.mpr ⟨lw_p2, List.forall_mem_cons.mpr ⟨lw_p3, List.forall_mem_cons.mpr ⟨lw_p4, List.forall_mem_cons.mpr ⟨lw_p5, List.forall_mem_cons.mpr ⟨lw_p6, List.forall_mem_cons.mpr ⟨lw_p7, List.forall_mem_cons.mpr ⟨lw_p8, List.forall_mem_cons.mpr ⟨lw_p9, List.forall_mem_cons.mpr ⟨lw_p10, List.forall_mem_cons.mpr ⟨lw_p11, List.forall_mem_cons.mpr ⟨lw_p12, List.forall_mem_cons.mpr ⟨lw_p13, List.forall_mem_cons.mpr ⟨lw_p14, List.forall_mem_cons.mpr ⟨lw_p15, fun _ h => absurd h List.not_mem_nil⟩⟩⟩⟩⟩⟩⟩⟩⟩⟩⟩⟩⟩⟩⟩⟩
theorem lw_p16 : lw_okq (⟨"MirrorLane", "isMade", "(I)Z"⟩, 13) := ⟨⟨by decide +kernel, by decide +kernel⟩, List.mem_of_getElem? (i := 19) (by decide +kernel), List.mem_of_getElem? (i := 611) (by decide +kernel), List.mem_of_getElem? (i := 612) (by decide +kernel)⟩
theorem lw_p17 : lw_okq (⟨"MirrorLane", "isEnd", "(I)Z"⟩, 13) := ⟨⟨by decide +kernel, by decide +kernel⟩, List.mem_of_getElem? (i := 19) (by decide +kernel), List.mem_of_getElem? (i := 615) (by decide +kernel), List.mem_of_getElem? (i := 616) (by decide +kernel)⟩
theorem lw_p18 : lw_okq (⟨"MirrorLane$Closing", "loopFrom", "(ILMirrorLane$Weave;)I"⟩, 2) := ⟨⟨by decide +kernel, by decide +kernel⟩, List.mem_of_getElem? (i := 44) (by decide +kernel), List.mem_of_getElem? (i := 631) (by decide +kernel), List.mem_of_getElem? (i := 632) (by decide +kernel)⟩
theorem lw_p19 : lw_okq (⟨"MirrorLane$Powers", "isEven", "(I)Z"⟩, 10) := ⟨⟨by decide +kernel, by decide +kernel⟩, List.mem_of_getElem? (i := 189) (by decide +kernel), List.mem_of_getElem? (i := 664) (by decide +kernel), List.mem_of_getElem? (i := 665) (by decide +kernel)⟩
theorem lw_p20 : lw_okq (⟨"MirrorLane$Powers", "growth", "(II)J"⟩, 10) := ⟨⟨by decide +kernel, by decide +kernel⟩, List.mem_of_getElem? (i := 189) (by decide +kernel), List.mem_of_getElem? (i := 668) (by decide +kernel), List.mem_of_getElem? (i := 669) (by decide +kernel)⟩
theorem lw_p21 : lw_okq (⟨"MirrorLane$Powers", "howManyFrom", "(IJJJ)J"⟩, 10) := ⟨⟨by decide +kernel, by decide +kernel⟩, List.mem_of_getElem? (i := 189) (by decide +kernel), List.mem_of_getElem? (i := 697) (by decide +kernel), List.mem_of_getElem? (i := 698) (by decide +kernel)⟩
theorem lw_p22 : lw_okq (⟨"MirrorLane$Powers", "firstFrom", "(IJ)J"⟩, 10) := ⟨⟨by decide +kernel, by decide +kernel⟩, List.mem_of_getElem? (i := 189) (by decide +kernel), List.mem_of_getElem? (i := 701) (by decide +kernel), List.mem_of_getElem? (i := 702) (by decide +kernel)⟩
theorem lw_p23 : lw_okq (⟨"MirrorLane", "openLetters", "(I)Z"⟩, 13) := ⟨⟨by decide +kernel, by decide +kernel⟩, List.mem_of_getElem? (i := 19) (by decide +kernel), List.mem_of_getElem? (i := 744) (by decide +kernel), List.mem_of_getElem? (i := 745) (by decide +kernel)⟩
theorem lw_p24 : lw_okq (⟨"MirrorLane$Sentences", "keep", "(LMirrorLane$Weave;)V"⟩, 14) := ⟨⟨by decide +kernel, by decide +kernel⟩, List.mem_of_getElem? (i := 233) (by decide +kernel), List.mem_of_getElem? (i := 757) (by decide +kernel), List.mem_of_getElem? (i := 758) (by decide +kernel)⟩
theorem lw_p25 : lw_okq (⟨"MirrorLane$Sentences", "leadOn", "(I[LMirrorLane$Word;I)V"⟩, 14) := ⟨⟨by decide +kernel, by decide +kernel⟩, List.mem_of_getElem? (i := 233) (by decide +kernel), List.mem_of_getElem? (i := 762) (by decide +kernel), List.mem_of_getElem? (i := 763) (by decide +kernel)⟩
theorem lw_p26 : lw_okq (⟨"MirrorLane$Sentences", "startRow", "()V"⟩, 14) := ⟨⟨by decide +kernel, by decide +kernel⟩, List.mem_of_getElem? (i := 233) (by decide +kernel), List.mem_of_getElem? (i := 770) (by decide +kernel), List.mem_of_getElem? (i := 771) (by decide +kernel)⟩
theorem lw_p27 : lw_okq (⟨"MirrorLane$Sentences", "lengthenRow", "()V"⟩, 14) := ⟨⟨by decide +kernel, by decide +kernel⟩, List.mem_of_getElem? (i := 233) (by decide +kernel), List.mem_of_getElem? (i := 786) (by decide +kernel), List.mem_of_getElem? (i := 787) (by decide +kernel)⟩
theorem lw_p28 : lw_okq (⟨"MirrorLane$Sentences", "spread", "(I)V"⟩, 14) := ⟨⟨by decide +kernel, by decide +kernel⟩, List.mem_of_getElem? (i := 233) (by decide +kernel), List.mem_of_getElem? (i := 790) (by decide +kernel), List.mem_of_getElem? (i := 791) (by decide +kernel)⟩
theorem lw_p29 : lw_okq (⟨"MirrorLane$Finder", "traceBack", "(I)V"⟩, 7) := ⟨⟨by decide +kernel, by decide +kernel⟩, List.mem_of_getElem? (i := 292) (by decide +kernel), List.mem_of_getElem? (i := 808) (by decide +kernel), List.mem_of_getElem? (i := 809) (by decide +kernel)⟩
theorem lw_p30 : lw_okq (⟨"MirrorLane$Finder", "weighRests", "(LMirrorLane$Sentences;[LMirrorLane$Word;I)V"⟩, 7) := ⟨⟨by decide +kernel, by decide +kernel⟩, List.mem_of_getElem? (i := 292) (by decide +kernel), List.mem_of_getElem? (i := 829) (by decide +kernel), List.mem_of_getElem? (i := 830) (by decide +kernel)⟩
theorem lw_p31 : lw_okq (⟨"MirrorLane$Finder", "weightBy", "(LMirrorLane$Sentences;[LMirrorLane$Word;II)J"⟩, 7) := ⟨⟨by decide +kernel, by decide +kernel⟩, List.mem_of_getElem? (i := 292) (by decide +kernel), List.mem_of_getElem? (i := 835) (by decide +kernel), List.mem_of_getElem? (i := 836) (by decide +kernel)⟩
def lw_privs_2 : List (MethodName × Nat) := [(⟨"MirrorLane", "isMade", "(I)Z"⟩, 13), (⟨"MirrorLane", "isEnd", "(I)Z"⟩, 13), (⟨"MirrorLane$Closing", "loopFrom", "(ILMirrorLane$Weave;)I"⟩, 2), (⟨"MirrorLane$Powers", "isEven", "(I)Z"⟩, 10), (⟨"MirrorLane$Powers", "growth", "(II)J"⟩, 10), (⟨"MirrorLane$Powers", "howManyFrom", "(IJJJ)J"⟩, 10), (⟨"MirrorLane$Powers", "firstFrom", "(IJ)J"⟩, 10), (⟨"MirrorLane", "openLetters", "(I)Z"⟩, 13), (⟨"MirrorLane$Sentences", "keep", "(LMirrorLane$Weave;)V"⟩, 14), (⟨"MirrorLane$Sentences", "leadOn", "(I[LMirrorLane$Word;I)V"⟩, 14), (⟨"MirrorLane$Sentences", "startRow", "()V"⟩, 14), (⟨"MirrorLane$Sentences", "lengthenRow", "()V"⟩, 14), (⟨"MirrorLane$Sentences", "spread", "(I)V"⟩, 14), (⟨"MirrorLane$Finder", "traceBack", "(I)V"⟩, 7), (⟨"MirrorLane$Finder", "weighRests", "(LMirrorLane$Sentences;[LMirrorLane$Word;I)V"⟩, 7), (⟨"MirrorLane$Finder", "weightBy", "(LMirrorLane$Sentences;[LMirrorLane$Word;II)J"⟩, 7)]
theorem lw_r2 : ∀ q ∈ lw_privs_2, lw_okq q := List.forall_mem_cons.mpr ⟨lw_p16, List.forall_mem_cons.mpr ⟨lw_p17, List.forall_mem_cons.mpr ⟨lw_p18, List.forall_mem_cons.mpr ⟨lw_p19, List.forall_mem_cons.mpr ⟨lw_p20, List.forall_mem_cons.mpr ⟨lw_p21, List.forall_mem_cons.mpr ⟨lw_p22, List.forall_mem_cons.mpr ⟨lw_p23, List.forall_mem_cons.mpr ⟨lw_p24, List.forall_mem_cons.mpr ⟨lw_p25, List.forall_mem_cons.mpr ⟨lw_p26, List.forall_mem_cons.mpr ⟨lw_p27, List.forall_mem_cons.mpr ⟨lw_p28, List.forall_mem_cons.mpr ⟨lw_p29, List.forall_mem_cons.mpr ⟨lw_p30, List.forall_mem_cons.mpr ⟨lw_p31, fun _ h => absurd h List.not_mem_nil⟩⟩⟩⟩⟩⟩⟩⟩⟩⟩⟩⟩⟩⟩⟩⟩
theorem lw_p32 : lw_okq (⟨"MirrorLane", "leavesAsTold", "(II)Z"⟩, 13) := ⟨⟨by decide +kernel, by decide +kernel⟩, List.mem_of_getElem? (i := 19) (by decide +kernel), List.mem_of_getElem? (i := 866) (by decide +kernel), List.mem_of_getElem? (i := 867) (by decide +kernel)⟩
theorem lw_p33 : lw_okq (⟨"MirrorLaneModel", "push", "(I)V"⟩, 62) := ⟨⟨by decide +kernel, by decide +kernel⟩, List.mem_of_getElem? (i := 906) (by decide +kernel), List.mem_of_getElem? (i := 1113) (by decide +kernel), List.mem_of_getElem? (i := 1114) (by decide +kernel)⟩
theorem lw_p34 : lw_okq (⟨"MirrorLaneModel", "isLength", "(I)Z"⟩, 62) := ⟨⟨by decide +kernel, by decide +kernel⟩, List.mem_of_getElem? (i := 906) (by decide +kernel), List.mem_of_getElem? (i := 1121) (by decide +kernel), List.mem_of_getElem? (i := 1122) (by decide +kernel)⟩
theorem lw_p35 : lw_okq (⟨"MirrorLaneModel", "told", "(II)I"⟩, 62) := ⟨⟨by decide +kernel, by decide +kernel⟩, List.mem_of_getElem? (i := 906) (by decide +kernel), List.mem_of_getElem? (i := 1126) (by decide +kernel), List.mem_of_getElem? (i := 1127) (by decide +kernel)⟩
theorem lw_p36 : lw_okq (⟨"MirrorLaneModel", "isText", "(II)Z"⟩, 62) := ⟨⟨by decide +kernel, by decide +kernel⟩, List.mem_of_getElem? (i := 906) (by decide +kernel), List.mem_of_getElem? (i := 1130) (by decide +kernel), List.mem_of_getElem? (i := 1131) (by decide +kernel)⟩
theorem lw_p37 : lw_okq (⟨"MirrorLaneModel", "isGood", "()Z"⟩, 62) := ⟨⟨by decide +kernel, by decide +kernel⟩, List.mem_of_getElem? (i := 906) (by decide +kernel), List.mem_of_getElem? (i := 1134) (by decide +kernel), List.mem_of_getElem? (i := 1135) (by decide +kernel)⟩
theorem lw_p38 : lw_okq (⟨"MirrorLaneModel", "here", "()I"⟩, 62) := ⟨⟨by decide +kernel, by decide +kernel⟩, List.mem_of_getElem? (i := 906) (by decide +kernel), List.mem_of_getElem? (i := 1138) (by decide +kernel), List.mem_of_getElem? (i := 1139) (by decide +kernel)⟩
theorem lw_p39 : lw_okq (⟨"MirrorLaneModel", "repeatsTold", "()V"⟩, 62) := ⟨⟨by decide +kernel, by decide +kernel⟩, List.mem_of_getElem? (i := 906) (by decide +kernel), List.mem_of_getElem? (i := 1142) (by decide +kernel), List.mem_of_getElem? (i := 1143) (by decide +kernel)⟩
theorem lw_p40 : lw_okq (⟨"MirrorLaneModel", "wrongs", "(II)V"⟩, 62) := ⟨⟨by decide +kernel, by decide +kernel⟩, List.mem_of_getElem? (i := 906) (by decide +kernel), List.mem_of_getElem? (i := 1149) (by decide +kernel), List.mem_of_getElem? (i := 1150) (by decide +kernel)⟩
theorem lw_p41 : lw_okq (⟨"MirrorLaneModel", "item", "(I)V"⟩, 62) := ⟨⟨by decide +kernel, by decide +kernel⟩, List.mem_of_getElem? (i := 906) (by decide +kernel), List.mem_of_getElem? (i := 1153) (by decide +kernel), List.mem_of_getElem? (i := 1154) (by decide +kernel)⟩
theorem lw_p42 : lw_okq (⟨"MirrorLaneModel", "takesText", "(II)V"⟩, 62) := ⟨⟨by decide +kernel, by decide +kernel⟩, List.mem_of_getElem? (i := 906) (by decide +kernel), List.mem_of_getElem? (i := 1157) (by decide +kernel), List.mem_of_getElem? (i := 1158) (by decide +kernel)⟩
theorem lw_p43 : lw_okq (⟨"MirrorLaneModel", "counts", "(I)V"⟩, 62) := ⟨⟨by decide +kernel, by decide +kernel⟩, List.mem_of_getElem? (i := 906) (by decide +kernel), List.mem_of_getElem? (i := 1161) (by decide +kernel), List.mem_of_getElem? (i := 1162) (by decide +kernel)⟩
theorem lw_p44 : lw_okq (⟨"MirrorLaneModel", "read", "()I"⟩, 62) := ⟨⟨by decide +kernel, by decide +kernel⟩, List.mem_of_getElem? (i := 906) (by decide +kernel), List.mem_of_getElem? (i := 1165) (by decide +kernel), List.mem_of_getElem? (i := 1166) (by decide +kernel)⟩
theorem lw_p45 : lw_okq (⟨"MirrorLaneModel", "readNumber", "()I"⟩, 62) := ⟨⟨by decide +kernel, by decide +kernel⟩, List.mem_of_getElem? (i := 906) (by decide +kernel), List.mem_of_getElem? (i := 1169) (by decide +kernel), List.mem_of_getElem? (i := 1170) (by decide +kernel)⟩
theorem lw_p46 : lw_okq (⟨"MirrorLaneModel", "isTooLong", "(I)Z"⟩, 62) := ⟨⟨by decide +kernel, by decide +kernel⟩, List.mem_of_getElem? (i := 906) (by decide +kernel), List.mem_of_getElem? (i := 1180) (by decide +kernel), List.mem_of_getElem? (i := 1181) (by decide +kernel)⟩
theorem lw_p47 : lw_okq (⟨"MirrorLaneModel", "signsOf", "(I)J"⟩, 62) := ⟨⟨by decide +kernel, by decide +kernel⟩, List.mem_of_getElem? (i := 906) (by decide +kernel), List.mem_of_getElem? (i := 1184) (by decide +kernel), List.mem_of_getElem? (i := 1185) (by decide +kernel)⟩
def lw_privs_3 : List (MethodName × Nat) := [(⟨"MirrorLane", "leavesAsTold", "(II)Z"⟩, 13), (⟨"MirrorLaneModel", "push", "(I)V"⟩, 62), (⟨"MirrorLaneModel", "isLength", "(I)Z"⟩, 62), (⟨"MirrorLaneModel", "told", "(II)I"⟩, 62), (⟨"MirrorLaneModel", "isText", "(II)Z"⟩, 62), (⟨"MirrorLaneModel", "isGood", "()Z"⟩, 62), (⟨"MirrorLaneModel", "here", "()I"⟩, 62), (⟨"MirrorLaneModel", "repeatsTold", "()V"⟩, 62), (⟨"MirrorLaneModel", "wrongs", "(II)V"⟩, 62), (⟨"MirrorLaneModel", "item", "(I)V"⟩, 62), (⟨"MirrorLaneModel", "takesText", "(II)V"⟩, 62), (⟨"MirrorLaneModel", "counts", "(I)V"⟩, 62), (⟨"MirrorLaneModel", "read", "()I"⟩, 62), (⟨"MirrorLaneModel", "readNumber", "()I"⟩, 62), (⟨"MirrorLaneModel", "isTooLong", "(I)Z"⟩, 62), (⟨"MirrorLaneModel", "signsOf", "(I)J"⟩, 62)]
theorem lw_r3 : ∀ q ∈ lw_privs_3, lw_okq q := List.forall_mem_cons.mpr ⟨lw_p32, List.forall_mem_cons.mpr ⟨lw_p33, List.forall_mem_cons.mpr ⟨lw_p34, List.forall_mem_cons.mpr ⟨lw_p35, List.forall_mem_cons.mpr ⟨lw_p36, List.forall_mem_cons.mpr ⟨lw_p37, List.forall_mem_cons.mpr ⟨lw_p38, List.forall_mem_cons.mpr ⟨lw_p39, List.forall_mem_cons.mpr ⟨lw_p40, List.forall_mem_cons.mpr ⟨lw_p41, List.forall_mem_cons.mpr ⟨lw_p42, List.forall_mem_cons.mpr ⟨lw_p43, List.forall_mem_cons.mpr ⟨lw_p44, List.forall_mem_cons.mpr ⟨lw_p45, List.forall_mem_cons.mpr ⟨lw_p46, List.forall_mem_cons.mpr ⟨lw_p47, fun _ h => absurd h List.not_mem_nil⟩⟩⟩⟩⟩⟩⟩⟩⟩⟩⟩⟩⟩⟩⟩⟩
theorem lw_p48 : lw_okq (⟨"MirrorLaneModel", "all", "()V"⟩, 62) := ⟨⟨by decide +kernel, by decide +kernel⟩, List.mem_of_getElem? (i := 906) (by decide +kernel), List.mem_of_getElem? (i := 1189) (by decide +kernel), List.mem_of_getElem? (i := 1190) (by decide +kernel)⟩
theorem lw_p49 : lw_okq (⟨"MirrorLaneModel", "straight", "(I)V"⟩, 62) := ⟨⟨by decide +kernel, by decide +kernel⟩, List.mem_of_getElem? (i := 906) (by decide +kernel), List.mem_of_getElem? (i := 1193) (by decide +kernel), List.mem_of_getElem? (i := 1194) (by decide +kernel)⟩
theorem lw_p50 : lw_okq (⟨"MirrorLaneModel", "joins", "(IIIJ)V"⟩, 62) := ⟨⟨by decide +kernel, by decide +kernel⟩, List.mem_of_getElem? (i := 906) (by decide +kernel), List.mem_of_getElem? (i := 1197) (by decide +kernel), List.mem_of_getElem? (i := 1198) (by decide +kernel)⟩
theorem lw_p51 : lw_okq (⟨"MirrorLaneModel", "makes", "(I)V"⟩, 62) := ⟨⟨by decide +kernel, by decide +kernel⟩, List.mem_of_getElem? (i := 906) (by decide +kernel), List.mem_of_getElem? (i := 1201) (by decide +kernel), List.mem_of_getElem? (i := 1202) (by decide +kernel)⟩
theorem lw_p52 : lw_okq (⟨"MirrorLaneModel", "repeats", "(II)V"⟩, 62) := ⟨⟨by decide +kernel, by decide +kernel⟩, List.mem_of_getElem? (i := 906) (by decide +kernel), List.mem_of_getElem? (i := 1205) (by decide +kernel), List.mem_of_getElem? (i := 1206) (by decide +kernel)⟩
theorem lw_p53 : lw_okq (⟨"MirrorLaneModel", "copies", "(II)V"⟩, 62) := ⟨⟨by decide +kernel, by decide +kernel⟩, List.mem_of_getElem? (i := 906) (by decide +kernel), List.mem_of_getElem? (i := 1209) (by decide +kernel), List.mem_of_getElem? (i := 1210) (by decide +kernel)⟩
theorem lw_p54 : lw_okq (⟨"MirrorLaneModel", "lays", "(III)V"⟩, 62) := ⟨⟨by decide +kernel, by decide +kernel⟩, List.mem_of_getElem? (i := 906) (by decide +kernel), List.mem_of_getElem? (i := 1213) (by decide +kernel), List.mem_of_getElem? (i := 1214) (by decide +kernel)⟩
theorem lw_p55 : lw_okq (⟨"MirrorLaneModel", "leads", "(IIZI)I"⟩, 62) := ⟨⟨by decide +kernel, by decide +kernel⟩, List.mem_of_getElem? (i := 906) (by decide +kernel), List.mem_of_getElem? (i := 1217) (by decide +kernel), List.mem_of_getElem? (i := 1218) (by decide +kernel)⟩
theorem lw_p56 : lw_okq (⟨"MirrorLaneModel", "ring", "(IIII)V"⟩, 62) := ⟨⟨by decide +kernel, by decide +kernel⟩, List.mem_of_getElem? (i := 906) (by decide +kernel), List.mem_of_getElem? (i := 1221) (by decide +kernel), List.mem_of_getElem? (i := 1222) (by decide +kernel)⟩
theorem lw_p57 : lw_okq (⟨"MirrorLaneModel", "goesOn", "(I)V"⟩, 62) := ⟨⟨by decide +kernel, by decide +kernel⟩, List.mem_of_getElem? (i := 906) (by decide +kernel), List.mem_of_getElem? (i := 1225) (by decide +kernel), List.mem_of_getElem? (i := 1226) (by decide +kernel)⟩
theorem lw_p58 : lw_okq (⟨"MirrorLaneModel", "sign", "(IZI)V"⟩, 62) := ⟨⟨by decide +kernel, by decide +kernel⟩, List.mem_of_getElem? (i := 906) (by decide +kernel), List.mem_of_getElem? (i := 1229) (by decide +kernel), List.mem_of_getElem? (i := 1230) (by decide +kernel)⟩
theorem lw_p59 : lw_okq (⟨"MirrorLaneModel", "isWord", "(I)Z"⟩, 62) := ⟨⟨by decide +kernel, by decide +kernel⟩, List.mem_of_getElem? (i := 906) (by decide +kernel), List.mem_of_getElem? (i := 1237) (by decide +kernel), List.mem_of_getElem? (i := 1238) (by decide +kernel)⟩
theorem lw_p60 : lw_okq (⟨"MirrorLaneModel", "isMade", "(I)Z"⟩, 62) := ⟨⟨by decide +kernel, by decide +kernel⟩, List.mem_of_getElem? (i := 906) (by decide +kernel), List.mem_of_getElem? (i := 1258) (by decide +kernel), List.mem_of_getElem? (i := 1259) (by decide +kernel)⟩
theorem lw_p61 : lw_okq (⟨"MirrorLaneModel", "isEnd", "(I)Z"⟩, 62) := ⟨⟨by decide +kernel, by decide +kernel⟩, List.mem_of_getElem? (i := 906) (by decide +kernel), List.mem_of_getElem? (i := 1262) (by decide +kernel), List.mem_of_getElem? (i := 1263) (by decide +kernel)⟩
theorem lw_p62 : lw_okq (⟨"MirrorLaneModel", "closing", "(I)I"⟩, 62) := ⟨⟨by decide +kernel, by decide +kernel⟩, List.mem_of_getElem? (i := 906) (by decide +kernel), List.mem_of_getElem? (i := 1274) (by decide +kernel), List.mem_of_getElem? (i := 1275) (by decide +kernel)⟩
theorem lw_p63 : lw_okq (⟨"MirrorLaneModel", "closes", "(I)I"⟩, 62) := ⟨⟨by decide +kernel, by decide +kernel⟩, List.mem_of_getElem? (i := 906) (by decide +kernel), List.mem_of_getElem? (i := 1278) (by decide +kernel), List.mem_of_getElem? (i := 1279) (by decide +kernel)⟩
def lw_privs_4 : List (MethodName × Nat) := [(⟨"MirrorLaneModel", "all", "()V"⟩, 62), (⟨"MirrorLaneModel", "straight", "(I)V"⟩, 62), (⟨"MirrorLaneModel", "joins", "(IIIJ)V"⟩, 62), (⟨"MirrorLaneModel", "makes", "(I)V"⟩, 62), (⟨"MirrorLaneModel", "repeats", "(II)V"⟩, 62), (⟨"MirrorLaneModel", "copies", "(II)V"⟩, 62), (⟨"MirrorLaneModel", "lays", "(III)V"⟩, 62), (⟨"MirrorLaneModel", "leads", "(IIZI)I"⟩, 62), (⟨"MirrorLaneModel", "ring", "(IIII)V"⟩, 62), (⟨"MirrorLaneModel", "goesOn", "(I)V"⟩, 62), (⟨"MirrorLaneModel", "sign", "(IZI)V"⟩, 62), (⟨"MirrorLaneModel", "isWord", "(I)Z"⟩, 62), (⟨"MirrorLaneModel", "isMade", "(I)Z"⟩, 62), (⟨"MirrorLaneModel", "isEnd", "(I)Z"⟩, 62), (⟨"MirrorLaneModel", "closing", "(I)I"⟩, 62), (⟨"MirrorLaneModel", "closes", "(I)I"⟩, 62)]
theorem lw_r4 : ∀ q ∈ lw_privs_4, lw_okq q := List.forall_mem_cons.mpr ⟨lw_p48, List.forall_mem_cons.mpr ⟨lw_p49, List.forall_mem_cons.mpr ⟨lw_p50, List.forall_mem_cons.mpr ⟨lw_p51, List.forall_mem_cons.mpr ⟨lw_p52, List.forall_mem_cons.mpr ⟨lw_p53, List.forall_mem_cons.mpr ⟨lw_p54, List.forall_mem_cons.mpr ⟨lw_p55, List.forall_mem_cons.mpr ⟨lw_p56, List.forall_mem_cons.mpr ⟨lw_p57, List.forall_mem_cons.mpr ⟨lw_p58, List.forall_mem_cons.mpr ⟨lw_p59, List.forall_mem_cons.mpr ⟨lw_p60, List.forall_mem_cons.mpr ⟨lw_p61, List.forall_mem_cons.mpr ⟨lw_p62, List.forall_mem_cons.mpr ⟨lw_p63, fun _ h => absurd h List.not_mem_nil⟩⟩⟩⟩⟩⟩⟩⟩⟩⟩⟩⟩⟩⟩⟩⟩
theorem lw_p64 : lw_okq (⟨"MirrorLaneModel", "powers", "(I)V"⟩, 62) := ⟨⟨by decide +kernel, by decide +kernel⟩, List.mem_of_getElem? (i := 906) (by decide +kernel), List.mem_of_getElem? (i := 1286) (by decide +kernel), List.mem_of_getElem? (i := 1287) (by decide +kernel)⟩
theorem lw_p65 : lw_okq (⟨"MirrorLaneModel", "codeOf", "(I)J"⟩, 62) := ⟨⟨by decide +kernel, by decide +kernel⟩, List.mem_of_getElem? (i := 906) (by decide +kernel), List.mem_of_getElem? (i := 1290) (by decide +kernel), List.mem_of_getElem? (i := 1291) (by decide +kernel)⟩
theorem lw_p66 : lw_okq (⟨"MirrorLaneModel", "isRule", "(I)Z"⟩, 62) := ⟨⟨by decide +kernel, by decide +kernel⟩, List.mem_of_getElem? (i := 906) (by decide +kernel), List.mem_of_getElem? (i := 1299) (by decide +kernel), List.mem_of_getElem? (i := 1300) (by decide +kernel)⟩
theorem lw_p67 : lw_okq (⟨"MirrorLaneModel", "thoseOf", "(IJJJ)J"⟩, 62) := ⟨⟨by decide +kernel, by decide +kernel⟩, List.mem_of_getElem? (i := 906) (by decide +kernel), List.mem_of_getElem? (i := 1318) (by decide +kernel), List.mem_of_getElem? (i := 1319) (by decide +kernel)⟩
theorem lw_p68 : lw_okq (⟨"MirrorLaneModel", "ofResidue", "(IJJJ)J"⟩, 62) := ⟨⟨by decide +kernel, by decide +kernel⟩, List.mem_of_getElem? (i := 906) (by decide +kernel), List.mem_of_getElem? (i := 1322) (by decide +kernel), List.mem_of_getElem? (i := 1323) (by decide +kernel)⟩
theorem lw_p69 : lw_okq (⟨"MirrorLaneModel", "areAlike", "(II)Z"⟩, 62) := ⟨⟨by decide +kernel, by decide +kernel⟩, List.mem_of_getElem? (i := 906) (by decide +kernel), List.mem_of_getElem? (i := 1335) (by decide +kernel), List.mem_of_getElem? (i := 1336) (by decide +kernel)⟩
theorem lw_p70 : lw_okq (⟨"MirrorLaneModel", "areJoinedAlike", "(II)Z"⟩, 62) := ⟨⟨by decide +kernel, by decide +kernel⟩, List.mem_of_getElem? (i := 906) (by decide +kernel), List.mem_of_getElem? (i := 1339) (by decide +kernel), List.mem_of_getElem? (i := 1340) (by decide +kernel)⟩
theorem lw_p71 : lw_okq (⟨"MirrorLaneModel", "isPlain", "(I)Z"⟩, 62) := ⟨⟨by decide +kernel, by decide +kernel⟩, List.mem_of_getElem? (i := 906) (by decide +kernel), List.mem_of_getElem? (i := 1347) (by decide +kernel), List.mem_of_getElem? (i := 1348) (by decide +kernel)⟩
theorem lw_p72 : lw_okq (⟨"MirrorLaneModel", "isLetters", "(I)Z"⟩, 62) := ⟨⟨by decide +kernel, by decide +kernel⟩, List.mem_of_getElem? (i := 906) (by decide +kernel), List.mem_of_getElem? (i := 1355) (by decide +kernel), List.mem_of_getElem? (i := 1356) (by decide +kernel)⟩
theorem lw_p73 : lw_okq (⟨"MirrorLaneModel", "joinsAll", "()V"⟩, 62) := ⟨⟨by decide +kernel, by decide +kernel⟩, List.mem_of_getElem? (i := 906) (by decide +kernel), List.mem_of_getElem? (i := 1363) (by decide +kernel), List.mem_of_getElem? (i := 1364) (by decide +kernel)⟩
theorem lw_p74 : lw_okq (⟨"MirrorLaneModel", "stateOf", "(I)I"⟩, 62) := ⟨⟨by decide +kernel, by decide +kernel⟩, List.mem_of_getElem? (i := 906) (by decide +kernel), List.mem_of_getElem? (i := 1367) (by decide +kernel), List.mem_of_getElem? (i := 1368) (by decide +kernel)⟩
theorem lw_p75 : lw_okq (⟨"MirrorLaneModel", "ends", "(I)I"⟩, 62) := ⟨⟨by decide +kernel, by decide +kernel⟩, List.mem_of_getElem? (i := 906) (by decide +kernel), List.mem_of_getElem? (i := 1384) (by decide +kernel), List.mem_of_getElem? (i := 1385) (by decide +kernel)⟩
theorem lw_p76 : lw_okq (⟨"MirrorLaneModel", "comes", "(III)V"⟩, 62) := ⟨⟨by decide +kernel, by decide +kernel⟩, List.mem_of_getElem? (i := 906) (by decide +kernel), List.mem_of_getElem? (i := 1388) (by decide +kernel), List.mem_of_getElem? (i := 1389) (by decide +kernel)⟩
theorem lw_p77 : lw_okq (⟨"MirrorLaneModel", "targetOf", "(I)I"⟩, 62) := ⟨⟨by decide +kernel, by decide +kernel⟩, List.mem_of_getElem? (i := 906) (by decide +kernel), List.mem_of_getElem? (i := 1400) (by decide +kernel), List.mem_of_getElem? (i := 1401) (by decide +kernel)⟩
theorem lw_p78 : lw_okq (⟨"MirrorLaneModel", "prices", "(I)V"⟩, 62) := ⟨⟨by decide +kernel, by decide +kernel⟩, List.mem_of_getElem? (i := 906) (by decide +kernel), List.mem_of_getElem? (i := 1404) (by decide +kernel), List.mem_of_getElem? (i := 1405) (by decide +kernel)⟩
theorem lw_p79 : lw_okq (⟨"MirrorLaneModel", "best", "(I)I"⟩, 62) := ⟨⟨by decide +kernel, by decide +kernel⟩, List.mem_of_getElem? (i := 906) (by decide +kernel), List.mem_of_getElem? (i := 1408) (by decide +kernel), List.mem_of_getElem? (i := 1409) (by decide +kernel)⟩
def lw_privs_5 : List (MethodName × Nat) := [(⟨"MirrorLaneModel", "powers", "(I)V"⟩, 62), (⟨"MirrorLaneModel", "codeOf", "(I)J"⟩, 62), (⟨"MirrorLaneModel", "isRule", "(I)Z"⟩, 62), (⟨"MirrorLaneModel", "thoseOf", "(IJJJ)J"⟩, 62), (⟨"MirrorLaneModel", "ofResidue", "(IJJJ)J"⟩, 62), (⟨"MirrorLaneModel", "areAlike", "(II)Z"⟩, 62), (⟨"MirrorLaneModel", "areJoinedAlike", "(II)Z"⟩, 62), (⟨"MirrorLaneModel", "isPlain", "(I)Z"⟩, 62), (⟨"MirrorLaneModel", "isLetters", "(I)Z"⟩, 62), (⟨"MirrorLaneModel", "joinsAll", "()V"⟩, 62), (⟨"MirrorLaneModel", "stateOf", "(I)I"⟩, 62), (⟨"MirrorLaneModel", "ends", "(I)I"⟩, 62), (⟨"MirrorLaneModel", "comes", "(III)V"⟩, 62), (⟨"MirrorLaneModel", "targetOf", "(I)I"⟩, 62), (⟨"MirrorLaneModel", "prices", "(I)V"⟩, 62), (⟨"MirrorLaneModel", "best", "(I)I"⟩, 62)]
theorem lw_r5 : ∀ q ∈ lw_privs_5, lw_okq q := List.forall_mem_cons.mpr ⟨lw_p64, List.forall_mem_cons.mpr ⟨lw_p65, List.forall_mem_cons.mpr ⟨lw_p66, List.forall_mem_cons.mpr ⟨lw_p67, List.forall_mem_cons.mpr ⟨lw_p68, List.forall_mem_cons.mpr ⟨lw_p69, List.forall_mem_cons.mpr ⟨lw_p70, List.forall_mem_cons.mpr ⟨lw_p71, List.forall_mem_cons.mpr ⟨lw_p72, List.forall_mem_cons.mpr ⟨lw_p73, List.forall_mem_cons.mpr ⟨lw_p74, List.forall_mem_cons.mpr ⟨lw_p75, List.forall_mem_cons.mpr ⟨lw_p76, List.forall_mem_cons.mpr ⟨lw_p77, List.forall_mem_cons.mpr ⟨lw_p78, List.forall_mem_cons.mpr ⟨lw_p79, fun _ h => absurd h List.not_mem_nil⟩⟩⟩⟩⟩⟩⟩⟩⟩⟩⟩⟩⟩⟩⟩⟩
theorem lw_p80 : lw_okq (⟨"MirrorLaneModel", "isOne", "(II)Z"⟩, 62) := ⟨⟨by decide +kernel, by decide +kernel⟩, List.mem_of_getElem? (i := 906) (by decide +kernel), List.mem_of_getElem? (i := 1419) (by decide +kernel), List.mem_of_getElem? (i := 1420) (by decide +kernel)⟩
theorem lw_p81 : lw_okq (⟨"MirrorLaneModel", "numberAt", "(I)I"⟩, 62) := ⟨⟨by decide +kernel, by decide +kernel⟩, List.mem_of_getElem? (i := 906) (by decide +kernel), List.mem_of_getElem? (i := 1428) (by decide +kernel), List.mem_of_getElem? (i := 1429) (by decide +kernel)⟩
theorem lw_p82 : lw_okq (⟨"MirrorLaneModel", "writesOut", "(I)V"⟩, 62) := ⟨⟨by decide +kernel, by decide +kernel⟩, List.mem_of_getElem? (i := 906) (by decide +kernel), List.mem_of_getElem? (i := 1437) (by decide +kernel), List.mem_of_getElem? (i := 1438) (by decide +kernel)⟩
theorem lw_p83 : lw_okq (⟨"MirrorLaneModel", "writesAgain", "(III)V"⟩, 62) := ⟨⟨by decide +kernel, by decide +kernel⟩, List.mem_of_getElem? (i := 906) (by decide +kernel), List.mem_of_getElem? (i := 1441) (by decide +kernel), List.mem_of_getElem? (i := 1442) (by decide +kernel)⟩
theorem lw_p84 : lw_okq (⟨"MirrorLaneModel", "writes", "(II)V"⟩, 62) := ⟨⟨by decide +kernel, by decide +kernel⟩, List.mem_of_getElem? (i := 906) (by decide +kernel), List.mem_of_getElem? (i := 1445) (by decide +kernel), List.mem_of_getElem? (i := 1446) (by decide +kernel)⟩
def lw_privs_6 : List (MethodName × Nat) := [(⟨"MirrorLaneModel", "isOne", "(II)Z"⟩, 62), (⟨"MirrorLaneModel", "numberAt", "(I)I"⟩, 62), (⟨"MirrorLaneModel", "writesOut", "(I)V"⟩, 62), (⟨"MirrorLaneModel", "writesAgain", "(III)V"⟩, 62), (⟨"MirrorLaneModel", "writes", "(II)V"⟩, 62)]
theorem lw_r6 : ∀ q ∈ lw_privs_6, lw_okq q := List.forall_mem_cons.mpr ⟨lw_p80, List.forall_mem_cons.mpr ⟨lw_p81, List.forall_mem_cons.mpr ⟨lw_p82, List.forall_mem_cons.mpr ⟨lw_p83, List.forall_mem_cons.mpr ⟨lw_p84, fun _ h => absurd h List.not_mem_nil⟩⟩⟩⟩⟩
def lw_privs : List (MethodName × Nat) := lw_privs_1 ++ (lw_privs_2 ++ (lw_privs_3 ++ (lw_privs_4 ++ (lw_privs_5 ++ (lw_privs_6)))))
def lw_tbl : List Cond := k2_sels lw_privs ++ tables_1
theorem lw_privs_ok : ∀ q ∈ lw_privs, lw_okq q := by
  show ∀ q ∈ lw_privs_1 ++ (lw_privs_2 ++ (lw_privs_3 ++ (lw_privs_4 ++ (lw_privs_5 ++ (lw_privs_6))))), lw_okq q
  exact List.forall_mem_append.mpr ⟨lw_r1, List.forall_mem_append.mpr ⟨lw_r2, List.forall_mem_append.mpr ⟨lw_r3, List.forall_mem_append.mpr ⟨lw_r4, List.forall_mem_append.mpr ⟨lw_r5, lw_r6⟩⟩⟩⟩⟩

def ml_T : List Cond := lw_tbl.filter goodWord
theorem ml_in {w : Cond} (h : w ∈ lw_tbl) (g : goodWord w = true) : w ∈ ml_T := List.mem_filter.mpr ⟨h, g⟩
theorem ml_tA {w : Cond} (h : w ∈ tables_1) : w ∈ lw_tbl := List.mem_append_right _ h
theorem ml_t1 {w : Cond} (h : w ∈ tables_1_1) : w ∈ lw_tbl := ml_tA (show w ∈ tables_1 from List.mem_append_left _ h)
theorem ml_t2 {w : Cond} (h : w ∈ tables_1_2) : w ∈ lw_tbl := ml_tA (show w ∈ tables_1 from List.mem_append_right _ (List.mem_append_left _ h))
theorem ml_t3 {w : Cond} (h : w ∈ tables_1_3) : w ∈ lw_tbl := ml_tA (show w ∈ tables_1 from List.mem_append_right _ (List.mem_append_right _ (List.mem_append_left _ h)))
theorem ml_t4 {w : Cond} (h : w ∈ tables_1_4) : w ∈ lw_tbl := ml_tA (show w ∈ tables_1 from List.mem_append_right _ (List.mem_append_right _ (List.mem_append_right _ (List.mem_append_left _ h))))
theorem ml_t5 {w : Cond} (h : w ∈ tables_1_5) : w ∈ lw_tbl := ml_tA (show w ∈ tables_1 from List.mem_append_right _ (List.mem_append_right _ (List.mem_append_right _ (List.mem_append_right _ (List.mem_append_left _ h)))))
theorem ml_t6 {w : Cond} (h : w ∈ tables_1_6) : w ∈ lw_tbl := ml_tA (show w ∈ tables_1 from List.mem_append_right _ (List.mem_append_right _ (List.mem_append_right _ (List.mem_append_right _ (List.mem_append_right _ (List.mem_append_left _ h))))))
theorem ml_t7 {w : Cond} (h : w ∈ tables_1_7) : w ∈ lw_tbl := ml_tA (show w ∈ tables_1 from List.mem_append_right _ (List.mem_append_right _ (List.mem_append_right _ (List.mem_append_right _ (List.mem_append_right _ (List.mem_append_right _ (h)))))))
end
section
def RX0 : String := "MirrorLane$Closing"
def TX0 : u_T := fun k => match k with
  | 0 => ("MirrorLane$Closing", "joint", "[I", true)
  | _ => ("MirrorLane$Closing", "byCaps", "Z", false)
def tyX0 : Nat → FieldType := fun k => match k with
  | 0 => .array .int
  | _ => .boolean
theorem nmX0 : ∀ a, a < 2 → ∀ b, b < 2 → a ≠ b → (TX0 a).2.1 ≠ (TX0 b).2.1 := by decide +kernel
theorem tyX0_ok : ∀ k, k < 2 → parseFieldDescriptor (TX0 k).2.2.1 = some (tyX0 k) := by decide +kernel
def RX1 : String := "MirrorLane$Finder"
def TX1 : u_T := fun k => match k with
  | 0 => ("MirrorLane$Finder", "queue", "[I", true)
  | 1 => ("MirrorLane$Finder", "from", "[I", true)
  | 2 => ("MirrorLane$Finder", "by", "[I", true)
  | 3 => ("MirrorLane$Finder", "found", "[I", true)
  | 4 => ("MirrorLane$Finder", "rest", "[J", true)
  | 5 => ("MirrorLane$Finder", "size", "I", false)
  | _ => ("MirrorLane$Finder", "price", "I", false)
def tyX1 : Nat → FieldType := fun k => match k with
  | 0 => .array .int
  | 1 => .array .int
  | 2 => .array .int
  | 3 => .array .int
  | 4 => .array .long
  | 5 => .int
  | _ => .int
theorem nmX1 : ∀ a, a < 7 → ∀ b, b < 7 → a ≠ b → (TX1 a).2.1 ≠ (TX1 b).2.1 := by decide +kernel
theorem tyX1_ok : ∀ k, k < 7 → parseFieldDescriptor (TX1 k).2.2.1 = some (tyX1 k) := by decide +kernel
def RX2 : String := "MirrorLane$Grammar"
def TX2 : u_T := fun k => match k with
  | 0 => ("MirrorLane$Grammar", "text", "[B", false)
  | 1 => ("MirrorLane$Grammar", "size", "I", false)
  | 2 => ("MirrorLane$Grammar", "at", "I", false)
  | 3 => ("MirrorLane$Grammar", "depth", "I", false)
  | 4 => ("MirrorLane$Grammar", "repeatable", "Z", false)
  | 5 => ("MirrorLane$Grammar", "needsItem", "Z", false)
  | _ => ("MirrorLane$Grammar", "fault", "I", false)
def tyX2 : Nat → FieldType := fun k => match k with
  | 0 => .array .byte
  | 1 => .int
  | 2 => .int
  | 3 => .int
  | 4 => .boolean
  | 5 => .boolean
  | _ => .int
theorem nmX2 : ∀ a, a < 7 → ∀ b, b < 7 → a ≠ b → (TX2 a).2.1 ≠ (TX2 b).2.1 := by decide +kernel
theorem tyX2_ok : ∀ k, k < 7 → parseFieldDescriptor (TX2 k).2.2.1 = some (tyX2 k) := by decide +kernel
def RX3 : String := "MirrorLane$Items"
def TX3 : u_T := fun k => match k with
  | 0 => ("MirrorLane$Items", "text", "[B", false)
  | 1 => ("MirrorLane$Items", "size", "I", false)
  | 2 => ("MirrorLane$Items", "at", "I", false)
  | 3 => ("MirrorLane$Items", "kind", "I", false)
  | 4 => ("MirrorLane$Items", "value", "I", false)
  | _ => ("MirrorLane$Items", "times", "I", false)
def tyX3 : Nat → FieldType := fun k => match k with
  | 0 => .array .byte
  | 1 => .int
  | 2 => .int
  | 3 => .int
  | 4 => .int
  | _ => .int
theorem nmX3 : ∀ a, a < 6 → ∀ b, b < 6 → a ≠ b → (TX3 a).2.1 ≠ (TX3 b).2.1 := by decide +kernel
theorem tyX3_ok : ∀ k, k < 6 → parseFieldDescriptor (TX3 k).2.2.1 = some (tyX3 k) := by decide +kernel
def RX4 : String := "MirrorLane$Loom"
def TX4 : u_T := fun k => match k with
  | 0 => ("MirrorLane$Loom", "items", "LMirrorLane$Items;", true)
  | 1 => ("MirrorLane$Loom", "open", "[LMirrorLane$Weave;", true)
  | 2 => ("MirrorLane$Loom", "starts", "[I", true)
  | 3 => ("MirrorLane$Loom", "item", "LMirrorLane$Weave;", true)
  | 4 => ("MirrorLane$Loom", "base", "LMirrorLane$Weave;", true)
  | 5 => ("MirrorLane$Loom", "spare", "LMirrorLane$Weave;", true)
  | _ => ("MirrorLane$Loom", "other", "LMirrorLane$Weave;", true)
def tyX4 : Nat → FieldType := fun k => match k with
  | 0 => .object "MirrorLane$Items"
  | 1 => .array (.object "MirrorLane$Weave")
  | 2 => .array .int
  | 3 => .object "MirrorLane$Weave"
  | 4 => .object "MirrorLane$Weave"
  | 5 => .object "MirrorLane$Weave"
  | _ => .object "MirrorLane$Weave"
theorem nmX4 : ∀ a, a < 7 → ∀ b, b < 7 → a ≠ b → (TX4 a).2.1 ≠ (TX4 b).2.1 := by decide +kernel
theorem tyX4_ok : ∀ k, k < 7 → parseFieldDescriptor (TX4 k).2.2.1 = some (tyX4 k) := by decide +kernel
def RX5 : String := "MirrorLane$Mender"
def TX5 : u_T := fun k => match k with
  | 0 => ("MirrorLane$Mender", "tails", "[LMirrorLane$Weave;", true)
  | _ => ("MirrorLane$Mender", "mirror", "LMirrorLane$Weave;", true)
def tyX5 : Nat → FieldType := fun k => match k with
  | 0 => .array (.object "MirrorLane$Weave")
  | _ => .object "MirrorLane$Weave"
theorem nmX5 : ∀ a, a < 2 → ∀ b, b < 2 → a ≠ b → (TX5 a).2.1 ≠ (TX5 b).2.1 := by decide +kernel
theorem tyX5_ok : ∀ k, k < 2 → parseFieldDescriptor (TX5 k).2.2.1 = some (tyX5 k) := by decide +kernel
def RX6 : String := "MirrorLane$Powers"
def TX6 : u_T := fun k => match k with
  | 0 => ("MirrorLane$Powers", "numbers", "[I", true)
  | 1 => ("MirrorLane$Powers", "left", "[J", true)
  | 2 => ("MirrorLane$Powers", "last", "LMirrorLane$Weave;", true)
  | 3 => ("MirrorLane$Powers", "spare", "LMirrorLane$Weave;", true)
  | 4 => ("MirrorLane$Powers", "index", "I", false)
  | 5 => ("MirrorLane$Powers", "period", "I", false)
  | 6 => ("MirrorLane$Powers", "gain", "J", false)
  | 7 => ("MirrorLane$Powers", "step", "I", false)
  | 8 => ("MirrorLane$Powers", "more", "J", false)
  | _ => ("MirrorLane$Powers", "since", "I", false)
def tyX6 : Nat → FieldType := fun k => match k with
  | 0 => .array .int
  | 1 => .array .long
  | 2 => .object "MirrorLane$Weave"
  | 3 => .object "MirrorLane$Weave"
  | 4 => .int
  | 5 => .int
  | 6 => .long
  | 7 => .int
  | 8 => .long
  | _ => .int
theorem nmX6 : ∀ a, a < 10 → ∀ b, b < 10 → a ≠ b → (TX6 a).2.1 ≠ (TX6 b).2.1 := by decide +kernel
theorem tyX6_ok : ∀ k, k < 10 → parseFieldDescriptor (TX6 k).2.2.1 = some (tyX6 k) := by decide +kernel
def RX7 : String := "MirrorLane$Sentences"
def TX7 : u_T := fun k => match k with
  | 0 => ("MirrorLane$Sentences", "set", "I", false)
  | 1 => ("MirrorLane$Sentences", "letters", "I", false)
  | 2 => ("MirrorLane$Sentences", "places", "I", false)
  | 3 => ("MirrorLane$Sentences", "letter", "[I", true)
  | 4 => ("MirrorLane$Sentences", "place", "[I", true)
  | 5 => ("MirrorLane$Sentences", "next", "[I", true)
  | 6 => ("MirrorLane$Sentences", "more", "[I", true)
  | 7 => ("MirrorLane$Sentences", "closed", "[I", true)
  | 8 => ("MirrorLane$Sentences", "pairs", "[I", true)
  | 9 => ("MirrorLane$Sentences", "row", "[J", true)
  | 10 => ("MirrorLane$Sentences", "after", "[J", true)
  | 11 => ("MirrorLane$Sentences", "rowOf", "I", false)
  | 12 => ("MirrorLane$Sentences", "here", "LMirrorLane$Weave;", true)
  | _ => ("MirrorLane$Sentences", "there", "LMirrorLane$Weave;", true)
def tyX7 : Nat → FieldType := fun k => match k with
  | 0 => .int
  | 1 => .int
  | 2 => .int
  | 3 => .array .int
  | 4 => .array .int
  | 5 => .array .int
  | 6 => .array .int
  | 7 => .array .int
  | 8 => .array .int
  | 9 => .array .long
  | 10 => .array .long
  | 11 => .int
  | 12 => .object "MirrorLane$Weave"
  | _ => .object "MirrorLane$Weave"
theorem nmX7 : ∀ a, a < 14 → ∀ b, b < 14 → a ≠ b → (TX7 a).2.1 ≠ (TX7 b).2.1 := by decide +kernel
theorem tyX7_ok : ∀ k, k < 14 → parseFieldDescriptor (TX7 k).2.2.1 = some (tyX7 k) := by decide +kernel
def RX8 : String := "MirrorLane$Tape"
def TX8 : u_T := fun k => match k with
  | 0 => ("MirrorLane$Tape", "bytes", "[I", true)
  | _ => ("MirrorLane$Tape", "size", "I", false)
def tyX8 : Nat → FieldType := fun k => match k with
  | 0 => .array .int
  | _ => .int
theorem nmX8 : ∀ a, a < 2 → ∀ b, b < 2 → a ≠ b → (TX8 a).2.1 ≠ (TX8 b).2.1 := by decide +kernel
theorem tyX8_ok : ∀ k, k < 2 → parseFieldDescriptor (TX8 k).2.2.1 = some (tyX8 k) := by decide +kernel
def RX9 : String := "MirrorLane$Weave"
def TX9 : u_T := fun k => match k with
  | 0 => ("MirrorLane$Weave", "pair", "[I", true)
  | 1 => ("MirrorLane$Weave", "run", "[J", true)
  | 2 => ("MirrorLane$Weave", "loops", "J", false)
  | 3 => ("MirrorLane$Weave", "longest", "J", false)
  | 4 => ("MirrorLane$Weave", "total", "J", false)
  | 5 => ("MirrorLane$Weave", "signs", "J", false)
  | 6 => ("MirrorLane$Weave", "crosses", "Z", false)
  | _ => ("MirrorLane$Weave", "turns", "Z", false)
def tyX9 : Nat → FieldType := fun k => match k with
  | 0 => .array .int
  | 1 => .array .long
  | 2 => .long
  | 3 => .long
  | 4 => .long
  | 5 => .long
  | 6 => .boolean
  | _ => .boolean
theorem nmX9 : ∀ a, a < 8 → ∀ b, b < 8 → a ≠ b → (TX9 a).2.1 ≠ (TX9 b).2.1 := by decide +kernel
theorem tyX9_ok : ∀ k, k < 8 → parseFieldDescriptor (TX9 k).2.2.1 = some (tyX9 k) := by decide +kernel
def RX10 : String := "MirrorLane$Word"
def TX10 : u_T := fun k => match k with
  | 0 => ("MirrorLane$Word", "text", "[B", true)
  | 1 => ("MirrorLane$Word", "size", "I", false)
  | 2 => ("MirrorLane$Word", "plain", "Z", false)
  | 3 => ("MirrorLane$Word", "price", "I", false)
  | 4 => ("MirrorLane$Word", "made", "LMirrorLane$Weave;", true)
  | 5 => ("MirrorLane$Word", "row", "[B", true)
  | 6 => ("MirrorLane$Word", "rowSize", "I", false)
  | _ => ("MirrorLane$Word", "written", "Z", false)
def tyX10 : Nat → FieldType := fun k => match k with
  | 0 => .array .byte
  | 1 => .int
  | 2 => .boolean
  | 3 => .int
  | 4 => .object "MirrorLane$Weave"
  | 5 => .array .byte
  | 6 => .int
  | _ => .boolean
theorem nmX10 : ∀ a, a < 8 → ∀ b, b < 8 → a ≠ b → (TX10 a).2.1 ≠ (TX10 b).2.1 := by decide +kernel
theorem tyX10_ok : ∀ k, k < 8 → parseFieldDescriptor (TX10 k).2.2.1 = some (tyX10 k) := by decide +kernel
def RX11 : String := "MirrorLane"
def TX11 : u_T := fun k => match k with
  | 0 => ("MirrorLane", "tape", "LMirrorLane$Tape;", true)
  | 1 => ("MirrorLane", "closing", "LMirrorLane$Closing;", true)
  | 2 => ("MirrorLane", "grammar", "LMirrorLane$Grammar;", true)
  | 3 => ("MirrorLane", "loom", "LMirrorLane$Loom;", true)
  | 4 => ("MirrorLane", "powers", "LMirrorLane$Powers;", true)
  | 5 => ("MirrorLane", "sentences", "LMirrorLane$Sentences;", true)
  | 6 => ("MirrorLane", "finder", "LMirrorLane$Finder;", true)
  | 7 => ("MirrorLane", "mender", "LMirrorLane$Mender;", true)
  | 8 => ("MirrorLane", "words", "[LMirrorLane$Word;", true)
  | 9 => ("MirrorLane", "draft", "[B", true)
  | 10 => ("MirrorLane", "woven", "LMirrorLane$Weave;", true)
  | 11 => ("MirrorLane", "h", "I", false)
  | _ => ("MirrorLane", "told", "I", false)
def tyX11 : Nat → FieldType := fun k => match k with
  | 0 => .object "MirrorLane$Tape"
  | 1 => .object "MirrorLane$Closing"
  | 2 => .object "MirrorLane$Grammar"
  | 3 => .object "MirrorLane$Loom"
  | 4 => .object "MirrorLane$Powers"
  | 5 => .object "MirrorLane$Sentences"
  | 6 => .object "MirrorLane$Finder"
  | 7 => .object "MirrorLane$Mender"
  | 8 => .array (.object "MirrorLane$Word")
  | 9 => .array .byte
  | 10 => .object "MirrorLane$Weave"
  | 11 => .int
  | _ => .int
theorem nmX11 : ∀ a, a < 13 → ∀ b, b < 13 → a ≠ b → (TX11 a).2.1 ≠ (TX11 b).2.1 := by decide +kernel
theorem tyX11_ok : ∀ k, k < 13 → parseFieldDescriptor (TX11 k).2.2.1 = some (tyX11 k) := by decide +kernel
def RX12 : String := "MirrorLaneModel"
def TX12 : u_T := fun k => match k with
  | 0 => ("MirrorLaneModel", "tape", "[B", true)
  | 1 => ("MirrorLaneModel", "taped", "I", false)
  | 2 => ("MirrorLaneModel", "h", "I", false)
  | 3 => ("MirrorLaneModel", "words", "I", false)
  | 4 => ("MirrorLaneModel", "isCapped", "Z", false)
  | 5 => ("MirrorLaneModel", "cap", "[I", true)
  | 6 => ("MirrorLaneModel", "text", "[B", true)
  | 7 => ("MirrorLaneModel", "size", "[I", true)
  | 8 => ("MirrorLaneModel", "cost", "[I", true)
  | 9 => ("MirrorLaneModel", "place", "I", false)
  | 10 => ("MirrorLaneModel", "end", "I", false)
  | 11 => ("MirrorLaneModel", "bad", "I", false)
  | 12 => ("MirrorLaneModel", "open", "I", false)
  | 13 => ("MirrorLaneModel", "crosses", "[J", true)
  | 14 => ("MirrorLaneModel", "backs", "[J", true)
  | 15 => ("MirrorLaneModel", "accX", "[J", true)
  | 16 => ("MirrorLaneModel", "accU", "[J", true)
  | 17 => ("MirrorLaneModel", "lastX", "[J", true)
  | 18 => ("MirrorLaneModel", "lastU", "[J", true)
  | 19 => ("MirrorLaneModel", "readAt", "I", false)
  | 20 => ("MirrorLaneModel", "readWord", "I", false)
  | 21 => ("MirrorLaneModel", "pair", "[I", true)
  | 22 => ("MirrorLaneModel", "length", "[J", true)
  | 23 => ("MirrorLaneModel", "within", "[J", true)
  | 24 => ("MirrorLaneModel", "longest", "[J", true)
  | 25 => ("MirrorLaneModel", "together", "[J", true)
  | 26 => ("MirrorLaneModel", "isSeen", "[Z", true)
  | 27 => ("MirrorLaneModel", "went", "J", false)
  | 28 => ("MirrorLaneModel", "old", "[B", true)
  | 29 => ("MirrorLaneModel", "isDone", "[Z", true)
  | 30 => ("MirrorLaneModel", "codes", "[J", true)
  | 31 => ("MirrorLaneModel", "lefts", "[J", true)
  | 32 => ("MirrorLaneModel", "index", "I", false)
  | 33 => ("MirrorLaneModel", "period", "I", false)
  | 34 => ("MirrorLaneModel", "known", "I", false)
  | 35 => ("MirrorLaneModel", "gains", "J", false)
  | 36 => ("MirrorLaneModel", "firstOf", "J", false)
  | 37 => ("MirrorLaneModel", "foundFirst", "J", false)
  | 38 => ("MirrorLaneModel", "letters", "I", false)
  | 39 => ("MirrorLaneModel", "states", "I", false)
  | 40 => ("MirrorLaneModel", "letter", "[I", true)
  | 41 => ("MirrorLaneModel", "stateCode", "[J", true)
  | 42 => ("MirrorLaneModel", "statePair", "[B", true)
  | 43 => ("MirrorLaneModel", "next", "[I", true)
  | 44 => ("MirrorLaneModel", "more", "[I", true)
  | 45 => ("MirrorLaneModel", "firstState", "[I", true)
  | 46 => ("MirrorLaneModel", "closed", "[I", true)
  | 47 => ("MirrorLaneModel", "ways", "[J", true)
  | 48 => ("MirrorLaneModel", "then", "[J", true)
  | 49 => ("MirrorLaneModel", "isCome", "[Z", true)
  | 50 => ("MirrorLaneModel", "queue", "[I", true)
  | 51 => ("MirrorLaneModel", "cameFrom", "[I", true)
  | 52 => ("MirrorLaneModel", "cameBy", "[I", true)
  | 53 => ("MirrorLaneModel", "queued", "I", false)
  | 54 => ("MirrorLaneModel", "price", "[I", true)
  | 55 => ("MirrorLaneModel", "steps", "[I", true)
  | 56 => ("MirrorLaneModel", "kinds", "[I", true)
  | 57 => ("MirrorLaneModel", "rails", "[I", true)
  | 58 => ("MirrorLaneModel", "written", "[B", true)
  | 59 => ("MirrorLaneModel", "writtenMany", "[I", true)
  | 60 => ("MirrorLaneModel", "itemFrom", "[I", true)
  | _ => ("MirrorLaneModel", "wrote", "I", false)
def tyX12 : Nat → FieldType := fun k => match k with
  | 0 => .array .byte
  | 1 => .int
  | 2 => .int
  | 3 => .int
  | 4 => .boolean
  | 5 => .array .int
  | 6 => .array .byte
  | 7 => .array .int
  | 8 => .array .int
  | 9 => .int
  | 10 => .int
  | 11 => .int
  | 12 => .int
  | 13 => .array .long
  | 14 => .array .long
  | 15 => .array .long
  | 16 => .array .long
  | 17 => .array .long
  | 18 => .array .long
  | 19 => .int
  | 20 => .int
  | 21 => .array .int
  | 22 => .array .long
  | 23 => .array .long
  | 24 => .array .long
  | 25 => .array .long
  | 26 => .array .boolean
  | 27 => .long
  | 28 => .array .byte
  | 29 => .array .boolean
  | 30 => .array .long
  | 31 => .array .long
  | 32 => .int
  | 33 => .int
  | 34 => .int
  | 35 => .long
  | 36 => .long
  | 37 => .long
  | 38 => .int
  | 39 => .int
  | 40 => .array .int
  | 41 => .array .long
  | 42 => .array .byte
  | 43 => .array .int
  | 44 => .array .int
  | 45 => .array .int
  | 46 => .array .int
  | 47 => .array .long
  | 48 => .array .long
  | 49 => .array .boolean
  | 50 => .array .int
  | 51 => .array .int
  | 52 => .array .int
  | 53 => .int
  | 54 => .array .int
  | 55 => .array .int
  | 56 => .array .int
  | 57 => .array .int
  | 58 => .array .byte
  | 59 => .array .int
  | 60 => .array .int
  | _ => .int
theorem nmX12 : ∀ a, a < 62 → ∀ b, b < 62 → a ≠ b → (TX12 a).2.1 ≠ (TX12 b).2.1 := by decide +kernel
theorem tyX12_ok : ∀ k, k < 62 → parseFieldDescriptor (TX12 k).2.2.1 = some (tyX12 k) := by decide +kernel
def RJ6 : String := "java/lang/Integer"
def TJ6 : u_T := fun k => match k with
  | _ => ("", "", "", false)
def tyJ6 : Nat → FieldType := fun k => match k with
  | _ => .int
def RJ9 : String := "java/lang/Math"
def TJ9 : u_T := fun k => match k with
  | _ => ("", "", "", false)
def tyJ9 : Nat → FieldType := fun k => match k with
  | _ => .int
def RJ10 : String := "java/lang/System"
def TJ10 : u_T := fun k => match k with
  | _ => ("", "", "", false)
def tyJ10 : Nat → FieldType := fun k => match k with
  | _ => .int
def RJ7 : String := "java/util/Arrays"
def TJ7 : u_T := fun k => match k with
  | _ => ("", "", "", false)
def tyJ7 : Nat → FieldType := fun k => match k with
  | _ => .int
def RL : String := "MirrorLaneLaw"
def ml_lays : List (Nat × Nat) := [(21, 13), (18, 2), (1, 200), (10, 2), (1, 10), (12, 7), (2, 0), (14, 7), (13, 6), (2, 0), (5, 7), (1, 7), (19, 8), (1, 10), (4, 10), (19, 8), (1, 10), (4, 10), (19, 8), (1, 10), (4, 10), (19, 8), (1, 10), (4, 10), (19, 8), (1, 10), (4, 10), (19, 8), (1, 10), (4, 10), (19, 8), (1, 10), (4, 10), (19, 8), (1, 10), (4, 10), (19, 8), (1, 10), (4, 10), (19, 8), (1, 10), (4, 10), (19, 8), (1, 10), (4, 10), (16, 10), (1, 65), (4, 65), (19, 8), (1, 10), (4, 10), (19, 8), (1, 10), (4, 10), (17, 14), (1, 6), (1, 945), (1, 5676), (1, 5676), (1, 946), (1, 9460), (4, 2838), (4, 2838), (19, 8), (1, 10), (4, 10), (19, 8), (1, 10), (4, 10), (11, 7), (1, 2838), (1, 2838), (1, 2838), (1, 2838), (4, 946), (15, 2), (5, 11), (19, 8), (1, 10), (4, 10), (19, 8), (1, 10), (4, 10), (19, 8), (1, 10), (4, 10), (19, 8), (1, 10), (4, 10), (19, 8), (1, 10), (4, 10), (19, 8), (1, 10), (4, 10), (19, 8), (1, 10), (4, 10), (19, 8), (1, 10), (4, 10), (19, 8), (1, 10), (4, 10), (19, 8), (1, 10), (4, 10), (19, 8), (1, 10), (4, 10), (19, 8), (1, 10), (4, 10), (6, 16), (2, 100), (19, 8), (1, 10), (4, 10), (20, 8), (2, 100), (19, 8), (1, 10), (4, 10), (2, 2000), (20, 8), (2, 100), (19, 8), (1, 10), (4, 10), (2, 2000), (20, 8), (2, 100), (19, 8), (1, 10), (4, 10), (2, 2000), (20, 8), (2, 100), (19, 8), (1, 10), (4, 10), (2, 2000), (20, 8), (2, 100), (19, 8), (1, 10), (4, 10), (2, 2000), (20, 8), (2, 100), (19, 8), (1, 10), (4, 10), (2, 2000), (20, 8), (2, 100), (19, 8), (1, 10), (4, 10), (2, 2000), (20, 8), (2, 100), (19, 8), (1, 10), (4, 10), (2, 2000), (20, 8), (2, 100), (19, 8), (1, 10), (4, 10), (2, 2000), (20, 8), (2, 100), (19, 8), (1, 10), (4, 10), (2, 2000), (20, 8), (2, 100), (19, 8), (1, 10), (4, 10), (2, 2000), (20, 8), (2, 100), (19, 8), (1, 10), (4, 10), (2, 2000), (20, 8), (2, 100), (19, 8), (1, 10), (4, 10), (2, 2000), (20, 8), (2, 100), (19, 8), (1, 10), (4, 10), (2, 2000), (20, 8), (2, 100), (19, 8), (1, 10), (4, 10), (2, 2000), (20, 8), (2, 100), (19, 8), (1, 10), (4, 10), (2, 2000), (22, 62), (2, 200), (1, 10), (2, 1600), (1, 16), (1, 16), (4, 16), (4, 16), (4, 8), (4, 8), (4, 8), (4, 8), (1, 640), (4, 640), (4, 64), (4, 64), (4, 64), (3, 5), (2, 100), (3, 10), (4, 1000), (4, 2900), (1, 6), (4, 950), (2, 9500), (1, 5700), (1, 5700), (1, 6), (1, 950), (4, 3800), (4, 3800), (3, 3800), (1, 3800), (1, 3800), (1, 3800), (1, 950), (1, 950), (1, 10), (1, 10), (2, 32000), (1, 16), (1, 8)]
def ml_ty (c j : Nat) : FieldType := match c with
  | 0 => tyX0 j
  | 1 => tyX1 j
  | 2 => tyX2 j
  | 3 => tyX3 j
  | 4 => tyX4 j
  | 5 => tyX5 j
  | 6 => tyX6 j
  | 7 => tyX7 j
  | 8 => tyX8 j
  | 9 => tyX9 j
  | 10 => tyX10 j
  | 11 => tyX11 j
  | _ => tyX12 j
abbrev ml_cls : List vw_C := [(RX0, TX0, 2), (RX1, TX1, 7), (RX2, TX2, 7), (RX3, TX3, 6), (RX4, TX4, 7), (RX5, TX5, 2), (RX6, TX6, 10), (RX7, TX7, 14), (RX8, TX8, 2), (RX9, TX9, 8), (RX10, TX10, 8), (RX11, TX11, 13), (RX12, TX12, 62)]
def ml_rofT (t : Nat) (k j : Int) : Int := match t with
  | 10 => if j = 0 then 5 else 0
  | 11 => if j = 0 then 71 else if j = 1 then 72 else if j = 2 then 73 else if j = 3 then 74 else if j = 4 then 75 else 0
  | 14 => if j = 0 then 9 else if j = 1 then 11 else if j = 2 then 12 else if j = 3 then 13 else if j = 4 then 16 else if j = 5 then 19 else if j = 6 then 22 else 0
  | 15 => if j = 0 then 77 else if j = 1 then 78 else 0
  | 16 => if j = 0 then 47 else if j = 1 then 48 else if j = 2 then 49 else if j = 3 then 52 else 0
  | 17 => if j = 3 then 56 else if j = 4 then 57 else if j = 5 then 58 else if j = 6 then 59 else if j = 7 then 60 else if j = 8 then 61 else if j = 9 then 62 else if j = 10 then 63 else if j = 12 then 64 else if j = 13 then 67 else 0
  | 18 => if j = 0 then 3 else 0
  | 19 => if j = 0 then k + 1 else if j = 1 then k + 2 else 0
  | 20 => if j = 0 then k + 1 else if j = 4 then k + 2 else if j = 5 then k + 5 else 0
  | 21 => if j = 0 then 2 else if j = 1 then 4 else if j = 2 then 6 else if j = 3 then 8 else if j = 4 then 46 else if j = 5 then 55 else if j = 6 then 70 else if j = 7 then 76 else if j = 8 then 114 else if j = 9 then 115 else if j = 10 then 116 else 0
  | 22 => if j = 0 then 216 else if j = 5 then 217 else if j = 6 then 218 else if j = 7 then 219 else if j = 8 then 220 else if j = 13 then 221 else if j = 14 then 222 else if j = 15 then 223 else if j = 16 then 224 else if j = 17 then 225 else if j = 18 then 226 else if j = 21 then 227 else if j = 22 then 228 else if j = 23 then 229 else if j = 24 then 230 else if j = 25 then 231 else if j = 26 then 232 else if j = 28 then 233 else if j = 29 then 234 else if j = 30 then 235 else if j = 31 then 236 else if j = 40 then 237 else if j = 41 then 238 else if j = 42 then 239 else if j = 43 then 240 else if j = 44 then 241 else if j = 45 then 242 else if j = 46 then 243 else if j = 47 then 244 else if j = 48 then 245 else if j = 49 then 246 else if j = 50 then 247 else if j = 51 then 248 else if j = 52 then 249 else if j = 54 then 250 else if j = 55 then 251 else if j = 56 then 252 else if j = 57 then 253 else if j = 58 then 254 else if j = 59 then 255 else if j = 60 then 256 else 0
  | 5 => if k = 11 then (if 0 ≤ j ∧ j < 7 then 25 + 3 * j else 0) else (if 0 ≤ j ∧ j < 11 then 81 + 3 * j else 0)
  | 6 => if 0 ≤ j ∧ j < 16 then 119 + 6 * j else 0
  | _ => 0
def ml_layT (k : Int) : Nat × Nat := if k < 1 then (0, 0) else ml_lays.getD (k.toNat - 1) (0, 0)
def ml_rof (k j : Int) : Int := ml_rofT (ml_layT k).1 k j
end
section
/-! THE STORE: object ids and places, all whole numbers; the heap is a picture of it -/
abbrev ml_St : Type := Int → Int → Int
def ml_up (σ : ml_St) (k i v : Int) : ml_St := fun a b => if a = k ∧ b = i then v else σ a b
def I32 (x : Int) : Prop := -2147483648 ≤ x ∧ x ≤ 2147483647
def I64 (x : Int) : Prop := -9223372036854775808 ≤ x ∧ x ≤ 9223372036854775807
def ml_B (x : Int) : Prop := 0 ≤ x ∧ x ≤ 1
def ml_I8 (x : Int) : Prop := -128 ≤ x ∧ x ≤ 127
theorem ml_B.i {x : Int} (h : ml_B x) : I32 x := ⟨by have := h.1; omega, by have := h.2; omega⟩
theorem ml_I8.i {x : Int} (h : ml_I8 x) : I32 x := ⟨by have := h.1; omega, by have := h.2; omega⟩
theorem I32.l {x : Int} (h : I32 x) : I64 x := ⟨by have := h.1; omega, by have := h.2; omega⟩
abbrev ml_lay (k : Int) : Nat × Nat := ml_layT k
def ml_at (n : Nat) (k : Int) (kd : Nat × Nat) : Prop := 1 ≤ k ∧ k ≤ n ∧ ml_lay k = kd
def ml_fv (base : Nat) (ty : FieldType) (x : Int) : Value := match ty with
  | .long => .long (Int64.ofInt x)
  | .object _ => if x = 0 then .null else .ref (base + x.toNat)
  | .array _ => if x = 0 then .null else .ref (base + x.toNat)
  | _ => .int (Int32.ofInt x)
def ml_ro (base : Nat) (x : Int) : Option Nat := if x = 0 then none else some (base + x.toNat)
def ml_cell (base : Nat) (cA : Nat → ClassId) (kd : Nat × Nat) (f : Int → Int) : va_E := match kd.1 with
  | 1 => .inl (cA 1, kd.2, .inl (fun j => Int32.ofInt (f j)))
  | 2 => .inl (cA 2, kd.2, .inl (fun j => Int32.ofInt (f j)))
  | 3 => .inl (cA 3, kd.2, .inl (fun j => Int32.ofInt (f j)))
  | 4 => .inl (cA 4, kd.2, .inr (.inl (fun j => Int64.ofInt (f j))))
  | 5 => .inl (cA 5, kd.2, .inr (.inr (.inr (.inr (fun j => ml_ro base (f j))))))
  | 6 => .inl (cA 6, kd.2, .inr (.inr (.inr (.inr (fun j => ml_ro base (f j))))))
  | t => .inr (t - 10, (List.range kd.2).map fun j => ml_fv base (ml_ty (t - 10) j) (f j))
def ml_cells (base : Nat) (cA : Nat → ClassId) (n : Nat) (σ : ml_St) : va_W := (List.range n).map fun i => (base + (i + 1), ml_cell base cA (ml_lay ((i : Int) + 1)) (σ ((i : Int) + 1)))
/-- what kind of number stands at a place: 1 int, 2 byte, 3 boolean, 4 long, else a reference -/
def ml_fe (ty : FieldType) : Nat := match ty with
  | .long => 4
  | .boolean => 3
  | .int => 1
  | .byte => 2
  | _ => 5
def ml_et (k j : Int) : Nat := if (ml_lay k).1 < 10 then (ml_lay k).1 else ml_fe (ml_ty ((ml_lay k).1 - 10) j.toNat)
def ml_rg (e : Nat) (x : Int) : Prop := match e with
  | 1 => I32 x
  | 2 => ml_I8 x
  | 3 => ml_B x
  | 4 => I64 x
  | _ => 0 ≤ x
def ml_ok (n : Nat) (σ : ml_St) : Prop := ∀ k j : Int, 1 ≤ k → k ≤ n → 0 ≤ j → ml_rg (ml_et k j) (σ k j)
def ml_RO (n : Nat) (σ : ml_St) : Prop := ∀ k j : Int, 1 ≤ k → k ≤ n → ml_rof k j ≠ 0 → σ k j = ml_rof k j
def ml_A (base : Nat) : Nat → Prop := fun q => base < q
def ml_tys (cA : Nat → ClassId) : List (ClassId × FieldType) := [(cA 1, .int), (cA 1, .int), (cA 2, .byte), (cA 3, .boolean), (cA 4, .long), (cA 5, .object "MirrorLane$Weave"), (cA 6, .object "MirrorLane$Word")]
theorem ml_cells_get {base : Nat} {cA : Nat → ClassId} {n : Nat} {σ : ml_St} {k : Int} {kd : Nat × Nat} (h : ml_at n k kd) : (ml_cells base cA n σ)[k.toNat - 1]? = some (base + k.toNat, ml_cell base cA kd (σ k)) := by
  obtain ⟨h1, h2, h3⟩ := h
  obtain ⟨i, rfl⟩ : ∃ i : Nat, k = (i : Int) + 1 := ⟨(k - 1).toNat, by omega⟩
  have e : ((i : Int) + 1).toNat = i + 1 := by omega
  have hi : i < n := by omega
  rw [e, ← h3]
  simp [ml_cells, hi]
theorem ml_cells_at {base : Nat} {cA : Nat → ClassId} {n : Nat} {σ : ml_St} {i : Nat} {q : Nat × va_E} (h : (ml_cells base cA n σ)[i]? = some q) : i < n ∧ q = (base + (i + 1), ml_cell base cA (ml_lay ((i : Int) + 1)) (σ ((i : Int) + 1))) := by
  have hi : i < n := by
    have := (List.getElem?_eq_some_iff.mp h).1
    simpa [ml_cells] using this
  refine ⟨hi, ?_⟩
  simp [ml_cells, hi] at h
  exact h.symm
theorem ml_cells_D (base : Nat) (cA : Nat → ClassId) (n : Nat) (σ : ml_St) : va_D (ml_A base) (ml_cells base cA n σ) := by
  constructor
  · intro i j p q hp hq e
    rw [(ml_cells_at hp).2, (ml_cells_at hq).2] at e
    have e : base + (i + 1) = base + (j + 1) := e
    omega
  · intro k q hq
    rw [(ml_cells_at hq).2]
    show base < base + (k + 1)
    omega
theorem ml_cells_set {base : Nat} {cA : Nat → ClassId} {n : Nat} {σ σ' : ml_St} {k : Int} {kd : Nat × Nat} {x : va_E} (h : ml_at n k kd) (hx : x = ml_cell base cA kd (σ' k)) (ho : ∀ a : Int, a ≠ k → σ' a = σ a) : (ml_cells base cA n σ).set (k.toNat - 1) (base + k.toNat, x) = ml_cells base cA n σ' := by
  obtain ⟨h1, h2, h3⟩ := h
  obtain ⟨i, rfl⟩ : ∃ i : Nat, k = (i : Int) + 1 := ⟨(k - 1).toNat, by omega⟩
  have e : ((i : Int) + 1).toNat = i + 1 := by omega
  subst hx
  rw [e, ← h3]
  apply List.ext_getElem?
  intro j
  rw [List.getElem?_set]
  by_cases hj : i + 1 - 1 = j
  · have hji : i = j := by omega
    subst hji
    have hi : i < n := by omega
    simp [ml_cells, hi]
  · rw [if_neg hj]
    by_cases hn : j < n
    · have hne : (j : Int) + 1 ≠ (i : Int) + 1 := by omega
      simp [ml_cells, hn, ho _ hne]
    · simp [ml_cells, hn]
theorem ml_cells_push (base : Nat) (cA : Nat → ClassId) (n : Nat) (σ : ml_St) : ml_cells base cA (n + 1) σ = ml_cells base cA n σ ++ [(base + (n + 1), ml_cell base cA (ml_lay ((n : Int) + 1)) (σ ((n : Int) + 1)))] := by
  simp [ml_cells, List.range_succ]
theorem ml_up_same (σ : ml_St) (k i v : Int) : ml_up σ k i v k i = v := by simp [ml_up]
theorem ml_up_k {σ : ml_St} {k i v a : Int} (h : a ≠ k) : ml_up σ k i v a = σ a := by funext b; simp [ml_up, h]
theorem ml_up_i {σ : ml_St} {k i v a b : Int} (h : b ≠ i) : ml_up σ k i v a b = σ a b := by simp [ml_up, h]
theorem ml_ok_up {n : Nat} {σ : ml_St} {k i v : Int} (h : ml_ok n σ) (hv : ml_rg (ml_et k i) v) : ml_ok n (ml_up σ k i v) := by
  intro a b h1 h2 h3
  by_cases e : a = k ∧ b = i
  · rw [e.1, e.2, ml_up_same]; exact hv
  · simp only [ml_up, e, if_false]; exact h a b h1 h2 h3
theorem ml_RO_up {n : Nat} {σ : ml_St} {k i v : Int} (h : ml_RO n σ) (hv : ml_rof k i = 0) : ml_RO n (ml_up σ k i v) := by
  intro a b h1 h2 h3
  by_cases e : a = k ∧ b = i
  · rw [e.1, e.2] at h3; exact absurd hv h3
  · simp only [ml_up, e, if_false]; exact h a b h1 h2 h3
theorem ml_32 {x : Int} (h : I32 x) : (Int32.ofInt x).toInt = x := Int32.toInt_ofInt_of_le (by have := h.1; omega) (by have := h.2; omega)
theorem ml_64 {x : Int} (h : I64 x) : (Int64.ofInt x).toInt = x := Int64.toInt_ofInt_of_le (by have := h.1; omega) (by have := h.2; omega)
theorem ml_r32 (x : Int32) : I32 x.toInt := ⟨Int32.le_toInt x, by have := Int32.toInt_lt x; omega⟩
theorem ml_r64 (x : Int64) : I64 x.toInt := ⟨Int64.le_toInt x, by have := Int64.toInt_lt x; omega⟩
theorem ml_lt {x y : Int} (hx : I32 x) (hy : I32 y) : Int32.ofInt x < Int32.ofInt y ↔ x < y := by rw [Int32.lt_iff_toInt_lt, ml_32 hx, ml_32 hy]
theorem ml_le {x y : Int} (hx : I32 x) (hy : I32 y) : Int32.ofInt x ≤ Int32.ofInt y ↔ x ≤ y := by rw [Int32.le_iff_toInt_le, ml_32 hx, ml_32 hy]
theorem ml_eq {x y : Int} (hx : I32 x) (hy : I32 y) : Int32.ofInt x = Int32.ofInt y ↔ x = y := by rw [← Int32.toInt_inj, ml_32 hx, ml_32 hy]
theorem ml_llt {x y : Int} (hx : I64 x) (hy : I64 y) : Int64.ofInt x < Int64.ofInt y ↔ x < y := by rw [Int64.lt_iff_toInt_lt, ml_64 hx, ml_64 hy]
theorem ml_leq {x y : Int} (hx : I64 x) (hy : I64 y) : Int64.ofInt x = Int64.ofInt y ↔ x = y := by rw [← Int64.toInt_inj, ml_64 hx, ml_64 hy]
theorem ml_i0 : I32 0 := ⟨by decide, by decide⟩
theorem ml_cl {x : Int} (h0 : 0 ≤ x) (h1 : x ≤ 2147483647) : (Int32.ofInt x).toNatClampNeg = x.toNat := by
  show (Int32.ofInt x).toInt.toNat = x.toNat
  rw [ml_32 ⟨by omega, h1⟩]
theorem ml_vin {x : Int} {N : Nat} (h0 : 0 ≤ x) (h1 : x < N) (hN : N ≤ 100000) : vp_in (Int32.ofInt x) N := by
  rw [vp_in_iff, ml_32 ⟨by omega, by omega⟩]
  exact ⟨h0, h1⟩
theorem ml_len {n : Nat} {k : Int} {kd : Nat × Nat} (h : ml_at n k kd) : kd.2 ≤ 100000 := by
  rw [← h.2.2]
  unfold ml_lay ml_layT
  split
  · decide
  · have h2 : ∀ q ∈ ml_lays, q.2 ≤ 100000 := by decide +kernel
    by_cases hi : k.toNat - 1 < ml_lays.length
    · rw [List.getD_eq_getElem?_getD, List.getElem?_eq_getElem hi]
      exact h2 _ (List.getElem_mem hi)
    · rw [List.getD_eq_getElem?_getD, List.getElem?_eq_none (by omega)]
      decide
end
section
/-! THE JUDGEMENT over the store, and its rows -/
def ml_X (p : Program) (s : State) (m : MethodId) (c : Code) (meth : Method) (args : Array Value) (D : va_G) (cA : Nat → ClassId) (cc : ByteArray) (nL : Nat) (own : String) (rt : Option FieldType) : Prop :=
  p.tables.exec = Jvm.exec ∧ c.code = cc ∧ c.maxLocals = nL ∧ s.vm.findClass own = some m.cls ∧ (∀ w ∈ ml_T, w.before args s = true) ∧ va_K D ml_cls (ml_tys cA) s ∧ meth.locks = false ∧ meth.sig.returnType = rt
def ml_V (p : Program) (l : Launch) (e : Env) (R : Room) (s : State) (m : MethodId) (args : Array Value) (below : List Frame) (meth : Method) (c : Code) (Q : State → Prop) (base : Nat) (D : va_G) (cA : Nat → ClassId) (kc ks rr n : Nat) (σ : ml_St) (g : JFrame) : Prop :=
  ∀ (H : Heap) (locs : List Loc), va_P D ml_cls (ml_cells base cA n σ) H → va_S (ml_A base) s.heap H locs → ml_ok n σ → ml_RO rr σ → W p l e R s m args below meth c H locs kc ks Q g
section MLV
variable {p : Program} {l : Launch} {e : Env} {R : Room} {s : State} {m : MethodId} {args : Array Value} {below : List Frame} {meth : Method} {c : Code} {Q : State → Prop} {base : Nat} {D : va_G} {cA : Nat → ClassId} {kc ks rr n : Nat} {σ : ml_St} {cc : ByteArray} {nL pc : Nat} {own : String} {rt : Option FieldType} {ls : Array Slot} {rest : List Value} {lst : List (Nat × Value)}
theorem ml_iconst (X : ml_X p s m c meth args D cA cc nL own rt) {v : Int} (d : decode cc pc = .ok (.iconst v, 1)) (k : ml_V p l e R s m args below meth c Q base D cA kc ks rr n σ (F0 m (pc + 1) ls (.int (Int32.ofInt v) :: rest))) : ml_V p l e R s m args below meth c Q base D cA kc ks rr n σ (F0 m (pc) ls (rest)) := fun H locs h1 h2 h3 h4 => lv_iconst X.1 X.2.1 d rfl (k H locs h1 h2 h3 h4)
theorem ml_bipush (X : ml_X p s m c meth args D cA cc nL own rt) {v : Int} (d : decode cc pc = .ok (.bipush v, 2)) (hv : (Int8.ofInt v).toInt32 = Int32.ofInt v) (k : ml_V p l e R s m args below meth c Q base D cA kc ks rr n σ (F0 m (pc + 2) ls (.int (Int32.ofInt v) :: rest))) : ml_V p l e R s m args below meth c Q base D cA kc ks rr n σ (F0 m (pc) ls (rest)) := fun H locs h1 h2 h3 h4 => lv_bipush X.1 X.2.1 d hv (k H locs h1 h2 h3 h4)
theorem ml_sipush (X : ml_X p s m c meth args D cA cc nL own rt) {v : Int} (d : decode cc pc = .ok (.sipush v, 3)) (hv : (Int16.ofInt v).toInt32 = Int32.ofInt v) (k : ml_V p l e R s m args below meth c Q base D cA kc ks rr n σ (F0 m (pc + 3) ls (.int (Int32.ofInt v) :: rest))) : ml_V p l e R s m args below meth c Q base D cA kc ks rr n σ (F0 m (pc) ls (rest)) := fun H locs h1 h2 h3 h4 => lv_sipush X.1 X.2.1 d hv (k H locs h1 h2 h3 h4)
theorem ml_ldcw (X : ml_X p s m c meth args D cA cc nL own rt) {ix : Nat} {v : Int} (d : decode cc pc = .ok (.ldc_w ix, 3)) (hc : Cond.constant own ix (Int32.ofInt v) ∈ ml_T) (k : ml_V p l e R s m args below meth c Q base D cA kc ks rr n σ (F0 m (pc + 3) ls (.int (Int32.ofInt v) :: rest))) : ml_V p l e R s m args below meth c Q base D cA kc ks rr n σ (F0 m (pc) ls (rest)) := fun H locs h1 h2 h3 h4 => lv_ldcw X.1 X.2.1 X.2.2.2.1 (X.2.2.2.2.1 _ hc) d (k H locs h1 h2 h3 h4)
theorem ml_lconst0 (X : ml_X p s m c meth args D cA cc nL own rt) (d : decode cc pc = .ok (.lconst 0, 1)) (k : ml_V p l e R s m args below meth c Q base D cA kc ks rr n σ (F0 m (pc + 1) ls (.long (Int64.ofInt 0) :: rest))) : ml_V p l e R s m args below meth c Q base D cA kc ks rr n σ (F0 m (pc) ls (rest)) := fun H locs h1 h2 h3 h4 => lv_lconst X.1 X.2.1 d rfl (k H locs h1 h2 h3 h4)
theorem ml_lconst1 (X : ml_X p s m c meth args D cA cc nL own rt) (d : decode cc pc = .ok (.lconst 1, 1)) (k : ml_V p l e R s m args below meth c Q base D cA kc ks rr n σ (F0 m (pc + 1) ls (.long (Int64.ofInt 1) :: rest))) : ml_V p l e R s m args below meth c Q base D cA kc ks rr n σ (F0 m (pc) ls (rest)) := fun H locs h1 h2 h3 h4 => lv_lconst X.1 X.2.1 d rfl (k H locs h1 h2 h3 h4)
theorem ml_ldc2 (X : ml_X p s m c meth args D cA cc nL own rt) {ix : Nat} {v : Int} (d : decode cc pc = .ok (.ldc2_w ix, 3)) (hc : Cond.constantLong own ix (Int64.ofInt v) ∈ ml_T) (k : ml_V p l e R s m args below meth c Q base D cA kc ks rr n σ (F0 m (pc + 3) ls (.long (Int64.ofInt v) :: rest))) : ml_V p l e R s m args below meth c Q base D cA kc ks rr n σ (F0 m (pc) ls (rest)) := fun H locs h1 h2 h3 h4 => lv_ldc2 X.1 X.2.1 X.2.2.2.1 (X.2.2.2.2.1 _ hc) d (k H locs h1 h2 h3 h4)
theorem ml_iload_n (X : ml_X p s m c meth args D cA cc nL own rt) {kk : Fin 4} {x : Int} (hl : lv_has ls nL lst) (q : Nat) {i : Nat} (hq : lst[q]? = some (i, .int (Int32.ofInt x))) (hi : (kk : Nat) = i) (d : decode cc pc = .ok (.iload_n kk, 1)) (k : ml_V p l e R s m args below meth c Q base D cA kc ks rr n σ (F0 m (pc + 1) ls (.int (Int32.ofInt x) :: rest))) : ml_V p l e R s m args below meth c Q base D cA kc ks rr n σ (F0 m (pc) ls (rest)) := fun H locs h1 h2 h3 h4 => lv_iload_n X.1 X.2.1 d hi (lv_at hl q hq) (k H locs h1 h2 h3 h4)
theorem ml_iload (X : ml_X p s m c meth args D cA cc nL own rt) {x : Int} (hl : lv_has ls nL lst) (q : Nat) {i : Nat} (hq : lst[q]? = some (i, .int (Int32.ofInt x))) (d : decode cc pc = .ok (.iload i, 2)) (k : ml_V p l e R s m args below meth c Q base D cA kc ks rr n σ (F0 m (pc + 2) ls (.int (Int32.ofInt x) :: rest))) : ml_V p l e R s m args below meth c Q base D cA kc ks rr n σ (F0 m (pc) ls (rest)) := fun H locs h1 h2 h3 h4 => lv_iload X.1 X.2.1 d (lv_at hl q hq) (k H locs h1 h2 h3 h4)
theorem ml_istore_n (X : ml_X p s m c meth args D cA cc nL own rt) {kk : Fin 4} {x : Int} {i : Nat} (hi : (kk : Nat) = i) (hl : lv_has ls nL lst) {lst' : List (Nat × Value)} (hn : i < nL) (hf : (i, Value.int (Int32.ofInt x)) :: lst.filter (fun q => !(q.1 == i) && !(q.1 + 1 == i && q.2.category == 2)) = lst') (d : decode cc pc = .ok (.istore_n kk, 1)) (k : ∀ ls' : Array Slot, lv_has ls' nL lst' → ml_V p l e R s m args below meth c Q base D cA kc ks rr n σ (F0 m (pc + 1) ls' (rest))) : ml_V p l e R s m args below meth c Q base D cA kc ks rr n σ (F0 m (pc) ls (.int (Int32.ofInt x) :: rest)) := fun H locs h1 h2 h3 h4 => lv_istore_n X.1 X.2.1 d hi hl hn hf (fun ls' h => k ls' h H locs h1 h2 h3 h4)
theorem ml_istore (X : ml_X p s m c meth args D cA cc nL own rt) {x : Int} {i : Nat} (hl : lv_has ls nL lst) {lst' : List (Nat × Value)} (hn : i < nL) (hf : (i, Value.int (Int32.ofInt x)) :: lst.filter (fun q => !(q.1 == i) && !(q.1 + 1 == i && q.2.category == 2)) = lst') (d : decode cc pc = .ok (.istore i, 2)) (k : ∀ ls' : Array Slot, lv_has ls' nL lst' → ml_V p l e R s m args below meth c Q base D cA kc ks rr n σ (F0 m (pc + 2) ls' (rest))) : ml_V p l e R s m args below meth c Q base D cA kc ks rr n σ (F0 m (pc) ls (.int (Int32.ofInt x) :: rest)) := fun H locs h1 h2 h3 h4 => lv_istore X.1 X.2.1 d hl hn hf (fun ls' h => k ls' h H locs h1 h2 h3 h4)
theorem ml_lload_n (X : ml_X p s m c meth args D cA cc nL own rt) {kk : Fin 4} {x : Int} (hl : lv_has ls nL lst) (q : Nat) {i : Nat} (hq : lst[q]? = some (i, .long (Int64.ofInt x))) (hi : (kk : Nat) = i) (d : decode cc pc = .ok (.lload_n kk, 1)) (k : ml_V p l e R s m args below meth c Q base D cA kc ks rr n σ (F0 m (pc + 1) ls (.long (Int64.ofInt x) :: rest))) : ml_V p l e R s m args below meth c Q base D cA kc ks rr n σ (F0 m (pc) ls (rest)) := fun H locs h1 h2 h3 h4 => lv_lload_n X.1 X.2.1 d hi (lv_at hl q hq) (k H locs h1 h2 h3 h4)
theorem ml_lload (X : ml_X p s m c meth args D cA cc nL own rt) {x : Int} (hl : lv_has ls nL lst) (q : Nat) {i : Nat} (hq : lst[q]? = some (i, .long (Int64.ofInt x))) (d : decode cc pc = .ok (.lload i, 2)) (k : ml_V p l e R s m args below meth c Q base D cA kc ks rr n σ (F0 m (pc + 2) ls (.long (Int64.ofInt x) :: rest))) : ml_V p l e R s m args below meth c Q base D cA kc ks rr n σ (F0 m (pc) ls (rest)) := fun H locs h1 h2 h3 h4 => lv_lload X.1 X.2.1 d (lv_at hl q hq) (k H locs h1 h2 h3 h4)
theorem ml_lstore_n (X : ml_X p s m c meth args D cA cc nL own rt) {kk : Fin 4} {x : Int} {i : Nat} (hi : (kk : Nat) = i) (hl : lv_has ls nL lst) {lst' : List (Nat × Value)} (hn : i + 1 < nL) (hf : (i, Value.long (Int64.ofInt x)) :: lst.filter (fun q => !(q.1 == i) && (!(q.1 == i + 1) && !(q.1 + 1 == i && q.2.category == 2))) = lst') (d : decode cc pc = .ok (.lstore_n kk, 1)) (k : ∀ ls' : Array Slot, lv_has ls' nL lst' → ml_V p l e R s m args below meth c Q base D cA kc ks rr n σ (F0 m (pc + 1) ls' (rest))) : ml_V p l e R s m args below meth c Q base D cA kc ks rr n σ (F0 m (pc) ls (.long (Int64.ofInt x) :: rest)) := fun H locs h1 h2 h3 h4 => lv_lstore_n X.1 X.2.1 d hi hl hn hf (fun ls' h => k ls' h H locs h1 h2 h3 h4)
theorem ml_lstore (X : ml_X p s m c meth args D cA cc nL own rt) {x : Int} {i : Nat} (hl : lv_has ls nL lst) {lst' : List (Nat × Value)} (hn : i + 1 < nL) (hf : (i, Value.long (Int64.ofInt x)) :: lst.filter (fun q => !(q.1 == i) && (!(q.1 == i + 1) && !(q.1 + 1 == i && q.2.category == 2))) = lst') (d : decode cc pc = .ok (.lstore i, 2)) (k : ∀ ls' : Array Slot, lv_has ls' nL lst' → ml_V p l e R s m args below meth c Q base D cA kc ks rr n σ (F0 m (pc + 2) ls' (rest))) : ml_V p l e R s m args below meth c Q base D cA kc ks rr n σ (F0 m (pc) ls (.long (Int64.ofInt x) :: rest)) := fun H locs h1 h2 h3 h4 => lv_lstore X.1 X.2.1 d hl hn hf (fun ls' h => k ls' h H locs h1 h2 h3 h4)
theorem ml_aload_n (X : ml_X p s m c meth args D cA cc nL own rt) {kk : Fin 4} {x : Nat} (hl : lv_has ls nL lst) (q : Nat) {i : Nat} (hq : lst[q]? = some (i, .ref x)) (hi : (kk : Nat) = i) (d : decode cc pc = .ok (.aload_n kk, 1)) (k : ml_V p l e R s m args below meth c Q base D cA kc ks rr n σ (F0 m (pc + 1) ls (.ref x :: rest))) : ml_V p l e R s m args below meth c Q base D cA kc ks rr n σ (F0 m (pc) ls (rest)) := fun H locs h1 h2 h3 h4 => lv_aload_n X.1 X.2.1 d hi (lv_at hl q hq) (k H locs h1 h2 h3 h4)
theorem ml_aload (X : ml_X p s m c meth args D cA cc nL own rt) {x : Nat} (hl : lv_has ls nL lst) (q : Nat) {i : Nat} (hq : lst[q]? = some (i, .ref x)) (d : decode cc pc = .ok (.aload i, 2)) (k : ml_V p l e R s m args below meth c Q base D cA kc ks rr n σ (F0 m (pc + 2) ls (.ref x :: rest))) : ml_V p l e R s m args below meth c Q base D cA kc ks rr n σ (F0 m (pc) ls (rest)) := fun H locs h1 h2 h3 h4 => lv_aload X.1 X.2.1 d (lv_at hl q hq) (k H locs h1 h2 h3 h4)
theorem ml_astore_n (X : ml_X p s m c meth args D cA cc nL own rt) {kk : Fin 4} {x : Nat} {i : Nat} (hi : (kk : Nat) = i) (hl : lv_has ls nL lst) {lst' : List (Nat × Value)} (hn : i < nL) (hf : (i, Value.ref x) :: lst.filter (fun q => !(q.1 == i) && !(q.1 + 1 == i && q.2.category == 2)) = lst') (d : decode cc pc = .ok (.astore_n kk, 1)) (k : ∀ ls' : Array Slot, lv_has ls' nL lst' → ml_V p l e R s m args below meth c Q base D cA kc ks rr n σ (F0 m (pc + 1) ls' (rest))) : ml_V p l e R s m args below meth c Q base D cA kc ks rr n σ (F0 m (pc) ls (.ref x :: rest)) := fun H locs h1 h2 h3 h4 => lv_astore_n X.1 X.2.1 d hi hl hn hf (fun ls' h => k ls' h H locs h1 h2 h3 h4)
theorem ml_astore (X : ml_X p s m c meth args D cA cc nL own rt) {x : Nat} {i : Nat} (hl : lv_has ls nL lst) {lst' : List (Nat × Value)} (hn : i < nL) (hf : (i, Value.ref x) :: lst.filter (fun q => !(q.1 == i) && !(q.1 + 1 == i && q.2.category == 2)) = lst') (d : decode cc pc = .ok (.astore i, 2)) (k : ∀ ls' : Array Slot, lv_has ls' nL lst' → ml_V p l e R s m args below meth c Q base D cA kc ks rr n σ (F0 m (pc + 2) ls' (rest))) : ml_V p l e R s m args below meth c Q base D cA kc ks rr n σ (F0 m (pc) ls (.ref x :: rest)) := fun H locs h1 h2 h3 h4 => lv_astore X.1 X.2.1 d hl hn hf (fun ls' h => k ls' h H locs h1 h2 h3 h4)
theorem ml_iinc (X : ml_X p s m c meth args D cA cc nL own rt) {i : Nat} {x v y : Int} (ey : y = x + v) (hl : lv_has ls nL lst) (q : Nat) (hq : lst[q]? = some (i, .int (Int32.ofInt x))) {lst' : List (Nat × Value)} (hn : i < nL) (hf : (i, Value.int (Int32.ofInt y)) :: lst.filter (fun q => !(q.1 == i) && !(q.1 + 1 == i && q.2.category == 2)) = lst') (d : decode cc pc = .ok (.iinc i v, 3)) (k : ∀ ls' : Array Slot, lv_has ls' nL lst' → ml_V p l e R s m args below meth c Q base D cA kc ks rr n σ (F0 m (pc + 3) ls' (rest))) : ml_V p l e R s m args below meth c Q base D cA kc ks rr n σ (F0 m (pc) ls (rest)) := fun H locs h1 h2 h3 h4 => lv_iinc X.1 X.2.1 d hl hq (by rw [ey]; exact (Int32.ofInt_add _ _).symm) hn hf (fun ls' h => k ls' h H locs h1 h2 h3 h4)
theorem ml_goto (X : ml_X p s m c meth args D cA cc nL own rt) {off : Int} {tgt : Nat} (d : decode cc pc = .ok (.goto off, 3)) (ht : (pc : Int) + off = (tgt : Int)) (k : ml_V p l e R s m args below meth c Q base D cA kc ks rr n σ (F0 m (tgt) ls (rest))) : ml_V p l e R s m args below meth c Q base D cA kc ks rr n σ (F0 m (pc) ls (rest)) := fun H locs h1 h2 h3 h4 => lv_goto X.1 X.2.1 d ht (k H locs h1 h2 h3 h4)
theorem ml_dup (X : ml_X p s m c meth args D cA cc nL own rt) {va : Value} (d : decode cc pc = .ok (.dup, 1)) (hv : va.category = 1) (k : ml_V p l e R s m args below meth c Q base D cA kc ks rr n σ (F0 m (pc + 1) ls (va :: va :: rest))) : ml_V p l e R s m args below meth c Q base D cA kc ks rr n σ (F0 m (pc) ls (va :: rest)) := fun H locs h1 h2 h3 h4 => lv_dup X.1 X.2.1 d hv (k H locs h1 h2 h3 h4)
theorem ml_dup2 (X : ml_X p s m c meth args D cA cc nL own rt) {va vb : Value} (d : decode cc pc = .ok (.dup2, 1)) (hv : va.category = 1) (hw : vb.category = 1) (k : ml_V p l e R s m args below meth c Q base D cA kc ks rr n σ (F0 m (pc + 1) ls (va :: vb :: va :: vb :: rest))) : ml_V p l e R s m args below meth c Q base D cA kc ks rr n σ (F0 m (pc) ls (va :: vb :: rest)) := fun H locs h1 h2 h3 h4 => lv_dup2_11 X.1 X.2.1 d hv hw (k H locs h1 h2 h3 h4)
theorem ml_topI {x : Int} (k : ∀ y : Int, y = x → ml_V p l e R s m args below meth c Q base D cA kc ks rr n σ (F0 m (pc) ls (.int (Int32.ofInt y) :: rest))) : ml_V p l e R s m args below meth c Q base D cA kc ks rr n σ (F0 m (pc) ls (.int (Int32.ofInt x) :: rest)) := k x rfl
theorem ml_topL {x : Int} (k : ∀ y : Int, y = x → ml_V p l e R s m args below meth c Q base D cA kc ks rr n σ (F0 m (pc) ls (.long (Int64.ofInt y) :: rest))) : ml_V p l e R s m args below meth c Q base D cA kc ks rr n σ (F0 m (pc) ls (.long (Int64.ofInt x) :: rest)) := k x rfl
theorem ml_iadd (X : ml_X p s m c meth args D cA cc nL own rt) {x y : Int} (d : decode cc pc = .ok (.iadd, 1)) (k : ml_V p l e R s m args below meth c Q base D cA kc ks rr n σ (F0 m (pc + 1) ls (.int (Int32.ofInt (x + y)) :: rest))) : ml_V p l e R s m args below meth c Q base D cA kc ks rr n σ (F0 m (pc) ls (.int (Int32.ofInt y) :: .int (Int32.ofInt x) :: rest)) := fun H locs h1 h2 h3 h4 => lv_iadd X.1 X.2.1 d (by rw [← Int32.ofInt_add]; exact k H locs h1 h2 h3 h4)
theorem ml_ladd (X : ml_X p s m c meth args D cA cc nL own rt) {x y : Int} (d : decode cc pc = .ok (.ladd, 1)) (k : ml_V p l e R s m args below meth c Q base D cA kc ks rr n σ (F0 m (pc + 1) ls (.long (Int64.ofInt (x + y)) :: rest))) : ml_V p l e R s m args below meth c Q base D cA kc ks rr n σ (F0 m (pc) ls (.long (Int64.ofInt y) :: .long (Int64.ofInt x) :: rest)) := fun H locs h1 h2 h3 h4 => lv_ladd X.1 X.2.1 d (by rw [← Int64.ofInt_add]; exact k H locs h1 h2 h3 h4)
theorem ml_isub (X : ml_X p s m c meth args D cA cc nL own rt) {x y : Int} (d : decode cc pc = .ok (.isub, 1)) (k : ml_V p l e R s m args below meth c Q base D cA kc ks rr n σ (F0 m (pc + 1) ls (.int (Int32.ofInt (x - y)) :: rest))) : ml_V p l e R s m args below meth c Q base D cA kc ks rr n σ (F0 m (pc) ls (.int (Int32.ofInt y) :: .int (Int32.ofInt x) :: rest)) := fun H locs h1 h2 h3 h4 => lv_isub X.1 X.2.1 d (by rw [← Int32.ofInt_sub]; exact k H locs h1 h2 h3 h4)
theorem ml_lsub (X : ml_X p s m c meth args D cA cc nL own rt) {x y : Int} (d : decode cc pc = .ok (.lsub, 1)) (k : ml_V p l e R s m args below meth c Q base D cA kc ks rr n σ (F0 m (pc + 1) ls (.long (Int64.ofInt (x - y)) :: rest))) : ml_V p l e R s m args below meth c Q base D cA kc ks rr n σ (F0 m (pc) ls (.long (Int64.ofInt y) :: .long (Int64.ofInt x) :: rest)) := fun H locs h1 h2 h3 h4 => lv_lsub X.1 X.2.1 d (by rw [← Int64.ofInt_sub]; exact k H locs h1 h2 h3 h4)
theorem ml_imul (X : ml_X p s m c meth args D cA cc nL own rt) {x y : Int} (d : decode cc pc = .ok (.imul, 1)) (k : ml_V p l e R s m args below meth c Q base D cA kc ks rr n σ (F0 m (pc + 1) ls (.int (Int32.ofInt (x * y)) :: rest))) : ml_V p l e R s m args below meth c Q base D cA kc ks rr n σ (F0 m (pc) ls (.int (Int32.ofInt y) :: .int (Int32.ofInt x) :: rest)) := fun H locs h1 h2 h3 h4 => lv_imul X.1 X.2.1 d (by rw [← Int32.ofInt_mul]; exact k H locs h1 h2 h3 h4)
theorem ml_lmul (X : ml_X p s m c meth args D cA cc nL own rt) {x y : Int} (d : decode cc pc = .ok (.lmul, 1)) (k : ml_V p l e R s m args below meth c Q base D cA kc ks rr n σ (F0 m (pc + 1) ls (.long (Int64.ofInt (x * y)) :: rest))) : ml_V p l e R s m args below meth c Q base D cA kc ks rr n σ (F0 m (pc) ls (.long (Int64.ofInt y) :: .long (Int64.ofInt x) :: rest)) := fun H locs h1 h2 h3 h4 => lv_lmul X.1 X.2.1 d (by rw [← Int64.ofInt_mul]; exact k H locs h1 h2 h3 h4)
theorem ml_ineg (X : ml_X p s m c meth args D cA cc nL own rt) {x : Int} (d : decode cc pc = .ok (.ineg, 1)) (k : ml_V p l e R s m args below meth c Q base D cA kc ks rr n σ (F0 m (pc + 1) ls (.int (Int32.ofInt (-x)) :: rest))) : ml_V p l e R s m args below meth c Q base D cA kc ks rr n σ (F0 m (pc) ls (.int (Int32.ofInt x) :: rest)) := fun H locs h1 h2 h3 h4 => lv_ineg X.1 X.2.1 d (by rw [← Int32.ofInt_neg]; exact k H locs h1 h2 h3 h4)
theorem ml_divE {x y : Int} (hx : I32 x) (hy : I32 y) : Int32.ofInt x / Int32.ofInt y = Int32.ofInt (x.tdiv y) := by
  apply Int32.toInt_inj.mp
  rw [Int32.toInt_div, ml_32 hx, ml_32 hy, Int32.toInt_ofInt]
theorem ml_ldivE {x y : Int} (hx : I64 x) (hy : I64 y) : Int64.ofInt x / Int64.ofInt y = Int64.ofInt (x.tdiv y) := by
  apply Int64.toInt_inj.mp
  rw [Int64.toInt_div, ml_64 hx, ml_64 hy, Int64.toInt_ofInt]
theorem ml_remE {x y : Int} (hx : I32 x) (hy : I32 y) : Int32.ofInt x - Int32.ofInt x / Int32.ofInt y * Int32.ofInt y = Int32.ofInt (x.tmod y) := by
  rw [ml_divE hx hy, ← Int32.ofInt_mul, ← Int32.ofInt_sub, Int.tmod_def, Int.mul_comm y]
theorem ml_lremE {x y : Int} (hx : I64 x) (hy : I64 y) : Int64.ofInt x - Int64.ofInt x / Int64.ofInt y * Int64.ofInt y = Int64.ofInt (x.tmod y) := by
  rw [ml_ldivE hx hy, ← Int64.ofInt_mul, ← Int64.ofInt_sub, Int.tmod_def, Int.mul_comm y]
theorem ml_ne0 {y : Int} (hy : I32 y) (h : y ≠ 0) : ¬ Int32.ofInt y = 0 := fun q => h ((ml_eq hy ml_i0).mp q)
theorem ml_lne0 {y : Int} (hy : I64 y) (h : y ≠ 0) : ¬ Int64.ofInt y = 0 := fun q => h ((ml_leq hy ⟨by decide, by decide⟩).mp q)
theorem ml_idiv (X : ml_X p s m c meth args D cA cc nL own rt) {x y : Int} (hx : I32 x) (hy : I32 y) (h0 : y ≠ 0) (d : decode cc pc = .ok (.idiv, 1)) (k : ml_V p l e R s m args below meth c Q base D cA kc ks rr n σ (F0 m (pc + 1) ls (.int (Int32.ofInt (x.tdiv y)) :: rest))) : ml_V p l e R s m args below meth c Q base D cA kc ks rr n σ (F0 m (pc) ls (.int (Int32.ofInt y) :: .int (Int32.ofInt x) :: rest)) := fun H locs h1 h2 h3 h4 => lv_idiv X.1 X.2.1 d (ml_ne0 hy h0) (by rw [ml_divE hx hy]; exact k H locs h1 h2 h3 h4)
theorem ml_irem (X : ml_X p s m c meth args D cA cc nL own rt) {x y : Int} (hx : I32 x) (hy : I32 y) (h0 : y ≠ 0) (d : decode cc pc = .ok (.irem, 1)) (k : ml_V p l e R s m args below meth c Q base D cA kc ks rr n σ (F0 m (pc + 1) ls (.int (Int32.ofInt (x.tmod y)) :: rest))) : ml_V p l e R s m args below meth c Q base D cA kc ks rr n σ (F0 m (pc) ls (.int (Int32.ofInt y) :: .int (Int32.ofInt x) :: rest)) := fun H locs h1 h2 h3 h4 => lv_irem X.1 X.2.1 d (ml_ne0 hy h0) (by rw [ml_remE hx hy]; exact k H locs h1 h2 h3 h4)
theorem ml_ldiv (X : ml_X p s m c meth args D cA cc nL own rt) {x y : Int} (hx : I64 x) (hy : I64 y) (h0 : y ≠ 0) (d : decode cc pc = .ok (.ldiv, 1)) (k : ml_V p l e R s m args below meth c Q base D cA kc ks rr n σ (F0 m (pc + 1) ls (.long (Int64.ofInt (x.tdiv y)) :: rest))) : ml_V p l e R s m args below meth c Q base D cA kc ks rr n σ (F0 m (pc) ls (.long (Int64.ofInt y) :: .long (Int64.ofInt x) :: rest)) := fun H locs h1 h2 h3 h4 => lv_ldiv X.1 X.2.1 d (ml_lne0 hy h0) (by rw [ml_ldivE hx hy]; exact k H locs h1 h2 h3 h4)
theorem ml_lrem (X : ml_X p s m c meth args D cA cc nL own rt) {x y : Int} (hx : I64 x) (hy : I64 y) (h0 : y ≠ 0) (d : decode cc pc = .ok (.lrem, 1)) (k : ml_V p l e R s m args below meth c Q base D cA kc ks rr n σ (F0 m (pc + 1) ls (.long (Int64.ofInt (x.tmod y)) :: rest))) : ml_V p l e R s m args below meth c Q base D cA kc ks rr n σ (F0 m (pc) ls (.long (Int64.ofInt y) :: .long (Int64.ofInt x) :: rest)) := fun H locs h1 h2 h3 h4 => lv_lrem X.1 X.2.1 d (ml_lne0 hy h0) (by rw [ml_lremE hx hy]; exact k H locs h1 h2 h3 h4)
def b_and (x y : Int) : Int := (Int32.ofInt x &&& Int32.ofInt y).toInt
theorem b_and_r (x y : Int) : I32 (b_and x y) := ml_r32 _
theorem ml_iand (X : ml_X p s m c meth args D cA cc nL own rt) {x y : Int} (d : decode cc pc = .ok (.iand, 1)) (k : ml_V p l e R s m args below meth c Q base D cA kc ks rr n σ (F0 m (pc + 1) ls (.int (Int32.ofInt (b_and x y)) :: rest))) : ml_V p l e R s m args below meth c Q base D cA kc ks rr n σ (F0 m (pc) ls (.int (Int32.ofInt y) :: .int (Int32.ofInt x) :: rest)) := fun H locs h1 h2 h3 h4 => lv_iand X.1 X.2.1 d (by have := k H locs h1 h2 h3 h4; rwa [b_and, Int32.ofInt_toInt] at this)
def b_or (x y : Int) : Int := (Int32.ofInt x ||| Int32.ofInt y).toInt
theorem b_or_r (x y : Int) : I32 (b_or x y) := ml_r32 _
theorem ml_ior (X : ml_X p s m c meth args D cA cc nL own rt) {x y : Int} (d : decode cc pc = .ok (.ior, 1)) (k : ml_V p l e R s m args below meth c Q base D cA kc ks rr n σ (F0 m (pc + 1) ls (.int (Int32.ofInt (b_or x y)) :: rest))) : ml_V p l e R s m args below meth c Q base D cA kc ks rr n σ (F0 m (pc) ls (.int (Int32.ofInt y) :: .int (Int32.ofInt x) :: rest)) := fun H locs h1 h2 h3 h4 => lv_ior X.1 X.2.1 d (by have := k H locs h1 h2 h3 h4; rwa [b_or, Int32.ofInt_toInt] at this)
def b_xor (x y : Int) : Int := (Int32.ofInt x ^^^ Int32.ofInt y).toInt
theorem b_xor_r (x y : Int) : I32 (b_xor x y) := ml_r32 _
theorem ml_ixor (X : ml_X p s m c meth args D cA cc nL own rt) {x y : Int} (d : decode cc pc = .ok (.ixor, 1)) (k : ml_V p l e R s m args below meth c Q base D cA kc ks rr n σ (F0 m (pc + 1) ls (.int (Int32.ofInt (b_xor x y)) :: rest))) : ml_V p l e R s m args below meth c Q base D cA kc ks rr n σ (F0 m (pc) ls (.int (Int32.ofInt y) :: .int (Int32.ofInt x) :: rest)) := fun H locs h1 h2 h3 h4 => lv_ixor X.1 X.2.1 d (by have := k H locs h1 h2 h3 h4; rwa [b_xor, Int32.ofInt_toInt] at this)
def b_shl (x y : Int) : Int := (Int32.ofInt x <<< (Int32.ofInt y &&& 31)).toInt
theorem b_shl_r (x y : Int) : I32 (b_shl x y) := ml_r32 _
theorem ml_ishl (X : ml_X p s m c meth args D cA cc nL own rt) {x y : Int} (d : decode cc pc = .ok (.ishl, 1)) (k : ml_V p l e R s m args below meth c Q base D cA kc ks rr n σ (F0 m (pc + 1) ls (.int (Int32.ofInt (b_shl x y)) :: rest))) : ml_V p l e R s m args below meth c Q base D cA kc ks rr n σ (F0 m (pc) ls (.int (Int32.ofInt y) :: .int (Int32.ofInt x) :: rest)) := fun H locs h1 h2 h3 h4 => lv_ishl X.1 X.2.1 d (by have := k H locs h1 h2 h3 h4; rwa [b_shl, Int32.ofInt_toInt] at this)
def b_shr (x y : Int) : Int := (Int32.ofInt x >>> (Int32.ofInt y &&& 31)).toInt
theorem b_shr_r (x y : Int) : I32 (b_shr x y) := ml_r32 _
theorem ml_ishr (X : ml_X p s m c meth args D cA cc nL own rt) {x y : Int} (d : decode cc pc = .ok (.ishr, 1)) (k : ml_V p l e R s m args below meth c Q base D cA kc ks rr n σ (F0 m (pc + 1) ls (.int (Int32.ofInt (b_shr x y)) :: rest))) : ml_V p l e R s m args below meth c Q base D cA kc ks rr n σ (F0 m (pc) ls (.int (Int32.ofInt y) :: .int (Int32.ofInt x) :: rest)) := fun H locs h1 h2 h3 h4 => lv_ishr X.1 X.2.1 d (by have := k H locs h1 h2 h3 h4; rwa [b_shr, Int32.ofInt_toInt] at this)
def b_ushr (x y : Int) : Int := ((Int32.ofInt x).toUInt32 >>> ((Int32.ofInt y).toUInt32 &&& Int32.toUInt32 31)).toInt32.toInt
theorem b_ushr_r (x y : Int) : I32 (b_ushr x y) := ml_r32 _
theorem ml_iushr (X : ml_X p s m c meth args D cA cc nL own rt) {x y : Int} (d : decode cc pc = .ok (.iushr, 1)) (k : ml_V p l e R s m args below meth c Q base D cA kc ks rr n σ (F0 m (pc + 1) ls (.int (Int32.ofInt (b_ushr x y)) :: rest))) : ml_V p l e R s m args below meth c Q base D cA kc ks rr n σ (F0 m (pc) ls (.int (Int32.ofInt y) :: .int (Int32.ofInt x) :: rest)) := fun H locs h1 h2 h3 h4 => lv_iushr X.1 X.2.1 d rfl (by have := k H locs h1 h2 h3 h4; rwa [b_ushr, Int32.ofInt_toInt] at this)
def b_land (x y : Int) : Int := (Int64.ofInt x &&& Int64.ofInt y).toInt
theorem b_land_r (x y : Int) : I64 (b_land x y) := ml_r64 _
theorem ml_land (X : ml_X p s m c meth args D cA cc nL own rt) {x y : Int} (d : decode cc pc = .ok (.land, 1)) (k : ml_V p l e R s m args below meth c Q base D cA kc ks rr n σ (F0 m (pc + 1) ls (.long (Int64.ofInt (b_land x y)) :: rest))) : ml_V p l e R s m args below meth c Q base D cA kc ks rr n σ (F0 m (pc) ls (.long (Int64.ofInt y) :: .long (Int64.ofInt x) :: rest)) := fun H locs h1 h2 h3 h4 => lv_land X.1 X.2.1 d (by have := k H locs h1 h2 h3 h4; rwa [b_land, Int64.ofInt_toInt] at this)
def b_lor (x y : Int) : Int := (Int64.ofInt x ||| Int64.ofInt y).toInt
theorem b_lor_r (x y : Int) : I64 (b_lor x y) := ml_r64 _
theorem ml_lor (X : ml_X p s m c meth args D cA cc nL own rt) {x y : Int} (d : decode cc pc = .ok (.lor, 1)) (k : ml_V p l e R s m args below meth c Q base D cA kc ks rr n σ (F0 m (pc + 1) ls (.long (Int64.ofInt (b_lor x y)) :: rest))) : ml_V p l e R s m args below meth c Q base D cA kc ks rr n σ (F0 m (pc) ls (.long (Int64.ofInt y) :: .long (Int64.ofInt x) :: rest)) := fun H locs h1 h2 h3 h4 => lv_lor X.1 X.2.1 d (by have := k H locs h1 h2 h3 h4; rwa [b_lor, Int64.ofInt_toInt] at this)
def b_lshl (x y : Int) : Int := (Int64.ofInt x <<< ((Int32.ofInt y).toInt64 &&& 63)).toInt
theorem b_lshl_r (x y : Int) : I64 (b_lshl x y) := ml_r64 _
theorem ml_lshl (X : ml_X p s m c meth args D cA cc nL own rt) {x y : Int} (d : decode cc pc = .ok (.lshl, 1)) (k : ml_V p l e R s m args below meth c Q base D cA kc ks rr n σ (F0 m (pc + 1) ls (.long (Int64.ofInt (b_lshl x y)) :: rest))) : ml_V p l e R s m args below meth c Q base D cA kc ks rr n σ (F0 m (pc) ls (.int (Int32.ofInt y) :: .long (Int64.ofInt x) :: rest)) := fun H locs h1 h2 h3 h4 => lv_lshl X.1 X.2.1 d rfl (by have := k H locs h1 h2 h3 h4; rwa [b_lshl, Int64.ofInt_toInt] at this)
def b_l2i (x : Int) : Int := (Int64.ofInt x).toInt32.toInt
theorem b_l2i_r (x : Int) : I32 (b_l2i x) := ml_r32 _
theorem ml_l2i (X : ml_X p s m c meth args D cA cc nL own rt) {x : Int} (d : decode cc pc = .ok (.l2i, 1)) (k : ml_V p l e R s m args below meth c Q base D cA kc ks rr n σ (F0 m (pc + 1) ls (.int (Int32.ofInt (b_l2i x)) :: rest))) : ml_V p l e R s m args below meth c Q base D cA kc ks rr n σ (F0 m (pc) ls (.long (Int64.ofInt x) :: rest)) := fun H locs h1 h2 h3 h4 => lv_l2i X.1 X.2.1 d rfl (by have := k H locs h1 h2 h3 h4; rwa [b_l2i, Int32.ofInt_toInt] at this)
def b_i2b (x : Int) : Int := (Int32.ofInt x).toInt8.toInt
theorem b_i2b_r (x : Int) : ml_I8 (b_i2b x) := ⟨Int8.le_toInt _, by have := Int8.toInt_lt (Int32.ofInt x).toInt8; unfold b_i2b; omega⟩
theorem b_i2b_e (x : Int) : (Int32.ofInt x).toInt8.toInt32 = Int32.ofInt (b_i2b x) := by
  apply Int32.toInt_inj.mp
  rw [ml_32 (b_i2b_r x).i, Int8.toInt_toInt32]
  rfl
theorem ml_nb {v : Int} (h : ml_I8 v) : vp_nar .byte (Int32.ofInt v) = Int32.ofInt v := by
  rw [vp_nar_byte, b_i2b_e]
  congr 1
  unfold b_i2b
  rw [Int32.toInt_toInt8, ml_32 h.i]
  have h1 := h.1
  have h2 := h.2
  rw [Int.bmod_def]
  omega
theorem ml_nz {v : Int} (h : ml_B v) : vp_nar .boolean (Int32.ofInt v) = Int32.ofInt v := by
  have h1 := h.1
  have h2 := h.2
  rcases (show v = 0 ∨ v = 1 by omega) with rfl | rfl
  · decide +kernel
  · decide +kernel
theorem ml_i2b (X : ml_X p s m c meth args D cA cc nL own rt) {x : Int} (d : decode cc pc = .ok (.i2b, 1)) (k : ml_V p l e R s m args below meth c Q base D cA kc ks rr n σ (F0 m (pc + 1) ls (.int (Int32.ofInt (b_i2b x)) :: rest))) : ml_V p l e R s m args below meth c Q base D cA kc ks rr n σ (F0 m (pc) ls (.int (Int32.ofInt x) :: rest)) := fun H locs h1 h2 h3 h4 => lv_i2b X.1 X.2.1 d (b_i2b_e x) (k H locs h1 h2 h3 h4)
theorem ml_i2l (X : ml_X p s m c meth args D cA cc nL own rt) {x : Int} (hx : I32 x) (d : decode cc pc = .ok (.i2l, 1)) (k : ml_V p l e R s m args below meth c Q base D cA kc ks rr n σ (F0 m (pc + 1) ls (.long (Int64.ofInt x) :: rest))) : ml_V p l e R s m args below meth c Q base D cA kc ks rr n σ (F0 m (pc) ls (.int (Int32.ofInt x) :: rest)) := fun H locs h1 h2 h3 h4 => lv_i2l X.1 X.2.1 d (Int64.toInt_inj.mp (by rw [Int32.toInt_toInt64, ml_32 hx, ml_64 hx.l])) (k H locs h1 h2 h3 h4)
theorem ml_ne {x y : Int} (hx : I32 x) (hy : I32 y) : (¬ Int32.ofInt x = Int32.ofInt y) ↔ x ≠ y := not_congr (ml_eq hx hy)
theorem ml_icmp_eq (X : ml_X p s m c meth args D cA cc nL own rt) {x y : Int} (hx : I32 x) (hy : I32 y) {off : Int} {tgt : Nat} (d : decode cc pc = .ok (.if_icmp .eq off, 3)) (ht : (pc : Int) + off = (tgt : Int)) (kt : x = y → ml_V p l e R s m args below meth c Q base D cA kc ks rr n σ (F0 m (tgt) ls (rest))) (kf : ¬ (x = y) → ml_V p l e R s m args below meth c Q base D cA kc ks rr n σ (F0 m (pc + 3) ls (rest))) : ml_V p l e R s m args below meth c Q base D cA kc ks rr n σ (F0 m (pc) ls (.int (Int32.ofInt y) :: .int (Int32.ofInt x) :: rest)) := fun H locs h1 h2 h3 h4 => lv_icmp_eq X.1 X.2.1 d ht (fun q => kt ((ml_eq hx hy).mp q) H locs h1 h2 h3 h4) (fun q => kf (fun z => q ((ml_eq hx hy).mpr z)) H locs h1 h2 h3 h4)
theorem ml_if_eq (X : ml_X p s m c meth args D cA cc nL own rt) {x : Int} (hx : I32 x) {off : Int} {tgt : Nat} (d : decode cc pc = .ok (.ifCond .eq off, 3)) (ht : (pc : Int) + off = (tgt : Int)) (kt : x = 0 → ml_V p l e R s m args below meth c Q base D cA kc ks rr n σ (F0 m (tgt) ls (rest))) (kf : ¬ (x = 0) → ml_V p l e R s m args below meth c Q base D cA kc ks rr n σ (F0 m (pc + 3) ls (rest))) : ml_V p l e R s m args below meth c Q base D cA kc ks rr n σ (F0 m (pc) ls (.int (Int32.ofInt x) :: rest)) := fun H locs h1 h2 h3 h4 => lv_if_eq X.1 X.2.1 d ht (fun q => kt ((ml_eq hx ml_i0).mp q) H locs h1 h2 h3 h4) (fun q => kf (fun z => q ((ml_eq hx ml_i0).mpr z)) H locs h1 h2 h3 h4)
theorem ml_icmp_ne (X : ml_X p s m c meth args D cA cc nL own rt) {x y : Int} (hx : I32 x) (hy : I32 y) {off : Int} {tgt : Nat} (d : decode cc pc = .ok (.if_icmp .ne off, 3)) (ht : (pc : Int) + off = (tgt : Int)) (kt : x ≠ y → ml_V p l e R s m args below meth c Q base D cA kc ks rr n σ (F0 m (tgt) ls (rest))) (kf : x = y → ml_V p l e R s m args below meth c Q base D cA kc ks rr n σ (F0 m (pc + 3) ls (rest))) : ml_V p l e R s m args below meth c Q base D cA kc ks rr n σ (F0 m (pc) ls (.int (Int32.ofInt y) :: .int (Int32.ofInt x) :: rest)) := fun H locs h1 h2 h3 h4 => lv_icmp_ne X.1 X.2.1 d ht (fun q => kt ((ml_ne hx hy).mp q) H locs h1 h2 h3 h4) (fun q => kf ((ml_eq hx hy).mp q) H locs h1 h2 h3 h4)
theorem ml_if_ne (X : ml_X p s m c meth args D cA cc nL own rt) {x : Int} (hx : I32 x) {off : Int} {tgt : Nat} (d : decode cc pc = .ok (.ifCond .ne off, 3)) (ht : (pc : Int) + off = (tgt : Int)) (kt : x ≠ 0 → ml_V p l e R s m args below meth c Q base D cA kc ks rr n σ (F0 m (tgt) ls (rest))) (kf : x = 0 → ml_V p l e R s m args below meth c Q base D cA kc ks rr n σ (F0 m (pc + 3) ls (rest))) : ml_V p l e R s m args below meth c Q base D cA kc ks rr n σ (F0 m (pc) ls (.int (Int32.ofInt x) :: rest)) := fun H locs h1 h2 h3 h4 => lv_if_ne X.1 X.2.1 d ht (fun q => kt ((ml_ne hx ml_i0).mp q) H locs h1 h2 h3 h4) (fun q => kf ((ml_eq hx ml_i0).mp q) H locs h1 h2 h3 h4)
theorem ml_icmp_lt (X : ml_X p s m c meth args D cA cc nL own rt) {x y : Int} (hx : I32 x) (hy : I32 y) {off : Int} {tgt : Nat} (d : decode cc pc = .ok (.if_icmp .lt off, 3)) (ht : (pc : Int) + off = (tgt : Int)) (kt : x < y → ml_V p l e R s m args below meth c Q base D cA kc ks rr n σ (F0 m (tgt) ls (rest))) (kf : ¬ (x < y) → ml_V p l e R s m args below meth c Q base D cA kc ks rr n σ (F0 m (pc + 3) ls (rest))) : ml_V p l e R s m args below meth c Q base D cA kc ks rr n σ (F0 m (pc) ls (.int (Int32.ofInt y) :: .int (Int32.ofInt x) :: rest)) := fun H locs h1 h2 h3 h4 => lv_icmp_lt X.1 X.2.1 d ht (fun q => kt ((ml_lt hx hy).mp q) H locs h1 h2 h3 h4) (fun q => kf (fun z => q ((ml_lt hx hy).mpr z)) H locs h1 h2 h3 h4)
theorem ml_if_lt (X : ml_X p s m c meth args D cA cc nL own rt) {x : Int} (hx : I32 x) {off : Int} {tgt : Nat} (d : decode cc pc = .ok (.ifCond .lt off, 3)) (ht : (pc : Int) + off = (tgt : Int)) (kt : x < 0 → ml_V p l e R s m args below meth c Q base D cA kc ks rr n σ (F0 m (tgt) ls (rest))) (kf : ¬ (x < 0) → ml_V p l e R s m args below meth c Q base D cA kc ks rr n σ (F0 m (pc + 3) ls (rest))) : ml_V p l e R s m args below meth c Q base D cA kc ks rr n σ (F0 m (pc) ls (.int (Int32.ofInt x) :: rest)) := fun H locs h1 h2 h3 h4 => lv_if_lt X.1 X.2.1 d ht (fun q => kt ((ml_lt hx ml_i0).mp q) H locs h1 h2 h3 h4) (fun q => kf (fun z => q ((ml_lt hx ml_i0).mpr z)) H locs h1 h2 h3 h4)
theorem ml_icmp_ge (X : ml_X p s m c meth args D cA cc nL own rt) {x y : Int} (hx : I32 x) (hy : I32 y) {off : Int} {tgt : Nat} (d : decode cc pc = .ok (.if_icmp .ge off, 3)) (ht : (pc : Int) + off = (tgt : Int)) (kt : y ≤ x → ml_V p l e R s m args below meth c Q base D cA kc ks rr n σ (F0 m (tgt) ls (rest))) (kf : ¬ (y ≤ x) → ml_V p l e R s m args below meth c Q base D cA kc ks rr n σ (F0 m (pc + 3) ls (rest))) : ml_V p l e R s m args below meth c Q base D cA kc ks rr n σ (F0 m (pc) ls (.int (Int32.ofInt y) :: .int (Int32.ofInt x) :: rest)) := fun H locs h1 h2 h3 h4 => lv_icmp_ge X.1 X.2.1 d ht (fun q => kt ((ml_le hy hx).mp q) H locs h1 h2 h3 h4) (fun q => kf (fun z => q ((ml_le hy hx).mpr z)) H locs h1 h2 h3 h4)
theorem ml_if_ge (X : ml_X p s m c meth args D cA cc nL own rt) {x : Int} (hx : I32 x) {off : Int} {tgt : Nat} (d : decode cc pc = .ok (.ifCond .ge off, 3)) (ht : (pc : Int) + off = (tgt : Int)) (kt : 0 ≤ x → ml_V p l e R s m args below meth c Q base D cA kc ks rr n σ (F0 m (tgt) ls (rest))) (kf : ¬ (0 ≤ x) → ml_V p l e R s m args below meth c Q base D cA kc ks rr n σ (F0 m (pc + 3) ls (rest))) : ml_V p l e R s m args below meth c Q base D cA kc ks rr n σ (F0 m (pc) ls (.int (Int32.ofInt x) :: rest)) := fun H locs h1 h2 h3 h4 => lv_if_ge X.1 X.2.1 d ht (fun q => kt ((ml_le ml_i0 hx).mp q) H locs h1 h2 h3 h4) (fun q => kf (fun z => q ((ml_le ml_i0 hx).mpr z)) H locs h1 h2 h3 h4)
theorem ml_icmp_gt (X : ml_X p s m c meth args D cA cc nL own rt) {x y : Int} (hx : I32 x) (hy : I32 y) {off : Int} {tgt : Nat} (d : decode cc pc = .ok (.if_icmp .gt off, 3)) (ht : (pc : Int) + off = (tgt : Int)) (kt : y < x → ml_V p l e R s m args below meth c Q base D cA kc ks rr n σ (F0 m (tgt) ls (rest))) (kf : ¬ (y < x) → ml_V p l e R s m args below meth c Q base D cA kc ks rr n σ (F0 m (pc + 3) ls (rest))) : ml_V p l e R s m args below meth c Q base D cA kc ks rr n σ (F0 m (pc) ls (.int (Int32.ofInt y) :: .int (Int32.ofInt x) :: rest)) := fun H locs h1 h2 h3 h4 => lv_icmp_gt X.1 X.2.1 d ht (fun q => kt ((ml_lt hy hx).mp q) H locs h1 h2 h3 h4) (fun q => kf (fun z => q ((ml_lt hy hx).mpr z)) H locs h1 h2 h3 h4)
theorem ml_if_gt (X : ml_X p s m c meth args D cA cc nL own rt) {x : Int} (hx : I32 x) {off : Int} {tgt : Nat} (d : decode cc pc = .ok (.ifCond .gt off, 3)) (ht : (pc : Int) + off = (tgt : Int)) (kt : 0 < x → ml_V p l e R s m args below meth c Q base D cA kc ks rr n σ (F0 m (tgt) ls (rest))) (kf : ¬ (0 < x) → ml_V p l e R s m args below meth c Q base D cA kc ks rr n σ (F0 m (pc + 3) ls (rest))) : ml_V p l e R s m args below meth c Q base D cA kc ks rr n σ (F0 m (pc) ls (.int (Int32.ofInt x) :: rest)) := fun H locs h1 h2 h3 h4 => lv_if_gt X.1 X.2.1 d ht (fun q => kt ((ml_lt ml_i0 hx).mp q) H locs h1 h2 h3 h4) (fun q => kf (fun z => q ((ml_lt ml_i0 hx).mpr z)) H locs h1 h2 h3 h4)
theorem ml_icmp_le (X : ml_X p s m c meth args D cA cc nL own rt) {x y : Int} (hx : I32 x) (hy : I32 y) {off : Int} {tgt : Nat} (d : decode cc pc = .ok (.if_icmp .le off, 3)) (ht : (pc : Int) + off = (tgt : Int)) (kt : x ≤ y → ml_V p l e R s m args below meth c Q base D cA kc ks rr n σ (F0 m (tgt) ls (rest))) (kf : ¬ (x ≤ y) → ml_V p l e R s m args below meth c Q base D cA kc ks rr n σ (F0 m (pc + 3) ls (rest))) : ml_V p l e R s m args below meth c Q base D cA kc ks rr n σ (F0 m (pc) ls (.int (Int32.ofInt y) :: .int (Int32.ofInt x) :: rest)) := fun H locs h1 h2 h3 h4 => lv_icmp_le X.1 X.2.1 d ht (fun q => kt ((ml_le hx hy).mp q) H locs h1 h2 h3 h4) (fun q => kf (fun z => q ((ml_le hx hy).mpr z)) H locs h1 h2 h3 h4)
theorem ml_if_le (X : ml_X p s m c meth args D cA cc nL own rt) {x : Int} (hx : I32 x) {off : Int} {tgt : Nat} (d : decode cc pc = .ok (.ifCond .le off, 3)) (ht : (pc : Int) + off = (tgt : Int)) (kt : x ≤ 0 → ml_V p l e R s m args below meth c Q base D cA kc ks rr n σ (F0 m (tgt) ls (rest))) (kf : ¬ (x ≤ 0) → ml_V p l e R s m args below meth c Q base D cA kc ks rr n σ (F0 m (pc + 3) ls (rest))) : ml_V p l e R s m args below meth c Q base D cA kc ks rr n σ (F0 m (pc) ls (.int (Int32.ofInt x) :: rest)) := fun H locs h1 h2 h3 h4 => lv_if_le X.1 X.2.1 d ht (fun q => kt ((ml_le hx ml_i0).mp q) H locs h1 h2 h3 h4) (fun q => kf (fun z => q ((ml_le hx ml_i0).mpr z)) H locs h1 h2 h3 h4)
def l_cmp (x y : Int) : Int := if x < y then -1 else if x = y then 0 else 1
theorem l_cmp_r (x y : Int) : I32 (l_cmp x y) := by unfold l_cmp; split; · exact ⟨by decide, by decide⟩
                                                    · split <;> exact ⟨by decide, by decide⟩
theorem l_cmp_eq {x y : Int} : l_cmp x y = 0 ↔ x = y := by unfold l_cmp; split <;> (try split) <;> omega
theorem l_cmp_ne {x y : Int} : l_cmp x y ≠ 0 ↔ x ≠ y := not_congr l_cmp_eq
theorem l_cmp_lt {x y : Int} : l_cmp x y < 0 ↔ x < y := by unfold l_cmp; split <;> (try split) <;> omega
theorem l_cmp_ge {x y : Int} : 0 ≤ l_cmp x y ↔ y ≤ x := by unfold l_cmp; split <;> (try split) <;> omega
theorem l_cmp_gt {x y : Int} : 0 < l_cmp x y ↔ y < x := by unfold l_cmp; split <;> (try split) <;> omega
theorem l_cmp_le {x y : Int} : l_cmp x y ≤ 0 ↔ x ≤ y := by unfold l_cmp; split <;> (try split) <;> omega
theorem l_cmp_e {x y : Int} (hx : I64 x) (hy : I64 y) : lg_cmp (Int64.ofInt x) (Int64.ofInt y) = Int32.ofInt (l_cmp x y) := by
  unfold lg_cmp l_cmp
  have e1 := ml_llt hx hy
  have e2 := ml_leq hx hy
  have e3 := ml_llt hy hx
  rcases Int.lt_trichotomy x y with h | h | h
  · have h3 : ¬ Int64.ofInt y < Int64.ofInt x := fun q => by have := e3.mp q; omega
    have h4 : ¬ Int64.ofInt x = Int64.ofInt y := fun q => by have := e2.mp q; omega
    rw [if_neg h3, if_neg h4, if_pos h]; rfl
  · subst h
    have h3 : ¬ Int64.ofInt x < Int64.ofInt x := fun q => by have := e3.mp q; omega
    rw [if_neg h3, if_pos rfl, if_neg (by omega), if_pos rfl]; rfl
  · rw [if_pos (e3.mpr h), if_neg (by omega), if_neg (by omega)]; rfl
theorem ml_lcmp_eq (X : ml_X p s m c meth args D cA cc nL own rt) {x y : Int} (hx : I64 x) (hy : I64 y) {off : Int} {tgt : Nat} (d : decode cc pc = .ok (.lcmp, 1)) (d2 : decode cc (pc + 1) = .ok (.ifCond .eq off, 3)) (ht : ((pc + 1 : Nat) : Int) + off = (tgt : Int)) (kt : x = y → ml_V p l e R s m args below meth c Q base D cA kc ks rr n σ (F0 m (tgt) ls (rest))) (kf : ¬ (x = y) → ml_V p l e R s m args below meth c Q base D cA kc ks rr n σ (F0 m (pc + 1 + 3) ls (rest))) : ml_V p l e R s m args below meth c Q base D cA kc ks rr n σ (F0 m (pc) ls (.long (Int64.ofInt y) :: .long (Int64.ofInt x) :: rest)) := fun H locs h1 h2 h3 h4 => W.lcmp X.1 X.2.1 d (by rw [l_cmp_e hx hy]; exact ml_if_eq X (l_cmp_r x y) d2 ht (fun q => kt (l_cmp_eq.mp q)) (fun q => kf (fun z => q (l_cmp_eq.mpr z))) H locs h1 h2 h3 h4)
theorem ml_lcmp_ne (X : ml_X p s m c meth args D cA cc nL own rt) {x y : Int} (hx : I64 x) (hy : I64 y) {off : Int} {tgt : Nat} (d : decode cc pc = .ok (.lcmp, 1)) (d2 : decode cc (pc + 1) = .ok (.ifCond .ne off, 3)) (ht : ((pc + 1 : Nat) : Int) + off = (tgt : Int)) (kt : x ≠ y → ml_V p l e R s m args below meth c Q base D cA kc ks rr n σ (F0 m (tgt) ls (rest))) (kf : x = y → ml_V p l e R s m args below meth c Q base D cA kc ks rr n σ (F0 m (pc + 1 + 3) ls (rest))) : ml_V p l e R s m args below meth c Q base D cA kc ks rr n σ (F0 m (pc) ls (.long (Int64.ofInt y) :: .long (Int64.ofInt x) :: rest)) := fun H locs h1 h2 h3 h4 => W.lcmp X.1 X.2.1 d (by rw [l_cmp_e hx hy]; exact ml_if_ne X (l_cmp_r x y) d2 ht (fun q => kt (l_cmp_ne.mp q)) (fun q => kf (l_cmp_eq.mp q)) H locs h1 h2 h3 h4)
theorem ml_lcmp_lt (X : ml_X p s m c meth args D cA cc nL own rt) {x y : Int} (hx : I64 x) (hy : I64 y) {off : Int} {tgt : Nat} (d : decode cc pc = .ok (.lcmp, 1)) (d2 : decode cc (pc + 1) = .ok (.ifCond .lt off, 3)) (ht : ((pc + 1 : Nat) : Int) + off = (tgt : Int)) (kt : x < y → ml_V p l e R s m args below meth c Q base D cA kc ks rr n σ (F0 m (tgt) ls (rest))) (kf : ¬ (x < y) → ml_V p l e R s m args below meth c Q base D cA kc ks rr n σ (F0 m (pc + 1 + 3) ls (rest))) : ml_V p l e R s m args below meth c Q base D cA kc ks rr n σ (F0 m (pc) ls (.long (Int64.ofInt y) :: .long (Int64.ofInt x) :: rest)) := fun H locs h1 h2 h3 h4 => W.lcmp X.1 X.2.1 d (by rw [l_cmp_e hx hy]; exact ml_if_lt X (l_cmp_r x y) d2 ht (fun q => kt (l_cmp_lt.mp q)) (fun q => kf (fun z => q (l_cmp_lt.mpr z))) H locs h1 h2 h3 h4)
theorem ml_lcmp_ge (X : ml_X p s m c meth args D cA cc nL own rt) {x y : Int} (hx : I64 x) (hy : I64 y) {off : Int} {tgt : Nat} (d : decode cc pc = .ok (.lcmp, 1)) (d2 : decode cc (pc + 1) = .ok (.ifCond .ge off, 3)) (ht : ((pc + 1 : Nat) : Int) + off = (tgt : Int)) (kt : y ≤ x → ml_V p l e R s m args below meth c Q base D cA kc ks rr n σ (F0 m (tgt) ls (rest))) (kf : ¬ (y ≤ x) → ml_V p l e R s m args below meth c Q base D cA kc ks rr n σ (F0 m (pc + 1 + 3) ls (rest))) : ml_V p l e R s m args below meth c Q base D cA kc ks rr n σ (F0 m (pc) ls (.long (Int64.ofInt y) :: .long (Int64.ofInt x) :: rest)) := fun H locs h1 h2 h3 h4 => W.lcmp X.1 X.2.1 d (by rw [l_cmp_e hx hy]; exact ml_if_ge X (l_cmp_r x y) d2 ht (fun q => kt (l_cmp_ge.mp q)) (fun q => kf (fun z => q (l_cmp_ge.mpr z))) H locs h1 h2 h3 h4)
theorem ml_lcmp_gt (X : ml_X p s m c meth args D cA cc nL own rt) {x y : Int} (hx : I64 x) (hy : I64 y) {off : Int} {tgt : Nat} (d : decode cc pc = .ok (.lcmp, 1)) (d2 : decode cc (pc + 1) = .ok (.ifCond .gt off, 3)) (ht : ((pc + 1 : Nat) : Int) + off = (tgt : Int)) (kt : y < x → ml_V p l e R s m args below meth c Q base D cA kc ks rr n σ (F0 m (tgt) ls (rest))) (kf : ¬ (y < x) → ml_V p l e R s m args below meth c Q base D cA kc ks rr n σ (F0 m (pc + 1 + 3) ls (rest))) : ml_V p l e R s m args below meth c Q base D cA kc ks rr n σ (F0 m (pc) ls (.long (Int64.ofInt y) :: .long (Int64.ofInt x) :: rest)) := fun H locs h1 h2 h3 h4 => W.lcmp X.1 X.2.1 d (by rw [l_cmp_e hx hy]; exact ml_if_gt X (l_cmp_r x y) d2 ht (fun q => kt (l_cmp_gt.mp q)) (fun q => kf (fun z => q (l_cmp_gt.mpr z))) H locs h1 h2 h3 h4)
theorem ml_lcmp_le (X : ml_X p s m c meth args D cA cc nL own rt) {x y : Int} (hx : I64 x) (hy : I64 y) {off : Int} {tgt : Nat} (d : decode cc pc = .ok (.lcmp, 1)) (d2 : decode cc (pc + 1) = .ok (.ifCond .le off, 3)) (ht : ((pc + 1 : Nat) : Int) + off = (tgt : Int)) (kt : x ≤ y → ml_V p l e R s m args below meth c Q base D cA kc ks rr n σ (F0 m (tgt) ls (rest))) (kf : ¬ (x ≤ y) → ml_V p l e R s m args below meth c Q base D cA kc ks rr n σ (F0 m (pc + 1 + 3) ls (rest))) : ml_V p l e R s m args below meth c Q base D cA kc ks rr n σ (F0 m (pc) ls (.long (Int64.ofInt y) :: .long (Int64.ofInt x) :: rest)) := fun H locs h1 h2 h3 h4 => W.lcmp X.1 X.2.1 d (by rw [l_cmp_e hx hy]; exact ml_if_le X (l_cmp_r x y) d2 ht (fun q => kt (l_cmp_le.mp q)) (fun q => kf (fun z => q (l_cmp_le.mpr z))) H locs h1 h2 h3 h4)
theorem ml_tIn (X : ml_X p s m c meth args D cA cc nL own rt) {x v : Int} (hx : x = v) {dflt lo hi off : Int} {offs : Array Int} {len tgt : Nat} (d : decode cc pc = .ok (.tableswitch dflt lo hi offs, len)) (hl : ¬ (Int32.ofInt v).toInt < lo) (hh : ¬ hi < (Int32.ofInt v).toInt) (ho : offs[((Int32.ofInt v).toInt - lo).toNat]? = some off) (ht : (pc : Int) + off = (tgt : Int)) (k : ml_V p l e R s m args below meth c Q base D cA kc ks rr n σ (F0 m (tgt) ls (rest))) : ml_V p l e R s m args below meth c Q base D cA kc ks rr n σ (F0 m (pc) ls (.int (Int32.ofInt x) :: rest)) := by
  subst hx
  exact fun H locs h1 h2 h3 h4 => lv_tableIn X.1 X.2.1 d hl hh ho ht (k H locs h1 h2 h3 h4)
theorem ml_tOut (X : ml_X p s m c meth args D cA cc nL own rt) {x : Int} (hx : I32 x) {dflt lo hi : Int} {offs : Array Int} {len tgt : Nat} (d : decode cc pc = .ok (.tableswitch dflt lo hi offs, len)) (ho : x < lo ∨ hi < x) (ht : (pc : Int) + dflt = (tgt : Int)) (k : ml_V p l e R s m args below meth c Q base D cA kc ks rr n σ (F0 m (tgt) ls (rest))) : ml_V p l e R s m args below meth c Q base D cA kc ks rr n σ (F0 m (pc) ls (.int (Int32.ofInt x) :: rest)) :=
  fun H locs h1 h2 h3 h4 => lv_tableOut X.1 X.2.1 d (by rw [ml_32 hx]; exact ho) ht (k H locs h1 h2 h3 h4)
theorem ml_iald (X : ml_X p s m c meth args D cA cc nL own rt) {k i : Int} {N : Nat} (hk : ml_at n k (1, N)) (hi : 0 ≤ i) (hN : i < N) (d : decode cc pc = .ok (.iaload, 1)) (kk : I32 (σ k i) → ml_V p l e R s m args below meth c Q base D cA kc ks rr n σ (F0 m (pc + 1) ls (.int (Int32.ofInt (σ k i)) :: rest))) : ml_V p l e R s m args below meth c Q base D cA kc ks rr n σ (F0 m (pc) ls (.int (Int32.ofInt i) :: .ref (base + k.toNat) :: rest)) := by
  intro H locs h1 h2 h3 h4
  have hr : I32 (σ k i) := by
    have := h3 k i hk.1 hk.2.1 hi
    unfold ml_et at this
    rw [hk.2.2] at this
    exact this
  have hg := ml_cells_get (base := base) (cA := cA) (σ := σ) hk
  have hl := ml_len hk
  refine va_iald X.1 X.2.1 X.2.2.2.2.2.1 h1 (k.toNat - 1) 1 hg rfl (ml_vin hi hN hl) d ?_
  rw [ml_cl hi (by have : N ≤ 100000 := hl; omega), Int.toNat_of_nonneg hi]
  exact kk hr H locs h1 h2 h3 h4
theorem ml_bald (X : ml_X p s m c meth args D cA cc nL own rt) {k i : Int} {N : Nat} (hk : ml_at n k (2, N)) (hi : 0 ≤ i) (hN : i < N) (d : decode cc pc = .ok (.baload, 1)) (kk : ml_I8 (σ k i) → ml_V p l e R s m args below meth c Q base D cA kc ks rr n σ (F0 m (pc + 1) ls (.int (Int32.ofInt (σ k i)) :: rest))) : ml_V p l e R s m args below meth c Q base D cA kc ks rr n σ (F0 m (pc) ls (.int (Int32.ofInt i) :: .ref (base + k.toNat) :: rest)) := by
  intro H locs h1 h2 h3 h4
  have hr : ml_I8 (σ k i) := by
    have := h3 k i hk.1 hk.2.1 hi
    unfold ml_et at this
    rw [hk.2.2] at this
    exact this
  have hg := ml_cells_get (base := base) (cA := cA) (σ := σ) hk
  have hl := ml_len hk
  refine va_bald X.1 X.2.1 X.2.2.2.2.2.1 h1 (k.toNat - 1) 2 hg rfl (ml_vin hi hN hl) d ?_
  rw [ml_cl hi (by have : N ≤ 100000 := hl; omega), Int.toNat_of_nonneg hi]
  exact kk hr H locs h1 h2 h3 h4
theorem ml_zald (X : ml_X p s m c meth args D cA cc nL own rt) {k i : Int} {N : Nat} (hk : ml_at n k (3, N)) (hi : 0 ≤ i) (hN : i < N) (d : decode cc pc = .ok (.baload, 1)) (kk : ml_B (σ k i) → ml_V p l e R s m args below meth c Q base D cA kc ks rr n σ (F0 m (pc + 1) ls (.int (Int32.ofInt (σ k i)) :: rest))) : ml_V p l e R s m args below meth c Q base D cA kc ks rr n σ (F0 m (pc) ls (.int (Int32.ofInt i) :: .ref (base + k.toNat) :: rest)) := by
  intro H locs h1 h2 h3 h4
  have hr : ml_B (σ k i) := by
    have := h3 k i hk.1 hk.2.1 hi
    unfold ml_et at this
    rw [hk.2.2] at this
    exact this
  have hg := ml_cells_get (base := base) (cA := cA) (σ := σ) hk
  have hl := ml_len hk
  refine va_zald X.1 X.2.1 X.2.2.2.2.2.1 h1 (k.toNat - 1) 3 hg rfl (ml_vin hi hN hl) d ?_
  rw [ml_cl hi (by have : N ≤ 100000 := hl; omega), Int.toNat_of_nonneg hi]
  exact kk hr H locs h1 h2 h3 h4
theorem ml_lald (X : ml_X p s m c meth args D cA cc nL own rt) {k i : Int} {N : Nat} (hk : ml_at n k (4, N)) (hi : 0 ≤ i) (hN : i < N) (d : decode cc pc = .ok (.laload, 1)) (kk : I64 (σ k i) → ml_V p l e R s m args below meth c Q base D cA kc ks rr n σ (F0 m (pc + 1) ls (.long (Int64.ofInt (σ k i)) :: rest))) : ml_V p l e R s m args below meth c Q base D cA kc ks rr n σ (F0 m (pc) ls (.int (Int32.ofInt i) :: .ref (base + k.toNat) :: rest)) := by
  intro H locs h1 h2 h3 h4
  have hr : I64 (σ k i) := by
    have := h3 k i hk.1 hk.2.1 hi
    unfold ml_et at this
    rw [hk.2.2] at this
    exact this
  have hg := ml_cells_get (base := base) (cA := cA) (σ := σ) hk
  have hl := ml_len hk
  refine va_lald X.1 X.2.1 X.2.2.2.2.2.1 h1 (k.toNat - 1) 4 hg rfl (ml_vin hi hN hl) d ?_
  rw [ml_cl hi (by have : N ≤ 100000 := hl; omega), Int.toNat_of_nonneg hi]
  exact kk hr H locs h1 h2 h3 h4
theorem ml_arr_setX {N : Nat} {k i v : Int} (hk : ml_at n k (1, N)) (hi : 0 ≤ i) : (fun j : Nat => Int32.ofInt (ml_up σ k i v k j)) = upd (fun j : Nat => Int32.ofInt (σ k j)) i.toNat (Int32.ofInt v) := by
  funext j
  unfold upd ml_up
  by_cases h : j = i.toNat
  · subst h; simp [Int.toNat_of_nonneg hi]
  · have : ¬ (j : Int) = i := by omega
    simp [h, this]
theorem ml_arr_set' {k i v : Int} (hi : 0 ≤ i) : (fun j : Nat => Int32.ofInt (ml_up σ k i v k j)) = upd (fun j : Nat => Int32.ofInt (σ k j)) i.toNat (Int32.ofInt v) := by
  funext j
  unfold upd ml_up
  by_cases h : j = i.toNat
  · subst h; simp [Int.toNat_of_nonneg hi]
  · have : ¬ (j : Int) = i := by omega
    simp [h, this]
theorem ml_arr_setL {k i v : Int} (hi : 0 ≤ i) : (fun j : Nat => Int64.ofInt (ml_up σ k i v k j)) = vp_updL (fun j : Nat => Int64.ofInt (σ k j)) i.toNat (Int64.ofInt v) := by
  funext j
  unfold vp_updL ml_up
  by_cases h : j = i.toNat
  · subst h; simp [Int.toNat_of_nonneg hi]
  · have : ¬ (j : Int) = i := by omega
    simp [h, this]
theorem ml_rof_arr {k i : Int} {t N : Nat} (hk : ml_at n k (t, N)) (ht : t < 5) : ml_rof k i = 0 := by
  unfold ml_rof
  rw [show ml_layT k = (t, N) from hk.2.2]
  match t, ht with
  | 0, _ => rfl
  | 1, _ => rfl
  | 2, _ => rfl
  | 3, _ => rfl
  | 4, _ => rfl
theorem ml_iast (X : ml_X p s m c meth args D cA cc nL own rt) {k i v : Int} {N : Nat} (hk : ml_at n k (1, N)) (hi : 0 ≤ i) (hN : i < N) (hv : I32 v) (d : decode cc pc = .ok (.iastore, 1)) (kk : ∀ σ' : ml_St, σ' = ml_up σ k i v → ml_V p l e R s m args below meth c Q base D cA kc ks rr n σ' (F0 m (pc + 1) ls (rest))) : ml_V p l e R s m args below meth c Q base D cA kc ks rr n σ (F0 m (pc) ls (.int (Int32.ofInt v) :: .int (Int32.ofInt i) :: .ref (base + k.toNat) :: rest)) := by
  intro H locs h1 h2 h3 h4
  have hg := ml_cells_get (base := base) (cA := cA) (σ := σ) hk
  have hl := ml_len hk
  refine va_iast X.1 X.2.1 X.2.2.2.2.2.1 h1 (ml_cells_D base cA n σ) h2 (k.toNat - 1) 1 hg rfl (ml_vin hi hN hl) d (fun H1 locs1 g1 _ g3 => ?_)
  rw [ml_cl hi (by have : N ≤ 100000 := hl; omega)] at g1
  skip
  refine kk _ rfl H1 locs1 ?_ g3 (ml_ok_up h3 (by unfold ml_et; rw [hk.2.2]; exact hv)) (ml_RO_up h4 (ml_rof_arr hk (by decide)))
  rw [ml_cells_set (kd := (1, N)) (σ' := ml_up σ k i v) hk (by show _ = Sum.inl _; simp only [ml_arr_set' hi]) (fun a ha => ml_up_k ha)] at g1
  exact g1
theorem ml_bast (X : ml_X p s m c meth args D cA cc nL own rt) {k i v : Int} {N : Nat} (hk : ml_at n k (2, N)) (hi : 0 ≤ i) (hN : i < N) (hv : ml_I8 v) (d : decode cc pc = .ok (.bastore, 1)) (kk : ∀ σ' : ml_St, σ' = ml_up σ k i v → ml_V p l e R s m args below meth c Q base D cA kc ks rr n σ' (F0 m (pc + 1) ls (rest))) : ml_V p l e R s m args below meth c Q base D cA kc ks rr n σ (F0 m (pc) ls (.int (Int32.ofInt v) :: .int (Int32.ofInt i) :: .ref (base + k.toNat) :: rest)) := by
  intro H locs h1 h2 h3 h4
  have hg := ml_cells_get (base := base) (cA := cA) (σ := σ) hk
  have hl := ml_len hk
  refine va_bast X.1 X.2.1 X.2.2.2.2.2.1 h1 (ml_cells_D base cA n σ) h2 (k.toNat - 1) 2 hg rfl (ml_vin hi hN hl) d (fun H1 locs1 g1 _ g3 => ?_)
  rw [ml_cl hi (by have : N ≤ 100000 := hl; omega)] at g1
  rw [ml_nb hv] at g1
  refine kk _ rfl H1 locs1 ?_ g3 (ml_ok_up h3 (by unfold ml_et; rw [hk.2.2]; exact hv)) (ml_RO_up h4 (ml_rof_arr hk (by decide)))
  rw [ml_cells_set (kd := (2, N)) (σ' := ml_up σ k i v) hk (by show _ = Sum.inl _; simp only [ml_arr_set' hi]) (fun a ha => ml_up_k ha)] at g1
  exact g1
theorem ml_zast (X : ml_X p s m c meth args D cA cc nL own rt) {k i v : Int} {N : Nat} (hk : ml_at n k (3, N)) (hi : 0 ≤ i) (hN : i < N) (hv : ml_B v) (d : decode cc pc = .ok (.bastore, 1)) (kk : ∀ σ' : ml_St, σ' = ml_up σ k i v → ml_V p l e R s m args below meth c Q base D cA kc ks rr n σ' (F0 m (pc + 1) ls (rest))) : ml_V p l e R s m args below meth c Q base D cA kc ks rr n σ (F0 m (pc) ls (.int (Int32.ofInt v) :: .int (Int32.ofInt i) :: .ref (base + k.toNat) :: rest)) := by
  intro H locs h1 h2 h3 h4
  have hg := ml_cells_get (base := base) (cA := cA) (σ := σ) hk
  have hl := ml_len hk
  refine va_zast X.1 X.2.1 X.2.2.2.2.2.1 h1 (ml_cells_D base cA n σ) h2 (k.toNat - 1) 3 hg rfl (ml_vin hi hN hl) d (fun H1 locs1 g1 _ g3 => ?_)
  rw [ml_cl hi (by have : N ≤ 100000 := hl; omega)] at g1
  rw [ml_nz hv] at g1
  refine kk _ rfl H1 locs1 ?_ g3 (ml_ok_up h3 (by unfold ml_et; rw [hk.2.2]; exact hv)) (ml_RO_up h4 (ml_rof_arr hk (by decide)))
  rw [ml_cells_set (kd := (3, N)) (σ' := ml_up σ k i v) hk (by show _ = Sum.inl _; simp only [ml_arr_set' hi]) (fun a ha => ml_up_k ha)] at g1
  exact g1
theorem ml_last (X : ml_X p s m c meth args D cA cc nL own rt) {k i v : Int} {N : Nat} (hk : ml_at n k (4, N)) (hi : 0 ≤ i) (hN : i < N) (hv : I64 v) (d : decode cc pc = .ok (.lastore, 1)) (kk : ∀ σ' : ml_St, σ' = ml_up σ k i v → ml_V p l e R s m args below meth c Q base D cA kc ks rr n σ' (F0 m (pc + 1) ls (rest))) : ml_V p l e R s m args below meth c Q base D cA kc ks rr n σ (F0 m (pc) ls (.long (Int64.ofInt v) :: .int (Int32.ofInt i) :: .ref (base + k.toNat) :: rest)) := by
  intro H locs h1 h2 h3 h4
  have hg := ml_cells_get (base := base) (cA := cA) (σ := σ) hk
  have hl := ml_len hk
  refine va_last X.1 X.2.1 X.2.2.2.2.2.1 h1 (ml_cells_D base cA n σ) h2 (k.toNat - 1) 4 hg rfl (ml_vin hi hN hl) d (fun H1 locs1 g1 _ g3 => ?_)
  rw [ml_cl hi (by have : N ≤ 100000 := hl; omega)] at g1
  skip
  refine kk _ rfl H1 locs1 ?_ g3 (ml_ok_up h3 (by unfold ml_et; rw [hk.2.2]; exact hv)) (ml_RO_up h4 (ml_rof_arr hk (by decide)))
  rw [ml_cells_set (kd := (4, N)) (σ' := ml_up σ k i v) hk (by show _ = Sum.inl _; simp only [ml_arr_setL hi]) (fun a ha => ml_up_k ha)] at g1
  exact g1
end MLV
end
section
/-! objects, calls, ends -/
theorem ml_cell_obj {base : Nat} {cA : Nat → ClassId} {ci N : Nat} {f : Int → Int} (h : ci < 13) : ml_cell base cA (ci + 10, N) f = .inr (ci, (List.range N).map fun j => ml_fv base (ml_ty ci j) (f j)) := by
  match ci, h with
  | 0, _ => rfl
  | 1, _ => rfl
  | 2, _ => rfl
  | 3, _ => rfl
  | 4, _ => rfl
  | 5, _ => rfl
  | 6, _ => rfl
  | 7, _ => rfl
  | 8, _ => rfl
  | 9, _ => rfl
  | 10, _ => rfl
  | 11, _ => rfl
  | 12, _ => rfl
theorem ml_rgO {n : Nat} {σ : ml_St} {ci N : Nat} {k : Int} (h3 : ml_ok n σ) (hk : ml_at n k (ci + 10, N)) (j : Nat) : ml_rg (ml_fe (ml_ty ci j)) (σ k j) := by
  have h := h3 k j hk.1 hk.2.1 (Int.natCast_nonneg j)
  unfold ml_et at h
  rw [show ml_lay k = (ci + 10, N) from hk.2.2] at h
  rw [if_neg (by show ¬ ci + 10 < 10; omega)] at h
  rw [show (ci + 10, N).1 - 10 = ci from by show ci + 10 - 10 = ci; omega, show ((j : Nat) : Int).toNat = j from Int.toNat_natCast j] at h
  exact h
theorem ml_etO {n : Nat} {ci N : Nat} {k : Int} (hk : ml_at n k (ci + 10, N)) (j : Nat) : ml_et k j = ml_fe (ml_ty ci j) := by
  unfold ml_et
  rw [show ml_lay k = (ci + 10, N) from hk.2.2]
  rw [if_neg (by show ¬ ci + 10 < 10; omega)]
  rw [show (ci + 10, N).1 - 10 = ci from by show ci + 10 - 10 = ci; omega, show ((j : Nat) : Int).toNat = j from Int.toNat_natCast j]
theorem ml_obj_set {base : Nat} {σ : ml_St} {ci N j : Nat} {k x : Int} (hj : j < N) : ((List.range N).map fun j => ml_fv base (ml_ty ci j) (σ k j)).set j (ml_fv base (ml_ty ci j) x) = (List.range N).map fun i => ml_fv base (ml_ty ci i) (ml_up σ k j x k i) := by
  apply List.ext_getElem?
  intro i
  rw [List.getElem?_set]
  by_cases h : j = i
  · subst h
    simp [hj, ml_up]
  · rw [if_neg h]
    by_cases hi : i < N
    · have : ¬ (i : Int) = (j : Int) := by omega
      simp [hi, ml_up, this]
    · simp [hi]
def ml_U (base : Nat) (D : va_G) (cA : Nat → ClassId) (n : Nat) (σ : ml_St) (U : State) : Prop := va_P D ml_cls (ml_cells base cA n σ) U.heap ∧ va_K D ml_cls (ml_tys cA) U ∧ ml_ok n σ ∧ ml_RO n σ
theorem ml_U_blind {base : Nat} {D : va_G} {cA : Nat → ClassId} {n : Nat} {σ : ml_St} {As : List Value} : FrameBlind (va_Pc As (ml_U base D cA n σ)) := fun a U g mk q => by
  obtain ⟨q0, qP, qK, q3, q4⟩ := q
  exact ⟨q0, qP, va_K.moved (u := U) (U := U.calling g mk a) (Vm.Alike.refl U.vm) qK, q3, q4⟩
def ml_Qv (base : Nat) (D : va_G) (cA : Nat → ClassId) (n : Nat) (Q : ml_St → Prop) : Array Value → State → Outcome → State → Prop := va_Qv (fun u : ml_St => Q u) (fun u U => ml_U base D cA n u U) (ml_A base)
def ml_Qi (rg : Int → Prop) (base : Nat) (D : va_G) (cA : Nat → ClassId) (n : Nat) (Q : Int → ml_St → Prop) : Array Value → State → Outcome → State → Prop := va_Qi (fun (r : Int32) (u : Int × ml_St) => r = Int32.ofInt u.1 ∧ rg u.1 ∧ Q u.1 u.2) (fun u U => ml_U base D cA n u.2 U) (ml_A base)
def ml_Ql (base : Nat) (D : va_G) (cA : Nat → ClassId) (n : Nat) (Q : Int → ml_St → Prop) : Array Value → State → Outcome → State → Prop := va_Ql (fun (r : Int64) (u : Int × ml_St) => r = Int64.ofInt u.1 ∧ I64 u.1 ∧ Q u.1 u.2) (fun u U => ml_U base D cA n u.2 U) (ml_A base)
theorem ml_bad {base : Nat} {cA : Nat → ClassId} {D : va_G} {ws wc : va_W} {H : Heap} {n : Nat} {σ : ml_St} (hP : va_P D ml_cls (ml_cells base cA n σ) H) : ∀ q, q < H.size → ml_A base q → ml_A base q := fun _ _ h => h
section MLO
variable {p : Program} {l : Launch} {e : Env} {R : Room} {s : State} {m : MethodId} {args : Array Value} {below : List Frame} {meth : Method} {c : Code} {Q : State → Prop} {base : Nat} {D : va_G} {cA : Nat → ClassId} {kc ks rr n : Nat} {σ : ml_St} {cc : ByteArray} {nL pc : Nat} {own : String} {rt : Option FieldType} {ls : Array Slot} {rest : List Value} {lst : List (Nat × Value)}
theorem ml_getg (X : ml_X p s m c meth args D cA cc nL own rt) {C : String} {T : u_T} {N ci index : Nat} (hin : ∀ w ∈ u_ws C T N, w ∈ ml_T) (hc : ml_cls[ci]? = some (C, T, N)) (hci : ci < 13) (j : Nat) (hj : j < N) (hl : Cond.fieldLink own index (T j).1 (T j).2.1 (T j).2.2.1 ∈ ml_T) {k : Int} (hk : ml_at n k (ci + 10, N)) (d : decode cc pc = .ok (.getfield index, 3)) {v : Value} (hv : ml_RO rr σ → ml_fv base (ml_ty ci j) (σ k j) = v)
    (kk : ml_rg (ml_fe (ml_ty ci j)) (σ k j) → ml_V p l e R s m args below meth c Q base D cA kc ks rr n σ (F0 m (pc + 3) ls (v :: rest))) : ml_V p l e R s m args below meth c Q base D cA kc ks rr n σ (F0 m pc ls (.ref (base + k.toNat) :: rest)) := by
  intro H locs h1 h2 h3 h4
  have hg := ml_cells_get (base := base) (cA := cA) (σ := σ) hk
  rw [ml_cell_obj hci] at hg
  have hv' := hv h4
  exact va_get X.1 X.2.1 X.2.2.2.2.1 hin X.2.2.2.1 X.2.2.2.2.2.1 h1 (k.toNat - 1) hg hc j hj (X.2.2.2.2.1 _ hl) (fun _ h => h) (by simp [hj, hv']) d (kk (ml_rgO h3 hk j) H locs h1 h2 h3 h4)
theorem ml_putg (X : ml_X p s m c meth args D cA cc nL own rt) {C : String} {T : u_T} {N ci index : Nat} (hin : ∀ w ∈ u_ws C T N, w ∈ ml_T) (hc : ml_cls[ci]? = some (C, T, N)) (hci : ci < 13) (hty : ∀ k, k < N → parseFieldDescriptor (T k).2.2.1 = some (ml_ty ci k)) (hnm : ∀ a, a < N → ∀ b, b < N → a ≠ b → (T a).2.1 ≠ (T b).2.1) (j : Nat) (hj : j < N) (hfin : (T j).2.2.2 = false) (hl : Cond.fieldLink own index (T j).1 (T j).2.1 (T j).2.2.1 ∈ ml_T) {k x : Int} (hk : ml_at n k (ci + 10, N)) (d : decode cc pc = .ok (.putfield index, 3)) {v : Value} (hv : v = ml_fv base (ml_ty ci j) x) (hx : ml_rg (ml_fe (ml_ty ci j)) x) (hnar : narrow (ml_ty ci j) v = v) (hfit : fits (ml_ty ci j) v = true) (hro : rr < k ∨ ml_rof k j = 0)
    (kk : ∀ σ' : ml_St, σ' = ml_up σ k j x → ml_V p l e R s m args below meth c Q base D cA kc ks rr n σ' (F0 m (pc + 3) ls rest)) : ml_V p l e R s m args below meth c Q base D cA kc ks rr n σ (F0 m pc ls (v :: .ref (base + k.toNat) :: rest)) := by
  intro H locs h1 h2 h3 h4
  have hg := ml_cells_get (base := base) (cA := cA) (σ := σ) hk
  rw [ml_cell_obj hci] at hg
  refine va_put X.1 X.2.1 X.2.2.2.2.1 hin (ml_ty ci) hty hnm X.2.2.2.1 X.2.2.2.2.2.1 h1 (ml_cells_D base cA n σ) h2 (k.toNat - 1) hg hc j hj (X.2.2.2.2.1 _ hl) (fun _ h => h) hfin (hty j hj) hnar hfit (by simp [hj]) d (fun H1 locs1 g1 _ g3 => ?_)
  have e : ml_cell base cA (ci + 10, N) (ml_up σ k j x k) = .inr (ci, (List.range N).map fun i => ml_fv base (ml_ty ci i) (ml_up σ k j x k i)) := ml_cell_obj hci
  rw [hv, ml_obj_set hj, ml_cells_set (kd := (ci + 10, N)) (σ' := ml_up σ k j x) hk e.symm (fun a ha => ml_up_k ha)] at g1
  refine kk _ rfl H1 locs1 g1 g3 (ml_ok_up h3 (by rw [ml_etO hk]; exact hx)) ?_
  intro a b q1 q2 q3
  by_cases ha : a = k ∧ b = j
  · rcases hro with q | q
    · exact absurd (ha.1 ▸ q2) (by omega)
    · rw [ha.1, ha.2] at q3; exact absurd q q3
  · simp only [ml_up, ha, if_false]; exact h4 a b q1 q2 q3
theorem ml_putF (X : ml_X p s m c meth args D cA cc nL own rt) (hini : meth.name = "<init>") {C : String} {T : u_T} {N ci index : Nat} (hin : ∀ w ∈ u_ws C T N, w ∈ ml_T) (hc : ml_cls[ci]? = some (C, T, N)) (hci : ci < 13) (hty : ∀ k, k < N → parseFieldDescriptor (T k).2.2.1 = some (ml_ty ci k)) (hnm : ∀ a, a < N → ∀ b, b < N → a ≠ b → (T a).2.1 ≠ (T b).2.1) (j : Nat) (hj : j < N) (hfin : (T j).2.2.2 = true) (hdecl : (T j).1 = own) (hl : Cond.fieldLink own index (T j).1 (T j).2.1 (T j).2.2.1 ∈ ml_T) {k x : Int} (hk : ml_at n k (ci + 10, N)) (d : decode cc pc = .ok (.putfield index, 3)) {v : Value} (hv : v = ml_fv base (ml_ty ci j) x) (hx : ml_rg (ml_fe (ml_ty ci j)) x) (hnar : narrow (ml_ty ci j) v = v) (hfit : fits (ml_ty ci j) v = true) (hro : rr < k ∨ ml_rof k j = 0)
    (kk : ∀ σ' : ml_St, σ' = ml_up σ k j x → ml_V p l e R s m args below meth c Q base D cA kc ks rr n σ' (F0 m (pc + 3) ls rest)) : ml_V p l e R s m args below meth c Q base D cA kc ks rr n σ (F0 m pc ls (v :: .ref (base + k.toNat) :: rest)) := by
  intro H locs h1 h2 h3 h4
  have hg := ml_cells_get (base := base) (cA := cA) (σ := σ) hk
  rw [ml_cell_obj hci] at hg
  refine va_putF X.1 X.2.1 X.2.2.2.2.1 hin (ml_ty ci) hty hnm X.2.2.2.1 X.2.2.2.2.2.1 h1 (ml_cells_D base cA n σ) h2 (k.toNat - 1) hg hc j hj (X.2.2.2.2.1 _ hl) (fun _ h => h) hfin hini hdecl (hty j hj) hnar hfit (by simp [hj]) d (fun H1 locs1 g1 _ g3 => ?_)
  have e : ml_cell base cA (ci + 10, N) (ml_up σ k j x k) = .inr (ci, (List.range N).map fun i => ml_fv base (ml_ty ci i) (ml_up σ k j x k i)) := ml_cell_obj hci
  rw [hv, ml_obj_set hj, ml_cells_set (kd := (ci + 10, N)) (σ' := ml_up σ k j x) hk e.symm (fun a ha => ml_up_k ha)] at g1
  refine kk _ rfl H1 locs1 g1 g3 (ml_ok_up h3 (by rw [ml_etO hk]; exact hx)) ?_
  intro a b q1 q2 q3
  by_cases ha : a = k ∧ b = j
  · rcases hro with q | q
    · exact absurd (ha.1 ▸ q2) (by omega)
    · rw [ha.1, ha.2] at q3; exact absurd q q3
  · simp only [ml_up, ha, if_false]; exact h4 a b q1 q2 q3
theorem ml_recv {H : Heap} {ci N : Nat} {k : Int} {C : String} {T : u_T} (hK : va_K D ml_cls (ml_tys cA) s) (hP : va_P D ml_cls (ml_cells base cA n σ) H) (hci : ci < 13) (hc : ml_cls[ci]? = some (C, T, N)) (hk : ml_at n k (ci + 10, N)) : ∃ cell : Cell, H[base + k.toNat]? = some cell ∧ cell.vm.isStatics = false ∧ s.vm.findClass C = some cell.cls := by
  have hg := ml_cells_get (base := base) (cA := cA) (σ := σ) hk
  rw [ml_cell_obj hci] at hg
  exact va_recv hK hP hc hg
theorem ml_good : ∀ w ∈ ml_T, ((w.onTables && w.keeps) = true ∨ ∃ ty, w = .arrayClass ty) := fun _ h => good_of_word (List.mem_filter.mp h).2
theorem ml_gd {y : MethodName} {bytes : ByteArray} {mxl : Nat} {ret : Option FieldType} (h : Cond.code y bytes mxl ret ∈ ml_T) : GoodIn ml_T (Cond.code y bytes mxl ret :: ml_T) := fun w hw => by
  rcases List.mem_cons.mp hw with rfl | hw
  · exact ⟨h, ml_good _ h⟩
  · exact ⟨hw, ml_good _ hw⟩
theorem ml_gdV {own C : String} {idx : Nat} {y : MethodName} {bytes : ByteArray} {mxl : Nat} {ret : Option FieldType} (h1 : Cond.methodLink own idx y ∈ ml_T) (h2 : Cond.instanceMethod y ∈ ml_T) (h3 : Cond.selects C y y ∈ ml_T) (h4 : Cond.initialized C ∈ ml_T) (h : Cond.code y bytes mxl ret ∈ ml_T) : GoodIn ml_T (wsV own idx C y (Cond.code y bytes mxl ret :: ml_T)) := fun w hw => by
  unfold wsV at hw
  rcases List.mem_append.mp hw with hw | hw
  · simp only [List.mem_cons, List.not_mem_nil, or_false] at hw
    rcases hw with rfl | rfl | rfl | rfl
    · exact ⟨h1, ml_good _ h1⟩
    · exact ⟨h2, ml_good _ h2⟩
    · exact ⟨h3, ml_good _ h3⟩
    · exact ⟨h4, ml_good _ h4⟩
  · exact ml_gd h w hw
theorem ml_gdS {own : String} {idx : Nat} {y : MethodName} {bytes : ByteArray} {mxl : Nat} {ret : Option FieldType} (h1 : Cond.methodLink own idx y ∈ ml_T) (h2 : Cond.static y ∈ ml_T) (h4 : Cond.initialized own ∈ ml_T) (h : Cond.code y bytes mxl ret ∈ ml_T) : GoodIn ml_T (wsS own idx y (Cond.code y bytes mxl ret :: ml_T)) := fun w hw => by
  unfold wsS at hw
  rcases List.mem_append.mp hw with hw | hw
  · simp only [List.mem_cons, List.not_mem_nil, or_false] at hw
    rcases hw with rfl | rfl | rfl
    · exact ⟨h1, ml_good _ h1⟩
    · exact ⟨h2, ml_good _ h2⟩
    · exact ⟨h4, ml_good _ h4⟩
  · exact ml_gd h w hw
/-- what a call by a link needs: the callee's words, its place, its room -/
def ml_CV (own C : String) (index : Nat) (y : MethodName) (bytes : ByteArray) (mxl : Nat) (ret : Option FieldType) (nA : Nat) : Prop := (Cond.methodLink own index y ∈ ml_T ∧ Cond.instanceMethod y ∈ ml_T ∧ Cond.selects C y y ∈ ml_T ∧ Cond.initialized C ∈ ml_T ∧ Cond.code y bytes mxl ret ∈ ml_T) ∧ (y.cls = C ∧ y.cls ≠ "java/lang/invoke/MethodHandle" ∧ y.cls ≠ "java/lang/invoke/VarHandle" ∧ (parseMethodDescriptor y.desc).map (fun d => d.parameters.length) = some nA)
def ml_CS (own cl : String) (index : Nat) (y : MethodName) (bytes : ByteArray) (mxl : Nat) (ret : Option FieldType) (nA : Nat) : Prop := (Cond.methodLink own index y ∈ ml_T ∧ Cond.static y ∈ ml_T ∧ Cond.initialized cl ∈ ml_T ∧ Cond.code y bytes mxl ret ∈ ml_T) ∧ (y.cls = cl ∧ y.cls ≠ "java/lang/invoke/MethodHandle" ∧ y.cls ≠ "java/lang/invoke/VarHandle" ∧ (parseMethodDescriptor y.desc).map (fun d => d.parameters.length) = some nA)
theorem ml_cwV {own C : String} {index : Nat} {y : MethodName} {bytes : ByteArray} {mxl : Nat} {ret : Option FieldType} {nA : Nat} {rm : Room} (X : ml_X p s m c meth args D cA cc nL own rt) (h : ml_CV own C index y bytes mxl ret nA) (h0 : rm.cells = 0 ∧ rm.slots = 0) (hR : rm.frames + 1 ≤ R.frames ∧ 8 + (mxl + 11) + rm.locals ≤ R.locals) : CallW R s args own C index y bytes mxl ret (Cond.code y bytes mxl ret :: ml_T) rm 0 0 nA :=
  cwV nA X.2.2.2.2.1 (ml_gdV h.1.1 h.1.2.1 h.1.2.2.1 h.1.2.2.2.1 h.1.2.2.2.2) rfl h0.1 h0.2 h.2 hR
theorem ml_cwS {own cl : String} {index : Nat} {y : MethodName} {bytes : ByteArray} {mxl : Nat} {ret : Option FieldType} {nA : Nat} {rm : Room} (X : ml_X p s m c meth args D cA cc nL own rt) (h : ml_CS own cl index y bytes mxl ret nA) (h0 : rm.cells = 0 ∧ rm.slots = 0) (hR : rm.frames + 1 ≤ R.frames ∧ 8 + (mxl + 11) + rm.locals ≤ R.locals) : CallB R s args own index y bytes mxl ret (Cond.code y bytes mxl ret :: ml_T) rm 0 0 nA ∧ (Cond.static y).before args s = true :=
  ⟨callB_of nA X.2.2.2.2.1 (ml_gd h.1.2.2.2) rfl h0.1 h0.2 (by rw [h.2.1]; exact X.2.2.2.2.1 _ h.1.2.2.1) (X.2.2.2.2.1 _ h.1.1) h.2.2 hR, X.2.2.2.2.1 _ h.1.2.1⟩
theorem ml_Upre {H : Heap} {As : List Value} (X : ml_X p s m c meth args D cA cc nL own rt) (h1 : va_P D ml_cls (ml_cells base cA n σ) H) (h3 : ml_ok n σ) (h4 : ml_RO n σ) : ∀ U : State, U.heap = H → s.WarmedH U.vm → va_Pc As (ml_U base D cA n σ) As.toArray U :=
  fun U hU hW => ⟨rfl, by rw [hU]; exact h1, va_K.moved hW.alike X.2.2.2.2.2.1, h3, h4⟩
theorem ml_callvV (X : ml_X p s m c meth args D cA cc nL own rt) {C : String} {index : Nat} {y : MethodName} {bytes : ByteArray} {mxl : Nat} {ret : Option FieldType} {nA : Nat} {rm : Room} (As : List Value) {Qc : ml_St → Prop} {ci N : Nat} {k : Int} {T : u_T} (hci : ci < 13) (hc : ml_cls[ci]? = some (C, T, N)) (hk : ml_at n k (ci + 10, N)) (hM : Met l y (Cond.code y bytes mxl ret :: ml_T) rm (va_Pc (.ref (base + k.toNat) :: As) (ml_U base D cA n σ)) (ml_Qv base D cA n Qc) 0 0 (ml_A base)) (cv : ml_CV own C index y bytes mxl ret nA) (h0 : rm.cells = 0 ∧ rm.slots = 0) (hR : rm.frames + 1 ≤ R.frames ∧ 8 + (mxl + 11) + rm.locals ≤ R.locals) {st : List Value} (hst : st = As.reverse ++ .ref (base + k.toNat) :: rest) (hn : As.length = nA) (hl : lv_has ls nL lst) (hrest : (rest.map fun v => v.category).sum ≤ 8) (hkc : kc ≤ R.cells ∧ ks ≤ R.slots) (d : decode cc pc = .ok (.invokevirtual index, 3))
    (kk : ∀ σ' : ml_St, Qc σ' → ml_V p l e R s m args below meth c Q base D cA kc ks n n σ' (F0 m (pc + 3) ls (rest))) : ml_V p l e R s m args below meth c Q base D cA kc ks n n σ (F0 m (pc) ls st) := by
  subst hst
  intro H locs h1 h2 h3 h4
  refine va_callv (va_runV (As := As) (rest := rest) ⟨X.1, X.2.1, X.2.2.1, X.2.2.2.1, X.2.2.2.2.1⟩ hM (ml_cwV X cv h0 hR) ⟨ml_U_blind, ml_recv X.2.2.2.2.2.1 h1 hci hc hk, ml_Upre X h1 h3 h4⟩ rfl hn hl.1 rfl (lv_room hrest) d hkc) h2 (fun _ _ h => h) (fun _ h => h) (fun u t H1 locs1 ht hvm hw hB hz1 hk1 hS => ?_)
  obtain ⟨hP1, hK1, hok1, hro1⟩ := hB
  rw [ht] at hP1
  exact kk u hw H1 locs1 hP1 hS hok1 hro1
theorem ml_callvS (X : ml_X p s m c meth args D cA cc nL own rt) {C : String} {index : Nat} {y : MethodName} {bytes : ByteArray} {mxl : Nat} {ret : Option FieldType} {nA : Nat} {rm : Room} (As : List Value) {Qc : ml_St → Prop} (hM : Met l y (Cond.code y bytes mxl ret :: ml_T) rm (va_Pc (As) (ml_U base D cA n σ)) (ml_Qv base D cA n Qc) 0 0 (ml_A base)) (cv : ml_CS own C index y bytes mxl ret nA) (h0 : rm.cells = 0 ∧ rm.slots = 0) (hR : rm.frames + 1 ≤ R.frames ∧ 8 + (mxl + 11) + rm.locals ≤ R.locals) {st : List Value} (hst : st = As.reverse ++ rest) (hn : As.length = nA) (hl : lv_has ls nL lst) (hrest : (rest.map fun v => v.category).sum ≤ 8) (hkc : kc ≤ R.cells ∧ ks ≤ R.slots) (d : decode cc pc = .ok (.invokestatic index, 3))
    (kk : ∀ σ' : ml_St, Qc σ' → ml_V p l e R s m args below meth c Q base D cA kc ks n n σ' (F0 m (pc + 3) ls (rest))) : ml_V p l e R s m args below meth c Q base D cA kc ks n n σ (F0 m (pc) ls st) := by
  subst hst
  intro H locs h1 h2 h3 h4
  refine va_callv (va_runS (As := As) (rest := rest) ⟨X.1, X.2.1, X.2.2.1, X.2.2.2.1, X.2.2.2.2.1⟩ hM (ml_cwS X cv h0 hR) ⟨ml_U_blind, ml_Upre X h1 h3 h4⟩ rfl hn hl.1 rfl (lv_room hrest) d hkc) h2 (fun _ _ h => h) (fun _ h => h) (fun u t H1 locs1 ht hvm hw hB hz1 hk1 hS => ?_)
  obtain ⟨hP1, hK1, hok1, hro1⟩ := hB
  rw [ht] at hP1
  exact kk u hw H1 locs1 hP1 hS hok1 hro1
theorem ml_calliV (X : ml_X p s m c meth args D cA cc nL own rt) {C : String} {index : Nat} {y : MethodName} {bytes : ByteArray} {mxl : Nat} {ret : Option FieldType} {nA : Nat} {rm : Room} (As : List Value) {Qc : Int → ml_St → Prop} {ci N : Nat} {k : Int} {T : u_T} (hci : ci < 13) (hc : ml_cls[ci]? = some (C, T, N)) (hk : ml_at n k (ci + 10, N)) (hM : Met l y (Cond.code y bytes mxl ret :: ml_T) rm (va_Pc (.ref (base + k.toNat) :: As) (ml_U base D cA n σ)) (ml_Qi I32 base D cA n Qc) 0 0 (ml_A base)) (cv : ml_CV own C index y bytes mxl ret nA) (h0 : rm.cells = 0 ∧ rm.slots = 0) (hR : rm.frames + 1 ≤ R.frames ∧ 8 + (mxl + 11) + rm.locals ≤ R.locals) {st : List Value} (hst : st = As.reverse ++ .ref (base + k.toNat) :: rest) (hn : As.length = nA) (hl : lv_has ls nL lst) (hrest : (rest.map fun v => v.category).sum ≤ 8) (hkc : kc ≤ R.cells ∧ ks ≤ R.slots) (d : decode cc pc = .ok (.invokevirtual index, 3))
    (kk : ∀ (r : Int) (σ' : ml_St), I32 r → Qc r σ' → ml_V p l e R s m args below meth c Q base D cA kc ks n n σ' (F0 m (pc + 3) ls (.int (Int32.ofInt r) :: rest))) : ml_V p l e R s m args below meth c Q base D cA kc ks n n σ (F0 m (pc) ls st) := by
  subst hst
  intro H locs h1 h2 h3 h4
  refine va_calli (va_runV (As := As) (rest := rest) ⟨X.1, X.2.1, X.2.2.1, X.2.2.2.1, X.2.2.2.2.1⟩ hM (ml_cwV X cv h0 hR) ⟨ml_U_blind, ml_recv X.2.2.2.2.2.1 h1 hci hc hk, ml_Upre X h1 h3 h4⟩ rfl hn hl.1 rfl (lv_room hrest) d hkc) h2 (fun _ _ h => h) (fun _ h => h) (fun r u t H1 locs1 ht hvm hw hB hz1 hk1 hS => ?_)
  obtain ⟨hP1, hK1, hok1, hro1⟩ := hB
  rw [ht] at hP1
  obtain ⟨rfl, hr, hq⟩ := hw
  exact kk u.1 u.2 hr hq H1 locs1 hP1 hS hok1 hro1
theorem ml_calliS (X : ml_X p s m c meth args D cA cc nL own rt) {C : String} {index : Nat} {y : MethodName} {bytes : ByteArray} {mxl : Nat} {ret : Option FieldType} {nA : Nat} {rm : Room} (As : List Value) {Qc : Int → ml_St → Prop} (hM : Met l y (Cond.code y bytes mxl ret :: ml_T) rm (va_Pc (As) (ml_U base D cA n σ)) (ml_Qi I32 base D cA n Qc) 0 0 (ml_A base)) (cv : ml_CS own C index y bytes mxl ret nA) (h0 : rm.cells = 0 ∧ rm.slots = 0) (hR : rm.frames + 1 ≤ R.frames ∧ 8 + (mxl + 11) + rm.locals ≤ R.locals) {st : List Value} (hst : st = As.reverse ++ rest) (hn : As.length = nA) (hl : lv_has ls nL lst) (hrest : (rest.map fun v => v.category).sum ≤ 8) (hkc : kc ≤ R.cells ∧ ks ≤ R.slots) (d : decode cc pc = .ok (.invokestatic index, 3))
    (kk : ∀ (r : Int) (σ' : ml_St), I32 r → Qc r σ' → ml_V p l e R s m args below meth c Q base D cA kc ks n n σ' (F0 m (pc + 3) ls (.int (Int32.ofInt r) :: rest))) : ml_V p l e R s m args below meth c Q base D cA kc ks n n σ (F0 m (pc) ls st) := by
  subst hst
  intro H locs h1 h2 h3 h4
  refine va_calli (va_runS (As := As) (rest := rest) ⟨X.1, X.2.1, X.2.2.1, X.2.2.2.1, X.2.2.2.2.1⟩ hM (ml_cwS X cv h0 hR) ⟨ml_U_blind, ml_Upre X h1 h3 h4⟩ rfl hn hl.1 rfl (lv_room hrest) d hkc) h2 (fun _ _ h => h) (fun _ h => h) (fun r u t H1 locs1 ht hvm hw hB hz1 hk1 hS => ?_)
  obtain ⟨hP1, hK1, hok1, hro1⟩ := hB
  rw [ht] at hP1
  obtain ⟨rfl, hr, hq⟩ := hw
  exact kk u.1 u.2 hr hq H1 locs1 hP1 hS hok1 hro1
theorem ml_callzV (X : ml_X p s m c meth args D cA cc nL own rt) {C : String} {index : Nat} {y : MethodName} {bytes : ByteArray} {mxl : Nat} {ret : Option FieldType} {nA : Nat} {rm : Room} (As : List Value) {Qc : Int → ml_St → Prop} {ci N : Nat} {k : Int} {T : u_T} (hci : ci < 13) (hc : ml_cls[ci]? = some (C, T, N)) (hk : ml_at n k (ci + 10, N)) (hM : Met l y (Cond.code y bytes mxl ret :: ml_T) rm (va_Pc (.ref (base + k.toNat) :: As) (ml_U base D cA n σ)) (ml_Qi ml_B base D cA n Qc) 0 0 (ml_A base)) (cv : ml_CV own C index y bytes mxl ret nA) (h0 : rm.cells = 0 ∧ rm.slots = 0) (hR : rm.frames + 1 ≤ R.frames ∧ 8 + (mxl + 11) + rm.locals ≤ R.locals) {st : List Value} (hst : st = As.reverse ++ .ref (base + k.toNat) :: rest) (hn : As.length = nA) (hl : lv_has ls nL lst) (hrest : (rest.map fun v => v.category).sum ≤ 8) (hkc : kc ≤ R.cells ∧ ks ≤ R.slots) (d : decode cc pc = .ok (.invokevirtual index, 3))
    (kk : ∀ (r : Int) (σ' : ml_St), ml_B r → Qc r σ' → ml_V p l e R s m args below meth c Q base D cA kc ks n n σ' (F0 m (pc + 3) ls (.int (Int32.ofInt r) :: rest))) : ml_V p l e R s m args below meth c Q base D cA kc ks n n σ (F0 m (pc) ls st) := by
  subst hst
  intro H locs h1 h2 h3 h4
  refine va_calli (va_runV (As := As) (rest := rest) ⟨X.1, X.2.1, X.2.2.1, X.2.2.2.1, X.2.2.2.2.1⟩ hM (ml_cwV X cv h0 hR) ⟨ml_U_blind, ml_recv X.2.2.2.2.2.1 h1 hci hc hk, ml_Upre X h1 h3 h4⟩ rfl hn hl.1 rfl (lv_room hrest) d hkc) h2 (fun _ _ h => h) (fun _ h => h) (fun r u t H1 locs1 ht hvm hw hB hz1 hk1 hS => ?_)
  obtain ⟨hP1, hK1, hok1, hro1⟩ := hB
  rw [ht] at hP1
  obtain ⟨rfl, hr, hq⟩ := hw
  exact kk u.1 u.2 hr hq H1 locs1 hP1 hS hok1 hro1
theorem ml_callzS (X : ml_X p s m c meth args D cA cc nL own rt) {C : String} {index : Nat} {y : MethodName} {bytes : ByteArray} {mxl : Nat} {ret : Option FieldType} {nA : Nat} {rm : Room} (As : List Value) {Qc : Int → ml_St → Prop} (hM : Met l y (Cond.code y bytes mxl ret :: ml_T) rm (va_Pc (As) (ml_U base D cA n σ)) (ml_Qi ml_B base D cA n Qc) 0 0 (ml_A base)) (cv : ml_CS own C index y bytes mxl ret nA) (h0 : rm.cells = 0 ∧ rm.slots = 0) (hR : rm.frames + 1 ≤ R.frames ∧ 8 + (mxl + 11) + rm.locals ≤ R.locals) {st : List Value} (hst : st = As.reverse ++ rest) (hn : As.length = nA) (hl : lv_has ls nL lst) (hrest : (rest.map fun v => v.category).sum ≤ 8) (hkc : kc ≤ R.cells ∧ ks ≤ R.slots) (d : decode cc pc = .ok (.invokestatic index, 3))
    (kk : ∀ (r : Int) (σ' : ml_St), ml_B r → Qc r σ' → ml_V p l e R s m args below meth c Q base D cA kc ks n n σ' (F0 m (pc + 3) ls (.int (Int32.ofInt r) :: rest))) : ml_V p l e R s m args below meth c Q base D cA kc ks n n σ (F0 m (pc) ls st) := by
  subst hst
  intro H locs h1 h2 h3 h4
  refine va_calli (va_runS (As := As) (rest := rest) ⟨X.1, X.2.1, X.2.2.1, X.2.2.2.1, X.2.2.2.2.1⟩ hM (ml_cwS X cv h0 hR) ⟨ml_U_blind, ml_Upre X h1 h3 h4⟩ rfl hn hl.1 rfl (lv_room hrest) d hkc) h2 (fun _ _ h => h) (fun _ h => h) (fun r u t H1 locs1 ht hvm hw hB hz1 hk1 hS => ?_)
  obtain ⟨hP1, hK1, hok1, hro1⟩ := hB
  rw [ht] at hP1
  obtain ⟨rfl, hr, hq⟩ := hw
  exact kk u.1 u.2 hr hq H1 locs1 hP1 hS hok1 hro1
theorem ml_calllV (X : ml_X p s m c meth args D cA cc nL own rt) {C : String} {index : Nat} {y : MethodName} {bytes : ByteArray} {mxl : Nat} {ret : Option FieldType} {nA : Nat} {rm : Room} (As : List Value) {Qc : Int → ml_St → Prop} {ci N : Nat} {k : Int} {T : u_T} (hci : ci < 13) (hc : ml_cls[ci]? = some (C, T, N)) (hk : ml_at n k (ci + 10, N)) (hM : Met l y (Cond.code y bytes mxl ret :: ml_T) rm (va_Pc (.ref (base + k.toNat) :: As) (ml_U base D cA n σ)) (ml_Ql base D cA n Qc) 0 0 (ml_A base)) (cv : ml_CV own C index y bytes mxl ret nA) (h0 : rm.cells = 0 ∧ rm.slots = 0) (hR : rm.frames + 1 ≤ R.frames ∧ 8 + (mxl + 11) + rm.locals ≤ R.locals) {st : List Value} (hst : st = As.reverse ++ .ref (base + k.toNat) :: rest) (hn : As.length = nA) (hl : lv_has ls nL lst) (hrest : (rest.map fun v => v.category).sum ≤ 8) (hkc : kc ≤ R.cells ∧ ks ≤ R.slots) (d : decode cc pc = .ok (.invokevirtual index, 3))
    (kk : ∀ (r : Int) (σ' : ml_St), I64 r → Qc r σ' → ml_V p l e R s m args below meth c Q base D cA kc ks n n σ' (F0 m (pc + 3) ls (.long (Int64.ofInt r) :: rest))) : ml_V p l e R s m args below meth c Q base D cA kc ks n n σ (F0 m (pc) ls st) := by
  subst hst
  intro H locs h1 h2 h3 h4
  refine va_calll (va_runV (As := As) (rest := rest) ⟨X.1, X.2.1, X.2.2.1, X.2.2.2.1, X.2.2.2.2.1⟩ hM (ml_cwV X cv h0 hR) ⟨ml_U_blind, ml_recv X.2.2.2.2.2.1 h1 hci hc hk, ml_Upre X h1 h3 h4⟩ rfl hn hl.1 rfl (lv_room hrest) d hkc) h2 (fun _ _ h => h) (fun _ h => h) (fun r u t H1 locs1 ht hvm hw hB hz1 hk1 hS => ?_)
  obtain ⟨hP1, hK1, hok1, hro1⟩ := hB
  rw [ht] at hP1
  obtain ⟨rfl, hr, hq⟩ := hw
  exact kk u.1 u.2 hr hq H1 locs1 hP1 hS hok1 hro1
theorem ml_calllS (X : ml_X p s m c meth args D cA cc nL own rt) {C : String} {index : Nat} {y : MethodName} {bytes : ByteArray} {mxl : Nat} {ret : Option FieldType} {nA : Nat} {rm : Room} (As : List Value) {Qc : Int → ml_St → Prop} (hM : Met l y (Cond.code y bytes mxl ret :: ml_T) rm (va_Pc (As) (ml_U base D cA n σ)) (ml_Ql base D cA n Qc) 0 0 (ml_A base)) (cv : ml_CS own C index y bytes mxl ret nA) (h0 : rm.cells = 0 ∧ rm.slots = 0) (hR : rm.frames + 1 ≤ R.frames ∧ 8 + (mxl + 11) + rm.locals ≤ R.locals) {st : List Value} (hst : st = As.reverse ++ rest) (hn : As.length = nA) (hl : lv_has ls nL lst) (hrest : (rest.map fun v => v.category).sum ≤ 8) (hkc : kc ≤ R.cells ∧ ks ≤ R.slots) (d : decode cc pc = .ok (.invokestatic index, 3))
    (kk : ∀ (r : Int) (σ' : ml_St), I64 r → Qc r σ' → ml_V p l e R s m args below meth c Q base D cA kc ks n n σ' (F0 m (pc + 3) ls (.long (Int64.ofInt r) :: rest))) : ml_V p l e R s m args below meth c Q base D cA kc ks n n σ (F0 m (pc) ls st) := by
  subst hst
  intro H locs h1 h2 h3 h4
  refine va_calll (va_runS (As := As) (rest := rest) ⟨X.1, X.2.1, X.2.2.1, X.2.2.2.1, X.2.2.2.2.1⟩ hM (ml_cwS X cv h0 hR) ⟨ml_U_blind, ml_Upre X h1 h3 h4⟩ rfl hn hl.1 rfl (lv_room hrest) d hkc) h2 (fun _ _ h => h) (fun _ h => h) (fun r u t H1 locs1 ht hvm hw hB hz1 hk1 hS => ?_)
  obtain ⟨hP1, hK1, hok1, hro1⟩ := hB
  rw [ht] at hP1
  obtain ⟨rfl, hr, hq⟩ := hw
  exact kk u.1 u.2 hr hq H1 locs1 hP1 hS hok1 hro1
theorem ml_vret (X : ml_X p s m c meth args D cA cc nL own none) {Qc : ml_St → Prop} (hq : Qc σ) (d : decode cc pc = .ok (.return_, 1)) : ml_V p l e R s m args below meth c (MQ below (ml_Qv base D cA n Qc) args s kc ks (ml_A base)) base D cA kc ks n n σ (F0 m (pc) ls ([])) :=
  fun H locs h1 h2 h3 h4 => W.vret X.1 X.2.1 X.2.2.2.2.2.2.2 (fun t ht hW => ⟨⟨σ, rfl, hq, by rw [ht]; exact h1, va_K.moved hW.alike X.2.2.2.2.2.1, h3, h4⟩, h2.F ht⟩) h2.2.2 d (hlocks := X.2.2.2.2.2.2.1)
theorem ml_iret (X : ml_X p s m c meth args D cA cc nL own (some .int)) {Qc : Int → ml_St → Prop} {r : Int} (hr : I32 r) (hq : Qc r σ) (d : decode cc pc = .ok (.ireturn, 1)) : ml_V p l e R s m args below meth c (MQ below (ml_Qi I32 base D cA n Qc) args s kc ks (ml_A base)) base D cA kc ks n n σ (F0 m (pc) ls ([.int (Int32.ofInt r)])) :=
  fun H locs h1 h2 h3 h4 => W.iret X.1 X.2.1 X.2.2.2.2.2.2.2 (fun t ht hW => ⟨⟨_, (r, σ), rfl, ⟨rfl, hr, hq⟩, by rw [ht]; exact h1, va_K.moved hW.alike X.2.2.2.2.2.1, h3, h4⟩, h2.F ht⟩) h2.2.2 d (hlocks := X.2.2.2.2.2.2.1)
theorem ml_narz {r : Int} (hr : ml_B r) : narrow .boolean (.int (Int32.ofInt r)) = .int (Int32.ofInt r) := by
  have h1 := hr.1
  have h2 := hr.2
  rcases (show r = 0 ∨ r = 1 by omega) with rfl | rfl
  · rfl
  · rfl
theorem ml_zret (X : ml_X p s m c meth args D cA cc nL own (some .boolean)) {Qc : Int → ml_St → Prop} {r : Int} (hr : ml_B r) (hq : Qc r σ) (d : decode cc pc = .ok (.ireturn, 1)) : ml_V p l e R s m args below meth c (MQ below (ml_Qi ml_B base D cA n Qc) args s kc ks (ml_A base)) base D cA kc ks n n σ (F0 m (pc) ls ([.int (Int32.ofInt r)])) :=
  fun H locs h1 h2 h3 h4 => W.zret X.1 X.2.1 X.2.2.2.2.2.2.2 (ml_narz hr) (fun t ht hW => ⟨⟨_, (r, σ), rfl, ⟨rfl, hr, hq⟩, by rw [ht]; exact h1, va_K.moved hW.alike X.2.2.2.2.2.1, h3, h4⟩, h2.F ht⟩) h2.2.2 d (hlocks := X.2.2.2.2.2.2.1)
theorem ml_lret (X : ml_X p s m c meth args D cA cc nL own (some .long)) {Qc : Int → ml_St → Prop} {r : Int} (hr : I64 r) (hq : Qc r σ) (d : decode cc pc = .ok (.lreturn, 1)) : ml_V p l e R s m args below meth c (MQ below (ml_Ql base D cA n Qc) args s kc ks (ml_A base)) base D cA kc ks n n σ (F0 m (pc) ls ([.long (Int64.ofInt r)])) :=
  fun H locs h1 h2 h3 h4 => W.lret X.1 X.2.1 X.2.2.2.2.2.2.2 (fun t ht hW => ⟨⟨_, (r, σ), rfl, ⟨rfl, hr, hq⟩, by rw [ht]; exact h1, va_K.moved hW.alike X.2.2.2.2.2.1, h3, h4⟩, h2.F ht⟩) h2.2.2 d (hlocks := X.2.2.2.2.2.2.1)
end MLO
end

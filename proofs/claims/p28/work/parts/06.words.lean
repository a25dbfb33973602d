theorem tw_3_89 : (Jvm.Cond.methodLink "MirrorLane$Word" (42 : Nat) ({ cls := "java/lang/System", name := "arraycopy", desc := "(Ljava/lang/Object;ILjava/lang/Object;II)V" } : Jvm.MethodName)) ∈ ml_T := ml_in (ml_t3 (List.mem_of_getElem? (i := 89) rfl)) rfl
theorem tw_3_43 : (Jvm.Cond.native ({ cls := "java/lang/System", name := "arraycopy", desc := "(Ljava/lang/Object;ILjava/lang/Object;II)V" } : Jvm.MethodName)) ∈ ml_T := ml_in (ml_t3 (List.mem_of_getElem? (i := 43) rfl)) rfl
theorem tw_3_42 : (Jvm.Cond.static ({ cls := "java/lang/System", name := "arraycopy", desc := "(Ljava/lang/Object;ILjava/lang/Object;II)V" } : Jvm.MethodName)) ∈ ml_T := ml_in (ml_t3 (List.mem_of_getElem? (i := 42) rfl)) rfl
theorem tw_1_15 : (Jvm.Cond.initialized "java/lang/System") ∈ ml_T := ml_in (ml_t1 (List.mem_of_getElem? (i := 15) rfl)) rfl
theorem tw_3_64 : (Jvm.Cond.methodLink "MirrorLane$Weave" (55 : Nat) ({ cls := "java/lang/Math", name := "max", desc := "(JJ)J" } : Jvm.MethodName)) ∈ ml_T := ml_in (ml_t3 (List.mem_of_getElem? (i := 64) rfl)) rfl
theorem tw_3_65 : (Jvm.Cond.static ({ cls := "java/lang/Math", name := "max", desc := "(JJ)J" } : Jvm.MethodName)) ∈ ml_T := ml_in (ml_t3 (List.mem_of_getElem? (i := 65) rfl)) rfl
theorem tw_1_14 : (Jvm.Cond.initialized "java/lang/Math") ∈ ml_T := ml_in (ml_t1 (List.mem_of_getElem? (i := 14) rfl)) rfl
theorem tw_3_66 : (Jvm.Cond.code ({ cls := "java/lang/Math", name := "max", desc := "(JJ)J" } : Jvm.MethodName) prog_16_method_66_code (4 : Nat) (Option.some Jvm.ClassFile.FieldType.long)) ∈ ml_T := ml_in (ml_t3 (List.mem_of_getElem? (i := 66) rfl)) rfl
theorem tw_3_67 : (Jvm.Cond.constantLong "MirrorLane$Weave" (61 : Nat) (9000000000000000000 : Int64)) ∈ ml_T := ml_in (ml_t3 (List.mem_of_getElem? (i := 67) rfl)) rfl
theorem tc_3_67 : Cond.constantLong "MirrorLane$Weave" 61 (Int64.ofInt 9000000000000000000) ∈ ml_T := by
  rw [show Int64.ofInt 9000000000000000000 = (9000000000000000000 : Int64) by decide +kernel]
  exact tw_3_67
theorem tw_3_68 : (Jvm.Cond.methodLink "MirrorLane$Weave" (63 : Nat) ({ cls := "java/lang/Math", name := "min", desc := "(JJ)J" } : Jvm.MethodName)) ∈ ml_T := ml_in (ml_t3 (List.mem_of_getElem? (i := 68) rfl)) rfl
theorem tw_3_69 : (Jvm.Cond.static ({ cls := "java/lang/Math", name := "min", desc := "(JJ)J" } : Jvm.MethodName)) ∈ ml_T := ml_in (ml_t3 (List.mem_of_getElem? (i := 69) rfl)) rfl
theorem tw_3_70 : (Jvm.Cond.code ({ cls := "java/lang/Math", name := "min", desc := "(JJ)J" } : Jvm.MethodName) prog_16_method_70_code (4 : Nat) (Option.some Jvm.ClassFile.FieldType.long)) ∈ ml_T := ml_in (ml_t3 (List.mem_of_getElem? (i := 70) rfl)) rfl
theorem tw_3_41 : (Jvm.Cond.methodLink "MirrorLane$Weave" (49 : Nat) ({ cls := "java/lang/System", name := "arraycopy", desc := "(Ljava/lang/Object;ILjava/lang/Object;II)V" } : Jvm.MethodName)) ∈ ml_T := ml_in (ml_t3 (List.mem_of_getElem? (i := 41) rfl)) rfl
theorem tw_3_44 : (Jvm.Cond.methodLink "MirrorLane$Loom" (68 : Nat) ({ cls := "java/lang/Math", name := "max", desc := "(II)I" } : Jvm.MethodName)) ∈ ml_T := ml_in (ml_t3 (List.mem_of_getElem? (i := 44) rfl)) rfl
theorem tw_3_45 : (Jvm.Cond.static ({ cls := "java/lang/Math", name := "max", desc := "(II)I" } : Jvm.MethodName)) ∈ ml_T := ml_in (ml_t3 (List.mem_of_getElem? (i := 45) rfl)) rfl
theorem tw_3_46 : (Jvm.Cond.code ({ cls := "java/lang/Math", name := "max", desc := "(II)I" } : Jvm.MethodName) prog_16_method_65_code (2 : Nat) (Option.some Jvm.ClassFile.FieldType.int)) ∈ ml_T := ml_in (ml_t3 (List.mem_of_getElem? (i := 46) rfl)) rfl
theorem tw_3_34 : (Jvm.Cond.methodLink "MirrorLane$Loom" (58 : Nat) ({ cls := "java/lang/Math", name := "min", desc := "(II)I" } : Jvm.MethodName)) ∈ ml_T := ml_in (ml_t3 (List.mem_of_getElem? (i := 34) rfl)) rfl
theorem tw_3_35 : (Jvm.Cond.static ({ cls := "java/lang/Math", name := "min", desc := "(II)I" } : Jvm.MethodName)) ∈ ml_T := ml_in (ml_t3 (List.mem_of_getElem? (i := 35) rfl)) rfl
theorem tw_3_36 : (Jvm.Cond.code ({ cls := "java/lang/Math", name := "min", desc := "(II)I" } : Jvm.MethodName) prog_16_method_69_code (2 : Nat) (Option.some Jvm.ClassFile.FieldType.int)) ∈ ml_T := ml_in (ml_t3 (List.mem_of_getElem? (i := 36) rfl)) rfl
theorem tw_3_83 : (Jvm.Cond.constantLong "MirrorLane$Weave" (39 : Nat) (1000000000000 : Int64)) ∈ ml_T := ml_in (ml_t3 (List.mem_of_getElem? (i := 83) rfl)) rfl
theorem tc_3_83 : Cond.constantLong "MirrorLane$Weave" 39 (Int64.ofInt 1000000000000) ∈ ml_T := by
  rw [show Int64.ofInt 1000000000000 = (1000000000000 : Int64) by decide +kernel]
  exact tw_3_83
theorem tw_3_91 : (Jvm.Cond.methodLink "MirrorLane" (296 : Nat) ({ cls := "java/lang/Math", name := "max", desc := "(II)I" } : Jvm.MethodName)) ∈ ml_T := ml_in (ml_t3 (List.mem_of_getElem? (i := 91) rfl)) rfl
theorem tw_3_120 : (Jvm.Cond.methodLink "MirrorLane$Closing" (24 : Nat) ({ cls := "java/lang/System", name := "arraycopy", desc := "(Ljava/lang/Object;ILjava/lang/Object;II)V" } : Jvm.MethodName)) ∈ ml_T := ml_in (ml_t3 (List.mem_of_getElem? (i := 120) rfl)) rfl
theorem tw_3_125 : (Jvm.Cond.constantLong "MirrorLane" (119 : Nat) (-1 : Int64)) ∈ ml_T := ml_in (ml_t3 (List.mem_of_getElem? (i := 125) rfl)) rfl
theorem tc_3_125 : Cond.constantLong "MirrorLane" 119 (Int64.ofInt (-1)) ∈ ml_T := by
  rw [show Int64.ofInt (-1) = ((-1) : Int64) by decide +kernel]
  exact tw_3_125
theorem tw_3_171 : (Jvm.Cond.constant "java/lang/Intege\x72" (265 : Nat) (1431655765 : Int32)) ∈ ml_T := ml_in (ml_t3 (List.mem_of_getElem? (i := 171) rfl)) rfl
theorem tc_3_171 : Cond.constant "java/lang/Intege\x72" 265 (Int32.ofInt 1431655765) ∈ ml_T := by
  rw [show Int32.ofInt 1431655765 = (1431655765 : Int32) by decide +kernel]
  exact tw_3_171
theorem tw_3_172 : (Jvm.Cond.constant "java/lang/Intege\x72" (266 : Nat) (858993459 : Int32)) ∈ ml_T := ml_in (ml_t3 (List.mem_of_getElem? (i := 172) rfl)) rfl
theorem tc_3_172 : Cond.constant "java/lang/Intege\x72" 266 (Int32.ofInt 858993459) ∈ ml_T := by
  rw [show Int32.ofInt 858993459 = (858993459 : Int32) by decide +kernel]
  exact tw_3_172
theorem tw_3_173 : (Jvm.Cond.constant "java/lang/Intege\x72" (267 : Nat) (252645135 : Int32)) ∈ ml_T := ml_in (ml_t3 (List.mem_of_getElem? (i := 173) rfl)) rfl
theorem tc_3_173 : Cond.constant "java/lang/Intege\x72" 267 (Int32.ofInt 252645135) ∈ ml_T := by
  rw [show Int32.ofInt 252645135 = (252645135 : Int32) by decide +kernel]
  exact tw_3_173
theorem tw_3_195 : (Jvm.Cond.constantLong "MirrorLane$Powers" (70 : Nat) (9000000000000000000 : Int64)) ∈ ml_T := ml_in (ml_t3 (List.mem_of_getElem? (i := 195) rfl)) rfl
theorem tc_3_195 : Cond.constantLong "MirrorLane$Powers" 70 (Int64.ofInt 9000000000000000000) ∈ ml_T := by
  rw [show Int64.ofInt 9000000000000000000 = (9000000000000000000 : Int64) by decide +kernel]
  exact tw_3_195
theorem tw_3_203 : (Jvm.Cond.constantLong "MirrorLane" (178 : Nat) (1000000000000000000 : Int64)) ∈ ml_T := ml_in (ml_t3 (List.mem_of_getElem? (i := 203) rfl)) rfl
theorem tc_3_203 : Cond.constantLong "MirrorLane" 178 (Int64.ofInt 1000000000000000000) ∈ ml_T := by
  rw [show Int64.ofInt 1000000000000000000 = (1000000000000000000 : Int64) by decide +kernel]
  exact tw_3_203
theorem tw_3_224 : (Jvm.Cond.constantLong "MirrorLane$Powers" (92 : Nat) (-1 : Int64)) ∈ ml_T := ml_in (ml_t3 (List.mem_of_getElem? (i := 224) rfl)) rfl
theorem tc_3_224 : Cond.constantLong "MirrorLane$Powers" 92 (Int64.ofInt (-1)) ∈ ml_T := by
  rw [show Int64.ofInt (-1) = ((-1) : Int64) by decide +kernel]
  exact tw_3_224
theorem tw_3_233 : (Jvm.Cond.constantLong "MirrorLane$Powers" (94 : Nat) (1000000000000000000 : Int64)) ∈ ml_T := ml_in (ml_t3 (List.mem_of_getElem? (i := 233) rfl)) rfl
theorem tc_3_233 : Cond.constantLong "MirrorLane$Powers" 94 (Int64.ofInt 1000000000000000000) ∈ ml_T := by
  rw [show Int64.ofInt 1000000000000000000 = (1000000000000000000 : Int64) by decide +kernel]
  exact tw_3_233
theorem tw_4_40 : (Jvm.Cond.methodLink "MirrorLane$Sentences" (84 : Nat) ({ cls := "java/lang/System", name := "arraycopy", desc := "(Ljava/lang/Object;ILjava/lang/Object;II)V" } : Jvm.MethodName)) ∈ ml_T := ml_in (ml_t4 (List.mem_of_getElem? (i := 40) rfl)) rfl
theorem tw_4_47 : (Jvm.Cond.constantLong "MirrorLane$Sentences" (107 : Nat) (3 : Int64)) ∈ ml_T := ml_in (ml_t4 (List.mem_of_getElem? (i := 47) rfl)) rfl
theorem tc_4_47 : Cond.constantLong "MirrorLane$Sentences" 107 (Int64.ofInt 3) ∈ ml_T := by
  rw [show Int64.ofInt 3 = (3 : Int64) by decide +kernel]
  exact tw_4_47
theorem tw_4_48 : (Jvm.Cond.methodLink "MirrorLane$Sentences" (109 : Nat) ({ cls := "java/lang/Math", name := "min", desc := "(JJ)J" } : Jvm.MethodName)) ∈ ml_T := ml_in (ml_t4 (List.mem_of_getElem? (i := 48) rfl)) rfl
theorem tw_4_73 : (Jvm.Cond.constantLong "MirrorLane$Sentences" (127 : Nat) (998244353 : Int64)) ∈ ml_T := ml_in (ml_t4 (List.mem_of_getElem? (i := 73) rfl)) rfl
theorem tc_4_73 : Cond.constantLong "MirrorLane$Sentences" 127 (Int64.ofInt 998244353) ∈ ml_T := by
  rw [show Int64.ofInt 998244353 = (998244353 : Int64) by decide +kernel]
  exact tw_4_73
theorem tw_4_118 : (Jvm.Cond.constantLong "MirrorLane$Finde\x72" (81 : Nat) (1048576 : Int64)) ∈ ml_T := ml_in (ml_t4 (List.mem_of_getElem? (i := 118) rfl)) rfl
theorem tc_4_118 : Cond.constantLong "MirrorLane$Finde\x72" 81 (Int64.ofInt 1048576) ∈ ml_T := by
  rw [show Int64.ofInt 1048576 = (1048576 : Int64) by decide +kernel]
  exact tw_4_118
theorem tw_4_112 : (Jvm.Cond.constantLong "MirrorLane$Finde\x72" (73 : Nat) (1000000000000000000 : Int64)) ∈ ml_T := ml_in (ml_t4 (List.mem_of_getElem? (i := 112) rfl)) rfl
theorem tc_4_112 : Cond.constantLong "MirrorLane$Finde\x72" 73 (Int64.ofInt 1000000000000000000) ∈ ml_T := by
  rw [show Int64.ofInt 1000000000000000000 = (1000000000000000000 : Int64) by decide +kernel]
  exact tw_4_112
theorem tw_4_127 : (Jvm.Cond.methodLink "MirrorLane$Mende\x72" (28 : Nat) ({ cls := "java/lang/Math", name := "min", desc := "(II)I" } : Jvm.MethodName)) ∈ ml_T := ml_in (ml_t4 (List.mem_of_getElem? (i := 127) rfl)) rfl
theorem tw_4_153 : (Jvm.Cond.constantLong "MirrorLane$Tape" (19 : Nat) (256 : Int64)) ∈ ml_T := ml_in (ml_t4 (List.mem_of_getElem? (i := 153) rfl)) rfl
theorem tc_4_153 : Cond.constantLong "MirrorLane$Tape" 19 (Int64.ofInt 256) ∈ ml_T := by
  rw [show Int64.ofInt 256 = (256 : Int64) by decide +kernel]
  exact tw_4_153
theorem tw_4_169 : (Jvm.Cond.methodLink "MirrorLane$Loom" (126 : Nat) ({ cls := "java/lang/System", name := "arraycopy", desc := "(Ljava/lang/Object;ILjava/lang/Object;II)V" } : Jvm.MethodName)) ∈ ml_T := ml_in (ml_t4 (List.mem_of_getElem? (i := 169) rfl)) rfl
theorem tw_4_158 : (Jvm.Cond.constantLong "MirrorLane" (262 : Nat) (2000 : Int64)) ∈ ml_T := ml_in (ml_t4 (List.mem_of_getElem? (i := 158) rfl)) rfl
theorem tc_4_158 : Cond.constantLong "MirrorLane" 262 (Int64.ofInt 2000) ∈ ml_T := by
  rw [show Int64.ofInt 2000 = (2000 : Int64) by decide +kernel]
  exact tw_4_158
theorem tw_5_143 : (Jvm.Cond.constantLong "MirrorLaneModel" (147 : Nat) (2 : Int64)) ∈ ml_T := ml_in (ml_t5 (List.mem_of_getElem? (i := 143) rfl)) rfl
theorem tc_5_143 : Cond.constantLong "MirrorLaneModel" 147 (Int64.ofInt 2) ∈ ml_T := by
  rw [show Int64.ofInt 2 = (2 : Int64) by decide +kernel]
  exact tw_5_143
theorem tw_5_144 : (Jvm.Cond.constantLong "MirrorLaneModel" (149 : Nat) (5 : Int64)) ∈ ml_T := ml_in (ml_t5 (List.mem_of_getElem? (i := 144) rfl)) rfl
theorem tc_5_144 : Cond.constantLong "MirrorLaneModel" 149 (Int64.ofInt 5) ∈ ml_T := by
  rw [show Int64.ofInt 5 = (5 : Int64) by decide +kernel]
  exact tw_5_144
theorem tw_5_215 : (Jvm.Cond.constantLong "MirrorLaneModel" (196 : Nat) (9000000000000000000 : Int64)) ∈ ml_T := ml_in (ml_t5 (List.mem_of_getElem? (i := 215) rfl)) rfl
theorem tc_5_215 : Cond.constantLong "MirrorLaneModel" 196 (Int64.ofInt 9000000000000000000) ∈ ml_T := by
  rw [show Int64.ofInt 9000000000000000000 = (9000000000000000000 : Int64) by decide +kernel]
  exact tw_5_215
theorem tw_5_227 : (Jvm.Cond.constantLong "MirrorLaneModel" (221 : Nat) (1000000000000 : Int64)) ∈ ml_T := ml_in (ml_t5 (List.mem_of_getElem? (i := 227) rfl)) rfl
theorem tc_5_227 : Cond.constantLong "MirrorLaneModel" 221 (Int64.ofInt 1000000000000) ∈ ml_T := by
  rw [show Int64.ofInt 1000000000000 = (1000000000000 : Int64) by decide +kernel]
  exact tw_5_227
theorem tw_5_164 : (Jvm.Cond.constantLong "MirrorLaneModel" (268 : Nat) (100 : Int64)) ∈ ml_T := ml_in (ml_t5 (List.mem_of_getElem? (i := 164) rfl)) rfl
theorem tc_5_164 : Cond.constantLong "MirrorLaneModel" 268 (Int64.ofInt 100) ∈ ml_T := by
  rw [show Int64.ofInt 100 = (100 : Int64) by decide +kernel]
  exact tw_5_164
theorem tw_6_52 : (Jvm.Cond.constantLong "MirrorLaneModel" (290 : Nat) (-1 : Int64)) ∈ ml_T := ml_in (ml_t6 (List.mem_of_getElem? (i := 52) rfl)) rfl
theorem tc_6_52 : Cond.constantLong "MirrorLaneModel" 290 (Int64.ofInt (-1)) ∈ ml_T := by
  rw [show Int64.ofInt (-1) = ((-1) : Int64) by decide +kernel]
  exact tw_6_52
theorem tw_6_93 : (Jvm.Cond.constantLong "MirrorLaneModel" (305 : Nat) (10 : Int64)) ∈ ml_T := ml_in (ml_t6 (List.mem_of_getElem? (i := 93) rfl)) rfl
theorem tc_6_93 : Cond.constantLong "MirrorLaneModel" 305 (Int64.ofInt 10) ∈ ml_T := by
  rw [show Int64.ofInt 10 = (10 : Int64) by decide +kernel]
  exact tw_6_93
theorem tw_6_109 : (Jvm.Cond.constantLong "MirrorLaneModel" (328 : Nat) (1000000000000000000 : Int64)) ∈ ml_T := ml_in (ml_t6 (List.mem_of_getElem? (i := 109) rfl)) rfl
theorem tc_6_109 : Cond.constantLong "MirrorLaneModel" 328 (Int64.ofInt 1000000000000000000) ∈ ml_T := by
  rw [show Int64.ofInt 1000000000000000000 = (1000000000000000000 : Int64) by decide +kernel]
  exact tw_6_109
theorem tw_6_133 : (Jvm.Cond.constantLong "MirrorLaneModel" (353 : Nat) (3 : Int64)) ∈ ml_T := ml_in (ml_t6 (List.mem_of_getElem? (i := 133) rfl)) rfl
theorem tc_6_133 : Cond.constantLong "MirrorLaneModel" 353 (Int64.ofInt 3) ∈ ml_T := by
  rw [show Int64.ofInt 3 = (3 : Int64) by decide +kernel]
  exact tw_6_133
theorem tw_6_173 : (Jvm.Cond.constantLong "MirrorLaneModel" (370 : Nat) (4 : Int64)) ∈ ml_T := ml_in (ml_t6 (List.mem_of_getElem? (i := 173) rfl)) rfl
theorem tc_6_173 : Cond.constantLong "MirrorLaneModel" 370 (Int64.ofInt 4) ∈ ml_T := by
  rw [show Int64.ofInt 4 = (4 : Int64) by decide +kernel]
  exact tw_6_173
theorem tw_6_174 : (Jvm.Cond.constantLong "MirrorLaneModel" (387 : Nat) (998244353 : Int64)) ∈ ml_T := ml_in (ml_t6 (List.mem_of_getElem? (i := 174) rfl)) rfl
theorem tc_6_174 : Cond.constantLong "MirrorLaneModel" 387 (Int64.ofInt 998244353) ∈ ml_T := by
  rw [show Int64.ofInt 998244353 = (998244353 : Int64) by decide +kernel]
  exact tw_6_174
theorem tw_6_161 : (Jvm.Cond.constantLong "MirrorLaneModel" (382 : Nat) (1000 : Int64)) ∈ ml_T := ml_in (ml_t6 (List.mem_of_getElem? (i := 161) rfl)) rfl
theorem tc_6_161 : Cond.constantLong "MirrorLaneModel" 382 (Int64.ofInt 1000) ∈ ml_T := by
  rw [show Int64.ofInt 1000 = (1000 : Int64) by decide +kernel]
  exact tw_6_161
theorem tw_6_226 : (Jvm.Cond.constantLong "MirrorLaneModel" (413 : Nat) (8 : Int64)) ∈ ml_T := ml_in (ml_t6 (List.mem_of_getElem? (i := 226) rfl)) rfl
theorem tc_6_226 : Cond.constantLong "MirrorLaneModel" 413 (Int64.ofInt 8) ∈ ml_T := by
  rw [show Int64.ofInt 8 = (8 : Int64) by decide +kernel]
  exact tw_6_226
theorem tw_6_235 : (Jvm.Cond.constantLong "MirrorLaneModel" (427 : Nat) (2000 : Int64)) ∈ ml_T := ml_in (ml_t6 (List.mem_of_getElem? (i := 235) rfl)) rfl
theorem tc_6_235 : Cond.constantLong "MirrorLaneModel" 427 (Int64.ofInt 2000) ∈ ml_T := by
  rw [show Int64.ofInt 2000 = (2000 : Int64) by decide +kernel]
  exact tw_6_235
theorem tw_7_16 : (Jvm.Cond.constantLong "MirrorLaneModel" (432 : Nat) (30 : Int64)) ∈ ml_T := ml_in (ml_t7 (List.mem_of_getElem? (i := 16) rfl)) rfl
theorem tc_7_16 : Cond.constantLong "MirrorLaneModel" 432 (Int64.ofInt 30) ∈ ml_T := by
  rw [show Int64.ofInt 30 = (30 : Int64) by decide +kernel]
  exact tw_7_16
theorem tw_1_31 : (Jvm.Cond.methodLink "MirrorLane$Tape" (3 : Nat) ({ cls := "java/lang/Object", name := "<init>", desc := "()V" } : Jvm.MethodName)) ∈ ml_T := ml_in (ml_t1 (List.mem_of_getElem? (i := 31) rfl)) rfl
theorem tw_1_24 : (Jvm.Cond.instanceMethod ({ cls := "java/lang/Object", name := "<init>", desc := "()V" } : Jvm.MethodName)) ∈ ml_T := ml_in (ml_t1 (List.mem_of_getElem? (i := 24) rfl)) rfl
theorem tw_1_25 : (Jvm.Cond.code ({ cls := "java/lang/Object", name := "<init>", desc := "()V" } : Jvm.MethodName) object_method_1_code (1 : Nat) (Option.none : Option Jvm.ClassFile.FieldType)) ∈ ml_T := ml_in (ml_t1 (List.mem_of_getElem? (i := 25) rfl)) rfl
theorem tw_1_42 : (Jvm.Cond.arrayClass Jvm.ClassFile.FieldType.int) ∈ ml_T := ml_in (ml_t1 (List.mem_of_getElem? (i := 42) rfl)) rfl
theorem tw_1_32 : (Jvm.Cond.fieldLink "MirrorLane$Tape" (9 : Nat) "MirrorLane$Tape" "bytes" "[I") ∈ ml_T := ml_in (ml_t1 (List.mem_of_getElem? (i := 32) rfl)) rfl
theorem tw_1_35 : (Jvm.Cond.fieldLink "MirrorLane$Tape" (15 : Nat) "MirrorLane$Tape" "size" "I") ∈ ml_T := ml_in (ml_t1 (List.mem_of_getElem? (i := 35) rfl)) rfl
theorem tw_1_48 : (Jvm.Cond.methodLink "MirrorLane$Closing" (3 : Nat) ({ cls := "java/lang/Object", name := "<init>", desc := "()V" } : Jvm.MethodName)) ∈ ml_T := ml_in (ml_t1 (List.mem_of_getElem? (i := 48) rfl)) rfl
theorem tw_1_49 : (Jvm.Cond.fieldLink "MirrorLane$Closing" (9 : Nat) "MirrorLane$Closing" "joint" "[I") ∈ ml_T := ml_in (ml_t1 (List.mem_of_getElem? (i := 49) rfl)) rfl
theorem tw_1_50 : (Jvm.Cond.fieldLink "MirrorLane$Closing" (15 : Nat) "MirrorLane$Closing" "byCaps" "Z") ∈ ml_T := ml_in (ml_t1 (List.mem_of_getElem? (i := 50) rfl)) rfl
theorem tw_1_62 : (Jvm.Cond.methodLink "MirrorLane$Gramma\x72" (3 : Nat) ({ cls := "java/lang/Object", name := "<init>", desc := "()V" } : Jvm.MethodName)) ∈ ml_T := ml_in (ml_t1 (List.mem_of_getElem? (i := 62) rfl)) rfl
theorem tw_1_85 : (Jvm.Cond.arrayClass Jvm.ClassFile.FieldType.byte) ∈ ml_T := ml_in (ml_t1 (List.mem_of_getElem? (i := 85) rfl)) rfl
theorem tw_1_63 : (Jvm.Cond.fieldLink "MirrorLane$Gramma\x72" (9 : Nat) "MirrorLane$Gramma\x72" "text" "[B") ∈ ml_T := ml_in (ml_t1 (List.mem_of_getElem? (i := 63) rfl)) rfl
theorem tw_1_64 : (Jvm.Cond.fieldLink "MirrorLane$Gramma\x72" (15 : Nat) "MirrorLane$Gramma\x72" "size" "I") ∈ ml_T := ml_in (ml_t1 (List.mem_of_getElem? (i := 64) rfl)) rfl
theorem tw_1_65 : (Jvm.Cond.fieldLink "MirrorLane$Gramma\x72" (19 : Nat) "MirrorLane$Gramma\x72" "at" "I") ∈ ml_T := ml_in (ml_t1 (List.mem_of_getElem? (i := 65) rfl)) rfl
theorem tw_1_66 : (Jvm.Cond.fieldLink "MirrorLane$Gramma\x72" (22 : Nat) "MirrorLane$Gramma\x72" "depth" "I") ∈ ml_T := ml_in (ml_t1 (List.mem_of_getElem? (i := 66) rfl)) rfl
theorem tw_1_67 : (Jvm.Cond.fieldLink "MirrorLane$Gramma\x72" (25 : Nat) "MirrorLane$Gramma\x72" "repeatable" "Z") ∈ ml_T := ml_in (ml_t1 (List.mem_of_getElem? (i := 67) rfl)) rfl
theorem tw_1_68 : (Jvm.Cond.fieldLink "MirrorLane$Gramma\x72" (29 : Nat) "MirrorLane$Gramma\x72" "needsItem" "Z") ∈ ml_T := ml_in (ml_t1 (List.mem_of_getElem? (i := 68) rfl)) rfl
theorem tw_1_69 : (Jvm.Cond.fieldLink "MirrorLane$Gramma\x72" (32 : Nat) "MirrorLane$Gramma\x72" "fault" "I") ∈ ml_T := ml_in (ml_t1 (List.mem_of_getElem? (i := 69) rfl)) rfl
theorem tw_1_97 : (Jvm.Cond.methodLink "MirrorLane$Items" (1 : Nat) ({ cls := "java/lang/Object", name := "<init>", desc := "()V" } : Jvm.MethodName)) ∈ ml_T := ml_in (ml_t1 (List.mem_of_getElem? (i := 97) rfl)) rfl
theorem tw_1_98 : (Jvm.Cond.fieldLink "MirrorLane$Items" (7 : Nat) "MirrorLane$Items" "text" "[B") ∈ ml_T := ml_in (ml_t1 (List.mem_of_getElem? (i := 98) rfl)) rfl
theorem tw_1_99 : (Jvm.Cond.fieldLink "MirrorLane$Items" (13 : Nat) "MirrorLane$Items" "size" "I") ∈ ml_T := ml_in (ml_t1 (List.mem_of_getElem? (i := 99) rfl)) rfl
theorem tw_1_100 : (Jvm.Cond.fieldLink "MirrorLane$Items" (17 : Nat) "MirrorLane$Items" "at" "I") ∈ ml_T := ml_in (ml_t1 (List.mem_of_getElem? (i := 100) rfl)) rfl
theorem tw_1_101 : (Jvm.Cond.fieldLink "MirrorLane$Items" (20 : Nat) "MirrorLane$Items" "kind" "I") ∈ ml_T := ml_in (ml_t1 (List.mem_of_getElem? (i := 101) rfl)) rfl
theorem tw_1_103 : (Jvm.Cond.fieldLink "MirrorLane$Items" (23 : Nat) "MirrorLane$Items" "value" "I") ∈ ml_T := ml_in (ml_t1 (List.mem_of_getElem? (i := 103) rfl)) rfl
theorem tw_1_105 : (Jvm.Cond.fieldLink "MirrorLane$Items" (26 : Nat) "MirrorLane$Items" "times" "I") ∈ ml_T := ml_in (ml_t1 (List.mem_of_getElem? (i := 105) rfl)) rfl
theorem tw_1_126 : (Jvm.Cond.methodLink "MirrorLane$Weave" (3 : Nat) ({ cls := "java/lang/Object", name := "<init>", desc := "()V" } : Jvm.MethodName)) ∈ ml_T := ml_in (ml_t1 (List.mem_of_getElem? (i := 126) rfl)) rfl
theorem tw_1_127 : (Jvm.Cond.fieldLink "MirrorLane$Weave" (9 : Nat) "MirrorLane$Weave" "pai\x72" "[I") ∈ ml_T := ml_in (ml_t1 (List.mem_of_getElem? (i := 127) rfl)) rfl
theorem tw_1_165 : (Jvm.Cond.arrayClass Jvm.ClassFile.FieldType.long) ∈ ml_T := ml_in (ml_t1 (List.mem_of_getElem? (i := 165) rfl)) rfl
theorem tw_1_131 : (Jvm.Cond.fieldLink "MirrorLane$Weave" (15 : Nat) "MirrorLane$Weave" "run" "[J") ∈ ml_T := ml_in (ml_t1 (List.mem_of_getElem? (i := 131) rfl)) rfl
theorem tw_1_133 : (Jvm.Cond.fieldLink "MirrorLane$Weave" (19 : Nat) "MirrorLane$Weave" "loops" "J") ∈ ml_T := ml_in (ml_t1 (List.mem_of_getElem? (i := 133) rfl)) rfl
theorem tw_1_138 : (Jvm.Cond.fieldLink "MirrorLane$Weave" (23 : Nat) "MirrorLane$Weave" "longest" "J") ∈ ml_T := ml_in (ml_t1 (List.mem_of_getElem? (i := 138) rfl)) rfl
theorem tw_1_140 : (Jvm.Cond.fieldLink "MirrorLane$Weave" (26 : Nat) "MirrorLane$Weave" "total" "J") ∈ ml_T := ml_in (ml_t1 (List.mem_of_getElem? (i := 140) rfl)) rfl
theorem tw_1_142 : (Jvm.Cond.fieldLink "MirrorLane$Weave" (29 : Nat) "MirrorLane$Weave" "signs" "J") ∈ ml_T := ml_in (ml_t1 (List.mem_of_getElem? (i := 142) rfl)) rfl
theorem tw_1_144 : (Jvm.Cond.fieldLink "MirrorLane$Weave" (32 : Nat) "MirrorLane$Weave" "crosses" "Z") ∈ ml_T := ml_in (ml_t1 (List.mem_of_getElem? (i := 144) rfl)) rfl
theorem tw_1_146 : (Jvm.Cond.fieldLink "MirrorLane$Weave" (36 : Nat) "MirrorLane$Weave" "turns" "Z") ∈ ml_T := ml_in (ml_t1 (List.mem_of_getElem? (i := 146) rfl)) rfl
theorem tw_1_91 : (Jvm.Cond.methodLink "MirrorLane$Loom" (3 : Nat) ({ cls := "java/lang/Object", name := "<init>", desc := "()V" } : Jvm.MethodName)) ∈ ml_T := ml_in (ml_t1 (List.mem_of_getElem? (i := 91) rfl)) rfl
theorem tw_1_92 : (Jvm.Cond.classLink "MirrorLane$Loom" (9 : Nat) "MirrorLane$Items") ∈ ml_T := ml_in (ml_t1 (List.mem_of_getElem? (i := 92) rfl)) rfl
theorem tw_1_93 : (Jvm.Cond.instantiable "MirrorLane$Items" (6 : Nat)) ∈ ml_T := ml_in (ml_t1 (List.mem_of_getElem? (i := 93) rfl)) rfl
theorem tw_1_6 : (Jvm.Cond.initialized "MirrorLane$Items") ∈ ml_T := ml_in (ml_t1 (List.mem_of_getElem? (i := 6) rfl)) rfl
theorem tw_1_95 : (Jvm.Cond.instanceMethod ({ cls := "MirrorLane$Items", name := "<init>", desc := "()V" } : Jvm.MethodName)) ∈ ml_T := ml_in (ml_t1 (List.mem_of_getElem? (i := 95) rfl)) rfl
theorem tw_1_96 : (Jvm.Cond.code ({ cls := "MirrorLane$Items", name := "<init>", desc := "()V" } : Jvm.MethodName) prog_5_method_1_code (1 : Nat) (Option.none : Option Jvm.ClassFile.FieldType)) ∈ ml_T := ml_in (ml_t1 (List.mem_of_getElem? (i := 96) rfl)) rfl
theorem tw_1_166 : (Jvm.Cond.fieldLink "MirrorLane$Loom" (12 : Nat) "MirrorLane$Loom" "items" "LMirrorLane$Items;") ∈ ml_T := ml_in (ml_t1 (List.mem_of_getElem? (i := 166) rfl)) rfl
theorem tw_1_120 : (Jvm.Cond.classLink "MirrorLane$Loom" (18 : Nat) "MirrorLane$Weave") ∈ ml_T := ml_in (ml_t1 (List.mem_of_getElem? (i := 120) rfl)) rfl
theorem tw_1_167 : (Jvm.Cond.fieldLink "MirrorLane$Loom" (20 : Nat) "MirrorLane$Loom" "open" "[LMirrorLane$Weave;") ∈ ml_T := ml_in (ml_t1 (List.mem_of_getElem? (i := 167) rfl)) rfl
theorem tw_1_168 : (Jvm.Cond.fieldLink "MirrorLane$Loom" (24 : Nat) "MirrorLane$Loom" "starts" "[I") ∈ ml_T := ml_in (ml_t1 (List.mem_of_getElem? (i := 168) rfl)) rfl
theorem tw_1_122 : (Jvm.Cond.instantiable "MirrorLane$Weave" (8 : Nat)) ∈ ml_T := ml_in (ml_t1 (List.mem_of_getElem? (i := 122) rfl)) rfl
theorem tw_1_7 : (Jvm.Cond.initialized "MirrorLane$Weave") ∈ ml_T := ml_in (ml_t1 (List.mem_of_getElem? (i := 7) rfl)) rfl
theorem tw_1_124 : (Jvm.Cond.instanceMethod ({ cls := "MirrorLane$Weave", name := "<init>", desc := "()V" } : Jvm.MethodName)) ∈ ml_T := ml_in (ml_t1 (List.mem_of_getElem? (i := 124) rfl)) rfl
theorem tw_1_125 : (Jvm.Cond.code ({ cls := "MirrorLane$Weave", name := "<init>", desc := "()V" } : Jvm.MethodName) prog_11_method_1_code (1 : Nat) (Option.none : Option Jvm.ClassFile.FieldType)) ∈ ml_T := ml_in (ml_t1 (List.mem_of_getElem? (i := 125) rfl)) rfl
theorem tw_1_169 : (Jvm.Cond.fieldLink "MirrorLane$Loom" (29 : Nat) "MirrorLane$Loom" "item" "LMirrorLane$Weave;") ∈ ml_T := ml_in (ml_t1 (List.mem_of_getElem? (i := 169) rfl)) rfl
theorem tw_1_170 : (Jvm.Cond.fieldLink "MirrorLane$Loom" (33 : Nat) "MirrorLane$Loom" "base" "LMirrorLane$Weave;") ∈ ml_T := ml_in (ml_t1 (List.mem_of_getElem? (i := 170) rfl)) rfl
theorem tw_1_171 : (Jvm.Cond.fieldLink "MirrorLane$Loom" (36 : Nat) "MirrorLane$Loom" "spare" "LMirrorLane$Weave;") ∈ ml_T := ml_in (ml_t1 (List.mem_of_getElem? (i := 171) rfl)) rfl
theorem tw_1_172 : (Jvm.Cond.fieldLink "MirrorLane$Loom" (39 : Nat) "MirrorLane$Loom" "othe\x72" "LMirrorLane$Weave;") ∈ ml_T := ml_in (ml_t1 (List.mem_of_getElem? (i := 172) rfl)) rfl
theorem tw_1_193 : (Jvm.Cond.methodLink "MirrorLane$Powers" (3 : Nat) ({ cls := "java/lang/Object", name := "<init>", desc := "()V" } : Jvm.MethodName)) ∈ ml_T := ml_in (ml_t1 (List.mem_of_getElem? (i := 193) rfl)) rfl
theorem tw_1_196 : (Jvm.Cond.fieldLink "MirrorLane$Powers" (11 : Nat) "MirrorLane$Powers" "numbers" "[I") ∈ ml_T := ml_in (ml_t1 (List.mem_of_getElem? (i := 196) rfl)) rfl
theorem tw_1_197 : (Jvm.Cond.fieldLink "MirrorLane$Powers" (15 : Nat) "MirrorLane$Powers" "left" "[J") ∈ ml_T := ml_in (ml_t1 (List.mem_of_getElem? (i := 197) rfl)) rfl
theorem tw_1_194 : (Jvm.Cond.classLink "MirrorLane$Powers" (19 : Nat) "MirrorLane$Weave") ∈ ml_T := ml_in (ml_t1 (List.mem_of_getElem? (i := 194) rfl)) rfl
theorem tw_1_198 : (Jvm.Cond.fieldLink "MirrorLane$Powers" (22 : Nat) "MirrorLane$Powers" "last" "LMirrorLane$Weave;") ∈ ml_T := ml_in (ml_t1 (List.mem_of_getElem? (i := 198) rfl)) rfl
theorem tw_1_199 : (Jvm.Cond.fieldLink "MirrorLane$Powers" (26 : Nat) "MirrorLane$Powers" "spare" "LMirrorLane$Weave;") ∈ ml_T := ml_in (ml_t1 (List.mem_of_getElem? (i := 199) rfl)) rfl
theorem tw_1_200 : (Jvm.Cond.fieldLink "MirrorLane$Powers" (29 : Nat) "MirrorLane$Powers" "index" "I") ∈ ml_T := ml_in (ml_t1 (List.mem_of_getElem? (i := 200) rfl)) rfl
theorem tw_1_202 : (Jvm.Cond.fieldLink "MirrorLane$Powers" (33 : Nat) "MirrorLane$Powers" "period" "I") ∈ ml_T := ml_in (ml_t1 (List.mem_of_getElem? (i := 202) rfl)) rfl
theorem tw_1_204 : (Jvm.Cond.fieldLink "MirrorLane$Powers" (36 : Nat) "MirrorLane$Powers" "gain" "J") ∈ ml_T := ml_in (ml_t1 (List.mem_of_getElem? (i := 204) rfl)) rfl
theorem tw_1_205 : (Jvm.Cond.fieldLink "MirrorLane$Powers" (40 : Nat) "MirrorLane$Powers" "step" "I") ∈ ml_T := ml_in (ml_t1 (List.mem_of_getElem? (i := 205) rfl)) rfl
theorem tw_1_207 : (Jvm.Cond.fieldLink "MirrorLane$Powers" (43 : Nat) "MirrorLane$Powers" "more" "J") ∈ ml_T := ml_in (ml_t1 (List.mem_of_getElem? (i := 207) rfl)) rfl
theorem tw_1_209 : (Jvm.Cond.fieldLink "MirrorLane$Powers" (46 : Nat) "MirrorLane$Powers" "since" "I") ∈ ml_T := ml_in (ml_t1 (List.mem_of_getElem? (i := 209) rfl)) rfl
theorem tw_1_237 : (Jvm.Cond.methodLink "MirrorLane$Sentences" (5 : Nat) ({ cls := "java/lang/Object", name := "<init>", desc := "()V" } : Jvm.MethodName)) ∈ ml_T := ml_in (ml_t1 (List.mem_of_getElem? (i := 237) rfl)) rfl
theorem tw_2_0 : (Jvm.Cond.fieldLink "MirrorLane$Sentences" (11 : Nat) "MirrorLane$Sentences" "set" "I") ∈ ml_T := ml_in (ml_t2 (List.mem_of_getElem? (i := 0) rfl)) rfl
theorem tw_2_1 : (Jvm.Cond.fieldLink "MirrorLane$Sentences" (15 : Nat) "MirrorLane$Sentences" "letters" "I") ∈ ml_T := ml_in (ml_t2 (List.mem_of_getElem? (i := 1) rfl)) rfl
theorem tw_2_3 : (Jvm.Cond.fieldLink "MirrorLane$Sentences" (18 : Nat) "MirrorLane$Sentences" "places" "I") ∈ ml_T := ml_in (ml_t2 (List.mem_of_getElem? (i := 3) rfl)) rfl
theorem tw_2_6 : (Jvm.Cond.fieldLink "MirrorLane$Sentences" (21 : Nat) "MirrorLane$Sentences" "lette\x72" "[I") ∈ ml_T := ml_in (ml_t2 (List.mem_of_getElem? (i := 6) rfl)) rfl
theorem tw_2_8 : (Jvm.Cond.fieldLink "MirrorLane$Sentences" (25 : Nat) "MirrorLane$Sentences" "place" "[I") ∈ ml_T := ml_in (ml_t2 (List.mem_of_getElem? (i := 8) rfl)) rfl
theorem tw_2_10 : (Jvm.Cond.fieldLink "MirrorLane$Sentences" (28 : Nat) "MirrorLane$Sentences" "next" "[I") ∈ ml_T := ml_in (ml_t2 (List.mem_of_getElem? (i := 10) rfl)) rfl
theorem tw_2_12 : (Jvm.Cond.fieldLink "MirrorLane$Sentences" (31 : Nat) "MirrorLane$Sentences" "more" "[I") ∈ ml_T := ml_in (ml_t2 (List.mem_of_getElem? (i := 12) rfl)) rfl
theorem tw_2_14 : (Jvm.Cond.fieldLink "MirrorLane$Sentences" (34 : Nat) "MirrorLane$Sentences" "closed" "[I") ∈ ml_T := ml_in (ml_t2 (List.mem_of_getElem? (i := 14) rfl)) rfl
theorem tw_2_16 : (Jvm.Cond.fieldLink "MirrorLane$Sentences" (37 : Nat) "MirrorLane$Sentences" "pairs" "[I") ∈ ml_T := ml_in (ml_t2 (List.mem_of_getElem? (i := 16) rfl)) rfl
theorem tw_2_17 : (Jvm.Cond.fieldLink "MirrorLane$Sentences" (40 : Nat) "MirrorLane$Sentences" "row" "[J") ∈ ml_T := ml_in (ml_t2 (List.mem_of_getElem? (i := 17) rfl)) rfl
theorem tw_2_18 : (Jvm.Cond.fieldLink "MirrorLane$Sentences" (44 : Nat) "MirrorLane$Sentences" "afte\x72" "[J") ∈ ml_T := ml_in (ml_t2 (List.mem_of_getElem? (i := 18) rfl)) rfl
theorem tw_2_19 : (Jvm.Cond.fieldLink "MirrorLane$Sentences" (47 : Nat) "MirrorLane$Sentences" "rowOf" "I") ∈ ml_T := ml_in (ml_t2 (List.mem_of_getElem? (i := 19) rfl)) rfl
theorem tw_1_238 : (Jvm.Cond.classLink "MirrorLane$Sentences" (50 : Nat) "MirrorLane$Weave") ∈ ml_T := ml_in (ml_t1 (List.mem_of_getElem? (i := 238) rfl)) rfl
theorem tw_2_20 : (Jvm.Cond.fieldLink "MirrorLane$Sentences" (53 : Nat) "MirrorLane$Sentences" "here" "LMirrorLane$Weave;") ∈ ml_T := ml_in (ml_t2 (List.mem_of_getElem? (i := 20) rfl)) rfl
theorem tw_2_21 : (Jvm.Cond.fieldLink "MirrorLane$Sentences" (57 : Nat) "MirrorLane$Sentences" "there" "LMirrorLane$Weave;") ∈ ml_T := ml_in (ml_t2 (List.mem_of_getElem? (i := 21) rfl)) rfl
theorem tw_2_56 : (Jvm.Cond.methodLink "MirrorLane$Finde\x72" (5 : Nat) ({ cls := "java/lang/Object", name := "<init>", desc := "()V" } : Jvm.MethodName)) ∈ ml_T := ml_in (ml_t2 (List.mem_of_getElem? (i := 56) rfl)) rfl
theorem tw_2_57 : (Jvm.Cond.fieldLink "MirrorLane$Finde\x72" (13 : Nat) "MirrorLane$Finde\x72" "queue" "[I") ∈ ml_T := ml_in (ml_t2 (List.mem_of_getElem? (i := 57) rfl)) rfl
theorem tw_2_58 : (Jvm.Cond.fieldLink "MirrorLane$Finde\x72" (17 : Nat) "MirrorLane$Finde\x72" "from" "[I") ∈ ml_T := ml_in (ml_t2 (List.mem_of_getElem? (i := 58) rfl)) rfl
theorem tw_2_59 : (Jvm.Cond.fieldLink "MirrorLane$Finde\x72" (20 : Nat) "MirrorLane$Finde\x72" "by" "[I") ∈ ml_T := ml_in (ml_t2 (List.mem_of_getElem? (i := 59) rfl)) rfl
theorem tw_2_60 : (Jvm.Cond.fieldLink "MirrorLane$Finde\x72" (23 : Nat) "MirrorLane$Finde\x72" "found" "[I") ∈ ml_T := ml_in (ml_t2 (List.mem_of_getElem? (i := 60) rfl)) rfl
theorem tw_2_61 : (Jvm.Cond.fieldLink "MirrorLane$Finde\x72" (26 : Nat) "MirrorLane$Finde\x72" "rest" "[J") ∈ ml_T := ml_in (ml_t2 (List.mem_of_getElem? (i := 61) rfl)) rfl
theorem tw_2_62 : (Jvm.Cond.fieldLink "MirrorLane$Finde\x72" (30 : Nat) "MirrorLane$Finde\x72" "size" "I") ∈ ml_T := ml_in (ml_t2 (List.mem_of_getElem? (i := 62) rfl)) rfl
theorem tw_2_63 : (Jvm.Cond.fieldLink "MirrorLane$Finde\x72" (34 : Nat) "MirrorLane$Finde\x72" "price" "I") ∈ ml_T := ml_in (ml_t2 (List.mem_of_getElem? (i := 63) rfl)) rfl
theorem tw_2_85 : (Jvm.Cond.methodLink "MirrorLane$Mende\x72" (3 : Nat) ({ cls := "java/lang/Object", name := "<init>", desc := "()V" } : Jvm.MethodName)) ∈ ml_T := ml_in (ml_t2 (List.mem_of_getElem? (i := 85) rfl)) rfl
theorem tw_2_86 : (Jvm.Cond.classLink "MirrorLane$Mende\x72" (9 : Nat) "MirrorLane$Weave") ∈ ml_T := ml_in (ml_t2 (List.mem_of_getElem? (i := 86) rfl)) rfl
theorem tw_2_88 : (Jvm.Cond.fieldLink "MirrorLane$Mende\x72" (11 : Nat) "MirrorLane$Mende\x72" "tails" "[LMirrorLane$Weave;") ∈ ml_T := ml_in (ml_t2 (List.mem_of_getElem? (i := 88) rfl)) rfl
theorem tw_2_89 : (Jvm.Cond.fieldLink "MirrorLane$Mende\x72" (18 : Nat) "MirrorLane$Mende\x72" "mirro\x72" "LMirrorLane$Weave;") ∈ ml_T := ml_in (ml_t2 (List.mem_of_getElem? (i := 89) rfl)) rfl
theorem tw_2_103 : (Jvm.Cond.methodLink "MirrorLane$Word" (3 : Nat) ({ cls := "java/lang/Object", name := "<init>", desc := "()V" } : Jvm.MethodName)) ∈ ml_T := ml_in (ml_t2 (List.mem_of_getElem? (i := 103) rfl)) rfl
theorem tw_2_106 : (Jvm.Cond.fieldLink "MirrorLane$Word" (9 : Nat) "MirrorLane$Word" "text" "[B") ∈ ml_T := ml_in (ml_t2 (List.mem_of_getElem? (i := 106) rfl)) rfl
theorem tw_2_110 : (Jvm.Cond.fieldLink "MirrorLane$Word" (15 : Nat) "MirrorLane$Word" "size" "I") ∈ ml_T := ml_in (ml_t2 (List.mem_of_getElem? (i := 110) rfl)) rfl
theorem tw_2_114 : (Jvm.Cond.fieldLink "MirrorLane$Word" (19 : Nat) "MirrorLane$Word" "plain" "Z") ∈ ml_T := ml_in (ml_t2 (List.mem_of_getElem? (i := 114) rfl)) rfl
theorem tw_2_116 : (Jvm.Cond.fieldLink "MirrorLane$Word" (23 : Nat) "MirrorLane$Word" "price" "I") ∈ ml_T := ml_in (ml_t2 (List.mem_of_getElem? (i := 116) rfl)) rfl
theorem tw_2_104 : (Jvm.Cond.classLink "MirrorLane$Word" (26 : Nat) "MirrorLane$Weave") ∈ ml_T := ml_in (ml_t2 (List.mem_of_getElem? (i := 104) rfl)) rfl
theorem tw_2_119 : (Jvm.Cond.fieldLink "MirrorLane$Word" (29 : Nat) "MirrorLane$Word" "made" "LMirrorLane$Weave;") ∈ ml_T := ml_in (ml_t2 (List.mem_of_getElem? (i := 119) rfl)) rfl
theorem tw_2_123 : (Jvm.Cond.fieldLink "MirrorLane$Word" (33 : Nat) "MirrorLane$Word" "row" "[B") ∈ ml_T := ml_in (ml_t2 (List.mem_of_getElem? (i := 123) rfl)) rfl
theorem tw_2_125 : (Jvm.Cond.fieldLink "MirrorLane$Word" (36 : Nat) "MirrorLane$Word" "rowSize" "I") ∈ ml_T := ml_in (ml_t2 (List.mem_of_getElem? (i := 125) rfl)) rfl
theorem tw_2_127 : (Jvm.Cond.fieldLink "MirrorLane$Word" (39 : Nat) "MirrorLane$Word" "written" "Z") ∈ ml_T := ml_in (ml_t2 (List.mem_of_getElem? (i := 127) rfl)) rfl
theorem tw_1_23 : (Jvm.Cond.methodLink "MirrorLane" (1 : Nat) ({ cls := "java/lang/Object", name := "<init>", desc := "()V" } : Jvm.MethodName)) ∈ ml_T := ml_in (ml_t1 (List.mem_of_getElem? (i := 23) rfl)) rfl
theorem tw_1_26 : (Jvm.Cond.classLink "MirrorLane" (7 : Nat) "MirrorLane$Tape") ∈ ml_T := ml_in (ml_t1 (List.mem_of_getElem? (i := 26) rfl)) rfl
theorem tw_1_27 : (Jvm.Cond.instantiable "MirrorLane$Tape" (2 : Nat)) ∈ ml_T := ml_in (ml_t1 (List.mem_of_getElem? (i := 27) rfl)) rfl
theorem tw_1_2 : (Jvm.Cond.initialized "MirrorLane$Tape") ∈ ml_T := ml_in (ml_t1 (List.mem_of_getElem? (i := 2) rfl)) rfl
theorem tw_1_29 : (Jvm.Cond.instanceMethod ({ cls := "MirrorLane$Tape", name := "<init>", desc := "()V" } : Jvm.MethodName)) ∈ ml_T := ml_in (ml_t1 (List.mem_of_getElem? (i := 29) rfl)) rfl
theorem tw_1_30 : (Jvm.Cond.code ({ cls := "MirrorLane$Tape", name := "<init>", desc := "()V" } : Jvm.MethodName) prog_10_method_1_code (1 : Nat) (Option.none : Option Jvm.ClassFile.FieldType)) ∈ ml_T := ml_in (ml_t1 (List.mem_of_getElem? (i := 30) rfl)) rfl
theorem tw_2_151 : (Jvm.Cond.fieldLink "MirrorLane" (10 : Nat) "MirrorLane" "tape" "LMirrorLane$Tape;") ∈ ml_T := ml_in (ml_t2 (List.mem_of_getElem? (i := 151) rfl)) rfl
theorem tw_1_43 : (Jvm.Cond.classLink "MirrorLane" (16 : Nat) "MirrorLane$Closing") ∈ ml_T := ml_in (ml_t1 (List.mem_of_getElem? (i := 43) rfl)) rfl
theorem tw_1_44 : (Jvm.Cond.instantiable "MirrorLane$Closing" (2 : Nat)) ∈ ml_T := ml_in (ml_t1 (List.mem_of_getElem? (i := 44) rfl)) rfl
theorem tw_1_3 : (Jvm.Cond.initialized "MirrorLane$Closing") ∈ ml_T := ml_in (ml_t1 (List.mem_of_getElem? (i := 3) rfl)) rfl
theorem tw_1_46 : (Jvm.Cond.instanceMethod ({ cls := "MirrorLane$Closing", name := "<init>", desc := "()V" } : Jvm.MethodName)) ∈ ml_T := ml_in (ml_t1 (List.mem_of_getElem? (i := 46) rfl)) rfl
theorem tw_1_47 : (Jvm.Cond.code ({ cls := "MirrorLane$Closing", name := "<init>", desc := "()V" } : Jvm.MethodName) prog_2_method_1_code (1 : Nat) (Option.none : Option Jvm.ClassFile.FieldType)) ∈ ml_T := ml_in (ml_t1 (List.mem_of_getElem? (i := 47) rfl)) rfl
theorem tw_2_152 : (Jvm.Cond.fieldLink "MirrorLane" (19 : Nat) "MirrorLane" "closing" "LMirrorLane$Closing;") ∈ ml_T := ml_in (ml_t2 (List.mem_of_getElem? (i := 152) rfl)) rfl
theorem tw_1_57 : (Jvm.Cond.classLink "MirrorLane" (23 : Nat) "MirrorLane$Gramma\x72") ∈ ml_T := ml_in (ml_t1 (List.mem_of_getElem? (i := 57) rfl)) rfl
theorem tw_1_58 : (Jvm.Cond.instantiable "MirrorLane$Gramma\x72" (7 : Nat)) ∈ ml_T := ml_in (ml_t1 (List.mem_of_getElem? (i := 58) rfl)) rfl
theorem tw_1_4 : (Jvm.Cond.initialized "MirrorLane$Gramma\x72") ∈ ml_T := ml_in (ml_t1 (List.mem_of_getElem? (i := 4) rfl)) rfl
theorem tw_1_60 : (Jvm.Cond.instanceMethod ({ cls := "MirrorLane$Gramma\x72", name := "<init>", desc := "()V" } : Jvm.MethodName)) ∈ ml_T := ml_in (ml_t1 (List.mem_of_getElem? (i := 60) rfl)) rfl
theorem tw_1_61 : (Jvm.Cond.code ({ cls := "MirrorLane$Gramma\x72", name := "<init>", desc := "()V" } : Jvm.MethodName) prog_4_method_1_code (1 : Nat) (Option.none : Option Jvm.ClassFile.FieldType)) ∈ ml_T := ml_in (ml_t1 (List.mem_of_getElem? (i := 61) rfl)) rfl
theorem tw_2_153 : (Jvm.Cond.fieldLink "MirrorLane" (26 : Nat) "MirrorLane" "gramma\x72" "LMirrorLane$Grammar;") ∈ ml_T := ml_in (ml_t2 (List.mem_of_getElem? (i := 153) rfl)) rfl
theorem tw_1_86 : (Jvm.Cond.classLink "MirrorLane" (30 : Nat) "MirrorLane$Loom") ∈ ml_T := ml_in (ml_t1 (List.mem_of_getElem? (i := 86) rfl)) rfl
theorem tw_1_87 : (Jvm.Cond.instantiable "MirrorLane$Loom" (7 : Nat)) ∈ ml_T := ml_in (ml_t1 (List.mem_of_getElem? (i := 87) rfl)) rfl
theorem tw_1_5 : (Jvm.Cond.initialized "MirrorLane$Loom") ∈ ml_T := ml_in (ml_t1 (List.mem_of_getElem? (i := 5) rfl)) rfl
theorem tw_1_88 : (Jvm.Cond.methodLink "MirrorLane" (32 : Nat) ({ cls := "MirrorLane$Loom", name := "<init>", desc := "()V" } : Jvm.MethodName)) ∈ ml_T := ml_in (ml_t1 (List.mem_of_getElem? (i := 88) rfl)) rfl
theorem tw_1_89 : (Jvm.Cond.instanceMethod ({ cls := "MirrorLane$Loom", name := "<init>", desc := "()V" } : Jvm.MethodName)) ∈ ml_T := ml_in (ml_t1 (List.mem_of_getElem? (i := 89) rfl)) rfl
theorem tw_1_90 : (Jvm.Cond.code ({ cls := "MirrorLane$Loom", name := "<init>", desc := "()V" } : Jvm.MethodName) prog_6_method_1_code (2 : Nat) (Option.none : Option Jvm.ClassFile.FieldType)) ∈ ml_T := ml_in (ml_t1 (List.mem_of_getElem? (i := 90) rfl)) rfl
theorem tw_2_154 : (Jvm.Cond.fieldLink "MirrorLane" (33 : Nat) "MirrorLane" "loom" "LMirrorLane$Loom;") ∈ ml_T := ml_in (ml_t2 (List.mem_of_getElem? (i := 154) rfl)) rfl
theorem tw_1_188 : (Jvm.Cond.classLink "MirrorLane" (37 : Nat) "MirrorLane$Powers") ∈ ml_T := ml_in (ml_t1 (List.mem_of_getElem? (i := 188) rfl)) rfl
theorem tw_1_189 : (Jvm.Cond.instantiable "MirrorLane$Powers" (10 : Nat)) ∈ ml_T := ml_in (ml_t1 (List.mem_of_getElem? (i := 189) rfl)) rfl
theorem tw_1_8 : (Jvm.Cond.initialized "MirrorLane$Powers") ∈ ml_T := ml_in (ml_t1 (List.mem_of_getElem? (i := 8) rfl)) rfl
theorem tw_1_191 : (Jvm.Cond.instanceMethod ({ cls := "MirrorLane$Powers", name := "<init>", desc := "()V" } : Jvm.MethodName)) ∈ ml_T := ml_in (ml_t1 (List.mem_of_getElem? (i := 191) rfl)) rfl
theorem tw_1_192 : (Jvm.Cond.code ({ cls := "MirrorLane$Powers", name := "<init>", desc := "()V" } : Jvm.MethodName) prog_8_method_1_code (1 : Nat) (Option.none : Option Jvm.ClassFile.FieldType)) ∈ ml_T := ml_in (ml_t1 (List.mem_of_getElem? (i := 192) rfl)) rfl
theorem tw_2_155 : (Jvm.Cond.fieldLink "MirrorLane" (40 : Nat) "MirrorLane" "powers" "LMirrorLane$Powers;") ∈ ml_T := ml_in (ml_t2 (List.mem_of_getElem? (i := 155) rfl)) rfl
theorem tw_1_232 : (Jvm.Cond.classLink "MirrorLane" (44 : Nat) "MirrorLane$Sentences") ∈ ml_T := ml_in (ml_t1 (List.mem_of_getElem? (i := 232) rfl)) rfl
theorem tw_1_233 : (Jvm.Cond.instantiable "MirrorLane$Sentences" (14 : Nat)) ∈ ml_T := ml_in (ml_t1 (List.mem_of_getElem? (i := 233) rfl)) rfl
theorem tw_1_9 : (Jvm.Cond.initialized "MirrorLane$Sentences") ∈ ml_T := ml_in (ml_t1 (List.mem_of_getElem? (i := 9) rfl)) rfl
theorem tw_1_235 : (Jvm.Cond.instanceMethod ({ cls := "MirrorLane$Sentences", name := "<init>", desc := "()V" } : Jvm.MethodName)) ∈ ml_T := ml_in (ml_t1 (List.mem_of_getElem? (i := 235) rfl)) rfl
theorem tw_1_236 : (Jvm.Cond.code ({ cls := "MirrorLane$Sentences", name := "<init>", desc := "()V" } : Jvm.MethodName) prog_9_method_1_code (1 : Nat) (Option.none : Option Jvm.ClassFile.FieldType)) ∈ ml_T := ml_in (ml_t1 (List.mem_of_getElem? (i := 236) rfl)) rfl
theorem tw_2_156 : (Jvm.Cond.fieldLink "MirrorLane" (47 : Nat) "MirrorLane" "sentences" "LMirrorLane$Sentences;") ∈ ml_T := ml_in (ml_t2 (List.mem_of_getElem? (i := 156) rfl)) rfl
theorem tw_2_51 : (Jvm.Cond.classLink "MirrorLane" (51 : Nat) "MirrorLane$Finde\x72") ∈ ml_T := ml_in (ml_t2 (List.mem_of_getElem? (i := 51) rfl)) rfl
theorem tw_2_52 : (Jvm.Cond.instantiable "MirrorLane$Finde\x72" (7 : Nat)) ∈ ml_T := ml_in (ml_t2 (List.mem_of_getElem? (i := 52) rfl)) rfl
theorem tw_1_10 : (Jvm.Cond.initialized "MirrorLane$Finde\x72") ∈ ml_T := ml_in (ml_t1 (List.mem_of_getElem? (i := 10) rfl)) rfl
theorem tw_2_54 : (Jvm.Cond.instanceMethod ({ cls := "MirrorLane$Finde\x72", name := "<init>", desc := "()V" } : Jvm.MethodName)) ∈ ml_T := ml_in (ml_t2 (List.mem_of_getElem? (i := 54) rfl)) rfl
theorem tw_2_55 : (Jvm.Cond.code ({ cls := "MirrorLane$Finde\x72", name := "<init>", desc := "()V" } : Jvm.MethodName) prog_3_method_1_code (1 : Nat) (Option.none : Option Jvm.ClassFile.FieldType)) ∈ ml_T := ml_in (ml_t2 (List.mem_of_getElem? (i := 55) rfl)) rfl
theorem tw_2_157 : (Jvm.Cond.fieldLink "MirrorLane" (54 : Nat) "MirrorLane" "finde\x72" "LMirrorLane$Finder;") ∈ ml_T := ml_in (ml_t2 (List.mem_of_getElem? (i := 157) rfl)) rfl
theorem tw_2_80 : (Jvm.Cond.classLink "MirrorLane" (58 : Nat) "MirrorLane$Mende\x72") ∈ ml_T := ml_in (ml_t2 (List.mem_of_getElem? (i := 80) rfl)) rfl
theorem tw_2_81 : (Jvm.Cond.instantiable "MirrorLane$Mende\x72" (2 : Nat)) ∈ ml_T := ml_in (ml_t2 (List.mem_of_getElem? (i := 81) rfl)) rfl
theorem tw_1_11 : (Jvm.Cond.initialized "MirrorLane$Mende\x72") ∈ ml_T := ml_in (ml_t1 (List.mem_of_getElem? (i := 11) rfl)) rfl
theorem tw_2_82 : (Jvm.Cond.methodLink "MirrorLane" (60 : Nat) ({ cls := "MirrorLane$Mende\x72", name := "<init>", desc := "()V" } : Jvm.MethodName)) ∈ ml_T := ml_in (ml_t2 (List.mem_of_getElem? (i := 82) rfl)) rfl
theorem tw_2_83 : (Jvm.Cond.instanceMethod ({ cls := "MirrorLane$Mende\x72", name := "<init>", desc := "()V" } : Jvm.MethodName)) ∈ ml_T := ml_in (ml_t2 (List.mem_of_getElem? (i := 83) rfl)) rfl
theorem tw_2_84 : (Jvm.Cond.code ({ cls := "MirrorLane$Mende\x72", name := "<init>", desc := "()V" } : Jvm.MethodName) prog_7_method_1_code (2 : Nat) (Option.none : Option Jvm.ClassFile.FieldType)) ∈ ml_T := ml_in (ml_t2 (List.mem_of_getElem? (i := 84) rfl)) rfl
theorem tw_2_158 : (Jvm.Cond.fieldLink "MirrorLane" (61 : Nat) "MirrorLane" "mende\x72" "LMirrorLane$Mender;") ∈ ml_T := ml_in (ml_t2 (List.mem_of_getElem? (i := 158) rfl)) rfl
theorem tw_2_95 : (Jvm.Cond.classLink "MirrorLane" (65 : Nat) "MirrorLane$Word") ∈ ml_T := ml_in (ml_t2 (List.mem_of_getElem? (i := 95) rfl)) rfl
theorem tw_2_159 : (Jvm.Cond.fieldLink "MirrorLane" (67 : Nat) "MirrorLane" "words" "[LMirrorLane$Word;") ∈ ml_T := ml_in (ml_t2 (List.mem_of_getElem? (i := 159) rfl)) rfl
theorem tw_2_160 : (Jvm.Cond.fieldLink "MirrorLane" (71 : Nat) "MirrorLane" "draft" "[B") ∈ ml_T := ml_in (ml_t2 (List.mem_of_getElem? (i := 160) rfl)) rfl
theorem tw_2_97 : (Jvm.Cond.classLink "MirrorLane" (75 : Nat) "MirrorLane$Weave") ∈ ml_T := ml_in (ml_t2 (List.mem_of_getElem? (i := 97) rfl)) rfl
theorem tw_2_161 : (Jvm.Cond.fieldLink "MirrorLane" (78 : Nat) "MirrorLane" "woven" "LMirrorLane$Weave;") ∈ ml_T := ml_in (ml_t2 (List.mem_of_getElem? (i := 161) rfl)) rfl
theorem tw_2_162 : (Jvm.Cond.fieldLink "MirrorLane" (82 : Nat) "MirrorLane" "h" "I") ∈ ml_T := ml_in (ml_t2 (List.mem_of_getElem? (i := 162) rfl)) rfl
theorem tw_2_163 : (Jvm.Cond.fieldLink "MirrorLane" (86 : Nat) "MirrorLane" "told" "I") ∈ ml_T := ml_in (ml_t2 (List.mem_of_getElem? (i := 163) rfl)) rfl
theorem tw_2_99 : (Jvm.Cond.instantiable "MirrorLane$Word" (8 : Nat)) ∈ ml_T := ml_in (ml_t2 (List.mem_of_getElem? (i := 99) rfl)) rfl
theorem tw_1_12 : (Jvm.Cond.initialized "MirrorLane$Word") ∈ ml_T := ml_in (ml_t1 (List.mem_of_getElem? (i := 12) rfl)) rfl
theorem tw_2_101 : (Jvm.Cond.instanceMethod ({ cls := "MirrorLane$Word", name := "<init>", desc := "()V" } : Jvm.MethodName)) ∈ ml_T := ml_in (ml_t2 (List.mem_of_getElem? (i := 101) rfl)) rfl
theorem tw_2_102 : (Jvm.Cond.code ({ cls := "MirrorLane$Word", name := "<init>", desc := "()V" } : Jvm.MethodName) prog_12_method_1_code (1 : Nat) (Option.none : Option Jvm.ClassFile.FieldType)) ∈ ml_T := ml_in (ml_t2 (List.mem_of_getElem? (i := 102) rfl)) rfl
theorem tw_4_190 : (Jvm.Cond.methodLink "MirrorLaneModel" (1 : Nat) ({ cls := "java/lang/Object", name := "<init>", desc := "()V" } : Jvm.MethodName)) ∈ ml_T := ml_in (ml_t4 (List.mem_of_getElem? (i := 190) rfl)) rfl
theorem tw_4_191 : (Jvm.Cond.fieldLink "MirrorLaneModel" (7 : Nat) "MirrorLaneModel" "tape" "[B") ∈ ml_T := ml_in (ml_t4 (List.mem_of_getElem? (i := 191) rfl)) rfl
theorem tw_4_193 : (Jvm.Cond.fieldLink "MirrorLaneModel" (13 : Nat) "MirrorLaneModel" "h" "I") ∈ ml_T := ml_in (ml_t4 (List.mem_of_getElem? (i := 193) rfl)) rfl
theorem tw_4_196 : (Jvm.Cond.fieldLink "MirrorLaneModel" (17 : Nat) "MirrorLaneModel" "cap" "[I") ∈ ml_T := ml_in (ml_t4 (List.mem_of_getElem? (i := 196) rfl)) rfl
theorem tw_4_197 : (Jvm.Cond.fieldLink "MirrorLaneModel" (21 : Nat) "MirrorLaneModel" "text" "[B") ∈ ml_T := ml_in (ml_t4 (List.mem_of_getElem? (i := 197) rfl)) rfl
theorem tw_4_198 : (Jvm.Cond.fieldLink "MirrorLaneModel" (24 : Nat) "MirrorLaneModel" "size" "[I") ∈ ml_T := ml_in (ml_t4 (List.mem_of_getElem? (i := 198) rfl)) rfl
theorem tw_4_199 : (Jvm.Cond.fieldLink "MirrorLaneModel" (27 : Nat) "MirrorLaneModel" "cost" "[I") ∈ ml_T := ml_in (ml_t4 (List.mem_of_getElem? (i := 199) rfl)) rfl
theorem tw_4_204 : (Jvm.Cond.fieldLink "MirrorLaneModel" (30 : Nat) "MirrorLaneModel" "crosses" "[J") ∈ ml_T := ml_in (ml_t4 (List.mem_of_getElem? (i := 204) rfl)) rfl
theorem tw_4_205 : (Jvm.Cond.fieldLink "MirrorLaneModel" (34 : Nat) "MirrorLaneModel" "backs" "[J") ∈ ml_T := ml_in (ml_t4 (List.mem_of_getElem? (i := 205) rfl)) rfl
theorem tw_4_206 : (Jvm.Cond.fieldLink "MirrorLaneModel" (37 : Nat) "MirrorLaneModel" "accX" "[J") ∈ ml_T := ml_in (ml_t4 (List.mem_of_getElem? (i := 206) rfl)) rfl
theorem tw_4_207 : (Jvm.Cond.fieldLink "MirrorLaneModel" (40 : Nat) "MirrorLaneModel" "accU" "[J") ∈ ml_T := ml_in (ml_t4 (List.mem_of_getElem? (i := 207) rfl)) rfl
theorem tw_4_208 : (Jvm.Cond.fieldLink "MirrorLaneModel" (43 : Nat) "MirrorLaneModel" "lastX" "[J") ∈ ml_T := ml_in (ml_t4 (List.mem_of_getElem? (i := 208) rfl)) rfl
theorem tw_4_209 : (Jvm.Cond.fieldLink "MirrorLaneModel" (46 : Nat) "MirrorLaneModel" "lastU" "[J") ∈ ml_T := ml_in (ml_t4 (List.mem_of_getElem? (i := 209) rfl)) rfl
theorem tw_4_212 : (Jvm.Cond.fieldLink "MirrorLaneModel" (49 : Nat) "MirrorLaneModel" "pai\x72" "[I") ∈ ml_T := ml_in (ml_t4 (List.mem_of_getElem? (i := 212) rfl)) rfl
theorem tw_4_213 : (Jvm.Cond.fieldLink "MirrorLaneModel" (52 : Nat) "MirrorLaneModel" "length" "[J") ∈ ml_T := ml_in (ml_t4 (List.mem_of_getElem? (i := 213) rfl)) rfl
theorem tw_4_214 : (Jvm.Cond.fieldLink "MirrorLaneModel" (55 : Nat) "MirrorLaneModel" "within" "[J") ∈ ml_T := ml_in (ml_t4 (List.mem_of_getElem? (i := 214) rfl)) rfl
theorem tw_4_215 : (Jvm.Cond.fieldLink "MirrorLaneModel" (58 : Nat) "MirrorLaneModel" "longest" "[J") ∈ ml_T := ml_in (ml_t4 (List.mem_of_getElem? (i := 215) rfl)) rfl
theorem tw_4_216 : (Jvm.Cond.fieldLink "MirrorLaneModel" (61 : Nat) "MirrorLaneModel" "togethe\x72" "[J") ∈ ml_T := ml_in (ml_t4 (List.mem_of_getElem? (i := 216) rfl)) rfl
theorem tw_5_138 : (Jvm.Cond.arrayClass Jvm.ClassFile.FieldType.boolean) ∈ ml_T := ml_in (ml_t5 (List.mem_of_getElem? (i := 138) rfl)) rfl
theorem tw_4_217 : (Jvm.Cond.fieldLink "MirrorLaneModel" (64 : Nat) "MirrorLaneModel" "isSeen" "[Z") ∈ ml_T := ml_in (ml_t4 (List.mem_of_getElem? (i := 217) rfl)) rfl
theorem tw_4_219 : (Jvm.Cond.fieldLink "MirrorLaneModel" (68 : Nat) "MirrorLaneModel" "old" "[B") ∈ ml_T := ml_in (ml_t4 (List.mem_of_getElem? (i := 219) rfl)) rfl
theorem tw_4_220 : (Jvm.Cond.fieldLink "MirrorLaneModel" (71 : Nat) "MirrorLaneModel" "isDone" "[Z") ∈ ml_T := ml_in (ml_t4 (List.mem_of_getElem? (i := 220) rfl)) rfl
theorem tw_4_221 : (Jvm.Cond.fieldLink "MirrorLaneModel" (74 : Nat) "MirrorLaneModel" "codes" "[J") ∈ ml_T := ml_in (ml_t4 (List.mem_of_getElem? (i := 221) rfl)) rfl
theorem tw_4_222 : (Jvm.Cond.fieldLink "MirrorLaneModel" (77 : Nat) "MirrorLaneModel" "lefts" "[J") ∈ ml_T := ml_in (ml_t4 (List.mem_of_getElem? (i := 222) rfl)) rfl
theorem tw_4_231 : (Jvm.Cond.fieldLink "MirrorLaneModel" (80 : Nat) "MirrorLaneModel" "lette\x72" "[I") ∈ ml_T := ml_in (ml_t4 (List.mem_of_getElem? (i := 231) rfl)) rfl
theorem tw_4_232 : (Jvm.Cond.fieldLink "MirrorLaneModel" (83 : Nat) "MirrorLaneModel" "stateCode" "[J") ∈ ml_T := ml_in (ml_t4 (List.mem_of_getElem? (i := 232) rfl)) rfl
theorem tw_4_233 : (Jvm.Cond.fieldLink "MirrorLaneModel" (86 : Nat) "MirrorLaneModel" "statePai\x72" "[B") ∈ ml_T := ml_in (ml_t4 (List.mem_of_getElem? (i := 233) rfl)) rfl
theorem tw_4_234 : (Jvm.Cond.fieldLink "MirrorLaneModel" (89 : Nat) "MirrorLaneModel" "next" "[I") ∈ ml_T := ml_in (ml_t4 (List.mem_of_getElem? (i := 234) rfl)) rfl
theorem tw_4_235 : (Jvm.Cond.fieldLink "MirrorLaneModel" (92 : Nat) "MirrorLaneModel" "more" "[I") ∈ ml_T := ml_in (ml_t4 (List.mem_of_getElem? (i := 235) rfl)) rfl
theorem tw_4_236 : (Jvm.Cond.fieldLink "MirrorLaneModel" (95 : Nat) "MirrorLaneModel" "firstState" "[I") ∈ ml_T := ml_in (ml_t4 (List.mem_of_getElem? (i := 236) rfl)) rfl
theorem tw_4_237 : (Jvm.Cond.fieldLink "MirrorLaneModel" (98 : Nat) "MirrorLaneModel" "closed" "[I") ∈ ml_T := ml_in (ml_t4 (List.mem_of_getElem? (i := 237) rfl)) rfl
theorem tw_4_238 : (Jvm.Cond.fieldLink "MirrorLaneModel" (101 : Nat) "MirrorLaneModel" "ways" "[J") ∈ ml_T := ml_in (ml_t4 (List.mem_of_getElem? (i := 238) rfl)) rfl
theorem tw_4_239 : (Jvm.Cond.fieldLink "MirrorLaneModel" (104 : Nat) "MirrorLaneModel" "then" "[J") ∈ ml_T := ml_in (ml_t4 (List.mem_of_getElem? (i := 239) rfl)) rfl
theorem tw_5_0 : (Jvm.Cond.fieldLink "MirrorLaneModel" (107 : Nat) "MirrorLaneModel" "isCome" "[Z") ∈ ml_T := ml_in (ml_t5 (List.mem_of_getElem? (i := 0) rfl)) rfl
theorem tw_5_1 : (Jvm.Cond.fieldLink "MirrorLaneModel" (110 : Nat) "MirrorLaneModel" "queue" "[I") ∈ ml_T := ml_in (ml_t5 (List.mem_of_getElem? (i := 1) rfl)) rfl
theorem tw_5_2 : (Jvm.Cond.fieldLink "MirrorLaneModel" (113 : Nat) "MirrorLaneModel" "cameFrom" "[I") ∈ ml_T := ml_in (ml_t5 (List.mem_of_getElem? (i := 2) rfl)) rfl
theorem tw_5_3 : (Jvm.Cond.fieldLink "MirrorLaneModel" (116 : Nat) "MirrorLaneModel" "cameBy" "[I") ∈ ml_T := ml_in (ml_t5 (List.mem_of_getElem? (i := 3) rfl)) rfl
theorem tw_5_5 : (Jvm.Cond.fieldLink "MirrorLaneModel" (119 : Nat) "MirrorLaneModel" "price" "[I") ∈ ml_T := ml_in (ml_t5 (List.mem_of_getElem? (i := 5) rfl)) rfl
theorem tw_5_6 : (Jvm.Cond.fieldLink "MirrorLaneModel" (122 : Nat) "MirrorLaneModel" "steps" "[I") ∈ ml_T := ml_in (ml_t5 (List.mem_of_getElem? (i := 6) rfl)) rfl
theorem tw_5_7 : (Jvm.Cond.fieldLink "MirrorLaneModel" (125 : Nat) "MirrorLaneModel" "kinds" "[I") ∈ ml_T := ml_in (ml_t5 (List.mem_of_getElem? (i := 7) rfl)) rfl
theorem tw_5_8 : (Jvm.Cond.fieldLink "MirrorLaneModel" (128 : Nat) "MirrorLaneModel" "rails" "[I") ∈ ml_T := ml_in (ml_t5 (List.mem_of_getElem? (i := 8) rfl)) rfl
theorem tw_5_9 : (Jvm.Cond.fieldLink "MirrorLaneModel" (131 : Nat) "MirrorLaneModel" "written" "[B") ∈ ml_T := ml_in (ml_t5 (List.mem_of_getElem? (i := 9) rfl)) rfl
theorem tw_5_10 : (Jvm.Cond.fieldLink "MirrorLaneModel" (134 : Nat) "MirrorLaneModel" "writtenMany" "[I") ∈ ml_T := ml_in (ml_t5 (List.mem_of_getElem? (i := 10) rfl)) rfl
theorem tw_5_11 : (Jvm.Cond.fieldLink "MirrorLaneModel" (137 : Nat) "MirrorLaneModel" "itemFrom" "[I") ∈ ml_T := ml_in (ml_t5 (List.mem_of_getElem? (i := 11) rfl)) rfl
theorem tw_7_17 : (Jvm.Cond.constantLong "MirrorLaneLaw" (68 : Nat) (4294967295 : Int64)) ∈ ml_T := ml_in (ml_t7 (List.mem_of_getElem? (i := 17) rfl)) rfl
theorem tc_7_17 : Cond.constantLong "MirrorLaneLaw" 68 (Int64.ofInt 4294967295) ∈ ml_T := by
  rw [show Int64.ofInt 4294967295 = (4294967295 : Int64) by decide +kernel]
  exact tw_7_17
theorem tw_1_18 : (Jvm.Cond.classLink "MirrorLaneLaw" (7 : Nat) "MirrorLane") ∈ ml_T := ml_in (ml_t1 (List.mem_of_getElem? (i := 18) rfl)) rfl
theorem tw_1_19 : (Jvm.Cond.instantiable "MirrorLane" (13 : Nat)) ∈ ml_T := ml_in (ml_t1 (List.mem_of_getElem? (i := 19) rfl)) rfl
theorem tw_1_1 : (Jvm.Cond.initialized "MirrorLane") ∈ ml_T := ml_in (ml_t1 (List.mem_of_getElem? (i := 1) rfl)) rfl
theorem tw_1_20 : (Jvm.Cond.methodLink "MirrorLaneLaw" (9 : Nat) ({ cls := "MirrorLane", name := "<init>", desc := "()V" } : Jvm.MethodName)) ∈ ml_T := ml_in (ml_t1 (List.mem_of_getElem? (i := 20) rfl)) rfl
theorem tw_1_21 : (Jvm.Cond.instanceMethod ({ cls := "MirrorLane", name := "<init>", desc := "()V" } : Jvm.MethodName)) ∈ ml_T := ml_in (ml_t1 (List.mem_of_getElem? (i := 21) rfl)) rfl
theorem tw_1_22 : (Jvm.Cond.code ({ cls := "MirrorLane", name := "<init>", desc := "()V" } : Jvm.MethodName) prog_1_method_1_code (2 : Nat) (Option.none : Option Jvm.ClassFile.FieldType)) ∈ ml_T := ml_in (ml_t1 (List.mem_of_getElem? (i := 22) rfl)) rfl
theorem tw_4_185 : (Jvm.Cond.classLink "MirrorLaneLaw" (10 : Nat) "MirrorLaneModel") ∈ ml_T := ml_in (ml_t4 (List.mem_of_getElem? (i := 185) rfl)) rfl
theorem tw_4_186 : (Jvm.Cond.instantiable "MirrorLaneModel" (62 : Nat)) ∈ ml_T := ml_in (ml_t4 (List.mem_of_getElem? (i := 186) rfl)) rfl
theorem tw_1_13 : (Jvm.Cond.initialized "MirrorLaneModel") ∈ ml_T := ml_in (ml_t1 (List.mem_of_getElem? (i := 13) rfl)) rfl
theorem tw_4_187 : (Jvm.Cond.methodLink "MirrorLaneLaw" (12 : Nat) ({ cls := "MirrorLaneModel", name := "<init>", desc := "()V" } : Jvm.MethodName)) ∈ ml_T := ml_in (ml_t4 (List.mem_of_getElem? (i := 187) rfl)) rfl
theorem tw_4_188 : (Jvm.Cond.instanceMethod ({ cls := "MirrorLaneModel", name := "<init>", desc := "()V" } : Jvm.MethodName)) ∈ ml_T := ml_in (ml_t4 (List.mem_of_getElem? (i := 188) rfl)) rfl
theorem tw_4_189 : (Jvm.Cond.code ({ cls := "MirrorLaneModel", name := "<init>", desc := "()V" } : Jvm.MethodName) prog_14_method_1_code (2 : Nat) (Option.none : Option Jvm.ClassFile.FieldType)) ∈ ml_T := ml_in (ml_t4 (List.mem_of_getElem? (i := 189) rfl)) rfl
theorem tw_1_52 : (Jvm.Cond.laysFinal "MirrorLane$Closing" "MirrorLane$Closing" "joint" "[I") ∈ ml_T := ml_in (ml_t1 (List.mem_of_getElem? (i := 52) rfl)) rfl
theorem tw_1_54 : (Jvm.Cond.lays "MirrorLane$Closing" "MirrorLane$Closing" "byCaps" "Z") ∈ ml_T := ml_in (ml_t1 (List.mem_of_getElem? (i := 54) rfl)) rfl
theorem tw_2_65 : (Jvm.Cond.laysFinal "MirrorLane$Finde\x72" "MirrorLane$Finde\x72" "queue" "[I") ∈ ml_T := ml_in (ml_t2 (List.mem_of_getElem? (i := 65) rfl)) rfl
theorem tw_2_67 : (Jvm.Cond.laysFinal "MirrorLane$Finde\x72" "MirrorLane$Finde\x72" "from" "[I") ∈ ml_T := ml_in (ml_t2 (List.mem_of_getElem? (i := 67) rfl)) rfl
theorem tw_2_69 : (Jvm.Cond.laysFinal "MirrorLane$Finde\x72" "MirrorLane$Finde\x72" "by" "[I") ∈ ml_T := ml_in (ml_t2 (List.mem_of_getElem? (i := 69) rfl)) rfl
theorem tw_2_71 : (Jvm.Cond.laysFinal "MirrorLane$Finde\x72" "MirrorLane$Finde\x72" "found" "[I") ∈ ml_T := ml_in (ml_t2 (List.mem_of_getElem? (i := 71) rfl)) rfl
theorem tw_2_73 : (Jvm.Cond.laysFinal "MirrorLane$Finde\x72" "MirrorLane$Finde\x72" "rest" "[J") ∈ ml_T := ml_in (ml_t2 (List.mem_of_getElem? (i := 73) rfl)) rfl
theorem tw_2_75 : (Jvm.Cond.lays "MirrorLane$Finde\x72" "MirrorLane$Finde\x72" "size" "I") ∈ ml_T := ml_in (ml_t2 (List.mem_of_getElem? (i := 75) rfl)) rfl
theorem tw_2_77 : (Jvm.Cond.lays "MirrorLane$Finde\x72" "MirrorLane$Finde\x72" "price" "I") ∈ ml_T := ml_in (ml_t2 (List.mem_of_getElem? (i := 77) rfl)) rfl
theorem tw_1_70 : (Jvm.Cond.lays "MirrorLane$Gramma\x72" "MirrorLane$Gramma\x72" "text" "[B") ∈ ml_T := ml_in (ml_t1 (List.mem_of_getElem? (i := 70) rfl)) rfl
theorem tw_1_72 : (Jvm.Cond.lays "MirrorLane$Gramma\x72" "MirrorLane$Gramma\x72" "size" "I") ∈ ml_T := ml_in (ml_t1 (List.mem_of_getElem? (i := 72) rfl)) rfl
theorem tw_1_74 : (Jvm.Cond.lays "MirrorLane$Gramma\x72" "MirrorLane$Gramma\x72" "at" "I") ∈ ml_T := ml_in (ml_t1 (List.mem_of_getElem? (i := 74) rfl)) rfl
theorem tw_1_76 : (Jvm.Cond.lays "MirrorLane$Gramma\x72" "MirrorLane$Gramma\x72" "depth" "I") ∈ ml_T := ml_in (ml_t1 (List.mem_of_getElem? (i := 76) rfl)) rfl
theorem tw_1_78 : (Jvm.Cond.lays "MirrorLane$Gramma\x72" "MirrorLane$Gramma\x72" "repeatable" "Z") ∈ ml_T := ml_in (ml_t1 (List.mem_of_getElem? (i := 78) rfl)) rfl
theorem tw_1_80 : (Jvm.Cond.lays "MirrorLane$Gramma\x72" "MirrorLane$Gramma\x72" "needsItem" "Z") ∈ ml_T := ml_in (ml_t1 (List.mem_of_getElem? (i := 80) rfl)) rfl
theorem tw_1_82 : (Jvm.Cond.lays "MirrorLane$Gramma\x72" "MirrorLane$Gramma\x72" "fault" "I") ∈ ml_T := ml_in (ml_t1 (List.mem_of_getElem? (i := 82) rfl)) rfl
theorem tw_1_107 : (Jvm.Cond.lays "MirrorLane$Items" "MirrorLane$Items" "text" "[B") ∈ ml_T := ml_in (ml_t1 (List.mem_of_getElem? (i := 107) rfl)) rfl
theorem tw_1_109 : (Jvm.Cond.lays "MirrorLane$Items" "MirrorLane$Items" "size" "I") ∈ ml_T := ml_in (ml_t1 (List.mem_of_getElem? (i := 109) rfl)) rfl
theorem tw_1_111 : (Jvm.Cond.lays "MirrorLane$Items" "MirrorLane$Items" "at" "I") ∈ ml_T := ml_in (ml_t1 (List.mem_of_getElem? (i := 111) rfl)) rfl
theorem tw_1_113 : (Jvm.Cond.lays "MirrorLane$Items" "MirrorLane$Items" "kind" "I") ∈ ml_T := ml_in (ml_t1 (List.mem_of_getElem? (i := 113) rfl)) rfl
theorem tw_1_115 : (Jvm.Cond.lays "MirrorLane$Items" "MirrorLane$Items" "value" "I") ∈ ml_T := ml_in (ml_t1 (List.mem_of_getElem? (i := 115) rfl)) rfl
theorem tw_1_117 : (Jvm.Cond.lays "MirrorLane$Items" "MirrorLane$Items" "times" "I") ∈ ml_T := ml_in (ml_t1 (List.mem_of_getElem? (i := 117) rfl)) rfl
theorem tw_1_173 : (Jvm.Cond.laysFinal "MirrorLane$Loom" "MirrorLane$Loom" "items" "LMirrorLane$Items;") ∈ ml_T := ml_in (ml_t1 (List.mem_of_getElem? (i := 173) rfl)) rfl
theorem tw_1_175 : (Jvm.Cond.laysFinal "MirrorLane$Loom" "MirrorLane$Loom" "open" "[LMirrorLane$Weave;") ∈ ml_T := ml_in (ml_t1 (List.mem_of_getElem? (i := 175) rfl)) rfl
theorem tw_1_177 : (Jvm.Cond.laysFinal "MirrorLane$Loom" "MirrorLane$Loom" "starts" "[I") ∈ ml_T := ml_in (ml_t1 (List.mem_of_getElem? (i := 177) rfl)) rfl
theorem tw_1_179 : (Jvm.Cond.laysFinal "MirrorLane$Loom" "MirrorLane$Loom" "item" "LMirrorLane$Weave;") ∈ ml_T := ml_in (ml_t1 (List.mem_of_getElem? (i := 179) rfl)) rfl
theorem tw_1_181 : (Jvm.Cond.laysFinal "MirrorLane$Loom" "MirrorLane$Loom" "base" "LMirrorLane$Weave;") ∈ ml_T := ml_in (ml_t1 (List.mem_of_getElem? (i := 181) rfl)) rfl
theorem tw_1_183 : (Jvm.Cond.laysFinal "MirrorLane$Loom" "MirrorLane$Loom" "spare" "LMirrorLane$Weave;") ∈ ml_T := ml_in (ml_t1 (List.mem_of_getElem? (i := 183) rfl)) rfl
theorem tw_1_185 : (Jvm.Cond.laysFinal "MirrorLane$Loom" "MirrorLane$Loom" "othe\x72" "LMirrorLane$Weave;") ∈ ml_T := ml_in (ml_t1 (List.mem_of_getElem? (i := 185) rfl)) rfl
theorem tw_2_90 : (Jvm.Cond.laysFinal "MirrorLane$Mende\x72" "MirrorLane$Mende\x72" "tails" "[LMirrorLane$Weave;") ∈ ml_T := ml_in (ml_t2 (List.mem_of_getElem? (i := 90) rfl)) rfl
theorem tw_2_92 : (Jvm.Cond.laysFinal "MirrorLane$Mende\x72" "MirrorLane$Mende\x72" "mirro\x72" "LMirrorLane$Weave;") ∈ ml_T := ml_in (ml_t2 (List.mem_of_getElem? (i := 92) rfl)) rfl
theorem tw_1_211 : (Jvm.Cond.laysFinal "MirrorLane$Powers" "MirrorLane$Powers" "numbers" "[I") ∈ ml_T := ml_in (ml_t1 (List.mem_of_getElem? (i := 211) rfl)) rfl
theorem tw_1_213 : (Jvm.Cond.laysFinal "MirrorLane$Powers" "MirrorLane$Powers" "left" "[J") ∈ ml_T := ml_in (ml_t1 (List.mem_of_getElem? (i := 213) rfl)) rfl
theorem tw_1_215 : (Jvm.Cond.laysFinal "MirrorLane$Powers" "MirrorLane$Powers" "last" "LMirrorLane$Weave;") ∈ ml_T := ml_in (ml_t1 (List.mem_of_getElem? (i := 215) rfl)) rfl
theorem tw_1_217 : (Jvm.Cond.laysFinal "MirrorLane$Powers" "MirrorLane$Powers" "spare" "LMirrorLane$Weave;") ∈ ml_T := ml_in (ml_t1 (List.mem_of_getElem? (i := 217) rfl)) rfl
theorem tw_1_219 : (Jvm.Cond.lays "MirrorLane$Powers" "MirrorLane$Powers" "index" "I") ∈ ml_T := ml_in (ml_t1 (List.mem_of_getElem? (i := 219) rfl)) rfl
theorem tw_1_221 : (Jvm.Cond.lays "MirrorLane$Powers" "MirrorLane$Powers" "period" "I") ∈ ml_T := ml_in (ml_t1 (List.mem_of_getElem? (i := 221) rfl)) rfl
theorem tw_1_223 : (Jvm.Cond.lays "MirrorLane$Powers" "MirrorLane$Powers" "gain" "J") ∈ ml_T := ml_in (ml_t1 (List.mem_of_getElem? (i := 223) rfl)) rfl
theorem tw_1_225 : (Jvm.Cond.lays "MirrorLane$Powers" "MirrorLane$Powers" "step" "I") ∈ ml_T := ml_in (ml_t1 (List.mem_of_getElem? (i := 225) rfl)) rfl
theorem tw_1_227 : (Jvm.Cond.lays "MirrorLane$Powers" "MirrorLane$Powers" "more" "J") ∈ ml_T := ml_in (ml_t1 (List.mem_of_getElem? (i := 227) rfl)) rfl
theorem tw_1_229 : (Jvm.Cond.lays "MirrorLane$Powers" "MirrorLane$Powers" "since" "I") ∈ ml_T := ml_in (ml_t1 (List.mem_of_getElem? (i := 229) rfl)) rfl
theorem tw_2_22 : (Jvm.Cond.lays "MirrorLane$Sentences" "MirrorLane$Sentences" "set" "I") ∈ ml_T := ml_in (ml_t2 (List.mem_of_getElem? (i := 22) rfl)) rfl
theorem tw_2_24 : (Jvm.Cond.lays "MirrorLane$Sentences" "MirrorLane$Sentences" "letters" "I") ∈ ml_T := ml_in (ml_t2 (List.mem_of_getElem? (i := 24) rfl)) rfl
theorem tw_2_26 : (Jvm.Cond.lays "MirrorLane$Sentences" "MirrorLane$Sentences" "places" "I") ∈ ml_T := ml_in (ml_t2 (List.mem_of_getElem? (i := 26) rfl)) rfl
theorem tw_2_28 : (Jvm.Cond.laysFinal "MirrorLane$Sentences" "MirrorLane$Sentences" "lette\x72" "[I") ∈ ml_T := ml_in (ml_t2 (List.mem_of_getElem? (i := 28) rfl)) rfl
theorem tw_2_30 : (Jvm.Cond.laysFinal "MirrorLane$Sentences" "MirrorLane$Sentences" "place" "[I") ∈ ml_T := ml_in (ml_t2 (List.mem_of_getElem? (i := 30) rfl)) rfl
theorem tw_2_32 : (Jvm.Cond.laysFinal "MirrorLane$Sentences" "MirrorLane$Sentences" "next" "[I") ∈ ml_T := ml_in (ml_t2 (List.mem_of_getElem? (i := 32) rfl)) rfl
theorem tw_2_34 : (Jvm.Cond.laysFinal "MirrorLane$Sentences" "MirrorLane$Sentences" "more" "[I") ∈ ml_T := ml_in (ml_t2 (List.mem_of_getElem? (i := 34) rfl)) rfl
theorem tw_2_36 : (Jvm.Cond.laysFinal "MirrorLane$Sentences" "MirrorLane$Sentences" "closed" "[I") ∈ ml_T := ml_in (ml_t2 (List.mem_of_getElem? (i := 36) rfl)) rfl
theorem tw_2_38 : (Jvm.Cond.laysFinal "MirrorLane$Sentences" "MirrorLane$Sentences" "pairs" "[I") ∈ ml_T := ml_in (ml_t2 (List.mem_of_getElem? (i := 38) rfl)) rfl
theorem tw_2_40 : (Jvm.Cond.laysFinal "MirrorLane$Sentences" "MirrorLane$Sentences" "row" "[J") ∈ ml_T := ml_in (ml_t2 (List.mem_of_getElem? (i := 40) rfl)) rfl
theorem tw_2_42 : (Jvm.Cond.laysFinal "MirrorLane$Sentences" "MirrorLane$Sentences" "afte\x72" "[J") ∈ ml_T := ml_in (ml_t2 (List.mem_of_getElem? (i := 42) rfl)) rfl
theorem tw_2_44 : (Jvm.Cond.lays "MirrorLane$Sentences" "MirrorLane$Sentences" "rowOf" "I") ∈ ml_T := ml_in (ml_t2 (List.mem_of_getElem? (i := 44) rfl)) rfl
theorem tw_2_46 : (Jvm.Cond.laysFinal "MirrorLane$Sentences" "MirrorLane$Sentences" "here" "LMirrorLane$Weave;") ∈ ml_T := ml_in (ml_t2 (List.mem_of_getElem? (i := 46) rfl)) rfl
theorem tw_2_48 : (Jvm.Cond.laysFinal "MirrorLane$Sentences" "MirrorLane$Sentences" "there" "LMirrorLane$Weave;") ∈ ml_T := ml_in (ml_t2 (List.mem_of_getElem? (i := 48) rfl)) rfl
theorem tw_1_37 : (Jvm.Cond.laysFinal "MirrorLane$Tape" "MirrorLane$Tape" "bytes" "[I") ∈ ml_T := ml_in (ml_t1 (List.mem_of_getElem? (i := 37) rfl)) rfl
theorem tw_1_39 : (Jvm.Cond.lays "MirrorLane$Tape" "MirrorLane$Tape" "size" "I") ∈ ml_T := ml_in (ml_t1 (List.mem_of_getElem? (i := 39) rfl)) rfl
theorem tw_1_148 : (Jvm.Cond.laysFinal "MirrorLane$Weave" "MirrorLane$Weave" "pai\x72" "[I") ∈ ml_T := ml_in (ml_t1 (List.mem_of_getElem? (i := 148) rfl)) rfl
theorem tw_1_150 : (Jvm.Cond.laysFinal "MirrorLane$Weave" "MirrorLane$Weave" "run" "[J") ∈ ml_T := ml_in (ml_t1 (List.mem_of_getElem? (i := 150) rfl)) rfl
theorem tw_1_152 : (Jvm.Cond.lays "MirrorLane$Weave" "MirrorLane$Weave" "loops" "J") ∈ ml_T := ml_in (ml_t1 (List.mem_of_getElem? (i := 152) rfl)) rfl
theorem tw_1_154 : (Jvm.Cond.lays "MirrorLane$Weave" "MirrorLane$Weave" "longest" "J") ∈ ml_T := ml_in (ml_t1 (List.mem_of_getElem? (i := 154) rfl)) rfl
theorem tw_1_156 : (Jvm.Cond.lays "MirrorLane$Weave" "MirrorLane$Weave" "total" "J") ∈ ml_T := ml_in (ml_t1 (List.mem_of_getElem? (i := 156) rfl)) rfl
theorem tw_1_158 : (Jvm.Cond.lays "MirrorLane$Weave" "MirrorLane$Weave" "signs" "J") ∈ ml_T := ml_in (ml_t1 (List.mem_of_getElem? (i := 158) rfl)) rfl
theorem tw_1_160 : (Jvm.Cond.lays "MirrorLane$Weave" "MirrorLane$Weave" "crosses" "Z") ∈ ml_T := ml_in (ml_t1 (List.mem_of_getElem? (i := 160) rfl)) rfl
theorem tw_1_162 : (Jvm.Cond.lays "MirrorLane$Weave" "MirrorLane$Weave" "turns" "Z") ∈ ml_T := ml_in (ml_t1 (List.mem_of_getElem? (i := 162) rfl)) rfl
theorem tw_2_130 : (Jvm.Cond.laysFinal "MirrorLane$Word" "MirrorLane$Word" "text" "[B") ∈ ml_T := ml_in (ml_t2 (List.mem_of_getElem? (i := 130) rfl)) rfl
theorem tw_2_132 : (Jvm.Cond.lays "MirrorLane$Word" "MirrorLane$Word" "size" "I") ∈ ml_T := ml_in (ml_t2 (List.mem_of_getElem? (i := 132) rfl)) rfl
theorem tw_2_134 : (Jvm.Cond.lays "MirrorLane$Word" "MirrorLane$Word" "plain" "Z") ∈ ml_T := ml_in (ml_t2 (List.mem_of_getElem? (i := 134) rfl)) rfl
theorem tw_2_136 : (Jvm.Cond.lays "MirrorLane$Word" "MirrorLane$Word" "price" "I") ∈ ml_T := ml_in (ml_t2 (List.mem_of_getElem? (i := 136) rfl)) rfl
theorem tw_2_138 : (Jvm.Cond.laysFinal "MirrorLane$Word" "MirrorLane$Word" "made" "LMirrorLane$Weave;") ∈ ml_T := ml_in (ml_t2 (List.mem_of_getElem? (i := 138) rfl)) rfl
theorem tw_2_140 : (Jvm.Cond.laysFinal "MirrorLane$Word" "MirrorLane$Word" "row" "[B") ∈ ml_T := ml_in (ml_t2 (List.mem_of_getElem? (i := 140) rfl)) rfl
theorem tw_2_142 : (Jvm.Cond.lays "MirrorLane$Word" "MirrorLane$Word" "rowSize" "I") ∈ ml_T := ml_in (ml_t2 (List.mem_of_getElem? (i := 142) rfl)) rfl
theorem tw_2_144 : (Jvm.Cond.lays "MirrorLane$Word" "MirrorLane$Word" "written" "Z") ∈ ml_T := ml_in (ml_t2 (List.mem_of_getElem? (i := 144) rfl)) rfl
theorem tw_2_164 : (Jvm.Cond.laysFinal "MirrorLane" "MirrorLane" "tape" "LMirrorLane$Tape;") ∈ ml_T := ml_in (ml_t2 (List.mem_of_getElem? (i := 164) rfl)) rfl
theorem tw_2_166 : (Jvm.Cond.laysFinal "MirrorLane" "MirrorLane" "closing" "LMirrorLane$Closing;") ∈ ml_T := ml_in (ml_t2 (List.mem_of_getElem? (i := 166) rfl)) rfl
theorem tw_2_168 : (Jvm.Cond.laysFinal "MirrorLane" "MirrorLane" "gramma\x72" "LMirrorLane$Grammar;") ∈ ml_T := ml_in (ml_t2 (List.mem_of_getElem? (i := 168) rfl)) rfl
theorem tw_2_170 : (Jvm.Cond.laysFinal "MirrorLane" "MirrorLane" "loom" "LMirrorLane$Loom;") ∈ ml_T := ml_in (ml_t2 (List.mem_of_getElem? (i := 170) rfl)) rfl
theorem tw_2_172 : (Jvm.Cond.laysFinal "MirrorLane" "MirrorLane" "powers" "LMirrorLane$Powers;") ∈ ml_T := ml_in (ml_t2 (List.mem_of_getElem? (i := 172) rfl)) rfl
theorem tw_2_174 : (Jvm.Cond.laysFinal "MirrorLane" "MirrorLane" "sentences" "LMirrorLane$Sentences;") ∈ ml_T := ml_in (ml_t2 (List.mem_of_getElem? (i := 174) rfl)) rfl
theorem tw_2_176 : (Jvm.Cond.laysFinal "MirrorLane" "MirrorLane" "finde\x72" "LMirrorLane$Finder;") ∈ ml_T := ml_in (ml_t2 (List.mem_of_getElem? (i := 176) rfl)) rfl
theorem tw_2_178 : (Jvm.Cond.laysFinal "MirrorLane" "MirrorLane" "mende\x72" "LMirrorLane$Mender;") ∈ ml_T := ml_in (ml_t2 (List.mem_of_getElem? (i := 178) rfl)) rfl
theorem tw_2_180 : (Jvm.Cond.laysFinal "MirrorLane" "MirrorLane" "words" "[LMirrorLane$Word;") ∈ ml_T := ml_in (ml_t2 (List.mem_of_getElem? (i := 180) rfl)) rfl
theorem tw_2_182 : (Jvm.Cond.laysFinal "MirrorLane" "MirrorLane" "draft" "[B") ∈ ml_T := ml_in (ml_t2 (List.mem_of_getElem? (i := 182) rfl)) rfl
theorem tw_2_184 : (Jvm.Cond.laysFinal "MirrorLane" "MirrorLane" "woven" "LMirrorLane$Weave;") ∈ ml_T := ml_in (ml_t2 (List.mem_of_getElem? (i := 184) rfl)) rfl
theorem tw_2_186 : (Jvm.Cond.lays "MirrorLane" "MirrorLane" "h" "I") ∈ ml_T := ml_in (ml_t2 (List.mem_of_getElem? (i := 186) rfl)) rfl
theorem tw_2_188 : (Jvm.Cond.lays "MirrorLane" "MirrorLane" "told" "I") ∈ ml_T := ml_in (ml_t2 (List.mem_of_getElem? (i := 188) rfl)) rfl
theorem tw_5_13 : (Jvm.Cond.laysFinal "MirrorLaneModel" "MirrorLaneModel" "tape" "[B") ∈ ml_T := ml_in (ml_t5 (List.mem_of_getElem? (i := 13) rfl)) rfl
theorem tw_5_15 : (Jvm.Cond.lays "MirrorLaneModel" "MirrorLaneModel" "taped" "I") ∈ ml_T := ml_in (ml_t5 (List.mem_of_getElem? (i := 15) rfl)) rfl
theorem tw_5_17 : (Jvm.Cond.lays "MirrorLaneModel" "MirrorLaneModel" "h" "I") ∈ ml_T := ml_in (ml_t5 (List.mem_of_getElem? (i := 17) rfl)) rfl
theorem tw_5_19 : (Jvm.Cond.lays "MirrorLaneModel" "MirrorLaneModel" "words" "I") ∈ ml_T := ml_in (ml_t5 (List.mem_of_getElem? (i := 19) rfl)) rfl
theorem tw_5_21 : (Jvm.Cond.lays "MirrorLaneModel" "MirrorLaneModel" "isCapped" "Z") ∈ ml_T := ml_in (ml_t5 (List.mem_of_getElem? (i := 21) rfl)) rfl
theorem tw_5_23 : (Jvm.Cond.laysFinal "MirrorLaneModel" "MirrorLaneModel" "cap" "[I") ∈ ml_T := ml_in (ml_t5 (List.mem_of_getElem? (i := 23) rfl)) rfl
theorem tw_5_25 : (Jvm.Cond.laysFinal "MirrorLaneModel" "MirrorLaneModel" "text" "[B") ∈ ml_T := ml_in (ml_t5 (List.mem_of_getElem? (i := 25) rfl)) rfl
theorem tw_5_27 : (Jvm.Cond.laysFinal "MirrorLaneModel" "MirrorLaneModel" "size" "[I") ∈ ml_T := ml_in (ml_t5 (List.mem_of_getElem? (i := 27) rfl)) rfl
theorem tw_5_29 : (Jvm.Cond.laysFinal "MirrorLaneModel" "MirrorLaneModel" "cost" "[I") ∈ ml_T := ml_in (ml_t5 (List.mem_of_getElem? (i := 29) rfl)) rfl
theorem tw_5_31 : (Jvm.Cond.lays "MirrorLaneModel" "MirrorLaneModel" "place" "I") ∈ ml_T := ml_in (ml_t5 (List.mem_of_getElem? (i := 31) rfl)) rfl
theorem tw_5_33 : (Jvm.Cond.lays "MirrorLaneModel" "MirrorLaneModel" "end" "I") ∈ ml_T := ml_in (ml_t5 (List.mem_of_getElem? (i := 33) rfl)) rfl
theorem tw_5_35 : (Jvm.Cond.lays "MirrorLaneModel" "MirrorLaneModel" "bad" "I") ∈ ml_T := ml_in (ml_t5 (List.mem_of_getElem? (i := 35) rfl)) rfl
theorem tw_5_37 : (Jvm.Cond.lays "MirrorLaneModel" "MirrorLaneModel" "open" "I") ∈ ml_T := ml_in (ml_t5 (List.mem_of_getElem? (i := 37) rfl)) rfl
theorem tw_5_39 : (Jvm.Cond.laysFinal "MirrorLaneModel" "MirrorLaneModel" "crosses" "[J") ∈ ml_T := ml_in (ml_t5 (List.mem_of_getElem? (i := 39) rfl)) rfl
theorem tw_5_41 : (Jvm.Cond.laysFinal "MirrorLaneModel" "MirrorLaneModel" "backs" "[J") ∈ ml_T := ml_in (ml_t5 (List.mem_of_getElem? (i := 41) rfl)) rfl
theorem tw_5_43 : (Jvm.Cond.laysFinal "MirrorLaneModel" "MirrorLaneModel" "accX" "[J") ∈ ml_T := ml_in (ml_t5 (List.mem_of_getElem? (i := 43) rfl)) rfl
theorem tw_5_45 : (Jvm.Cond.laysFinal "MirrorLaneModel" "MirrorLaneModel" "accU" "[J") ∈ ml_T := ml_in (ml_t5 (List.mem_of_getElem? (i := 45) rfl)) rfl
theorem tw_5_47 : (Jvm.Cond.laysFinal "MirrorLaneModel" "MirrorLaneModel" "lastX" "[J") ∈ ml_T := ml_in (ml_t5 (List.mem_of_getElem? (i := 47) rfl)) rfl
theorem tw_5_49 : (Jvm.Cond.laysFinal "MirrorLaneModel" "MirrorLaneModel" "lastU" "[J") ∈ ml_T := ml_in (ml_t5 (List.mem_of_getElem? (i := 49) rfl)) rfl
theorem tw_5_51 : (Jvm.Cond.lays "MirrorLaneModel" "MirrorLaneModel" "readAt" "I") ∈ ml_T := ml_in (ml_t5 (List.mem_of_getElem? (i := 51) rfl)) rfl
theorem tw_5_53 : (Jvm.Cond.lays "MirrorLaneModel" "MirrorLaneModel" "readWord" "I") ∈ ml_T := ml_in (ml_t5 (List.mem_of_getElem? (i := 53) rfl)) rfl
theorem tw_5_55 : (Jvm.Cond.laysFinal "MirrorLaneModel" "MirrorLaneModel" "pai\x72" "[I") ∈ ml_T := ml_in (ml_t5 (List.mem_of_getElem? (i := 55) rfl)) rfl
theorem tw_5_57 : (Jvm.Cond.laysFinal "MirrorLaneModel" "MirrorLaneModel" "length" "[J") ∈ ml_T := ml_in (ml_t5 (List.mem_of_getElem? (i := 57) rfl)) rfl
theorem tw_5_59 : (Jvm.Cond.laysFinal "MirrorLaneModel" "MirrorLaneModel" "within" "[J") ∈ ml_T := ml_in (ml_t5 (List.mem_of_getElem? (i := 59) rfl)) rfl
theorem tw_5_61 : (Jvm.Cond.laysFinal "MirrorLaneModel" "MirrorLaneModel" "longest" "[J") ∈ ml_T := ml_in (ml_t5 (List.mem_of_getElem? (i := 61) rfl)) rfl
theorem tw_5_63 : (Jvm.Cond.laysFinal "MirrorLaneModel" "MirrorLaneModel" "togethe\x72" "[J") ∈ ml_T := ml_in (ml_t5 (List.mem_of_getElem? (i := 63) rfl)) rfl
theorem tw_5_65 : (Jvm.Cond.laysFinal "MirrorLaneModel" "MirrorLaneModel" "isSeen" "[Z") ∈ ml_T := ml_in (ml_t5 (List.mem_of_getElem? (i := 65) rfl)) rfl
theorem tw_5_67 : (Jvm.Cond.lays "MirrorLaneModel" "MirrorLaneModel" "went" "J") ∈ ml_T := ml_in (ml_t5 (List.mem_of_getElem? (i := 67) rfl)) rfl
theorem tw_5_69 : (Jvm.Cond.laysFinal "MirrorLaneModel" "MirrorLaneModel" "old" "[B") ∈ ml_T := ml_in (ml_t5 (List.mem_of_getElem? (i := 69) rfl)) rfl
theorem tw_5_71 : (Jvm.Cond.laysFinal "MirrorLaneModel" "MirrorLaneModel" "isDone" "[Z") ∈ ml_T := ml_in (ml_t5 (List.mem_of_getElem? (i := 71) rfl)) rfl
theorem tw_5_73 : (Jvm.Cond.laysFinal "MirrorLaneModel" "MirrorLaneModel" "codes" "[J") ∈ ml_T := ml_in (ml_t5 (List.mem_of_getElem? (i := 73) rfl)) rfl
theorem tw_5_75 : (Jvm.Cond.laysFinal "MirrorLaneModel" "MirrorLaneModel" "lefts" "[J") ∈ ml_T := ml_in (ml_t5 (List.mem_of_getElem? (i := 75) rfl)) rfl
theorem tw_5_77 : (Jvm.Cond.lays "MirrorLaneModel" "MirrorLaneModel" "index" "I") ∈ ml_T := ml_in (ml_t5 (List.mem_of_getElem? (i := 77) rfl)) rfl
theorem tw_5_79 : (Jvm.Cond.lays "MirrorLaneModel" "MirrorLaneModel" "period" "I") ∈ ml_T := ml_in (ml_t5 (List.mem_of_getElem? (i := 79) rfl)) rfl
theorem tw_5_81 : (Jvm.Cond.lays "MirrorLaneModel" "MirrorLaneModel" "known" "I") ∈ ml_T := ml_in (ml_t5 (List.mem_of_getElem? (i := 81) rfl)) rfl
theorem tw_5_83 : (Jvm.Cond.lays "MirrorLaneModel" "MirrorLaneModel" "gains" "J") ∈ ml_T := ml_in (ml_t5 (List.mem_of_getElem? (i := 83) rfl)) rfl
theorem tw_5_85 : (Jvm.Cond.lays "MirrorLaneModel" "MirrorLaneModel" "firstOf" "J") ∈ ml_T := ml_in (ml_t5 (List.mem_of_getElem? (i := 85) rfl)) rfl
theorem tw_5_87 : (Jvm.Cond.lays "MirrorLaneModel" "MirrorLaneModel" "foundFirst" "J") ∈ ml_T := ml_in (ml_t5 (List.mem_of_getElem? (i := 87) rfl)) rfl
theorem tw_5_89 : (Jvm.Cond.lays "MirrorLaneModel" "MirrorLaneModel" "letters" "I") ∈ ml_T := ml_in (ml_t5 (List.mem_of_getElem? (i := 89) rfl)) rfl
theorem tw_5_91 : (Jvm.Cond.lays "MirrorLaneModel" "MirrorLaneModel" "states" "I") ∈ ml_T := ml_in (ml_t5 (List.mem_of_getElem? (i := 91) rfl)) rfl
theorem tw_5_93 : (Jvm.Cond.laysFinal "MirrorLaneModel" "MirrorLaneModel" "lette\x72" "[I") ∈ ml_T := ml_in (ml_t5 (List.mem_of_getElem? (i := 93) rfl)) rfl
theorem tw_5_95 : (Jvm.Cond.laysFinal "MirrorLaneModel" "MirrorLaneModel" "stateCode" "[J") ∈ ml_T := ml_in (ml_t5 (List.mem_of_getElem? (i := 95) rfl)) rfl
theorem tw_5_97 : (Jvm.Cond.laysFinal "MirrorLaneModel" "MirrorLaneModel" "statePai\x72" "[B") ∈ ml_T := ml_in (ml_t5 (List.mem_of_getElem? (i := 97) rfl)) rfl
theorem tw_5_99 : (Jvm.Cond.laysFinal "MirrorLaneModel" "MirrorLaneModel" "next" "[I") ∈ ml_T := ml_in (ml_t5 (List.mem_of_getElem? (i := 99) rfl)) rfl
theorem tw_5_101 : (Jvm.Cond.laysFinal "MirrorLaneModel" "MirrorLaneModel" "more" "[I") ∈ ml_T := ml_in (ml_t5 (List.mem_of_getElem? (i := 101) rfl)) rfl
theorem tw_5_103 : (Jvm.Cond.laysFinal "MirrorLaneModel" "MirrorLaneModel" "firstState" "[I") ∈ ml_T := ml_in (ml_t5 (List.mem_of_getElem? (i := 103) rfl)) rfl
theorem tw_5_105 : (Jvm.Cond.laysFinal "MirrorLaneModel" "MirrorLaneModel" "closed" "[I") ∈ ml_T := ml_in (ml_t5 (List.mem_of_getElem? (i := 105) rfl)) rfl
theorem tw_5_107 : (Jvm.Cond.laysFinal "MirrorLaneModel" "MirrorLaneModel" "ways" "[J") ∈ ml_T := ml_in (ml_t5 (List.mem_of_getElem? (i := 107) rfl)) rfl
theorem tw_5_109 : (Jvm.Cond.laysFinal "MirrorLaneModel" "MirrorLaneModel" "then" "[J") ∈ ml_T := ml_in (ml_t5 (List.mem_of_getElem? (i := 109) rfl)) rfl
theorem tw_5_111 : (Jvm.Cond.laysFinal "MirrorLaneModel" "MirrorLaneModel" "isCome" "[Z") ∈ ml_T := ml_in (ml_t5 (List.mem_of_getElem? (i := 111) rfl)) rfl
theorem tw_5_113 : (Jvm.Cond.laysFinal "MirrorLaneModel" "MirrorLaneModel" "queue" "[I") ∈ ml_T := ml_in (ml_t5 (List.mem_of_getElem? (i := 113) rfl)) rfl
theorem tw_5_115 : (Jvm.Cond.laysFinal "MirrorLaneModel" "MirrorLaneModel" "cameFrom" "[I") ∈ ml_T := ml_in (ml_t5 (List.mem_of_getElem? (i := 115) rfl)) rfl
theorem tw_5_117 : (Jvm.Cond.laysFinal "MirrorLaneModel" "MirrorLaneModel" "cameBy" "[I") ∈ ml_T := ml_in (ml_t5 (List.mem_of_getElem? (i := 117) rfl)) rfl
theorem tw_5_119 : (Jvm.Cond.lays "MirrorLaneModel" "MirrorLaneModel" "queued" "I") ∈ ml_T := ml_in (ml_t5 (List.mem_of_getElem? (i := 119) rfl)) rfl
theorem tw_5_121 : (Jvm.Cond.laysFinal "MirrorLaneModel" "MirrorLaneModel" "price" "[I") ∈ ml_T := ml_in (ml_t5 (List.mem_of_getElem? (i := 121) rfl)) rfl
theorem tw_5_123 : (Jvm.Cond.laysFinal "MirrorLaneModel" "MirrorLaneModel" "steps" "[I") ∈ ml_T := ml_in (ml_t5 (List.mem_of_getElem? (i := 123) rfl)) rfl
theorem tw_5_125 : (Jvm.Cond.laysFinal "MirrorLaneModel" "MirrorLaneModel" "kinds" "[I") ∈ ml_T := ml_in (ml_t5 (List.mem_of_getElem? (i := 125) rfl)) rfl
theorem tw_5_127 : (Jvm.Cond.laysFinal "MirrorLaneModel" "MirrorLaneModel" "rails" "[I") ∈ ml_T := ml_in (ml_t5 (List.mem_of_getElem? (i := 127) rfl)) rfl
theorem tw_5_129 : (Jvm.Cond.laysFinal "MirrorLaneModel" "MirrorLaneModel" "written" "[B") ∈ ml_T := ml_in (ml_t5 (List.mem_of_getElem? (i := 129) rfl)) rfl
theorem tw_5_131 : (Jvm.Cond.laysFinal "MirrorLaneModel" "MirrorLaneModel" "writtenMany" "[I") ∈ ml_T := ml_in (ml_t5 (List.mem_of_getElem? (i := 131) rfl)) rfl
theorem tw_5_133 : (Jvm.Cond.laysFinal "MirrorLaneModel" "MirrorLaneModel" "itemFrom" "[I") ∈ ml_T := ml_in (ml_t5 (List.mem_of_getElem? (i := 133) rfl)) rfl
theorem tw_5_135 : (Jvm.Cond.lays "MirrorLaneModel" "MirrorLaneModel" "wrote" "I") ∈ ml_T := ml_in (ml_t5 (List.mem_of_getElem? (i := 135) rfl)) rfl
theorem tw_1_33 : (Jvm.Cond.fieldLink "MirrorLane$Closing" (19 : Nat) "MirrorLane$Tape" "bytes" "[I") ∈ ml_T := ml_in (ml_t1 (List.mem_of_getElem? (i := 33) rfl)) rfl
theorem tw_1_129 : (Jvm.Cond.fieldLink "MirrorLane$Closing" (34 : Nat) "MirrorLane$Weave" "pai\x72" "[I") ∈ ml_T := ml_in (ml_t1 (List.mem_of_getElem? (i := 129) rfl)) rfl
theorem tw_2_2 : (Jvm.Cond.fieldLink "MirrorLane$Finde\x72" (43 : Nat) "MirrorLane$Sentences" "letters" "I") ∈ ml_T := ml_in (ml_t2 (List.mem_of_getElem? (i := 2) rfl)) rfl
theorem tw_2_13 : (Jvm.Cond.fieldLink "MirrorLane$Finde\x72" (46 : Nat) "MirrorLane$Sentences" "more" "[I") ∈ ml_T := ml_in (ml_t2 (List.mem_of_getElem? (i := 13) rfl)) rfl
theorem tw_2_11 : (Jvm.Cond.fieldLink "MirrorLane$Finde\x72" (49 : Nat) "MirrorLane$Sentences" "next" "[I") ∈ ml_T := ml_in (ml_t2 (List.mem_of_getElem? (i := 11) rfl)) rfl
theorem tw_2_7 : (Jvm.Cond.fieldLink "MirrorLane$Finde\x72" (52 : Nat) "MirrorLane$Sentences" "lette\x72" "[I") ∈ ml_T := ml_in (ml_t2 (List.mem_of_getElem? (i := 7) rfl)) rfl
theorem tw_2_15 : (Jvm.Cond.fieldLink "MirrorLane$Finde\x72" (55 : Nat) "MirrorLane$Sentences" "closed" "[I") ∈ ml_T := ml_in (ml_t2 (List.mem_of_getElem? (i := 15) rfl)) rfl
theorem tw_2_117 : (Jvm.Cond.fieldLink "MirrorLane$Finde\x72" (70 : Nat) "MirrorLane$Word" "price" "I") ∈ ml_T := ml_in (ml_t2 (List.mem_of_getElem? (i := 117) rfl)) rfl
theorem tw_2_4 : (Jvm.Cond.fieldLink "MirrorLane$Finde\x72" (78 : Nat) "MirrorLane$Sentences" "places" "I") ∈ ml_T := ml_in (ml_t2 (List.mem_of_getElem? (i := 4) rfl)) rfl
theorem tw_1_36 : (Jvm.Cond.fieldLink "MirrorLane" (94 : Nat) "MirrorLane$Tape" "size" "I") ∈ ml_T := ml_in (ml_t1 (List.mem_of_getElem? (i := 36) rfl)) rfl
theorem tw_2_122 : (Jvm.Cond.fieldLink "MirrorLane" (112 : Nat) "MirrorLane$Word" "made" "LMirrorLane$Weave;") ∈ ml_T := ml_in (ml_t2 (List.mem_of_getElem? (i := 122) rfl)) rfl
theorem tw_1_143 : (Jvm.Cond.fieldLink "MirrorLane" (115 : Nat) "MirrorLane$Weave" "signs" "J") ∈ ml_T := ml_in (ml_t1 (List.mem_of_getElem? (i := 143) rfl)) rfl
theorem tw_1_130 : (Jvm.Cond.fieldLink "MirrorLane" (127 : Nat) "MirrorLane$Weave" "pai\x72" "[I") ∈ ml_T := ml_in (ml_t1 (List.mem_of_getElem? (i := 130) rfl)) rfl
theorem tw_1_132 : (Jvm.Cond.fieldLink "MirrorLane" (131 : Nat) "MirrorLane$Weave" "run" "[J") ∈ ml_T := ml_in (ml_t1 (List.mem_of_getElem? (i := 132) rfl)) rfl
theorem tw_1_137 : (Jvm.Cond.fieldLink "MirrorLane" (135 : Nat) "MirrorLane$Weave" "loops" "J") ∈ ml_T := ml_in (ml_t1 (List.mem_of_getElem? (i := 137) rfl)) rfl
theorem tw_1_139 : (Jvm.Cond.fieldLink "MirrorLane" (138 : Nat) "MirrorLane$Weave" "longest" "J") ∈ ml_T := ml_in (ml_t1 (List.mem_of_getElem? (i := 139) rfl)) rfl
theorem tw_1_141 : (Jvm.Cond.fieldLink "MirrorLane" (141 : Nat) "MirrorLane$Weave" "total" "J") ∈ ml_T := ml_in (ml_t1 (List.mem_of_getElem? (i := 141) rfl)) rfl
theorem tw_1_201 : (Jvm.Cond.fieldLink "MirrorLane" (152 : Nat) "MirrorLane$Powers" "index" "I") ∈ ml_T := ml_in (ml_t1 (List.mem_of_getElem? (i := 201) rfl)) rfl
theorem tw_1_203 : (Jvm.Cond.fieldLink "MirrorLane" (155 : Nat) "MirrorLane$Powers" "period" "I") ∈ ml_T := ml_in (ml_t1 (List.mem_of_getElem? (i := 203) rfl)) rfl
theorem tw_1_206 : (Jvm.Cond.fieldLink "MirrorLane" (161 : Nat) "MirrorLane$Powers" "step" "I") ∈ ml_T := ml_in (ml_t1 (List.mem_of_getElem? (i := 206) rfl)) rfl
theorem tw_1_208 : (Jvm.Cond.fieldLink "MirrorLane" (164 : Nat) "MirrorLane$Powers" "more" "J") ∈ ml_T := ml_in (ml_t1 (List.mem_of_getElem? (i := 208) rfl)) rfl
theorem tw_1_210 : (Jvm.Cond.fieldLink "MirrorLane" (167 : Nat) "MirrorLane$Powers" "since" "I") ∈ ml_T := ml_in (ml_t1 (List.mem_of_getElem? (i := 210) rfl)) rfl
theorem tw_1_145 : (Jvm.Cond.fieldLink "MirrorLane" (205 : Nat) "MirrorLane$Weave" "crosses" "Z") ∈ ml_T := ml_in (ml_t1 (List.mem_of_getElem? (i := 145) rfl)) rfl
theorem tw_1_147 : (Jvm.Cond.fieldLink "MirrorLane" (209 : Nat) "MirrorLane$Weave" "turns" "Z") ∈ ml_T := ml_in (ml_t1 (List.mem_of_getElem? (i := 147) rfl)) rfl
theorem tw_2_115 : (Jvm.Cond.fieldLink "MirrorLane" (212 : Nat) "MirrorLane$Word" "plain" "Z") ∈ ml_T := ml_in (ml_t2 (List.mem_of_getElem? (i := 115) rfl)) rfl
theorem tw_2_5 : (Jvm.Cond.fieldLink "MirrorLane" (228 : Nat) "MirrorLane$Sentences" "places" "I") ∈ ml_T := ml_in (ml_t2 (List.mem_of_getElem? (i := 5) rfl)) rfl
theorem tw_2_118 : (Jvm.Cond.fieldLink "MirrorLane" (239 : Nat) "MirrorLane$Word" "price" "I") ∈ ml_T := ml_in (ml_t2 (List.mem_of_getElem? (i := 118) rfl)) rfl
theorem tw_2_9 : (Jvm.Cond.fieldLink "MirrorLane" (242 : Nat) "MirrorLane$Sentences" "place" "[I") ∈ ml_T := ml_in (ml_t2 (List.mem_of_getElem? (i := 9) rfl)) rfl
theorem tw_2_64 : (Jvm.Cond.fieldLink "MirrorLane" (252 : Nat) "MirrorLane$Finde\x72" "price" "I") ∈ ml_T := ml_in (ml_t2 (List.mem_of_getElem? (i := 64) rfl)) rfl
theorem tw_2_113 : (Jvm.Cond.fieldLink "MirrorLane" (253 : Nat) "MirrorLane$Word" "size" "I") ∈ ml_T := ml_in (ml_t2 (List.mem_of_getElem? (i := 113) rfl)) rfl
theorem tw_2_129 : (Jvm.Cond.fieldLink "MirrorLane" (264 : Nat) "MirrorLane$Word" "written" "Z") ∈ ml_T := ml_in (ml_t2 (List.mem_of_getElem? (i := 129) rfl)) rfl
theorem tw_1_34 : (Jvm.Cond.fieldLink "MirrorLane" (275 : Nat) "MirrorLane$Tape" "bytes" "[I") ∈ ml_T := ml_in (ml_t1 (List.mem_of_getElem? (i := 34) rfl)) rfl
theorem tw_1_51 : (Jvm.Cond.fieldLink "MirrorLane" (278 : Nat) "MirrorLane$Closing" "byCaps" "Z") ∈ ml_T := ml_in (ml_t1 (List.mem_of_getElem? (i := 51) rfl)) rfl
theorem tw_2_109 : (Jvm.Cond.fieldLink "MirrorLane" (304 : Nat) "MirrorLane$Word" "text" "[B") ∈ ml_T := ml_in (ml_t2 (List.mem_of_getElem? (i := 109) rfl)) rfl
theorem tw_4_194 : (Jvm.Cond.fieldLink "MirrorLaneModel" (140 : Nat) "MirrorLaneModel" "words" "I") ∈ ml_T := ml_in (ml_t4 (List.mem_of_getElem? (i := 194) rfl)) rfl
theorem tw_4_195 : (Jvm.Cond.fieldLink "MirrorLaneModel" (151 : Nat) "MirrorLaneModel" "isCapped" "Z") ∈ ml_T := ml_in (ml_t4 (List.mem_of_getElem? (i := 195) rfl)) rfl
theorem tw_4_192 : (Jvm.Cond.fieldLink "MirrorLaneModel" (155 : Nat) "MirrorLaneModel" "taped" "I") ∈ ml_T := ml_in (ml_t4 (List.mem_of_getElem? (i := 192) rfl)) rfl
theorem tw_4_200 : (Jvm.Cond.fieldLink "MirrorLaneModel" (162 : Nat) "MirrorLaneModel" "place" "I") ∈ ml_T := ml_in (ml_t4 (List.mem_of_getElem? (i := 200) rfl)) rfl
theorem tw_4_201 : (Jvm.Cond.fieldLink "MirrorLaneModel" (165 : Nat) "MirrorLaneModel" "end" "I") ∈ ml_T := ml_in (ml_t4 (List.mem_of_getElem? (i := 201) rfl)) rfl
theorem tw_4_202 : (Jvm.Cond.fieldLink "MirrorLaneModel" (168 : Nat) "MirrorLaneModel" "bad" "I") ∈ ml_T := ml_in (ml_t4 (List.mem_of_getElem? (i := 202) rfl)) rfl
theorem tw_4_203 : (Jvm.Cond.fieldLink "MirrorLaneModel" (175 : Nat) "MirrorLaneModel" "open" "I") ∈ ml_T := ml_in (ml_t4 (List.mem_of_getElem? (i := 203) rfl)) rfl
theorem tw_4_210 : (Jvm.Cond.fieldLink "MirrorLaneModel" (198 : Nat) "MirrorLaneModel" "readAt" "I") ∈ ml_T := ml_in (ml_t4 (List.mem_of_getElem? (i := 210) rfl)) rfl
theorem tw_4_211 : (Jvm.Cond.fieldLink "MirrorLaneModel" (201 : Nat) "MirrorLaneModel" "readWord" "I") ∈ ml_T := ml_in (ml_t4 (List.mem_of_getElem? (i := 211) rfl)) rfl
theorem tw_4_218 : (Jvm.Cond.fieldLink "MirrorLaneModel" (230 : Nat) "MirrorLaneModel" "went" "J") ∈ ml_T := ml_in (ml_t4 (List.mem_of_getElem? (i := 218) rfl)) rfl
theorem tw_4_223 : (Jvm.Cond.fieldLink "MirrorLaneModel" (307 : Nat) "MirrorLaneModel" "index" "I") ∈ ml_T := ml_in (ml_t4 (List.mem_of_getElem? (i := 223) rfl)) rfl
theorem tw_4_224 : (Jvm.Cond.fieldLink "MirrorLaneModel" (313 : Nat) "MirrorLaneModel" "period" "I") ∈ ml_T := ml_in (ml_t4 (List.mem_of_getElem? (i := 224) rfl)) rfl
theorem tw_4_225 : (Jvm.Cond.fieldLink "MirrorLaneModel" (316 : Nat) "MirrorLaneModel" "known" "I") ∈ ml_T := ml_in (ml_t4 (List.mem_of_getElem? (i := 225) rfl)) rfl
theorem tw_4_226 : (Jvm.Cond.fieldLink "MirrorLaneModel" (319 : Nat) "MirrorLaneModel" "gains" "J") ∈ ml_T := ml_in (ml_t4 (List.mem_of_getElem? (i := 226) rfl)) rfl
theorem tw_4_227 : (Jvm.Cond.fieldLink "MirrorLaneModel" (334 : Nat) "MirrorLaneModel" "firstOf" "J") ∈ ml_T := ml_in (ml_t4 (List.mem_of_getElem? (i := 227) rfl)) rfl
theorem tw_4_228 : (Jvm.Cond.fieldLink "MirrorLaneModel" (337 : Nat) "MirrorLaneModel" "foundFirst" "J") ∈ ml_T := ml_in (ml_t4 (List.mem_of_getElem? (i := 228) rfl)) rfl
theorem tw_4_229 : (Jvm.Cond.fieldLink "MirrorLaneModel" (364 : Nat) "MirrorLaneModel" "letters" "I") ∈ ml_T := ml_in (ml_t4 (List.mem_of_getElem? (i := 229) rfl)) rfl
theorem tw_4_230 : (Jvm.Cond.fieldLink "MirrorLaneModel" (367 : Nat) "MirrorLaneModel" "states" "I") ∈ ml_T := ml_in (ml_t4 (List.mem_of_getElem? (i := 230) rfl)) rfl
theorem tw_5_4 : (Jvm.Cond.fieldLink "MirrorLaneModel" (389 : Nat) "MirrorLaneModel" "queued" "I") ∈ ml_T := ml_in (ml_t5 (List.mem_of_getElem? (i := 4) rfl)) rfl
theorem tw_5_12 : (Jvm.Cond.fieldLink "MirrorLaneModel" (418 : Nat) "MirrorLaneModel" "wrote" "I") ∈ ml_T := ml_in (ml_t5 (List.mem_of_getElem? (i := 12) rfl)) rfl
theorem tw_1_102 : (Jvm.Cond.fieldLink "MirrorLane$Loom" (54 : Nat) "MirrorLane$Items" "kind" "I") ∈ ml_T := ml_in (ml_t1 (List.mem_of_getElem? (i := 102) rfl)) rfl
theorem tw_1_104 : (Jvm.Cond.fieldLink "MirrorLane$Loom" (71 : Nat) "MirrorLane$Items" "value" "I") ∈ ml_T := ml_in (ml_t1 (List.mem_of_getElem? (i := 104) rfl)) rfl
theorem tw_2_120 : (Jvm.Cond.fieldLink "MirrorLane$Loom" (78 : Nat) "MirrorLane$Word" "made" "LMirrorLane$Weave;") ∈ ml_T := ml_in (ml_t2 (List.mem_of_getElem? (i := 120) rfl)) rfl
theorem tw_1_106 : (Jvm.Cond.fieldLink "MirrorLane$Loom" (83 : Nat) "MirrorLane$Items" "times" "I") ∈ ml_T := ml_in (ml_t1 (List.mem_of_getElem? (i := 106) rfl)) rfl
theorem tw_2_126 : (Jvm.Cond.fieldLink "MirrorLane$Loom" (97 : Nat) "MirrorLane$Word" "rowSize" "I") ∈ ml_T := ml_in (ml_t2 (List.mem_of_getElem? (i := 126) rfl)) rfl
theorem tw_2_108 : (Jvm.Cond.fieldLink "MirrorLane$Loom" (100 : Nat) "MirrorLane$Word" "text" "[B") ∈ ml_T := ml_in (ml_t2 (List.mem_of_getElem? (i := 108) rfl)) rfl
theorem tw_2_112 : (Jvm.Cond.fieldLink "MirrorLane$Loom" (104 : Nat) "MirrorLane$Word" "size" "I") ∈ ml_T := ml_in (ml_t2 (List.mem_of_getElem? (i := 112) rfl)) rfl
theorem tw_2_124 : (Jvm.Cond.fieldLink "MirrorLane$Loom" (111 : Nat) "MirrorLane$Word" "row" "[B") ∈ ml_T := ml_in (ml_t2 (List.mem_of_getElem? (i := 124) rfl)) rfl
theorem tw_2_111 : (Jvm.Cond.fieldLink "MirrorLane$Mende\x72" (22 : Nat) "MirrorLane$Word" "size" "I") ∈ ml_T := ml_in (ml_t2 (List.mem_of_getElem? (i := 111) rfl)) rfl
theorem tw_2_107 : (Jvm.Cond.fieldLink "MirrorLane$Mende\x72" (44 : Nat) "MirrorLane$Word" "text" "[B") ∈ ml_T := ml_in (ml_t2 (List.mem_of_getElem? (i := 107) rfl)) rfl
theorem tw_1_135 : (Jvm.Cond.fieldLink "MirrorLane$Mende\x72" (60 : Nat) "MirrorLane$Weave" "loops" "J") ∈ ml_T := ml_in (ml_t1 (List.mem_of_getElem? (i := 135) rfl)) rfl
theorem tw_1_134 : (Jvm.Cond.fieldLink "MirrorLane$Powers" (61 : Nat) "MirrorLane$Weave" "loops" "J") ∈ ml_T := ml_in (ml_t1 (List.mem_of_getElem? (i := 134) rfl)) rfl
theorem tw_1_128 : (Jvm.Cond.fieldLink "MirrorLane$Sentences" (81 : Nat) "MirrorLane$Weave" "pai\x72" "[I") ∈ ml_T := ml_in (ml_t1 (List.mem_of_getElem? (i := 128) rfl)) rfl
theorem tw_2_121 : (Jvm.Cond.fieldLink "MirrorLane$Sentences" (90 : Nat) "MirrorLane$Word" "made" "LMirrorLane$Weave;") ∈ ml_T := ml_in (ml_t2 (List.mem_of_getElem? (i := 121) rfl)) rfl
theorem tw_1_136 : (Jvm.Cond.fieldLink "MirrorLane$Sentences" (103 : Nat) "MirrorLane$Weave" "loops" "J") ∈ ml_T := ml_in (ml_t1 (List.mem_of_getElem? (i := 136) rfl)) rfl
theorem tw_2_128 : (Jvm.Cond.fieldLink "MirrorLane$Loom" (122 : Nat) "MirrorLane$Word" "written" "Z") ∈ ml_T := ml_in (ml_t2 (List.mem_of_getElem? (i := 128) rfl)) rfl
theorem tw_2_191 : (Jvm.Cond.methodLink "MirrorLaneLaw" (13 : Nat) ({ cls := "MirrorLane", name := "rails", desc := "(I)Z" } : Jvm.MethodName)) ∈ ml_T := ml_in (ml_t2 (List.mem_of_getElem? (i := 191) rfl)) rfl
theorem tw_2_192 : (Jvm.Cond.instanceMethod ({ cls := "MirrorLane", name := "rails", desc := "(I)Z" } : Jvm.MethodName)) ∈ ml_T := ml_in (ml_t2 (List.mem_of_getElem? (i := 192) rfl)) rfl
theorem tw_2_193 : (Jvm.Cond.selects "MirrorLane" ({ cls := "MirrorLane", name := "rails", desc := "(I)Z" } : Jvm.MethodName) ({ cls := "MirrorLane", name := "rails", desc := "(I)Z" } : Jvm.MethodName)) ∈ ml_T := ml_in (ml_t2 (List.mem_of_getElem? (i := 193) rfl)) rfl
theorem tw_2_194 : (Jvm.Cond.code ({ cls := "MirrorLane", name := "rails", desc := "(I)Z" } : Jvm.MethodName) prog_1_method_2_code (2 : Nat) (Option.some Jvm.ClassFile.FieldType.boolean)) ∈ ml_T := ml_in (ml_t2 (List.mem_of_getElem? (i := 194) rfl)) rfl
theorem tw_5_139 : (Jvm.Cond.methodLink "MirrorLaneLaw" (17 : Nat) ({ cls := "MirrorLaneModel", name := "rails", desc := "(I)Z" } : Jvm.MethodName)) ∈ ml_T := ml_in (ml_t5 (List.mem_of_getElem? (i := 139) rfl)) rfl
theorem tw_5_140 : (Jvm.Cond.instanceMethod ({ cls := "MirrorLaneModel", name := "rails", desc := "(I)Z" } : Jvm.MethodName)) ∈ ml_T := ml_in (ml_t5 (List.mem_of_getElem? (i := 140) rfl)) rfl
theorem tw_5_141 : (Jvm.Cond.selects "MirrorLaneModel" ({ cls := "MirrorLaneModel", name := "rails", desc := "(I)Z" } : Jvm.MethodName) ({ cls := "MirrorLaneModel", name := "rails", desc := "(I)Z" } : Jvm.MethodName)) ∈ ml_T := ml_in (ml_t5 (List.mem_of_getElem? (i := 141) rfl)) rfl
theorem tw_5_142 : (Jvm.Cond.code ({ cls := "MirrorLaneModel", name := "rails", desc := "(I)Z" } : Jvm.MethodName) prog_14_method_5_code (2 : Nat) (Option.some Jvm.ClassFile.FieldType.boolean)) ∈ ml_T := ml_in (ml_t5 (List.mem_of_getElem? (i := 142) rfl)) rfl
theorem tw_2_195 : (Jvm.Cond.methodLink "MirrorLaneLaw" (18 : Nat) ({ cls := "MirrorLane", name := "feed", desc := "(IIIII)I" } : Jvm.MethodName)) ∈ ml_T := ml_in (ml_t2 (List.mem_of_getElem? (i := 195) rfl)) rfl
theorem tw_2_196 : (Jvm.Cond.instanceMethod ({ cls := "MirrorLane", name := "feed", desc := "(IIIII)I" } : Jvm.MethodName)) ∈ ml_T := ml_in (ml_t2 (List.mem_of_getElem? (i := 196) rfl)) rfl
theorem tw_2_197 : (Jvm.Cond.selects "MirrorLane" ({ cls := "MirrorLane", name := "feed", desc := "(IIIII)I" } : Jvm.MethodName) ({ cls := "MirrorLane", name := "feed", desc := "(IIIII)I" } : Jvm.MethodName)) ∈ ml_T := ml_in (ml_t2 (List.mem_of_getElem? (i := 197) rfl)) rfl
theorem tw_2_198 : (Jvm.Cond.code ({ cls := "MirrorLane", name := "feed", desc := "(IIIII)I" } : Jvm.MethodName) prog_1_method_3_code (6 : Nat) (Option.some Jvm.ClassFile.FieldType.int)) ∈ ml_T := ml_in (ml_t2 (List.mem_of_getElem? (i := 198) rfl)) rfl
theorem tw_5_148 : (Jvm.Cond.methodLink "MirrorLaneLaw" (22 : Nat) ({ cls := "MirrorLaneModel", name := "feed", desc := "(IIIII)I" } : Jvm.MethodName)) ∈ ml_T := ml_in (ml_t5 (List.mem_of_getElem? (i := 148) rfl)) rfl
theorem tw_5_149 : (Jvm.Cond.instanceMethod ({ cls := "MirrorLaneModel", name := "feed", desc := "(IIIII)I" } : Jvm.MethodName)) ∈ ml_T := ml_in (ml_t5 (List.mem_of_getElem? (i := 149) rfl)) rfl
theorem tw_5_150 : (Jvm.Cond.selects "MirrorLaneModel" ({ cls := "MirrorLaneModel", name := "feed", desc := "(IIIII)I" } : Jvm.MethodName) ({ cls := "MirrorLaneModel", name := "feed", desc := "(IIIII)I" } : Jvm.MethodName)) ∈ ml_T := ml_in (ml_t5 (List.mem_of_getElem? (i := 150) rfl)) rfl
theorem tw_5_151 : (Jvm.Cond.code ({ cls := "MirrorLaneModel", name := "feed", desc := "(IIIII)I" } : Jvm.MethodName) prog_14_method_7_code (6 : Nat) (Option.some Jvm.ClassFile.FieldType.int)) ∈ ml_T := ml_in (ml_t5 (List.mem_of_getElem? (i := 151) rfl)) rfl
theorem tw_2_203 : (Jvm.Cond.methodLink "MirrorLaneLaw" (23 : Nat) ({ cls := "MirrorLane", name := "word", desc := "(I)I" } : Jvm.MethodName)) ∈ ml_T := ml_in (ml_t2 (List.mem_of_getElem? (i := 203) rfl)) rfl
theorem tw_2_204 : (Jvm.Cond.instanceMethod ({ cls := "MirrorLane", name := "word", desc := "(I)I" } : Jvm.MethodName)) ∈ ml_T := ml_in (ml_t2 (List.mem_of_getElem? (i := 204) rfl)) rfl
theorem tw_2_205 : (Jvm.Cond.selects "MirrorLane" ({ cls := "MirrorLane", name := "word", desc := "(I)I" } : Jvm.MethodName) ({ cls := "MirrorLane", name := "word", desc := "(I)I" } : Jvm.MethodName)) ∈ ml_T := ml_in (ml_t2 (List.mem_of_getElem? (i := 205) rfl)) rfl
theorem tw_2_206 : (Jvm.Cond.code ({ cls := "MirrorLane", name := "word", desc := "(I)I" } : Jvm.MethodName) prog_1_method_4_code (2 : Nat) (Option.some Jvm.ClassFile.FieldType.int)) ∈ ml_T := ml_in (ml_t2 (List.mem_of_getElem? (i := 206) rfl)) rfl
theorem tw_5_156 : (Jvm.Cond.methodLink "MirrorLaneLaw" (27 : Nat) ({ cls := "MirrorLaneModel", name := "word", desc := "(I)I" } : Jvm.MethodName)) ∈ ml_T := ml_in (ml_t5 (List.mem_of_getElem? (i := 156) rfl)) rfl
theorem tw_5_157 : (Jvm.Cond.instanceMethod ({ cls := "MirrorLaneModel", name := "word", desc := "(I)I" } : Jvm.MethodName)) ∈ ml_T := ml_in (ml_t5 (List.mem_of_getElem? (i := 157) rfl)) rfl
theorem tw_5_158 : (Jvm.Cond.selects "MirrorLaneModel" ({ cls := "MirrorLaneModel", name := "word", desc := "(I)I" } : Jvm.MethodName) ({ cls := "MirrorLaneModel", name := "word", desc := "(I)I" } : Jvm.MethodName)) ∈ ml_T := ml_in (ml_t5 (List.mem_of_getElem? (i := 158) rfl)) rfl
theorem tw_5_159 : (Jvm.Cond.code ({ cls := "MirrorLaneModel", name := "word", desc := "(I)I" } : Jvm.MethodName) prog_14_method_36_code (3 : Nat) (Option.some Jvm.ClassFile.FieldType.int)) ∈ ml_T := ml_in (ml_t5 (List.mem_of_getElem? (i := 159) rfl)) rfl
theorem tw_3_100 : (Jvm.Cond.methodLink "MirrorLaneLaw" (28 : Nat) ({ cls := "MirrorLane", name := "change", desc := "(II)I" } : Jvm.MethodName)) ∈ ml_T := ml_in (ml_t3 (List.mem_of_getElem? (i := 100) rfl)) rfl
theorem tw_3_101 : (Jvm.Cond.instanceMethod ({ cls := "MirrorLane", name := "change", desc := "(II)I" } : Jvm.MethodName)) ∈ ml_T := ml_in (ml_t3 (List.mem_of_getElem? (i := 101) rfl)) rfl
theorem tw_3_102 : (Jvm.Cond.selects "MirrorLane" ({ cls := "MirrorLane", name := "change", desc := "(II)I" } : Jvm.MethodName) ({ cls := "MirrorLane", name := "change", desc := "(II)I" } : Jvm.MethodName)) ∈ ml_T := ml_in (ml_t3 (List.mem_of_getElem? (i := 102) rfl)) rfl
theorem tw_3_103 : (Jvm.Cond.code ({ cls := "MirrorLane", name := "change", desc := "(II)I" } : Jvm.MethodName) prog_1_method_5_code (3 : Nat) (Option.some Jvm.ClassFile.FieldType.int)) ∈ ml_T := ml_in (ml_t3 (List.mem_of_getElem? (i := 103) rfl)) rfl
theorem tw_6_32 : (Jvm.Cond.methodLink "MirrorLaneLaw" (32 : Nat) ({ cls := "MirrorLaneModel", name := "change", desc := "(II)I" } : Jvm.MethodName)) ∈ ml_T := ml_in (ml_t6 (List.mem_of_getElem? (i := 32) rfl)) rfl
theorem tw_6_33 : (Jvm.Cond.instanceMethod ({ cls := "MirrorLaneModel", name := "change", desc := "(II)I" } : Jvm.MethodName)) ∈ ml_T := ml_in (ml_t6 (List.mem_of_getElem? (i := 33) rfl)) rfl
theorem tw_6_34 : (Jvm.Cond.selects "MirrorLaneModel" ({ cls := "MirrorLaneModel", name := "change", desc := "(II)I" } : Jvm.MethodName) ({ cls := "MirrorLaneModel", name := "change", desc := "(II)I" } : Jvm.MethodName)) ∈ ml_T := ml_in (ml_t6 (List.mem_of_getElem? (i := 34) rfl)) rfl
theorem tw_6_35 : (Jvm.Cond.code ({ cls := "MirrorLaneModel", name := "change", desc := "(II)I" } : Jvm.MethodName) prog_14_method_37_code (4 : Nat) (Option.some Jvm.ClassFile.FieldType.int)) ∈ ml_T := ml_in (ml_t6 (List.mem_of_getElem? (i := 35) rfl)) rfl
theorem tw_3_108 : (Jvm.Cond.methodLink "MirrorLaneLaw" (33 : Nat) ({ cls := "MirrorLane", name := "round", desc := "()Z" } : Jvm.MethodName)) ∈ ml_T := ml_in (ml_t3 (List.mem_of_getElem? (i := 108) rfl)) rfl
theorem tw_3_109 : (Jvm.Cond.instanceMethod ({ cls := "MirrorLane", name := "round", desc := "()Z" } : Jvm.MethodName)) ∈ ml_T := ml_in (ml_t3 (List.mem_of_getElem? (i := 109) rfl)) rfl
theorem tw_3_110 : (Jvm.Cond.selects "MirrorLane" ({ cls := "MirrorLane", name := "round", desc := "()Z" } : Jvm.MethodName) ({ cls := "MirrorLane", name := "round", desc := "()Z" } : Jvm.MethodName)) ∈ ml_T := ml_in (ml_t3 (List.mem_of_getElem? (i := 110) rfl)) rfl
theorem tw_3_111 : (Jvm.Cond.code ({ cls := "MirrorLane", name := "round", desc := "()Z" } : Jvm.MethodName) prog_1_method_6_code (1 : Nat) (Option.some Jvm.ClassFile.FieldType.boolean)) ∈ ml_T := ml_in (ml_t3 (List.mem_of_getElem? (i := 111) rfl)) rfl
theorem tw_6_40 : (Jvm.Cond.methodLink "MirrorLaneLaw" (37 : Nat) ({ cls := "MirrorLaneModel", name := "round", desc := "()Z" } : Jvm.MethodName)) ∈ ml_T := ml_in (ml_t6 (List.mem_of_getElem? (i := 40) rfl)) rfl
theorem tw_6_41 : (Jvm.Cond.instanceMethod ({ cls := "MirrorLaneModel", name := "round", desc := "()Z" } : Jvm.MethodName)) ∈ ml_T := ml_in (ml_t6 (List.mem_of_getElem? (i := 41) rfl)) rfl
theorem tw_6_42 : (Jvm.Cond.selects "MirrorLaneModel" ({ cls := "MirrorLaneModel", name := "round", desc := "()Z" } : Jvm.MethodName) ({ cls := "MirrorLaneModel", name := "round", desc := "()Z" } : Jvm.MethodName)) ∈ ml_T := ml_in (ml_t6 (List.mem_of_getElem? (i := 42) rfl)) rfl
theorem tw_6_43 : (Jvm.Cond.code ({ cls := "MirrorLaneModel", name := "round", desc := "()Z" } : Jvm.MethodName) prog_14_method_38_code (1 : Nat) (Option.some Jvm.ClassFile.FieldType.boolean)) ∈ ml_T := ml_in (ml_t6 (List.mem_of_getElem? (i := 43) rfl)) rfl
theorem tw_3_112 : (Jvm.Cond.methodLink "MirrorLaneLaw" (38 : Nat) ({ cls := "MirrorLane", name := "caps", desc := "()Z" } : Jvm.MethodName)) ∈ ml_T := ml_in (ml_t3 (List.mem_of_getElem? (i := 112) rfl)) rfl
theorem tw_3_113 : (Jvm.Cond.instanceMethod ({ cls := "MirrorLane", name := "caps", desc := "()Z" } : Jvm.MethodName)) ∈ ml_T := ml_in (ml_t3 (List.mem_of_getElem? (i := 113) rfl)) rfl
theorem tw_3_114 : (Jvm.Cond.selects "MirrorLane" ({ cls := "MirrorLane", name := "caps", desc := "()Z" } : Jvm.MethodName) ({ cls := "MirrorLane", name := "caps", desc := "()Z" } : Jvm.MethodName)) ∈ ml_T := ml_in (ml_t3 (List.mem_of_getElem? (i := 114) rfl)) rfl
theorem tw_3_115 : (Jvm.Cond.code ({ cls := "MirrorLane", name := "caps", desc := "()Z" } : Jvm.MethodName) prog_1_method_7_code (2 : Nat) (Option.some Jvm.ClassFile.FieldType.boolean)) ∈ ml_T := ml_in (ml_t3 (List.mem_of_getElem? (i := 115) rfl)) rfl
theorem tw_6_44 : (Jvm.Cond.methodLink "MirrorLaneLaw" (41 : Nat) ({ cls := "MirrorLaneModel", name := "caps", desc := "()Z" } : Jvm.MethodName)) ∈ ml_T := ml_in (ml_t6 (List.mem_of_getElem? (i := 44) rfl)) rfl
theorem tw_6_45 : (Jvm.Cond.instanceMethod ({ cls := "MirrorLaneModel", name := "caps", desc := "()Z" } : Jvm.MethodName)) ∈ ml_T := ml_in (ml_t6 (List.mem_of_getElem? (i := 45) rfl)) rfl
theorem tw_6_46 : (Jvm.Cond.selects "MirrorLaneModel" ({ cls := "MirrorLaneModel", name := "caps", desc := "()Z" } : Jvm.MethodName) ({ cls := "MirrorLaneModel", name := "caps", desc := "()Z" } : Jvm.MethodName)) ∈ ml_T := ml_in (ml_t6 (List.mem_of_getElem? (i := 46) rfl)) rfl
theorem tw_6_47 : (Jvm.Cond.code ({ cls := "MirrorLaneModel", name := "caps", desc := "()Z" } : Jvm.MethodName) prog_14_method_39_code (3 : Nat) (Option.some Jvm.ClassFile.FieldType.boolean)) ∈ ml_T := ml_in (ml_t6 (List.mem_of_getElem? (i := 47) rfl)) rfl
theorem tw_3_121 : (Jvm.Cond.methodLink "MirrorLaneLaw" (42 : Nat) ({ cls := "MirrorLane", name := "signs", desc := "(I)J" } : Jvm.MethodName)) ∈ ml_T := ml_in (ml_t3 (List.mem_of_getElem? (i := 121) rfl)) rfl
theorem tw_3_122 : (Jvm.Cond.instanceMethod ({ cls := "MirrorLane", name := "signs", desc := "(I)J" } : Jvm.MethodName)) ∈ ml_T := ml_in (ml_t3 (List.mem_of_getElem? (i := 122) rfl)) rfl
theorem tw_3_123 : (Jvm.Cond.selects "MirrorLane" ({ cls := "MirrorLane", name := "signs", desc := "(I)J" } : Jvm.MethodName) ({ cls := "MirrorLane", name := "signs", desc := "(I)J" } : Jvm.MethodName)) ∈ ml_T := ml_in (ml_t3 (List.mem_of_getElem? (i := 123) rfl)) rfl
theorem tw_3_124 : (Jvm.Cond.code ({ cls := "MirrorLane", name := "signs", desc := "(I)J" } : Jvm.MethodName) prog_1_method_8_code (2 : Nat) (Option.some Jvm.ClassFile.FieldType.long)) ∈ ml_T := ml_in (ml_t3 (List.mem_of_getElem? (i := 124) rfl)) rfl
theorem tw_6_48 : (Jvm.Cond.methodLink "MirrorLaneLaw" (46 : Nat) ({ cls := "MirrorLaneModel", name := "signs", desc := "(I)J" } : Jvm.MethodName)) ∈ ml_T := ml_in (ml_t6 (List.mem_of_getElem? (i := 48) rfl)) rfl
theorem tw_6_49 : (Jvm.Cond.instanceMethod ({ cls := "MirrorLaneModel", name := "signs", desc := "(I)J" } : Jvm.MethodName)) ∈ ml_T := ml_in (ml_t6 (List.mem_of_getElem? (i := 49) rfl)) rfl
theorem tw_6_50 : (Jvm.Cond.selects "MirrorLaneModel" ({ cls := "MirrorLaneModel", name := "signs", desc := "(I)J" } : Jvm.MethodName) ({ cls := "MirrorLaneModel", name := "signs", desc := "(I)J" } : Jvm.MethodName)) ∈ ml_T := ml_in (ml_t6 (List.mem_of_getElem? (i := 50) rfl)) rfl
theorem tw_6_51 : (Jvm.Cond.code ({ cls := "MirrorLaneModel", name := "signs", desc := "(I)J" } : Jvm.MethodName) prog_14_method_40_code (2 : Nat) (Option.some Jvm.ClassFile.FieldType.long)) ∈ ml_T := ml_in (ml_t6 (List.mem_of_getElem? (i := 51) rfl)) rfl
theorem tw_3_126 : (Jvm.Cond.methodLink "MirrorLaneLaw" (47 : Nat) ({ cls := "MirrorLane", name := "joined", desc := "(II)I" } : Jvm.MethodName)) ∈ ml_T := ml_in (ml_t3 (List.mem_of_getElem? (i := 126) rfl)) rfl
theorem tw_3_127 : (Jvm.Cond.instanceMethod ({ cls := "MirrorLane", name := "joined", desc := "(II)I" } : Jvm.MethodName)) ∈ ml_T := ml_in (ml_t3 (List.mem_of_getElem? (i := 127) rfl)) rfl
theorem tw_3_128 : (Jvm.Cond.selects "MirrorLane" ({ cls := "MirrorLane", name := "joined", desc := "(II)I" } : Jvm.MethodName) ({ cls := "MirrorLane", name := "joined", desc := "(II)I" } : Jvm.MethodName)) ∈ ml_T := ml_in (ml_t3 (List.mem_of_getElem? (i := 128) rfl)) rfl
theorem tw_3_129 : (Jvm.Cond.code ({ cls := "MirrorLane", name := "joined", desc := "(II)I" } : Jvm.MethodName) prog_1_method_9_code (3 : Nat) (Option.some Jvm.ClassFile.FieldType.int)) ∈ ml_T := ml_in (ml_t3 (List.mem_of_getElem? (i := 129) rfl)) rfl
theorem tw_6_53 : (Jvm.Cond.methodLink "MirrorLaneLaw" (50 : Nat) ({ cls := "MirrorLaneModel", name := "joined", desc := "(II)I" } : Jvm.MethodName)) ∈ ml_T := ml_in (ml_t6 (List.mem_of_getElem? (i := 53) rfl)) rfl
theorem tw_6_54 : (Jvm.Cond.instanceMethod ({ cls := "MirrorLaneModel", name := "joined", desc := "(II)I" } : Jvm.MethodName)) ∈ ml_T := ml_in (ml_t6 (List.mem_of_getElem? (i := 54) rfl)) rfl
theorem tw_6_55 : (Jvm.Cond.selects "MirrorLaneModel" ({ cls := "MirrorLaneModel", name := "joined", desc := "(II)I" } : Jvm.MethodName) ({ cls := "MirrorLaneModel", name := "joined", desc := "(II)I" } : Jvm.MethodName)) ∈ ml_T := ml_in (ml_t6 (List.mem_of_getElem? (i := 55) rfl)) rfl
theorem tw_6_56 : (Jvm.Cond.code ({ cls := "MirrorLaneModel", name := "joined", desc := "(II)I" } : Jvm.MethodName) prog_14_method_43_code (3 : Nat) (Option.some Jvm.ClassFile.FieldType.int)) ∈ ml_T := ml_in (ml_t6 (List.mem_of_getElem? (i := 56) rfl)) rfl
theorem tw_3_138 : (Jvm.Cond.methodLink "MirrorLaneLaw" (51 : Nat) ({ cls := "MirrorLane", name := "length", desc := "(II)J" } : Jvm.MethodName)) ∈ ml_T := ml_in (ml_t3 (List.mem_of_getElem? (i := 138) rfl)) rfl
theorem tw_3_139 : (Jvm.Cond.instanceMethod ({ cls := "MirrorLane", name := "length", desc := "(II)J" } : Jvm.MethodName)) ∈ ml_T := ml_in (ml_t3 (List.mem_of_getElem? (i := 139) rfl)) rfl
theorem tw_3_140 : (Jvm.Cond.selects "MirrorLane" ({ cls := "MirrorLane", name := "length", desc := "(II)J" } : Jvm.MethodName) ({ cls := "MirrorLane", name := "length", desc := "(II)J" } : Jvm.MethodName)) ∈ ml_T := ml_in (ml_t3 (List.mem_of_getElem? (i := 140) rfl)) rfl
theorem tw_3_141 : (Jvm.Cond.code ({ cls := "MirrorLane", name := "length", desc := "(II)J" } : Jvm.MethodName) prog_1_method_10_code (3 : Nat) (Option.some Jvm.ClassFile.FieldType.long)) ∈ ml_T := ml_in (ml_t3 (List.mem_of_getElem? (i := 141) rfl)) rfl
theorem tw_6_65 : (Jvm.Cond.methodLink "MirrorLaneLaw" (55 : Nat) ({ cls := "MirrorLaneModel", name := "length", desc := "(II)J" } : Jvm.MethodName)) ∈ ml_T := ml_in (ml_t6 (List.mem_of_getElem? (i := 65) rfl)) rfl
theorem tw_6_66 : (Jvm.Cond.instanceMethod ({ cls := "MirrorLaneModel", name := "length", desc := "(II)J" } : Jvm.MethodName)) ∈ ml_T := ml_in (ml_t6 (List.mem_of_getElem? (i := 66) rfl)) rfl
theorem tw_6_67 : (Jvm.Cond.selects "MirrorLaneModel" ({ cls := "MirrorLaneModel", name := "length", desc := "(II)J" } : Jvm.MethodName) ({ cls := "MirrorLaneModel", name := "length", desc := "(II)J" } : Jvm.MethodName)) ∈ ml_T := ml_in (ml_t6 (List.mem_of_getElem? (i := 67) rfl)) rfl
theorem tw_6_68 : (Jvm.Cond.code ({ cls := "MirrorLaneModel", name := "length", desc := "(II)J" } : Jvm.MethodName) prog_14_method_44_code (3 : Nat) (Option.some Jvm.ClassFile.FieldType.long)) ∈ ml_T := ml_in (ml_t6 (List.mem_of_getElem? (i := 68) rfl)) rfl
theorem tw_3_142 : (Jvm.Cond.methodLink "MirrorLaneLaw" (56 : Nat) ({ cls := "MirrorLane", name := "loops", desc := "(II)J" } : Jvm.MethodName)) ∈ ml_T := ml_in (ml_t3 (List.mem_of_getElem? (i := 142) rfl)) rfl
theorem tw_3_143 : (Jvm.Cond.instanceMethod ({ cls := "MirrorLane", name := "loops", desc := "(II)J" } : Jvm.MethodName)) ∈ ml_T := ml_in (ml_t3 (List.mem_of_getElem? (i := 143) rfl)) rfl
theorem tw_3_144 : (Jvm.Cond.selects "MirrorLane" ({ cls := "MirrorLane", name := "loops", desc := "(II)J" } : Jvm.MethodName) ({ cls := "MirrorLane", name := "loops", desc := "(II)J" } : Jvm.MethodName)) ∈ ml_T := ml_in (ml_t3 (List.mem_of_getElem? (i := 144) rfl)) rfl
theorem tw_3_145 : (Jvm.Cond.code ({ cls := "MirrorLane", name := "loops", desc := "(II)J" } : Jvm.MethodName) prog_1_method_11_code (4 : Nat) (Option.some Jvm.ClassFile.FieldType.long)) ∈ ml_T := ml_in (ml_t3 (List.mem_of_getElem? (i := 145) rfl)) rfl
theorem tw_6_69 : (Jvm.Cond.methodLink "MirrorLaneLaw" (59 : Nat) ({ cls := "MirrorLaneModel", name := "loops", desc := "(II)J" } : Jvm.MethodName)) ∈ ml_T := ml_in (ml_t6 (List.mem_of_getElem? (i := 69) rfl)) rfl
theorem tw_6_70 : (Jvm.Cond.instanceMethod ({ cls := "MirrorLaneModel", name := "loops", desc := "(II)J" } : Jvm.MethodName)) ∈ ml_T := ml_in (ml_t6 (List.mem_of_getElem? (i := 70) rfl)) rfl
theorem tw_6_71 : (Jvm.Cond.selects "MirrorLaneModel" ({ cls := "MirrorLaneModel", name := "loops", desc := "(II)J" } : Jvm.MethodName) ({ cls := "MirrorLaneModel", name := "loops", desc := "(II)J" } : Jvm.MethodName)) ∈ ml_T := ml_in (ml_t6 (List.mem_of_getElem? (i := 71) rfl)) rfl
theorem tw_6_72 : (Jvm.Cond.code ({ cls := "MirrorLaneModel", name := "loops", desc := "(II)J" } : Jvm.MethodName) prog_14_method_47_code (3 : Nat) (Option.some Jvm.ClassFile.FieldType.long)) ∈ ml_T := ml_in (ml_t6 (List.mem_of_getElem? (i := 72) rfl)) rfl
theorem tw_3_154 : (Jvm.Cond.methodLink "MirrorLaneLaw" (60 : Nat) ({ cls := "MirrorLane", name := "powe\x72", desc := "(II)I" } : Jvm.MethodName)) ∈ ml_T := ml_in (ml_t3 (List.mem_of_getElem? (i := 154) rfl)) rfl
theorem tw_3_155 : (Jvm.Cond.instanceMethod ({ cls := "MirrorLane", name := "powe\x72", desc := "(II)I" } : Jvm.MethodName)) ∈ ml_T := ml_in (ml_t3 (List.mem_of_getElem? (i := 155) rfl)) rfl
theorem tw_3_156 : (Jvm.Cond.selects "MirrorLane" ({ cls := "MirrorLane", name := "powe\x72", desc := "(II)I" } : Jvm.MethodName) ({ cls := "MirrorLane", name := "powe\x72", desc := "(II)I" } : Jvm.MethodName)) ∈ ml_T := ml_in (ml_t3 (List.mem_of_getElem? (i := 156) rfl)) rfl
theorem tw_3_157 : (Jvm.Cond.code ({ cls := "MirrorLane", name := "powe\x72", desc := "(II)I" } : Jvm.MethodName) prog_1_method_12_code (3 : Nat) (Option.some Jvm.ClassFile.FieldType.int)) ∈ ml_T := ml_in (ml_t3 (List.mem_of_getElem? (i := 157) rfl)) rfl
theorem tw_6_81 : (Jvm.Cond.methodLink "MirrorLaneLaw" (63 : Nat) ({ cls := "MirrorLaneModel", name := "powe\x72", desc := "(II)I" } : Jvm.MethodName)) ∈ ml_T := ml_in (ml_t6 (List.mem_of_getElem? (i := 81) rfl)) rfl
theorem tw_6_82 : (Jvm.Cond.instanceMethod ({ cls := "MirrorLaneModel", name := "powe\x72", desc := "(II)I" } : Jvm.MethodName)) ∈ ml_T := ml_in (ml_t6 (List.mem_of_getElem? (i := 82) rfl)) rfl
theorem tw_6_83 : (Jvm.Cond.selects "MirrorLaneModel" ({ cls := "MirrorLaneModel", name := "powe\x72", desc := "(II)I" } : Jvm.MethodName) ({ cls := "MirrorLaneModel", name := "powe\x72", desc := "(II)I" } : Jvm.MethodName)) ∈ ml_T := ml_in (ml_t6 (List.mem_of_getElem? (i := 83) rfl)) rfl
theorem tw_6_84 : (Jvm.Cond.code ({ cls := "MirrorLaneModel", name := "powe\x72", desc := "(II)I" } : Jvm.MethodName) prog_14_method_50_code (3 : Nat) (Option.some Jvm.ClassFile.FieldType.int)) ∈ ml_T := ml_in (ml_t6 (List.mem_of_getElem? (i := 84) rfl)) rfl
theorem tw_3_175 : (Jvm.Cond.methodLink "MirrorLaneLaw" (64 : Nat) ({ cls := "MirrorLane", name := "rule", desc := "(II)J" } : Jvm.MethodName)) ∈ ml_T := ml_in (ml_t3 (List.mem_of_getElem? (i := 175) rfl)) rfl
theorem tw_3_176 : (Jvm.Cond.instanceMethod ({ cls := "MirrorLane", name := "rule", desc := "(II)J" } : Jvm.MethodName)) ∈ ml_T := ml_in (ml_t3 (List.mem_of_getElem? (i := 176) rfl)) rfl
theorem tw_3_177 : (Jvm.Cond.selects "MirrorLane" ({ cls := "MirrorLane", name := "rule", desc := "(II)J" } : Jvm.MethodName) ({ cls := "MirrorLane", name := "rule", desc := "(II)J" } : Jvm.MethodName)) ∈ ml_T := ml_in (ml_t3 (List.mem_of_getElem? (i := 177) rfl)) rfl
theorem tw_3_178 : (Jvm.Cond.code ({ cls := "MirrorLane", name := "rule", desc := "(II)J" } : Jvm.MethodName) prog_1_method_13_code (3 : Nat) (Option.some Jvm.ClassFile.FieldType.long)) ∈ ml_T := ml_in (ml_t3 (List.mem_of_getElem? (i := 178) rfl)) rfl
theorem tw_6_94 : (Jvm.Cond.methodLink "MirrorLaneLaw" (67 : Nat) ({ cls := "MirrorLaneModel", name := "rule", desc := "(II)J" } : Jvm.MethodName)) ∈ ml_T := ml_in (ml_t6 (List.mem_of_getElem? (i := 94) rfl)) rfl
theorem tw_6_95 : (Jvm.Cond.instanceMethod ({ cls := "MirrorLaneModel", name := "rule", desc := "(II)J" } : Jvm.MethodName)) ∈ ml_T := ml_in (ml_t6 (List.mem_of_getElem? (i := 95) rfl)) rfl
theorem tw_6_96 : (Jvm.Cond.selects "MirrorLaneModel" ({ cls := "MirrorLaneModel", name := "rule", desc := "(II)J" } : Jvm.MethodName) ({ cls := "MirrorLaneModel", name := "rule", desc := "(II)J" } : Jvm.MethodName)) ∈ ml_T := ml_in (ml_t6 (List.mem_of_getElem? (i := 96) rfl)) rfl
theorem tw_6_97 : (Jvm.Cond.code ({ cls := "MirrorLaneModel", name := "rule", desc := "(II)J" } : Jvm.MethodName) prog_14_method_52_code (7 : Nat) (Option.some Jvm.ClassFile.FieldType.long)) ∈ ml_T := ml_in (ml_t6 (List.mem_of_getElem? (i := 97) rfl)) rfl
theorem tw_3_196 : (Jvm.Cond.methodLink "MirrorLaneLaw" (70 : Nat) ({ cls := "MirrorLane", name := "left", desc := "(IJ)J" } : Jvm.MethodName)) ∈ ml_T := ml_in (ml_t3 (List.mem_of_getElem? (i := 196) rfl)) rfl
theorem tw_3_197 : (Jvm.Cond.instanceMethod ({ cls := "MirrorLane", name := "left", desc := "(IJ)J" } : Jvm.MethodName)) ∈ ml_T := ml_in (ml_t3 (List.mem_of_getElem? (i := 197) rfl)) rfl
theorem tw_3_198 : (Jvm.Cond.selects "MirrorLane" ({ cls := "MirrorLane", name := "left", desc := "(IJ)J" } : Jvm.MethodName) ({ cls := "MirrorLane", name := "left", desc := "(IJ)J" } : Jvm.MethodName)) ∈ ml_T := ml_in (ml_t3 (List.mem_of_getElem? (i := 198) rfl)) rfl
theorem tw_3_199 : (Jvm.Cond.code ({ cls := "MirrorLane", name := "left", desc := "(IJ)J" } : Jvm.MethodName) prog_1_method_14_code (4 : Nat) (Option.some Jvm.ClassFile.FieldType.long)) ∈ ml_T := ml_in (ml_t3 (List.mem_of_getElem? (i := 199) rfl)) rfl
theorem tw_6_102 : (Jvm.Cond.methodLink "MirrorLaneLaw" (74 : Nat) ({ cls := "MirrorLaneModel", name := "left", desc := "(IJ)J" } : Jvm.MethodName)) ∈ ml_T := ml_in (ml_t6 (List.mem_of_getElem? (i := 102) rfl)) rfl
theorem tw_6_103 : (Jvm.Cond.instanceMethod ({ cls := "MirrorLaneModel", name := "left", desc := "(IJ)J" } : Jvm.MethodName)) ∈ ml_T := ml_in (ml_t6 (List.mem_of_getElem? (i := 103) rfl)) rfl
theorem tw_6_104 : (Jvm.Cond.selects "MirrorLaneModel" ({ cls := "MirrorLaneModel", name := "left", desc := "(IJ)J" } : Jvm.MethodName) ({ cls := "MirrorLaneModel", name := "left", desc := "(IJ)J" } : Jvm.MethodName)) ∈ ml_T := ml_in (ml_t6 (List.mem_of_getElem? (i := 104) rfl)) rfl
theorem tw_6_105 : (Jvm.Cond.code ({ cls := "MirrorLaneModel", name := "left", desc := "(IJ)J" } : Jvm.MethodName) prog_14_method_54_code (5 : Nat) (Option.some Jvm.ClassFile.FieldType.long)) ∈ ml_T := ml_in (ml_t6 (List.mem_of_getElem? (i := 105) rfl)) rfl
theorem tw_3_205 : (Jvm.Cond.methodLink "MirrorLaneLaw" (75 : Nat) ({ cls := "MirrorLane", name := "those", desc := "(IJJJ)J" } : Jvm.MethodName)) ∈ ml_T := ml_in (ml_t3 (List.mem_of_getElem? (i := 205) rfl)) rfl
theorem tw_3_206 : (Jvm.Cond.instanceMethod ({ cls := "MirrorLane", name := "those", desc := "(IJJJ)J" } : Jvm.MethodName)) ∈ ml_T := ml_in (ml_t3 (List.mem_of_getElem? (i := 206) rfl)) rfl
theorem tw_3_207 : (Jvm.Cond.selects "MirrorLane" ({ cls := "MirrorLane", name := "those", desc := "(IJJJ)J" } : Jvm.MethodName) ({ cls := "MirrorLane", name := "those", desc := "(IJJJ)J" } : Jvm.MethodName)) ∈ ml_T := ml_in (ml_t3 (List.mem_of_getElem? (i := 207) rfl)) rfl
theorem tw_3_208 : (Jvm.Cond.code ({ cls := "MirrorLane", name := "those", desc := "(IJJJ)J" } : Jvm.MethodName) prog_1_method_15_code (8 : Nat) (Option.some Jvm.ClassFile.FieldType.long)) ∈ ml_T := ml_in (ml_t3 (List.mem_of_getElem? (i := 208) rfl)) rfl
theorem tw_6_110 : (Jvm.Cond.methodLink "MirrorLaneLaw" (79 : Nat) ({ cls := "MirrorLaneModel", name := "those", desc := "(IJJJ)J" } : Jvm.MethodName)) ∈ ml_T := ml_in (ml_t6 (List.mem_of_getElem? (i := 110) rfl)) rfl
theorem tw_6_111 : (Jvm.Cond.instanceMethod ({ cls := "MirrorLaneModel", name := "those", desc := "(IJJJ)J" } : Jvm.MethodName)) ∈ ml_T := ml_in (ml_t6 (List.mem_of_getElem? (i := 111) rfl)) rfl
theorem tw_6_112 : (Jvm.Cond.selects "MirrorLaneModel" ({ cls := "MirrorLaneModel", name := "those", desc := "(IJJJ)J" } : Jvm.MethodName) ({ cls := "MirrorLaneModel", name := "those", desc := "(IJJJ)J" } : Jvm.MethodName)) ∈ ml_T := ml_in (ml_t6 (List.mem_of_getElem? (i := 112) rfl)) rfl
theorem tw_6_113 : (Jvm.Cond.code ({ cls := "MirrorLaneModel", name := "those", desc := "(IJJJ)J" } : Jvm.MethodName) prog_14_method_58_code (8 : Nat) (Option.some Jvm.ClassFile.FieldType.long)) ∈ ml_T := ml_in (ml_t6 (List.mem_of_getElem? (i := 113) rfl)) rfl
theorem tw_3_225 : (Jvm.Cond.methodLink "MirrorLaneLaw" (80 : Nat) ({ cls := "MirrorLane", name := "first", desc := "(IJ)J" } : Jvm.MethodName)) ∈ ml_T := ml_in (ml_t3 (List.mem_of_getElem? (i := 225) rfl)) rfl
theorem tw_3_226 : (Jvm.Cond.instanceMethod ({ cls := "MirrorLane", name := "first", desc := "(IJ)J" } : Jvm.MethodName)) ∈ ml_T := ml_in (ml_t3 (List.mem_of_getElem? (i := 226) rfl)) rfl
theorem tw_3_227 : (Jvm.Cond.selects "MirrorLane" ({ cls := "MirrorLane", name := "first", desc := "(IJ)J" } : Jvm.MethodName) ({ cls := "MirrorLane", name := "first", desc := "(IJ)J" } : Jvm.MethodName)) ∈ ml_T := ml_in (ml_t3 (List.mem_of_getElem? (i := 227) rfl)) rfl
theorem tw_3_228 : (Jvm.Cond.code ({ cls := "MirrorLane", name := "first", desc := "(IJ)J" } : Jvm.MethodName) prog_1_method_16_code (4 : Nat) (Option.some Jvm.ClassFile.FieldType.long)) ∈ ml_T := ml_in (ml_t3 (List.mem_of_getElem? (i := 228) rfl)) rfl
theorem tw_6_125 : (Jvm.Cond.methodLink "MirrorLaneLaw" (83 : Nat) ({ cls := "MirrorLaneModel", name := "first", desc := "(IJ)J" } : Jvm.MethodName)) ∈ ml_T := ml_in (ml_t6 (List.mem_of_getElem? (i := 125) rfl)) rfl
theorem tw_6_126 : (Jvm.Cond.instanceMethod ({ cls := "MirrorLaneModel", name := "first", desc := "(IJ)J" } : Jvm.MethodName)) ∈ ml_T := ml_in (ml_t6 (List.mem_of_getElem? (i := 126) rfl)) rfl
theorem tw_6_127 : (Jvm.Cond.selects "MirrorLaneModel" ({ cls := "MirrorLaneModel", name := "first", desc := "(IJ)J" } : Jvm.MethodName) ({ cls := "MirrorLaneModel", name := "first", desc := "(IJ)J" } : Jvm.MethodName)) ∈ ml_T := ml_in (ml_t6 (List.mem_of_getElem? (i := 127) rfl)) rfl
theorem tw_6_128 : (Jvm.Cond.code ({ cls := "MirrorLaneModel", name := "first", desc := "(IJ)J" } : Jvm.MethodName) prog_14_method_59_code (4 : Nat) (Option.some Jvm.ClassFile.FieldType.long)) ∈ ml_T := ml_in (ml_t6 (List.mem_of_getElem? (i := 128) rfl)) rfl
theorem tw_3_234 : (Jvm.Cond.methodLink "MirrorLaneLaw" (84 : Nat) ({ cls := "MirrorLane", name := "both", desc := "(III)I" } : Jvm.MethodName)) ∈ ml_T := ml_in (ml_t3 (List.mem_of_getElem? (i := 234) rfl)) rfl
theorem tw_3_235 : (Jvm.Cond.instanceMethod ({ cls := "MirrorLane", name := "both", desc := "(III)I" } : Jvm.MethodName)) ∈ ml_T := ml_in (ml_t3 (List.mem_of_getElem? (i := 235) rfl)) rfl
theorem tw_3_236 : (Jvm.Cond.selects "MirrorLane" ({ cls := "MirrorLane", name := "both", desc := "(III)I" } : Jvm.MethodName) ({ cls := "MirrorLane", name := "both", desc := "(III)I" } : Jvm.MethodName)) ∈ ml_T := ml_in (ml_t3 (List.mem_of_getElem? (i := 236) rfl)) rfl
theorem tw_3_237 : (Jvm.Cond.code ({ cls := "MirrorLane", name := "both", desc := "(III)I" } : Jvm.MethodName) prog_1_method_17_code (6 : Nat) (Option.some Jvm.ClassFile.FieldType.int)) ∈ ml_T := ml_in (ml_t3 (List.mem_of_getElem? (i := 237) rfl)) rfl
theorem tw_6_129 : (Jvm.Cond.methodLink "MirrorLaneLaw" (88 : Nat) ({ cls := "MirrorLaneModel", name := "both", desc := "(III)I" } : Jvm.MethodName)) ∈ ml_T := ml_in (ml_t6 (List.mem_of_getElem? (i := 129) rfl)) rfl
theorem tw_6_130 : (Jvm.Cond.instanceMethod ({ cls := "MirrorLaneModel", name := "both", desc := "(III)I" } : Jvm.MethodName)) ∈ ml_T := ml_in (ml_t6 (List.mem_of_getElem? (i := 130) rfl)) rfl
theorem tw_6_131 : (Jvm.Cond.selects "MirrorLaneModel" ({ cls := "MirrorLaneModel", name := "both", desc := "(III)I" } : Jvm.MethodName) ({ cls := "MirrorLaneModel", name := "both", desc := "(III)I" } : Jvm.MethodName)) ∈ ml_T := ml_in (ml_t6 (List.mem_of_getElem? (i := 131) rfl)) rfl
theorem tw_6_132 : (Jvm.Cond.code ({ cls := "MirrorLaneModel", name := "both", desc := "(III)I" } : Jvm.MethodName) prog_14_method_62_code (4 : Nat) (Option.some Jvm.ClassFile.FieldType.int)) ∈ ml_T := ml_in (ml_t6 (List.mem_of_getElem? (i := 132) rfl)) rfl
theorem tw_4_15 : (Jvm.Cond.methodLink "MirrorLaneLaw" (89 : Nat) ({ cls := "MirrorLane", name := "is", desc := "(II)I" } : Jvm.MethodName)) ∈ ml_T := ml_in (ml_t4 (List.mem_of_getElem? (i := 15) rfl)) rfl
theorem tw_4_16 : (Jvm.Cond.instanceMethod ({ cls := "MirrorLane", name := "is", desc := "(II)I" } : Jvm.MethodName)) ∈ ml_T := ml_in (ml_t4 (List.mem_of_getElem? (i := 16) rfl)) rfl
theorem tw_4_17 : (Jvm.Cond.selects "MirrorLane" ({ cls := "MirrorLane", name := "is", desc := "(II)I" } : Jvm.MethodName) ({ cls := "MirrorLane", name := "is", desc := "(II)I" } : Jvm.MethodName)) ∈ ml_T := ml_in (ml_t4 (List.mem_of_getElem? (i := 17) rfl)) rfl
theorem tw_4_18 : (Jvm.Cond.code ({ cls := "MirrorLane", name := "is", desc := "(II)I" } : Jvm.MethodName) prog_1_method_18_code (3 : Nat) (Option.some Jvm.ClassFile.FieldType.int)) ∈ ml_T := ml_in (ml_t4 (List.mem_of_getElem? (i := 18) rfl)) rfl
theorem tw_6_142 : (Jvm.Cond.methodLink "MirrorLaneLaw" (92 : Nat) ({ cls := "MirrorLaneModel", name := "is", desc := "(II)I" } : Jvm.MethodName)) ∈ ml_T := ml_in (ml_t6 (List.mem_of_getElem? (i := 142) rfl)) rfl
theorem tw_6_143 : (Jvm.Cond.instanceMethod ({ cls := "MirrorLaneModel", name := "is", desc := "(II)I" } : Jvm.MethodName)) ∈ ml_T := ml_in (ml_t6 (List.mem_of_getElem? (i := 143) rfl)) rfl
theorem tw_6_144 : (Jvm.Cond.selects "MirrorLaneModel" ({ cls := "MirrorLaneModel", name := "is", desc := "(II)I" } : Jvm.MethodName) ({ cls := "MirrorLaneModel", name := "is", desc := "(II)I" } : Jvm.MethodName)) ∈ ml_T := ml_in (ml_t6 (List.mem_of_getElem? (i := 144) rfl)) rfl
theorem tw_6_145 : (Jvm.Cond.code ({ cls := "MirrorLaneModel", name := "is", desc := "(II)I" } : Jvm.MethodName) prog_14_method_64_code (4 : Nat) (Option.some Jvm.ClassFile.FieldType.int)) ∈ ml_T := ml_in (ml_t6 (List.mem_of_getElem? (i := 145) rfl)) rfl
theorem tw_4_19 : (Jvm.Cond.methodLink "MirrorLaneLaw" (93 : Nat) ({ cls := "MirrorLane", name := "many", desc := "(III)I" } : Jvm.MethodName)) ∈ ml_T := ml_in (ml_t4 (List.mem_of_getElem? (i := 19) rfl)) rfl
theorem tw_4_20 : (Jvm.Cond.instanceMethod ({ cls := "MirrorLane", name := "many", desc := "(III)I" } : Jvm.MethodName)) ∈ ml_T := ml_in (ml_t4 (List.mem_of_getElem? (i := 20) rfl)) rfl
theorem tw_4_21 : (Jvm.Cond.selects "MirrorLane" ({ cls := "MirrorLane", name := "many", desc := "(III)I" } : Jvm.MethodName) ({ cls := "MirrorLane", name := "many", desc := "(III)I" } : Jvm.MethodName)) ∈ ml_T := ml_in (ml_t4 (List.mem_of_getElem? (i := 21) rfl)) rfl
theorem tw_4_22 : (Jvm.Cond.code ({ cls := "MirrorLane", name := "many", desc := "(III)I" } : Jvm.MethodName) prog_1_method_19_code (4 : Nat) (Option.some Jvm.ClassFile.FieldType.int)) ∈ ml_T := ml_in (ml_t4 (List.mem_of_getElem? (i := 22) rfl)) rfl
theorem tw_6_150 : (Jvm.Cond.methodLink "MirrorLaneLaw" (96 : Nat) ({ cls := "MirrorLaneModel", name := "many", desc := "(III)I" } : Jvm.MethodName)) ∈ ml_T := ml_in (ml_t6 (List.mem_of_getElem? (i := 150) rfl)) rfl
theorem tw_6_151 : (Jvm.Cond.instanceMethod ({ cls := "MirrorLaneModel", name := "many", desc := "(III)I" } : Jvm.MethodName)) ∈ ml_T := ml_in (ml_t6 (List.mem_of_getElem? (i := 151) rfl)) rfl
theorem tw_6_152 : (Jvm.Cond.selects "MirrorLaneModel" ({ cls := "MirrorLaneModel", name := "many", desc := "(III)I" } : Jvm.MethodName) ({ cls := "MirrorLaneModel", name := "many", desc := "(III)I" } : Jvm.MethodName)) ∈ ml_T := ml_in (ml_t6 (List.mem_of_getElem? (i := 152) rfl)) rfl
theorem tw_6_153 : (Jvm.Cond.code ({ cls := "MirrorLaneModel", name := "many", desc := "(III)I" } : Jvm.MethodName) prog_14_method_69_code (9 : Nat) (Option.some Jvm.ClassFile.FieldType.int)) ∈ ml_T := ml_in (ml_t6 (List.mem_of_getElem? (i := 153) rfl)) rfl
theorem tw_4_74 : (Jvm.Cond.methodLink "MirrorLaneLaw" (97 : Nat) ({ cls := "MirrorLane", name := "made", desc := "(I)I" } : Jvm.MethodName)) ∈ ml_T := ml_in (ml_t4 (List.mem_of_getElem? (i := 74) rfl)) rfl
theorem tw_4_75 : (Jvm.Cond.instanceMethod ({ cls := "MirrorLane", name := "made", desc := "(I)I" } : Jvm.MethodName)) ∈ ml_T := ml_in (ml_t4 (List.mem_of_getElem? (i := 75) rfl)) rfl
theorem tw_4_76 : (Jvm.Cond.selects "MirrorLane" ({ cls := "MirrorLane", name := "made", desc := "(I)I" } : Jvm.MethodName) ({ cls := "MirrorLane", name := "made", desc := "(I)I" } : Jvm.MethodName)) ∈ ml_T := ml_in (ml_t4 (List.mem_of_getElem? (i := 76) rfl)) rfl
theorem tw_4_77 : (Jvm.Cond.code ({ cls := "MirrorLane", name := "made", desc := "(I)I" } : Jvm.MethodName) prog_1_method_20_code (2 : Nat) (Option.some Jvm.ClassFile.FieldType.int)) ∈ ml_T := ml_in (ml_t4 (List.mem_of_getElem? (i := 77) rfl)) rfl
theorem tw_6_175 : (Jvm.Cond.methodLink "MirrorLaneLaw" (100 : Nat) ({ cls := "MirrorLaneModel", name := "made", desc := "(I)I" } : Jvm.MethodName)) ∈ ml_T := ml_in (ml_t6 (List.mem_of_getElem? (i := 175) rfl)) rfl
theorem tw_6_176 : (Jvm.Cond.instanceMethod ({ cls := "MirrorLaneModel", name := "made", desc := "(I)I" } : Jvm.MethodName)) ∈ ml_T := ml_in (ml_t6 (List.mem_of_getElem? (i := 176) rfl)) rfl
theorem tw_6_177 : (Jvm.Cond.selects "MirrorLaneModel" ({ cls := "MirrorLaneModel", name := "made", desc := "(I)I" } : Jvm.MethodName) ({ cls := "MirrorLaneModel", name := "made", desc := "(I)I" } : Jvm.MethodName)) ∈ ml_T := ml_in (ml_t6 (List.mem_of_getElem? (i := 177) rfl)) rfl
theorem tw_6_178 : (Jvm.Cond.code ({ cls := "MirrorLaneModel", name := "made", desc := "(I)I" } : Jvm.MethodName) prog_14_method_70_code (2 : Nat) (Option.some Jvm.ClassFile.FieldType.int)) ∈ ml_T := ml_in (ml_t6 (List.mem_of_getElem? (i := 178) rfl)) rfl
theorem tw_4_78 : (Jvm.Cond.methodLink "MirrorLaneLaw" (101 : Nat) ({ cls := "MirrorLane", name := "shortest", desc := "(III)I" } : Jvm.MethodName)) ∈ ml_T := ml_in (ml_t4 (List.mem_of_getElem? (i := 78) rfl)) rfl
theorem tw_4_79 : (Jvm.Cond.instanceMethod ({ cls := "MirrorLane", name := "shortest", desc := "(III)I" } : Jvm.MethodName)) ∈ ml_T := ml_in (ml_t4 (List.mem_of_getElem? (i := 79) rfl)) rfl
theorem tw_4_80 : (Jvm.Cond.selects "MirrorLane" ({ cls := "MirrorLane", name := "shortest", desc := "(III)I" } : Jvm.MethodName) ({ cls := "MirrorLane", name := "shortest", desc := "(III)I" } : Jvm.MethodName)) ∈ ml_T := ml_in (ml_t4 (List.mem_of_getElem? (i := 80) rfl)) rfl
theorem tw_4_81 : (Jvm.Cond.code ({ cls := "MirrorLane", name := "shortest", desc := "(III)I" } : Jvm.MethodName) prog_1_method_21_code (4 : Nat) (Option.some Jvm.ClassFile.FieldType.int)) ∈ ml_T := ml_in (ml_t4 (List.mem_of_getElem? (i := 81) rfl)) rfl
theorem tw_6_179 : (Jvm.Cond.methodLink "MirrorLaneLaw" (104 : Nat) ({ cls := "MirrorLaneModel", name := "shortest", desc := "(III)I" } : Jvm.MethodName)) ∈ ml_T := ml_in (ml_t6 (List.mem_of_getElem? (i := 179) rfl)) rfl
theorem tw_6_180 : (Jvm.Cond.instanceMethod ({ cls := "MirrorLaneModel", name := "shortest", desc := "(III)I" } : Jvm.MethodName)) ∈ ml_T := ml_in (ml_t6 (List.mem_of_getElem? (i := 180) rfl)) rfl
theorem tw_6_181 : (Jvm.Cond.selects "MirrorLaneModel" ({ cls := "MirrorLaneModel", name := "shortest", desc := "(III)I" } : Jvm.MethodName) ({ cls := "MirrorLaneModel", name := "shortest", desc := "(III)I" } : Jvm.MethodName)) ∈ ml_T := ml_in (ml_t6 (List.mem_of_getElem? (i := 181) rfl)) rfl
theorem tw_6_182 : (Jvm.Cond.code ({ cls := "MirrorLaneModel", name := "shortest", desc := "(III)I" } : Jvm.MethodName) prog_14_method_73_code (7 : Nat) (Option.some Jvm.ClassFile.FieldType.int)) ∈ ml_T := ml_in (ml_t6 (List.mem_of_getElem? (i := 182) rfl)) rfl
theorem tw_4_95 : (Jvm.Cond.methodLink "MirrorLaneLaw" (105 : Nat) ({ cls := "MirrorLane", name := "cost", desc := "(II)Z" } : Jvm.MethodName)) ∈ ml_T := ml_in (ml_t4 (List.mem_of_getElem? (i := 95) rfl)) rfl
theorem tw_4_96 : (Jvm.Cond.instanceMethod ({ cls := "MirrorLane", name := "cost", desc := "(II)Z" } : Jvm.MethodName)) ∈ ml_T := ml_in (ml_t4 (List.mem_of_getElem? (i := 96) rfl)) rfl
theorem tw_4_97 : (Jvm.Cond.selects "MirrorLane" ({ cls := "MirrorLane", name := "cost", desc := "(II)Z" } : Jvm.MethodName) ({ cls := "MirrorLane", name := "cost", desc := "(II)Z" } : Jvm.MethodName)) ∈ ml_T := ml_in (ml_t4 (List.mem_of_getElem? (i := 97) rfl)) rfl
theorem tw_4_98 : (Jvm.Cond.code ({ cls := "MirrorLane", name := "cost", desc := "(II)Z" } : Jvm.MethodName) prog_1_method_22_code (3 : Nat) (Option.some Jvm.ClassFile.FieldType.boolean)) ∈ ml_T := ml_in (ml_t4 (List.mem_of_getElem? (i := 98) rfl)) rfl
theorem tw_6_191 : (Jvm.Cond.methodLink "MirrorLaneLaw" (109 : Nat) ({ cls := "MirrorLaneModel", name := "cost", desc := "(II)Z" } : Jvm.MethodName)) ∈ ml_T := ml_in (ml_t6 (List.mem_of_getElem? (i := 191) rfl)) rfl
theorem tw_6_192 : (Jvm.Cond.instanceMethod ({ cls := "MirrorLaneModel", name := "cost", desc := "(II)Z" } : Jvm.MethodName)) ∈ ml_T := ml_in (ml_t6 (List.mem_of_getElem? (i := 192) rfl)) rfl
theorem tw_6_193 : (Jvm.Cond.selects "MirrorLaneModel" ({ cls := "MirrorLaneModel", name := "cost", desc := "(II)Z" } : Jvm.MethodName) ({ cls := "MirrorLaneModel", name := "cost", desc := "(II)Z" } : Jvm.MethodName)) ∈ ml_T := ml_in (ml_t6 (List.mem_of_getElem? (i := 193) rfl)) rfl
theorem tw_6_194 : (Jvm.Cond.code ({ cls := "MirrorLaneModel", name := "cost", desc := "(II)Z" } : Jvm.MethodName) prog_14_method_74_code (3 : Nat) (Option.some Jvm.ClassFile.FieldType.boolean)) ∈ ml_T := ml_in (ml_t6 (List.mem_of_getElem? (i := 194) rfl)) rfl
theorem tw_4_99 : (Jvm.Cond.methodLink "MirrorLaneLaw" (110 : Nat) ({ cls := "MirrorLane", name := "cheapest", desc := "(III)I" } : Jvm.MethodName)) ∈ ml_T := ml_in (ml_t4 (List.mem_of_getElem? (i := 99) rfl)) rfl
theorem tw_4_100 : (Jvm.Cond.instanceMethod ({ cls := "MirrorLane", name := "cheapest", desc := "(III)I" } : Jvm.MethodName)) ∈ ml_T := ml_in (ml_t4 (List.mem_of_getElem? (i := 100) rfl)) rfl
theorem tw_4_101 : (Jvm.Cond.selects "MirrorLane" ({ cls := "MirrorLane", name := "cheapest", desc := "(III)I" } : Jvm.MethodName) ({ cls := "MirrorLane", name := "cheapest", desc := "(III)I" } : Jvm.MethodName)) ∈ ml_T := ml_in (ml_t4 (List.mem_of_getElem? (i := 101) rfl)) rfl
theorem tw_4_102 : (Jvm.Cond.code ({ cls := "MirrorLane", name := "cheapest", desc := "(III)I" } : Jvm.MethodName) prog_1_method_23_code (5 : Nat) (Option.some Jvm.ClassFile.FieldType.int)) ∈ ml_T := ml_in (ml_t4 (List.mem_of_getElem? (i := 102) rfl)) rfl
theorem tw_6_195 : (Jvm.Cond.methodLink "MirrorLaneLaw" (113 : Nat) ({ cls := "MirrorLaneModel", name := "cheapest", desc := "(III)I" } : Jvm.MethodName)) ∈ ml_T := ml_in (ml_t6 (List.mem_of_getElem? (i := 195) rfl)) rfl
theorem tw_6_196 : (Jvm.Cond.instanceMethod ({ cls := "MirrorLaneModel", name := "cheapest", desc := "(III)I" } : Jvm.MethodName)) ∈ ml_T := ml_in (ml_t6 (List.mem_of_getElem? (i := 196) rfl)) rfl
theorem tw_6_197 : (Jvm.Cond.selects "MirrorLaneModel" ({ cls := "MirrorLaneModel", name := "cheapest", desc := "(III)I" } : Jvm.MethodName) ({ cls := "MirrorLaneModel", name := "cheapest", desc := "(III)I" } : Jvm.MethodName)) ∈ ml_T := ml_in (ml_t6 (List.mem_of_getElem? (i := 197) rfl)) rfl
theorem tw_6_198 : (Jvm.Cond.code ({ cls := "MirrorLaneModel", name := "cheapest", desc := "(III)I" } : Jvm.MethodName) prog_14_method_78_code (9 : Nat) (Option.some Jvm.ClassFile.FieldType.int)) ∈ ml_T := ml_in (ml_t6 (List.mem_of_getElem? (i := 198) rfl)) rfl
theorem tw_4_119 : (Jvm.Cond.methodLink "MirrorLaneLaw" (114 : Nat) ({ cls := "MirrorLane", name := "mend", desc := "(I)I" } : Jvm.MethodName)) ∈ ml_T := ml_in (ml_t4 (List.mem_of_getElem? (i := 119) rfl)) rfl
theorem tw_4_120 : (Jvm.Cond.instanceMethod ({ cls := "MirrorLane", name := "mend", desc := "(I)I" } : Jvm.MethodName)) ∈ ml_T := ml_in (ml_t4 (List.mem_of_getElem? (i := 120) rfl)) rfl
theorem tw_4_121 : (Jvm.Cond.selects "MirrorLane" ({ cls := "MirrorLane", name := "mend", desc := "(I)I" } : Jvm.MethodName) ({ cls := "MirrorLane", name := "mend", desc := "(I)I" } : Jvm.MethodName)) ∈ ml_T := ml_in (ml_t4 (List.mem_of_getElem? (i := 121) rfl)) rfl
theorem tw_4_122 : (Jvm.Cond.code ({ cls := "MirrorLane", name := "mend", desc := "(I)I" } : Jvm.MethodName) prog_1_method_24_code (2 : Nat) (Option.some Jvm.ClassFile.FieldType.int)) ∈ ml_T := ml_in (ml_t4 (List.mem_of_getElem? (i := 122) rfl)) rfl
theorem tw_6_211 : (Jvm.Cond.methodLink "MirrorLaneLaw" (117 : Nat) ({ cls := "MirrorLaneModel", name := "mend", desc := "(I)I" } : Jvm.MethodName)) ∈ ml_T := ml_in (ml_t6 (List.mem_of_getElem? (i := 211) rfl)) rfl
theorem tw_6_212 : (Jvm.Cond.instanceMethod ({ cls := "MirrorLaneModel", name := "mend", desc := "(I)I" } : Jvm.MethodName)) ∈ ml_T := ml_in (ml_t6 (List.mem_of_getElem? (i := 212) rfl)) rfl
theorem tw_6_213 : (Jvm.Cond.selects "MirrorLaneModel" ({ cls := "MirrorLaneModel", name := "mend", desc := "(I)I" } : Jvm.MethodName) ({ cls := "MirrorLaneModel", name := "mend", desc := "(I)I" } : Jvm.MethodName)) ∈ ml_T := ml_in (ml_t6 (List.mem_of_getElem? (i := 213) rfl)) rfl
theorem tw_6_214 : (Jvm.Cond.code ({ cls := "MirrorLaneModel", name := "mend", desc := "(I)I" } : Jvm.MethodName) prog_14_method_81_code (5 : Nat) (Option.some Jvm.ClassFile.FieldType.int)) ∈ ml_T := ml_in (ml_t6 (List.mem_of_getElem? (i := 214) rfl)) rfl
theorem tw_4_141 : (Jvm.Cond.methodLink "MirrorLaneLaw" (118 : Nat) ({ cls := "MirrorLane", name := "back", desc := "(I)I" } : Jvm.MethodName)) ∈ ml_T := ml_in (ml_t4 (List.mem_of_getElem? (i := 141) rfl)) rfl
theorem tw_4_142 : (Jvm.Cond.instanceMethod ({ cls := "MirrorLane", name := "back", desc := "(I)I" } : Jvm.MethodName)) ∈ ml_T := ml_in (ml_t4 (List.mem_of_getElem? (i := 142) rfl)) rfl
theorem tw_4_143 : (Jvm.Cond.selects "MirrorLane" ({ cls := "MirrorLane", name := "back", desc := "(I)I" } : Jvm.MethodName) ({ cls := "MirrorLane", name := "back", desc := "(I)I" } : Jvm.MethodName)) ∈ ml_T := ml_in (ml_t4 (List.mem_of_getElem? (i := 143) rfl)) rfl
theorem tw_4_144 : (Jvm.Cond.code ({ cls := "MirrorLane", name := "back", desc := "(I)I" } : Jvm.MethodName) prog_1_method_25_code (4 : Nat) (Option.some Jvm.ClassFile.FieldType.int)) ∈ ml_T := ml_in (ml_t4 (List.mem_of_getElem? (i := 144) rfl)) rfl
theorem tw_6_222 : (Jvm.Cond.methodLink "MirrorLaneLaw" (121 : Nat) ({ cls := "MirrorLaneModel", name := "back", desc := "(I)I" } : Jvm.MethodName)) ∈ ml_T := ml_in (ml_t6 (List.mem_of_getElem? (i := 222) rfl)) rfl
theorem tw_6_223 : (Jvm.Cond.instanceMethod ({ cls := "MirrorLaneModel", name := "back", desc := "(I)I" } : Jvm.MethodName)) ∈ ml_T := ml_in (ml_t6 (List.mem_of_getElem? (i := 223) rfl)) rfl
theorem tw_6_224 : (Jvm.Cond.selects "MirrorLaneModel" ({ cls := "MirrorLaneModel", name := "back", desc := "(I)I" } : Jvm.MethodName) ({ cls := "MirrorLaneModel", name := "back", desc := "(I)I" } : Jvm.MethodName)) ∈ ml_T := ml_in (ml_t6 (List.mem_of_getElem? (i := 224) rfl)) rfl
theorem tw_6_225 : (Jvm.Cond.code ({ cls := "MirrorLaneModel", name := "back", desc := "(I)I" } : Jvm.MethodName) prog_14_method_83_code (6 : Nat) (Option.some Jvm.ClassFile.FieldType.int)) ∈ ml_T := ml_in (ml_t6 (List.mem_of_getElem? (i := 225) rfl)) rfl
theorem tw_4_154 : (Jvm.Cond.methodLink "MirrorLaneLaw" (122 : Nat) ({ cls := "MirrorLane", name := "walk", desc := "(III)I" } : Jvm.MethodName)) ∈ ml_T := ml_in (ml_t4 (List.mem_of_getElem? (i := 154) rfl)) rfl
theorem tw_4_155 : (Jvm.Cond.instanceMethod ({ cls := "MirrorLane", name := "walk", desc := "(III)I" } : Jvm.MethodName)) ∈ ml_T := ml_in (ml_t4 (List.mem_of_getElem? (i := 155) rfl)) rfl
theorem tw_4_156 : (Jvm.Cond.selects "MirrorLane" ({ cls := "MirrorLane", name := "walk", desc := "(III)I" } : Jvm.MethodName) ({ cls := "MirrorLane", name := "walk", desc := "(III)I" } : Jvm.MethodName)) ∈ ml_T := ml_in (ml_t4 (List.mem_of_getElem? (i := 156) rfl)) rfl
theorem tw_4_157 : (Jvm.Cond.code ({ cls := "MirrorLane", name := "walk", desc := "(III)I" } : Jvm.MethodName) prog_1_method_26_code (5 : Nat) (Option.some Jvm.ClassFile.FieldType.int)) ∈ ml_T := ml_in (ml_t4 (List.mem_of_getElem? (i := 157) rfl)) rfl
theorem tw_6_231 : (Jvm.Cond.methodLink "MirrorLaneLaw" (125 : Nat) ({ cls := "MirrorLaneModel", name := "walk", desc := "(III)I" } : Jvm.MethodName)) ∈ ml_T := ml_in (ml_t6 (List.mem_of_getElem? (i := 231) rfl)) rfl
theorem tw_6_232 : (Jvm.Cond.instanceMethod ({ cls := "MirrorLaneModel", name := "walk", desc := "(III)I" } : Jvm.MethodName)) ∈ ml_T := ml_in (ml_t6 (List.mem_of_getElem? (i := 232) rfl)) rfl
theorem tw_6_233 : (Jvm.Cond.selects "MirrorLaneModel" ({ cls := "MirrorLaneModel", name := "walk", desc := "(III)I" } : Jvm.MethodName) ({ cls := "MirrorLaneModel", name := "walk", desc := "(III)I" } : Jvm.MethodName)) ∈ ml_T := ml_in (ml_t6 (List.mem_of_getElem? (i := 233) rfl)) rfl
theorem tw_6_234 : (Jvm.Cond.code ({ cls := "MirrorLaneModel", name := "walk", desc := "(III)I" } : Jvm.MethodName) prog_14_method_87_code (11 : Nat) (Option.some Jvm.ClassFile.FieldType.int)) ∈ ml_T := ml_in (ml_t6 (List.mem_of_getElem? (i := 234) rfl)) rfl
theorem tw_4_177 : (Jvm.Cond.methodLink "MirrorLaneLaw" (126 : Nat) ({ cls := "MirrorLane", name := "check", desc := "(I)I" } : Jvm.MethodName)) ∈ ml_T := ml_in (ml_t4 (List.mem_of_getElem? (i := 177) rfl)) rfl
theorem tw_4_178 : (Jvm.Cond.instanceMethod ({ cls := "MirrorLane", name := "check", desc := "(I)I" } : Jvm.MethodName)) ∈ ml_T := ml_in (ml_t4 (List.mem_of_getElem? (i := 178) rfl)) rfl
theorem tw_4_179 : (Jvm.Cond.selects "MirrorLane" ({ cls := "MirrorLane", name := "check", desc := "(I)I" } : Jvm.MethodName) ({ cls := "MirrorLane", name := "check", desc := "(I)I" } : Jvm.MethodName)) ∈ ml_T := ml_in (ml_t4 (List.mem_of_getElem? (i := 179) rfl)) rfl
theorem tw_4_180 : (Jvm.Cond.code ({ cls := "MirrorLane", name := "check", desc := "(I)I" } : Jvm.MethodName) prog_1_method_27_code (4 : Nat) (Option.some Jvm.ClassFile.FieldType.int)) ∈ ml_T := ml_in (ml_t4 (List.mem_of_getElem? (i := 180) rfl)) rfl
theorem tw_7_8 : (Jvm.Cond.methodLink "MirrorLaneLaw" (129 : Nat) ({ cls := "MirrorLaneModel", name := "check", desc := "(I)I" } : Jvm.MethodName)) ∈ ml_T := ml_in (ml_t7 (List.mem_of_getElem? (i := 8) rfl)) rfl
theorem tw_7_9 : (Jvm.Cond.instanceMethod ({ cls := "MirrorLaneModel", name := "check", desc := "(I)I" } : Jvm.MethodName)) ∈ ml_T := ml_in (ml_t7 (List.mem_of_getElem? (i := 9) rfl)) rfl
theorem tw_7_10 : (Jvm.Cond.selects "MirrorLaneModel" ({ cls := "MirrorLaneModel", name := "check", desc := "(I)I" } : Jvm.MethodName) ({ cls := "MirrorLaneModel", name := "check", desc := "(I)I" } : Jvm.MethodName)) ∈ ml_T := ml_in (ml_t7 (List.mem_of_getElem? (i := 10) rfl)) rfl
theorem tw_7_11 : (Jvm.Cond.code ({ cls := "MirrorLaneModel", name := "check", desc := "(I)I" } : Jvm.MethodName) prog_14_method_88_code (3 : Nat) (Option.some Jvm.ClassFile.FieldType.int)) ∈ ml_T := ml_in (ml_t7 (List.mem_of_getElem? (i := 11) rfl)) rfl
theorem tw_4_181 : (Jvm.Cond.methodLink "MirrorLaneLaw" (130 : Nat) ({ cls := "MirrorLane", name := "count", desc := "(I)I" } : Jvm.MethodName)) ∈ ml_T := ml_in (ml_t4 (List.mem_of_getElem? (i := 181) rfl)) rfl
theorem tw_4_182 : (Jvm.Cond.instanceMethod ({ cls := "MirrorLane", name := "count", desc := "(I)I" } : Jvm.MethodName)) ∈ ml_T := ml_in (ml_t4 (List.mem_of_getElem? (i := 182) rfl)) rfl
theorem tw_4_183 : (Jvm.Cond.selects "MirrorLane" ({ cls := "MirrorLane", name := "count", desc := "(I)I" } : Jvm.MethodName) ({ cls := "MirrorLane", name := "count", desc := "(I)I" } : Jvm.MethodName)) ∈ ml_T := ml_in (ml_t4 (List.mem_of_getElem? (i := 183) rfl)) rfl
theorem tw_4_184 : (Jvm.Cond.code ({ cls := "MirrorLane", name := "count", desc := "(I)I" } : Jvm.MethodName) prog_1_method_28_code (2 : Nat) (Option.some Jvm.ClassFile.FieldType.int)) ∈ ml_T := ml_in (ml_t4 (List.mem_of_getElem? (i := 184) rfl)) rfl
theorem tw_7_12 : (Jvm.Cond.methodLink "MirrorLaneLaw" (133 : Nat) ({ cls := "MirrorLaneModel", name := "count", desc := "(I)I" } : Jvm.MethodName)) ∈ ml_T := ml_in (ml_t7 (List.mem_of_getElem? (i := 12) rfl)) rfl
theorem tw_7_13 : (Jvm.Cond.instanceMethod ({ cls := "MirrorLaneModel", name := "count", desc := "(I)I" } : Jvm.MethodName)) ∈ ml_T := ml_in (ml_t7 (List.mem_of_getElem? (i := 13) rfl)) rfl
theorem tw_7_14 : (Jvm.Cond.selects "MirrorLaneModel" ({ cls := "MirrorLaneModel", name := "count", desc := "(I)I" } : Jvm.MethodName) ({ cls := "MirrorLaneModel", name := "count", desc := "(I)I" } : Jvm.MethodName)) ∈ ml_T := ml_in (ml_t7 (List.mem_of_getElem? (i := 14) rfl)) rfl
theorem tw_7_15 : (Jvm.Cond.code ({ cls := "MirrorLaneModel", name := "count", desc := "(I)I" } : Jvm.MethodName) prog_14_method_89_code (2 : Nat) (Option.some Jvm.ClassFile.FieldType.int)) ∈ ml_T := ml_in (ml_t7 (List.mem_of_getElem? (i := 15) rfl)) rfl
theorem tw_3_150 : (Jvm.Cond.methodLink "MirrorLane$Closing" (30 : Nat) ({ cls := "MirrorLane$Closing", name := "loopFrom", desc := "(ILMirrorLane$Weave;)I" } : Jvm.MethodName)) ∈ ml_T := ml_in (ml_t3 (List.mem_of_getElem? (i := 150) rfl)) rfl
theorem tw_3_152 : (Jvm.Cond.instanceMethod ({ cls := "MirrorLane$Closing", name := "loopFrom", desc := "(ILMirrorLane$Weave;)I" } : Jvm.MethodName)) ∈ ml_T := ml_in (ml_t3 (List.mem_of_getElem? (i := 152) rfl)) rfl
theorem tv_18 : Cond.selects "MirrorLane$Closing" ⟨"MirrorLane$Closing", "loopFrom", "(ILMirrorLane$Weave;)I"⟩ ⟨"MirrorLane$Closing", "loopFrom", "(ILMirrorLane$Weave;)I"⟩ ∈ ml_T := ml_in (List.mem_append_left _ (List.mem_map.mpr ⟨(⟨"MirrorLane$Closing", "loopFrom", "(ILMirrorLane$Weave;)I"⟩, 2), (show _ ∈ lw_privs from List.mem_append_right _ (List.mem_append_left _ (List.mem_of_getElem? (i := 2) rfl))), rfl⟩)) rfl
theorem tw_3_153 : (Jvm.Cond.code ({ cls := "MirrorLane$Closing", name := "loopFrom", desc := "(ILMirrorLane$Weave;)I" } : Jvm.MethodName) prog_2_method_5_code (7 : Nat) (Option.some Jvm.ClassFile.FieldType.int)) ∈ ml_T := ml_in (ml_t3 (List.mem_of_getElem? (i := 153) rfl)) rfl
theorem tw_4_86 : (Jvm.Cond.methodLink "MirrorLane$Finde\x72" (37 : Nat) ({ cls := "java/util/Arrays", name := "fill", desc := "([II)V" } : Jvm.MethodName)) ∈ ml_T := ml_in (ml_t4 (List.mem_of_getElem? (i := 86) rfl)) rfl
theorem tw_4_33 : (Jvm.Cond.static ({ cls := "java/util/Arrays", name := "fill", desc := "([II)V" } : Jvm.MethodName)) ∈ ml_T := ml_in (ml_t4 (List.mem_of_getElem? (i := 33) rfl)) rfl
theorem tw_1_17 : (Jvm.Cond.initialized "java/util/Arrays") ∈ ml_T := ml_in (ml_t1 (List.mem_of_getElem? (i := 17) rfl)) rfl
theorem tw_4_34 : (Jvm.Cond.code ({ cls := "java/util/Arrays", name := "fill", desc := "([II)V" } : Jvm.MethodName) prog_18_method_103_code (4 : Nat) (Option.none : Option Jvm.ClassFile.FieldType)) ∈ ml_T := ml_in (ml_t4 (List.mem_of_getElem? (i := 34) rfl)) rfl
theorem tw_4_87 : (Jvm.Cond.methodLink "MirrorLane$Finde\x72" (58 : Nat) ({ cls := "MirrorLane$Finde\x72", name := "traceBack", desc := "(I)V" } : Jvm.MethodName)) ∈ ml_T := ml_in (ml_t4 (List.mem_of_getElem? (i := 87) rfl)) rfl
theorem tw_4_89 : (Jvm.Cond.instanceMethod ({ cls := "MirrorLane$Finde\x72", name := "traceBack", desc := "(I)V" } : Jvm.MethodName)) ∈ ml_T := ml_in (ml_t4 (List.mem_of_getElem? (i := 89) rfl)) rfl
theorem tv_29 : Cond.selects "MirrorLane$Finde\x72" ⟨"MirrorLane$Finde\x72", "traceBack", "(I)V"⟩ ⟨"MirrorLane$Finde\x72", "traceBack", "(I)V"⟩ ∈ ml_T := ml_in (List.mem_append_left _ (List.mem_map.mpr ⟨(⟨"MirrorLane$Finde\x72", "traceBack", "(I)V"⟩, 7), (show _ ∈ lw_privs from List.mem_append_right _ (List.mem_append_left _ (List.mem_of_getElem? (i := 13) rfl))), rfl⟩)) rfl
theorem tw_4_90 : (Jvm.Cond.code ({ cls := "MirrorLane$Finde\x72", name := "traceBack", desc := "(I)V" } : Jvm.MethodName) prog_3_method_4_code (4 : Nat) (Option.none : Option Jvm.ClassFile.FieldType)) ∈ ml_T := ml_in (ml_t4 (List.mem_of_getElem? (i := 90) rfl)) rfl
theorem tw_4_108 : (Jvm.Cond.methodLink "MirrorLane$Finde\x72" (62 : Nat) ({ cls := "MirrorLane$Finde\x72", name := "weighRests", desc := "(LMirrorLane$Sentences;[LMirrorLane$Word;I)V" } : Jvm.MethodName)) ∈ ml_T := ml_in (ml_t4 (List.mem_of_getElem? (i := 108) rfl)) rfl
theorem tw_4_110 : (Jvm.Cond.instanceMethod ({ cls := "MirrorLane$Finde\x72", name := "weighRests", desc := "(LMirrorLane$Sentences;[LMirrorLane$Word;I)V" } : Jvm.MethodName)) ∈ ml_T := ml_in (ml_t4 (List.mem_of_getElem? (i := 110) rfl)) rfl
theorem tv_30 : Cond.selects "MirrorLane$Finde\x72" ⟨"MirrorLane$Finde\x72", "weighRests", "(LMirrorLane$Sentences;[LMirrorLane$Word;I)V"⟩ ⟨"MirrorLane$Finde\x72", "weighRests", "(LMirrorLane$Sentences;[LMirrorLane$Word;I)V"⟩ ∈ ml_T := ml_in (List.mem_append_left _ (List.mem_map.mpr ⟨(⟨"MirrorLane$Finde\x72", "weighRests", "(LMirrorLane$Sentences;[LMirrorLane$Word;I)V"⟩, 7), (show _ ∈ lw_privs from List.mem_append_right _ (List.mem_append_left _ (List.mem_of_getElem? (i := 14) rfl))), rfl⟩)) rfl
theorem tw_4_111 : (Jvm.Cond.code ({ cls := "MirrorLane$Finde\x72", name := "weighRests", desc := "(LMirrorLane$Sentences;[LMirrorLane$Word;I)V" } : Jvm.MethodName) prog_3_method_6_code (10 : Nat) (Option.none : Option Jvm.ClassFile.FieldType)) ∈ ml_T := ml_in (ml_t4 (List.mem_of_getElem? (i := 111) rfl)) rfl
theorem tw_4_114 : (Jvm.Cond.methodLink "MirrorLane$Finde\x72" (66 : Nat) ({ cls := "MirrorLane$Finde\x72", name := "weightBy", desc := "(LMirrorLane$Sentences;[LMirrorLane$Word;II)J" } : Jvm.MethodName)) ∈ ml_T := ml_in (ml_t4 (List.mem_of_getElem? (i := 114) rfl)) rfl
theorem tw_4_116 : (Jvm.Cond.instanceMethod ({ cls := "MirrorLane$Finde\x72", name := "weightBy", desc := "(LMirrorLane$Sentences;[LMirrorLane$Word;II)J" } : Jvm.MethodName)) ∈ ml_T := ml_in (ml_t4 (List.mem_of_getElem? (i := 116) rfl)) rfl
theorem tv_31 : Cond.selects "MirrorLane$Finde\x72" ⟨"MirrorLane$Finde\x72", "weightBy", "(LMirrorLane$Sentences;[LMirrorLane$Word;II)J"⟩ ⟨"MirrorLane$Finde\x72", "weightBy", "(LMirrorLane$Sentences;[LMirrorLane$Word;II)J"⟩ ∈ ml_T := ml_in (List.mem_append_left _ (List.mem_map.mpr ⟨(⟨"MirrorLane$Finde\x72", "weightBy", "(LMirrorLane$Sentences;[LMirrorLane$Word;II)J"⟩, 7), (show _ ∈ lw_privs from List.mem_append_right _ (List.mem_append_left _ (List.mem_of_getElem? (i := 15) rfl))), rfl⟩)) rfl
theorem tw_4_117 : (Jvm.Cond.code ({ cls := "MirrorLane$Finde\x72", name := "weightBy", desc := "(LMirrorLane$Sentences;[LMirrorLane$Word;II)J" } : Jvm.MethodName) prog_3_method_7_code (7 : Nat) (Option.some Jvm.ClassFile.FieldType.long)) ∈ ml_T := ml_in (ml_t4 (List.mem_of_getElem? (i := 117) rfl)) rfl
theorem tw_4_113 : (Jvm.Cond.methodLink "MirrorLane$Finde\x72" (75 : Nat) ({ cls := "java/util/Arrays", name := "fill", desc := "([JJ)V" } : Jvm.MethodName)) ∈ ml_T := ml_in (ml_t4 (List.mem_of_getElem? (i := 113) rfl)) rfl
theorem tw_4_54 : (Jvm.Cond.static ({ cls := "java/util/Arrays", name := "fill", desc := "([JJ)V" } : Jvm.MethodName)) ∈ ml_T := ml_in (ml_t4 (List.mem_of_getElem? (i := 54) rfl)) rfl
theorem tw_4_55 : (Jvm.Cond.code ({ cls := "java/util/Arrays", name := "fill", desc := "([JJ)V" } : Jvm.MethodName) prog_18_method_101_code (5 : Nat) (Option.none : Option Jvm.ClassFile.FieldType)) ∈ ml_T := ml_in (ml_t4 (List.mem_of_getElem? (i := 55) rfl)) rfl
theorem tw_3_90 : (Jvm.Cond.methodLink "MirrorLane$Word" (48 : Nat) ({ cls := "MirrorLane$Gramma\x72", name := "isDigit", desc := "(I)Z" } : Jvm.MethodName)) ∈ ml_T := ml_in (ml_t3 (List.mem_of_getElem? (i := 90) rfl)) rfl
theorem tw_3_3 : (Jvm.Cond.static ({ cls := "MirrorLane$Gramma\x72", name := "isDigit", desc := "(I)Z" } : Jvm.MethodName)) ∈ ml_T := ml_in (ml_t3 (List.mem_of_getElem? (i := 3) rfl)) rfl
theorem tw_3_4 : (Jvm.Cond.code ({ cls := "MirrorLane$Gramma\x72", name := "isDigit", desc := "(I)Z" } : Jvm.MethodName) prog_4_method_3_code (1 : Nat) (Option.some Jvm.ClassFile.FieldType.boolean)) ∈ ml_T := ml_in (ml_t3 (List.mem_of_getElem? (i := 4) rfl)) rfl
theorem tw_2_147 : (Jvm.Cond.methodLink "MirrorLane" (90 : Nat) ({ cls := "MirrorLane$Closing", name := "goRound", desc := "(I)V" } : Jvm.MethodName)) ∈ ml_T := ml_in (ml_t2 (List.mem_of_getElem? (i := 147) rfl)) rfl
theorem tw_2_148 : (Jvm.Cond.instanceMethod ({ cls := "MirrorLane$Closing", name := "goRound", desc := "(I)V" } : Jvm.MethodName)) ∈ ml_T := ml_in (ml_t2 (List.mem_of_getElem? (i := 148) rfl)) rfl
theorem tw_2_149 : (Jvm.Cond.selects "MirrorLane$Closing" ({ cls := "MirrorLane$Closing", name := "goRound", desc := "(I)V" } : Jvm.MethodName) ({ cls := "MirrorLane$Closing", name := "goRound", desc := "(I)V" } : Jvm.MethodName)) ∈ ml_T := ml_in (ml_t2 (List.mem_of_getElem? (i := 149) rfl)) rfl
theorem tw_2_150 : (Jvm.Cond.code ({ cls := "MirrorLane$Closing", name := "goRound", desc := "(I)V" } : Jvm.MethodName) prog_2_method_2_code (3 : Nat) (Option.none : Option Jvm.ClassFile.FieldType)) ∈ ml_T := ml_in (ml_t2 (List.mem_of_getElem? (i := 150) rfl)) rfl
theorem tw_2_199 : (Jvm.Cond.methodLink "MirrorLane" (97 : Nat) ({ cls := "MirrorLane$Tape", name := "add", desc := "(I)V" } : Jvm.MethodName)) ∈ ml_T := ml_in (ml_t2 (List.mem_of_getElem? (i := 199) rfl)) rfl
theorem tw_2_200 : (Jvm.Cond.instanceMethod ({ cls := "MirrorLane$Tape", name := "add", desc := "(I)V" } : Jvm.MethodName)) ∈ ml_T := ml_in (ml_t2 (List.mem_of_getElem? (i := 200) rfl)) rfl
theorem tw_2_201 : (Jvm.Cond.selects "MirrorLane$Tape" ({ cls := "MirrorLane$Tape", name := "add", desc := "(I)V" } : Jvm.MethodName) ({ cls := "MirrorLane$Tape", name := "add", desc := "(I)V" } : Jvm.MethodName)) ∈ ml_T := ml_in (ml_t2 (List.mem_of_getElem? (i := 201) rfl)) rfl
theorem tw_2_202 : (Jvm.Cond.code ({ cls := "MirrorLane$Tape", name := "add", desc := "(I)V" } : Jvm.MethodName) prog_10_method_2_code (3 : Nat) (Option.none : Option Jvm.ClassFile.FieldType)) ∈ ml_T := ml_in (ml_t2 (List.mem_of_getElem? (i := 202) rfl)) rfl
theorem tw_2_207 : (Jvm.Cond.methodLink "MirrorLane" (100 : Nat) ({ cls := "MirrorLane", name := "tell", desc := "(II)I" } : Jvm.MethodName)) ∈ ml_T := ml_in (ml_t2 (List.mem_of_getElem? (i := 207) rfl)) rfl
theorem tw_2_209 : (Jvm.Cond.instanceMethod ({ cls := "MirrorLane", name := "tell", desc := "(II)I" } : Jvm.MethodName)) ∈ ml_T := ml_in (ml_t2 (List.mem_of_getElem? (i := 209) rfl)) rfl
theorem tv_0 : Cond.selects "MirrorLane" ⟨"MirrorLane", "tell", "(II)I"⟩ ⟨"MirrorLane", "tell", "(II)I"⟩ ∈ ml_T := ml_in (List.mem_append_left _ (List.mem_map.mpr ⟨(⟨"MirrorLane", "tell", "(II)I"⟩, 13), (show _ ∈ lw_privs from List.mem_append_left _ (List.mem_of_getElem? (i := 0) rfl)), rfl⟩)) rfl
theorem tw_2_210 : (Jvm.Cond.code ({ cls := "MirrorLane", name := "tell", desc := "(II)I" } : Jvm.MethodName) prog_1_method_34_code (4 : Nat) (Option.some Jvm.ClassFile.FieldType.int)) ∈ ml_T := ml_in (ml_t2 (List.mem_of_getElem? (i := 210) rfl)) rfl
theorem tw_3_104 : (Jvm.Cond.methodLink "MirrorLane" (104 : Nat) ({ cls := "MirrorLane", name := "isTold", desc := "(I)Z" } : Jvm.MethodName)) ∈ ml_T := ml_in (ml_t3 (List.mem_of_getElem? (i := 104) rfl)) rfl
theorem tw_3_106 : (Jvm.Cond.instanceMethod ({ cls := "MirrorLane", name := "isTold", desc := "(I)Z" } : Jvm.MethodName)) ∈ ml_T := ml_in (ml_t3 (List.mem_of_getElem? (i := 106) rfl)) rfl
theorem tv_15 : Cond.selects "MirrorLane" ⟨"MirrorLane", "isTold", "(I)Z"⟩ ⟨"MirrorLane", "isTold", "(I)Z"⟩ ∈ ml_T := ml_in (List.mem_append_left _ (List.mem_map.mpr ⟨(⟨"MirrorLane", "isTold", "(I)Z"⟩, 13), (show _ ∈ lw_privs from List.mem_append_left _ (List.mem_of_getElem? (i := 15) rfl)), rfl⟩)) rfl
theorem tw_3_107 : (Jvm.Cond.code ({ cls := "MirrorLane", name := "isTold", desc := "(I)Z" } : Jvm.MethodName) prog_1_method_29_code (2 : Nat) (Option.some Jvm.ClassFile.FieldType.boolean)) ∈ ml_T := ml_in (ml_t3 (List.mem_of_getElem? (i := 107) rfl)) rfl
theorem tw_3_116 : (Jvm.Cond.methodLink "MirrorLane" (108 : Nat) ({ cls := "MirrorLane$Closing", name := "goByCaps", desc := "(LMirrorLane$Tape;I)Z" } : Jvm.MethodName)) ∈ ml_T := ml_in (ml_t3 (List.mem_of_getElem? (i := 116) rfl)) rfl
theorem tw_3_117 : (Jvm.Cond.instanceMethod ({ cls := "MirrorLane$Closing", name := "goByCaps", desc := "(LMirrorLane$Tape;I)Z" } : Jvm.MethodName)) ∈ ml_T := ml_in (ml_t3 (List.mem_of_getElem? (i := 117) rfl)) rfl
theorem tw_3_118 : (Jvm.Cond.selects "MirrorLane$Closing" ({ cls := "MirrorLane$Closing", name := "goByCaps", desc := "(LMirrorLane$Tape;I)Z" } : Jvm.MethodName) ({ cls := "MirrorLane$Closing", name := "goByCaps", desc := "(LMirrorLane$Tape;I)Z" } : Jvm.MethodName)) ∈ ml_T := ml_in (ml_t3 (List.mem_of_getElem? (i := 118) rfl)) rfl
theorem tw_3_119 : (Jvm.Cond.code ({ cls := "MirrorLane$Closing", name := "goByCaps", desc := "(LMirrorLane$Tape;I)Z" } : Jvm.MethodName) prog_2_method_3_code (5 : Nat) (Option.some Jvm.ClassFile.FieldType.boolean)) ∈ ml_T := ml_in (ml_t3 (List.mem_of_getElem? (i := 119) rfl)) rfl
theorem tw_3_130 : (Jvm.Cond.methodLink "MirrorLane" (121 : Nat) ({ cls := "MirrorLane", name := "isMade", desc := "(I)Z" } : Jvm.MethodName)) ∈ ml_T := ml_in (ml_t3 (List.mem_of_getElem? (i := 130) rfl)) rfl
theorem tw_3_132 : (Jvm.Cond.instanceMethod ({ cls := "MirrorLane", name := "isMade", desc := "(I)Z" } : Jvm.MethodName)) ∈ ml_T := ml_in (ml_t3 (List.mem_of_getElem? (i := 132) rfl)) rfl
theorem tv_16 : Cond.selects "MirrorLane" ⟨"MirrorLane", "isMade", "(I)Z"⟩ ⟨"MirrorLane", "isMade", "(I)Z"⟩ ∈ ml_T := ml_in (List.mem_append_left _ (List.mem_map.mpr ⟨(⟨"MirrorLane", "isMade", "(I)Z"⟩, 13), (show _ ∈ lw_privs from List.mem_append_right _ (List.mem_append_left _ (List.mem_of_getElem? (i := 0) rfl))), rfl⟩)) rfl
theorem tw_3_133 : (Jvm.Cond.code ({ cls := "MirrorLane", name := "isMade", desc := "(I)Z" } : Jvm.MethodName) prog_1_method_30_code (2 : Nat) (Option.some Jvm.ClassFile.FieldType.boolean)) ∈ ml_T := ml_in (ml_t3 (List.mem_of_getElem? (i := 133) rfl)) rfl
theorem tw_3_134 : (Jvm.Cond.methodLink "MirrorLane" (124 : Nat) ({ cls := "MirrorLane", name := "isEnd", desc := "(I)Z" } : Jvm.MethodName)) ∈ ml_T := ml_in (ml_t3 (List.mem_of_getElem? (i := 134) rfl)) rfl
theorem tw_3_136 : (Jvm.Cond.instanceMethod ({ cls := "MirrorLane", name := "isEnd", desc := "(I)Z" } : Jvm.MethodName)) ∈ ml_T := ml_in (ml_t3 (List.mem_of_getElem? (i := 136) rfl)) rfl
theorem tv_17 : Cond.selects "MirrorLane" ⟨"MirrorLane", "isEnd", "(I)Z"⟩ ⟨"MirrorLane", "isEnd", "(I)Z"⟩ ∈ ml_T := ml_in (List.mem_append_left _ (List.mem_map.mpr ⟨(⟨"MirrorLane", "isEnd", "(I)Z"⟩, 13), (show _ ∈ lw_privs from List.mem_append_right _ (List.mem_append_left _ (List.mem_of_getElem? (i := 1) rfl))), rfl⟩)) rfl
theorem tw_3_137 : (Jvm.Cond.code ({ cls := "MirrorLane", name := "isEnd", desc := "(I)Z" } : Jvm.MethodName) prog_1_method_31_code (2 : Nat) (Option.some Jvm.ClassFile.FieldType.boolean)) ∈ ml_T := ml_in (ml_t3 (List.mem_of_getElem? (i := 137) rfl)) rfl
theorem tw_3_146 : (Jvm.Cond.methodLink "MirrorLane" (144 : Nat) ({ cls := "MirrorLane$Closing", name := "loopsBy", desc := "(LMirrorLane$Weave;I)I" } : Jvm.MethodName)) ∈ ml_T := ml_in (ml_t3 (List.mem_of_getElem? (i := 146) rfl)) rfl
theorem tw_3_147 : (Jvm.Cond.instanceMethod ({ cls := "MirrorLane$Closing", name := "loopsBy", desc := "(LMirrorLane$Weave;I)I" } : Jvm.MethodName)) ∈ ml_T := ml_in (ml_t3 (List.mem_of_getElem? (i := 147) rfl)) rfl
theorem tw_3_148 : (Jvm.Cond.selects "MirrorLane$Closing" ({ cls := "MirrorLane$Closing", name := "loopsBy", desc := "(LMirrorLane$Weave;I)I" } : Jvm.MethodName) ({ cls := "MirrorLane$Closing", name := "loopsBy", desc := "(LMirrorLane$Weave;I)I" } : Jvm.MethodName)) ∈ ml_T := ml_in (ml_t3 (List.mem_of_getElem? (i := 148) rfl)) rfl
theorem tw_3_149 : (Jvm.Cond.code ({ cls := "MirrorLane$Closing", name := "loopsBy", desc := "(LMirrorLane$Weave;I)I" } : Jvm.MethodName) prog_2_method_4_code (6 : Nat) (Option.some Jvm.ClassFile.FieldType.int)) ∈ ml_T := ml_in (ml_t3 (List.mem_of_getElem? (i := 149) rfl)) rfl
theorem tw_3_158 : (Jvm.Cond.methodLink "MirrorLane" (148 : Nat) ({ cls := "MirrorLane$Powers", name := "study", desc := "(LMirrorLane$Weave;LMirrorLane$Closing;I)V" } : Jvm.MethodName)) ∈ ml_T := ml_in (ml_t3 (List.mem_of_getElem? (i := 158) rfl)) rfl
theorem tw_3_159 : (Jvm.Cond.instanceMethod ({ cls := "MirrorLane$Powers", name := "study", desc := "(LMirrorLane$Weave;LMirrorLane$Closing;I)V" } : Jvm.MethodName)) ∈ ml_T := ml_in (ml_t3 (List.mem_of_getElem? (i := 159) rfl)) rfl
theorem tw_3_160 : (Jvm.Cond.selects "MirrorLane$Powers" ({ cls := "MirrorLane$Powers", name := "study", desc := "(LMirrorLane$Weave;LMirrorLane$Closing;I)V" } : Jvm.MethodName) ({ cls := "MirrorLane$Powers", name := "study", desc := "(LMirrorLane$Weave;LMirrorLane$Closing;I)V" } : Jvm.MethodName)) ∈ ml_T := ml_in (ml_t3 (List.mem_of_getElem? (i := 160) rfl)) rfl
theorem tw_3_161 : (Jvm.Cond.code ({ cls := "MirrorLane$Powers", name := "study", desc := "(LMirrorLane$Weave;LMirrorLane$Closing;I)V" } : Jvm.MethodName) prog_8_method_2_code (7 : Nat) (Option.none : Option Jvm.ClassFile.FieldType)) ∈ ml_T := ml_in (ml_t3 (List.mem_of_getElem? (i := 161) rfl)) rfl
theorem tw_3_179 : (Jvm.Cond.methodLink "MirrorLane" (158 : Nat) ({ cls := "MirrorLane$Powers", name := "findRule", desc := "()V" } : Jvm.MethodName)) ∈ ml_T := ml_in (ml_t3 (List.mem_of_getElem? (i := 179) rfl)) rfl
theorem tw_3_180 : (Jvm.Cond.instanceMethod ({ cls := "MirrorLane$Powers", name := "findRule", desc := "()V" } : Jvm.MethodName)) ∈ ml_T := ml_in (ml_t3 (List.mem_of_getElem? (i := 180) rfl)) rfl
theorem tw_3_181 : (Jvm.Cond.selects "MirrorLane$Powers" ({ cls := "MirrorLane$Powers", name := "findRule", desc := "()V" } : Jvm.MethodName) ({ cls := "MirrorLane$Powers", name := "findRule", desc := "()V" } : Jvm.MethodName)) ∈ ml_T := ml_in (ml_t3 (List.mem_of_getElem? (i := 181) rfl)) rfl
theorem tw_3_182 : (Jvm.Cond.code ({ cls := "MirrorLane$Powers", name := "findRule", desc := "()V" } : Jvm.MethodName) prog_8_method_5_code (1 : Nat) (Option.none : Option Jvm.ClassFile.FieldType)) ∈ ml_T := ml_in (ml_t3 (List.mem_of_getElem? (i := 182) rfl)) rfl
theorem tw_3_200 : (Jvm.Cond.methodLink "MirrorLane" (170 : Nat) ({ cls := "MirrorLane", name := "isPowe\x72", desc := "(J)Z" } : Jvm.MethodName)) ∈ ml_T := ml_in (ml_t3 (List.mem_of_getElem? (i := 200) rfl)) rfl
theorem tw_3_201 : (Jvm.Cond.static ({ cls := "MirrorLane", name := "isPowe\x72", desc := "(J)Z" } : Jvm.MethodName)) ∈ ml_T := ml_in (ml_t3 (List.mem_of_getElem? (i := 201) rfl)) rfl
theorem tw_3_202 : (Jvm.Cond.code ({ cls := "MirrorLane", name := "isPowe\x72", desc := "(J)Z" } : Jvm.MethodName) prog_1_method_32_code (2 : Nat) (Option.some Jvm.ClassFile.FieldType.boolean)) ∈ ml_T := ml_in (ml_t3 (List.mem_of_getElem? (i := 202) rfl)) rfl
theorem tw_3_204 : (Jvm.Cond.methodLink "MirrorLane" (174 : Nat) ({ cls := "MirrorLane$Powers", name := "loopsOf", desc := "(J)J" } : Jvm.MethodName)) ∈ ml_T := ml_in (ml_t3 (List.mem_of_getElem? (i := 204) rfl)) rfl
theorem tw_3_192 : (Jvm.Cond.instanceMethod ({ cls := "MirrorLane$Powers", name := "loopsOf", desc := "(J)J" } : Jvm.MethodName)) ∈ ml_T := ml_in (ml_t3 (List.mem_of_getElem? (i := 192) rfl)) rfl
theorem tw_3_193 : (Jvm.Cond.selects "MirrorLane$Powers" ({ cls := "MirrorLane$Powers", name := "loopsOf", desc := "(J)J" } : Jvm.MethodName) ({ cls := "MirrorLane$Powers", name := "loopsOf", desc := "(J)J" } : Jvm.MethodName)) ∈ ml_T := ml_in (ml_t3 (List.mem_of_getElem? (i := 193) rfl)) rfl
theorem tw_3_194 : (Jvm.Cond.code ({ cls := "MirrorLane$Powers", name := "loopsOf", desc := "(J)J" } : Jvm.MethodName) prog_8_method_3_code (7 : Nat) (Option.some Jvm.ClassFile.FieldType.long)) ∈ ml_T := ml_in (ml_t3 (List.mem_of_getElem? (i := 194) rfl)) rfl
theorem tw_3_209 : (Jvm.Cond.methodLink "MirrorLane" (180 : Nat) ({ cls := "MirrorLane", name := "isStretch", desc := "(JJ)Z" } : Jvm.MethodName)) ∈ ml_T := ml_in (ml_t3 (List.mem_of_getElem? (i := 209) rfl)) rfl
theorem tw_3_210 : (Jvm.Cond.static ({ cls := "MirrorLane", name := "isStretch", desc := "(JJ)Z" } : Jvm.MethodName)) ∈ ml_T := ml_in (ml_t3 (List.mem_of_getElem? (i := 210) rfl)) rfl
theorem tw_3_211 : (Jvm.Cond.code ({ cls := "MirrorLane", name := "isStretch", desc := "(JJ)Z" } : Jvm.MethodName) prog_1_method_33_code (4 : Nat) (Option.some Jvm.ClassFile.FieldType.boolean)) ∈ ml_T := ml_in (ml_t3 (List.mem_of_getElem? (i := 211) rfl)) rfl
theorem tw_3_212 : (Jvm.Cond.methodLink "MirrorLane" (184 : Nat) ({ cls := "MirrorLane$Powers", name := "howMany", desc := "(JJJ)J" } : Jvm.MethodName)) ∈ ml_T := ml_in (ml_t3 (List.mem_of_getElem? (i := 212) rfl)) rfl
theorem tw_3_213 : (Jvm.Cond.instanceMethod ({ cls := "MirrorLane$Powers", name := "howMany", desc := "(JJJ)J" } : Jvm.MethodName)) ∈ ml_T := ml_in (ml_t3 (List.mem_of_getElem? (i := 213) rfl)) rfl
theorem tw_3_214 : (Jvm.Cond.selects "MirrorLane$Powers" ({ cls := "MirrorLane$Powers", name := "howMany", desc := "(JJJ)J" } : Jvm.MethodName) ({ cls := "MirrorLane$Powers", name := "howMany", desc := "(JJJ)J" } : Jvm.MethodName)) ∈ ml_T := ml_in (ml_t3 (List.mem_of_getElem? (i := 214) rfl)) rfl
theorem tw_3_215 : (Jvm.Cond.code ({ cls := "MirrorLane$Powers", name := "howMany", desc := "(JJJ)J" } : Jvm.MethodName) prog_8_method_8_code (10 : Nat) (Option.some Jvm.ClassFile.FieldType.long)) ∈ ml_T := ml_in (ml_t3 (List.mem_of_getElem? (i := 215) rfl)) rfl
theorem tw_3_229 : (Jvm.Cond.methodLink "MirrorLane" (188 : Nat) ({ cls := "MirrorLane$Powers", name := "firstWith", desc := "(J)J" } : Jvm.MethodName)) ∈ ml_T := ml_in (ml_t3 (List.mem_of_getElem? (i := 229) rfl)) rfl
theorem tw_3_230 : (Jvm.Cond.instanceMethod ({ cls := "MirrorLane$Powers", name := "firstWith", desc := "(J)J" } : Jvm.MethodName)) ∈ ml_T := ml_in (ml_t3 (List.mem_of_getElem? (i := 230) rfl)) rfl
theorem tw_3_231 : (Jvm.Cond.selects "MirrorLane$Powers" ({ cls := "MirrorLane$Powers", name := "firstWith", desc := "(J)J" } : Jvm.MethodName) ({ cls := "MirrorLane$Powers", name := "firstWith", desc := "(J)J" } : Jvm.MethodName)) ∈ ml_T := ml_in (ml_t3 (List.mem_of_getElem? (i := 231) rfl)) rfl
theorem tw_3_232 : (Jvm.Cond.code ({ cls := "MirrorLane$Powers", name := "firstWith", desc := "(J)J" } : Jvm.MethodName) prog_8_method_10_code (8 : Nat) (Option.some Jvm.ClassFile.FieldType.long)) ∈ ml_T := ml_in (ml_t3 (List.mem_of_getElem? (i := 232) rfl)) rfl
theorem tw_3_238 : (Jvm.Cond.methodLink "MirrorLane" (191 : Nat) ({ cls := "MirrorLane$Weave", name := "isAlike", desc := "(LMirrorLane$Weave;I)Z" } : Jvm.MethodName)) ∈ ml_T := ml_in (ml_t3 (List.mem_of_getElem? (i := 238) rfl)) rfl
theorem tw_3_239 : (Jvm.Cond.instanceMethod ({ cls := "MirrorLane$Weave", name := "isAlike", desc := "(LMirrorLane$Weave;I)Z" } : Jvm.MethodName)) ∈ ml_T := ml_in (ml_t3 (List.mem_of_getElem? (i := 239) rfl)) rfl
theorem tw_4_0 : (Jvm.Cond.selects "MirrorLane$Weave" ({ cls := "MirrorLane$Weave", name := "isAlike", desc := "(LMirrorLane$Weave;I)Z" } : Jvm.MethodName) ({ cls := "MirrorLane$Weave", name := "isAlike", desc := "(LMirrorLane$Weave;I)Z" } : Jvm.MethodName)) ∈ ml_T := ml_in (ml_t4 (List.mem_of_getElem? (i := 0) rfl)) rfl
theorem tw_4_1 : (Jvm.Cond.code ({ cls := "MirrorLane$Weave", name := "isAlike", desc := "(LMirrorLane$Weave;I)Z" } : Jvm.MethodName) prog_11_method_10_code (5 : Nat) (Option.some Jvm.ClassFile.FieldType.boolean)) ∈ ml_T := ml_in (ml_t4 (List.mem_of_getElem? (i := 1) rfl)) rfl
theorem tw_4_2 : (Jvm.Cond.methodLink "MirrorLane" (195 : Nat) ({ cls := "MirrorLane$Loom", name := "changePlaces", desc := "(LMirrorLane$Weave;LMirrorLane$Weave;I)Z" } : Jvm.MethodName)) ∈ ml_T := ml_in (ml_t4 (List.mem_of_getElem? (i := 2) rfl)) rfl
theorem tw_4_3 : (Jvm.Cond.instanceMethod ({ cls := "MirrorLane$Loom", name := "changePlaces", desc := "(LMirrorLane$Weave;LMirrorLane$Weave;I)Z" } : Jvm.MethodName)) ∈ ml_T := ml_in (ml_t4 (List.mem_of_getElem? (i := 3) rfl)) rfl
theorem tw_4_4 : (Jvm.Cond.selects "MirrorLane$Loom" ({ cls := "MirrorLane$Loom", name := "changePlaces", desc := "(LMirrorLane$Weave;LMirrorLane$Weave;I)Z" } : Jvm.MethodName) ({ cls := "MirrorLane$Loom", name := "changePlaces", desc := "(LMirrorLane$Weave;LMirrorLane$Weave;I)Z" } : Jvm.MethodName)) ∈ ml_T := ml_in (ml_t4 (List.mem_of_getElem? (i := 4) rfl)) rfl
theorem tw_4_5 : (Jvm.Cond.code ({ cls := "MirrorLane$Loom", name := "changePlaces", desc := "(LMirrorLane$Weave;LMirrorLane$Weave;I)Z" } : Jvm.MethodName) prog_6_method_4_code (4 : Nat) (Option.some Jvm.ClassFile.FieldType.boolean)) ∈ ml_T := ml_in (ml_t4 (List.mem_of_getElem? (i := 5) rfl)) rfl
theorem tw_4_7 : (Jvm.Cond.methodLink "MirrorLane" (199 : Nat) ({ cls := "MirrorLane$Loom", name := "takesUp", desc := "(LMirrorLane$Weave;LMirrorLane$Weave;I)Z" } : Jvm.MethodName)) ∈ ml_T := ml_in (ml_t4 (List.mem_of_getElem? (i := 7) rfl)) rfl
theorem tw_4_8 : (Jvm.Cond.instanceMethod ({ cls := "MirrorLane$Loom", name := "takesUp", desc := "(LMirrorLane$Weave;LMirrorLane$Weave;I)Z" } : Jvm.MethodName)) ∈ ml_T := ml_in (ml_t4 (List.mem_of_getElem? (i := 8) rfl)) rfl
theorem tw_4_9 : (Jvm.Cond.selects "MirrorLane$Loom" ({ cls := "MirrorLane$Loom", name := "takesUp", desc := "(LMirrorLane$Weave;LMirrorLane$Weave;I)Z" } : Jvm.MethodName) ({ cls := "MirrorLane$Loom", name := "takesUp", desc := "(LMirrorLane$Weave;LMirrorLane$Weave;I)Z" } : Jvm.MethodName)) ∈ ml_T := ml_in (ml_t4 (List.mem_of_getElem? (i := 9) rfl)) rfl
theorem tw_4_10 : (Jvm.Cond.code ({ cls := "MirrorLane$Loom", name := "takesUp", desc := "(LMirrorLane$Weave;LMirrorLane$Weave;I)Z" } : Jvm.MethodName) prog_6_method_5_code (4 : Nat) (Option.some Jvm.ClassFile.FieldType.boolean)) ∈ ml_T := ml_in (ml_t4 (List.mem_of_getElem? (i := 10) rfl)) rfl
theorem tw_4_11 : (Jvm.Cond.methodLink "MirrorLane" (202 : Nat) ({ cls := "MirrorLane$Loom", name := "comesBack", desc := "(LMirrorLane$Weave;LMirrorLane$Weave;I)Z" } : Jvm.MethodName)) ∈ ml_T := ml_in (ml_t4 (List.mem_of_getElem? (i := 11) rfl)) rfl
theorem tw_4_12 : (Jvm.Cond.instanceMethod ({ cls := "MirrorLane$Loom", name := "comesBack", desc := "(LMirrorLane$Weave;LMirrorLane$Weave;I)Z" } : Jvm.MethodName)) ∈ ml_T := ml_in (ml_t4 (List.mem_of_getElem? (i := 12) rfl)) rfl
theorem tw_4_13 : (Jvm.Cond.selects "MirrorLane$Loom" ({ cls := "MirrorLane$Loom", name := "comesBack", desc := "(LMirrorLane$Weave;LMirrorLane$Weave;I)Z" } : Jvm.MethodName) ({ cls := "MirrorLane$Loom", name := "comesBack", desc := "(LMirrorLane$Weave;LMirrorLane$Weave;I)Z" } : Jvm.MethodName)) ∈ ml_T := ml_in (ml_t4 (List.mem_of_getElem? (i := 13) rfl)) rfl
theorem tw_4_14 : (Jvm.Cond.code ({ cls := "MirrorLane$Loom", name := "comesBack", desc := "(LMirrorLane$Weave;LMirrorLane$Weave;I)Z" } : Jvm.MethodName) prog_6_method_6_code (4 : Nat) (Option.some Jvm.ClassFile.FieldType.boolean)) ∈ ml_T := ml_in (ml_t4 (List.mem_of_getElem? (i := 14) rfl)) rfl
theorem tw_3_79 : (Jvm.Cond.methodLink "MirrorLane" (215 : Nat) ({ cls := "MirrorLane$Weave", name := "isTooLong", desc := "()Z" } : Jvm.MethodName)) ∈ ml_T := ml_in (ml_t3 (List.mem_of_getElem? (i := 79) rfl)) rfl
theorem tw_3_80 : (Jvm.Cond.instanceMethod ({ cls := "MirrorLane$Weave", name := "isTooLong", desc := "()Z" } : Jvm.MethodName)) ∈ ml_T := ml_in (ml_t3 (List.mem_of_getElem? (i := 80) rfl)) rfl
theorem tw_3_81 : (Jvm.Cond.selects "MirrorLane$Weave" ({ cls := "MirrorLane$Weave", name := "isTooLong", desc := "()Z" } : Jvm.MethodName) ({ cls := "MirrorLane$Weave", name := "isTooLong", desc := "()Z" } : Jvm.MethodName)) ∈ ml_T := ml_in (ml_t3 (List.mem_of_getElem? (i := 81) rfl)) rfl
theorem tw_3_82 : (Jvm.Cond.code ({ cls := "MirrorLane$Weave", name := "isTooLong", desc := "()Z" } : Jvm.MethodName) prog_11_method_2_code (1 : Nat) (Option.some Jvm.ClassFile.FieldType.boolean)) ∈ ml_T := ml_in (ml_t3 (List.mem_of_getElem? (i := 82) rfl)) rfl
theorem tw_4_23 : (Jvm.Cond.methodLink "MirrorLane" (219 : Nat) ({ cls := "MirrorLane", name := "openLetters", desc := "(I)Z" } : Jvm.MethodName)) ∈ ml_T := ml_in (ml_t4 (List.mem_of_getElem? (i := 23) rfl)) rfl
theorem tw_4_25 : (Jvm.Cond.instanceMethod ({ cls := "MirrorLane", name := "openLetters", desc := "(I)Z" } : Jvm.MethodName)) ∈ ml_T := ml_in (ml_t4 (List.mem_of_getElem? (i := 25) rfl)) rfl
theorem tv_23 : Cond.selects "MirrorLane" ⟨"MirrorLane", "openLetters", "(I)Z"⟩ ⟨"MirrorLane", "openLetters", "(I)Z"⟩ ∈ ml_T := ml_in (List.mem_append_left _ (List.mem_map.mpr ⟨(⟨"MirrorLane", "openLetters", "(I)Z"⟩, 13), (show _ ∈ lw_privs from List.mem_append_right _ (List.mem_append_left _ (List.mem_of_getElem? (i := 7) rfl))), rfl⟩)) rfl
theorem tw_4_26 : (Jvm.Cond.code ({ cls := "MirrorLane", name := "openLetters", desc := "(I)Z" } : Jvm.MethodName) prog_1_method_36_code (3 : Nat) (Option.some Jvm.ClassFile.FieldType.boolean)) ∈ ml_T := ml_in (ml_t4 (List.mem_of_getElem? (i := 26) rfl)) rfl
theorem tw_4_56 : (Jvm.Cond.methodLink "MirrorLane" (222 : Nat) ({ cls := "MirrorLane$Sentences", name := "closeAll", desc := "(LMirrorLane$Closing;I)V" } : Jvm.MethodName)) ∈ ml_T := ml_in (ml_t4 (List.mem_of_getElem? (i := 56) rfl)) rfl
theorem tw_4_57 : (Jvm.Cond.instanceMethod ({ cls := "MirrorLane$Sentences", name := "closeAll", desc := "(LMirrorLane$Closing;I)V" } : Jvm.MethodName)) ∈ ml_T := ml_in (ml_t4 (List.mem_of_getElem? (i := 57) rfl)) rfl
theorem tw_4_58 : (Jvm.Cond.selects "MirrorLane$Sentences" ({ cls := "MirrorLane$Sentences", name := "closeAll", desc := "(LMirrorLane$Closing;I)V" } : Jvm.MethodName) ({ cls := "MirrorLane$Sentences", name := "closeAll", desc := "(LMirrorLane$Closing;I)V" } : Jvm.MethodName)) ∈ ml_T := ml_in (ml_t4 (List.mem_of_getElem? (i := 58) rfl)) rfl
theorem tw_4_59 : (Jvm.Cond.code ({ cls := "MirrorLane$Sentences", name := "closeAll", desc := "(LMirrorLane$Closing;I)V" } : Jvm.MethodName) prog_9_method_6_code (4 : Nat) (Option.none : Option Jvm.ClassFile.FieldType)) ∈ ml_T := ml_in (ml_t4 (List.mem_of_getElem? (i := 59) rfl)) rfl
theorem tw_4_61 : (Jvm.Cond.methodLink "MirrorLane" (226 : Nat) ({ cls := "MirrorLane$Sentences", name := "howMany", desc := "(II)I" } : Jvm.MethodName)) ∈ ml_T := ml_in (ml_t4 (List.mem_of_getElem? (i := 61) rfl)) rfl
theorem tw_4_62 : (Jvm.Cond.instanceMethod ({ cls := "MirrorLane$Sentences", name := "howMany", desc := "(II)I" } : Jvm.MethodName)) ∈ ml_T := ml_in (ml_t4 (List.mem_of_getElem? (i := 62) rfl)) rfl
theorem tw_4_63 : (Jvm.Cond.selects "MirrorLane$Sentences" ({ cls := "MirrorLane$Sentences", name := "howMany", desc := "(II)I" } : Jvm.MethodName) ({ cls := "MirrorLane$Sentences", name := "howMany", desc := "(II)I" } : Jvm.MethodName)) ∈ ml_T := ml_in (ml_t4 (List.mem_of_getElem? (i := 63) rfl)) rfl
theorem tw_4_64 : (Jvm.Cond.code ({ cls := "MirrorLane$Sentences", name := "howMany", desc := "(II)I" } : Jvm.MethodName) prog_9_method_8_code (6 : Nat) (Option.some Jvm.ClassFile.FieldType.int)) ∈ ml_T := ml_in (ml_t4 (List.mem_of_getElem? (i := 64) rfl)) rfl
theorem tw_4_82 : (Jvm.Cond.methodLink "MirrorLane" (231 : Nat) ({ cls := "MirrorLane$Finde\x72", name := "findShortest", desc := "(LMirrorLane$Sentences;I)V" } : Jvm.MethodName)) ∈ ml_T := ml_in (ml_t4 (List.mem_of_getElem? (i := 82) rfl)) rfl
theorem tw_4_83 : (Jvm.Cond.instanceMethod ({ cls := "MirrorLane$Finde\x72", name := "findShortest", desc := "(LMirrorLane$Sentences;I)V" } : Jvm.MethodName)) ∈ ml_T := ml_in (ml_t4 (List.mem_of_getElem? (i := 83) rfl)) rfl
theorem tw_4_84 : (Jvm.Cond.selects "MirrorLane$Finde\x72" ({ cls := "MirrorLane$Finde\x72", name := "findShortest", desc := "(LMirrorLane$Sentences;I)V" } : Jvm.MethodName) ({ cls := "MirrorLane$Finde\x72", name := "findShortest", desc := "(LMirrorLane$Sentences;I)V" } : Jvm.MethodName)) ∈ ml_T := ml_in (ml_t4 (List.mem_of_getElem? (i := 84) rfl)) rfl
theorem tw_4_85 : (Jvm.Cond.code ({ cls := "MirrorLane$Finde\x72", name := "findShortest", desc := "(LMirrorLane$Sentences;I)V" } : Jvm.MethodName) prog_3_method_3_code (11 : Nat) (Option.none : Option Jvm.ClassFile.FieldType)) ∈ ml_T := ml_in (ml_t4 (List.mem_of_getElem? (i := 85) rfl)) rfl
theorem tw_4_91 : (Jvm.Cond.methodLink "MirrorLane" (235 : Nat) ({ cls := "MirrorLane$Finde\x72", name := "answe\x72", desc := "(I)I" } : Jvm.MethodName)) ∈ ml_T := ml_in (ml_t4 (List.mem_of_getElem? (i := 91) rfl)) rfl
theorem tw_4_92 : (Jvm.Cond.instanceMethod ({ cls := "MirrorLane$Finde\x72", name := "answe\x72", desc := "(I)I" } : Jvm.MethodName)) ∈ ml_T := ml_in (ml_t4 (List.mem_of_getElem? (i := 92) rfl)) rfl
theorem tw_4_93 : (Jvm.Cond.selects "MirrorLane$Finde\x72" ({ cls := "MirrorLane$Finde\x72", name := "answe\x72", desc := "(I)I" } : Jvm.MethodName) ({ cls := "MirrorLane$Finde\x72", name := "answe\x72", desc := "(I)I" } : Jvm.MethodName)) ∈ ml_T := ml_in (ml_t4 (List.mem_of_getElem? (i := 93) rfl)) rfl
theorem tw_4_94 : (Jvm.Cond.code ({ cls := "MirrorLane$Finde\x72", name := "answe\x72", desc := "(I)I" } : Jvm.MethodName) prog_3_method_2_code (2 : Nat) (Option.some Jvm.ClassFile.FieldType.int)) ∈ ml_T := ml_in (ml_t4 (List.mem_of_getElem? (i := 94) rfl)) rfl
theorem tw_4_103 : (Jvm.Cond.methodLink "MirrorLane" (245 : Nat) ({ cls := "MirrorLane$Weave", name := "numbe\x72", desc := "(I)I" } : Jvm.MethodName)) ∈ ml_T := ml_in (ml_t4 (List.mem_of_getElem? (i := 103) rfl)) rfl
theorem tw_3_165 : (Jvm.Cond.instanceMethod ({ cls := "MirrorLane$Weave", name := "numbe\x72", desc := "(I)I" } : Jvm.MethodName)) ∈ ml_T := ml_in (ml_t3 (List.mem_of_getElem? (i := 165) rfl)) rfl
theorem tw_3_166 : (Jvm.Cond.selects "MirrorLane$Weave" ({ cls := "MirrorLane$Weave", name := "numbe\x72", desc := "(I)I" } : Jvm.MethodName) ({ cls := "MirrorLane$Weave", name := "numbe\x72", desc := "(I)I" } : Jvm.MethodName)) ∈ ml_T := ml_in (ml_t3 (List.mem_of_getElem? (i := 166) rfl)) rfl
theorem tw_3_167 : (Jvm.Cond.code ({ cls := "MirrorLane$Weave", name := "numbe\x72", desc := "(I)I" } : Jvm.MethodName) prog_11_method_11_code (6 : Nat) (Option.some Jvm.ClassFile.FieldType.int)) ∈ ml_T := ml_in (ml_t3 (List.mem_of_getElem? (i := 167) rfl)) rfl
theorem tw_4_104 : (Jvm.Cond.methodLink "MirrorLane" (248 : Nat) ({ cls := "MirrorLane$Finde\x72", name := "findCheapest", desc := "(LMirrorLane$Sentences;[LMirrorLane$Word;I)V" } : Jvm.MethodName)) ∈ ml_T := ml_in (ml_t4 (List.mem_of_getElem? (i := 104) rfl)) rfl
theorem tw_4_105 : (Jvm.Cond.instanceMethod ({ cls := "MirrorLane$Finde\x72", name := "findCheapest", desc := "(LMirrorLane$Sentences;[LMirrorLane$Word;I)V" } : Jvm.MethodName)) ∈ ml_T := ml_in (ml_t4 (List.mem_of_getElem? (i := 105) rfl)) rfl
theorem tw_4_106 : (Jvm.Cond.selects "MirrorLane$Finde\x72" ({ cls := "MirrorLane$Finde\x72", name := "findCheapest", desc := "(LMirrorLane$Sentences;[LMirrorLane$Word;I)V" } : Jvm.MethodName) ({ cls := "MirrorLane$Finde\x72", name := "findCheapest", desc := "(LMirrorLane$Sentences;[LMirrorLane$Word;I)V" } : Jvm.MethodName)) ∈ ml_T := ml_in (ml_t4 (List.mem_of_getElem? (i := 106) rfl)) rfl
theorem tw_4_107 : (Jvm.Cond.code ({ cls := "MirrorLane$Finde\x72", name := "findCheapest", desc := "(LMirrorLane$Sentences;[LMirrorLane$Word;I)V" } : Jvm.MethodName) prog_3_method_5_code (7 : Nat) (Option.none : Option Jvm.ClassFile.FieldType)) ∈ ml_T := ml_in (ml_t4 (List.mem_of_getElem? (i := 107) rfl)) rfl
theorem tw_4_123 : (Jvm.Cond.methodLink "MirrorLane" (254 : Nat) ({ cls := "MirrorLane$Mende\x72", name := "leastSet", desc := "(LMirrorLane$Word;LMirrorLane$Powers;LMirrorLane$Closing;I)I" } : Jvm.MethodName)) ∈ ml_T := ml_in (ml_t4 (List.mem_of_getElem? (i := 123) rfl)) rfl
theorem tw_4_124 : (Jvm.Cond.instanceMethod ({ cls := "MirrorLane$Mende\x72", name := "leastSet", desc := "(LMirrorLane$Word;LMirrorLane$Powers;LMirrorLane$Closing;I)I" } : Jvm.MethodName)) ∈ ml_T := ml_in (ml_t4 (List.mem_of_getElem? (i := 124) rfl)) rfl
theorem tw_4_125 : (Jvm.Cond.selects "MirrorLane$Mende\x72" ({ cls := "MirrorLane$Mende\x72", name := "leastSet", desc := "(LMirrorLane$Word;LMirrorLane$Powers;LMirrorLane$Closing;I)I" } : Jvm.MethodName) ({ cls := "MirrorLane$Mende\x72", name := "leastSet", desc := "(LMirrorLane$Word;LMirrorLane$Powers;LMirrorLane$Closing;I)I" } : Jvm.MethodName)) ∈ ml_T := ml_in (ml_t4 (List.mem_of_getElem? (i := 125) rfl)) rfl
theorem tw_4_126 : (Jvm.Cond.code ({ cls := "MirrorLane$Mende\x72", name := "leastSet", desc := "(LMirrorLane$Word;LMirrorLane$Powers;LMirrorLane$Closing;I)I" } : Jvm.MethodName) prog_7_method_2_code (12 : Nat) (Option.some Jvm.ClassFile.FieldType.int)) ∈ ml_T := ml_in (ml_t4 (List.mem_of_getElem? (i := 126) rfl)) rfl
theorem tw_4_145 : (Jvm.Cond.methodLink "MirrorLane" (258 : Nat) ({ cls := "MirrorLane", name := "leavesAsTold", desc := "(II)Z" } : Jvm.MethodName)) ∈ ml_T := ml_in (ml_t4 (List.mem_of_getElem? (i := 145) rfl)) rfl
theorem tw_4_147 : (Jvm.Cond.instanceMethod ({ cls := "MirrorLane", name := "leavesAsTold", desc := "(II)Z" } : Jvm.MethodName)) ∈ ml_T := ml_in (ml_t4 (List.mem_of_getElem? (i := 147) rfl)) rfl
theorem tv_32 : Cond.selects "MirrorLane" ⟨"MirrorLane", "leavesAsTold", "(II)Z"⟩ ⟨"MirrorLane", "leavesAsTold", "(II)Z"⟩ ∈ ml_T := ml_in (List.mem_append_left _ (List.mem_map.mpr ⟨(⟨"MirrorLane", "leavesAsTold", "(II)Z"⟩, 13), (show _ ∈ lw_privs from List.mem_append_right _ (List.mem_append_right _ (List.mem_append_left _ (List.mem_of_getElem? (i := 0) rfl)))), rfl⟩)) rfl
theorem tw_4_148 : (Jvm.Cond.code ({ cls := "MirrorLane", name := "leavesAsTold", desc := "(II)Z" } : Jvm.MethodName) prog_1_method_37_code (4 : Nat) (Option.some Jvm.ClassFile.FieldType.boolean)) ∈ ml_T := ml_in (ml_t4 (List.mem_of_getElem? (i := 148) rfl)) rfl
theorem tw_4_159 : (Jvm.Cond.methodLink "MirrorLane" (267 : Nat) ({ cls := "MirrorLane$Loom", name := "writeOut", desc := "(LMirrorLane$Word;[LMirrorLane$Word;)V" } : Jvm.MethodName)) ∈ ml_T := ml_in (ml_t4 (List.mem_of_getElem? (i := 159) rfl)) rfl
theorem tw_4_160 : (Jvm.Cond.instanceMethod ({ cls := "MirrorLane$Loom", name := "writeOut", desc := "(LMirrorLane$Word;[LMirrorLane$Word;)V" } : Jvm.MethodName)) ∈ ml_T := ml_in (ml_t4 (List.mem_of_getElem? (i := 160) rfl)) rfl
theorem tw_4_161 : (Jvm.Cond.selects "MirrorLane$Loom" ({ cls := "MirrorLane$Loom", name := "writeOut", desc := "(LMirrorLane$Word;[LMirrorLane$Word;)V" } : Jvm.MethodName) ({ cls := "MirrorLane$Loom", name := "writeOut", desc := "(LMirrorLane$Word;[LMirrorLane$Word;)V" } : Jvm.MethodName)) ∈ ml_T := ml_in (ml_t4 (List.mem_of_getElem? (i := 161) rfl)) rfl
theorem tw_4_162 : (Jvm.Cond.code ({ cls := "MirrorLane$Loom", name := "writeOut", desc := "(LMirrorLane$Word;[LMirrorLane$Word;)V" } : Jvm.MethodName) prog_6_method_7_code (6 : Nat) (Option.none : Option Jvm.ClassFile.FieldType)) ∈ ml_T := ml_in (ml_t4 (List.mem_of_getElem? (i := 162) rfl)) rfl
theorem tw_4_173 : (Jvm.Cond.methodLink "MirrorLane" (271 : Nat) ({ cls := "MirrorLane$Word", name := "follow", desc := "(III)I" } : Jvm.MethodName)) ∈ ml_T := ml_in (ml_t4 (List.mem_of_getElem? (i := 173) rfl)) rfl
theorem tw_4_174 : (Jvm.Cond.instanceMethod ({ cls := "MirrorLane$Word", name := "follow", desc := "(III)I" } : Jvm.MethodName)) ∈ ml_T := ml_in (ml_t4 (List.mem_of_getElem? (i := 174) rfl)) rfl
theorem tw_4_175 : (Jvm.Cond.selects "MirrorLane$Word" ({ cls := "MirrorLane$Word", name := "follow", desc := "(III)I" } : Jvm.MethodName) ({ cls := "MirrorLane$Word", name := "follow", desc := "(III)I" } : Jvm.MethodName)) ∈ ml_T := ml_in (ml_t4 (List.mem_of_getElem? (i := 175) rfl)) rfl
theorem tw_4_176 : (Jvm.Cond.code ({ cls := "MirrorLane$Word", name := "follow", desc := "(III)I" } : Jvm.MethodName) prog_12_method_3_code (11 : Nat) (Option.some Jvm.ClassFile.FieldType.int)) ∈ ml_T := ml_in (ml_t4 (List.mem_of_getElem? (i := 176) rfl)) rfl
theorem tw_2_211 : (Jvm.Cond.methodLink "MirrorLane" (281 : Nat) ({ cls := "MirrorLane$Gramma\x72", name := "faultIn", desc := "([BIII)I" } : Jvm.MethodName)) ∈ ml_T := ml_in (ml_t2 (List.mem_of_getElem? (i := 211) rfl)) rfl
theorem tw_2_212 : (Jvm.Cond.instanceMethod ({ cls := "MirrorLane$Gramma\x72", name := "faultIn", desc := "([BIII)I" } : Jvm.MethodName)) ∈ ml_T := ml_in (ml_t2 (List.mem_of_getElem? (i := 212) rfl)) rfl
theorem tw_2_213 : (Jvm.Cond.selects "MirrorLane$Gramma\x72" ({ cls := "MirrorLane$Gramma\x72", name := "faultIn", desc := "([BIII)I" } : Jvm.MethodName) ({ cls := "MirrorLane$Gramma\x72", name := "faultIn", desc := "([BIII)I" } : Jvm.MethodName)) ∈ ml_T := ml_in (ml_t2 (List.mem_of_getElem? (i := 213) rfl)) rfl
theorem tw_2_214 : (Jvm.Cond.code ({ cls := "MirrorLane$Gramma\x72", name := "faultIn", desc := "([BIII)I" } : Jvm.MethodName) prog_4_method_4_code (5 : Nat) (Option.some Jvm.ClassFile.FieldType.int)) ∈ ml_T := ml_in (ml_t2 (List.mem_of_getElem? (i := 214) rfl)) rfl
theorem tw_3_9 : (Jvm.Cond.methodLink "MirrorLane" (285 : Nat) ({ cls := "MirrorLane$Loom", name := "weave", desc := "([BI[LMirrorLane$Word;LMirrorLane$Weave;I)V" } : Jvm.MethodName)) ∈ ml_T := ml_in (ml_t3 (List.mem_of_getElem? (i := 9) rfl)) rfl
theorem tw_3_10 : (Jvm.Cond.instanceMethod ({ cls := "MirrorLane$Loom", name := "weave", desc := "([BI[LMirrorLane$Word;LMirrorLane$Weave;I)V" } : Jvm.MethodName)) ∈ ml_T := ml_in (ml_t3 (List.mem_of_getElem? (i := 10) rfl)) rfl
theorem tw_3_11 : (Jvm.Cond.selects "MirrorLane$Loom" ({ cls := "MirrorLane$Loom", name := "weave", desc := "([BI[LMirrorLane$Word;LMirrorLane$Weave;I)V" } : Jvm.MethodName) ({ cls := "MirrorLane$Loom", name := "weave", desc := "([BI[LMirrorLane$Word;LMirrorLane$Weave;I)V" } : Jvm.MethodName)) ∈ ml_T := ml_in (ml_t3 (List.mem_of_getElem? (i := 11) rfl)) rfl
theorem tw_3_12 : (Jvm.Cond.code ({ cls := "MirrorLane$Loom", name := "weave", desc := "([BI[LMirrorLane$Word;LMirrorLane$Weave;I)V" } : Jvm.MethodName) prog_6_method_2_code (8 : Nat) (Option.none : Option Jvm.ClassFile.FieldType)) ∈ ml_T := ml_in (ml_t3 (List.mem_of_getElem? (i := 12) rfl)) rfl
theorem tw_3_84 : (Jvm.Cond.methodLink "MirrorLane" (289 : Nat) ({ cls := "MirrorLane$Gramma\x72", name := "faultAt", desc := "(II)I" } : Jvm.MethodName)) ∈ ml_T := ml_in (ml_t3 (List.mem_of_getElem? (i := 84) rfl)) rfl
theorem tw_2_224 : (Jvm.Cond.static ({ cls := "MirrorLane$Gramma\x72", name := "faultAt", desc := "(II)I" } : Jvm.MethodName)) ∈ ml_T := ml_in (ml_t2 (List.mem_of_getElem? (i := 224) rfl)) rfl
theorem tw_2_225 : (Jvm.Cond.code ({ cls := "MirrorLane$Gramma\x72", name := "faultAt", desc := "(II)I" } : Jvm.MethodName) prog_4_method_2_code (2 : Nat) (Option.some Jvm.ClassFile.FieldType.int)) ∈ ml_T := ml_in (ml_t2 (List.mem_of_getElem? (i := 225) rfl)) rfl
theorem tw_3_85 : (Jvm.Cond.methodLink "MirrorLane" (292 : Nat) ({ cls := "MirrorLane$Word", name := "setText", desc := "([BI)V" } : Jvm.MethodName)) ∈ ml_T := ml_in (ml_t3 (List.mem_of_getElem? (i := 85) rfl)) rfl
theorem tw_3_86 : (Jvm.Cond.instanceMethod ({ cls := "MirrorLane$Word", name := "setText", desc := "([BI)V" } : Jvm.MethodName)) ∈ ml_T := ml_in (ml_t3 (List.mem_of_getElem? (i := 86) rfl)) rfl
theorem tw_3_87 : (Jvm.Cond.selects "MirrorLane$Word" ({ cls := "MirrorLane$Word", name := "setText", desc := "([BI)V" } : Jvm.MethodName) ({ cls := "MirrorLane$Word", name := "setText", desc := "([BI)V" } : Jvm.MethodName)) ∈ ml_T := ml_in (ml_t3 (List.mem_of_getElem? (i := 87) rfl)) rfl
theorem tw_3_88 : (Jvm.Cond.code ({ cls := "MirrorLane$Word", name := "setText", desc := "([BI)V" } : Jvm.MethodName) prog_12_method_2_code (4 : Nat) (Option.none : Option Jvm.ClassFile.FieldType)) ∈ ml_T := ml_in (ml_t3 (List.mem_of_getElem? (i := 88) rfl)) rfl
theorem tw_3_92 : (Jvm.Cond.methodLink "MirrorLane" (301 : Nat) ({ cls := "MirrorLane", name := "weaveFrom", desc := "(I)V" } : Jvm.MethodName)) ∈ ml_T := ml_in (ml_t3 (List.mem_of_getElem? (i := 92) rfl)) rfl
theorem tw_3_94 : (Jvm.Cond.instanceMethod ({ cls := "MirrorLane", name := "weaveFrom", desc := "(I)V" } : Jvm.MethodName)) ∈ ml_T := ml_in (ml_t3 (List.mem_of_getElem? (i := 94) rfl)) rfl
theorem tv_14 : Cond.selects "MirrorLane" ⟨"MirrorLane", "weaveFrom", "(I)V"⟩ ⟨"MirrorLane", "weaveFrom", "(I)V"⟩ ∈ ml_T := ml_in (List.mem_append_left _ (List.mem_map.mpr ⟨(⟨"MirrorLane", "weaveFrom", "(I)V"⟩, 13), (show _ ∈ lw_privs from List.mem_append_left _ (List.mem_of_getElem? (i := 14) rfl)), rfl⟩)) rfl
theorem tw_3_95 : (Jvm.Cond.code ({ cls := "MirrorLane", name := "weaveFrom", desc := "(I)V" } : Jvm.MethodName) prog_1_method_35_code (4 : Nat) (Option.none : Option Jvm.ClassFile.FieldType)) ∈ ml_T := ml_in (ml_t3 (List.mem_of_getElem? (i := 95) rfl)) rfl
theorem tw_3_96 : (Jvm.Cond.methodLink "MirrorLane" (307 : Nat) ({ cls := "MirrorLane$Sentences", name := "forget", desc := "()V" } : Jvm.MethodName)) ∈ ml_T := ml_in (ml_t3 (List.mem_of_getElem? (i := 96) rfl)) rfl
theorem tw_3_97 : (Jvm.Cond.instanceMethod ({ cls := "MirrorLane$Sentences", name := "forget", desc := "()V" } : Jvm.MethodName)) ∈ ml_T := ml_in (ml_t3 (List.mem_of_getElem? (i := 97) rfl)) rfl
theorem tw_3_98 : (Jvm.Cond.selects "MirrorLane$Sentences" ({ cls := "MirrorLane$Sentences", name := "forget", desc := "()V" } : Jvm.MethodName) ({ cls := "MirrorLane$Sentences", name := "forget", desc := "()V" } : Jvm.MethodName)) ∈ ml_T := ml_in (ml_t3 (List.mem_of_getElem? (i := 98) rfl)) rfl
theorem tw_3_99 : (Jvm.Cond.code ({ cls := "MirrorLane$Sentences", name := "forget", desc := "()V" } : Jvm.MethodName) prog_9_method_2_code (1 : Nat) (Option.none : Option Jvm.ClassFile.FieldType)) ∈ ml_T := ml_in (ml_t3 (List.mem_of_getElem? (i := 99) rfl)) rfl
theorem tw_4_27 : (Jvm.Cond.methodLink "MirrorLane" (310 : Nat) ({ cls := "java/lang/Intege\x72", name := "bitCount", desc := "(I)I" } : Jvm.MethodName)) ∈ ml_T := ml_in (ml_t4 (List.mem_of_getElem? (i := 27) rfl)) rfl
theorem tw_3_169 : (Jvm.Cond.static ({ cls := "java/lang/Intege\x72", name := "bitCount", desc := "(I)I" } : Jvm.MethodName)) ∈ ml_T := ml_in (ml_t3 (List.mem_of_getElem? (i := 169) rfl)) rfl
theorem tw_1_16 : (Jvm.Cond.initialized "java/lang/Intege\x72") ∈ ml_T := ml_in (ml_t1 (List.mem_of_getElem? (i := 16) rfl)) rfl
theorem tw_3_170 : (Jvm.Cond.code ({ cls := "java/lang/Intege\x72", name := "bitCount", desc := "(I)I" } : Jvm.MethodName) prog_15_method_49_code (1 : Nat) (Option.some Jvm.ClassFile.FieldType.int)) ∈ ml_T := ml_in (ml_t3 (List.mem_of_getElem? (i := 170) rfl)) rfl
theorem tw_4_28 : (Jvm.Cond.methodLink "MirrorLane" (315 : Nat) ({ cls := "MirrorLane$Sentences", name := "open", desc := "(I[LMirrorLane$Word;I)V" } : Jvm.MethodName)) ∈ ml_T := ml_in (ml_t4 (List.mem_of_getElem? (i := 28) rfl)) rfl
theorem tw_4_29 : (Jvm.Cond.instanceMethod ({ cls := "MirrorLane$Sentences", name := "open", desc := "(I[LMirrorLane$Word;I)V" } : Jvm.MethodName)) ∈ ml_T := ml_in (ml_t4 (List.mem_of_getElem? (i := 29) rfl)) rfl
theorem tw_4_30 : (Jvm.Cond.selects "MirrorLane$Sentences" ({ cls := "MirrorLane$Sentences", name := "open", desc := "(I[LMirrorLane$Word;I)V" } : Jvm.MethodName) ({ cls := "MirrorLane$Sentences", name := "open", desc := "(I[LMirrorLane$Word;I)V" } : Jvm.MethodName)) ∈ ml_T := ml_in (ml_t4 (List.mem_of_getElem? (i := 30) rfl)) rfl
theorem tw_4_31 : (Jvm.Cond.code ({ cls := "MirrorLane$Sentences", name := "open", desc := "(I[LMirrorLane$Word;I)V" } : Jvm.MethodName) prog_9_method_3_code (5 : Nat) (Option.none : Option Jvm.ClassFile.FieldType)) ∈ ml_T := ml_in (ml_t4 (List.mem_of_getElem? (i := 31) rfl)) rfl
theorem tw_4_149 : (Jvm.Cond.methodLink "MirrorLane" (319 : Nat) ({ cls := "MirrorLane$Tape", name := "numbe\x72", desc := "(I)J" } : Jvm.MethodName)) ∈ ml_T := ml_in (ml_t4 (List.mem_of_getElem? (i := 149) rfl)) rfl
theorem tw_4_150 : (Jvm.Cond.instanceMethod ({ cls := "MirrorLane$Tape", name := "numbe\x72", desc := "(I)J" } : Jvm.MethodName)) ∈ ml_T := ml_in (ml_t4 (List.mem_of_getElem? (i := 150) rfl)) rfl
theorem tw_4_151 : (Jvm.Cond.selects "MirrorLane$Tape" ({ cls := "MirrorLane$Tape", name := "numbe\x72", desc := "(I)J" } : Jvm.MethodName) ({ cls := "MirrorLane$Tape", name := "numbe\x72", desc := "(I)J" } : Jvm.MethodName)) ∈ ml_T := ml_in (ml_t4 (List.mem_of_getElem? (i := 151) rfl)) rfl
theorem tw_4_152 : (Jvm.Cond.code ({ cls := "MirrorLane$Tape", name := "numbe\x72", desc := "(I)J" } : Jvm.MethodName) prog_10_method_3_code (5 : Nat) (Option.some Jvm.ClassFile.FieldType.long)) ∈ ml_T := ml_in (ml_t4 (List.mem_of_getElem? (i := 152) rfl)) rfl
theorem tw_5_145 : (Jvm.Cond.methodLink "MirrorLaneModel" (143 : Nat) ({ cls := "MirrorLaneModel", name := "lies", desc := "(JJJ)Z" } : Jvm.MethodName)) ∈ ml_T := ml_in (ml_t5 (List.mem_of_getElem? (i := 145) rfl)) rfl
theorem tw_5_146 : (Jvm.Cond.static ({ cls := "MirrorLaneModel", name := "lies", desc := "(JJJ)Z" } : Jvm.MethodName)) ∈ ml_T := ml_in (ml_t5 (List.mem_of_getElem? (i := 146) rfl)) rfl
theorem tw_5_147 : (Jvm.Cond.code ({ cls := "MirrorLaneModel", name := "lies", desc := "(JJJ)Z" } : Jvm.MethodName) prog_14_method_2_code (6 : Nat) (Option.some Jvm.ClassFile.FieldType.boolean)) ∈ ml_T := ml_in (ml_t5 (List.mem_of_getElem? (i := 147) rfl)) rfl
theorem tw_5_152 : (Jvm.Cond.methodLink "MirrorLaneModel" (158 : Nat) ({ cls := "MirrorLaneModel", name := "push", desc := "(I)V" } : Jvm.MethodName)) ∈ ml_T := ml_in (ml_t5 (List.mem_of_getElem? (i := 152) rfl)) rfl
theorem tw_5_154 : (Jvm.Cond.instanceMethod ({ cls := "MirrorLaneModel", name := "push", desc := "(I)V" } : Jvm.MethodName)) ∈ ml_T := ml_in (ml_t5 (List.mem_of_getElem? (i := 154) rfl)) rfl
theorem tv_33 : Cond.selects "MirrorLaneModel" ⟨"MirrorLaneModel", "push", "(I)V"⟩ ⟨"MirrorLaneModel", "push", "(I)V"⟩ ∈ ml_T := ml_in (List.mem_append_left _ (List.mem_map.mpr ⟨(⟨"MirrorLaneModel", "push", "(I)V"⟩, 62), (show _ ∈ lw_privs from List.mem_append_right _ (List.mem_append_right _ (List.mem_append_left _ (List.mem_of_getElem? (i := 1) rfl)))), rfl⟩)) rfl
theorem tw_5_155 : (Jvm.Cond.code ({ cls := "MirrorLaneModel", name := "push", desc := "(I)V" } : Jvm.MethodName) prog_14_method_6_code (3 : Nat) (Option.none : Option Jvm.ClassFile.FieldType)) ∈ ml_T := ml_in (ml_t5 (List.mem_of_getElem? (i := 155) rfl)) rfl
theorem tw_5_177 : (Jvm.Cond.methodLink "MirrorLaneModel" (171 : Nat) ({ cls := "MirrorLaneModel", name := "here", desc := "()I" } : Jvm.MethodName)) ∈ ml_T := ml_in (ml_t5 (List.mem_of_getElem? (i := 177) rfl)) rfl
theorem tw_5_179 : (Jvm.Cond.instanceMethod ({ cls := "MirrorLaneModel", name := "here", desc := "()I" } : Jvm.MethodName)) ∈ ml_T := ml_in (ml_t5 (List.mem_of_getElem? (i := 179) rfl)) rfl
theorem tv_38 : Cond.selects "MirrorLaneModel" ⟨"MirrorLaneModel", "here", "()I"⟩ ⟨"MirrorLaneModel", "here", "()I"⟩ ∈ ml_T := ml_in (List.mem_append_left _ (List.mem_map.mpr ⟨(⟨"MirrorLaneModel", "here", "()I"⟩, 62), (show _ ∈ lw_privs from List.mem_append_right _ (List.mem_append_right _ (List.mem_append_left _ (List.mem_of_getElem? (i := 6) rfl)))), rfl⟩)) rfl
theorem tw_5_180 : (Jvm.Cond.code ({ cls := "MirrorLaneModel", name := "here", desc := "()I" } : Jvm.MethodName) prog_14_method_8_code (1 : Nat) (Option.some Jvm.ClassFile.FieldType.int)) ∈ ml_T := ml_in (ml_t5 (List.mem_of_getElem? (i := 180) rfl)) rfl
theorem tw_5_188 : (Jvm.Cond.methodLink "MirrorLaneModel" (178 : Nat) ({ cls := "MirrorLaneModel", name := "wrongs", desc := "(II)V" } : Jvm.MethodName)) ∈ ml_T := ml_in (ml_t5 (List.mem_of_getElem? (i := 188) rfl)) rfl
theorem tw_5_190 : (Jvm.Cond.instanceMethod ({ cls := "MirrorLaneModel", name := "wrongs", desc := "(II)V" } : Jvm.MethodName)) ∈ ml_T := ml_in (ml_t5 (List.mem_of_getElem? (i := 190) rfl)) rfl
theorem tv_40 : Cond.selects "MirrorLaneModel" ⟨"MirrorLaneModel", "wrongs", "(II)V"⟩ ⟨"MirrorLaneModel", "wrongs", "(II)V"⟩ ∈ ml_T := ml_in (List.mem_append_left _ (List.mem_map.mpr ⟨(⟨"MirrorLaneModel", "wrongs", "(II)V"⟩, 62), (show _ ∈ lw_privs from List.mem_append_right _ (List.mem_append_right _ (List.mem_append_left _ (List.mem_of_getElem? (i := 8) rfl)))), rfl⟩)) rfl
theorem tw_5_191 : (Jvm.Cond.code ({ cls := "MirrorLaneModel", name := "wrongs", desc := "(II)V" } : Jvm.MethodName) prog_14_method_9_code (3 : Nat) (Option.none : Option Jvm.ClassFile.FieldType)) ∈ ml_T := ml_in (ml_t5 (List.mem_of_getElem? (i := 191) rfl)) rfl
theorem tw_5_185 : (Jvm.Cond.methodLink "MirrorLaneModel" (182 : Nat) ({ cls := "MirrorLaneModel", name := "isDigit", desc := "(I)Z" } : Jvm.MethodName)) ∈ ml_T := ml_in (ml_t5 (List.mem_of_getElem? (i := 185) rfl)) rfl
theorem tw_5_186 : (Jvm.Cond.static ({ cls := "MirrorLaneModel", name := "isDigit", desc := "(I)Z" } : Jvm.MethodName)) ∈ ml_T := ml_in (ml_t5 (List.mem_of_getElem? (i := 186) rfl)) rfl
theorem tw_5_187 : (Jvm.Cond.code ({ cls := "MirrorLaneModel", name := "isDigit", desc := "(I)Z" } : Jvm.MethodName) prog_14_method_11_code (1 : Nat) (Option.some Jvm.ClassFile.FieldType.boolean)) ∈ ml_T := ml_in (ml_t5 (List.mem_of_getElem? (i := 187) rfl)) rfl
theorem tw_5_173 : (Jvm.Cond.methodLink "MirrorLaneModel" (186 : Nat) ({ cls := "MirrorLaneModel", name := "isGood", desc := "()Z" } : Jvm.MethodName)) ∈ ml_T := ml_in (ml_t5 (List.mem_of_getElem? (i := 173) rfl)) rfl
theorem tw_5_175 : (Jvm.Cond.instanceMethod ({ cls := "MirrorLaneModel", name := "isGood", desc := "()Z" } : Jvm.MethodName)) ∈ ml_T := ml_in (ml_t5 (List.mem_of_getElem? (i := 175) rfl)) rfl
theorem tv_37 : Cond.selects "MirrorLaneModel" ⟨"MirrorLaneModel", "isGood", "()Z"⟩ ⟨"MirrorLaneModel", "isGood", "()Z"⟩ ∈ ml_T := ml_in (List.mem_append_left _ (List.mem_map.mpr ⟨(⟨"MirrorLaneModel", "isGood", "()Z"⟩, 62), (show _ ∈ lw_privs from List.mem_append_right _ (List.mem_append_right _ (List.mem_append_left _ (List.mem_of_getElem? (i := 5) rfl)))), rfl⟩)) rfl
theorem tw_5_176 : (Jvm.Cond.code ({ cls := "MirrorLaneModel", name := "isGood", desc := "()Z" } : Jvm.MethodName) prog_14_method_10_code (1 : Nat) (Option.some Jvm.ClassFile.FieldType.boolean)) ∈ ml_T := ml_in (ml_t5 (List.mem_of_getElem? (i := 176) rfl)) rfl
theorem tw_5_181 : (Jvm.Cond.methodLink "MirrorLaneModel" (190 : Nat) ({ cls := "MirrorLaneModel", name := "repeatsTold", desc := "()V" } : Jvm.MethodName)) ∈ ml_T := ml_in (ml_t5 (List.mem_of_getElem? (i := 181) rfl)) rfl
theorem tw_5_183 : (Jvm.Cond.instanceMethod ({ cls := "MirrorLaneModel", name := "repeatsTold", desc := "()V" } : Jvm.MethodName)) ∈ ml_T := ml_in (ml_t5 (List.mem_of_getElem? (i := 183) rfl)) rfl
theorem tv_39 : Cond.selects "MirrorLaneModel" ⟨"MirrorLaneModel", "repeatsTold", "()V"⟩ ⟨"MirrorLaneModel", "repeatsTold", "()V"⟩ ∈ ml_T := ml_in (List.mem_append_left _ (List.mem_map.mpr ⟨(⟨"MirrorLaneModel", "repeatsTold", "()V"⟩, 62), (show _ ∈ lw_privs from List.mem_append_right _ (List.mem_append_right _ (List.mem_append_left _ (List.mem_of_getElem? (i := 7) rfl)))), rfl⟩)) rfl
theorem tw_5_184 : (Jvm.Cond.code ({ cls := "MirrorLaneModel", name := "repeatsTold", desc := "()V" } : Jvm.MethodName) prog_14_method_13_code (2 : Nat) (Option.none : Option Jvm.ClassFile.FieldType)) ∈ ml_T := ml_in (ml_t5 (List.mem_of_getElem? (i := 184) rfl)) rfl
theorem tw_5_192 : (Jvm.Cond.methodLink "MirrorLaneModel" (193 : Nat) ({ cls := "MirrorLaneModel", name := "item", desc := "(I)V" } : Jvm.MethodName)) ∈ ml_T := ml_in (ml_t5 (List.mem_of_getElem? (i := 192) rfl)) rfl
theorem tw_5_194 : (Jvm.Cond.instanceMethod ({ cls := "MirrorLaneModel", name := "item", desc := "(I)V" } : Jvm.MethodName)) ∈ ml_T := ml_in (ml_t5 (List.mem_of_getElem? (i := 194) rfl)) rfl
theorem tv_41 : Cond.selects "MirrorLaneModel" ⟨"MirrorLaneModel", "item", "(I)V"⟩ ⟨"MirrorLaneModel", "item", "(I)V"⟩ ∈ ml_T := ml_in (List.mem_append_left _ (List.mem_map.mpr ⟨(⟨"MirrorLaneModel", "item", "(I)V"⟩, 62), (show _ ∈ lw_privs from List.mem_append_right _ (List.mem_append_right _ (List.mem_append_left _ (List.mem_of_getElem? (i := 9) rfl)))), rfl⟩)) rfl
theorem tw_5_195 : (Jvm.Cond.code ({ cls := "MirrorLaneModel", name := "item", desc := "(I)V" } : Jvm.MethodName) prog_14_method_12_code (3 : Nat) (Option.none : Option Jvm.ClassFile.FieldType)) ∈ ml_T := ml_in (ml_t5 (List.mem_of_getElem? (i := 195) rfl)) rfl
theorem tw_5_204 : (Jvm.Cond.methodLink "MirrorLaneModel" (204 : Nat) ({ cls := "MirrorLaneModel", name := "read", desc := "()I" } : Jvm.MethodName)) ∈ ml_T := ml_in (ml_t5 (List.mem_of_getElem? (i := 204) rfl)) rfl
theorem tw_5_206 : (Jvm.Cond.instanceMethod ({ cls := "MirrorLaneModel", name := "read", desc := "()I" } : Jvm.MethodName)) ∈ ml_T := ml_in (ml_t5 (List.mem_of_getElem? (i := 206) rfl)) rfl
theorem tv_44 : Cond.selects "MirrorLaneModel" ⟨"MirrorLaneModel", "read", "()I"⟩ ⟨"MirrorLaneModel", "read", "()I"⟩ ∈ ml_T := ml_in (List.mem_append_left _ (List.mem_map.mpr ⟨(⟨"MirrorLaneModel", "read", "()I"⟩, 62), (show _ ∈ lw_privs from List.mem_append_right _ (List.mem_append_right _ (List.mem_append_left _ (List.mem_of_getElem? (i := 12) rfl)))), rfl⟩)) rfl
theorem tw_5_207 : (Jvm.Cond.code ({ cls := "MirrorLaneModel", name := "read", desc := "()I" } : Jvm.MethodName) prog_14_method_18_code (1 : Nat) (Option.some Jvm.ClassFile.FieldType.int)) ∈ ml_T := ml_in (ml_t5 (List.mem_of_getElem? (i := 207) rfl)) rfl
theorem tw_5_208 : (Jvm.Cond.methodLink "MirrorLaneModel" (207 : Nat) ({ cls := "MirrorLaneModel", name := "readNumbe\x72", desc := "()I" } : Jvm.MethodName)) ∈ ml_T := ml_in (ml_t5 (List.mem_of_getElem? (i := 208) rfl)) rfl
theorem tw_5_210 : (Jvm.Cond.instanceMethod ({ cls := "MirrorLaneModel", name := "readNumbe\x72", desc := "()I" } : Jvm.MethodName)) ∈ ml_T := ml_in (ml_t5 (List.mem_of_getElem? (i := 210) rfl)) rfl
theorem tv_45 : Cond.selects "MirrorLaneModel" ⟨"MirrorLaneModel", "readNumbe\x72", "()I"⟩ ⟨"MirrorLaneModel", "readNumbe\x72", "()I"⟩ ∈ ml_T := ml_in (List.mem_append_left _ (List.mem_map.mpr ⟨(⟨"MirrorLaneModel", "readNumbe\x72", "()I"⟩, 62), (show _ ∈ lw_privs from List.mem_append_right _ (List.mem_append_right _ (List.mem_append_left _ (List.mem_of_getElem? (i := 13) rfl)))), rfl⟩)) rfl
theorem tw_5_211 : (Jvm.Cond.code ({ cls := "MirrorLaneModel", name := "readNumbe\x72", desc := "()I" } : Jvm.MethodName) prog_14_method_19_code (2 : Nat) (Option.some Jvm.ClassFile.FieldType.int)) ∈ ml_T := ml_in (ml_t5 (List.mem_of_getElem? (i := 211) rfl)) rfl
theorem tw_5_212 : (Jvm.Cond.methodLink "MirrorLaneModel" (210 : Nat) ({ cls := "MirrorLaneModel", name := "times", desc := "(JJ)J" } : Jvm.MethodName)) ∈ ml_T := ml_in (ml_t5 (List.mem_of_getElem? (i := 212) rfl)) rfl
theorem tw_5_213 : (Jvm.Cond.static ({ cls := "MirrorLaneModel", name := "times", desc := "(JJ)J" } : Jvm.MethodName)) ∈ ml_T := ml_in (ml_t5 (List.mem_of_getElem? (i := 213) rfl)) rfl
theorem tw_5_214 : (Jvm.Cond.code ({ cls := "MirrorLaneModel", name := "times", desc := "(JJ)J" } : Jvm.MethodName) prog_14_method_17_code (4 : Nat) (Option.some Jvm.ClassFile.FieldType.long)) ∈ ml_T := ml_in (ml_t5 (List.mem_of_getElem? (i := 214) rfl)) rfl
theorem tw_5_216 : (Jvm.Cond.methodLink "MirrorLaneModel" (214 : Nat) ({ cls := "MirrorLaneModel", name := "plus", desc := "(JJ)J" } : Jvm.MethodName)) ∈ ml_T := ml_in (ml_t5 (List.mem_of_getElem? (i := 216) rfl)) rfl
theorem tw_5_217 : (Jvm.Cond.static ({ cls := "MirrorLaneModel", name := "plus", desc := "(JJ)J" } : Jvm.MethodName)) ∈ ml_T := ml_in (ml_t5 (List.mem_of_getElem? (i := 217) rfl)) rfl
theorem tw_5_218 : (Jvm.Cond.code ({ cls := "MirrorLaneModel", name := "plus", desc := "(JJ)J" } : Jvm.MethodName) prog_14_method_16_code (4 : Nat) (Option.some Jvm.ClassFile.FieldType.long)) ∈ ml_T := ml_in (ml_t5 (List.mem_of_getElem? (i := 218) rfl)) rfl
theorem tw_5_223 : (Jvm.Cond.methodLink "MirrorLaneModel" (217 : Nat) ({ cls := "MirrorLaneModel", name := "signsOf", desc := "(I)J" } : Jvm.MethodName)) ∈ ml_T := ml_in (ml_t5 (List.mem_of_getElem? (i := 223) rfl)) rfl
theorem tw_5_225 : (Jvm.Cond.instanceMethod ({ cls := "MirrorLaneModel", name := "signsOf", desc := "(I)J" } : Jvm.MethodName)) ∈ ml_T := ml_in (ml_t5 (List.mem_of_getElem? (i := 225) rfl)) rfl
theorem tv_47 : Cond.selects "MirrorLaneModel" ⟨"MirrorLaneModel", "signsOf", "(I)J"⟩ ⟨"MirrorLaneModel", "signsOf", "(I)J"⟩ ∈ ml_T := ml_in (List.mem_append_left _ (List.mem_map.mpr ⟨(⟨"MirrorLaneModel", "signsOf", "(I)J"⟩, 62), (show _ ∈ lw_privs from List.mem_append_right _ (List.mem_append_right _ (List.mem_append_left _ (List.mem_of_getElem? (i := 15) rfl)))), rfl⟩)) rfl
theorem tw_5_226 : (Jvm.Cond.code ({ cls := "MirrorLaneModel", name := "signsOf", desc := "(I)J" } : Jvm.MethodName) prog_14_method_21_code (2 : Nat) (Option.some Jvm.ClassFile.FieldType.long)) ∈ ml_T := ml_in (ml_t5 (List.mem_of_getElem? (i := 226) rfl)) rfl
theorem tw_5_236 : (Jvm.Cond.methodLink "MirrorLaneModel" (223 : Nat) ({ cls := "MirrorLaneModel", name := "joins", desc := "(IIIJ)V" } : Jvm.MethodName)) ∈ ml_T := ml_in (ml_t5 (List.mem_of_getElem? (i := 236) rfl)) rfl
theorem tw_5_238 : (Jvm.Cond.instanceMethod ({ cls := "MirrorLaneModel", name := "joins", desc := "(IIIJ)V" } : Jvm.MethodName)) ∈ ml_T := ml_in (ml_t5 (List.mem_of_getElem? (i := 238) rfl)) rfl
theorem tv_50 : Cond.selects "MirrorLaneModel" ⟨"MirrorLaneModel", "joins", "(IIIJ)V"⟩ ⟨"MirrorLaneModel", "joins", "(IIIJ)V"⟩ ∈ ml_T := ml_in (List.mem_append_left _ (List.mem_map.mpr ⟨(⟨"MirrorLaneModel", "joins", "(IIIJ)V"⟩, 62), (show _ ∈ lw_privs from List.mem_append_right _ (List.mem_append_right _ (List.mem_append_right _ (List.mem_append_left _ (List.mem_of_getElem? (i := 2) rfl))))), rfl⟩)) rfl
theorem tw_5_239 : (Jvm.Cond.code ({ cls := "MirrorLaneModel", name := "joins", desc := "(IIIJ)V" } : Jvm.MethodName) prog_14_method_23_code (6 : Nat) (Option.none : Option Jvm.ClassFile.FieldType)) ∈ ml_T := ml_in (ml_t5 (List.mem_of_getElem? (i := 239) rfl)) rfl
theorem tw_5_232 : (Jvm.Cond.methodLink "MirrorLaneModel" (227 : Nat) ({ cls := "MirrorLaneModel", name := "straight", desc := "(I)V" } : Jvm.MethodName)) ∈ ml_T := ml_in (ml_t5 (List.mem_of_getElem? (i := 232) rfl)) rfl
theorem tw_5_234 : (Jvm.Cond.instanceMethod ({ cls := "MirrorLaneModel", name := "straight", desc := "(I)V" } : Jvm.MethodName)) ∈ ml_T := ml_in (ml_t5 (List.mem_of_getElem? (i := 234) rfl)) rfl
theorem tv_49 : Cond.selects "MirrorLaneModel" ⟨"MirrorLaneModel", "straight", "(I)V"⟩ ⟨"MirrorLaneModel", "straight", "(I)V"⟩ ∈ ml_T := ml_in (List.mem_append_left _ (List.mem_map.mpr ⟨(⟨"MirrorLaneModel", "straight", "(I)V"⟩, 62), (show _ ∈ lw_privs from List.mem_append_right _ (List.mem_append_right _ (List.mem_append_right _ (List.mem_append_left _ (List.mem_of_getElem? (i := 1) rfl))))), rfl⟩)) rfl
theorem tw_5_235 : (Jvm.Cond.code ({ cls := "MirrorLaneModel", name := "straight", desc := "(I)V" } : Jvm.MethodName) prog_14_method_24_code (3 : Nat) (Option.none : Option Jvm.ClassFile.FieldType)) ∈ ml_T := ml_in (ml_t5 (List.mem_of_getElem? (i := 235) rfl)) rfl
theorem tw_6_16 : (Jvm.Cond.methodLink "MirrorLaneModel" (234 : Nat) ({ cls := "MirrorLaneModel", name := "leads", desc := "(IIZI)I" } : Jvm.MethodName)) ∈ ml_T := ml_in (ml_t6 (List.mem_of_getElem? (i := 16) rfl)) rfl
theorem tw_6_18 : (Jvm.Cond.instanceMethod ({ cls := "MirrorLaneModel", name := "leads", desc := "(IIZI)I" } : Jvm.MethodName)) ∈ ml_T := ml_in (ml_t6 (List.mem_of_getElem? (i := 18) rfl)) rfl
theorem tv_55 : Cond.selects "MirrorLaneModel" ⟨"MirrorLaneModel", "leads", "(IIZI)I"⟩ ⟨"MirrorLaneModel", "leads", "(IIZI)I"⟩ ∈ ml_T := ml_in (List.mem_append_left _ (List.mem_map.mpr ⟨(⟨"MirrorLaneModel", "leads", "(IIZI)I"⟩, 62), (show _ ∈ lw_privs from List.mem_append_right _ (List.mem_append_right _ (List.mem_append_right _ (List.mem_append_left _ (List.mem_of_getElem? (i := 7) rfl))))), rfl⟩)) rfl
theorem tw_6_19 : (Jvm.Cond.code ({ cls := "MirrorLaneModel", name := "leads", desc := "(IIZI)I" } : Jvm.MethodName) prog_14_method_27_code (9 : Nat) (Option.some Jvm.ClassFile.FieldType.int)) ∈ ml_T := ml_in (ml_t6 (List.mem_of_getElem? (i := 19) rfl)) rfl
theorem tw_6_20 : (Jvm.Cond.methodLink "MirrorLaneModel" (238 : Nat) ({ cls := "MirrorLaneModel", name := "ring", desc := "(IIII)V" } : Jvm.MethodName)) ∈ ml_T := ml_in (ml_t6 (List.mem_of_getElem? (i := 20) rfl)) rfl
theorem tw_6_22 : (Jvm.Cond.instanceMethod ({ cls := "MirrorLaneModel", name := "ring", desc := "(IIII)V" } : Jvm.MethodName)) ∈ ml_T := ml_in (ml_t6 (List.mem_of_getElem? (i := 22) rfl)) rfl
theorem tv_56 : Cond.selects "MirrorLaneModel" ⟨"MirrorLaneModel", "ring", "(IIII)V"⟩ ⟨"MirrorLaneModel", "ring", "(IIII)V"⟩ ∈ ml_T := ml_in (List.mem_append_left _ (List.mem_map.mpr ⟨(⟨"MirrorLaneModel", "ring", "(IIII)V"⟩, 62), (show _ ∈ lw_privs from List.mem_append_right _ (List.mem_append_right _ (List.mem_append_right _ (List.mem_append_left _ (List.mem_of_getElem? (i := 8) rfl))))), rfl⟩)) rfl
theorem tw_6_23 : (Jvm.Cond.code ({ cls := "MirrorLaneModel", name := "ring", desc := "(IIII)V" } : Jvm.MethodName) prog_14_method_28_code (9 : Nat) (Option.none : Option Jvm.ClassFile.FieldType)) ∈ ml_T := ml_in (ml_t6 (List.mem_of_getElem? (i := 23) rfl)) rfl
theorem tw_6_8 : (Jvm.Cond.methodLink "MirrorLaneModel" (242 : Nat) ({ cls := "MirrorLaneModel", name := "copies", desc := "(II)V" } : Jvm.MethodName)) ∈ ml_T := ml_in (ml_t6 (List.mem_of_getElem? (i := 8) rfl)) rfl
theorem tw_6_10 : (Jvm.Cond.instanceMethod ({ cls := "MirrorLaneModel", name := "copies", desc := "(II)V" } : Jvm.MethodName)) ∈ ml_T := ml_in (ml_t6 (List.mem_of_getElem? (i := 10) rfl)) rfl
theorem tv_53 : Cond.selects "MirrorLaneModel" ⟨"MirrorLaneModel", "copies", "(II)V"⟩ ⟨"MirrorLaneModel", "copies", "(II)V"⟩ ∈ ml_T := ml_in (List.mem_append_left _ (List.mem_map.mpr ⟨(⟨"MirrorLaneModel", "copies", "(II)V"⟩, 62), (show _ ∈ lw_privs from List.mem_append_right _ (List.mem_append_right _ (List.mem_append_right _ (List.mem_append_left _ (List.mem_of_getElem? (i := 5) rfl))))), rfl⟩)) rfl
theorem tw_6_11 : (Jvm.Cond.code ({ cls := "MirrorLaneModel", name := "copies", desc := "(II)V" } : Jvm.MethodName) prog_14_method_26_code (4 : Nat) (Option.none : Option Jvm.ClassFile.FieldType)) ∈ ml_T := ml_in (ml_t6 (List.mem_of_getElem? (i := 11) rfl)) rfl
theorem tw_6_12 : (Jvm.Cond.methodLink "MirrorLaneModel" (245 : Nat) ({ cls := "MirrorLaneModel", name := "lays", desc := "(III)V" } : Jvm.MethodName)) ∈ ml_T := ml_in (ml_t6 (List.mem_of_getElem? (i := 12) rfl)) rfl
theorem tw_6_14 : (Jvm.Cond.instanceMethod ({ cls := "MirrorLaneModel", name := "lays", desc := "(III)V" } : Jvm.MethodName)) ∈ ml_T := ml_in (ml_t6 (List.mem_of_getElem? (i := 14) rfl)) rfl
theorem tv_54 : Cond.selects "MirrorLaneModel" ⟨"MirrorLaneModel", "lays", "(III)V"⟩ ⟨"MirrorLaneModel", "lays", "(III)V"⟩ ∈ ml_T := ml_in (List.mem_append_left _ (List.mem_map.mpr ⟨(⟨"MirrorLaneModel", "lays", "(III)V"⟩, 62), (show _ ∈ lw_privs from List.mem_append_right _ (List.mem_append_right _ (List.mem_append_right _ (List.mem_append_left _ (List.mem_of_getElem? (i := 6) rfl))))), rfl⟩)) rfl
theorem tw_6_15 : (Jvm.Cond.code ({ cls := "MirrorLaneModel", name := "lays", desc := "(III)V" } : Jvm.MethodName) prog_14_method_29_code (6 : Nat) (Option.none : Option Jvm.ClassFile.FieldType)) ∈ ml_T := ml_in (ml_t6 (List.mem_of_getElem? (i := 15) rfl)) rfl
theorem tw_6_4 : (Jvm.Cond.methodLink "MirrorLaneModel" (249 : Nat) ({ cls := "MirrorLaneModel", name := "repeats", desc := "(II)V" } : Jvm.MethodName)) ∈ ml_T := ml_in (ml_t6 (List.mem_of_getElem? (i := 4) rfl)) rfl
theorem tw_6_6 : (Jvm.Cond.instanceMethod ({ cls := "MirrorLaneModel", name := "repeats", desc := "(II)V" } : Jvm.MethodName)) ∈ ml_T := ml_in (ml_t6 (List.mem_of_getElem? (i := 6) rfl)) rfl
theorem tv_52 : Cond.selects "MirrorLaneModel" ⟨"MirrorLaneModel", "repeats", "(II)V"⟩ ⟨"MirrorLaneModel", "repeats", "(II)V"⟩ ∈ ml_T := ml_in (List.mem_append_left _ (List.mem_map.mpr ⟨(⟨"MirrorLaneModel", "repeats", "(II)V"⟩, 62), (show _ ∈ lw_privs from List.mem_append_right _ (List.mem_append_right _ (List.mem_append_right _ (List.mem_append_left _ (List.mem_of_getElem? (i := 4) rfl))))), rfl⟩)) rfl
theorem tw_6_7 : (Jvm.Cond.code ({ cls := "MirrorLaneModel", name := "repeats", desc := "(II)V" } : Jvm.MethodName) prog_14_method_30_code (4 : Nat) (Option.none : Option Jvm.ClassFile.FieldType)) ∈ ml_T := ml_in (ml_t6 (List.mem_of_getElem? (i := 7) rfl)) rfl
theorem tw_6_24 : (Jvm.Cond.methodLink "MirrorLaneModel" (252 : Nat) ({ cls := "MirrorLaneModel", name := "goesOn", desc := "(I)V" } : Jvm.MethodName)) ∈ ml_T := ml_in (ml_t6 (List.mem_of_getElem? (i := 24) rfl)) rfl
theorem tw_6_26 : (Jvm.Cond.instanceMethod ({ cls := "MirrorLaneModel", name := "goesOn", desc := "(I)V" } : Jvm.MethodName)) ∈ ml_T := ml_in (ml_t6 (List.mem_of_getElem? (i := 26) rfl)) rfl
theorem tv_57 : Cond.selects "MirrorLaneModel" ⟨"MirrorLaneModel", "goesOn", "(I)V"⟩ ⟨"MirrorLaneModel", "goesOn", "(I)V"⟩ ∈ ml_T := ml_in (List.mem_append_left _ (List.mem_map.mpr ⟨(⟨"MirrorLaneModel", "goesOn", "(I)V"⟩, 62), (show _ ∈ lw_privs from List.mem_append_right _ (List.mem_append_right _ (List.mem_append_right _ (List.mem_append_left _ (List.mem_of_getElem? (i := 9) rfl))))), rfl⟩)) rfl
theorem tw_6_27 : (Jvm.Cond.code ({ cls := "MirrorLaneModel", name := "goesOn", desc := "(I)V" } : Jvm.MethodName) prog_14_method_31_code (2 : Nat) (Option.none : Option Jvm.ClassFile.FieldType)) ∈ ml_T := ml_in (ml_t6 (List.mem_of_getElem? (i := 27) rfl)) rfl
theorem tw_6_28 : (Jvm.Cond.methodLink "MirrorLaneModel" (255 : Nat) ({ cls := "MirrorLaneModel", name := "sign", desc := "(IZI)V" } : Jvm.MethodName)) ∈ ml_T := ml_in (ml_t6 (List.mem_of_getElem? (i := 28) rfl)) rfl
theorem tw_6_30 : (Jvm.Cond.instanceMethod ({ cls := "MirrorLaneModel", name := "sign", desc := "(IZI)V" } : Jvm.MethodName)) ∈ ml_T := ml_in (ml_t6 (List.mem_of_getElem? (i := 30) rfl)) rfl
theorem tv_58 : Cond.selects "MirrorLaneModel" ⟨"MirrorLaneModel", "sign", "(IZI)V"⟩ ⟨"MirrorLaneModel", "sign", "(IZI)V"⟩ ∈ ml_T := ml_in (List.mem_append_left _ (List.mem_map.mpr ⟨(⟨"MirrorLaneModel", "sign", "(IZI)V"⟩, 62), (show _ ∈ lw_privs from List.mem_append_right _ (List.mem_append_right _ (List.mem_append_right _ (List.mem_append_left _ (List.mem_of_getElem? (i := 10) rfl))))), rfl⟩)) rfl
theorem tw_6_31 : (Jvm.Cond.code ({ cls := "MirrorLaneModel", name := "sign", desc := "(IZI)V" } : Jvm.MethodName) prog_14_method_25_code (4 : Nat) (Option.none : Option Jvm.ClassFile.FieldType)) ∈ ml_T := ml_in (ml_t6 (List.mem_of_getElem? (i := 31) rfl)) rfl
theorem tw_5_200 : (Jvm.Cond.methodLink "MirrorLaneModel" (259 : Nat) ({ cls := "MirrorLaneModel", name := "counts", desc := "(I)V" } : Jvm.MethodName)) ∈ ml_T := ml_in (ml_t5 (List.mem_of_getElem? (i := 200) rfl)) rfl
theorem tw_5_202 : (Jvm.Cond.instanceMethod ({ cls := "MirrorLaneModel", name := "counts", desc := "(I)V" } : Jvm.MethodName)) ∈ ml_T := ml_in (ml_t5 (List.mem_of_getElem? (i := 202) rfl)) rfl
theorem tv_43 : Cond.selects "MirrorLaneModel" ⟨"MirrorLaneModel", "counts", "(I)V"⟩ ⟨"MirrorLaneModel", "counts", "(I)V"⟩ ∈ ml_T := ml_in (List.mem_append_left _ (List.mem_map.mpr ⟨(⟨"MirrorLaneModel", "counts", "(I)V"⟩, 62), (show _ ∈ lw_privs from List.mem_append_right _ (List.mem_append_right _ (List.mem_append_left _ (List.mem_of_getElem? (i := 11) rfl)))), rfl⟩)) rfl
theorem tw_5_203 : (Jvm.Cond.code ({ cls := "MirrorLaneModel", name := "counts", desc := "(I)V" } : Jvm.MethodName) prog_14_method_20_code (5 : Nat) (Option.none : Option Jvm.ClassFile.FieldType)) ∈ ml_T := ml_in (ml_t5 (List.mem_of_getElem? (i := 203) rfl)) rfl
theorem tw_5_219 : (Jvm.Cond.methodLink "MirrorLaneModel" (262 : Nat) ({ cls := "MirrorLaneModel", name := "isTooLong", desc := "(I)Z" } : Jvm.MethodName)) ∈ ml_T := ml_in (ml_t5 (List.mem_of_getElem? (i := 219) rfl)) rfl
theorem tw_5_221 : (Jvm.Cond.instanceMethod ({ cls := "MirrorLaneModel", name := "isTooLong", desc := "(I)Z" } : Jvm.MethodName)) ∈ ml_T := ml_in (ml_t5 (List.mem_of_getElem? (i := 221) rfl)) rfl
theorem tv_46 : Cond.selects "MirrorLaneModel" ⟨"MirrorLaneModel", "isTooLong", "(I)Z"⟩ ⟨"MirrorLaneModel", "isTooLong", "(I)Z"⟩ ∈ ml_T := ml_in (List.mem_append_left _ (List.mem_map.mpr ⟨(⟨"MirrorLaneModel", "isTooLong", "(I)Z"⟩, 62), (show _ ∈ lw_privs from List.mem_append_right _ (List.mem_append_right _ (List.mem_append_left _ (List.mem_of_getElem? (i := 14) rfl)))), rfl⟩)) rfl
theorem tw_5_222 : (Jvm.Cond.code ({ cls := "MirrorLaneModel", name := "isTooLong", desc := "(I)Z" } : Jvm.MethodName) prog_14_method_22_code (2 : Nat) (Option.some Jvm.ClassFile.FieldType.boolean)) ∈ ml_T := ml_in (ml_t5 (List.mem_of_getElem? (i := 222) rfl)) rfl
theorem tw_6_0 : (Jvm.Cond.methodLink "MirrorLaneModel" (265 : Nat) ({ cls := "MirrorLaneModel", name := "makes", desc := "(I)V" } : Jvm.MethodName)) ∈ ml_T := ml_in (ml_t6 (List.mem_of_getElem? (i := 0) rfl)) rfl
theorem tw_6_2 : (Jvm.Cond.instanceMethod ({ cls := "MirrorLaneModel", name := "makes", desc := "(I)V" } : Jvm.MethodName)) ∈ ml_T := ml_in (ml_t6 (List.mem_of_getElem? (i := 2) rfl)) rfl
theorem tv_51 : Cond.selects "MirrorLaneModel" ⟨"MirrorLaneModel", "makes", "(I)V"⟩ ⟨"MirrorLaneModel", "makes", "(I)V"⟩ ∈ ml_T := ml_in (List.mem_append_left _ (List.mem_map.mpr ⟨(⟨"MirrorLaneModel", "makes", "(I)V"⟩, 62), (show _ ∈ lw_privs from List.mem_append_right _ (List.mem_append_right _ (List.mem_append_right _ (List.mem_append_left _ (List.mem_of_getElem? (i := 3) rfl))))), rfl⟩)) rfl
theorem tw_6_3 : (Jvm.Cond.code ({ cls := "MirrorLaneModel", name := "makes", desc := "(I)V" } : Jvm.MethodName) prog_14_method_32_code (5 : Nat) (Option.none : Option Jvm.ClassFile.FieldType)) ∈ ml_T := ml_in (ml_t6 (List.mem_of_getElem? (i := 3) rfl)) rfl
theorem tw_5_169 : (Jvm.Cond.methodLink "MirrorLaneModel" (270 : Nat) ({ cls := "MirrorLaneModel", name := "isText", desc := "(II)Z" } : Jvm.MethodName)) ∈ ml_T := ml_in (ml_t5 (List.mem_of_getElem? (i := 169) rfl)) rfl
theorem tw_5_171 : (Jvm.Cond.instanceMethod ({ cls := "MirrorLaneModel", name := "isText", desc := "(II)Z" } : Jvm.MethodName)) ∈ ml_T := ml_in (ml_t5 (List.mem_of_getElem? (i := 171) rfl)) rfl
theorem tv_36 : Cond.selects "MirrorLaneModel" ⟨"MirrorLaneModel", "isText", "(II)Z"⟩ ⟨"MirrorLaneModel", "isText", "(II)Z"⟩ ∈ ml_T := ml_in (List.mem_append_left _ (List.mem_map.mpr ⟨(⟨"MirrorLaneModel", "isText", "(II)Z"⟩, 62), (show _ ∈ lw_privs from List.mem_append_right _ (List.mem_append_right _ (List.mem_append_left _ (List.mem_of_getElem? (i := 4) rfl)))), rfl⟩)) rfl
theorem tw_5_172 : (Jvm.Cond.code ({ cls := "MirrorLaneModel", name := "isText", desc := "(II)Z" } : Jvm.MethodName) prog_14_method_14_code (5 : Nat) (Option.some Jvm.ClassFile.FieldType.boolean)) ∈ ml_T := ml_in (ml_t5 (List.mem_of_getElem? (i := 172) rfl)) rfl
theorem tw_5_196 : (Jvm.Cond.methodLink "MirrorLaneModel" (274 : Nat) ({ cls := "MirrorLaneModel", name := "takesText", desc := "(II)V" } : Jvm.MethodName)) ∈ ml_T := ml_in (ml_t5 (List.mem_of_getElem? (i := 196) rfl)) rfl
theorem tw_5_198 : (Jvm.Cond.instanceMethod ({ cls := "MirrorLaneModel", name := "takesText", desc := "(II)V" } : Jvm.MethodName)) ∈ ml_T := ml_in (ml_t5 (List.mem_of_getElem? (i := 198) rfl)) rfl
theorem tv_42 : Cond.selects "MirrorLaneModel" ⟨"MirrorLaneModel", "takesText", "(II)V"⟩ ⟨"MirrorLaneModel", "takesText", "(II)V"⟩ ∈ ml_T := ml_in (List.mem_append_left _ (List.mem_map.mpr ⟨(⟨"MirrorLaneModel", "takesText", "(II)V"⟩, 62), (show _ ∈ lw_privs from List.mem_append_right _ (List.mem_append_right _ (List.mem_append_left _ (List.mem_of_getElem? (i := 10) rfl)))), rfl⟩)) rfl
theorem tw_5_199 : (Jvm.Cond.code ({ cls := "MirrorLaneModel", name := "takesText", desc := "(II)V" } : Jvm.MethodName) prog_14_method_15_code (4 : Nat) (Option.none : Option Jvm.ClassFile.FieldType)) ∈ ml_T := ml_in (ml_t5 (List.mem_of_getElem? (i := 199) rfl)) rfl
theorem tw_5_160 : (Jvm.Cond.methodLink "MirrorLaneModel" (277 : Nat) ({ cls := "MirrorLaneModel", name := "isLength", desc := "(I)Z" } : Jvm.MethodName)) ∈ ml_T := ml_in (ml_t5 (List.mem_of_getElem? (i := 160) rfl)) rfl
theorem tw_5_162 : (Jvm.Cond.instanceMethod ({ cls := "MirrorLaneModel", name := "isLength", desc := "(I)Z" } : Jvm.MethodName)) ∈ ml_T := ml_in (ml_t5 (List.mem_of_getElem? (i := 162) rfl)) rfl
theorem tv_34 : Cond.selects "MirrorLaneModel" ⟨"MirrorLaneModel", "isLength", "(I)Z"⟩ ⟨"MirrorLaneModel", "isLength", "(I)Z"⟩ ∈ ml_T := ml_in (List.mem_append_left _ (List.mem_map.mpr ⟨(⟨"MirrorLaneModel", "isLength", "(I)Z"⟩, 62), (show _ ∈ lw_privs from List.mem_append_right _ (List.mem_append_right _ (List.mem_append_left _ (List.mem_of_getElem? (i := 2) rfl)))), rfl⟩)) rfl
theorem tw_5_163 : (Jvm.Cond.code ({ cls := "MirrorLaneModel", name := "isLength", desc := "(I)Z" } : Jvm.MethodName) prog_14_method_34_code (2 : Nat) (Option.some Jvm.ClassFile.FieldType.boolean)) ∈ ml_T := ml_in (ml_t5 (List.mem_of_getElem? (i := 163) rfl)) rfl
theorem tw_5_165 : (Jvm.Cond.methodLink "MirrorLaneModel" (280 : Nat) ({ cls := "MirrorLaneModel", name := "told", desc := "(II)I" } : Jvm.MethodName)) ∈ ml_T := ml_in (ml_t5 (List.mem_of_getElem? (i := 165) rfl)) rfl
theorem tw_5_167 : (Jvm.Cond.instanceMethod ({ cls := "MirrorLaneModel", name := "told", desc := "(II)I" } : Jvm.MethodName)) ∈ ml_T := ml_in (ml_t5 (List.mem_of_getElem? (i := 167) rfl)) rfl
theorem tv_35 : Cond.selects "MirrorLaneModel" ⟨"MirrorLaneModel", "told", "(II)I"⟩ ⟨"MirrorLaneModel", "told", "(II)I"⟩ ∈ ml_T := ml_in (List.mem_append_left _ (List.mem_map.mpr ⟨(⟨"MirrorLaneModel", "told", "(II)I"⟩, 62), (show _ ∈ lw_privs from List.mem_append_right _ (List.mem_append_right _ (List.mem_append_left _ (List.mem_of_getElem? (i := 3) rfl)))), rfl⟩)) rfl
theorem tw_5_168 : (Jvm.Cond.code ({ cls := "MirrorLaneModel", name := "told", desc := "(II)I" } : Jvm.MethodName) prog_14_method_35_code (5 : Nat) (Option.some Jvm.ClassFile.FieldType.int)) ∈ ml_T := ml_in (ml_t5 (List.mem_of_getElem? (i := 168) rfl)) rfl
theorem tw_5_228 : (Jvm.Cond.methodLink "MirrorLaneModel" (284 : Nat) ({ cls := "MirrorLaneModel", name := "all", desc := "()V" } : Jvm.MethodName)) ∈ ml_T := ml_in (ml_t5 (List.mem_of_getElem? (i := 228) rfl)) rfl
theorem tw_5_230 : (Jvm.Cond.instanceMethod ({ cls := "MirrorLaneModel", name := "all", desc := "()V" } : Jvm.MethodName)) ∈ ml_T := ml_in (ml_t5 (List.mem_of_getElem? (i := 230) rfl)) rfl
theorem tv_48 : Cond.selects "MirrorLaneModel" ⟨"MirrorLaneModel", "all", "()V"⟩ ⟨"MirrorLaneModel", "all", "()V"⟩ ∈ ml_T := ml_in (List.mem_append_left _ (List.mem_map.mpr ⟨(⟨"MirrorLaneModel", "all", "()V"⟩, 62), (show _ ∈ lw_privs from List.mem_append_right _ (List.mem_append_right _ (List.mem_append_right _ (List.mem_append_left _ (List.mem_of_getElem? (i := 0) rfl))))), rfl⟩)) rfl
theorem tw_5_231 : (Jvm.Cond.code ({ cls := "MirrorLaneModel", name := "all", desc := "()V" } : Jvm.MethodName) prog_14_method_33_code (2 : Nat) (Option.none : Option Jvm.ClassFile.FieldType)) ∈ ml_T := ml_in (ml_t5 (List.mem_of_getElem? (i := 231) rfl)) rfl
theorem tw_6_36 : (Jvm.Cond.methodLink "MirrorLaneModel" (287 : Nat) ({ cls := "MirrorLaneModel", name := "isWord", desc := "(I)Z" } : Jvm.MethodName)) ∈ ml_T := ml_in (ml_t6 (List.mem_of_getElem? (i := 36) rfl)) rfl
theorem tw_6_38 : (Jvm.Cond.instanceMethod ({ cls := "MirrorLaneModel", name := "isWord", desc := "(I)Z" } : Jvm.MethodName)) ∈ ml_T := ml_in (ml_t6 (List.mem_of_getElem? (i := 38) rfl)) rfl
theorem tv_59 : Cond.selects "MirrorLaneModel" ⟨"MirrorLaneModel", "isWord", "(I)Z"⟩ ⟨"MirrorLaneModel", "isWord", "(I)Z"⟩ ∈ ml_T := ml_in (List.mem_append_left _ (List.mem_map.mpr ⟨(⟨"MirrorLaneModel", "isWord", "(I)Z"⟩, 62), (show _ ∈ lw_privs from List.mem_append_right _ (List.mem_append_right _ (List.mem_append_right _ (List.mem_append_left _ (List.mem_of_getElem? (i := 11) rfl))))), rfl⟩)) rfl
theorem tw_6_39 : (Jvm.Cond.code ({ cls := "MirrorLaneModel", name := "isWord", desc := "(I)Z" } : Jvm.MethodName) prog_14_method_4_code (2 : Nat) (Option.some Jvm.ClassFile.FieldType.boolean)) ∈ ml_T := ml_in (ml_t6 (List.mem_of_getElem? (i := 39) rfl)) rfl
theorem tw_6_57 : (Jvm.Cond.methodLink "MirrorLaneModel" (292 : Nat) ({ cls := "MirrorLaneModel", name := "isMade", desc := "(I)Z" } : Jvm.MethodName)) ∈ ml_T := ml_in (ml_t6 (List.mem_of_getElem? (i := 57) rfl)) rfl
theorem tw_6_59 : (Jvm.Cond.instanceMethod ({ cls := "MirrorLaneModel", name := "isMade", desc := "(I)Z" } : Jvm.MethodName)) ∈ ml_T := ml_in (ml_t6 (List.mem_of_getElem? (i := 59) rfl)) rfl
theorem tv_60 : Cond.selects "MirrorLaneModel" ⟨"MirrorLaneModel", "isMade", "(I)Z"⟩ ⟨"MirrorLaneModel", "isMade", "(I)Z"⟩ ∈ ml_T := ml_in (List.mem_append_left _ (List.mem_map.mpr ⟨(⟨"MirrorLaneModel", "isMade", "(I)Z"⟩, 62), (show _ ∈ lw_privs from List.mem_append_right _ (List.mem_append_right _ (List.mem_append_right _ (List.mem_append_left _ (List.mem_of_getElem? (i := 12) rfl))))), rfl⟩)) rfl
theorem tw_6_60 : (Jvm.Cond.code ({ cls := "MirrorLaneModel", name := "isMade", desc := "(I)Z" } : Jvm.MethodName) prog_14_method_41_code (2 : Nat) (Option.some Jvm.ClassFile.FieldType.boolean)) ∈ ml_T := ml_in (ml_t6 (List.mem_of_getElem? (i := 60) rfl)) rfl
theorem tw_6_61 : (Jvm.Cond.methodLink "MirrorLaneModel" (295 : Nat) ({ cls := "MirrorLaneModel", name := "isEnd", desc := "(I)Z" } : Jvm.MethodName)) ∈ ml_T := ml_in (ml_t6 (List.mem_of_getElem? (i := 61) rfl)) rfl
theorem tw_6_63 : (Jvm.Cond.instanceMethod ({ cls := "MirrorLaneModel", name := "isEnd", desc := "(I)Z" } : Jvm.MethodName)) ∈ ml_T := ml_in (ml_t6 (List.mem_of_getElem? (i := 63) rfl)) rfl
theorem tv_61 : Cond.selects "MirrorLaneModel" ⟨"MirrorLaneModel", "isEnd", "(I)Z"⟩ ⟨"MirrorLaneModel", "isEnd", "(I)Z"⟩ ∈ ml_T := ml_in (List.mem_append_left _ (List.mem_map.mpr ⟨(⟨"MirrorLaneModel", "isEnd", "(I)Z"⟩, 62), (show _ ∈ lw_privs from List.mem_append_right _ (List.mem_append_right _ (List.mem_append_right _ (List.mem_append_left _ (List.mem_of_getElem? (i := 13) rfl))))), rfl⟩)) rfl
theorem tw_6_64 : (Jvm.Cond.code ({ cls := "MirrorLaneModel", name := "isEnd", desc := "(I)Z" } : Jvm.MethodName) prog_14_method_42_code (2 : Nat) (Option.some Jvm.ClassFile.FieldType.boolean)) ∈ ml_T := ml_in (ml_t6 (List.mem_of_getElem? (i := 64) rfl)) rfl
theorem tw_6_77 : (Jvm.Cond.methodLink "MirrorLaneModel" (298 : Nat) ({ cls := "MirrorLaneModel", name := "closes", desc := "(I)I" } : Jvm.MethodName)) ∈ ml_T := ml_in (ml_t6 (List.mem_of_getElem? (i := 77) rfl)) rfl
theorem tw_6_79 : (Jvm.Cond.instanceMethod ({ cls := "MirrorLaneModel", name := "closes", desc := "(I)I" } : Jvm.MethodName)) ∈ ml_T := ml_in (ml_t6 (List.mem_of_getElem? (i := 79) rfl)) rfl
theorem tv_63 : Cond.selects "MirrorLaneModel" ⟨"MirrorLaneModel", "closes", "(I)I"⟩ ⟨"MirrorLaneModel", "closes", "(I)I"⟩ ∈ ml_T := ml_in (List.mem_append_left _ (List.mem_map.mpr ⟨(⟨"MirrorLaneModel", "closes", "(I)I"⟩, 62), (show _ ∈ lw_privs from List.mem_append_right _ (List.mem_append_right _ (List.mem_append_right _ (List.mem_append_left _ (List.mem_of_getElem? (i := 15) rfl))))), rfl⟩)) rfl
theorem tw_6_80 : (Jvm.Cond.code ({ cls := "MirrorLaneModel", name := "closes", desc := "(I)I" } : Jvm.MethodName) prog_14_method_45_code (2 : Nat) (Option.some Jvm.ClassFile.FieldType.int)) ∈ ml_T := ml_in (ml_t6 (List.mem_of_getElem? (i := 80) rfl)) rfl
theorem tw_6_73 : (Jvm.Cond.methodLink "MirrorLaneModel" (302 : Nat) ({ cls := "MirrorLaneModel", name := "closing", desc := "(I)I" } : Jvm.MethodName)) ∈ ml_T := ml_in (ml_t6 (List.mem_of_getElem? (i := 73) rfl)) rfl
theorem tw_6_75 : (Jvm.Cond.instanceMethod ({ cls := "MirrorLaneModel", name := "closing", desc := "(I)I" } : Jvm.MethodName)) ∈ ml_T := ml_in (ml_t6 (List.mem_of_getElem? (i := 75) rfl)) rfl
theorem tv_62 : Cond.selects "MirrorLaneModel" ⟨"MirrorLaneModel", "closing", "(I)I"⟩ ⟨"MirrorLaneModel", "closing", "(I)I"⟩ ∈ ml_T := ml_in (List.mem_append_left _ (List.mem_map.mpr ⟨(⟨"MirrorLaneModel", "closing", "(I)I"⟩, 62), (show _ ∈ lw_privs from List.mem_append_right _ (List.mem_append_right _ (List.mem_append_right _ (List.mem_append_left _ (List.mem_of_getElem? (i := 14) rfl))))), rfl⟩)) rfl
theorem tw_6_76 : (Jvm.Cond.code ({ cls := "MirrorLaneModel", name := "closing", desc := "(I)I" } : Jvm.MethodName) prog_14_method_46_code (5 : Nat) (Option.some Jvm.ClassFile.FieldType.int)) ∈ ml_T := ml_in (ml_t6 (List.mem_of_getElem? (i := 76) rfl)) rfl
theorem tw_6_89 : (Jvm.Cond.methodLink "MirrorLaneModel" (310 : Nat) ({ cls := "MirrorLaneModel", name := "codeOf", desc := "(I)J" } : Jvm.MethodName)) ∈ ml_T := ml_in (ml_t6 (List.mem_of_getElem? (i := 89) rfl)) rfl
theorem tw_6_91 : (Jvm.Cond.instanceMethod ({ cls := "MirrorLaneModel", name := "codeOf", desc := "(I)J" } : Jvm.MethodName)) ∈ ml_T := ml_in (ml_t6 (List.mem_of_getElem? (i := 91) rfl)) rfl
theorem tv_65 : Cond.selects "MirrorLaneModel" ⟨"MirrorLaneModel", "codeOf", "(I)J"⟩ ⟨"MirrorLaneModel", "codeOf", "(I)J"⟩ ∈ ml_T := ml_in (List.mem_append_left _ (List.mem_map.mpr ⟨(⟨"MirrorLaneModel", "codeOf", "(I)J"⟩, 62), (show _ ∈ lw_privs from List.mem_append_right _ (List.mem_append_right _ (List.mem_append_right _ (List.mem_append_right _ (List.mem_append_left _ (List.mem_of_getElem? (i := 1) rfl)))))), rfl⟩)) rfl
theorem tw_6_92 : (Jvm.Cond.code ({ cls := "MirrorLaneModel", name := "codeOf", desc := "(I)J" } : Jvm.MethodName) prog_14_method_48_code (5 : Nat) (Option.some Jvm.ClassFile.FieldType.long)) ∈ ml_T := ml_in (ml_t6 (List.mem_of_getElem? (i := 92) rfl)) rfl
theorem tw_6_85 : (Jvm.Cond.methodLink "MirrorLaneModel" (322 : Nat) ({ cls := "MirrorLaneModel", name := "powers", desc := "(I)V" } : Jvm.MethodName)) ∈ ml_T := ml_in (ml_t6 (List.mem_of_getElem? (i := 85) rfl)) rfl
theorem tw_6_87 : (Jvm.Cond.instanceMethod ({ cls := "MirrorLaneModel", name := "powers", desc := "(I)V" } : Jvm.MethodName)) ∈ ml_T := ml_in (ml_t6 (List.mem_of_getElem? (i := 87) rfl)) rfl
theorem tv_64 : Cond.selects "MirrorLaneModel" ⟨"MirrorLaneModel", "powers", "(I)V"⟩ ⟨"MirrorLaneModel", "powers", "(I)V"⟩ ∈ ml_T := ml_in (List.mem_append_left _ (List.mem_map.mpr ⟨(⟨"MirrorLaneModel", "powers", "(I)V"⟩, 62), (show _ ∈ lw_privs from List.mem_append_right _ (List.mem_append_right _ (List.mem_append_right _ (List.mem_append_right _ (List.mem_append_left _ (List.mem_of_getElem? (i := 0) rfl)))))), rfl⟩)) rfl
theorem tw_6_88 : (Jvm.Cond.code ({ cls := "MirrorLaneModel", name := "powers", desc := "(I)V" } : Jvm.MethodName) prog_14_method_49_code (4 : Nat) (Option.none : Option Jvm.ClassFile.FieldType)) ∈ ml_T := ml_in (ml_t6 (List.mem_of_getElem? (i := 88) rfl)) rfl
theorem tw_6_98 : (Jvm.Cond.methodLink "MirrorLaneModel" (325 : Nat) ({ cls := "MirrorLaneModel", name := "isRule", desc := "(I)Z" } : Jvm.MethodName)) ∈ ml_T := ml_in (ml_t6 (List.mem_of_getElem? (i := 98) rfl)) rfl
theorem tw_6_100 : (Jvm.Cond.instanceMethod ({ cls := "MirrorLaneModel", name := "isRule", desc := "(I)Z" } : Jvm.MethodName)) ∈ ml_T := ml_in (ml_t6 (List.mem_of_getElem? (i := 100) rfl)) rfl
theorem tv_66 : Cond.selects "MirrorLaneModel" ⟨"MirrorLaneModel", "isRule", "(I)Z"⟩ ⟨"MirrorLaneModel", "isRule", "(I)Z"⟩ ∈ ml_T := ml_in (List.mem_append_left _ (List.mem_map.mpr ⟨(⟨"MirrorLaneModel", "isRule", "(I)Z"⟩, 62), (show _ ∈ lw_privs from List.mem_append_right _ (List.mem_append_right _ (List.mem_append_right _ (List.mem_append_right _ (List.mem_append_left _ (List.mem_of_getElem? (i := 2) rfl)))))), rfl⟩)) rfl
theorem tw_6_101 : (Jvm.Cond.code ({ cls := "MirrorLaneModel", name := "isRule", desc := "(I)Z" } : Jvm.MethodName) prog_14_method_51_code (5 : Nat) (Option.some Jvm.ClassFile.FieldType.boolean)) ∈ ml_T := ml_in (ml_t6 (List.mem_of_getElem? (i := 101) rfl)) rfl
theorem tw_6_106 : (Jvm.Cond.methodLink "MirrorLaneModel" (330 : Nat) ({ cls := "MirrorLaneModel", name := "isPowe\x72", desc := "(J)Z" } : Jvm.MethodName)) ∈ ml_T := ml_in (ml_t6 (List.mem_of_getElem? (i := 106) rfl)) rfl
theorem tw_6_107 : (Jvm.Cond.static ({ cls := "MirrorLaneModel", name := "isPowe\x72", desc := "(J)Z" } : Jvm.MethodName)) ∈ ml_T := ml_in (ml_t6 (List.mem_of_getElem? (i := 107) rfl)) rfl
theorem tw_6_108 : (Jvm.Cond.code ({ cls := "MirrorLaneModel", name := "isPowe\x72", desc := "(J)Z" } : Jvm.MethodName) prog_14_method_53_code (2 : Nat) (Option.some Jvm.ClassFile.FieldType.boolean)) ∈ ml_T := ml_in (ml_t6 (List.mem_of_getElem? (i := 108) rfl)) rfl
theorem tw_6_121 : (Jvm.Cond.methodLink "MirrorLaneModel" (340 : Nat) ({ cls := "MirrorLaneModel", name := "ofResidue", desc := "(IJJJ)J" } : Jvm.MethodName)) ∈ ml_T := ml_in (ml_t6 (List.mem_of_getElem? (i := 121) rfl)) rfl
theorem tw_6_123 : (Jvm.Cond.instanceMethod ({ cls := "MirrorLaneModel", name := "ofResidue", desc := "(IJJJ)J" } : Jvm.MethodName)) ∈ ml_T := ml_in (ml_t6 (List.mem_of_getElem? (i := 123) rfl)) rfl
theorem tv_68 : Cond.selects "MirrorLaneModel" ⟨"MirrorLaneModel", "ofResidue", "(IJJJ)J"⟩ ⟨"MirrorLaneModel", "ofResidue", "(IJJJ)J"⟩ ∈ ml_T := ml_in (List.mem_append_left _ (List.mem_map.mpr ⟨(⟨"MirrorLaneModel", "ofResidue", "(IJJJ)J"⟩, 62), (show _ ∈ lw_privs from List.mem_append_right _ (List.mem_append_right _ (List.mem_append_right _ (List.mem_append_right _ (List.mem_append_left _ (List.mem_of_getElem? (i := 4) rfl)))))), rfl⟩)) rfl
theorem tw_6_124 : (Jvm.Cond.code ({ cls := "MirrorLaneModel", name := "ofResidue", desc := "(IJJJ)J" } : Jvm.MethodName) prog_14_method_55_code (12 : Nat) (Option.some Jvm.ClassFile.FieldType.long)) ∈ ml_T := ml_in (ml_t6 (List.mem_of_getElem? (i := 124) rfl)) rfl
theorem tw_6_114 : (Jvm.Cond.methodLink "MirrorLaneModel" (344 : Nat) ({ cls := "MirrorLaneModel", name := "isLoops", desc := "(J)Z" } : Jvm.MethodName)) ∈ ml_T := ml_in (ml_t6 (List.mem_of_getElem? (i := 114) rfl)) rfl
theorem tw_6_115 : (Jvm.Cond.static ({ cls := "MirrorLaneModel", name := "isLoops", desc := "(J)Z" } : Jvm.MethodName)) ∈ ml_T := ml_in (ml_t6 (List.mem_of_getElem? (i := 115) rfl)) rfl
theorem tw_6_116 : (Jvm.Cond.code ({ cls := "MirrorLaneModel", name := "isLoops", desc := "(J)Z" } : Jvm.MethodName) prog_14_method_57_code (2 : Nat) (Option.some Jvm.ClassFile.FieldType.boolean)) ∈ ml_T := ml_in (ml_t6 (List.mem_of_getElem? (i := 116) rfl)) rfl
theorem tw_6_117 : (Jvm.Cond.methodLink "MirrorLaneModel" (347 : Nat) ({ cls := "MirrorLaneModel", name := "thoseOf", desc := "(IJJJ)J" } : Jvm.MethodName)) ∈ ml_T := ml_in (ml_t6 (List.mem_of_getElem? (i := 117) rfl)) rfl
theorem tw_6_119 : (Jvm.Cond.instanceMethod ({ cls := "MirrorLaneModel", name := "thoseOf", desc := "(IJJJ)J" } : Jvm.MethodName)) ∈ ml_T := ml_in (ml_t6 (List.mem_of_getElem? (i := 119) rfl)) rfl
theorem tv_67 : Cond.selects "MirrorLaneModel" ⟨"MirrorLaneModel", "thoseOf", "(IJJJ)J"⟩ ⟨"MirrorLaneModel", "thoseOf", "(IJJJ)J"⟩ ∈ ml_T := ml_in (List.mem_append_left _ (List.mem_map.mpr ⟨(⟨"MirrorLaneModel", "thoseOf", "(IJJJ)J"⟩, 62), (show _ ∈ lw_privs from List.mem_append_right _ (List.mem_append_right _ (List.mem_append_right _ (List.mem_append_right _ (List.mem_append_left _ (List.mem_of_getElem? (i := 3) rfl)))))), rfl⟩)) rfl
theorem tw_6_120 : (Jvm.Cond.code ({ cls := "MirrorLaneModel", name := "thoseOf", desc := "(IJJJ)J" } : Jvm.MethodName) prog_14_method_56_code (11 : Nat) (Option.some Jvm.ClassFile.FieldType.long)) ∈ ml_T := ml_in (ml_t6 (List.mem_of_getElem? (i := 120) rfl)) rfl
theorem tw_6_138 : (Jvm.Cond.methodLink "MirrorLaneModel" (350 : Nat) ({ cls := "MirrorLaneModel", name := "areJoinedAlike", desc := "(II)Z" } : Jvm.MethodName)) ∈ ml_T := ml_in (ml_t6 (List.mem_of_getElem? (i := 138) rfl)) rfl
theorem tw_6_140 : (Jvm.Cond.instanceMethod ({ cls := "MirrorLaneModel", name := "areJoinedAlike", desc := "(II)Z" } : Jvm.MethodName)) ∈ ml_T := ml_in (ml_t6 (List.mem_of_getElem? (i := 140) rfl)) rfl
theorem tv_70 : Cond.selects "MirrorLaneModel" ⟨"MirrorLaneModel", "areJoinedAlike", "(II)Z"⟩ ⟨"MirrorLaneModel", "areJoinedAlike", "(II)Z"⟩ ∈ ml_T := ml_in (List.mem_append_left _ (List.mem_map.mpr ⟨(⟨"MirrorLaneModel", "areJoinedAlike", "(II)Z"⟩, 62), (show _ ∈ lw_privs from List.mem_append_right _ (List.mem_append_right _ (List.mem_append_right _ (List.mem_append_right _ (List.mem_append_left _ (List.mem_of_getElem? (i := 6) rfl)))))), rfl⟩)) rfl
theorem tw_6_141 : (Jvm.Cond.code ({ cls := "MirrorLaneModel", name := "areJoinedAlike", desc := "(II)Z" } : Jvm.MethodName) prog_14_method_60_code (4 : Nat) (Option.some Jvm.ClassFile.FieldType.boolean)) ∈ ml_T := ml_in (ml_t6 (List.mem_of_getElem? (i := 141) rfl)) rfl
theorem tw_6_134 : (Jvm.Cond.methodLink "MirrorLaneModel" (355 : Nat) ({ cls := "MirrorLaneModel", name := "areAlike", desc := "(II)Z" } : Jvm.MethodName)) ∈ ml_T := ml_in (ml_t6 (List.mem_of_getElem? (i := 134) rfl)) rfl
theorem tw_6_136 : (Jvm.Cond.instanceMethod ({ cls := "MirrorLaneModel", name := "areAlike", desc := "(II)Z" } : Jvm.MethodName)) ∈ ml_T := ml_in (ml_t6 (List.mem_of_getElem? (i := 136) rfl)) rfl
theorem tv_69 : Cond.selects "MirrorLaneModel" ⟨"MirrorLaneModel", "areAlike", "(II)Z"⟩ ⟨"MirrorLaneModel", "areAlike", "(II)Z"⟩ ∈ ml_T := ml_in (List.mem_append_left _ (List.mem_map.mpr ⟨(⟨"MirrorLaneModel", "areAlike", "(II)Z"⟩, 62), (show _ ∈ lw_privs from List.mem_append_right _ (List.mem_append_right _ (List.mem_append_right _ (List.mem_append_right _ (List.mem_append_left _ (List.mem_of_getElem? (i := 5) rfl)))))), rfl⟩)) rfl
theorem tw_6_137 : (Jvm.Cond.code ({ cls := "MirrorLaneModel", name := "areAlike", desc := "(II)Z" } : Jvm.MethodName) prog_14_method_61_code (3 : Nat) (Option.some Jvm.ClassFile.FieldType.boolean)) ∈ ml_T := ml_in (ml_t6 (List.mem_of_getElem? (i := 137) rfl)) rfl
theorem tw_6_146 : (Jvm.Cond.methodLink "MirrorLaneModel" (358 : Nat) ({ cls := "MirrorLaneModel", name := "isPlain", desc := "(I)Z" } : Jvm.MethodName)) ∈ ml_T := ml_in (ml_t6 (List.mem_of_getElem? (i := 146) rfl)) rfl
theorem tw_6_148 : (Jvm.Cond.instanceMethod ({ cls := "MirrorLaneModel", name := "isPlain", desc := "(I)Z" } : Jvm.MethodName)) ∈ ml_T := ml_in (ml_t6 (List.mem_of_getElem? (i := 148) rfl)) rfl
theorem tv_71 : Cond.selects "MirrorLaneModel" ⟨"MirrorLaneModel", "isPlain", "(I)Z"⟩ ⟨"MirrorLaneModel", "isPlain", "(I)Z"⟩ ∈ ml_T := ml_in (List.mem_append_left _ (List.mem_map.mpr ⟨(⟨"MirrorLaneModel", "isPlain", "(I)Z"⟩, 62), (show _ ∈ lw_privs from List.mem_append_right _ (List.mem_append_right _ (List.mem_append_right _ (List.mem_append_right _ (List.mem_append_left _ (List.mem_of_getElem? (i := 7) rfl)))))), rfl⟩)) rfl
theorem tw_6_149 : (Jvm.Cond.code ({ cls := "MirrorLaneModel", name := "isPlain", desc := "(I)Z" } : Jvm.MethodName) prog_14_method_63_code (4 : Nat) (Option.some Jvm.ClassFile.FieldType.boolean)) ∈ ml_T := ml_in (ml_t6 (List.mem_of_getElem? (i := 149) rfl)) rfl
theorem tw_6_158 : (Jvm.Cond.methodLink "MirrorLaneModel" (361 : Nat) ({ cls := "MirrorLaneModel", name := "has", desc := "(II)Z" } : Jvm.MethodName)) ∈ ml_T := ml_in (ml_t6 (List.mem_of_getElem? (i := 158) rfl)) rfl
theorem tw_6_159 : (Jvm.Cond.static ({ cls := "MirrorLaneModel", name := "has", desc := "(II)Z" } : Jvm.MethodName)) ∈ ml_T := ml_in (ml_t6 (List.mem_of_getElem? (i := 159) rfl)) rfl
theorem tw_6_160 : (Jvm.Cond.code ({ cls := "MirrorLaneModel", name := "has", desc := "(II)Z" } : Jvm.MethodName) prog_14_method_3_code (2 : Nat) (Option.some Jvm.ClassFile.FieldType.boolean)) ∈ ml_T := ml_in (ml_t6 (List.mem_of_getElem? (i := 160) rfl)) rfl
theorem tw_6_166 : (Jvm.Cond.methodLink "MirrorLaneModel" (372 : Nat) ({ cls := "MirrorLaneModel", name := "stateOf", desc := "(I)I" } : Jvm.MethodName)) ∈ ml_T := ml_in (ml_t6 (List.mem_of_getElem? (i := 166) rfl)) rfl
theorem tw_6_168 : (Jvm.Cond.instanceMethod ({ cls := "MirrorLaneModel", name := "stateOf", desc := "(I)I" } : Jvm.MethodName)) ∈ ml_T := ml_in (ml_t6 (List.mem_of_getElem? (i := 168) rfl)) rfl
theorem tv_74 : Cond.selects "MirrorLaneModel" ⟨"MirrorLaneModel", "stateOf", "(I)I"⟩ ⟨"MirrorLaneModel", "stateOf", "(I)I"⟩ ∈ ml_T := ml_in (List.mem_append_left _ (List.mem_map.mpr ⟨(⟨"MirrorLaneModel", "stateOf", "(I)I"⟩, 62), (show _ ∈ lw_privs from List.mem_append_right _ (List.mem_append_right _ (List.mem_append_right _ (List.mem_append_right _ (List.mem_append_left _ (List.mem_of_getElem? (i := 10) rfl)))))), rfl⟩)) rfl
theorem tw_6_169 : (Jvm.Cond.code ({ cls := "MirrorLaneModel", name := "stateOf", desc := "(I)I" } : Jvm.MethodName) prog_14_method_66_code (5 : Nat) (Option.some Jvm.ClassFile.FieldType.int)) ∈ ml_T := ml_in (ml_t6 (List.mem_of_getElem? (i := 169) rfl)) rfl
theorem tw_6_170 : (Jvm.Cond.methodLink "MirrorLaneModel" (375 : Nat) ({ cls := "MirrorLaneModel", name := "few", desc := "(J)I" } : Jvm.MethodName)) ∈ ml_T := ml_in (ml_t6 (List.mem_of_getElem? (i := 170) rfl)) rfl
theorem tw_6_171 : (Jvm.Cond.static ({ cls := "MirrorLaneModel", name := "few", desc := "(J)I" } : Jvm.MethodName)) ∈ ml_T := ml_in (ml_t6 (List.mem_of_getElem? (i := 171) rfl)) rfl
theorem tw_6_172 : (Jvm.Cond.code ({ cls := "MirrorLaneModel", name := "few", desc := "(J)I" } : Jvm.MethodName) prog_14_method_67_code (2 : Nat) (Option.some Jvm.ClassFile.FieldType.int)) ∈ ml_T := ml_in (ml_t6 (List.mem_of_getElem? (i := 172) rfl)) rfl
theorem tw_6_154 : (Jvm.Cond.methodLink "MirrorLaneModel" (379 : Nat) ({ cls := "MirrorLaneModel", name := "isLetters", desc := "(I)Z" } : Jvm.MethodName)) ∈ ml_T := ml_in (ml_t6 (List.mem_of_getElem? (i := 154) rfl)) rfl
theorem tw_6_156 : (Jvm.Cond.instanceMethod ({ cls := "MirrorLaneModel", name := "isLetters", desc := "(I)Z" } : Jvm.MethodName)) ∈ ml_T := ml_in (ml_t6 (List.mem_of_getElem? (i := 156) rfl)) rfl
theorem tv_72 : Cond.selects "MirrorLaneModel" ⟨"MirrorLaneModel", "isLetters", "(I)Z"⟩ ⟨"MirrorLaneModel", "isLetters", "(I)Z"⟩ ∈ ml_T := ml_in (List.mem_append_left _ (List.mem_map.mpr ⟨(⟨"MirrorLaneModel", "isLetters", "(I)Z"⟩, 62), (show _ ∈ lw_privs from List.mem_append_right _ (List.mem_append_right _ (List.mem_append_right _ (List.mem_append_right _ (List.mem_append_left _ (List.mem_of_getElem? (i := 8) rfl)))))), rfl⟩)) rfl
theorem tw_6_157 : (Jvm.Cond.code ({ cls := "MirrorLaneModel", name := "isLetters", desc := "(I)Z" } : Jvm.MethodName) prog_14_method_65_code (4 : Nat) (Option.some Jvm.ClassFile.FieldType.boolean)) ∈ ml_T := ml_in (ml_t6 (List.mem_of_getElem? (i := 157) rfl)) rfl
theorem tw_6_162 : (Jvm.Cond.methodLink "MirrorLaneModel" (384 : Nat) ({ cls := "MirrorLaneModel", name := "joinsAll", desc := "()V" } : Jvm.MethodName)) ∈ ml_T := ml_in (ml_t6 (List.mem_of_getElem? (i := 162) rfl)) rfl
theorem tw_6_164 : (Jvm.Cond.instanceMethod ({ cls := "MirrorLaneModel", name := "joinsAll", desc := "()V" } : Jvm.MethodName)) ∈ ml_T := ml_in (ml_t6 (List.mem_of_getElem? (i := 164) rfl)) rfl
theorem tv_73 : Cond.selects "MirrorLaneModel" ⟨"MirrorLaneModel", "joinsAll", "()V"⟩ ⟨"MirrorLaneModel", "joinsAll", "()V"⟩ ∈ ml_T := ml_in (List.mem_append_left _ (List.mem_map.mpr ⟨(⟨"MirrorLaneModel", "joinsAll", "()V"⟩, 62), (show _ ∈ lw_privs from List.mem_append_right _ (List.mem_append_right _ (List.mem_append_right _ (List.mem_append_right _ (List.mem_append_left _ (List.mem_of_getElem? (i := 9) rfl)))))), rfl⟩)) rfl
theorem tw_6_165 : (Jvm.Cond.code ({ cls := "MirrorLaneModel", name := "joinsAll", desc := "()V" } : Jvm.MethodName) prog_14_method_68_code (4 : Nat) (Option.none : Option Jvm.ClassFile.FieldType)) ∈ ml_T := ml_in (ml_t6 (List.mem_of_getElem? (i := 165) rfl)) rfl
theorem tw_6_187 : (Jvm.Cond.methodLink "MirrorLaneModel" (392 : Nat) ({ cls := "MirrorLaneModel", name := "comes", desc := "(III)V" } : Jvm.MethodName)) ∈ ml_T := ml_in (ml_t6 (List.mem_of_getElem? (i := 187) rfl)) rfl
theorem tw_6_189 : (Jvm.Cond.instanceMethod ({ cls := "MirrorLaneModel", name := "comes", desc := "(III)V" } : Jvm.MethodName)) ∈ ml_T := ml_in (ml_t6 (List.mem_of_getElem? (i := 189) rfl)) rfl
theorem tv_76 : Cond.selects "MirrorLaneModel" ⟨"MirrorLaneModel", "comes", "(III)V"⟩ ⟨"MirrorLaneModel", "comes", "(III)V"⟩ ∈ ml_T := ml_in (List.mem_append_left _ (List.mem_map.mpr ⟨(⟨"MirrorLaneModel", "comes", "(III)V"⟩, 62), (show _ ∈ lw_privs from List.mem_append_right _ (List.mem_append_right _ (List.mem_append_right _ (List.mem_append_right _ (List.mem_append_left _ (List.mem_of_getElem? (i := 12) rfl)))))), rfl⟩)) rfl
theorem tw_6_190 : (Jvm.Cond.code ({ cls := "MirrorLaneModel", name := "comes", desc := "(III)V" } : Jvm.MethodName) prog_14_method_71_code (4 : Nat) (Option.none : Option Jvm.ClassFile.FieldType)) ∈ ml_T := ml_in (ml_t6 (List.mem_of_getElem? (i := 190) rfl)) rfl
theorem tw_6_183 : (Jvm.Cond.methodLink "MirrorLaneModel" (395 : Nat) ({ cls := "MirrorLaneModel", name := "ends", desc := "(I)I" } : Jvm.MethodName)) ∈ ml_T := ml_in (ml_t6 (List.mem_of_getElem? (i := 183) rfl)) rfl
theorem tw_6_185 : (Jvm.Cond.instanceMethod ({ cls := "MirrorLaneModel", name := "ends", desc := "(I)I" } : Jvm.MethodName)) ∈ ml_T := ml_in (ml_t6 (List.mem_of_getElem? (i := 185) rfl)) rfl
theorem tv_75 : Cond.selects "MirrorLaneModel" ⟨"MirrorLaneModel", "ends", "(I)I"⟩ ⟨"MirrorLaneModel", "ends", "(I)I"⟩ ∈ ml_T := ml_in (List.mem_append_left _ (List.mem_map.mpr ⟨(⟨"MirrorLaneModel", "ends", "(I)I"⟩, 62), (show _ ∈ lw_privs from List.mem_append_right _ (List.mem_append_right _ (List.mem_append_right _ (List.mem_append_right _ (List.mem_append_left _ (List.mem_of_getElem? (i := 11) rfl)))))), rfl⟩)) rfl
theorem tw_6_186 : (Jvm.Cond.code ({ cls := "MirrorLaneModel", name := "ends", desc := "(I)I" } : Jvm.MethodName) prog_14_method_72_code (6 : Nat) (Option.some Jvm.ClassFile.FieldType.int)) ∈ ml_T := ml_in (ml_t6 (List.mem_of_getElem? (i := 186) rfl)) rfl
theorem tw_6_199 : (Jvm.Cond.methodLink "MirrorLaneModel" (398 : Nat) ({ cls := "MirrorLaneModel", name := "targetOf", desc := "(I)I" } : Jvm.MethodName)) ∈ ml_T := ml_in (ml_t6 (List.mem_of_getElem? (i := 199) rfl)) rfl
theorem tw_6_201 : (Jvm.Cond.instanceMethod ({ cls := "MirrorLaneModel", name := "targetOf", desc := "(I)I" } : Jvm.MethodName)) ∈ ml_T := ml_in (ml_t6 (List.mem_of_getElem? (i := 201) rfl)) rfl
theorem tv_77 : Cond.selects "MirrorLaneModel" ⟨"MirrorLaneModel", "targetOf", "(I)I"⟩ ⟨"MirrorLaneModel", "targetOf", "(I)I"⟩ ∈ ml_T := ml_in (List.mem_append_left _ (List.mem_map.mpr ⟨(⟨"MirrorLaneModel", "targetOf", "(I)I"⟩, 62), (show _ ∈ lw_privs from List.mem_append_right _ (List.mem_append_right _ (List.mem_append_right _ (List.mem_append_right _ (List.mem_append_left _ (List.mem_of_getElem? (i := 13) rfl)))))), rfl⟩)) rfl
theorem tw_6_202 : (Jvm.Cond.code ({ cls := "MirrorLaneModel", name := "targetOf", desc := "(I)I" } : Jvm.MethodName) prog_14_method_76_code (5 : Nat) (Option.some Jvm.ClassFile.FieldType.int)) ∈ ml_T := ml_in (ml_t6 (List.mem_of_getElem? (i := 202) rfl)) rfl
theorem tw_6_203 : (Jvm.Cond.methodLink "MirrorLaneModel" (401 : Nat) ({ cls := "MirrorLaneModel", name := "prices", desc := "(I)V" } : Jvm.MethodName)) ∈ ml_T := ml_in (ml_t6 (List.mem_of_getElem? (i := 203) rfl)) rfl
theorem tw_6_205 : (Jvm.Cond.instanceMethod ({ cls := "MirrorLaneModel", name := "prices", desc := "(I)V" } : Jvm.MethodName)) ∈ ml_T := ml_in (ml_t6 (List.mem_of_getElem? (i := 205) rfl)) rfl
theorem tv_78 : Cond.selects "MirrorLaneModel" ⟨"MirrorLaneModel", "prices", "(I)V"⟩ ⟨"MirrorLaneModel", "prices", "(I)V"⟩ ∈ ml_T := ml_in (List.mem_append_left _ (List.mem_map.mpr ⟨(⟨"MirrorLaneModel", "prices", "(I)V"⟩, 62), (show _ ∈ lw_privs from List.mem_append_right _ (List.mem_append_right _ (List.mem_append_right _ (List.mem_append_right _ (List.mem_append_left _ (List.mem_of_getElem? (i := 14) rfl)))))), rfl⟩)) rfl
theorem tw_6_206 : (Jvm.Cond.code ({ cls := "MirrorLaneModel", name := "prices", desc := "(I)V" } : Jvm.MethodName) prog_14_method_75_code (8 : Nat) (Option.none : Option Jvm.ClassFile.FieldType)) ∈ ml_T := ml_in (ml_t6 (List.mem_of_getElem? (i := 206) rfl)) rfl
theorem tw_6_207 : (Jvm.Cond.methodLink "MirrorLaneModel" (404 : Nat) ({ cls := "MirrorLaneModel", name := "best", desc := "(I)I" } : Jvm.MethodName)) ∈ ml_T := ml_in (ml_t6 (List.mem_of_getElem? (i := 207) rfl)) rfl
theorem tw_6_209 : (Jvm.Cond.instanceMethod ({ cls := "MirrorLaneModel", name := "best", desc := "(I)I" } : Jvm.MethodName)) ∈ ml_T := ml_in (ml_t6 (List.mem_of_getElem? (i := 209) rfl)) rfl
theorem tv_79 : Cond.selects "MirrorLaneModel" ⟨"MirrorLaneModel", "best", "(I)I"⟩ ⟨"MirrorLaneModel", "best", "(I)I"⟩ ∈ ml_T := ml_in (List.mem_append_left _ (List.mem_map.mpr ⟨(⟨"MirrorLaneModel", "best", "(I)I"⟩, 62), (show _ ∈ lw_privs from List.mem_append_right _ (List.mem_append_right _ (List.mem_append_right _ (List.mem_append_right _ (List.mem_append_left _ (List.mem_of_getElem? (i := 15) rfl)))))), rfl⟩)) rfl
theorem tw_6_210 : (Jvm.Cond.code ({ cls := "MirrorLaneModel", name := "best", desc := "(I)I" } : Jvm.MethodName) prog_14_method_77_code (8 : Nat) (Option.some Jvm.ClassFile.FieldType.int)) ∈ ml_T := ml_in (ml_t6 (List.mem_of_getElem? (i := 210) rfl)) rfl
theorem tw_6_215 : (Jvm.Cond.methodLink "MirrorLaneModel" (407 : Nat) ({ cls := "MirrorLaneModel", name := "sizeOf", desc := "(I)I" } : Jvm.MethodName)) ∈ ml_T := ml_in (ml_t6 (List.mem_of_getElem? (i := 215) rfl)) rfl
theorem tw_6_216 : (Jvm.Cond.static ({ cls := "MirrorLaneModel", name := "sizeOf", desc := "(I)I" } : Jvm.MethodName)) ∈ ml_T := ml_in (ml_t6 (List.mem_of_getElem? (i := 216) rfl)) rfl
theorem tw_6_217 : (Jvm.Cond.code ({ cls := "MirrorLaneModel", name := "sizeOf", desc := "(I)I" } : Jvm.MethodName) prog_14_method_80_code (3 : Nat) (Option.some Jvm.ClassFile.FieldType.int)) ∈ ml_T := ml_in (ml_t6 (List.mem_of_getElem? (i := 217) rfl)) rfl
theorem tw_6_218 : (Jvm.Cond.methodLink "MirrorLaneModel" (410 : Nat) ({ cls := "MirrorLaneModel", name := "isOne", desc := "(II)Z" } : Jvm.MethodName)) ∈ ml_T := ml_in (ml_t6 (List.mem_of_getElem? (i := 218) rfl)) rfl
theorem tw_6_220 : (Jvm.Cond.instanceMethod ({ cls := "MirrorLaneModel", name := "isOne", desc := "(II)Z" } : Jvm.MethodName)) ∈ ml_T := ml_in (ml_t6 (List.mem_of_getElem? (i := 220) rfl)) rfl
theorem tv_80 : Cond.selects "MirrorLaneModel" ⟨"MirrorLaneModel", "isOne", "(II)Z"⟩ ⟨"MirrorLaneModel", "isOne", "(II)Z"⟩ ∈ ml_T := ml_in (List.mem_append_left _ (List.mem_map.mpr ⟨(⟨"MirrorLaneModel", "isOne", "(II)Z"⟩, 62), (show _ ∈ lw_privs from List.mem_append_right _ (List.mem_append_right _ (List.mem_append_right _ (List.mem_append_right _ (List.mem_append_right _ (List.mem_of_getElem? (i := 0) rfl)))))), rfl⟩)) rfl
theorem tw_6_221 : (Jvm.Cond.code ({ cls := "MirrorLaneModel", name := "isOne", desc := "(II)Z" } : Jvm.MethodName) prog_14_method_79_code (4 : Nat) (Option.some Jvm.ClassFile.FieldType.boolean)) ∈ ml_T := ml_in (ml_t6 (List.mem_of_getElem? (i := 221) rfl)) rfl
theorem tw_6_227 : (Jvm.Cond.methodLink "MirrorLaneModel" (415 : Nat) ({ cls := "MirrorLaneModel", name := "numberAt", desc := "(I)I" } : Jvm.MethodName)) ∈ ml_T := ml_in (ml_t6 (List.mem_of_getElem? (i := 227) rfl)) rfl
theorem tw_6_229 : (Jvm.Cond.instanceMethod ({ cls := "MirrorLaneModel", name := "numberAt", desc := "(I)I" } : Jvm.MethodName)) ∈ ml_T := ml_in (ml_t6 (List.mem_of_getElem? (i := 229) rfl)) rfl
theorem tv_81 : Cond.selects "MirrorLaneModel" ⟨"MirrorLaneModel", "numberAt", "(I)I"⟩ ⟨"MirrorLaneModel", "numberAt", "(I)I"⟩ ∈ ml_T := ml_in (List.mem_append_left _ (List.mem_map.mpr ⟨(⟨"MirrorLaneModel", "numberAt", "(I)I"⟩, 62), (show _ ∈ lw_privs from List.mem_append_right _ (List.mem_append_right _ (List.mem_append_right _ (List.mem_append_right _ (List.mem_append_right _ (List.mem_of_getElem? (i := 1) rfl)))))), rfl⟩)) rfl
theorem tw_6_230 : (Jvm.Cond.code ({ cls := "MirrorLaneModel", name := "numberAt", desc := "(I)I" } : Jvm.MethodName) prog_14_method_82_code (4 : Nat) (Option.some Jvm.ClassFile.FieldType.int)) ∈ ml_T := ml_in (ml_t6 (List.mem_of_getElem? (i := 230) rfl)) rfl
theorem tw_7_4 : (Jvm.Cond.methodLink "MirrorLaneModel" (421 : Nat) ({ cls := "MirrorLaneModel", name := "writes", desc := "(II)V" } : Jvm.MethodName)) ∈ ml_T := ml_in (ml_t7 (List.mem_of_getElem? (i := 4) rfl)) rfl
theorem tw_7_6 : (Jvm.Cond.instanceMethod ({ cls := "MirrorLaneModel", name := "writes", desc := "(II)V" } : Jvm.MethodName)) ∈ ml_T := ml_in (ml_t7 (List.mem_of_getElem? (i := 6) rfl)) rfl
theorem tv_84 : Cond.selects "MirrorLaneModel" ⟨"MirrorLaneModel", "writes", "(II)V"⟩ ⟨"MirrorLaneModel", "writes", "(II)V"⟩ ∈ ml_T := ml_in (List.mem_append_left _ (List.mem_map.mpr ⟨(⟨"MirrorLaneModel", "writes", "(II)V"⟩, 62), (show _ ∈ lw_privs from List.mem_append_right _ (List.mem_append_right _ (List.mem_append_right _ (List.mem_append_right _ (List.mem_append_right _ (List.mem_of_getElem? (i := 4) rfl)))))), rfl⟩)) rfl
theorem tw_7_7 : (Jvm.Cond.code ({ cls := "MirrorLaneModel", name := "writes", desc := "(II)V" } : Jvm.MethodName) prog_14_method_84_code (3 : Nat) (Option.none : Option Jvm.ClassFile.FieldType)) ∈ ml_T := ml_in (ml_t7 (List.mem_of_getElem? (i := 7) rfl)) rfl
theorem tw_7_0 : (Jvm.Cond.methodLink "MirrorLaneModel" (424 : Nat) ({ cls := "MirrorLaneModel", name := "writesAgain", desc := "(III)V" } : Jvm.MethodName)) ∈ ml_T := ml_in (ml_t7 (List.mem_of_getElem? (i := 0) rfl)) rfl
theorem tw_7_2 : (Jvm.Cond.instanceMethod ({ cls := "MirrorLaneModel", name := "writesAgain", desc := "(III)V" } : Jvm.MethodName)) ∈ ml_T := ml_in (ml_t7 (List.mem_of_getElem? (i := 2) rfl)) rfl
theorem tv_83 : Cond.selects "MirrorLaneModel" ⟨"MirrorLaneModel", "writesAgain", "(III)V"⟩ ⟨"MirrorLaneModel", "writesAgain", "(III)V"⟩ ∈ ml_T := ml_in (List.mem_append_left _ (List.mem_map.mpr ⟨(⟨"MirrorLaneModel", "writesAgain", "(III)V"⟩, 62), (show _ ∈ lw_privs from List.mem_append_right _ (List.mem_append_right _ (List.mem_append_right _ (List.mem_append_right _ (List.mem_append_right _ (List.mem_of_getElem? (i := 3) rfl)))))), rfl⟩)) rfl
theorem tw_7_3 : (Jvm.Cond.code ({ cls := "MirrorLaneModel", name := "writesAgain", desc := "(III)V" } : Jvm.MethodName) prog_14_method_85_code (7 : Nat) (Option.none : Option Jvm.ClassFile.FieldType)) ∈ ml_T := ml_in (ml_t7 (List.mem_of_getElem? (i := 3) rfl)) rfl
theorem tw_6_236 : (Jvm.Cond.methodLink "MirrorLaneModel" (429 : Nat) ({ cls := "MirrorLaneModel", name := "writesOut", desc := "(I)V" } : Jvm.MethodName)) ∈ ml_T := ml_in (ml_t6 (List.mem_of_getElem? (i := 236) rfl)) rfl
theorem tw_6_238 : (Jvm.Cond.instanceMethod ({ cls := "MirrorLaneModel", name := "writesOut", desc := "(I)V" } : Jvm.MethodName)) ∈ ml_T := ml_in (ml_t6 (List.mem_of_getElem? (i := 238) rfl)) rfl
theorem tv_82 : Cond.selects "MirrorLaneModel" ⟨"MirrorLaneModel", "writesOut", "(I)V"⟩ ⟨"MirrorLaneModel", "writesOut", "(I)V"⟩ ∈ ml_T := ml_in (List.mem_append_left _ (List.mem_map.mpr ⟨(⟨"MirrorLaneModel", "writesOut", "(I)V"⟩, 62), (show _ ∈ lw_privs from List.mem_append_right _ (List.mem_append_right _ (List.mem_append_right _ (List.mem_append_right _ (List.mem_append_right _ (List.mem_of_getElem? (i := 2) rfl)))))), rfl⟩)) rfl
theorem tw_6_239 : (Jvm.Cond.code ({ cls := "MirrorLaneModel", name := "writesOut", desc := "(I)V" } : Jvm.MethodName) prog_14_method_86_code (5 : Nat) (Option.none : Option Jvm.ClassFile.FieldType)) ∈ ml_T := ml_in (ml_t6 (List.mem_of_getElem? (i := 239) rfl)) rfl
theorem tw_2_215 : (Jvm.Cond.methodLink "MirrorLane$Gramma\x72" (35 : Nat) ({ cls := "MirrorLane$Gramma\x72", name := "read", desc := "(III)V" } : Jvm.MethodName)) ∈ ml_T := ml_in (ml_t2 (List.mem_of_getElem? (i := 215) rfl)) rfl
theorem tw_2_217 : (Jvm.Cond.instanceMethod ({ cls := "MirrorLane$Gramma\x72", name := "read", desc := "(III)V" } : Jvm.MethodName)) ∈ ml_T := ml_in (ml_t2 (List.mem_of_getElem? (i := 217) rfl)) rfl
theorem tv_1 : Cond.selects "MirrorLane$Gramma\x72" ⟨"MirrorLane$Gramma\x72", "read", "(III)V"⟩ ⟨"MirrorLane$Gramma\x72", "read", "(III)V"⟩ ∈ ml_T := ml_in (List.mem_append_left _ (List.mem_map.mpr ⟨(⟨"MirrorLane$Gramma\x72", "read", "(III)V"⟩, 7), (show _ ∈ lw_privs from List.mem_append_left _ (List.mem_of_getElem? (i := 1) rfl)), rfl⟩)) rfl
theorem tw_2_218 : (Jvm.Cond.code ({ cls := "MirrorLane$Gramma\x72", name := "read", desc := "(III)V" } : Jvm.MethodName) prog_4_method_5_code (4 : Nat) (Option.none : Option Jvm.ClassFile.FieldType)) ∈ ml_T := ml_in (ml_t2 (List.mem_of_getElem? (i := 218) rfl)) rfl
theorem tw_2_223 : (Jvm.Cond.methodLink "MirrorLane$Gramma\x72" (39 : Nat) ({ cls := "MirrorLane$Gramma\x72", name := "faultAt", desc := "(II)I" } : Jvm.MethodName)) ∈ ml_T := ml_in (ml_t2 (List.mem_of_getElem? (i := 223) rfl)) rfl
theorem tw_2_219 : (Jvm.Cond.methodLink "MirrorLane$Gramma\x72" (43 : Nat) ({ cls := "MirrorLane$Gramma\x72", name := "readOpening", desc := "()V" } : Jvm.MethodName)) ∈ ml_T := ml_in (ml_t2 (List.mem_of_getElem? (i := 219) rfl)) rfl
theorem tw_2_221 : (Jvm.Cond.instanceMethod ({ cls := "MirrorLane$Gramma\x72", name := "readOpening", desc := "()V" } : Jvm.MethodName)) ∈ ml_T := ml_in (ml_t2 (List.mem_of_getElem? (i := 221) rfl)) rfl
theorem tv_2 : Cond.selects "MirrorLane$Gramma\x72" ⟨"MirrorLane$Gramma\x72", "readOpening", "()V"⟩ ⟨"MirrorLane$Gramma\x72", "readOpening", "()V"⟩ ∈ ml_T := ml_in (List.mem_append_left _ (List.mem_map.mpr ⟨(⟨"MirrorLane$Gramma\x72", "readOpening", "()V"⟩, 7), (show _ ∈ lw_privs from List.mem_append_left _ (List.mem_of_getElem? (i := 2) rfl)), rfl⟩)) rfl
theorem tw_2_222 : (Jvm.Cond.code ({ cls := "MirrorLane$Gramma\x72", name := "readOpening", desc := "()V" } : Jvm.MethodName) prog_4_method_6_code (1 : Nat) (Option.none : Option Jvm.ClassFile.FieldType)) ∈ ml_T := ml_in (ml_t2 (List.mem_of_getElem? (i := 222) rfl)) rfl
theorem tw_2_226 : (Jvm.Cond.methodLink "MirrorLane$Gramma\x72" (46 : Nat) ({ cls := "MirrorLane$Gramma\x72", name := "readClosing", desc := "()V" } : Jvm.MethodName)) ∈ ml_T := ml_in (ml_t2 (List.mem_of_getElem? (i := 226) rfl)) rfl
theorem tw_2_228 : (Jvm.Cond.instanceMethod ({ cls := "MirrorLane$Gramma\x72", name := "readClosing", desc := "()V" } : Jvm.MethodName)) ∈ ml_T := ml_in (ml_t2 (List.mem_of_getElem? (i := 228) rfl)) rfl
theorem tv_3 : Cond.selects "MirrorLane$Gramma\x72" ⟨"MirrorLane$Gramma\x72", "readClosing", "()V"⟩ ⟨"MirrorLane$Gramma\x72", "readClosing", "()V"⟩ ∈ ml_T := ml_in (List.mem_append_left _ (List.mem_map.mpr ⟨(⟨"MirrorLane$Gramma\x72", "readClosing", "()V"⟩, 7), (show _ ∈ lw_privs from List.mem_append_left _ (List.mem_of_getElem? (i := 3) rfl)), rfl⟩)) rfl
theorem tw_2_229 : (Jvm.Cond.code ({ cls := "MirrorLane$Gramma\x72", name := "readClosing", desc := "()V" } : Jvm.MethodName) prog_4_method_7_code (1 : Nat) (Option.none : Option Jvm.ClassFile.FieldType)) ∈ ml_T := ml_in (ml_t2 (List.mem_of_getElem? (i := 229) rfl)) rfl
theorem tw_2_234 : (Jvm.Cond.methodLink "MirrorLane$Gramma\x72" (49 : Nat) ({ cls := "MirrorLane$Gramma\x72", name := "readDigit", desc := "(I)V" } : Jvm.MethodName)) ∈ ml_T := ml_in (ml_t2 (List.mem_of_getElem? (i := 234) rfl)) rfl
theorem tw_2_236 : (Jvm.Cond.instanceMethod ({ cls := "MirrorLane$Gramma\x72", name := "readDigit", desc := "(I)V" } : Jvm.MethodName)) ∈ ml_T := ml_in (ml_t2 (List.mem_of_getElem? (i := 236) rfl)) rfl
theorem tv_5 : Cond.selects "MirrorLane$Gramma\x72" ⟨"MirrorLane$Gramma\x72", "readDigit", "(I)V"⟩ ⟨"MirrorLane$Gramma\x72", "readDigit", "(I)V"⟩ ∈ ml_T := ml_in (List.mem_append_left _ (List.mem_map.mpr ⟨(⟨"MirrorLane$Gramma\x72", "readDigit", "(I)V"⟩, 7), (show _ ∈ lw_privs from List.mem_append_left _ (List.mem_of_getElem? (i := 5) rfl)), rfl⟩)) rfl
theorem tw_2_237 : (Jvm.Cond.code ({ cls := "MirrorLane$Gramma\x72", name := "readDigit", desc := "(I)V" } : Jvm.MethodName) prog_4_method_8_code (3 : Nat) (Option.none : Option Jvm.ClassFile.FieldType)) ∈ ml_T := ml_in (ml_t2 (List.mem_of_getElem? (i := 237) rfl)) rfl
theorem tw_2_230 : (Jvm.Cond.methodLink "MirrorLane$Gramma\x72" (53 : Nat) ({ cls := "MirrorLane$Gramma\x72", name := "takeItem", desc := "(I)V" } : Jvm.MethodName)) ∈ ml_T := ml_in (ml_t2 (List.mem_of_getElem? (i := 230) rfl)) rfl
theorem tw_2_232 : (Jvm.Cond.instanceMethod ({ cls := "MirrorLane$Gramma\x72", name := "takeItem", desc := "(I)V" } : Jvm.MethodName)) ∈ ml_T := ml_in (ml_t2 (List.mem_of_getElem? (i := 232) rfl)) rfl
theorem tv_4 : Cond.selects "MirrorLane$Gramma\x72" ⟨"MirrorLane$Gramma\x72", "takeItem", "(I)V"⟩ ⟨"MirrorLane$Gramma\x72", "takeItem", "(I)V"⟩ ∈ ml_T := ml_in (List.mem_append_left _ (List.mem_map.mpr ⟨(⟨"MirrorLane$Gramma\x72", "takeItem", "(I)V"⟩, 7), (show _ ∈ lw_privs from List.mem_append_left _ (List.mem_of_getElem? (i := 4) rfl)), rfl⟩)) rfl
theorem tw_2_233 : (Jvm.Cond.code ({ cls := "MirrorLane$Gramma\x72", name := "takeItem", desc := "(I)V" } : Jvm.MethodName) prog_4_method_9_code (2 : Nat) (Option.none : Option Jvm.ClassFile.FieldType)) ∈ ml_T := ml_in (ml_t2 (List.mem_of_getElem? (i := 233) rfl)) rfl
theorem tw_3_5 : (Jvm.Cond.methodLink "MirrorLane$Gramma\x72" (56 : Nat) ({ cls := "MirrorLane$Gramma\x72", name := "readTimes", desc := "()V" } : Jvm.MethodName)) ∈ ml_T := ml_in (ml_t3 (List.mem_of_getElem? (i := 5) rfl)) rfl
theorem tw_3_7 : (Jvm.Cond.instanceMethod ({ cls := "MirrorLane$Gramma\x72", name := "readTimes", desc := "()V" } : Jvm.MethodName)) ∈ ml_T := ml_in (ml_t3 (List.mem_of_getElem? (i := 7) rfl)) rfl
theorem tv_7 : Cond.selects "MirrorLane$Gramma\x72" ⟨"MirrorLane$Gramma\x72", "readTimes", "()V"⟩ ⟨"MirrorLane$Gramma\x72", "readTimes", "()V"⟩ ∈ ml_T := ml_in (List.mem_append_left _ (List.mem_map.mpr ⟨(⟨"MirrorLane$Gramma\x72", "readTimes", "()V"⟩, 7), (show _ ∈ lw_privs from List.mem_append_left _ (List.mem_of_getElem? (i := 7) rfl)), rfl⟩)) rfl
theorem tw_3_8 : (Jvm.Cond.code ({ cls := "MirrorLane$Gramma\x72", name := "readTimes", desc := "()V" } : Jvm.MethodName) prog_4_method_10_code (2 : Nat) (Option.none : Option Jvm.ClassFile.FieldType)) ∈ ml_T := ml_in (ml_t3 (List.mem_of_getElem? (i := 8) rfl)) rfl
theorem tw_2_238 : (Jvm.Cond.methodLink "MirrorLane$Gramma\x72" (59 : Nat) ({ cls := "MirrorLane$Gramma\x72", name := "next", desc := "(I)I" } : Jvm.MethodName)) ∈ ml_T := ml_in (ml_t2 (List.mem_of_getElem? (i := 238) rfl)) rfl
theorem tw_3_0 : (Jvm.Cond.instanceMethod ({ cls := "MirrorLane$Gramma\x72", name := "next", desc := "(I)I" } : Jvm.MethodName)) ∈ ml_T := ml_in (ml_t3 (List.mem_of_getElem? (i := 0) rfl)) rfl
theorem tv_6 : Cond.selects "MirrorLane$Gramma\x72" ⟨"MirrorLane$Gramma\x72", "next", "(I)I"⟩ ⟨"MirrorLane$Gramma\x72", "next", "(I)I"⟩ ∈ ml_T := ml_in (List.mem_append_left _ (List.mem_map.mpr ⟨(⟨"MirrorLane$Gramma\x72", "next", "(I)I"⟩, 7), (show _ ∈ lw_privs from List.mem_append_left _ (List.mem_of_getElem? (i := 6) rfl)), rfl⟩)) rfl
theorem tw_3_1 : (Jvm.Cond.code ({ cls := "MirrorLane$Gramma\x72", name := "next", desc := "(I)I" } : Jvm.MethodName) prog_4_method_11_code (2 : Nat) (Option.some Jvm.ClassFile.FieldType.int)) ∈ ml_T := ml_in (ml_t3 (List.mem_of_getElem? (i := 1) rfl)) rfl
theorem tw_3_2 : (Jvm.Cond.methodLink "MirrorLane$Gramma\x72" (63 : Nat) ({ cls := "MirrorLane$Gramma\x72", name := "isDigit", desc := "(I)Z" } : Jvm.MethodName)) ∈ ml_T := ml_in (ml_t3 (List.mem_of_getElem? (i := 2) rfl)) rfl
theorem tw_3_25 : (Jvm.Cond.methodLink "MirrorLane$Items" (29 : Nat) ({ cls := "MirrorLane$Items", name := "take", desc := "()I" } : Jvm.MethodName)) ∈ ml_T := ml_in (ml_t3 (List.mem_of_getElem? (i := 25) rfl)) rfl
theorem tw_3_27 : (Jvm.Cond.instanceMethod ({ cls := "MirrorLane$Items", name := "take", desc := "()I" } : Jvm.MethodName)) ∈ ml_T := ml_in (ml_t3 (List.mem_of_getElem? (i := 27) rfl)) rfl
theorem tv_8 : Cond.selects "MirrorLane$Items" ⟨"MirrorLane$Items", "take", "()I"⟩ ⟨"MirrorLane$Items", "take", "()I"⟩ ∈ ml_T := ml_in (List.mem_append_left _ (List.mem_map.mpr ⟨(⟨"MirrorLane$Items", "take", "()I"⟩, 6), (show _ ∈ lw_privs from List.mem_append_left _ (List.mem_of_getElem? (i := 8) rfl)), rfl⟩)) rfl
theorem tw_3_28 : (Jvm.Cond.code ({ cls := "MirrorLane$Items", name := "take", desc := "()I" } : Jvm.MethodName) prog_5_method_5_code (2 : Nat) (Option.some Jvm.ClassFile.FieldType.int)) ∈ ml_T := ml_in (ml_t3 (List.mem_of_getElem? (i := 28) rfl)) rfl
theorem tw_3_29 : (Jvm.Cond.methodLink "MirrorLane$Items" (33 : Nat) ({ cls := "MirrorLane$Items", name := "readTimes", desc := "()V" } : Jvm.MethodName)) ∈ ml_T := ml_in (ml_t3 (List.mem_of_getElem? (i := 29) rfl)) rfl
theorem tw_3_31 : (Jvm.Cond.instanceMethod ({ cls := "MirrorLane$Items", name := "readTimes", desc := "()V" } : Jvm.MethodName)) ∈ ml_T := ml_in (ml_t3 (List.mem_of_getElem? (i := 31) rfl)) rfl
theorem tv_9 : Cond.selects "MirrorLane$Items" ⟨"MirrorLane$Items", "readTimes", "()V"⟩ ⟨"MirrorLane$Items", "readTimes", "()V"⟩ ∈ ml_T := ml_in (List.mem_append_left _ (List.mem_map.mpr ⟨(⟨"MirrorLane$Items", "readTimes", "()V"⟩, 6), (show _ ∈ lw_privs from List.mem_append_left _ (List.mem_of_getElem? (i := 9) rfl)), rfl⟩)) rfl
theorem tw_3_32 : (Jvm.Cond.code ({ cls := "MirrorLane$Items", name := "readTimes", desc := "()V" } : Jvm.MethodName) prog_5_method_4_code (1 : Nat) (Option.none : Option Jvm.ClassFile.FieldType)) ∈ ml_T := ml_in (ml_t3 (List.mem_of_getElem? (i := 32) rfl)) rfl
theorem tw_3_33 : (Jvm.Cond.methodLink "MirrorLane$Items" (36 : Nat) ({ cls := "MirrorLane$Gramma\x72", name := "isDigit", desc := "(I)Z" } : Jvm.MethodName)) ∈ ml_T := ml_in (ml_t3 (List.mem_of_getElem? (i := 33) rfl)) rfl
theorem tw_3_13 : (Jvm.Cond.methodLink "MirrorLane$Loom" (42 : Nat) ({ cls := "MirrorLane$Weave", name := "beStraight", desc := "(I)V" } : Jvm.MethodName)) ∈ ml_T := ml_in (ml_t3 (List.mem_of_getElem? (i := 13) rfl)) rfl
theorem tw_3_14 : (Jvm.Cond.instanceMethod ({ cls := "MirrorLane$Weave", name := "beStraight", desc := "(I)V" } : Jvm.MethodName)) ∈ ml_T := ml_in (ml_t3 (List.mem_of_getElem? (i := 14) rfl)) rfl
theorem tw_3_15 : (Jvm.Cond.selects "MirrorLane$Weave" ({ cls := "MirrorLane$Weave", name := "beStraight", desc := "(I)V" } : Jvm.MethodName) ({ cls := "MirrorLane$Weave", name := "beStraight", desc := "(I)V" } : Jvm.MethodName)) ∈ ml_T := ml_in (ml_t3 (List.mem_of_getElem? (i := 15) rfl)) rfl
theorem tw_3_16 : (Jvm.Cond.code ({ cls := "MirrorLane$Weave", name := "beStraight", desc := "(I)V" } : Jvm.MethodName) prog_11_method_3_code (3 : Nat) (Option.none : Option Jvm.ClassFile.FieldType)) ∈ ml_T := ml_in (ml_t3 (List.mem_of_getElem? (i := 16) rfl)) rfl
theorem tw_3_17 : (Jvm.Cond.methodLink "MirrorLane$Loom" (46 : Nat) ({ cls := "MirrorLane$Items", name := "begin", desc := "([BI)V" } : Jvm.MethodName)) ∈ ml_T := ml_in (ml_t3 (List.mem_of_getElem? (i := 17) rfl)) rfl
theorem tw_3_18 : (Jvm.Cond.instanceMethod ({ cls := "MirrorLane$Items", name := "begin", desc := "([BI)V" } : Jvm.MethodName)) ∈ ml_T := ml_in (ml_t3 (List.mem_of_getElem? (i := 18) rfl)) rfl
theorem tw_3_19 : (Jvm.Cond.selects "MirrorLane$Items" ({ cls := "MirrorLane$Items", name := "begin", desc := "([BI)V" } : Jvm.MethodName) ({ cls := "MirrorLane$Items", name := "begin", desc := "([BI)V" } : Jvm.MethodName)) ∈ ml_T := ml_in (ml_t3 (List.mem_of_getElem? (i := 19) rfl)) rfl
theorem tw_3_20 : (Jvm.Cond.code ({ cls := "MirrorLane$Items", name := "begin", desc := "([BI)V" } : Jvm.MethodName) prog_5_method_2_code (3 : Nat) (Option.none : Option Jvm.ClassFile.FieldType)) ∈ ml_T := ml_in (ml_t3 (List.mem_of_getElem? (i := 20) rfl)) rfl
theorem tw_3_21 : (Jvm.Cond.methodLink "MirrorLane$Loom" (50 : Nat) ({ cls := "MirrorLane$Items", name := "step", desc := "()Z" } : Jvm.MethodName)) ∈ ml_T := ml_in (ml_t3 (List.mem_of_getElem? (i := 21) rfl)) rfl
theorem tw_3_22 : (Jvm.Cond.instanceMethod ({ cls := "MirrorLane$Items", name := "step", desc := "()Z" } : Jvm.MethodName)) ∈ ml_T := ml_in (ml_t3 (List.mem_of_getElem? (i := 22) rfl)) rfl
theorem tw_3_23 : (Jvm.Cond.selects "MirrorLane$Items" ({ cls := "MirrorLane$Items", name := "step", desc := "()Z" } : Jvm.MethodName) ({ cls := "MirrorLane$Items", name := "step", desc := "()Z" } : Jvm.MethodName)) ∈ ml_T := ml_in (ml_t3 (List.mem_of_getElem? (i := 23) rfl)) rfl
theorem tw_3_24 : (Jvm.Cond.code ({ cls := "MirrorLane$Items", name := "step", desc := "()Z" } : Jvm.MethodName) prog_5_method_3_code (2 : Nat) (Option.some Jvm.ClassFile.FieldType.boolean)) ∈ ml_T := ml_in (ml_t3 (List.mem_of_getElem? (i := 24) rfl)) rfl
theorem tw_3_37 : (Jvm.Cond.methodLink "MirrorLane$Loom" (64 : Nat) ({ cls := "MirrorLane$Weave", name := "beLike", desc := "(LMirrorLane$Weave;)V" } : Jvm.MethodName)) ∈ ml_T := ml_in (ml_t3 (List.mem_of_getElem? (i := 37) rfl)) rfl
theorem tw_3_38 : (Jvm.Cond.instanceMethod ({ cls := "MirrorLane$Weave", name := "beLike", desc := "(LMirrorLane$Weave;)V" } : Jvm.MethodName)) ∈ ml_T := ml_in (ml_t3 (List.mem_of_getElem? (i := 38) rfl)) rfl
theorem tw_3_39 : (Jvm.Cond.selects "MirrorLane$Weave" ({ cls := "MirrorLane$Weave", name := "beLike", desc := "(LMirrorLane$Weave;)V" } : Jvm.MethodName) ({ cls := "MirrorLane$Weave", name := "beLike", desc := "(LMirrorLane$Weave;)V" } : Jvm.MethodName)) ∈ ml_T := ml_in (ml_t3 (List.mem_of_getElem? (i := 39) rfl)) rfl
theorem tw_3_40 : (Jvm.Cond.code ({ cls := "MirrorLane$Weave", name := "beLike", desc := "(LMirrorLane$Weave;)V" } : Jvm.MethodName) prog_11_method_6_code (2 : Nat) (Option.none : Option Jvm.ClassFile.FieldType)) ∈ ml_T := ml_in (ml_t3 (List.mem_of_getElem? (i := 40) rfl)) rfl
theorem tw_3_47 : (Jvm.Cond.methodLink "MirrorLane$Loom" (74 : Nat) ({ cls := "MirrorLane$Weave", name := "beSign", desc := "(II)V" } : Jvm.MethodName)) ∈ ml_T := ml_in (ml_t3 (List.mem_of_getElem? (i := 47) rfl)) rfl
theorem tw_3_48 : (Jvm.Cond.instanceMethod ({ cls := "MirrorLane$Weave", name := "beSign", desc := "(II)V" } : Jvm.MethodName)) ∈ ml_T := ml_in (ml_t3 (List.mem_of_getElem? (i := 48) rfl)) rfl
theorem tw_3_49 : (Jvm.Cond.selects "MirrorLane$Weave" ({ cls := "MirrorLane$Weave", name := "beSign", desc := "(II)V" } : Jvm.MethodName) ({ cls := "MirrorLane$Weave", name := "beSign", desc := "(II)V" } : Jvm.MethodName)) ∈ ml_T := ml_in (ml_t3 (List.mem_of_getElem? (i := 49) rfl)) rfl
theorem tw_3_50 : (Jvm.Cond.code ({ cls := "MirrorLane$Weave", name := "beSign", desc := "(II)V" } : Jvm.MethodName) prog_11_method_4_code (4 : Nat) (Option.none : Option Jvm.ClassFile.FieldType)) ∈ ml_T := ml_in (ml_t3 (List.mem_of_getElem? (i := 50) rfl)) rfl
theorem tw_3_56 : (Jvm.Cond.methodLink "MirrorLane$Loom" (86 : Nat) ({ cls := "MirrorLane$Loom", name := "repeatItem", desc := "(II)V" } : Jvm.MethodName)) ∈ ml_T := ml_in (ml_t3 (List.mem_of_getElem? (i := 56) rfl)) rfl
theorem tw_3_58 : (Jvm.Cond.instanceMethod ({ cls := "MirrorLane$Loom", name := "repeatItem", desc := "(II)V" } : Jvm.MethodName)) ∈ ml_T := ml_in (ml_t3 (List.mem_of_getElem? (i := 58) rfl)) rfl
theorem tv_11 : Cond.selects "MirrorLane$Loom" ⟨"MirrorLane$Loom", "repeatItem", "(II)V"⟩ ⟨"MirrorLane$Loom", "repeatItem", "(II)V"⟩ ∈ ml_T := ml_in (List.mem_append_left _ (List.mem_map.mpr ⟨(⟨"MirrorLane$Loom", "repeatItem", "(II)V"⟩, 7), (show _ ∈ lw_privs from List.mem_append_left _ (List.mem_of_getElem? (i := 11) rfl)), rfl⟩)) rfl
theorem tw_3_59 : (Jvm.Cond.code ({ cls := "MirrorLane$Loom", name := "repeatItem", desc := "(II)V" } : Jvm.MethodName) prog_6_method_3_code (4 : Nat) (Option.none : Option Jvm.ClassFile.FieldType)) ∈ ml_T := ml_in (ml_t3 (List.mem_of_getElem? (i := 59) rfl)) rfl
theorem tw_3_60 : (Jvm.Cond.methodLink "MirrorLane$Loom" (89 : Nat) ({ cls := "MirrorLane$Weave", name := "beBoth", desc := "(LMirrorLane$Weave;LMirrorLane$Weave;I)V" } : Jvm.MethodName)) ∈ ml_T := ml_in (ml_t3 (List.mem_of_getElem? (i := 60) rfl)) rfl
theorem tw_3_61 : (Jvm.Cond.instanceMethod ({ cls := "MirrorLane$Weave", name := "beBoth", desc := "(LMirrorLane$Weave;LMirrorLane$Weave;I)V" } : Jvm.MethodName)) ∈ ml_T := ml_in (ml_t3 (List.mem_of_getElem? (i := 61) rfl)) rfl
theorem tw_3_62 : (Jvm.Cond.selects "MirrorLane$Weave" ({ cls := "MirrorLane$Weave", name := "beBoth", desc := "(LMirrorLane$Weave;LMirrorLane$Weave;I)V" } : Jvm.MethodName) ({ cls := "MirrorLane$Weave", name := "beBoth", desc := "(LMirrorLane$Weave;LMirrorLane$Weave;I)V" } : Jvm.MethodName)) ∈ ml_T := ml_in (ml_t3 (List.mem_of_getElem? (i := 62) rfl)) rfl
theorem tw_3_63 : (Jvm.Cond.code ({ cls := "MirrorLane$Weave", name := "beBoth", desc := "(LMirrorLane$Weave;LMirrorLane$Weave;I)V" } : Jvm.MethodName) prog_11_method_7_code (6 : Nat) (Option.none : Option Jvm.ClassFile.FieldType)) ∈ ml_T := ml_in (ml_t3 (List.mem_of_getElem? (i := 63) rfl)) rfl
theorem tw_4_6 : (Jvm.Cond.methodLink "MirrorLane$Loom" (93 : Nat) ({ cls := "MirrorLane$Weave", name := "isAlike", desc := "(LMirrorLane$Weave;I)Z" } : Jvm.MethodName)) ∈ ml_T := ml_in (ml_t4 (List.mem_of_getElem? (i := 6) rfl)) rfl
theorem tw_4_163 : (Jvm.Cond.methodLink "MirrorLane$Loom" (107 : Nat) ({ cls := "MirrorLane$Loom", name := "writeSign", desc := "(LMirrorLane$Word;I)V" } : Jvm.MethodName)) ∈ ml_T := ml_in (ml_t4 (List.mem_of_getElem? (i := 163) rfl)) rfl
theorem tw_4_164 : (Jvm.Cond.static ({ cls := "MirrorLane$Loom", name := "writeSign", desc := "(LMirrorLane$Word;I)V" } : Jvm.MethodName)) ∈ ml_T := ml_in (ml_t4 (List.mem_of_getElem? (i := 164) rfl)) rfl
theorem tw_4_165 : (Jvm.Cond.code ({ cls := "MirrorLane$Loom", name := "writeSign", desc := "(LMirrorLane$Word;I)V" } : Jvm.MethodName) prog_6_method_8_code (2 : Nat) (Option.none : Option Jvm.ClassFile.FieldType)) ∈ ml_T := ml_in (ml_t4 (List.mem_of_getElem? (i := 165) rfl)) rfl
theorem tw_4_166 : (Jvm.Cond.methodLink "MirrorLane$Loom" (114 : Nat) ({ cls := "MirrorLane$Loom", name := "writeRow", desc := "(LMirrorLane$Word;[BII)V" } : Jvm.MethodName)) ∈ ml_T := ml_in (ml_t4 (List.mem_of_getElem? (i := 166) rfl)) rfl
theorem tw_4_167 : (Jvm.Cond.static ({ cls := "MirrorLane$Loom", name := "writeRow", desc := "(LMirrorLane$Word;[BII)V" } : Jvm.MethodName)) ∈ ml_T := ml_in (ml_t4 (List.mem_of_getElem? (i := 167) rfl)) rfl
theorem tw_4_168 : (Jvm.Cond.code ({ cls := "MirrorLane$Loom", name := "writeRow", desc := "(LMirrorLane$Word;[BII)V" } : Jvm.MethodName) prog_6_method_9_code (5 : Nat) (Option.none : Option Jvm.ClassFile.FieldType)) ∈ ml_T := ml_in (ml_t4 (List.mem_of_getElem? (i := 168) rfl)) rfl
theorem tw_4_170 : (Jvm.Cond.methodLink "MirrorLane$Loom" (118 : Nat) ({ cls := "MirrorLane$Loom", name := "repeatRow", desc := "(LMirrorLane$Word;II)V" } : Jvm.MethodName)) ∈ ml_T := ml_in (ml_t4 (List.mem_of_getElem? (i := 170) rfl)) rfl
theorem tw_4_171 : (Jvm.Cond.static ({ cls := "MirrorLane$Loom", name := "repeatRow", desc := "(LMirrorLane$Word;II)V" } : Jvm.MethodName)) ∈ ml_T := ml_in (ml_t4 (List.mem_of_getElem? (i := 171) rfl)) rfl
theorem tw_4_172 : (Jvm.Cond.code ({ cls := "MirrorLane$Loom", name := "repeatRow", desc := "(LMirrorLane$Word;II)V" } : Jvm.MethodName) prog_6_method_10_code (5 : Nat) (Option.none : Option Jvm.ClassFile.FieldType)) ∈ ml_T := ml_in (ml_t4 (List.mem_of_getElem? (i := 172) rfl)) rfl
theorem tw_4_128 : (Jvm.Cond.methodLink "MirrorLane$Mende\x72" (34 : Nat) ({ cls := "MirrorLane$Weave", name := "beStraight", desc := "(I)V" } : Jvm.MethodName)) ∈ ml_T := ml_in (ml_t4 (List.mem_of_getElem? (i := 128) rfl)) rfl
theorem tw_4_129 : (Jvm.Cond.methodLink "MirrorLane$Mende\x72" (38 : Nat) ({ cls := "java/lang/Intege\x72", name := "bitCount", desc := "(I)I" } : Jvm.MethodName)) ∈ ml_T := ml_in (ml_t4 (List.mem_of_getElem? (i := 129) rfl)) rfl
theorem tw_4_130 : (Jvm.Cond.methodLink "MirrorLane$Mende\x72" (48 : Nat) ({ cls := "MirrorLane$Weave", name := "beSign", desc := "(II)V" } : Jvm.MethodName)) ∈ ml_T := ml_in (ml_t4 (List.mem_of_getElem? (i := 130) rfl)) rfl
theorem tw_4_131 : (Jvm.Cond.methodLink "MirrorLane$Mende\x72" (52 : Nat) ({ cls := "MirrorLane$Weave", name := "beBoth", desc := "(LMirrorLane$Weave;LMirrorLane$Weave;I)V" } : Jvm.MethodName)) ∈ ml_T := ml_in (ml_t4 (List.mem_of_getElem? (i := 131) rfl)) rfl
theorem tw_4_132 : (Jvm.Cond.methodLink "MirrorLane$Mende\x72" (56 : Nat) ({ cls := "MirrorLane$Mende\x72", name := "leavesOne", desc := "(LMirrorLane$Weave;LMirrorLane$Powers;LMirrorLane$Closing;I)Z" } : Jvm.MethodName)) ∈ ml_T := ml_in (ml_t4 (List.mem_of_getElem? (i := 132) rfl)) rfl
theorem tw_4_133 : (Jvm.Cond.static ({ cls := "MirrorLane$Mende\x72", name := "leavesOne", desc := "(LMirrorLane$Weave;LMirrorLane$Powers;LMirrorLane$Closing;I)Z" } : Jvm.MethodName)) ∈ ml_T := ml_in (ml_t4 (List.mem_of_getElem? (i := 133) rfl)) rfl
theorem tw_4_134 : (Jvm.Cond.code ({ cls := "MirrorLane$Mende\x72", name := "leavesOne", desc := "(LMirrorLane$Weave;LMirrorLane$Powers;LMirrorLane$Closing;I)Z" } : Jvm.MethodName) prog_7_method_3_code (4 : Nat) (Option.some Jvm.ClassFile.FieldType.boolean)) ∈ ml_T := ml_in (ml_t4 (List.mem_of_getElem? (i := 134) rfl)) rfl
theorem tw_4_135 : (Jvm.Cond.methodLink "MirrorLane$Mende\x72" (64 : Nat) ({ cls := "MirrorLane$Closing", name := "loopsBy", desc := "(LMirrorLane$Weave;I)I" } : Jvm.MethodName)) ∈ ml_T := ml_in (ml_t4 (List.mem_of_getElem? (i := 135) rfl)) rfl
theorem tw_4_136 : (Jvm.Cond.methodLink "MirrorLane$Mende\x72" (70 : Nat) ({ cls := "MirrorLane$Powers", name := "study", desc := "(LMirrorLane$Weave;LMirrorLane$Closing;I)V" } : Jvm.MethodName)) ∈ ml_T := ml_in (ml_t4 (List.mem_of_getElem? (i := 136) rfl)) rfl
theorem tw_4_137 : (Jvm.Cond.methodLink "MirrorLane$Mende\x72" (76 : Nat) ({ cls := "MirrorLane$Powers", name := "alwaysLeaveOne", desc := "()Z" } : Jvm.MethodName)) ∈ ml_T := ml_in (ml_t4 (List.mem_of_getElem? (i := 137) rfl)) rfl
theorem tw_4_138 : (Jvm.Cond.instanceMethod ({ cls := "MirrorLane$Powers", name := "alwaysLeaveOne", desc := "()Z" } : Jvm.MethodName)) ∈ ml_T := ml_in (ml_t4 (List.mem_of_getElem? (i := 138) rfl)) rfl
theorem tw_4_139 : (Jvm.Cond.selects "MirrorLane$Powers" ({ cls := "MirrorLane$Powers", name := "alwaysLeaveOne", desc := "()Z" } : Jvm.MethodName) ({ cls := "MirrorLane$Powers", name := "alwaysLeaveOne", desc := "()Z" } : Jvm.MethodName)) ∈ ml_T := ml_in (ml_t4 (List.mem_of_getElem? (i := 139) rfl)) rfl
theorem tw_4_140 : (Jvm.Cond.code ({ cls := "MirrorLane$Powers", name := "alwaysLeaveOne", desc := "()Z" } : Jvm.MethodName) prog_8_method_4_code (3 : Nat) (Option.some Jvm.ClassFile.FieldType.boolean)) ∈ ml_T := ml_in (ml_t4 (List.mem_of_getElem? (i := 140) rfl)) rfl
theorem tw_3_162 : (Jvm.Cond.methodLink "MirrorLane$Powers" (49 : Nat) ({ cls := "MirrorLane$Weave", name := "beLike", desc := "(LMirrorLane$Weave;)V" } : Jvm.MethodName)) ∈ ml_T := ml_in (ml_t3 (List.mem_of_getElem? (i := 162) rfl)) rfl
theorem tw_3_163 : (Jvm.Cond.methodLink "MirrorLane$Powers" (53 : Nat) ({ cls := "MirrorLane$Weave", name := "beBoth", desc := "(LMirrorLane$Weave;LMirrorLane$Weave;I)V" } : Jvm.MethodName)) ∈ ml_T := ml_in (ml_t3 (List.mem_of_getElem? (i := 163) rfl)) rfl
theorem tw_3_164 : (Jvm.Cond.methodLink "MirrorLane$Powers" (57 : Nat) ({ cls := "MirrorLane$Weave", name := "numbe\x72", desc := "(I)I" } : Jvm.MethodName)) ∈ ml_T := ml_in (ml_t3 (List.mem_of_getElem? (i := 164) rfl)) rfl
theorem tw_3_174 : (Jvm.Cond.methodLink "MirrorLane$Powers" (64 : Nat) ({ cls := "MirrorLane$Closing", name := "loopsBy", desc := "(LMirrorLane$Weave;I)I" } : Jvm.MethodName)) ∈ ml_T := ml_in (ml_t3 (List.mem_of_getElem? (i := 174) rfl)) rfl
theorem tw_3_183 : (Jvm.Cond.methodLink "MirrorLane$Powers" (72 : Nat) ({ cls := "MirrorLane$Powers", name := "isEven", desc := "(I)Z" } : Jvm.MethodName)) ∈ ml_T := ml_in (ml_t3 (List.mem_of_getElem? (i := 183) rfl)) rfl
theorem tw_3_185 : (Jvm.Cond.instanceMethod ({ cls := "MirrorLane$Powers", name := "isEven", desc := "(I)Z" } : Jvm.MethodName)) ∈ ml_T := ml_in (ml_t3 (List.mem_of_getElem? (i := 185) rfl)) rfl
theorem tv_19 : Cond.selects "MirrorLane$Powers" ⟨"MirrorLane$Powers", "isEven", "(I)Z"⟩ ⟨"MirrorLane$Powers", "isEven", "(I)Z"⟩ ∈ ml_T := ml_in (List.mem_append_left _ (List.mem_map.mpr ⟨(⟨"MirrorLane$Powers", "isEven", "(I)Z"⟩, 10), (show _ ∈ lw_privs from List.mem_append_right _ (List.mem_append_left _ (List.mem_of_getElem? (i := 3) rfl))), rfl⟩)) rfl
theorem tw_3_186 : (Jvm.Cond.code ({ cls := "MirrorLane$Powers", name := "isEven", desc := "(I)Z" } : Jvm.MethodName) prog_8_method_6_code (4 : Nat) (Option.some Jvm.ClassFile.FieldType.boolean)) ∈ ml_T := ml_in (ml_t3 (List.mem_of_getElem? (i := 186) rfl)) rfl
theorem tw_3_187 : (Jvm.Cond.methodLink "MirrorLane$Powers" (76 : Nat) ({ cls := "MirrorLane$Powers", name := "growth", desc := "(II)J" } : Jvm.MethodName)) ∈ ml_T := ml_in (ml_t3 (List.mem_of_getElem? (i := 187) rfl)) rfl
theorem tw_3_189 : (Jvm.Cond.instanceMethod ({ cls := "MirrorLane$Powers", name := "growth", desc := "(II)J" } : Jvm.MethodName)) ∈ ml_T := ml_in (ml_t3 (List.mem_of_getElem? (i := 189) rfl)) rfl
theorem tv_20 : Cond.selects "MirrorLane$Powers" ⟨"MirrorLane$Powers", "growth", "(II)J"⟩ ⟨"MirrorLane$Powers", "growth", "(II)J"⟩ ∈ ml_T := ml_in (List.mem_append_left _ (List.mem_map.mpr ⟨(⟨"MirrorLane$Powers", "growth", "(II)J"⟩, 10), (show _ ∈ lw_privs from List.mem_append_right _ (List.mem_append_left _ (List.mem_of_getElem? (i := 4) rfl))), rfl⟩)) rfl
theorem tw_3_190 : (Jvm.Cond.code ({ cls := "MirrorLane$Powers", name := "growth", desc := "(II)J" } : Jvm.MethodName) prog_8_method_7_code (3 : Nat) (Option.some Jvm.ClassFile.FieldType.long)) ∈ ml_T := ml_in (ml_t3 (List.mem_of_getElem? (i := 190) rfl)) rfl
theorem tw_3_191 : (Jvm.Cond.methodLink "MirrorLane$Powers" (80 : Nat) ({ cls := "MirrorLane$Powers", name := "loopsOf", desc := "(J)J" } : Jvm.MethodName)) ∈ ml_T := ml_in (ml_t3 (List.mem_of_getElem? (i := 191) rfl)) rfl
theorem tw_3_216 : (Jvm.Cond.methodLink "MirrorLane$Powers" (84 : Nat) ({ cls := "MirrorLane$Powers", name := "howManyFrom", desc := "(IJJJ)J" } : Jvm.MethodName)) ∈ ml_T := ml_in (ml_t3 (List.mem_of_getElem? (i := 216) rfl)) rfl
theorem tw_3_218 : (Jvm.Cond.instanceMethod ({ cls := "MirrorLane$Powers", name := "howManyFrom", desc := "(IJJJ)J" } : Jvm.MethodName)) ∈ ml_T := ml_in (ml_t3 (List.mem_of_getElem? (i := 218) rfl)) rfl
theorem tv_21 : Cond.selects "MirrorLane$Powers" ⟨"MirrorLane$Powers", "howManyFrom", "(IJJJ)J"⟩ ⟨"MirrorLane$Powers", "howManyFrom", "(IJJJ)J"⟩ ∈ ml_T := ml_in (List.mem_append_left _ (List.mem_map.mpr ⟨(⟨"MirrorLane$Powers", "howManyFrom", "(IJJJ)J"⟩, 10), (show _ ∈ lw_privs from List.mem_append_right _ (List.mem_append_left _ (List.mem_of_getElem? (i := 5) rfl))), rfl⟩)) rfl
theorem tw_3_219 : (Jvm.Cond.code ({ cls := "MirrorLane$Powers", name := "howManyFrom", desc := "(IJJJ)J" } : Jvm.MethodName) prog_8_method_9_code (12 : Nat) (Option.some Jvm.ClassFile.FieldType.long)) ∈ ml_T := ml_in (ml_t3 (List.mem_of_getElem? (i := 219) rfl)) rfl
theorem tw_3_220 : (Jvm.Cond.methodLink "MirrorLane$Powers" (88 : Nat) ({ cls := "MirrorLane$Powers", name := "firstFrom", desc := "(IJ)J" } : Jvm.MethodName)) ∈ ml_T := ml_in (ml_t3 (List.mem_of_getElem? (i := 220) rfl)) rfl
theorem tw_3_222 : (Jvm.Cond.instanceMethod ({ cls := "MirrorLane$Powers", name := "firstFrom", desc := "(IJ)J" } : Jvm.MethodName)) ∈ ml_T := ml_in (ml_t3 (List.mem_of_getElem? (i := 222) rfl)) rfl
theorem tv_22 : Cond.selects "MirrorLane$Powers" ⟨"MirrorLane$Powers", "firstFrom", "(IJ)J"⟩ ⟨"MirrorLane$Powers", "firstFrom", "(IJ)J"⟩ ∈ ml_T := ml_in (List.mem_append_left _ (List.mem_map.mpr ⟨(⟨"MirrorLane$Powers", "firstFrom", "(IJ)J"⟩, 10), (show _ ∈ lw_privs from List.mem_append_right _ (List.mem_append_left _ (List.mem_of_getElem? (i := 6) rfl))), rfl⟩)) rfl
theorem tw_3_223 : (Jvm.Cond.code ({ cls := "MirrorLane$Powers", name := "firstFrom", desc := "(IJ)J" } : Jvm.MethodName) prog_8_method_11_code (6 : Nat) (Option.some Jvm.ClassFile.FieldType.long)) ∈ ml_T := ml_in (ml_t3 (List.mem_of_getElem? (i := 223) rfl)) rfl
theorem tw_4_32 : (Jvm.Cond.methodLink "MirrorLane$Sentences" (60 : Nat) ({ cls := "java/util/Arrays", name := "fill", desc := "([II)V" } : Jvm.MethodName)) ∈ ml_T := ml_in (ml_t4 (List.mem_of_getElem? (i := 32) rfl)) rfl
theorem tw_4_35 : (Jvm.Cond.methodLink "MirrorLane$Sentences" (66 : Nat) ({ cls := "MirrorLane$Weave", name := "beStraight", desc := "(I)V" } : Jvm.MethodName)) ∈ ml_T := ml_in (ml_t4 (List.mem_of_getElem? (i := 35) rfl)) rfl
theorem tw_4_36 : (Jvm.Cond.methodLink "MirrorLane$Sentences" (70 : Nat) ({ cls := "MirrorLane$Sentences", name := "keep", desc := "(LMirrorLane$Weave;)V" } : Jvm.MethodName)) ∈ ml_T := ml_in (ml_t4 (List.mem_of_getElem? (i := 36) rfl)) rfl
theorem tw_4_38 : (Jvm.Cond.instanceMethod ({ cls := "MirrorLane$Sentences", name := "keep", desc := "(LMirrorLane$Weave;)V" } : Jvm.MethodName)) ∈ ml_T := ml_in (ml_t4 (List.mem_of_getElem? (i := 38) rfl)) rfl
theorem tv_24 : Cond.selects "MirrorLane$Sentences" ⟨"MirrorLane$Sentences", "keep", "(LMirrorLane$Weave;)V"⟩ ⟨"MirrorLane$Sentences", "keep", "(LMirrorLane$Weave;)V"⟩ ∈ ml_T := ml_in (List.mem_append_left _ (List.mem_map.mpr ⟨(⟨"MirrorLane$Sentences", "keep", "(LMirrorLane$Weave;)V"⟩, 14), (show _ ∈ lw_privs from List.mem_append_right _ (List.mem_append_left _ (List.mem_of_getElem? (i := 8) rfl))), rfl⟩)) rfl
theorem tw_4_39 : (Jvm.Cond.code ({ cls := "MirrorLane$Sentences", name := "keep", desc := "(LMirrorLane$Weave;)V" } : Jvm.MethodName) prog_9_method_4_code (2 : Nat) (Option.none : Option Jvm.ClassFile.FieldType)) ∈ ml_T := ml_in (ml_t4 (List.mem_of_getElem? (i := 39) rfl)) rfl
theorem tw_4_41 : (Jvm.Cond.methodLink "MirrorLane$Sentences" (74 : Nat) ({ cls := "MirrorLane$Sentences", name := "leadOn", desc := "(I[LMirrorLane$Word;I)V" } : Jvm.MethodName)) ∈ ml_T := ml_in (ml_t4 (List.mem_of_getElem? (i := 41) rfl)) rfl
theorem tw_4_43 : (Jvm.Cond.instanceMethod ({ cls := "MirrorLane$Sentences", name := "leadOn", desc := "(I[LMirrorLane$Word;I)V" } : Jvm.MethodName)) ∈ ml_T := ml_in (ml_t4 (List.mem_of_getElem? (i := 43) rfl)) rfl
theorem tv_25 : Cond.selects "MirrorLane$Sentences" ⟨"MirrorLane$Sentences", "leadOn", "(I[LMirrorLane$Word;I)V"⟩ ⟨"MirrorLane$Sentences", "leadOn", "(I[LMirrorLane$Word;I)V"⟩ ∈ ml_T := ml_in (List.mem_append_left _ (List.mem_map.mpr ⟨(⟨"MirrorLane$Sentences", "leadOn", "(I[LMirrorLane$Word;I)V"⟩, 14), (show _ ∈ lw_privs from List.mem_append_right _ (List.mem_append_left _ (List.mem_of_getElem? (i := 9) rfl))), rfl⟩)) rfl
theorem tw_4_44 : (Jvm.Cond.code ({ cls := "MirrorLane$Sentences", name := "leadOn", desc := "(I[LMirrorLane$Word;I)V" } : Jvm.MethodName) prog_9_method_5_code (6 : Nat) (Option.none : Option Jvm.ClassFile.FieldType)) ∈ ml_T := ml_in (ml_t4 (List.mem_of_getElem? (i := 44) rfl)) rfl
theorem tw_4_49 : (Jvm.Cond.methodLink "MirrorLane$Sentences" (78 : Nat) ({ cls := "MirrorLane$Sentences", name := "startRow", desc := "()V" } : Jvm.MethodName)) ∈ ml_T := ml_in (ml_t4 (List.mem_of_getElem? (i := 49) rfl)) rfl
theorem tw_4_51 : (Jvm.Cond.instanceMethod ({ cls := "MirrorLane$Sentences", name := "startRow", desc := "()V" } : Jvm.MethodName)) ∈ ml_T := ml_in (ml_t4 (List.mem_of_getElem? (i := 51) rfl)) rfl
theorem tv_26 : Cond.selects "MirrorLane$Sentences" ⟨"MirrorLane$Sentences", "startRow", "()V"⟩ ⟨"MirrorLane$Sentences", "startRow", "()V"⟩ ∈ ml_T := ml_in (List.mem_append_left _ (List.mem_map.mpr ⟨(⟨"MirrorLane$Sentences", "startRow", "()V"⟩, 14), (show _ ∈ lw_privs from List.mem_append_right _ (List.mem_append_left _ (List.mem_of_getElem? (i := 10) rfl))), rfl⟩)) rfl
theorem tw_4_52 : (Jvm.Cond.code ({ cls := "MirrorLane$Sentences", name := "startRow", desc := "()V" } : Jvm.MethodName) prog_9_method_7_code (1 : Nat) (Option.none : Option Jvm.ClassFile.FieldType)) ∈ ml_T := ml_in (ml_t4 (List.mem_of_getElem? (i := 52) rfl)) rfl
theorem tw_4_45 : (Jvm.Cond.methodLink "MirrorLane$Sentences" (95 : Nat) ({ cls := "MirrorLane$Weave", name := "beBoth", desc := "(LMirrorLane$Weave;LMirrorLane$Weave;I)V" } : Jvm.MethodName)) ∈ ml_T := ml_in (ml_t4 (List.mem_of_getElem? (i := 45) rfl)) rfl
theorem tw_4_46 : (Jvm.Cond.methodLink "MirrorLane$Sentences" (99 : Nat) ({ cls := "MirrorLane$Weave", name := "numbe\x72", desc := "(I)I" } : Jvm.MethodName)) ∈ ml_T := ml_in (ml_t4 (List.mem_of_getElem? (i := 46) rfl)) rfl
theorem tw_4_60 : (Jvm.Cond.methodLink "MirrorLane$Sentences" (115 : Nat) ({ cls := "MirrorLane$Closing", name := "loopsBy", desc := "(LMirrorLane$Weave;I)I" } : Jvm.MethodName)) ∈ ml_T := ml_in (ml_t4 (List.mem_of_getElem? (i := 60) rfl)) rfl
theorem tw_4_53 : (Jvm.Cond.methodLink "MirrorLane$Sentences" (121 : Nat) ({ cls := "java/util/Arrays", name := "fill", desc := "([JJ)V" } : Jvm.MethodName)) ∈ ml_T := ml_in (ml_t4 (List.mem_of_getElem? (i := 53) rfl)) rfl
theorem tw_4_65 : (Jvm.Cond.methodLink "MirrorLane$Sentences" (124 : Nat) ({ cls := "MirrorLane$Sentences", name := "lengthenRow", desc := "()V" } : Jvm.MethodName)) ∈ ml_T := ml_in (ml_t4 (List.mem_of_getElem? (i := 65) rfl)) rfl
theorem tw_4_67 : (Jvm.Cond.instanceMethod ({ cls := "MirrorLane$Sentences", name := "lengthenRow", desc := "()V" } : Jvm.MethodName)) ∈ ml_T := ml_in (ml_t4 (List.mem_of_getElem? (i := 67) rfl)) rfl
theorem tv_27 : Cond.selects "MirrorLane$Sentences" ⟨"MirrorLane$Sentences", "lengthenRow", "()V"⟩ ⟨"MirrorLane$Sentences", "lengthenRow", "()V"⟩ ∈ ml_T := ml_in (List.mem_append_left _ (List.mem_map.mpr ⟨(⟨"MirrorLane$Sentences", "lengthenRow", "()V"⟩, 14), (show _ ∈ lw_privs from List.mem_append_right _ (List.mem_append_left _ (List.mem_of_getElem? (i := 11) rfl))), rfl⟩)) rfl
theorem tw_4_68 : (Jvm.Cond.code ({ cls := "MirrorLane$Sentences", name := "lengthenRow", desc := "()V" } : Jvm.MethodName) prog_9_method_9_code (2 : Nat) (Option.none : Option Jvm.ClassFile.FieldType)) ∈ ml_T := ml_in (ml_t4 (List.mem_of_getElem? (i := 68) rfl)) rfl
theorem tw_4_69 : (Jvm.Cond.methodLink "MirrorLane$Sentences" (129 : Nat) ({ cls := "MirrorLane$Sentences", name := "spread", desc := "(I)V" } : Jvm.MethodName)) ∈ ml_T := ml_in (ml_t4 (List.mem_of_getElem? (i := 69) rfl)) rfl
theorem tw_4_71 : (Jvm.Cond.instanceMethod ({ cls := "MirrorLane$Sentences", name := "spread", desc := "(I)V" } : Jvm.MethodName)) ∈ ml_T := ml_in (ml_t4 (List.mem_of_getElem? (i := 71) rfl)) rfl
theorem tv_28 : Cond.selects "MirrorLane$Sentences" ⟨"MirrorLane$Sentences", "spread", "(I)V"⟩ ⟨"MirrorLane$Sentences", "spread", "(I)V"⟩ ∈ ml_T := ml_in (List.mem_append_left _ (List.mem_map.mpr ⟨(⟨"MirrorLane$Sentences", "spread", "(I)V"⟩, 14), (show _ ∈ lw_privs from List.mem_append_right _ (List.mem_append_left _ (List.mem_of_getElem? (i := 12) rfl))), rfl⟩)) rfl
theorem tw_4_72 : (Jvm.Cond.code ({ cls := "MirrorLane$Sentences", name := "spread", desc := "(I)V" } : Jvm.MethodName) prog_9_method_10_code (5 : Nat) (Option.none : Option Jvm.ClassFile.FieldType)) ∈ ml_T := ml_in (ml_t4 (List.mem_of_getElem? (i := 72) rfl)) rfl
theorem tw_3_51 : (Jvm.Cond.methodLink "MirrorLane$Weave" (41 : Nat) ({ cls := "MirrorLane$Weave", name := "beStraight", desc := "(I)V" } : Jvm.MethodName)) ∈ ml_T := ml_in (ml_t3 (List.mem_of_getElem? (i := 51) rfl)) rfl
theorem tw_3_52 : (Jvm.Cond.methodLink "MirrorLane$Weave" (45 : Nat) ({ cls := "MirrorLane$Weave", name := "touch", desc := "(II)V" } : Jvm.MethodName)) ∈ ml_T := ml_in (ml_t3 (List.mem_of_getElem? (i := 52) rfl)) rfl
theorem tw_3_54 : (Jvm.Cond.instanceMethod ({ cls := "MirrorLane$Weave", name := "touch", desc := "(II)V" } : Jvm.MethodName)) ∈ ml_T := ml_in (ml_t3 (List.mem_of_getElem? (i := 54) rfl)) rfl
theorem tv_10 : Cond.selects "MirrorLane$Weave" ⟨"MirrorLane$Weave", "touch", "(II)V"⟩ ⟨"MirrorLane$Weave", "touch", "(II)V"⟩ ∈ ml_T := ml_in (List.mem_append_left _ (List.mem_map.mpr ⟨(⟨"MirrorLane$Weave", "touch", "(II)V"⟩, 8), (show _ ∈ lw_privs from List.mem_append_left _ (List.mem_of_getElem? (i := 10) rfl)), rfl⟩)) rfl
theorem tw_3_55 : (Jvm.Cond.code ({ cls := "MirrorLane$Weave", name := "touch", desc := "(II)V" } : Jvm.MethodName) prog_11_method_5_code (3 : Nat) (Option.none : Option Jvm.ClassFile.FieldType)) ∈ ml_T := ml_in (ml_t3 (List.mem_of_getElem? (i := 55) rfl)) rfl
theorem tw_3_71 : (Jvm.Cond.methodLink "MirrorLane$Weave" (66 : Nat) ({ cls := "MirrorLane$Weave", name := "joinFrom", desc := "(ILMirrorLane$Weave;LMirrorLane$Weave;I)I" } : Jvm.MethodName)) ∈ ml_T := ml_in (ml_t3 (List.mem_of_getElem? (i := 71) rfl)) rfl
theorem tw_3_73 : (Jvm.Cond.instanceMethod ({ cls := "MirrorLane$Weave", name := "joinFrom", desc := "(ILMirrorLane$Weave;LMirrorLane$Weave;I)I" } : Jvm.MethodName)) ∈ ml_T := ml_in (ml_t3 (List.mem_of_getElem? (i := 73) rfl)) rfl
theorem tv_12 : Cond.selects "MirrorLane$Weave" ⟨"MirrorLane$Weave", "joinFrom", "(ILMirrorLane$Weave;LMirrorLane$Weave;I)I"⟩ ⟨"MirrorLane$Weave", "joinFrom", "(ILMirrorLane$Weave;LMirrorLane$Weave;I)I"⟩ ∈ ml_T := ml_in (List.mem_append_left _ (List.mem_map.mpr ⟨(⟨"MirrorLane$Weave", "joinFrom", "(ILMirrorLane$Weave;LMirrorLane$Weave;I)I"⟩, 8), (show _ ∈ lw_privs from List.mem_append_left _ (List.mem_of_getElem? (i := 12) rfl)), rfl⟩)) rfl
theorem tw_3_74 : (Jvm.Cond.code ({ cls := "MirrorLane$Weave", name := "joinFrom", desc := "(ILMirrorLane$Weave;LMirrorLane$Weave;I)I" } : Jvm.MethodName) prog_11_method_8_code (14 : Nat) (Option.some Jvm.ClassFile.FieldType.int)) ∈ ml_T := ml_in (ml_t3 (List.mem_of_getElem? (i := 74) rfl)) rfl
theorem tw_3_75 : (Jvm.Cond.methodLink "MirrorLane$Weave" (70 : Nat) ({ cls := "MirrorLane$Weave", name := "addLoop", desc := "(ILMirrorLane$Weave;LMirrorLane$Weave;I)I" } : Jvm.MethodName)) ∈ ml_T := ml_in (ml_t3 (List.mem_of_getElem? (i := 75) rfl)) rfl
theorem tw_3_77 : (Jvm.Cond.instanceMethod ({ cls := "MirrorLane$Weave", name := "addLoop", desc := "(ILMirrorLane$Weave;LMirrorLane$Weave;I)I" } : Jvm.MethodName)) ∈ ml_T := ml_in (ml_t3 (List.mem_of_getElem? (i := 77) rfl)) rfl
theorem tv_13 : Cond.selects "MirrorLane$Weave" ⟨"MirrorLane$Weave", "addLoop", "(ILMirrorLane$Weave;LMirrorLane$Weave;I)I"⟩ ⟨"MirrorLane$Weave", "addLoop", "(ILMirrorLane$Weave;LMirrorLane$Weave;I)I"⟩ ∈ ml_T := ml_in (List.mem_append_left _ (List.mem_map.mpr ⟨(⟨"MirrorLane$Weave", "addLoop", "(ILMirrorLane$Weave;LMirrorLane$Weave;I)I"⟩, 8), (show _ ∈ lw_privs from List.mem_append_left _ (List.mem_of_getElem? (i := 13) rfl)), rfl⟩)) rfl
theorem tw_3_78 : (Jvm.Cond.code ({ cls := "MirrorLane$Weave", name := "addLoop", desc := "(ILMirrorLane$Weave;LMirrorLane$Weave;I)I" } : Jvm.MethodName) prog_11_method_9_code (11 : Nat) (Option.some Jvm.ClassFile.FieldType.int)) ∈ ml_T := ml_in (ml_t3 (List.mem_of_getElem? (i := 78) rfl)) rfl
theorem tw_3_168 : (Jvm.Cond.methodLink "MirrorLane$Weave" (73 : Nat) ({ cls := "java/lang/Intege\x72", name := "bitCount", desc := "(I)I" } : Jvm.MethodName)) ∈ ml_T := ml_in (ml_t3 (List.mem_of_getElem? (i := 168) rfl)) rfl
theorem in_X0 : ∀ w ∈ u_ws RX0 TX0 2, w ∈ ml_T := by
  show ∀ w ∈ [u_lay RX0 TX0 0, u_lay RX0 TX0 1], w ∈ ml_T
  exact List.forall_mem_cons.mpr ⟨tw_1_52, List.forall_mem_cons.mpr ⟨tw_1_54, fun _ h => absurd h List.not_mem_nil⟩⟩
theorem tk_X0 : ∀ k, k < 2 → parseFieldDescriptor (TX0 k).2.2.1 = some (ml_ty 0 k) := tyX0_ok
theorem in_X1 : ∀ w ∈ u_ws RX1 TX1 7, w ∈ ml_T := by
  show ∀ w ∈ [u_lay RX1 TX1 0, u_lay RX1 TX1 1, u_lay RX1 TX1 2, u_lay RX1 TX1 3, u_lay RX1 TX1 4, u_lay RX1 TX1 5, u_lay RX1 TX1 6], w ∈ ml_T
  exact List.forall_mem_cons.mpr ⟨tw_2_65, List.forall_mem_cons.mpr ⟨tw_2_67, List.forall_mem_cons.mpr ⟨tw_2_69, List.forall_mem_cons.mpr ⟨tw_2_71, List.forall_mem_cons.mpr ⟨tw_2_73, List.forall_mem_cons.mpr ⟨tw_2_75, List.forall_mem_cons.mpr ⟨tw_2_77, fun _ h => absurd h List.not_mem_nil⟩⟩⟩⟩⟩⟩⟩
theorem tk_X1 : ∀ k, k < 7 → parseFieldDescriptor (TX1 k).2.2.1 = some (ml_ty 1 k) := tyX1_ok
theorem in_X2 : ∀ w ∈ u_ws RX2 TX2 7, w ∈ ml_T := by
  show ∀ w ∈ [u_lay RX2 TX2 0, u_lay RX2 TX2 1, u_lay RX2 TX2 2, u_lay RX2 TX2 3, u_lay RX2 TX2 4, u_lay RX2 TX2 5, u_lay RX2 TX2 6], w ∈ ml_T
  exact List.forall_mem_cons.mpr ⟨tw_1_70, List.forall_mem_cons.mpr ⟨tw_1_72, List.forall_mem_cons.mpr ⟨tw_1_74, List.forall_mem_cons.mpr ⟨tw_1_76, List.forall_mem_cons.mpr ⟨tw_1_78, List.forall_mem_cons.mpr ⟨tw_1_80, List.forall_mem_cons.mpr ⟨tw_1_82, fun _ h => absurd h List.not_mem_nil⟩⟩⟩⟩⟩⟩⟩
theorem tk_X2 : ∀ k, k < 7 → parseFieldDescriptor (TX2 k).2.2.1 = some (ml_ty 2 k) := tyX2_ok
theorem in_X3 : ∀ w ∈ u_ws RX3 TX3 6, w ∈ ml_T := by
  show ∀ w ∈ [u_lay RX3 TX3 0, u_lay RX3 TX3 1, u_lay RX3 TX3 2, u_lay RX3 TX3 3, u_lay RX3 TX3 4, u_lay RX3 TX3 5], w ∈ ml_T
  exact List.forall_mem_cons.mpr ⟨tw_1_107, List.forall_mem_cons.mpr ⟨tw_1_109, List.forall_mem_cons.mpr ⟨tw_1_111, List.forall_mem_cons.mpr ⟨tw_1_113, List.forall_mem_cons.mpr ⟨tw_1_115, List.forall_mem_cons.mpr ⟨tw_1_117, fun _ h => absurd h List.not_mem_nil⟩⟩⟩⟩⟩⟩
theorem tk_X3 : ∀ k, k < 6 → parseFieldDescriptor (TX3 k).2.2.1 = some (ml_ty 3 k) := tyX3_ok
theorem in_X4 : ∀ w ∈ u_ws RX4 TX4 7, w ∈ ml_T := by
  show ∀ w ∈ [u_lay RX4 TX4 0, u_lay RX4 TX4 1, u_lay RX4 TX4 2, u_lay RX4 TX4 3, u_lay RX4 TX4 4, u_lay RX4 TX4 5, u_lay RX4 TX4 6], w ∈ ml_T
  exact List.forall_mem_cons.mpr ⟨tw_1_173, List.forall_mem_cons.mpr ⟨tw_1_175, List.forall_mem_cons.mpr ⟨tw_1_177, List.forall_mem_cons.mpr ⟨tw_1_179, List.forall_mem_cons.mpr ⟨tw_1_181, List.forall_mem_cons.mpr ⟨tw_1_183, List.forall_mem_cons.mpr ⟨tw_1_185, fun _ h => absurd h List.not_mem_nil⟩⟩⟩⟩⟩⟩⟩
theorem tk_X4 : ∀ k, k < 7 → parseFieldDescriptor (TX4 k).2.2.1 = some (ml_ty 4 k) := tyX4_ok
theorem in_X5 : ∀ w ∈ u_ws RX5 TX5 2, w ∈ ml_T := by
  show ∀ w ∈ [u_lay RX5 TX5 0, u_lay RX5 TX5 1], w ∈ ml_T
  exact List.forall_mem_cons.mpr ⟨tw_2_90, List.forall_mem_cons.mpr ⟨tw_2_92, fun _ h => absurd h List.not_mem_nil⟩⟩
theorem tk_X5 : ∀ k, k < 2 → parseFieldDescriptor (TX5 k).2.2.1 = some (ml_ty 5 k) := tyX5_ok
theorem in_X6 : ∀ w ∈ u_ws RX6 TX6 10, w ∈ ml_T := by
  show ∀ w ∈ [u_lay RX6 TX6 0, u_lay RX6 TX6 1, u_lay RX6 TX6 2, u_lay RX6 TX6 3, u_lay RX6 TX6 4, u_lay RX6 TX6 5, u_lay RX6 TX6 6, u_lay RX6 TX6 7, u_lay RX6 TX6 8, u_lay RX6 TX6 9], w ∈ ml_T
  exact List.forall_mem_cons.mpr ⟨tw_1_211, List.forall_mem_cons.mpr ⟨tw_1_213, List.forall_mem_cons.mpr ⟨tw_1_215, List.forall_mem_cons.mpr ⟨tw_1_217, List.forall_mem_cons.mpr ⟨tw_1_219, List.forall_mem_cons.mpr ⟨tw_1_221, List.forall_mem_cons.mpr ⟨tw_1_223, List.forall_mem_cons.mpr ⟨tw_1_225, List.forall_mem_cons.mpr ⟨tw_1_227, List.forall_mem_cons.mpr ⟨tw_1_229, fun _ h => absurd h List.not_mem_nil⟩⟩⟩⟩⟩⟩⟩⟩⟩⟩
theorem tk_X6 : ∀ k, k < 10 → parseFieldDescriptor (TX6 k).2.2.1 = some (ml_ty 6 k) := tyX6_ok
theorem in_X7 : ∀ w ∈ u_ws RX7 TX7 14, w ∈ ml_T := by
  show ∀ w ∈ [u_lay RX7 TX7 0, u_lay RX7 TX7 1, u_lay RX7 TX7 2, u_lay RX7 TX7 3, u_lay RX7 TX7 4, u_lay RX7 TX7 5, u_lay RX7 TX7 6, u_lay RX7 TX7 7, u_lay RX7 TX7 8, u_lay RX7 TX7 9, u_lay RX7 TX7 10, u_lay RX7 TX7 11, u_lay RX7 TX7 12, u_lay RX7 TX7 13], w ∈ ml_T
  exact List.forall_mem_cons.mpr ⟨tw_2_22, List.forall_mem_cons.mpr ⟨tw_2_24, List.forall_mem_cons.mpr ⟨tw_2_26, List.forall_mem_cons.mpr ⟨tw_2_28, List.forall_mem_cons.mpr ⟨tw_2_30, List.forall_mem_cons.mpr ⟨tw_2_32, List.forall_mem_cons.mpr ⟨tw_2_34, List.forall_mem_cons.mpr ⟨tw_2_36, List.forall_mem_cons.mpr ⟨tw_2_38, List.forall_mem_cons.mpr ⟨tw_2_40, List.forall_mem_cons.mpr ⟨tw_2_42, List.forall_mem_cons.mpr ⟨tw_2_44, List.forall_mem_cons.mpr ⟨tw_2_46, List.forall_mem_cons.mpr ⟨tw_2_48, fun _ h => absurd h List.not_mem_nil⟩⟩⟩⟩⟩⟩⟩⟩⟩⟩⟩⟩⟩⟩
theorem tk_X7 : ∀ k, k < 14 → parseFieldDescriptor (TX7 k).2.2.1 = some (ml_ty 7 k) := tyX7_ok
theorem in_X8 : ∀ w ∈ u_ws RX8 TX8 2, w ∈ ml_T := by
  show ∀ w ∈ [u_lay RX8 TX8 0, u_lay RX8 TX8 1], w ∈ ml_T
  exact List.forall_mem_cons.mpr ⟨tw_1_37, List.forall_mem_cons.mpr ⟨tw_1_39, fun _ h => absurd h List.not_mem_nil⟩⟩
theorem tk_X8 : ∀ k, k < 2 → parseFieldDescriptor (TX8 k).2.2.1 = some (ml_ty 8 k) := tyX8_ok
theorem in_X9 : ∀ w ∈ u_ws RX9 TX9 8, w ∈ ml_T := by
  show ∀ w ∈ [u_lay RX9 TX9 0, u_lay RX9 TX9 1, u_lay RX9 TX9 2, u_lay RX9 TX9 3, u_lay RX9 TX9 4, u_lay RX9 TX9 5, u_lay RX9 TX9 6, u_lay RX9 TX9 7], w ∈ ml_T
  exact List.forall_mem_cons.mpr ⟨tw_1_148, List.forall_mem_cons.mpr ⟨tw_1_150, List.forall_mem_cons.mpr ⟨tw_1_152, List.forall_mem_cons.mpr ⟨tw_1_154, List.forall_mem_cons.mpr ⟨tw_1_156, List.forall_mem_cons.mpr ⟨tw_1_158, List.forall_mem_cons.mpr ⟨tw_1_160, List.forall_mem_cons.mpr ⟨tw_1_162, fun _ h => absurd h List.not_mem_nil⟩⟩⟩⟩⟩⟩⟩⟩
theorem tk_X9 : ∀ k, k < 8 → parseFieldDescriptor (TX9 k).2.2.1 = some (ml_ty 9 k) := tyX9_ok
theorem in_X10 : ∀ w ∈ u_ws RX10 TX10 8, w ∈ ml_T := by
  show ∀ w ∈ [u_lay RX10 TX10 0, u_lay RX10 TX10 1, u_lay RX10 TX10 2, u_lay RX10 TX10 3, u_lay RX10 TX10 4, u_lay RX10 TX10 5, u_lay RX10 TX10 6, u_lay RX10 TX10 7], w ∈ ml_T
  exact List.forall_mem_cons.mpr ⟨tw_2_130, List.forall_mem_cons.mpr ⟨tw_2_132, List.forall_mem_cons.mpr ⟨tw_2_134, List.forall_mem_cons.mpr ⟨tw_2_136, List.forall_mem_cons.mpr ⟨tw_2_138, List.forall_mem_cons.mpr ⟨tw_2_140, List.forall_mem_cons.mpr ⟨tw_2_142, List.forall_mem_cons.mpr ⟨tw_2_144, fun _ h => absurd h List.not_mem_nil⟩⟩⟩⟩⟩⟩⟩⟩
theorem tk_X10 : ∀ k, k < 8 → parseFieldDescriptor (TX10 k).2.2.1 = some (ml_ty 10 k) := tyX10_ok
theorem in_X11 : ∀ w ∈ u_ws RX11 TX11 13, w ∈ ml_T := by
  show ∀ w ∈ [u_lay RX11 TX11 0, u_lay RX11 TX11 1, u_lay RX11 TX11 2, u_lay RX11 TX11 3, u_lay RX11 TX11 4, u_lay RX11 TX11 5, u_lay RX11 TX11 6, u_lay RX11 TX11 7, u_lay RX11 TX11 8, u_lay RX11 TX11 9, u_lay RX11 TX11 10, u_lay RX11 TX11 11, u_lay RX11 TX11 12], w ∈ ml_T
  exact List.forall_mem_cons.mpr ⟨tw_2_164, List.forall_mem_cons.mpr ⟨tw_2_166, List.forall_mem_cons.mpr ⟨tw_2_168, List.forall_mem_cons.mpr ⟨tw_2_170, List.forall_mem_cons.mpr ⟨tw_2_172, List.forall_mem_cons.mpr ⟨tw_2_174, List.forall_mem_cons.mpr ⟨tw_2_176, List.forall_mem_cons.mpr ⟨tw_2_178, List.forall_mem_cons.mpr ⟨tw_2_180, List.forall_mem_cons.mpr ⟨tw_2_182, List.forall_mem_cons.mpr ⟨tw_2_184, List.forall_mem_cons.mpr ⟨tw_2_186, List.forall_mem_cons.mpr ⟨tw_2_188, fun _ h => absurd h List.not_mem_nil⟩⟩⟩⟩⟩⟩⟩⟩⟩⟩⟩⟩⟩
theorem tk_X11 : ∀ k, k < 13 → parseFieldDescriptor (TX11 k).2.2.1 = some (ml_ty 11 k) := tyX11_ok
theorem in_X12 : ∀ w ∈ u_ws RX12 TX12 62, w ∈ ml_T := by
  show ∀ w ∈ [u_lay RX12 TX12 0, u_lay RX12 TX12 1, u_lay RX12 TX12 2, u_lay RX12 TX12 3, u_lay RX12 TX12 4, u_lay RX12 TX12 5, u_lay RX12 TX12 6, u_lay RX12 TX12 7, u_lay RX12 TX12 8, u_lay RX12 TX12 9, u_lay RX12 TX12 10, u_lay RX12 TX12 11, u_lay RX12 TX12 12, u_lay RX12 TX12 13, u_lay RX12 TX12 14, u_lay RX12 TX12 15, u_lay RX12 TX12 16, u_lay RX12 TX12 17, u_lay RX12 TX12 18, u_lay RX12 TX12 19, u_lay RX12 TX12 20, u_lay RX12 TX12 21, u_lay RX12 TX12 22, u_lay RX12 TX12 23, u_lay RX12 TX12 24, u_lay RX12 TX12 25, u_lay RX12 TX12 26, u_lay RX12 TX12 27, u_lay RX12 TX12 28, u_lay RX12 TX12 29, u_lay RX12 TX12 30, u_lay RX12 TX12 31, u_lay RX12 TX12 32, u_lay RX12 TX12 33, u_lay RX12 TX12 34, u_lay RX12 TX12 35, u_lay RX12 TX12 36, u_lay RX12 TX12 37, u_lay RX12 TX12 38, u_lay RX12 TX12 39, u_lay RX12 TX12 40, u_lay RX12 TX12 41, u_lay RX12 TX12 42, u_lay RX12 TX12 43, u_lay RX12 TX12 44, u_lay RX12 TX12 45, u_lay RX12 TX12 46, u_lay RX12 TX12 47, u_lay RX12 TX12 48, u_lay RX12 TX12 49, u_lay RX12 TX12 50, u_lay RX12 TX12 51, u_lay RX12 TX12 52, u_lay RX12 TX12 53, u_lay RX12 TX12 54, u_lay RX12 TX12 55, u_lay RX12 TX12 56, u_lay RX12 TX12 57, u_lay RX12 TX12 58, u_lay RX12 TX12 59, u_lay RX12 TX12 60, u_lay RX12 TX12 61], w ∈ ml_T
  exact List.forall_mem_cons.mpr ⟨tw_5_13, List.forall_mem_cons.mpr ⟨tw_5_15, List.forall_mem_cons.mpr ⟨tw_5_17, List.forall_mem_cons.mpr ⟨tw_5_19, List.forall_mem_cons.mpr ⟨tw_5_21, List.forall_mem_cons.mpr ⟨tw_5_23, List.forall_mem_cons.mpr ⟨tw_5_25, List.forall_mem_cons.mpr ⟨tw_5_27, List.forall_mem_cons.mpr ⟨tw_5_29, List.forall_mem_cons.mpr ⟨tw_5_31, List.forall_mem_cons.mpr ⟨tw_5_33, List.forall_mem_cons.mpr ⟨tw_5_35, List.forall_mem_cons.mpr ⟨tw_5_37, List.forall_mem_cons.mpr ⟨tw_5_39, List.forall_mem_cons.mpr ⟨tw_5_41, List.forall_mem_cons.mpr ⟨tw_5_43, List.forall_mem_cons.mpr ⟨tw_5_45, List.forall_mem_cons.mpr ⟨tw_5_47, List.forall_mem_cons.mpr ⟨tw_5_49, List.forall_mem_cons.mpr ⟨tw_5_51, List.forall_mem_cons.mpr ⟨tw_5_53, List.forall_mem_cons.mpr ⟨tw_5_55, List.forall_mem_cons.mpr ⟨tw_5_57, List.forall_mem_cons.mpr ⟨tw_5_59, List.forall_mem_cons.mpr ⟨tw_5_61, List.forall_mem_cons.mpr ⟨tw_5_63, List.forall_mem_cons.mpr ⟨tw_5_65, List.forall_mem_cons.mpr ⟨tw_5_67, List.forall_mem_cons.mpr ⟨tw_5_69, List.forall_mem_cons.mpr ⟨tw_5_71, List.forall_mem_cons.mpr ⟨tw_5_73, List.forall_mem_cons.mpr ⟨tw_5_75, List.forall_mem_cons.mpr ⟨tw_5_77, List.forall_mem_cons.mpr ⟨tw_5_79, List.forall_mem_cons.mpr ⟨tw_5_81, List.forall_mem_cons.mpr ⟨tw_5_83, List.forall_mem_cons.mpr ⟨tw_5_85, List.forall_mem_cons.mpr ⟨tw_5_87, List.forall_mem_cons.mpr ⟨tw_5_89, List.forall_mem_cons.mpr ⟨tw_5_91, List.forall_mem_cons.mpr ⟨tw_5_93, List.forall_mem_cons.mpr ⟨tw_5_95, List.forall_mem_cons.mpr ⟨tw_5_97, List.forall_mem_cons.mpr ⟨tw_5_99, List.forall_mem_cons.mpr ⟨tw_5_101, List.forall_mem_cons.mpr ⟨tw_5_103, List.forall_mem_cons.mpr ⟨tw_5_105, List.forall_mem_cons.mpr ⟨tw_5_107, List.forall_mem_cons.mpr ⟨tw_5_109, List.forall_mem_cons.mpr ⟨tw_5_111, List.forall_mem_cons.mpr ⟨tw_5_113, List.forall_mem_cons.mpr ⟨tw_5_115, List.forall_mem_cons.mpr ⟨tw_5_117, List.forall_mem_cons.mpr ⟨tw_5_119, List.forall_mem_cons.mpr ⟨tw_5_121, List.forall_mem_cons.mpr ⟨tw_5_123, List.forall_mem_cons.mpr ⟨tw_5_125, List.forall_mem_cons.mpr ⟨tw_5_127, List.forall_mem_cons.mpr ⟨tw_5_129, List.forall_mem_cons.mpr ⟨tw_5_131, List.forall_mem_cons.mpr ⟨tw_5_133, List.forall_mem_cons.mpr ⟨tw_5_135, fun _ h => absurd h List.not_mem_nil⟩⟩⟩⟩⟩⟩⟩⟩⟩⟩⟩⟩⟩⟩⟩⟩⟩⟩⟩⟩⟩⟩⟩⟩⟩⟩⟩⟩⟩⟩⟩⟩⟩⟩⟩⟩⟩⟩⟩⟩⟩⟩⟩⟩⟩⟩⟩⟩⟩⟩⟩⟩⟩⟩⟩⟩⟩⟩⟩⟩⟩⟩
theorem tk_X12 : ∀ k, k < 62 → parseFieldDescriptor (TX12 k).2.2.1 = some (ml_ty 12 k) := tyX12_ok
theorem ml_rofO {n ci N : Nat} {k j : Int} (hk : ml_at n k (ci + 10, N)) : ml_rof k j = ml_rofT (ci + 10) k j := by
  unfold ml_rof
  rw [show ml_layT k = (ci + 10, N) from hk.2.2]
theorem ml_refv {base : Nat} {σ : ml_St} {k j r : Int} (h : σ k j = ml_rof k j) (h2 : ml_rof k j = r) (h0 : r ≠ 0) : (if σ k j = 0 then Value.null else .ref (base + (σ k j).toNat)) = .ref (base + r.toNat) := by
  rw [h, h2, if_neg h0]
theorem ml_fitz {r : Int} (hr : ml_B r) : fits .boolean (.int (Int32.ofInt r)) = true := by
  have h1 := hr.1
  have h2 := hr.2
  rcases (show r = 0 ∨ r = 1 by omega) with rfl | rfl
  · rfl
  · rfl
/-- a text: a row of 100 bytes -/
def ml_tx (k : Int) : Prop := 1 ≤ k ∧ k ≤ 214 ∧ ml_lay k = (2, 100)
theorem ml_txne {k : Int} (h : ml_tx k) : ¬ k = 0 := by have := h.1; omega
theorem ml_txat {n : Nat} {k : Int} (hn : 214 ≤ n) (h : ml_tx k) : ml_at n k (2, 100) := ⟨h.1, by have := h.2.1; omega, h.2.2⟩
theorem ml_lay_in {k : Int} {kd : Nat × Nat} (h : ml_lay k = kd) (h0 : kd ≠ (0, 0)) : 1 ≤ k ∧ k ≤ 256 := by
  unfold ml_lay ml_layT at h
  by_cases h1 : k < 1
  · rw [if_pos h1] at h; exact absurd h.symm h0
  · rw [if_neg h1] at h
    by_cases h2 : k ≤ 256
    · exact ⟨by omega, h2⟩
    · rw [List.getD_eq_getElem?_getD, List.getElem?_eq_none (by have h9 : ml_lays.length = 256 := (by decide +kernel); omega)] at h
      exact absurd h.symm h0
theorem ml_all {P : Int → Prop} (h : ∀ i : Nat, i < 256 → P ((i : Int) + 1)) {k : Int} (h1 : 1 ≤ k) (h2 : k ≤ 256) : P k := by
  have := h (k - 1).toNat (by omega)
  rwa [show (((k - 1).toNat : Nat) : Int) + 1 = k by omega] at this
/-- the tables of what lies beside what -/
theorem ml_tabW : ∀ i : Nat, i < 256 → ml_lay ((i : Int) + 1) = (19, 8) → (i : Int) + 3 ≤ 214 ∧ ml_lay ((i : Int) + 1 + 1) = (1, 10) ∧ ml_lay ((i : Int) + 1 + 2) = (4, 10) := by decide +kernel
theorem ml_tabV : ∀ i : Nat, i < 256 → ml_lay ((i : Int) + 1) = (20, 8) → (i : Int) + 6 ≤ 214 ∧ ml_lay ((i : Int) + 1 + 1) = (2, 100) ∧ ml_lay ((i : Int) + 1 + 2) = (19, 8) ∧ ml_lay ((i : Int) + 1 + 5) = (2, 2000) := by decide +kernel
theorem ml_r19_1 {n : Nat} (hn : 214 ≤ n) {k : Int} (h : ml_at n k (19, 8)) : ml_at n (k + 1) (1, 10) := by
  have h1 := ml_lay_in h.2.2 (by decide)
  have h2 := ml_all (P := fun k => ml_lay k = (19, 8) → k + 2 ≤ 214 ∧ ml_lay (k + 1) = (1, 10) ∧ ml_lay (k + 2) = (4, 10)) (fun i hi q => by have := ml_tabW i hi q; exact ⟨by omega, this.2⟩) h1.1 h1.2 h.2.2
  exact ⟨by omega, by omega, h2.2.1⟩
theorem ml_r19_2 {n : Nat} (hn : 214 ≤ n) {k : Int} (h : ml_at n k (19, 8)) : ml_at n (k + 2) (4, 10) := by
  have h1 := ml_lay_in h.2.2 (by decide)
  have h2 := ml_all (P := fun k => ml_lay k = (19, 8) → k + 2 ≤ 214 ∧ ml_lay (k + 1) = (1, 10) ∧ ml_lay (k + 2) = (4, 10)) (fun i hi q => by have := ml_tabW i hi q; exact ⟨by omega, this.2⟩) h1.1 h1.2 h.2.2
  exact ⟨by omega, by omega, h2.2.2⟩
theorem ml_weaveK {k : Int} (h : ml_lay k = (19, 8)) : k + 2 ≤ 214 ∧ ml_lay (k + 1) = (1, 10) ∧ ml_lay (k + 2) = (4, 10) := by
  have h1 := ml_lay_in h (by decide)
  exact ml_all (P := fun k => ml_lay k = (19, 8) → k + 2 ≤ 214 ∧ ml_lay (k + 1) = (1, 10) ∧ ml_lay (k + 2) = (4, 10)) (fun i hi q => by have := ml_tabW i hi q; exact ⟨by omega, this.2⟩) h1.1 h1.2 h
theorem ml_wordK {k : Int} (h : ml_lay k = (20, 8)) : k + 5 ≤ 214 ∧ 1 ≤ k ∧ ml_lay (k + 1) = (2, 100) ∧ ml_lay (k + 2) = (19, 8) ∧ ml_lay (k + 5) = (2, 2000) := by
  have h1 := ml_lay_in h (by decide)
  have h2 := ml_all (P := fun k => ml_lay k = (20, 8) → k + 5 ≤ 214 ∧ ml_lay (k + 1) = (2, 100) ∧ ml_lay (k + 2) = (19, 8) ∧ ml_lay (k + 5) = (2, 2000)) (fun i hi q => by have := ml_tabV i hi q; exact ⟨by omega, this.2⟩) h1.1 h1.2 h
  exact ⟨h2.1, h1.1, h2.2⟩
theorem ml_r20_1 {n : Nat} (hn : 214 ≤ n) {k : Int} (h : ml_at n k (20, 8)) : ml_at n (k + 1) (2, 100) := by
  have h1 := ml_wordK h.2.2; exact ⟨by omega, by omega, h1.2.2.1⟩
theorem ml_r20_2 {n : Nat} (hn : 214 ≤ n) {k : Int} (h : ml_at n k (20, 8)) : ml_at n (k + 2) (19, 8) := by
  have h1 := ml_wordK h.2.2; exact ⟨by omega, by omega, h1.2.2.2.1⟩
theorem ml_r20_5 {n : Nat} (hn : 214 ≤ n) {k : Int} (h : ml_at n k (20, 8)) : ml_at n (k + 5) (2, 2000) := by
  have h1 := ml_wordK h.2.2; exact ⟨by omega, by omega, h1.2.2.2.2⟩
theorem ml_at_words {n : Nat} (hn : 214 ≤ n) {i : Int} (h0 : 0 ≤ i) (h1 : i < 16) : ml_at n (119 + 6 * i) (20, 8) := by
  have h : ∀ j : Nat, j < 16 → ml_lay (119 + 6 * (j : Int)) = (20, 8) := by decide +kernel
  have := h i.toNat (by omega)
  rw [Int.toNat_of_nonneg h0] at this
  exact ⟨by omega, by omega, this⟩
theorem ml_at_open {n : Nat} (hn : 214 ≤ n) {i : Int} (h0 : 0 ≤ i) (h1 : i < 7) : ml_at n (25 + 3 * i) (19, 8) := by
  have h : ∀ j : Nat, j < 7 → ml_lay (25 + 3 * (j : Int)) = (19, 8) := by decide +kernel
  have := h i.toNat (by omega)
  rw [Int.toNat_of_nonneg h0] at this
  exact ⟨by omega, by omega, this⟩
theorem ml_at_tails {n : Nat} (hn : 214 ≤ n) {i : Int} (h0 : 0 ≤ i) (h1 : i < 11) : ml_at n (81 + 3 * i) (19, 8) := by
  have h : ∀ j : Nat, j < 11 → ml_lay (81 + 3 * (j : Int)) = (19, 8) := by decide +kernel
  have := h i.toNat (by omega)
  rw [Int.toNat_of_nonneg h0] at this
  exact ⟨by omega, by omega, this⟩
theorem ml_lenr {n : Nat} {k : Int} {kd : Nat × Nat} (h : ml_at n k kd) : I32 kd.2 := by
  have := ml_len h
  exact ⟨by omega, by omega⟩
def ml_cpy (σ : ml_St) (a sp b dp n : Int) : ml_St := fun x y => if x = b ∧ dp ≤ y ∧ y < dp + n then σ a (sp + (y - dp)) else σ x y
theorem ml_min_r {x y : Int} (hx : I32 x) (hy : I32 y) : I32 (min x y) := ⟨by have := hx.1; have := hy.1; omega, by have := hx.2; have := hy.2; omega⟩
theorem ml_max_r {x y : Int} (hx : I32 x) (hy : I32 y) : I32 (max x y) := ⟨by have := hx.1; have := hy.1; omega, by have := hx.2; have := hy.2; omega⟩
theorem ml_min_rL {x y : Int} (hx : I64 x) (hy : I64 y) : I64 (min x y) := ⟨by have := hx.1; have := hy.1; omega, by have := hx.2; have := hy.2; omega⟩
theorem ml_max_rL {x y : Int} (hx : I64 x) (hy : I64 y) : I64 (max x y) := ⟨by have := hx.1; have := hy.1; omega, by have := hx.2; have := hy.2; omega⟩
section MLM
variable {p : Program} {l : Launch} {e : Env} {R : Room} {s : State} {m : MethodId} {args : Array Value} {below : List Frame} {meth : Method} {c : Code} {Q : State → Prop} {base : Nat} {D : va_G} {cA : Nat → ClassId} {kc ks rr n : Nat} {σ : ml_St} {cc : ByteArray} {nL pc : Nat} {own : String} {rt : Option FieldType} {ls : Array Slot} {rest : List Value} {lst : List (Nat × Value)}
theorem ml_aald (X : ml_X p s m c meth args D cA cc nL own rt) {k i r : Int} {t N : Nat} {C : String} (hk : ml_at n k (t, N)) (ht : ml_cell base cA (t, N) (σ k) = .inl (cA t, N, .inr (.inr (.inr (.inr (fun j => ml_ro base (σ k j))))))) (hty : (ml_tys cA)[t]? = some (cA t, .object C)) (hi : 0 ≤ i) (hN : i < N) (hr : ml_RO rr σ → σ k i = r ∧ r ≠ 0) (d : decode cc pc = .ok (.aaload, 1))
    (kk : ml_V p l e R s m args below meth c Q base D cA kc ks rr n σ (F0 m (pc + 1) ls (.ref (base + r.toNat) :: rest))) : ml_V p l e R s m args below meth c Q base D cA kc ks rr n σ (F0 m pc ls (.int (Int32.ofInt i) :: .ref (base + k.toNat) :: rest)) := by
  intro H locs h1 h2 h3 h4
  have hg := ml_cells_get (base := base) (cA := cA) (σ := σ) hk
  rw [ht] at hg
  have hl := ml_len hk
  refine va_aldq X.1 X.2.1 X.2.2.2.2.2.1 h1 (k.toNat - 1) t hg hty (ml_vin hi hN hl) d ?_
  rw [ml_cl hi (by have : N ≤ 100000 := hl; omega), Int.toNat_of_nonneg hi]
  obtain ⟨e1, e2⟩ := hr h4
  rw [show va_rf (ml_ro base (σ k i)) = .ref (base + r.toNat) by rw [e1]; unfold ml_ro; rw [if_neg e2]; rfl]
  exact kk H locs h1 h2 h3 h4
theorem ml_aald_words (X : ml_X p s m c meth args D cA cc nL own rt) (hn : 214 ≤ n) {i : Int} (hi : 0 ≤ i) (hN : i < 16) (d : decode cc pc = .ok (.aaload, 1))
    (kk : ml_V p l e R s m args below meth c Q base D cA kc ks n n σ (F0 m (pc + 1) ls (.ref (base + (119 + 6 * i : Int).toNat) :: rest))) : ml_V p l e R s m args below meth c Q base D cA kc ks n n σ (F0 m pc ls (.int (Int32.ofInt i) :: .ref (base + (114 : Int).toNat) :: rest)) := by
  refine ml_aald X (t := 6) (N := 16) (r := 119 + 6 * i) ⟨by decide, by omega, by decide +kernel⟩ rfl rfl hi hN (fun h4 => ⟨?_, by omega⟩) d kk
  have e : ml_rof 114 i = 119 + 6 * i := by
    show ml_rofT (ml_layT 114).1 114 i = _
    rw [show (ml_layT 114).1 = 6 by decide +kernel]
    exact if_pos ⟨hi, hN⟩
  rw [← e]
  exact h4 114 i (by decide) (by omega) (by rw [e]; omega)
theorem ml_aald_open (X : ml_X p s m c meth args D cA cc nL own rt) (hn : 214 ≤ n) {i : Int} (hi : 0 ≤ i) (hN : i < 7) (d : decode cc pc = .ok (.aaload, 1))
    (kk : ml_V p l e R s m args below meth c Q base D cA kc ks n n σ (F0 m (pc + 1) ls (.ref (base + (25 + 3 * i : Int).toNat) :: rest))) : ml_V p l e R s m args below meth c Q base D cA kc ks n n σ (F0 m pc ls (.int (Int32.ofInt i) :: .ref (base + (11 : Int).toNat) :: rest)) := by
  refine ml_aald X (t := 5) (N := 7) (r := 25 + 3 * i) ⟨by decide, by omega, by decide +kernel⟩ rfl rfl hi hN (fun h4 => ⟨?_, by omega⟩) d kk
  have e : ml_rof 11 i = 25 + 3 * i := by
    show ml_rofT (ml_layT 11).1 11 i = _
    rw [show (ml_layT 11).1 = 5 by decide +kernel]
    exact if_pos ⟨hi, hN⟩
  rw [← e]
  exact h4 11 i (by decide) (by omega) (by rw [e]; omega)
theorem ml_aald_tails (X : ml_X p s m c meth args D cA cc nL own rt) (hn : 214 ≤ n) {i : Int} (hi : 0 ≤ i) (hN : i < 11) (d : decode cc pc = .ok (.aaload, 1))
    (kk : ml_V p l e R s m args below meth c Q base D cA kc ks n n σ (F0 m (pc + 1) ls (.ref (base + (81 + 3 * i : Int).toNat) :: rest))) : ml_V p l e R s m args below meth c Q base D cA kc ks n n σ (F0 m pc ls (.int (Int32.ofInt i) :: .ref (base + (77 : Int).toNat) :: rest)) := by
  refine ml_aald X (t := 5) (N := 11) (r := 81 + 3 * i) ⟨by decide, by omega, by decide +kernel⟩ rfl rfl hi hN (fun h4 => ⟨?_, by omega⟩) d kk
  have e : ml_rof 77 i = 81 + 3 * i := by
    show ml_rofT (ml_layT 77).1 77 i = _
    rw [show (ml_layT 77).1 = 5 by decide +kernel]
    exact if_pos ⟨hi, hN⟩
  rw [← e]
  exact h4 77 i (by decide) (by omega) (by rw [e]; omega)
theorem ml_fitb {v : Int} (h : ml_I8 v) : fits .byte (.int (Int32.ofInt v)) = true := by
  have e := ml_nb h
  rw [vp_nar_byte] at e
  rw [← e]
  exact pk_fb _
theorem ml_alen (X : ml_X p s m c meth args D cA cc nL own rt) {k : Int} {t N : Nat} (hk : ml_at n k (t, N)) (ht : t = 1 ∨ t = 4) (d : decode cc pc = .ok (.arraylength, 1)) (kk : ml_V p l e R s m args below meth c Q base D cA kc ks rr n σ (F0 m (pc + 1) ls (.int (Int32.ofInt N) :: rest))) : ml_V p l e R s m args below meth c Q base D cA kc ks rr n σ (F0 m pc ls (.ref (base + k.toNat) :: rest)) := by
  intro H locs h1 h2 h3 h4
  have hg := ml_cells_get (base := base) (cA := cA) (σ := σ) hk
  rcases ht with rfl | rfl
  · exact va_alen X.1 X.2.1 X.2.2.2.2.2.1 h1 (k.toNat - 1) 1 hg rfl rfl d (kk H locs h1 h2 h3 h4)
  · exact va_alen X.1 X.2.1 X.2.2.2.2.2.1 h1 (k.toNat - 1) 4 hg rfl rfl d (kk H locs h1 h2 h3 h4)
theorem ml_mmin (X : ml_X p s m c meth args D cA cc nL own rt) {ix : Nat} (hw : Cond.methodLink own ix Lib.Math.min.name ∈ ml_T ∧ Cond.static Lib.Math.min.name ∈ ml_T ∧ Cond.initialized "java/lang/Math" ∈ ml_T ∧ Cond.code Lib.Math.min.name Lib.Math.min.code 2 (some .int) ∈ ml_T) {x y : Int} (hx : I32 x) (hy : I32 y) (hkc : kc ≤ R.cells ∧ ks ≤ R.slots) (hl : lv_has ls nL lst) (hrest : (rest.map fun v => v.category).sum ≤ 8) (hR : 1 ≤ R.frames ∧ 30 ≤ R.locals) (d : decode cc pc = .ok (.invokestatic ix, 3)) (kk : ml_V p l e R s m args below meth c Q base D cA kc ks rr n σ (F0 m (pc + 3) ls (.int (Int32.ofInt (min x y)) :: rest))) : ml_V p l e R s m args below meth c Q base D cA kc ks rr n σ (F0 m (pc) ls (.int (Int32.ofInt y) :: .int (Int32.ofInt x) :: rest)) := by
  intro H locs h1 h2 h3 h4
  refine va_mmin X.1 X.2.1 (by rw [X.2.2.1]; exact hl.1.symm) X.2.2.2.1 (X.2.2.2.2.1 _ hw.1) (X.2.2.2.2.1 _ hw.2.1) (X.2.2.2.2.1 _ hw.2.2.1) (X.2.2.2.2.1 _ hw.2.2.2) hR.1 (by have := hR.2; omega) hkc.1 hkc.2 d ?_
  have := kk H locs h1 h2 h3 h4
  have e : (if Int32.ofInt y < Int32.ofInt x then Int32.ofInt y else Int32.ofInt x) = Int32.ofInt (min x y) := by
    by_cases h : y < x
    · rw [if_pos ((ml_lt hy hx).mpr h)]; congr 1; omega
    · rw [if_neg (fun q => h ((ml_lt hy hx).mp q))]; congr 1; omega
  rw [e]
  exact this

theorem ml_mminL (X : ml_X p s m c meth args D cA cc nL own rt) {ix : Nat} (hw : Cond.methodLink own ix Lib.MathLoose.min_long.x ∈ ml_T ∧ Cond.static Lib.MathLoose.min_long.x ∈ ml_T ∧ Cond.initialized "java/lang/Math" ∈ ml_T ∧ Cond.code Lib.MathLoose.min_long.x Lib.MathLoose.min_long.code 4 (some .long) ∈ ml_T) {x y : Int} (hx : I64 x) (hy : I64 y) (hkc : kc ≤ R.cells ∧ ks ≤ R.slots) (hl : lv_has ls nL lst) (hrest : (rest.map fun v => v.category).sum ≤ 8) (hR : 1 ≤ R.frames ∧ 30 ≤ R.locals) (d : decode cc pc = .ok (.invokestatic ix, 3)) (kk : ml_V p l e R s m args below meth c Q base D cA kc ks rr n σ (F0 m (pc + 3) ls (.long (Int64.ofInt (min x y)) :: rest))) : ml_V p l e R s m args below meth c Q base D cA kc ks rr n σ (F0 m (pc) ls (.long (Int64.ofInt y) :: .long (Int64.ofInt x) :: rest)) := by
  intro H locs h1 h2 h3 h4
  refine va_mmin_long X.1 X.2.1 (by rw [X.2.2.1]; exact hl.1.symm) X.2.2.2.1 (X.2.2.2.2.1 _ hw.1) (X.2.2.2.2.1 _ hw.2.1) (X.2.2.2.2.1 _ hw.2.2.1) (X.2.2.2.2.1 _ hw.2.2.2) hR.1 (by have := hR.2; omega) hkc.1 hkc.2 d ?_
  have := kk H locs h1 h2 h3 h4
  have e : (if Int64.ofInt y < Int64.ofInt x then Int64.ofInt y else Int64.ofInt x) = Int64.ofInt (min x y) := by
    by_cases h : y < x
    · rw [if_pos ((ml_llt hy hx).mpr h)]; congr 1; omega
    · rw [if_neg (fun q => h ((ml_llt hy hx).mp q))]; congr 1; omega
  rw [e]
  exact this

theorem ml_mmax (X : ml_X p s m c meth args D cA cc nL own rt) {ix : Nat} (hw : Cond.methodLink own ix Lib.Math.max.name ∈ ml_T ∧ Cond.static Lib.Math.max.name ∈ ml_T ∧ Cond.initialized "java/lang/Math" ∈ ml_T ∧ Cond.code Lib.Math.max.name Lib.Math.max.code 2 (some .int) ∈ ml_T) {x y : Int} (hx : I32 x) (hy : I32 y) (hkc : kc ≤ R.cells ∧ ks ≤ R.slots) (hl : lv_has ls nL lst) (hrest : (rest.map fun v => v.category).sum ≤ 8) (hR : 1 ≤ R.frames ∧ 30 ≤ R.locals) (d : decode cc pc = .ok (.invokestatic ix, 3)) (kk : ml_V p l e R s m args below meth c Q base D cA kc ks rr n σ (F0 m (pc + 3) ls (.int (Int32.ofInt (max x y)) :: rest))) : ml_V p l e R s m args below meth c Q base D cA kc ks rr n σ (F0 m (pc) ls (.int (Int32.ofInt y) :: .int (Int32.ofInt x) :: rest)) := by
  intro H locs h1 h2 h3 h4
  refine va_mmax X.1 X.2.1 (by rw [X.2.2.1]; exact hl.1.symm) X.2.2.2.1 (X.2.2.2.2.1 _ hw.1) (X.2.2.2.2.1 _ hw.2.1) (X.2.2.2.2.1 _ hw.2.2.1) (X.2.2.2.2.1 _ hw.2.2.2) hR.1 (by have := hR.2; omega) hkc.1 hkc.2 d ?_
  have := kk H locs h1 h2 h3 h4
  have e : (if Int32.ofInt x < Int32.ofInt y then Int32.ofInt y else Int32.ofInt x) = Int32.ofInt (max x y) := by
    by_cases h : x < y
    · rw [if_pos ((ml_lt hx hy).mpr h)]; congr 1; omega
    · rw [if_neg (fun q => h ((ml_lt hx hy).mp q))]; congr 1; omega
  rw [e]
  exact this

theorem ml_mmaxL (X : ml_X p s m c meth args D cA cc nL own rt) {ix : Nat} (hw : Cond.methodLink own ix Lib.MathLoose.max_long.x ∈ ml_T ∧ Cond.static Lib.MathLoose.max_long.x ∈ ml_T ∧ Cond.initialized "java/lang/Math" ∈ ml_T ∧ Cond.code Lib.MathLoose.max_long.x Lib.MathLoose.max_long.code 4 (some .long) ∈ ml_T) {x y : Int} (hx : I64 x) (hy : I64 y) (hkc : kc ≤ R.cells ∧ ks ≤ R.slots) (hl : lv_has ls nL lst) (hrest : (rest.map fun v => v.category).sum ≤ 8) (hR : 1 ≤ R.frames ∧ 30 ≤ R.locals) (d : decode cc pc = .ok (.invokestatic ix, 3)) (kk : ml_V p l e R s m args below meth c Q base D cA kc ks rr n σ (F0 m (pc + 3) ls (.long (Int64.ofInt (max x y)) :: rest))) : ml_V p l e R s m args below meth c Q base D cA kc ks rr n σ (F0 m (pc) ls (.long (Int64.ofInt y) :: .long (Int64.ofInt x) :: rest)) := by
  intro H locs h1 h2 h3 h4
  refine va_mmax_long X.1 X.2.1 (by rw [X.2.2.1]; exact hl.1.symm) X.2.2.2.1 (X.2.2.2.2.1 _ hw.1) (X.2.2.2.2.1 _ hw.2.1) (X.2.2.2.2.1 _ hw.2.2.1) (X.2.2.2.2.1 _ hw.2.2.2) hR.1 (by have := hR.2; omega) hkc.1 hkc.2 d ?_
  have := kk H locs h1 h2 h3 h4
  have e : (if Int64.ofInt y < Int64.ofInt x then Int64.ofInt x else Int64.ofInt y) = Int64.ofInt (max x y) := by
    by_cases h : y < x
    · rw [if_pos ((ml_llt hy hx).mpr h)]; congr 1; omega
    · rw [if_neg (fun q => h ((ml_llt hy hx).mp q))]; congr 1; omega
  rw [e]
  exact this

theorem ml_cpi (X : ml_X p s m c meth args D cA cc nL own rt) {ix : Nat} (hw : Cond.methodLink own ix arraycopyName ∈ ml_T ∧ Cond.native arraycopyName ∈ ml_T ∧ Cond.static arraycopyName ∈ ml_T ∧ Cond.initialized "java/lang/System" ∈ ml_T) {a b sp dp z : Int} {n0 n1 : Nat} (ha : ml_at n a (1, n0)) (hb : ml_at n b (1, n1)) (r1 : I32 sp) (r2 : I32 dp) (r3 : I32 z) (q1 : 0 ≤ sp) (q2 : 0 ≤ dp) (q3 : 0 ≤ z) (q4 : sp + z ≤ n0) (q5 : dp + z ≤ n1) (hl : lv_has ls nL lst) (hrest : (rest.map fun v => v.category).sum ≤ 8) (hR : 1 ≤ R.frames ∧ 30 ≤ R.locals) (d : decode cc pc = .ok (.invokestatic ix, 3)) (kk : ∀ σ' : ml_St, σ' = ml_cpy σ a sp b dp z → ml_V p l e R s m args below meth c Q base D cA kc ks rr n σ' (F0 m (pc + 3) ls (rest))) : ml_V p l e R s m args below meth c Q base D cA kc ks rr n σ (F0 m (pc) ls (.int (Int32.ofInt z) :: .int (Int32.ofInt dp) :: .ref (base + b.toNat) :: .int (Int32.ofInt sp) :: .ref (base + a.toNat) :: rest)) := by
  intro H locs h1 h2 h3 h4
  have ga := ml_cells_get (base := base) (cA := cA) (σ := σ) ha
  have gb := ml_cells_get (base := base) (cA := cA) (σ := σ) hb
  have na := ml_len ha
  have nb := ml_len hb
  have na : n0 ≤ 100000 := na
  have nb : n1 ≤ 100000 := nb
  have e1 : (Int32.ofInt sp).toNatClampNeg = sp.toNat := ml_cl q1 (by omega)
  have e2 : (Int32.ofInt dp).toNatClampNeg = dp.toNat := ml_cl q2 (by omega)
  have e3 : (Int32.ofInt z).toNatClampNeg = z.toNat := ml_cl q3 (by omega)
  have hrg : ∀ y : Int, 0 ≤ y → I32 (σ a y) := fun y hy => by
    have := h3 a y ha.1 ha.2.1 hy
    unfold ml_et at this
    rw [ha.2.2] at this
    exact this
  refine va_copyi X.1 X.2.1 (by rw [X.2.2.1]; exact hl.1.symm) X.2.2.2.1 (X.2.2.2.2.1 _ hw.1) (X.2.2.2.2.1 _ hw.2.1) (X.2.2.2.2.1 _ hw.2.2.1) (X.2.2.2.2.1 _ hw.2.2.2) X.2.2.2.2.2.1 h1 (ml_cells_D base cA n σ) h2 (a.toNat - 1) (b.toNat - 1) 1 1 ga gb rfl rfl rfl (fun q => by have := (ml_lt r1 ml_i0).mp q; omega) (fun q => by have := (ml_lt r2 ml_i0).mp q; omega) (fun q => by have := (ml_lt r3 ml_i0).mp q; omega) (by rw [e1, e3]; omega) (by rw [e2, e3]; omega) (fun i _ => rfl) hR.1 (by have h9 : nativeFrameWords "java/lang/System" "arraycopy" 5 = 7 := (by decide +kernel); have := hR.2; omega) d (fun H1 locs1 g1 _ g3 => ?_)
  rw [e1, e2, e3] at g1
  have ef : va_cpy (fun j : Nat => Int32.ofInt (σ a j)) (fun j : Nat => Int32.ofInt (σ b j)) sp.toNat dp.toNat z.toNat = (fun j : Nat => Int32.ofInt (ml_cpy σ a sp b dp z b j)) := by
    funext j
    unfold va_cpy ml_cpy
    by_cases hj : dp.toNat ≤ j ∧ j < dp.toNat + z.toNat
    · rw [if_pos hj, if_pos ⟨rfl, by omega, by omega⟩]
      show Int32.ofInt (σ a ((sp.toNat + (j - dp.toNat) : Nat) : Int)) = Int32.ofInt (σ a (sp + ((j : Int) - dp)))
      rw [show ((sp.toNat + (j - dp.toNat) : Nat) : Int) = sp + ((j : Int) - dp) by omega]
    · rw [if_neg hj, if_neg (by omega)]
  rw [ef] at g1
  rw [ml_cells_set (kd := (1, n1)) (σ' := ml_cpy σ a sp b dp z) hb (by rfl) (fun x hx => by funext y; unfold ml_cpy; rw [if_neg (fun q => hx q.1)])] at g1
  refine kk _ rfl H1 locs1 g1 g3 ?_ ?_
  · intro x y p1 p2 p3
    unfold ml_cpy
    by_cases hxy : x = b ∧ dp ≤ y ∧ y < dp + z
    · rw [if_pos hxy, hxy.1]
      unfold ml_et
      rw [hb.2.2]
      exact hrg _ (by omega)
    · rw [if_neg hxy]; exact h3 x y p1 p2 p3
  · intro x y p1 p2 p3
    unfold ml_cpy
    by_cases hxy : x = b ∧ dp ≤ y ∧ y < dp + z
    · rw [hxy.1] at p3; exact absurd (ml_rof_arr hb (by decide)) p3
    · rw [if_neg hxy]; exact h4 x y p1 p2 p3
theorem ml_cpb (X : ml_X p s m c meth args D cA cc nL own rt) {ix : Nat} (hw : Cond.methodLink own ix arraycopyName ∈ ml_T ∧ Cond.native arraycopyName ∈ ml_T ∧ Cond.static arraycopyName ∈ ml_T ∧ Cond.initialized "java/lang/System" ∈ ml_T) {a b sp dp z : Int} {n0 n1 : Nat} (ha : ml_at n a (2, n0)) (hb : ml_at n b (2, n1)) (r1 : I32 sp) (r2 : I32 dp) (r3 : I32 z) (q1 : 0 ≤ sp) (q2 : 0 ≤ dp) (q3 : 0 ≤ z) (q4 : sp + z ≤ n0) (q5 : dp + z ≤ n1) (hl : lv_has ls nL lst) (hrest : (rest.map fun v => v.category).sum ≤ 8) (hR : 1 ≤ R.frames ∧ 30 ≤ R.locals) (d : decode cc pc = .ok (.invokestatic ix, 3)) (kk : ∀ σ' : ml_St, σ' = ml_cpy σ a sp b dp z → ml_V p l e R s m args below meth c Q base D cA kc ks rr n σ' (F0 m (pc + 3) ls (rest))) : ml_V p l e R s m args below meth c Q base D cA kc ks rr n σ (F0 m (pc) ls (.int (Int32.ofInt z) :: .int (Int32.ofInt dp) :: .ref (base + b.toNat) :: .int (Int32.ofInt sp) :: .ref (base + a.toNat) :: rest)) := by
  intro H locs h1 h2 h3 h4
  have ga := ml_cells_get (base := base) (cA := cA) (σ := σ) ha
  have gb := ml_cells_get (base := base) (cA := cA) (σ := σ) hb
  have na := ml_len ha
  have nb := ml_len hb
  have na : n0 ≤ 100000 := na
  have nb : n1 ≤ 100000 := nb
  have e1 : (Int32.ofInt sp).toNatClampNeg = sp.toNat := ml_cl q1 (by omega)
  have e2 : (Int32.ofInt dp).toNatClampNeg = dp.toNat := ml_cl q2 (by omega)
  have e3 : (Int32.ofInt z).toNatClampNeg = z.toNat := ml_cl q3 (by omega)
  have hrg : ∀ y : Int, 0 ≤ y → ml_I8 (σ a y) := fun y hy => by
    have := h3 a y ha.1 ha.2.1 hy
    unfold ml_et at this
    rw [ha.2.2] at this
    exact this
  refine va_copyi X.1 X.2.1 (by rw [X.2.2.1]; exact hl.1.symm) X.2.2.2.1 (X.2.2.2.2.1 _ hw.1) (X.2.2.2.2.1 _ hw.2.1) (X.2.2.2.2.1 _ hw.2.2.1) (X.2.2.2.2.1 _ hw.2.2.2) X.2.2.2.2.2.1 h1 (ml_cells_D base cA n σ) h2 (a.toNat - 1) (b.toNat - 1) 2 2 ga gb rfl rfl rfl (fun q => by have := (ml_lt r1 ml_i0).mp q; omega) (fun q => by have := (ml_lt r2 ml_i0).mp q; omega) (fun q => by have := (ml_lt r3 ml_i0).mp q; omega) (by rw [e1, e3]; omega) (by rw [e2, e3]; omega) (fun i _ => by rw [e1]; exact ml_fitb (hrg _ (by omega))) hR.1 (by have h9 : nativeFrameWords "java/lang/System" "arraycopy" 5 = 7 := (by decide +kernel); have := hR.2; omega) d (fun H1 locs1 g1 _ g3 => ?_)
  rw [e1, e2, e3] at g1
  have ef : va_cpy (fun j : Nat => Int32.ofInt (σ a j)) (fun j : Nat => Int32.ofInt (σ b j)) sp.toNat dp.toNat z.toNat = (fun j : Nat => Int32.ofInt (ml_cpy σ a sp b dp z b j)) := by
    funext j
    unfold va_cpy ml_cpy
    by_cases hj : dp.toNat ≤ j ∧ j < dp.toNat + z.toNat
    · rw [if_pos hj, if_pos ⟨rfl, by omega, by omega⟩]
      show Int32.ofInt (σ a ((sp.toNat + (j - dp.toNat) : Nat) : Int)) = Int32.ofInt (σ a (sp + ((j : Int) - dp)))
      rw [show ((sp.toNat + (j - dp.toNat) : Nat) : Int) = sp + ((j : Int) - dp) by omega]
    · rw [if_neg hj, if_neg (by omega)]
  rw [ef] at g1
  rw [ml_cells_set (kd := (2, n1)) (σ' := ml_cpy σ a sp b dp z) hb (by rfl) (fun x hx => by funext y; unfold ml_cpy; rw [if_neg (fun q => hx q.1)])] at g1
  refine kk _ rfl H1 locs1 g1 g3 ?_ ?_
  · intro x y p1 p2 p3
    unfold ml_cpy
    by_cases hxy : x = b ∧ dp ≤ y ∧ y < dp + z
    · rw [if_pos hxy, hxy.1]
      unfold ml_et
      rw [hb.2.2]
      exact hrg _ (by omega)
    · rw [if_neg hxy]; exact h3 x y p1 p2 p3
  · intro x y p1 p2 p3
    unfold ml_cpy
    by_cases hxy : x = b ∧ dp ≤ y ∧ y < dp + z
    · rw [hxy.1] at p3; exact absurd (ml_rof_arr hb (by decide)) p3
    · rw [if_neg hxy]; exact h4 x y p1 p2 p3
theorem ml_cpl (X : ml_X p s m c meth args D cA cc nL own rt) {ix : Nat} (hw : Cond.methodLink own ix arraycopyName ∈ ml_T ∧ Cond.native arraycopyName ∈ ml_T ∧ Cond.static arraycopyName ∈ ml_T ∧ Cond.initialized "java/lang/System" ∈ ml_T) {a b sp dp z : Int} {n0 n1 : Nat} (ha : ml_at n a (4, n0)) (hb : ml_at n b (4, n1)) (r1 : I32 sp) (r2 : I32 dp) (r3 : I32 z) (q1 : 0 ≤ sp) (q2 : 0 ≤ dp) (q3 : 0 ≤ z) (q4 : sp + z ≤ n0) (q5 : dp + z ≤ n1) (hl : lv_has ls nL lst) (hrest : (rest.map fun v => v.category).sum ≤ 8) (hR : 1 ≤ R.frames ∧ 30 ≤ R.locals) (d : decode cc pc = .ok (.invokestatic ix, 3)) (kk : ∀ σ' : ml_St, σ' = ml_cpy σ a sp b dp z → ml_V p l e R s m args below meth c Q base D cA kc ks rr n σ' (F0 m (pc + 3) ls (rest))) : ml_V p l e R s m args below meth c Q base D cA kc ks rr n σ (F0 m (pc) ls (.int (Int32.ofInt z) :: .int (Int32.ofInt dp) :: .ref (base + b.toNat) :: .int (Int32.ofInt sp) :: .ref (base + a.toNat) :: rest)) := by
  intro H locs h1 h2 h3 h4
  have ga := ml_cells_get (base := base) (cA := cA) (σ := σ) ha
  have gb := ml_cells_get (base := base) (cA := cA) (σ := σ) hb
  have na := ml_len ha
  have nb := ml_len hb
  have na : n0 ≤ 100000 := na
  have nb : n1 ≤ 100000 := nb
  have e1 : (Int32.ofInt sp).toNatClampNeg = sp.toNat := ml_cl q1 (by omega)
  have e2 : (Int32.ofInt dp).toNatClampNeg = dp.toNat := ml_cl q2 (by omega)
  have e3 : (Int32.ofInt z).toNatClampNeg = z.toNat := ml_cl q3 (by omega)
  have hrg : ∀ y : Int, 0 ≤ y → I64 (σ a y) := fun y hy => by
    have := h3 a y ha.1 ha.2.1 hy
    unfold ml_et at this
    rw [ha.2.2] at this
    exact this
  refine va_copyl X.1 X.2.1 (by rw [X.2.2.1]; exact hl.1.symm) X.2.2.2.1 (X.2.2.2.2.1 _ hw.1) (X.2.2.2.2.1 _ hw.2.1) (X.2.2.2.2.1 _ hw.2.2.1) (X.2.2.2.2.1 _ hw.2.2.2) X.2.2.2.2.2.1 h1 (ml_cells_D base cA n σ) h2 (a.toNat - 1) (b.toNat - 1) 4 4 ga gb rfl rfl rfl (fun q => by have := (ml_lt r1 ml_i0).mp q; omega) (fun q => by have := (ml_lt r2 ml_i0).mp q; omega) (fun q => by have := (ml_lt r3 ml_i0).mp q; omega) (by rw [e1, e3]; omega) (by rw [e2, e3]; omega) (fun i _ => rfl) hR.1 (by have h9 : nativeFrameWords "java/lang/System" "arraycopy" 5 = 7 := (by decide +kernel); have := hR.2; omega) d (fun H1 locs1 g1 _ g3 => ?_)
  rw [e1, e2, e3] at g1
  have ef : va_cpy (fun j : Nat => Int64.ofInt (σ a j)) (fun j : Nat => Int64.ofInt (σ b j)) sp.toNat dp.toNat z.toNat = (fun j : Nat => Int64.ofInt (ml_cpy σ a sp b dp z b j)) := by
    funext j
    unfold va_cpy ml_cpy
    by_cases hj : dp.toNat ≤ j ∧ j < dp.toNat + z.toNat
    · rw [if_pos hj, if_pos ⟨rfl, by omega, by omega⟩]
      show Int64.ofInt (σ a ((sp.toNat + (j - dp.toNat) : Nat) : Int)) = Int64.ofInt (σ a (sp + ((j : Int) - dp)))
      rw [show ((sp.toNat + (j - dp.toNat) : Nat) : Int) = sp + ((j : Int) - dp) by omega]
    · rw [if_neg hj, if_neg (by omega)]
  rw [ef] at g1
  rw [ml_cells_set (kd := (4, n1)) (σ' := ml_cpy σ a sp b dp z) hb (by rfl) (fun x hx => by funext y; unfold ml_cpy; rw [if_neg (fun q => hx q.1)])] at g1
  refine kk _ rfl H1 locs1 g1 g3 ?_ ?_
  · intro x y p1 p2 p3
    unfold ml_cpy
    by_cases hxy : x = b ∧ dp ≤ y ∧ y < dp + z
    · rw [if_pos hxy, hxy.1]
      unfold ml_et
      rw [hb.2.2]
      exact hrg _ (by omega)
    · rw [if_neg hxy]; exact h3 x y p1 p2 p3
  · intro x y p1 p2 p3
    unfold ml_cpy
    by_cases hxy : x = b ∧ dp ≤ y ∧ y < dp + z
    · rw [hxy.1] at p3; exact absurd (ml_rof_arr hb (by decide)) p3
    · rw [if_neg hxy]; exact h4 x y p1 p2 p3
end MLM
theorem ml_c1 {n : Nat} (hn : 214 ≤ n) : ml_at n 1 (21, 13) := ⟨by decide, by omega, by decide +kernel⟩
theorem ml_c2 {n : Nat} (hn : 214 ≤ n) : ml_at n 2 (18, 2) := ⟨by decide, by omega, by decide +kernel⟩
theorem ml_c3 {n : Nat} (hn : 214 ≤ n) : ml_at n 3 (1, 200) := ⟨by decide, by omega, by decide +kernel⟩
theorem ml_c4 {n : Nat} (hn : 214 ≤ n) : ml_at n 4 (10, 2) := ⟨by decide, by omega, by decide +kernel⟩
theorem ml_c5 {n : Nat} (hn : 214 ≤ n) : ml_at n 5 (1, 10) := ⟨by decide, by omega, by decide +kernel⟩
theorem ml_c6 {n : Nat} (hn : 214 ≤ n) : ml_at n 6 (12, 7) := ⟨by decide, by omega, by decide +kernel⟩
theorem ml_c8 {n : Nat} (hn : 214 ≤ n) : ml_at n 8 (14, 7) := ⟨by decide, by omega, by decide +kernel⟩
theorem ml_c9 {n : Nat} (hn : 214 ≤ n) : ml_at n 9 (13, 6) := ⟨by decide, by omega, by decide +kernel⟩
theorem ml_c12 {n : Nat} (hn : 214 ≤ n) : ml_at n 12 (1, 7) := ⟨by decide, by omega, by decide +kernel⟩
theorem ml_c13 {n : Nat} (hn : 214 ≤ n) : ml_at n 13 (19, 8) := ⟨by decide, by omega, by decide +kernel⟩
theorem ml_c16 {n : Nat} (hn : 214 ≤ n) : ml_at n 16 (19, 8) := ⟨by decide, by omega, by decide +kernel⟩
theorem ml_c19 {n : Nat} (hn : 214 ≤ n) : ml_at n 19 (19, 8) := ⟨by decide, by omega, by decide +kernel⟩
theorem ml_c22 {n : Nat} (hn : 214 ≤ n) : ml_at n 22 (19, 8) := ⟨by decide, by omega, by decide +kernel⟩
theorem ml_c46 {n : Nat} (hn : 214 ≤ n) : ml_at n 46 (16, 10) := ⟨by decide, by omega, by decide +kernel⟩
theorem ml_c47 {n : Nat} (hn : 214 ≤ n) : ml_at n 47 (1, 65) := ⟨by decide, by omega, by decide +kernel⟩
theorem ml_c48 {n : Nat} (hn : 214 ≤ n) : ml_at n 48 (4, 65) := ⟨by decide, by omega, by decide +kernel⟩
theorem ml_c49 {n : Nat} (hn : 214 ≤ n) : ml_at n 49 (19, 8) := ⟨by decide, by omega, by decide +kernel⟩
theorem ml_c52 {n : Nat} (hn : 214 ≤ n) : ml_at n 52 (19, 8) := ⟨by decide, by omega, by decide +kernel⟩
theorem ml_c55 {n : Nat} (hn : 214 ≤ n) : ml_at n 55 (17, 14) := ⟨by decide, by omega, by decide +kernel⟩
theorem ml_c56 {n : Nat} (hn : 214 ≤ n) : ml_at n 56 (1, 6) := ⟨by decide, by omega, by decide +kernel⟩
theorem ml_c57 {n : Nat} (hn : 214 ≤ n) : ml_at n 57 (1, 945) := ⟨by decide, by omega, by decide +kernel⟩
theorem ml_c58 {n : Nat} (hn : 214 ≤ n) : ml_at n 58 (1, 5676) := ⟨by decide, by omega, by decide +kernel⟩
theorem ml_c59 {n : Nat} (hn : 214 ≤ n) : ml_at n 59 (1, 5676) := ⟨by decide, by omega, by decide +kernel⟩
theorem ml_c60 {n : Nat} (hn : 214 ≤ n) : ml_at n 60 (1, 946) := ⟨by decide, by omega, by decide +kernel⟩
theorem ml_c61 {n : Nat} (hn : 214 ≤ n) : ml_at n 61 (1, 9460) := ⟨by decide, by omega, by decide +kernel⟩
theorem ml_c62 {n : Nat} (hn : 214 ≤ n) : ml_at n 62 (4, 2838) := ⟨by decide, by omega, by decide +kernel⟩
theorem ml_c63 {n : Nat} (hn : 214 ≤ n) : ml_at n 63 (4, 2838) := ⟨by decide, by omega, by decide +kernel⟩
theorem ml_c64 {n : Nat} (hn : 214 ≤ n) : ml_at n 64 (19, 8) := ⟨by decide, by omega, by decide +kernel⟩
theorem ml_c67 {n : Nat} (hn : 214 ≤ n) : ml_at n 67 (19, 8) := ⟨by decide, by omega, by decide +kernel⟩
theorem ml_c70 {n : Nat} (hn : 214 ≤ n) : ml_at n 70 (11, 7) := ⟨by decide, by omega, by decide +kernel⟩
theorem ml_c71 {n : Nat} (hn : 214 ≤ n) : ml_at n 71 (1, 2838) := ⟨by decide, by omega, by decide +kernel⟩
theorem ml_c72 {n : Nat} (hn : 214 ≤ n) : ml_at n 72 (1, 2838) := ⟨by decide, by omega, by decide +kernel⟩
theorem ml_c73 {n : Nat} (hn : 214 ≤ n) : ml_at n 73 (1, 2838) := ⟨by decide, by omega, by decide +kernel⟩
theorem ml_c74 {n : Nat} (hn : 214 ≤ n) : ml_at n 74 (1, 2838) := ⟨by decide, by omega, by decide +kernel⟩
theorem ml_c75 {n : Nat} (hn : 214 ≤ n) : ml_at n 75 (4, 946) := ⟨by decide, by omega, by decide +kernel⟩
theorem ml_c76 {n : Nat} (hn : 214 ≤ n) : ml_at n 76 (15, 2) := ⟨by decide, by omega, by decide +kernel⟩
theorem ml_c78 {n : Nat} (hn : 214 ≤ n) : ml_at n 78 (19, 8) := ⟨by decide, by omega, by decide +kernel⟩
theorem ml_c114 {n : Nat} (hn : 214 ≤ n) : ml_at n 114 (6, 16) := ⟨by decide, by omega, by decide +kernel⟩
theorem ml_c115 {n : Nat} (hn : 214 ≤ n) : ml_at n 115 (2, 100) := ⟨by decide, by omega, by decide +kernel⟩
theorem ml_c116 {n : Nat} (hn : 214 ≤ n) : ml_at n 116 (19, 8) := ⟨by decide, by omega, by decide +kernel⟩
theorem ml_c215 {n : Nat} (hn : 256 ≤ n) : ml_at n 215 (22, 62) := ⟨by decide, by omega, by decide +kernel⟩
theorem ml_c216 {n : Nat} (hn : 256 ≤ n) : ml_at n 216 (2, 200) := ⟨by decide, by omega, by decide +kernel⟩
theorem ml_c217 {n : Nat} (hn : 256 ≤ n) : ml_at n 217 (1, 10) := ⟨by decide, by omega, by decide +kernel⟩
theorem ml_c218 {n : Nat} (hn : 256 ≤ n) : ml_at n 218 (2, 1600) := ⟨by decide, by omega, by decide +kernel⟩
theorem ml_c219 {n : Nat} (hn : 256 ≤ n) : ml_at n 219 (1, 16) := ⟨by decide, by omega, by decide +kernel⟩
theorem ml_c220 {n : Nat} (hn : 256 ≤ n) : ml_at n 220 (1, 16) := ⟨by decide, by omega, by decide +kernel⟩
theorem ml_c221 {n : Nat} (hn : 256 ≤ n) : ml_at n 221 (4, 16) := ⟨by decide, by omega, by decide +kernel⟩
theorem ml_c222 {n : Nat} (hn : 256 ≤ n) : ml_at n 222 (4, 16) := ⟨by decide, by omega, by decide +kernel⟩
theorem ml_c223 {n : Nat} (hn : 256 ≤ n) : ml_at n 223 (4, 8) := ⟨by decide, by omega, by decide +kernel⟩
theorem ml_c224 {n : Nat} (hn : 256 ≤ n) : ml_at n 224 (4, 8) := ⟨by decide, by omega, by decide +kernel⟩
theorem ml_c225 {n : Nat} (hn : 256 ≤ n) : ml_at n 225 (4, 8) := ⟨by decide, by omega, by decide +kernel⟩
theorem ml_c226 {n : Nat} (hn : 256 ≤ n) : ml_at n 226 (4, 8) := ⟨by decide, by omega, by decide +kernel⟩
theorem ml_c227 {n : Nat} (hn : 256 ≤ n) : ml_at n 227 (1, 640) := ⟨by decide, by omega, by decide +kernel⟩
theorem ml_c228 {n : Nat} (hn : 256 ≤ n) : ml_at n 228 (4, 640) := ⟨by decide, by omega, by decide +kernel⟩
theorem ml_c229 {n : Nat} (hn : 256 ≤ n) : ml_at n 229 (4, 64) := ⟨by decide, by omega, by decide +kernel⟩
theorem ml_c230 {n : Nat} (hn : 256 ≤ n) : ml_at n 230 (4, 64) := ⟨by decide, by omega, by decide +kernel⟩
theorem ml_c231 {n : Nat} (hn : 256 ≤ n) : ml_at n 231 (4, 64) := ⟨by decide, by omega, by decide +kernel⟩
theorem ml_c232 {n : Nat} (hn : 256 ≤ n) : ml_at n 232 (3, 5) := ⟨by decide, by omega, by decide +kernel⟩
theorem ml_c233 {n : Nat} (hn : 256 ≤ n) : ml_at n 233 (2, 100) := ⟨by decide, by omega, by decide +kernel⟩
theorem ml_c234 {n : Nat} (hn : 256 ≤ n) : ml_at n 234 (3, 10) := ⟨by decide, by omega, by decide +kernel⟩
theorem ml_c235 {n : Nat} (hn : 256 ≤ n) : ml_at n 235 (4, 1000) := ⟨by decide, by omega, by decide +kernel⟩
theorem ml_c236 {n : Nat} (hn : 256 ≤ n) : ml_at n 236 (4, 2900) := ⟨by decide, by omega, by decide +kernel⟩
theorem ml_c237 {n : Nat} (hn : 256 ≤ n) : ml_at n 237 (1, 6) := ⟨by decide, by omega, by decide +kernel⟩
theorem ml_c238 {n : Nat} (hn : 256 ≤ n) : ml_at n 238 (4, 950) := ⟨by decide, by omega, by decide +kernel⟩
theorem ml_c239 {n : Nat} (hn : 256 ≤ n) : ml_at n 239 (2, 9500) := ⟨by decide, by omega, by decide +kernel⟩
theorem ml_c240 {n : Nat} (hn : 256 ≤ n) : ml_at n 240 (1, 5700) := ⟨by decide, by omega, by decide +kernel⟩
theorem ml_c241 {n : Nat} (hn : 256 ≤ n) : ml_at n 241 (1, 5700) := ⟨by decide, by omega, by decide +kernel⟩
theorem ml_c242 {n : Nat} (hn : 256 ≤ n) : ml_at n 242 (1, 6) := ⟨by decide, by omega, by decide +kernel⟩
theorem ml_c243 {n : Nat} (hn : 256 ≤ n) : ml_at n 243 (1, 950) := ⟨by decide, by omega, by decide +kernel⟩
theorem ml_c244 {n : Nat} (hn : 256 ≤ n) : ml_at n 244 (4, 3800) := ⟨by decide, by omega, by decide +kernel⟩
theorem ml_c245 {n : Nat} (hn : 256 ≤ n) : ml_at n 245 (4, 3800) := ⟨by decide, by omega, by decide +kernel⟩
theorem ml_c246 {n : Nat} (hn : 256 ≤ n) : ml_at n 246 (3, 3800) := ⟨by decide, by omega, by decide +kernel⟩
theorem ml_c247 {n : Nat} (hn : 256 ≤ n) : ml_at n 247 (1, 3800) := ⟨by decide, by omega, by decide +kernel⟩
theorem ml_c248 {n : Nat} (hn : 256 ≤ n) : ml_at n 248 (1, 3800) := ⟨by decide, by omega, by decide +kernel⟩
theorem ml_c249 {n : Nat} (hn : 256 ≤ n) : ml_at n 249 (1, 3800) := ⟨by decide, by omega, by decide +kernel⟩
theorem ml_c250 {n : Nat} (hn : 256 ≤ n) : ml_at n 250 (1, 950) := ⟨by decide, by omega, by decide +kernel⟩
theorem ml_c251 {n : Nat} (hn : 256 ≤ n) : ml_at n 251 (1, 950) := ⟨by decide, by omega, by decide +kernel⟩
theorem ml_c252 {n : Nat} (hn : 256 ≤ n) : ml_at n 252 (1, 10) := ⟨by decide, by omega, by decide +kernel⟩
theorem ml_c253 {n : Nat} (hn : 256 ≤ n) : ml_at n 253 (1, 10) := ⟨by decide, by omega, by decide +kernel⟩
theorem ml_c254 {n : Nat} (hn : 256 ≤ n) : ml_at n 254 (2, 32000) := ⟨by decide, by omega, by decide +kernel⟩
theorem ml_c255 {n : Nat} (hn : 256 ≤ n) : ml_at n 255 (1, 16) := ⟨by decide, by omega, by decide +kernel⟩
theorem ml_c256 {n : Nat} (hn : 256 ≤ n) : ml_at n 256 (1, 8) := ⟨by decide, by omega, by decide +kernel⟩
theorem ml_k1 {n : Nat} (hn : 1 ≤ n) : ml_at n 1 (21, 13) := ⟨by decide, by omega, by decide +kernel⟩
theorem ml_k2 {n : Nat} (hn : 2 ≤ n) : ml_at n 2 (18, 2) := ⟨by decide, by omega, by decide +kernel⟩
theorem ml_k4 {n : Nat} (hn : 4 ≤ n) : ml_at n 4 (10, 2) := ⟨by decide, by omega, by decide +kernel⟩
theorem ml_k6 {n : Nat} (hn : 6 ≤ n) : ml_at n 6 (12, 7) := ⟨by decide, by omega, by decide +kernel⟩
theorem ml_k8 {n : Nat} (hn : 8 ≤ n) : ml_at n 8 (14, 7) := ⟨by decide, by omega, by decide +kernel⟩
theorem ml_k9 {n : Nat} (hn : 9 ≤ n) : ml_at n 9 (13, 6) := ⟨by decide, by omega, by decide +kernel⟩
theorem ml_k11 {n : Nat} (hn : 11 ≤ n) : ml_at n 11 (5, 7) := ⟨by decide, by omega, by decide +kernel⟩
theorem ml_k25 {n : Nat} (hn : 25 ≤ n) : ml_at n 25 (19, 8) := ⟨by decide, by omega, by decide +kernel⟩
theorem ml_k28 {n : Nat} (hn : 28 ≤ n) : ml_at n 28 (19, 8) := ⟨by decide, by omega, by decide +kernel⟩
theorem ml_k31 {n : Nat} (hn : 31 ≤ n) : ml_at n 31 (19, 8) := ⟨by decide, by omega, by decide +kernel⟩
theorem ml_k34 {n : Nat} (hn : 34 ≤ n) : ml_at n 34 (19, 8) := ⟨by decide, by omega, by decide +kernel⟩
theorem ml_k37 {n : Nat} (hn : 37 ≤ n) : ml_at n 37 (19, 8) := ⟨by decide, by omega, by decide +kernel⟩
theorem ml_k40 {n : Nat} (hn : 40 ≤ n) : ml_at n 40 (19, 8) := ⟨by decide, by omega, by decide +kernel⟩
theorem ml_k43 {n : Nat} (hn : 43 ≤ n) : ml_at n 43 (19, 8) := ⟨by decide, by omega, by decide +kernel⟩
theorem ml_k46 {n : Nat} (hn : 46 ≤ n) : ml_at n 46 (16, 10) := ⟨by decide, by omega, by decide +kernel⟩
theorem ml_k55 {n : Nat} (hn : 55 ≤ n) : ml_at n 55 (17, 14) := ⟨by decide, by omega, by decide +kernel⟩
theorem ml_k70 {n : Nat} (hn : 70 ≤ n) : ml_at n 70 (11, 7) := ⟨by decide, by omega, by decide +kernel⟩
theorem ml_k76 {n : Nat} (hn : 76 ≤ n) : ml_at n 76 (15, 2) := ⟨by decide, by omega, by decide +kernel⟩
theorem ml_k77 {n : Nat} (hn : 77 ≤ n) : ml_at n 77 (5, 11) := ⟨by decide, by omega, by decide +kernel⟩
theorem ml_k81 {n : Nat} (hn : 81 ≤ n) : ml_at n 81 (19, 8) := ⟨by decide, by omega, by decide +kernel⟩
theorem ml_k84 {n : Nat} (hn : 84 ≤ n) : ml_at n 84 (19, 8) := ⟨by decide, by omega, by decide +kernel⟩
theorem ml_k87 {n : Nat} (hn : 87 ≤ n) : ml_at n 87 (19, 8) := ⟨by decide, by omega, by decide +kernel⟩
theorem ml_k90 {n : Nat} (hn : 90 ≤ n) : ml_at n 90 (19, 8) := ⟨by decide, by omega, by decide +kernel⟩
theorem ml_k93 {n : Nat} (hn : 93 ≤ n) : ml_at n 93 (19, 8) := ⟨by decide, by omega, by decide +kernel⟩
theorem ml_k96 {n : Nat} (hn : 96 ≤ n) : ml_at n 96 (19, 8) := ⟨by decide, by omega, by decide +kernel⟩
theorem ml_k99 {n : Nat} (hn : 99 ≤ n) : ml_at n 99 (19, 8) := ⟨by decide, by omega, by decide +kernel⟩
theorem ml_k102 {n : Nat} (hn : 102 ≤ n) : ml_at n 102 (19, 8) := ⟨by decide, by omega, by decide +kernel⟩
theorem ml_k105 {n : Nat} (hn : 105 ≤ n) : ml_at n 105 (19, 8) := ⟨by decide, by omega, by decide +kernel⟩
theorem ml_k108 {n : Nat} (hn : 108 ≤ n) : ml_at n 108 (19, 8) := ⟨by decide, by omega, by decide +kernel⟩
theorem ml_k111 {n : Nat} (hn : 111 ≤ n) : ml_at n 111 (19, 8) := ⟨by decide, by omega, by decide +kernel⟩
theorem ml_k114 {n : Nat} (hn : 114 ≤ n) : ml_at n 114 (6, 16) := ⟨by decide, by omega, by decide +kernel⟩
theorem ml_k119 {n : Nat} (hn : 119 ≤ n) : ml_at n 119 (20, 8) := ⟨by decide, by omega, by decide +kernel⟩
theorem ml_k125 {n : Nat} (hn : 125 ≤ n) : ml_at n 125 (20, 8) := ⟨by decide, by omega, by decide +kernel⟩
theorem ml_k131 {n : Nat} (hn : 131 ≤ n) : ml_at n 131 (20, 8) := ⟨by decide, by omega, by decide +kernel⟩
theorem ml_k137 {n : Nat} (hn : 137 ≤ n) : ml_at n 137 (20, 8) := ⟨by decide, by omega, by decide +kernel⟩
theorem ml_k143 {n : Nat} (hn : 143 ≤ n) : ml_at n 143 (20, 8) := ⟨by decide, by omega, by decide +kernel⟩
theorem ml_k149 {n : Nat} (hn : 149 ≤ n) : ml_at n 149 (20, 8) := ⟨by decide, by omega, by decide +kernel⟩
theorem ml_k155 {n : Nat} (hn : 155 ≤ n) : ml_at n 155 (20, 8) := ⟨by decide, by omega, by decide +kernel⟩
theorem ml_k161 {n : Nat} (hn : 161 ≤ n) : ml_at n 161 (20, 8) := ⟨by decide, by omega, by decide +kernel⟩
theorem ml_k167 {n : Nat} (hn : 167 ≤ n) : ml_at n 167 (20, 8) := ⟨by decide, by omega, by decide +kernel⟩
theorem ml_k173 {n : Nat} (hn : 173 ≤ n) : ml_at n 173 (20, 8) := ⟨by decide, by omega, by decide +kernel⟩
theorem ml_k179 {n : Nat} (hn : 179 ≤ n) : ml_at n 179 (20, 8) := ⟨by decide, by omega, by decide +kernel⟩
theorem ml_k185 {n : Nat} (hn : 185 ≤ n) : ml_at n 185 (20, 8) := ⟨by decide, by omega, by decide +kernel⟩
theorem ml_k191 {n : Nat} (hn : 191 ≤ n) : ml_at n 191 (20, 8) := ⟨by decide, by omega, by decide +kernel⟩
theorem ml_k197 {n : Nat} (hn : 197 ≤ n) : ml_at n 197 (20, 8) := ⟨by decide, by omega, by decide +kernel⟩
theorem ml_k203 {n : Nat} (hn : 203 ≤ n) : ml_at n 203 (20, 8) := ⟨by decide, by omega, by decide +kernel⟩
theorem ml_k209 {n : Nat} (hn : 209 ≤ n) : ml_at n 209 (20, 8) := ⟨by decide, by omega, by decide +kernel⟩
theorem ml_k215 {n : Nat} (hn : 215 ≤ n) : ml_at n 215 (22, 62) := ⟨by decide, by omega, by decide +kernel⟩
theorem ml_k220 {n : Nat} (hn : 220 ≤ n) : ml_at n 220 (1, 16) := ⟨by decide, by omega, by decide +kernel⟩
theorem df_X0 {base : Nat} : ∀ j, j < 2 → defaultValue (ml_ty 0 j) = ml_fv base (ml_ty 0 j) 0 := fun j hj => match j, hj with
  | 0, _ => rfl
  | 1, _ => rfl
  | j + 2, hj => absurd hj (by omega)
theorem df_X1 {base : Nat} : ∀ j, j < 7 → defaultValue (ml_ty 1 j) = ml_fv base (ml_ty 1 j) 0 := fun j hj => match j, hj with
  | 0, _ => rfl
  | 1, _ => rfl
  | 2, _ => rfl
  | 3, _ => rfl
  | 4, _ => rfl
  | 5, _ => rfl
  | 6, _ => rfl
  | j + 7, hj => absurd hj (by omega)
theorem df_X2 {base : Nat} : ∀ j, j < 7 → defaultValue (ml_ty 2 j) = ml_fv base (ml_ty 2 j) 0 := fun j hj => match j, hj with
  | 0, _ => rfl
  | 1, _ => rfl
  | 2, _ => rfl
  | 3, _ => rfl
  | 4, _ => rfl
  | 5, _ => rfl
  | 6, _ => rfl
  | j + 7, hj => absurd hj (by omega)
theorem df_X3 {base : Nat} : ∀ j, j < 6 → defaultValue (ml_ty 3 j) = ml_fv base (ml_ty 3 j) 0 := fun j hj => match j, hj with
  | 0, _ => rfl
  | 1, _ => rfl
  | 2, _ => rfl
  | 3, _ => rfl
  | 4, _ => rfl
  | 5, _ => rfl
  | j + 6, hj => absurd hj (by omega)
theorem df_X4 {base : Nat} : ∀ j, j < 7 → defaultValue (ml_ty 4 j) = ml_fv base (ml_ty 4 j) 0 := fun j hj => match j, hj with
  | 0, _ => rfl
  | 1, _ => rfl
  | 2, _ => rfl
  | 3, _ => rfl
  | 4, _ => rfl
  | 5, _ => rfl
  | 6, _ => rfl
  | j + 7, hj => absurd hj (by omega)
theorem df_X5 {base : Nat} : ∀ j, j < 2 → defaultValue (ml_ty 5 j) = ml_fv base (ml_ty 5 j) 0 := fun j hj => match j, hj with
  | 0, _ => rfl
  | 1, _ => rfl
  | j + 2, hj => absurd hj (by omega)
theorem df_X6 {base : Nat} : ∀ j, j < 10 → defaultValue (ml_ty 6 j) = ml_fv base (ml_ty 6 j) 0 := fun j hj => match j, hj with
  | 0, _ => rfl
  | 1, _ => rfl
  | 2, _ => rfl
  | 3, _ => rfl
  | 4, _ => rfl
  | 5, _ => rfl
  | 6, _ => rfl
  | 7, _ => rfl
  | 8, _ => rfl
  | 9, _ => rfl
  | j + 10, hj => absurd hj (by omega)
theorem df_X7 {base : Nat} : ∀ j, j < 14 → defaultValue (ml_ty 7 j) = ml_fv base (ml_ty 7 j) 0 := fun j hj => match j, hj with
  | 0, _ => rfl
  | 1, _ => rfl
  | 2, _ => rfl
  | 3, _ => rfl
  | 4, _ => rfl
  | 5, _ => rfl
  | 6, _ => rfl
  | 7, _ => rfl
  | 8, _ => rfl
  | 9, _ => rfl
  | 10, _ => rfl
  | 11, _ => rfl
  | 12, _ => rfl
  | 13, _ => rfl
  | j + 14, hj => absurd hj (by omega)
theorem df_X8 {base : Nat} : ∀ j, j < 2 → defaultValue (ml_ty 8 j) = ml_fv base (ml_ty 8 j) 0 := fun j hj => match j, hj with
  | 0, _ => rfl
  | 1, _ => rfl
  | j + 2, hj => absurd hj (by omega)
theorem df_X9 {base : Nat} : ∀ j, j < 8 → defaultValue (ml_ty 9 j) = ml_fv base (ml_ty 9 j) 0 := fun j hj => match j, hj with
  | 0, _ => rfl
  | 1, _ => rfl
  | 2, _ => rfl
  | 3, _ => rfl
  | 4, _ => rfl
  | 5, _ => rfl
  | 6, _ => rfl
  | 7, _ => rfl
  | j + 8, hj => absurd hj (by omega)
theorem df_X10 {base : Nat} : ∀ j, j < 8 → defaultValue (ml_ty 10 j) = ml_fv base (ml_ty 10 j) 0 := fun j hj => match j, hj with
  | 0, _ => rfl
  | 1, _ => rfl
  | 2, _ => rfl
  | 3, _ => rfl
  | 4, _ => rfl
  | 5, _ => rfl
  | 6, _ => rfl
  | 7, _ => rfl
  | j + 8, hj => absurd hj (by omega)
theorem df_X11 {base : Nat} : ∀ j, j < 13 → defaultValue (ml_ty 11 j) = ml_fv base (ml_ty 11 j) 0 := fun j hj => match j, hj with
  | 0, _ => rfl
  | 1, _ => rfl
  | 2, _ => rfl
  | 3, _ => rfl
  | 4, _ => rfl
  | 5, _ => rfl
  | 6, _ => rfl
  | 7, _ => rfl
  | 8, _ => rfl
  | 9, _ => rfl
  | 10, _ => rfl
  | 11, _ => rfl
  | 12, _ => rfl
  | j + 13, hj => absurd hj (by omega)
theorem df_X12 {base : Nat} : ∀ j, j < 62 → defaultValue (ml_ty 12 j) = ml_fv base (ml_ty 12 j) 0 := fun j hj => match j, hj with
  | 0, _ => rfl
  | 1, _ => rfl
  | 2, _ => rfl
  | 3, _ => rfl
  | 4, _ => rfl
  | 5, _ => rfl
  | 6, _ => rfl
  | 7, _ => rfl
  | 8, _ => rfl
  | 9, _ => rfl
  | 10, _ => rfl
  | 11, _ => rfl
  | 12, _ => rfl
  | 13, _ => rfl
  | 14, _ => rfl
  | 15, _ => rfl
  | 16, _ => rfl
  | 17, _ => rfl
  | 18, _ => rfl
  | 19, _ => rfl
  | 20, _ => rfl
  | 21, _ => rfl
  | 22, _ => rfl
  | 23, _ => rfl
  | 24, _ => rfl
  | 25, _ => rfl
  | 26, _ => rfl
  | 27, _ => rfl
  | 28, _ => rfl
  | 29, _ => rfl
  | 30, _ => rfl
  | 31, _ => rfl
  | 32, _ => rfl
  | 33, _ => rfl
  | 34, _ => rfl
  | 35, _ => rfl
  | 36, _ => rfl
  | 37, _ => rfl
  | 38, _ => rfl
  | 39, _ => rfl
  | 40, _ => rfl
  | 41, _ => rfl
  | 42, _ => rfl
  | 43, _ => rfl
  | 44, _ => rfl
  | 45, _ => rfl
  | 46, _ => rfl
  | 47, _ => rfl
  | 48, _ => rfl
  | 49, _ => rfl
  | 50, _ => rfl
  | 51, _ => rfl
  | 52, _ => rfl
  | 53, _ => rfl
  | 54, _ => rfl
  | 55, _ => rfl
  | 56, _ => rfl
  | 57, _ => rfl
  | 58, _ => rfl
  | 59, _ => rfl
  | 60, _ => rfl
  | 61, _ => rfl
  | j + 62, hj => absurd hj (by omega)

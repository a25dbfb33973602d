def RX0 : String := "MirrorLane$Closing"
def TX0 : u_T := fun k => match k with
  | 0 => ("MirrorLane$Closing", "joint", "[I", true)
  | _ => ("MirrorLane$Closing", "byCaps", "Z", false)
def tyX0 : Nat → FieldType := fun k => match k with
  | 0 => .array .int
  | _ => .boolean
theorem nmX0 : ∀ a, a < 2 → ∀ b, b < 2 → a ≠ b → (TX0 a).2.1 ≠ (TX0 b).2.1 := by decide +kernel
theorem tyX0_ok : ∀ k, k < 2 → parseFieldDescriptor (TX0 k).2.2.1 = some (tyX0 k) := by decide +kernel
abbrev cX0_init : ByteArray := prog_2_method_1_code
def yX0_init : MethodName := ⟨RX0, "<init>", "()V"⟩
abbrev cX0_goRound : ByteArray := prog_2_method_2_code
def yX0_goRound : MethodName := ⟨RX0, "goRound", "(I)V"⟩
def RX1 : String := "MirrorLane$Finde\x72"
def TX1 : u_T := fun k => match k with
  | 0 => ("MirrorLane$Finde\x72", "queue", "[I", true)
  | 1 => ("MirrorLane$Finde\x72", "from", "[I", true)
  | 2 => ("MirrorLane$Finde\x72", "by", "[I", true)
  | 3 => ("MirrorLane$Finde\x72", "found", "[I", true)
  | 4 => ("MirrorLane$Finde\x72", "rest", "[J", true)
  | 5 => ("MirrorLane$Finde\x72", "size", "I", false)
  | _ => ("MirrorLane$Finde\x72", "price", "I", false)
def tyX1 : Nat → FieldType := fun k => match k with
  | 0 => .array .int
  | 1 => .array .int
  | 2 => .array .int
  | 3 => .array .int
  | 4 => .array .long
  | 5 => .int
  | _ => .int
theorem nmX1 : ∀ a, a < 7 → ∀ b, b < 7 → a ≠ b → (TX1 a).2.1 ≠ (TX1 b).2.1 := by decide +kernel
theorem tyX1_ok : ∀ k, k < 7 → parseFieldDescriptor (TX1 k).2.2.1 = some (tyX1 k) := by decide +kernel
abbrev cX1_init : ByteArray := prog_3_method_1_code
def yX1_init : MethodName := ⟨RX1, "<init>", "()V"⟩
def RX2 : String := "MirrorLane$Gramma\x72"
def TX2 : u_T := fun k => match k with
  | 0 => ("MirrorLane$Gramma\x72", "text", "[B", false)
  | 1 => ("MirrorLane$Gramma\x72", "size", "I", false)
  | 2 => ("MirrorLane$Gramma\x72", "at", "I", false)
  | 3 => ("MirrorLane$Gramma\x72", "depth", "I", false)
  | 4 => ("MirrorLane$Gramma\x72", "repeatable", "Z", false)
  | 5 => ("MirrorLane$Gramma\x72", "needsItem", "Z", false)
  | _ => ("MirrorLane$Gramma\x72", "fault", "I", false)
def tyX2 : Nat → FieldType := fun k => match k with
  | 0 => .array .byte
  | 1 => .int
  | 2 => .int
  | 3 => .int
  | 4 => .boolean
  | 5 => .boolean
  | _ => .int
theorem nmX2 : ∀ a, a < 7 → ∀ b, b < 7 → a ≠ b → (TX2 a).2.1 ≠ (TX2 b).2.1 := by decide +kernel
theorem tyX2_ok : ∀ k, k < 7 → parseFieldDescriptor (TX2 k).2.2.1 = some (tyX2 k) := by decide +kernel
abbrev cX2_init : ByteArray := prog_4_method_1_code
def yX2_init : MethodName := ⟨RX2, "<init>", "()V"⟩
def RX3 : String := "MirrorLane$Items"
def TX3 : u_T := fun k => match k with
  | 0 => ("MirrorLane$Items", "text", "[B", false)
  | 1 => ("MirrorLane$Items", "size", "I", false)
  | 2 => ("MirrorLane$Items", "at", "I", false)
  | 3 => ("MirrorLane$Items", "kind", "I", false)
  | 4 => ("MirrorLane$Items", "value", "I", false)
  | _ => ("MirrorLane$Items", "times", "I", false)
def tyX3 : Nat → FieldType := fun k => match k with
  | 0 => .array .byte
  | 1 => .int
  | 2 => .int
  | 3 => .int
  | 4 => .int
  | _ => .int
theorem nmX3 : ∀ a, a < 6 → ∀ b, b < 6 → a ≠ b → (TX3 a).2.1 ≠ (TX3 b).2.1 := by decide +kernel
theorem tyX3_ok : ∀ k, k < 6 → parseFieldDescriptor (TX3 k).2.2.1 = some (tyX3 k) := by decide +kernel
abbrev cX3_init : ByteArray := prog_5_method_1_code
def yX3_init : MethodName := ⟨RX3, "<init>", "()V"⟩
def RX4 : String := "MirrorLane$Loom"
def TX4 : u_T := fun k => match k with
  | 0 => ("MirrorLane$Loom", "items", "LMirrorLane$Items;", true)
  | 1 => ("MirrorLane$Loom", "open", "[LMirrorLane$Weave;", true)
  | 2 => ("MirrorLane$Loom", "starts", "[I", true)
  | 3 => ("MirrorLane$Loom", "item", "LMirrorLane$Weave;", true)
  | 4 => ("MirrorLane$Loom", "base", "LMirrorLane$Weave;", true)
  | 5 => ("MirrorLane$Loom", "spare", "LMirrorLane$Weave;", true)
  | _ => ("MirrorLane$Loom", "othe\x72", "LMirrorLane$Weave;", true)
def tyX4 : Nat → FieldType := fun k => match k with
  | 0 => .object "MirrorLane$Items"
  | 1 => .array (.object "MirrorLane$Weave")
  | 2 => .array .int
  | 3 => .object "MirrorLane$Weave"
  | 4 => .object "MirrorLane$Weave"
  | 5 => .object "MirrorLane$Weave"
  | _ => .object "MirrorLane$Weave"
theorem nmX4 : ∀ a, a < 7 → ∀ b, b < 7 → a ≠ b → (TX4 a).2.1 ≠ (TX4 b).2.1 := by decide +kernel
theorem tyX4_ok : ∀ k, k < 7 → parseFieldDescriptor (TX4 k).2.2.1 = some (tyX4 k) := by decide +kernel
abbrev cX4_init : ByteArray := prog_6_method_1_code
def yX4_init : MethodName := ⟨RX4, "<init>", "()V"⟩
def RX5 : String := "MirrorLane$Mende\x72"
def TX5 : u_T := fun k => match k with
  | 0 => ("MirrorLane$Mende\x72", "tails", "[LMirrorLane$Weave;", true)
  | _ => ("MirrorLane$Mende\x72", "mirro\x72", "LMirrorLane$Weave;", true)
def tyX5 : Nat → FieldType := fun k => match k with
  | 0 => .array (.object "MirrorLane$Weave")
  | _ => .object "MirrorLane$Weave"
theorem nmX5 : ∀ a, a < 2 → ∀ b, b < 2 → a ≠ b → (TX5 a).2.1 ≠ (TX5 b).2.1 := by decide +kernel
theorem tyX5_ok : ∀ k, k < 2 → parseFieldDescriptor (TX5 k).2.2.1 = some (tyX5 k) := by decide +kernel
abbrev cX5_init : ByteArray := prog_7_method_1_code
def yX5_init : MethodName := ⟨RX5, "<init>", "()V"⟩
def RX6 : String := "MirrorLane$Powers"
def TX6 : u_T := fun k => match k with
  | 0 => ("MirrorLane$Powers", "numbers", "[I", true)
  | 1 => ("MirrorLane$Powers", "left", "[J", true)
  | 2 => ("MirrorLane$Powers", "last", "LMirrorLane$Weave;", true)
  | 3 => ("MirrorLane$Powers", "spare", "LMirrorLane$Weave;", true)
  | 4 => ("MirrorLane$Powers", "index", "I", false)
  | 5 => ("MirrorLane$Powers", "period", "I", false)
  | 6 => ("MirrorLane$Powers", "gain", "J", false)
  | 7 => ("MirrorLane$Powers", "step", "I", false)
  | 8 => ("MirrorLane$Powers", "more", "J", false)
  | _ => ("MirrorLane$Powers", "since", "I", false)
def tyX6 : Nat → FieldType := fun k => match k with
  | 0 => .array .int
  | 1 => .array .long
  | 2 => .object "MirrorLane$Weave"
  | 3 => .object "MirrorLane$Weave"
  | 4 => .int
  | 5 => .int
  | 6 => .long
  | 7 => .int
  | 8 => .long
  | _ => .int
theorem nmX6 : ∀ a, a < 10 → ∀ b, b < 10 → a ≠ b → (TX6 a).2.1 ≠ (TX6 b).2.1 := by decide +kernel
theorem tyX6_ok : ∀ k, k < 10 → parseFieldDescriptor (TX6 k).2.2.1 = some (tyX6 k) := by decide +kernel
abbrev cX6_init : ByteArray := prog_8_method_1_code
def yX6_init : MethodName := ⟨RX6, "<init>", "()V"⟩
def RX7 : String := "MirrorLane$Sentences"
def TX7 : u_T := fun k => match k with
  | 0 => ("MirrorLane$Sentences", "set", "I", false)
  | 1 => ("MirrorLane$Sentences", "letters", "I", false)
  | 2 => ("MirrorLane$Sentences", "places", "I", false)
  | 3 => ("MirrorLane$Sentences", "lette\x72", "[I", true)
  | 4 => ("MirrorLane$Sentences", "place", "[I", true)
  | 5 => ("MirrorLane$Sentences", "next", "[I", true)
  | 6 => ("MirrorLane$Sentences", "more", "[I", true)
  | 7 => ("MirrorLane$Sentences", "closed", "[I", true)
  | 8 => ("MirrorLane$Sentences", "pairs", "[I", true)
  | 9 => ("MirrorLane$Sentences", "row", "[J", true)
  | 10 => ("MirrorLane$Sentences", "afte\x72", "[J", true)
  | 11 => ("MirrorLane$Sentences", "rowOf", "I", false)
  | 12 => ("MirrorLane$Sentences", "here", "LMirrorLane$Weave;", true)
  | _ => ("MirrorLane$Sentences", "there", "LMirrorLane$Weave;", true)
def tyX7 : Nat → FieldType := fun k => match k with
  | 0 => .int
  | 1 => .int
  | 2 => .int
  | 3 => .array .int
  | 4 => .array .int
  | 5 => .array .int
  | 6 => .array .int
  | 7 => .array .int
  | 8 => .array .int
  | 9 => .array .long
  | 10 => .array .long
  | 11 => .int
  | 12 => .object "MirrorLane$Weave"
  | _ => .object "MirrorLane$Weave"
theorem nmX7 : ∀ a, a < 14 → ∀ b, b < 14 → a ≠ b → (TX7 a).2.1 ≠ (TX7 b).2.1 := by decide +kernel
theorem tyX7_ok : ∀ k, k < 14 → parseFieldDescriptor (TX7 k).2.2.1 = some (tyX7 k) := by decide +kernel
abbrev cX7_init : ByteArray := prog_9_method_1_code
def yX7_init : MethodName := ⟨RX7, "<init>", "()V"⟩
def RX8 : String := "MirrorLane$Tape"
def TX8 : u_T := fun k => match k with
  | 0 => ("MirrorLane$Tape", "bytes", "[I", true)
  | _ => ("MirrorLane$Tape", "size", "I", false)
def tyX8 : Nat → FieldType := fun k => match k with
  | 0 => .array .int
  | _ => .int
theorem nmX8 : ∀ a, a < 2 → ∀ b, b < 2 → a ≠ b → (TX8 a).2.1 ≠ (TX8 b).2.1 := by decide +kernel
theorem tyX8_ok : ∀ k, k < 2 → parseFieldDescriptor (TX8 k).2.2.1 = some (tyX8 k) := by decide +kernel
abbrev cX8_init : ByteArray := prog_10_method_1_code
def yX8_init : MethodName := ⟨RX8, "<init>", "()V"⟩
abbrev cX8_add : ByteArray := prog_10_method_2_code
def yX8_add : MethodName := ⟨RX8, "add", "(I)V"⟩
def RX9 : String := "MirrorLane$Weave"
def TX9 : u_T := fun k => match k with
  | 0 => ("MirrorLane$Weave", "pai\x72", "[I", true)
  | 1 => ("MirrorLane$Weave", "run", "[J", true)
  | 2 => ("MirrorLane$Weave", "loops", "J", false)
  | 3 => ("MirrorLane$Weave", "longest", "J", false)
  | 4 => ("MirrorLane$Weave", "total", "J", false)
  | 5 => ("MirrorLane$Weave", "signs", "J", false)
  | 6 => ("MirrorLane$Weave", "crosses", "Z", false)
  | _ => ("MirrorLane$Weave", "turns", "Z", false)
def tyX9 : Nat → FieldType := fun k => match k with
  | 0 => .array .int
  | 1 => .array .long
  | 2 => .long
  | 3 => .long
  | 4 => .long
  | 5 => .long
  | 6 => .boolean
  | _ => .boolean
theorem nmX9 : ∀ a, a < 8 → ∀ b, b < 8 → a ≠ b → (TX9 a).2.1 ≠ (TX9 b).2.1 := by decide +kernel
theorem tyX9_ok : ∀ k, k < 8 → parseFieldDescriptor (TX9 k).2.2.1 = some (tyX9 k) := by decide +kernel
abbrev cX9_init : ByteArray := prog_11_method_1_code
def yX9_init : MethodName := ⟨RX9, "<init>", "()V"⟩
def RX10 : String := "MirrorLane$Word"
def TX10 : u_T := fun k => match k with
  | 0 => ("MirrorLane$Word", "text", "[B", true)
  | 1 => ("MirrorLane$Word", "size", "I", false)
  | 2 => ("MirrorLane$Word", "plain", "Z", false)
  | 3 => ("MirrorLane$Word", "price", "I", false)
  | 4 => ("MirrorLane$Word", "made", "LMirrorLane$Weave;", true)
  | 5 => ("MirrorLane$Word", "row", "[B", true)
  | 6 => ("MirrorLane$Word", "rowSize", "I", false)
  | _ => ("MirrorLane$Word", "written", "Z", false)
def tyX10 : Nat → FieldType := fun k => match k with
  | 0 => .array .byte
  | 1 => .int
  | 2 => .boolean
  | 3 => .int
  | 4 => .object "MirrorLane$Weave"
  | 5 => .array .byte
  | 6 => .int
  | _ => .boolean
theorem nmX10 : ∀ a, a < 8 → ∀ b, b < 8 → a ≠ b → (TX10 a).2.1 ≠ (TX10 b).2.1 := by decide +kernel
theorem tyX10_ok : ∀ k, k < 8 → parseFieldDescriptor (TX10 k).2.2.1 = some (tyX10 k) := by decide +kernel
abbrev cX10_init : ByteArray := prog_12_method_1_code
def yX10_init : MethodName := ⟨RX10, "<init>", "()V"⟩
def RX11 : String := "MirrorLane"
def TX11 : u_T := fun k => match k with
  | 0 => ("MirrorLane", "tape", "LMirrorLane$Tape;", true)
  | 1 => ("MirrorLane", "closing", "LMirrorLane$Closing;", true)
  | 2 => ("MirrorLane", "gramma\x72", "LMirrorLane$Grammar;", true)
  | 3 => ("MirrorLane", "loom", "LMirrorLane$Loom;", true)
  | 4 => ("MirrorLane", "powers", "LMirrorLane$Powers;", true)
  | 5 => ("MirrorLane", "sentences", "LMirrorLane$Sentences;", true)
  | 6 => ("MirrorLane", "finde\x72", "LMirrorLane$Finder;", true)
  | 7 => ("MirrorLane", "mende\x72", "LMirrorLane$Mender;", true)
  | 8 => ("MirrorLane", "words", "[LMirrorLane$Word;", true)
  | 9 => ("MirrorLane", "draft", "[B", true)
  | 10 => ("MirrorLane", "woven", "LMirrorLane$Weave;", true)
  | 11 => ("MirrorLane", "h", "I", false)
  | _ => ("MirrorLane", "told", "I", false)
def tyX11 : Nat → FieldType := fun k => match k with
  | 0 => .object "MirrorLane$Tape"
  | 1 => .object "MirrorLane$Closing"
  | 2 => .object "MirrorLane$Gramma\x72"
  | 3 => .object "MirrorLane$Loom"
  | 4 => .object "MirrorLane$Powers"
  | 5 => .object "MirrorLane$Sentences"
  | 6 => .object "MirrorLane$Finde\x72"
  | 7 => .object "MirrorLane$Mende\x72"
  | 8 => .array (.object "MirrorLane$Word")
  | 9 => .array .byte
  | 10 => .object "MirrorLane$Weave"
  | 11 => .int
  | _ => .int
theorem nmX11 : ∀ a, a < 13 → ∀ b, b < 13 → a ≠ b → (TX11 a).2.1 ≠ (TX11 b).2.1 := by decide +kernel
theorem tyX11_ok : ∀ k, k < 13 → parseFieldDescriptor (TX11 k).2.2.1 = some (tyX11 k) := by decide +kernel
abbrev cX11_init : ByteArray := prog_1_method_1_code
def yX11_init : MethodName := ⟨RX11, "<init>", "()V"⟩
abbrev cX11_rails : ByteArray := prog_1_method_2_code
def yX11_rails : MethodName := ⟨RX11, "rails", "(I)Z"⟩
abbrev cX11_feed : ByteArray := prog_1_method_3_code
def yX11_feed : MethodName := ⟨RX11, "feed", "(IIIII)I"⟩
abbrev cX11_word : ByteArray := prog_1_method_4_code
def yX11_word : MethodName := ⟨RX11, "word", "(I)I"⟩
abbrev cX11_change : ByteArray := prog_1_method_5_code
def yX11_change : MethodName := ⟨RX11, "change", "(II)I"⟩
abbrev cX11_round : ByteArray := prog_1_method_6_code
def yX11_round : MethodName := ⟨RX11, "round", "()Z"⟩
abbrev cX11_caps : ByteArray := prog_1_method_7_code
def yX11_caps : MethodName := ⟨RX11, "caps", "()Z"⟩
abbrev cX11_signs : ByteArray := prog_1_method_8_code
def yX11_signs : MethodName := ⟨RX11, "signs", "(I)J"⟩
abbrev cX11_joined : ByteArray := prog_1_method_9_code
def yX11_joined : MethodName := ⟨RX11, "joined", "(II)I"⟩
abbrev cX11_length : ByteArray := prog_1_method_10_code
def yX11_length : MethodName := ⟨RX11, "length", "(II)J"⟩
abbrev cX11_loops : ByteArray := prog_1_method_11_code
def yX11_loops : MethodName := ⟨RX11, "loops", "(II)J"⟩
abbrev cX11_power : ByteArray := prog_1_method_12_code
def yX11_power : MethodName := ⟨RX11, "powe\x72", "(II)I"⟩
abbrev cX11_rule : ByteArray := prog_1_method_13_code
def yX11_rule : MethodName := ⟨RX11, "rule", "(II)J"⟩
abbrev cX11_left : ByteArray := prog_1_method_14_code
def yX11_left : MethodName := ⟨RX11, "left", "(IJ)J"⟩
abbrev cX11_those : ByteArray := prog_1_method_15_code
def yX11_those : MethodName := ⟨RX11, "those", "(IJJJ)J"⟩
abbrev cX11_first : ByteArray := prog_1_method_16_code
def yX11_first : MethodName := ⟨RX11, "first", "(IJ)J"⟩
abbrev cX11_both : ByteArray := prog_1_method_17_code
def yX11_both : MethodName := ⟨RX11, "both", "(III)I"⟩
abbrev cX11_is : ByteArray := prog_1_method_18_code
def yX11_is : MethodName := ⟨RX11, "is", "(II)I"⟩
abbrev cX11_many : ByteArray := prog_1_method_19_code
def yX11_many : MethodName := ⟨RX11, "many", "(III)I"⟩
abbrev cX11_made : ByteArray := prog_1_method_20_code
def yX11_made : MethodName := ⟨RX11, "made", "(I)I"⟩
abbrev cX11_shortest : ByteArray := prog_1_method_21_code
def yX11_shortest : MethodName := ⟨RX11, "shortest", "(III)I"⟩
abbrev cX11_cost : ByteArray := prog_1_method_22_code
def yX11_cost : MethodName := ⟨RX11, "cost", "(II)Z"⟩
abbrev cX11_cheapest : ByteArray := prog_1_method_23_code
def yX11_cheapest : MethodName := ⟨RX11, "cheapest", "(III)I"⟩
abbrev cX11_mend : ByteArray := prog_1_method_24_code
def yX11_mend : MethodName := ⟨RX11, "mend", "(I)I"⟩
abbrev cX11_back : ByteArray := prog_1_method_25_code
def yX11_back : MethodName := ⟨RX11, "back", "(I)I"⟩
abbrev cX11_walk : ByteArray := prog_1_method_26_code
def yX11_walk : MethodName := ⟨RX11, "walk", "(III)I"⟩
abbrev cX11_check : ByteArray := prog_1_method_27_code
def yX11_check : MethodName := ⟨RX11, "check", "(I)I"⟩
abbrev cX11_count : ByteArray := prog_1_method_28_code
def yX11_count : MethodName := ⟨RX11, "count", "(I)I"⟩
abbrev cX11_isTold : ByteArray := prog_1_method_29_code
def yX11_isTold : MethodName := ⟨RX11, "isTold", "(I)Z"⟩
abbrev cX11_isMade : ByteArray := prog_1_method_30_code
def yX11_isMade : MethodName := ⟨RX11, "isMade", "(I)Z"⟩
abbrev cX11_isEnd : ByteArray := prog_1_method_31_code
def yX11_isEnd : MethodName := ⟨RX11, "isEnd", "(I)Z"⟩
abbrev cX11_isPower : ByteArray := prog_1_method_32_code
def yX11_isPower : MethodName := ⟨RX11, "isPowe\x72", "(J)Z"⟩
abbrev cX11_isStretch : ByteArray := prog_1_method_33_code
def yX11_isStretch : MethodName := ⟨RX11, "isStretch", "(JJ)Z"⟩
abbrev cX11_tell : ByteArray := prog_1_method_34_code
def yX11_tell : MethodName := ⟨RX11, "tell", "(II)I"⟩
abbrev cX11_openLetters : ByteArray := prog_1_method_36_code
def yX11_openLetters : MethodName := ⟨RX11, "openLetters", "(I)Z"⟩
def RX12 : String := "MirrorLaneModel"
def TX12 : u_T := fun k => match k with
  | 0 => ("MirrorLaneModel", "tape", "[B", true)
  | 1 => ("MirrorLaneModel", "taped", "I", false)
  | 2 => ("MirrorLaneModel", "h", "I", false)
  | 3 => ("MirrorLaneModel", "words", "I", false)
  | 4 => ("MirrorLaneModel", "isCapped", "Z", false)
  | 5 => ("MirrorLaneModel", "cap", "[I", true)
  | 6 => ("MirrorLaneModel", "text", "[B", true)
  | 7 => ("MirrorLaneModel", "size", "[I", true)
  | 8 => ("MirrorLaneModel", "cost", "[I", true)
  | 9 => ("MirrorLaneModel", "place", "I", false)
  | 10 => ("MirrorLaneModel", "end", "I", false)
  | 11 => ("MirrorLaneModel", "bad", "I", false)
  | 12 => ("MirrorLaneModel", "open", "I", false)
  | 13 => ("MirrorLaneModel", "crosses", "[J", true)
  | 14 => ("MirrorLaneModel", "backs", "[J", true)
  | 15 => ("MirrorLaneModel", "accX", "[J", true)
  | 16 => ("MirrorLaneModel", "accU", "[J", true)
  | 17 => ("MirrorLaneModel", "lastX", "[J", true)
  | 18 => ("MirrorLaneModel", "lastU", "[J", true)
  | 19 => ("MirrorLaneModel", "readAt", "I", false)
  | 20 => ("MirrorLaneModel", "readWord", "I", false)
  | 21 => ("MirrorLaneModel", "pai\x72", "[I", true)
  | 22 => ("MirrorLaneModel", "length", "[J", true)
  | 23 => ("MirrorLaneModel", "within", "[J", true)
  | 24 => ("MirrorLaneModel", "longest", "[J", true)
  | 25 => ("MirrorLaneModel", "togethe\x72", "[J", true)
  | 26 => ("MirrorLaneModel", "isSeen", "[Z", true)
  | 27 => ("MirrorLaneModel", "went", "J", false)
  | 28 => ("MirrorLaneModel", "old", "[B", true)
  | 29 => ("MirrorLaneModel", "isDone", "[Z", true)
  | 30 => ("MirrorLaneModel", "codes", "[J", true)
  | 31 => ("MirrorLaneModel", "lefts", "[J", true)
  | 32 => ("MirrorLaneModel", "index", "I", false)
  | 33 => ("MirrorLaneModel", "period", "I", false)
  | 34 => ("MirrorLaneModel", "known", "I", false)
  | 35 => ("MirrorLaneModel", "gains", "J", false)
  | 36 => ("MirrorLaneModel", "firstOf", "J", false)
  | 37 => ("MirrorLaneModel", "foundFirst", "J", false)
  | 38 => ("MirrorLaneModel", "letters", "I", false)
  | 39 => ("MirrorLaneModel", "states", "I", false)
  | 40 => ("MirrorLaneModel", "lette\x72", "[I", true)
  | 41 => ("MirrorLaneModel", "stateCode", "[J", true)
  | 42 => ("MirrorLaneModel", "statePai\x72", "[B", true)
  | 43 => ("MirrorLaneModel", "next", "[I", true)
  | 44 => ("MirrorLaneModel", "more", "[I", true)
  | 45 => ("MirrorLaneModel", "firstState", "[I", true)
  | 46 => ("MirrorLaneModel", "closed", "[I", true)
  | 47 => ("MirrorLaneModel", "ways", "[J", true)
  | 48 => ("MirrorLaneModel", "then", "[J", true)
  | 49 => ("MirrorLaneModel", "isCome", "[Z", true)
  | 50 => ("MirrorLaneModel", "queue", "[I", true)
  | 51 => ("MirrorLaneModel", "cameFrom", "[I", true)
  | 52 => ("MirrorLaneModel", "cameBy", "[I", true)
  | 53 => ("MirrorLaneModel", "queued", "I", false)
  | 54 => ("MirrorLaneModel", "price", "[I", true)
  | 55 => ("MirrorLaneModel", "steps", "[I", true)
  | 56 => ("MirrorLaneModel", "kinds", "[I", true)
  | 57 => ("MirrorLaneModel", "rails", "[I", true)
  | 58 => ("MirrorLaneModel", "written", "[B", true)
  | 59 => ("MirrorLaneModel", "writtenMany", "[I", true)
  | 60 => ("MirrorLaneModel", "itemFrom", "[I", true)
  | _ => ("MirrorLaneModel", "wrote", "I", false)
def tyX12 : Nat → FieldType := fun k => match k with
  | 0 => .array .byte
  | 1 => .int
  | 2 => .int
  | 3 => .int
  | 4 => .boolean
  | 5 => .array .int
  | 6 => .array .byte
  | 7 => .array .int
  | 8 => .array .int
  | 9 => .int
  | 10 => .int
  | 11 => .int
  | 12 => .int
  | 13 => .array .long
  | 14 => .array .long
  | 15 => .array .long
  | 16 => .array .long
  | 17 => .array .long
  | 18 => .array .long
  | 19 => .int
  | 20 => .int
  | 21 => .array .int
  | 22 => .array .long
  | 23 => .array .long
  | 24 => .array .long
  | 25 => .array .long
  | 26 => .array .boolean
  | 27 => .long
  | 28 => .array .byte
  | 29 => .array .boolean
  | 30 => .array .long
  | 31 => .array .long
  | 32 => .int
  | 33 => .int
  | 34 => .int
  | 35 => .long
  | 36 => .long
  | 37 => .long
  | 38 => .int
  | 39 => .int
  | 40 => .array .int
  | 41 => .array .long
  | 42 => .array .byte
  | 43 => .array .int
  | 44 => .array .int
  | 45 => .array .int
  | 46 => .array .int
  | 47 => .array .long
  | 48 => .array .long
  | 49 => .array .boolean
  | 50 => .array .int
  | 51 => .array .int
  | 52 => .array .int
  | 53 => .int
  | 54 => .array .int
  | 55 => .array .int
  | 56 => .array .int
  | 57 => .array .int
  | 58 => .array .byte
  | 59 => .array .int
  | 60 => .array .int
  | _ => .int
theorem nmX12 : ∀ a, a < 62 → ∀ b, b < 62 → a ≠ b → (TX12 a).2.1 ≠ (TX12 b).2.1 := by decide +kernel
theorem tyX12_ok : ∀ k, k < 62 → parseFieldDescriptor (TX12 k).2.2.1 = some (tyX12 k) := by decide +kernel
abbrev cX12_init : ByteArray := prog_14_method_1_code
def yX12_init : MethodName := ⟨RX12, "<init>", "()V"⟩
abbrev cX12_lies : ByteArray := prog_14_method_2_code
def yX12_lies : MethodName := ⟨RX12, "lies", "(JJJ)Z"⟩
abbrev cX12_isWord : ByteArray := prog_14_method_4_code
def yX12_isWord : MethodName := ⟨RX12, "isWord", "(I)Z"⟩
abbrev cX12_rails : ByteArray := prog_14_method_5_code
def yX12_rails : MethodName := ⟨RX12, "rails", "(I)Z"⟩
abbrev cX12_push : ByteArray := prog_14_method_6_code
def yX12_push : MethodName := ⟨RX12, "push", "(I)V"⟩
abbrev cX12_feed : ByteArray := prog_14_method_7_code
def yX12_feed : MethodName := ⟨RX12, "feed", "(IIIII)I"⟩
abbrev cX12_isLength : ByteArray := prog_14_method_34_code
def yX12_isLength : MethodName := ⟨RX12, "isLength", "(I)Z"⟩
abbrev cX12_word : ByteArray := prog_14_method_36_code
def yX12_word : MethodName := ⟨RX12, "word", "(I)I"⟩
abbrev cX12_change : ByteArray := prog_14_method_37_code
def yX12_change : MethodName := ⟨RX12, "change", "(II)I"⟩
abbrev cX12_round : ByteArray := prog_14_method_38_code
def yX12_round : MethodName := ⟨RX12, "round", "()Z"⟩
abbrev cX12_caps : ByteArray := prog_14_method_39_code
def yX12_caps : MethodName := ⟨RX12, "caps", "()Z"⟩
abbrev cX12_signs : ByteArray := prog_14_method_40_code
def yX12_signs : MethodName := ⟨RX12, "signs", "(I)J"⟩
abbrev cX12_isMade : ByteArray := prog_14_method_41_code
def yX12_isMade : MethodName := ⟨RX12, "isMade", "(I)Z"⟩
abbrev cX12_isEnd : ByteArray := prog_14_method_42_code
def yX12_isEnd : MethodName := ⟨RX12, "isEnd", "(I)Z"⟩
abbrev cX12_joined : ByteArray := prog_14_method_43_code
def yX12_joined : MethodName := ⟨RX12, "joined", "(II)I"⟩
abbrev cX12_length : ByteArray := prog_14_method_44_code
def yX12_length : MethodName := ⟨RX12, "length", "(II)J"⟩
abbrev cX12_loops : ByteArray := prog_14_method_47_code
def yX12_loops : MethodName := ⟨RX12, "loops", "(II)J"⟩
abbrev cX12_power : ByteArray := prog_14_method_50_code
def yX12_power : MethodName := ⟨RX12, "powe\x72", "(II)I"⟩
abbrev cX12_rule : ByteArray := prog_14_method_52_code
def yX12_rule : MethodName := ⟨RX12, "rule", "(II)J"⟩
abbrev cX12_left : ByteArray := prog_14_method_54_code
def yX12_left : MethodName := ⟨RX12, "left", "(IJ)J"⟩
abbrev cX12_those : ByteArray := prog_14_method_58_code
def yX12_those : MethodName := ⟨RX12, "those", "(IJJJ)J"⟩
abbrev cX12_first : ByteArray := prog_14_method_59_code
def yX12_first : MethodName := ⟨RX12, "first", "(IJ)J"⟩
abbrev cX12_both : ByteArray := prog_14_method_62_code
def yX12_both : MethodName := ⟨RX12, "both", "(III)I"⟩
abbrev cX12_is : ByteArray := prog_14_method_64_code
def yX12_is : MethodName := ⟨RX12, "is", "(II)I"⟩
abbrev cX12_isLetters : ByteArray := prog_14_method_65_code
def yX12_isLetters : MethodName := ⟨RX12, "isLetters", "(I)Z"⟩
abbrev cX12_many : ByteArray := prog_14_method_69_code
def yX12_many : MethodName := ⟨RX12, "many", "(III)I"⟩
abbrev cX12_made : ByteArray := prog_14_method_70_code
def yX12_made : MethodName := ⟨RX12, "made", "(I)I"⟩
abbrev cX12_shortest : ByteArray := prog_14_method_73_code
def yX12_shortest : MethodName := ⟨RX12, "shortest", "(III)I"⟩
abbrev cX12_cost : ByteArray := prog_14_method_74_code
def yX12_cost : MethodName := ⟨RX12, "cost", "(II)Z"⟩
abbrev cX12_cheapest : ByteArray := prog_14_method_78_code
def yX12_cheapest : MethodName := ⟨RX12, "cheapest", "(III)I"⟩
abbrev cX12_mend : ByteArray := prog_14_method_81_code
def yX12_mend : MethodName := ⟨RX12, "mend", "(I)I"⟩
abbrev cX12_back : ByteArray := prog_14_method_83_code
def yX12_back : MethodName := ⟨RX12, "back", "(I)I"⟩
abbrev cX12_walk : ByteArray := prog_14_method_87_code
def yX12_walk : MethodName := ⟨RX12, "walk", "(III)I"⟩
abbrev cX12_check : ByteArray := prog_14_method_88_code
def yX12_check : MethodName := ⟨RX12, "check", "(I)I"⟩
abbrev cX12_count : ByteArray := prog_14_method_89_code
def yX12_count : MethodName := ⟨RX12, "count", "(I)I"⟩
def RJ6 : String := "java/lang/Intege\x72"
def TJ6 : u_T := fun k => match k with
  | _ => ("", "", "", false)
def tyJ6 : Nat → FieldType := fun k => match k with
  | _ => .int
abbrev cJ6_bitCount_0f7a4 : ByteArray := prog_15_method_49_code
def yJ6_bitCount_0f7a4 : MethodName := ⟨RJ6, "bitCount", "(I)I"⟩
def RJ9 : String := "java/lang/Math"
def TJ9 : u_T := fun k => match k with
  | _ => ("", "", "", false)
def tyJ9 : Nat → FieldType := fun k => match k with
  | _ => .int
def RJ10 : String := "java/lang/System"
def TJ10 : u_T := fun k => match k with
  | _ => ("", "", "", false)
def tyJ10 : Nat → FieldType := fun k => match k with
  | _ => .int
def RJ7 : String := "java/util/Arrays"
def TJ7 : u_T := fun k => match k with
  | _ => ("", "", "", false)
def tyJ7 : Nat → FieldType := fun k => match k with
  | _ => .int
def RL : String := "MirrorLaneLaw"
abbrev cL_law : ByteArray := code
def yL_law : MethodName := ⟨RL, "law", "([I)Z"⟩
def ml_lays : List (Nat × Nat) := [(21, 13), (18, 2), (1, 200), (10, 2), (1, 10), (12, 7), (2, 0), (14, 7), (13, 6), (2, 0), (5, 7), (1, 7), (19, 8), (1, 10), (4, 10), (19, 8), (1, 10), (4, 10), (19, 8), (1, 10), (4, 10), (19, 8), (1, 10), (4, 10), (19, 8), (1, 10), (4, 10), (19, 8), (1, 10), (4, 10), (19, 8), (1, 10), (4, 10), (19, 8), (1, 10), (4, 10), (19, 8), (1, 10), (4, 10), (19, 8), (1, 10), (4, 10), (19, 8), (1, 10), (4, 10), (16, 10), (1, 65), (4, 65), (19, 8), (1, 10), (4, 10), (19, 8), (1, 10), (4, 10), (17, 14), (1, 6), (1, 945), (1, 5676), (1, 5676), (1, 946), (1, 9460), (4, 2838), (4, 2838), (19, 8), (1, 10), (4, 10), (19, 8), (1, 10), (4, 10), (11, 7), (1, 2838), (1, 2838), (1, 2838), (1, 2838), (4, 946), (15, 2), (5, 11), (19, 8), (1, 10), (4, 10), (19, 8), (1, 10), (4, 10), (19, 8), (1, 10), (4, 10), (19, 8), (1, 10), (4, 10), (19, 8), (1, 10), (4, 10), (19, 8), (1, 10), (4, 10), (19, 8), (1, 10), (4, 10), (19, 8), (1, 10), (4, 10), (19, 8), (1, 10), (4, 10), (19, 8), (1, 10), (4, 10), (19, 8), (1, 10), (4, 10), (19, 8), (1, 10), (4, 10), (6, 16), (2, 100), (19, 8), (1, 10), (4, 10), (20, 8), (2, 100), (19, 8), (1, 10), (4, 10), (2, 2000), (20, 8), (2, 100), (19, 8), (1, 10), (4, 10), (2, 2000), (20, 8), (2, 100), (19, 8), (1, 10), (4, 10), (2, 2000), (20, 8), (2, 100), (19, 8), (1, 10), (4, 10), (2, 2000), (20, 8), (2, 100), (19, 8), (1, 10), (4, 10), (2, 2000), (20, 8), (2, 100), (19, 8), (1, 10), (4, 10), (2, 2000), (20, 8), (2, 100), (19, 8), (1, 10), (4, 10), (2, 2000), (20, 8), (2, 100), (19, 8), (1, 10), (4, 10), (2, 2000), (20, 8), (2, 100), (19, 8), (1, 10), (4, 10), (2, 2000), (20, 8), (2, 100), (19, 8), (1, 10), (4, 10), (2, 2000), (20, 8), (2, 100), (19, 8), (1, 10), (4, 10), (2, 2000), (20, 8), (2, 100), (19, 8), (1, 10), (4, 10), (2, 2000), (20, 8), (2, 100), (19, 8), (1, 10), (4, 10), (2, 2000), (20, 8), (2, 100), (19, 8), (1, 10), (4, 10), (2, 2000), (20, 8), (2, 100), (19, 8), (1, 10), (4, 10), (2, 2000), (20, 8), (2, 100), (19, 8), (1, 10), (4, 10), (2, 2000), (22, 62), (2, 200), (1, 10), (2, 1600), (1, 16), (1, 16), (4, 16), (4, 16), (4, 8), (4, 8), (4, 8), (4, 8), (1, 640), (4, 640), (4, 64), (4, 64), (4, 64), (3, 5), (2, 100), (3, 10), (4, 1000), (4, 2900), (1, 6), (4, 950), (2, 9500), (1, 5700), (1, 5700), (1, 6), (1, 950), (4, 3800), (4, 3800), (3, 3800), (1, 3800), (1, 3800), (1, 3800), (1, 950), (1, 950), (1, 10), (1, 10), (2, 32000), (1, 16), (1, 8)]
def ml_ty (c j : Nat) : FieldType := match c with
  | 0 => tyX0 j
  | 1 => tyX1 j
  | 2 => tyX2 j
  | 3 => tyX3 j
  | 4 => tyX4 j
  | 5 => tyX5 j
  | 6 => tyX6 j
  | 7 => tyX7 j
  | 8 => tyX8 j
  | 9 => tyX9 j
  | 10 => tyX10 j
  | 11 => tyX11 j
  | _ => tyX12 j
abbrev ml_cls : List vw_C := [(RX0, TX0, 2), (RX1, TX1, 7), (RX2, TX2, 7), (RX3, TX3, 6), (RX4, TX4, 7), (RX5, TX5, 2), (RX6, TX6, 10), (RX7, TX7, 14), (RX8, TX8, 2), (RX9, TX9, 8), (RX10, TX10, 8), (RX11, TX11, 13), (RX12, TX12, 62)]
def ml_rofT (t : Nat) (k j : Int) : Int := match t with
  | 10 => if j = 0 then 5 else 0
  | 11 => if j = 0 then 71 else if j = 1 then 72 else if j = 2 then 73 else if j = 3 then 74 else if j = 4 then 75 else 0
  | 14 => if j = 0 then 9 else if j = 1 then 11 else if j = 2 then 12 else if j = 3 then 13 else if j = 4 then 16 else if j = 5 then 19 else if j = 6 then 22 else 0
  | 15 => if j = 0 then 77 else if j = 1 then 78 else 0
  | 16 => if j = 0 then 47 else if j = 1 then 48 else if j = 2 then 49 else if j = 3 then 52 else 0
  | 17 => if j = 3 then 56 else if j = 4 then 57 else if j = 5 then 58 else if j = 6 then 59 else if j = 7 then 60 else if j = 8 then 61 else if j = 9 then 62 else if j = 10 then 63 else if j = 12 then 64 else if j = 13 then 67 else 0
  | 18 => if j = 0 then 3 else 0
  | 19 => if j = 0 then k + 1 else if j = 1 then k + 2 else 0
  | 20 => if j = 0 then k + 1 else if j = 4 then k + 2 else if j = 5 then k + 5 else 0
  | 21 => if j = 0 then 2 else if j = 1 then 4 else if j = 2 then 6 else if j = 3 then 8 else if j = 4 then 46 else if j = 5 then 55 else if j = 6 then 70 else if j = 7 then 76 else if j = 8 then 114 else if j = 9 then 115 else if j = 10 then 116 else 0
  | 22 => if j = 0 then 216 else if j = 5 then 217 else if j = 6 then 218 else if j = 7 then 219 else if j = 8 then 220 else if j = 13 then 221 else if j = 14 then 222 else if j = 15 then 223 else if j = 16 then 224 else if j = 17 then 225 else if j = 18 then 226 else if j = 21 then 227 else if j = 22 then 228 else if j = 23 then 229 else if j = 24 then 230 else if j = 25 then 231 else if j = 26 then 232 else if j = 28 then 233 else if j = 29 then 234 else if j = 30 then 235 else if j = 31 then 236 else if j = 40 then 237 else if j = 41 then 238 else if j = 42 then 239 else if j = 43 then 240 else if j = 44 then 241 else if j = 45 then 242 else if j = 46 then 243 else if j = 47 then 244 else if j = 48 then 245 else if j = 49 then 246 else if j = 50 then 247 else if j = 51 then 248 else if j = 52 then 249 else if j = 54 then 250 else if j = 55 then 251 else if j = 56 then 252 else if j = 57 then 253 else if j = 58 then 254 else if j = 59 then 255 else if j = 60 then 256 else 0
  | 5 => if k = 11 then (if 0 ≤ j ∧ j < 7 then 25 + 3 * j else 0) else (if 0 ≤ j ∧ j < 11 then 81 + 3 * j else 0)
  | 6 => if 0 ≤ j ∧ j < 16 then 119 + 6 * j else 0
  | _ => 0
def ml_layT (k : Int) : Nat × Nat := if k < 1 then (0, 0) else ml_lays.getD (k.toNat - 1) (0, 0)
def ml_rof (k j : Int) : Int := ml_rofT (ml_layT k).1 k j

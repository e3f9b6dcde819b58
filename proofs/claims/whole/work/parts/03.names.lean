def RX0 : String := "MessageBank$Block"
def TX0 : u_T := fun k => match k with
  | 0 => ("MessageBank$Block", "gapFrames", "[I", true)
  | 1 => ("MessageBank$Block", "sounds", "[I", true)
  | 2 => ("MessageBank$Block", "count", "I", false)
  | _ => ("MessageBank$Block", "after", "LMessageBank$Block;", false)
def tyX0 : Nat → FieldType := fun k => match k with
  | 0 => .array .int
  | 1 => .array .int
  | 2 => .int
  | _ => .object "MessageBank$Block"
abbrev wsX00 : List Cond := u_ws RX0 TX0 4
theorem nmX0 : ∀ a, a < 4 → ∀ b, b < 4 → a ≠ b → (TX0 a).2.1 ≠ (TX0 b).2.1 := by decide +kernel
theorem tyX0_ok : ∀ k, k < 4 → parseFieldDescriptor (TX0 k).2.2.1 = some (tyX0 k) := by decide +kernel
abbrev cX0_init : ByteArray := prog_2_method_1_code
def yX0_init : MethodName := ⟨RX0, "<init>", "()V"⟩
abbrev cX0_samplesAt : ByteArray := prog_2_method_2_code
def yX0_samplesAt : MethodName := ⟨RX0, "samplesAt", "(I)I"⟩
abbrev cX0_soundAt : ByteArray := prog_2_method_3_code
def yX0_soundAt : MethodName := ⟨RX0, "soundAt", "(II)I"⟩
def RX1 : String := "MessageBank$Box"
def TX1 : u_T := fun k => match k with
  | 0 => ("MessageBank$Box", "own", "[LMessageBank$Recording;", true)
  | _ => ("MessageBank$Box", "limit", "I", false)
def tyX1 : Nat → FieldType := fun k => match k with
  | 0 => .array (.object "MessageBank$Recording")
  | _ => .int
abbrev wsX10 : List Cond := u_ws RX1 TX1 2
theorem nmX1 : ∀ a, a < 2 → ∀ b, b < 2 → a ≠ b → (TX1 a).2.1 ≠ (TX1 b).2.1 := by decide +kernel
theorem tyX1_ok : ∀ k, k < 2 → parseFieldDescriptor (TX1 k).2.2.1 = some (tyX1 k) := by decide +kernel
abbrev cX1_init : ByteArray := prog_3_method_1_code
def yX1_init : MethodName := ⟨RX1, "<init>", "()V"⟩
def RX2 : String := "MessageBank$Line"
def TX2 : u_T := fun k => match k with
  | 0 => ("MessageBank$Line", "frame", "[I", true)
  | 1 => ("MessageBank$Line", "filled", "I", false)
  | 2 => ("MessageBank$Line", "busy", "Z", false)
  | 3 => ("MessageBank$Line", "ended", "Z", false)
  | 4 => ("MessageBank$Line", "box", "I", false)
  | 5 => ("MessageBank$Line", "kind", "I", false)
  | 6 => ("MessageBank$Line", "recording", "LMessageBank$Recording;", false)
  | 7 => ("MessageBank$Line", "quietFrames", "I", false)
  | 8 => ("MessageBank$Line", "guess", "I", false)
  | _ => ("MessageBank$Line", "index", "I", false)
def tyX2 : Nat → FieldType := fun k => match k with
  | 0 => .array .int
  | 1 => .int
  | 2 => .boolean
  | 3 => .boolean
  | 4 => .int
  | 5 => .int
  | 6 => .object "MessageBank$Recording"
  | 7 => .int
  | 8 => .int
  | _ => .int
abbrev wsX20 : List Cond := u_ws RX2 TX2 10
theorem nmX2 : ∀ a, a < 10 → ∀ b, b < 10 → a ≠ b → (TX2 a).2.1 ≠ (TX2 b).2.1 := by decide +kernel
theorem tyX2_ok : ∀ k, k < 10 → parseFieldDescriptor (TX2 k).2.2.1 = some (tyX2 k) := by decide +kernel
abbrev cX2_init : ByteArray := prog_4_method_1_code
def yX2_init : MethodName := ⟨RX2, "<init>", "()V"⟩
abbrev cX2_begin : ByteArray := prog_4_method_2_code
def yX2_begin : MethodName := ⟨RX2, "begin", "(II)V"⟩
abbrev cX2_speaksMessage : ByteArray := prog_4_method_3_code
def yX2_speaksMessage : MethodName := ⟨RX2, "speaksMessage", "()Z"⟩
abbrev cX2_addToFrame : ByteArray := prog_4_method_4_code
def yX2_addToFrame : MethodName := ⟨RX2, "addToFrame", "(I)V"⟩
abbrev cX2_fillFrame : ByteArray := prog_4_method_5_code
def yX2_fillFrame : MethodName := ⟨RX2, "fillFrame", "()V"⟩
abbrev cX2_isFrameQuiet : ByteArray := prog_4_method_6_code
def yX2_isFrameQuiet : MethodName := ⟨RX2, "isFrameQuiet", "()Z"⟩
abbrev cX2_lengthenGap : ByteArray := prog_4_method_7_code
def yX2_lengthenGap : MethodName := ⟨RX2, "lengthenGap", "()V"⟩
abbrev cX2_codeInto : ByteArray := prog_4_method_8_code
def yX2_codeInto : MethodName := ⟨RX2, "codeInto", "(LMessageBank$Block;[I)V"⟩
abbrev cX2_forgetGuess : ByteArray := prog_4_method_9_code
def yX2_forgetGuess : MethodName := ⟨RX2, "forgetGuess", "()V"⟩
abbrev cX2_tell : ByteArray := prog_4_method_10_code
def yX2_tell : MethodName := ⟨RX2, "tell", "(II)V"⟩
def RX3 : String := "MessageBank$Message"
def TX3 : u_T := fun k => match k with
  | 0 => ("MessageBank$Message", "number", "I", true)
  | 1 => ("MessageBank$Message", "box", "I", true)
  | 2 => ("MessageBank$Message", "recording", "LMessageBank$Recording;", true)
  | 3 => ("MessageBank$Message", "preface", "LMessageBank$Recording;", true)
  | _ => ("MessageBank$Message", "list", "I", false)
def tyX3 : Nat → FieldType := fun k => match k with
  | 0 => .int
  | 1 => .int
  | 2 => .object "MessageBank$Recording"
  | 3 => .object "MessageBank$Recording"
  | _ => .int
abbrev wsX30 : List Cond := u_ws RX3 TX3 5
theorem nmX3 : ∀ a, a < 5 → ∀ b, b < 5 → a ≠ b → (TX3 a).2.1 ≠ (TX3 b).2.1 := by decide +kernel
theorem tyX3_ok : ∀ k, k < 5 → parseFieldDescriptor (TX3 k).2.2.1 = some (tyX3 k) := by decide +kernel
abbrev cX3_init : ByteArray := prog_5_method_1_code
def yX3_init : MethodName := ⟨RX3, "<init>", "(IILMessageBank$Recording;LMessageBank$Recording;)V"⟩
def RX4 : String := "MessageBank$Recording"
def TX4 : u_T := fun k => match k with
  | 0 => ("MessageBank$Recording", "first", "LMessageBank$Block;", false)
  | 1 => ("MessageBank$Recording", "last", "LMessageBank$Block;", false)
  | 2 => ("MessageBank$Recording", "samples", "I", false)
  | 3 => ("MessageBank$Recording", "cost", "I", false)
  | _ => ("MessageBank$Recording", "holders", "I", false)
def tyX4 : Nat → FieldType := fun k => match k with
  | 0 => .object "MessageBank$Block"
  | 1 => .object "MessageBank$Block"
  | 2 => .int
  | 3 => .int
  | _ => .int
abbrev wsX40 : List Cond := u_ws RX4 TX4 5
theorem nmX4 : ∀ a, a < 5 → ∀ b, b < 5 → a ≠ b → (TX4 a).2.1 ≠ (TX4 b).2.1 := by decide +kernel
theorem tyX4_ok : ∀ k, k < 5 → parseFieldDescriptor (TX4 k).2.2.1 = some (tyX4 k) := by decide +kernel
abbrev cX4_init : ByteArray := prog_6_method_1_code
def yX4_init : MethodName := ⟨RX4, "<init>", "()V"⟩
abbrev cX4_isBlank : ByteArray := prog_6_method_2_code
def yX4_isBlank : MethodName := ⟨RX4, "isBlank", "()Z"⟩
abbrev cX4_needsBlock : ByteArray := prog_6_method_3_code
def yX4_needsBlock : MethodName := ⟨RX4, "needsBlock", "()Z"⟩
abbrev cX4_addBlock : ByteArray := prog_6_method_4_code
def yX4_addBlock : MethodName := ⟨RX4, "addBlock", "(LMessageBank$Block;)V"⟩
abbrev cX4_dropLastEntry : ByteArray := prog_6_method_5_code
def yX4_dropLastEntry : MethodName := ⟨RX4, "dropLastEntry", "()V"⟩
abbrev cX4_dropLastBlock : ByteArray := prog_6_method_6_code
def yX4_dropLastBlock : MethodName := ⟨RX4, "dropLastBlock", "()V"⟩
abbrev cX4_makeLastEntryGap : ByteArray := prog_6_method_7_code
def yX4_makeLastEntryGap : MethodName := ⟨RX4, "makeLastEntryGap", "()V"⟩
abbrev cX4_lengthenLastEntry : ByteArray := prog_6_method_8_code
def yX4_lengthenLastEntry : MethodName := ⟨RX4, "lengthenLastEntry", "()V"⟩
abbrev cX4_soundAt : ByteArray := prog_6_method_9_code
def yX4_soundAt : MethodName := ⟨RX4, "soundAt", "(I)I"⟩
abbrev cX4_freeBlocks : ByteArray := prog_6_method_10_code
def yX4_freeBlocks : MethodName := ⟨RX4, "freeBlocks", "()I"⟩
def RX5 : String := "MessageBank$Store"
def TX5 : u_T := fun k => match k with
  | _ => ("MessageBank$Store", "blocks", "[LMessageBank$Block;", true)
def tyX5 : Nat → FieldType := fun k => match k with
  | _ => .array (.object "MessageBank$Block")
abbrev wsX50 : List Cond := u_ws RX5 TX5 1
theorem nmX5 : ∀ a, a < 1 → ∀ b, b < 1 → a ≠ b → (TX5 a).2.1 ≠ (TX5 b).2.1 := by decide +kernel
theorem tyX5_ok : ∀ k, k < 1 → parseFieldDescriptor (TX5 k).2.2.1 = some (tyX5 k) := by decide +kernel
abbrev cX5_init : ByteArray := prog_7_method_1_code
def yX5_init : MethodName := ⟨RX5, "<init>", "()V"⟩
abbrev cX5_leastFree : ByteArray := prog_7_method_2_code
def yX5_leastFree : MethodName := ⟨RX5, "leastFree", "()I"⟩
abbrev cX5_greatestUsed : ByteArray := prog_7_method_3_code
def yX5_greatestUsed : MethodName := ⟨RX5, "greatestUsed", "()I"⟩
abbrev cX5_countFree : ByteArray := prog_7_method_4_code
def yX5_countFree : MethodName := ⟨RX5, "countFree", "()I"⟩
abbrev cX5_moveGreatest : ByteArray := prog_7_method_5_code
def yX5_moveGreatest : MethodName := ⟨RX5, "moveGreatest", "()Z"⟩
def RX6 : String := "MessageBank"
def TX6 : u_T := fun k => match k with
  | 0 => ("MessageBank", "steps", "[I", true)
  | 1 => ("MessageBank", "store", "LMessageBank$Store;", true)
  | 2 => ("MessageBank", "boxes", "[LMessageBank$Box;", true)
  | 3 => ("MessageBank", "lines", "[LMessageBank$Line;", true)
  | 4 => ("MessageBank", "messages", "Ljava/util/ArrayList;", true)
  | 5 => ("MessageBank", "boxCount", "I", false)
  | 6 => ("MessageBank", "messagesMade", "I", false)
  | _ => ("MessageBank", "recordingsHeld", "I", false)
def tyX6 : Nat → FieldType := fun k => match k with
  | 0 => .array .int
  | 1 => .object "MessageBank$Store"
  | 2 => .array (.object "MessageBank$Box")
  | 3 => .array (.object "MessageBank$Line")
  | 4 => .object "java/util/ArrayList"
  | 5 => .int
  | 6 => .int
  | _ => .int
abbrev wsX60 : List Cond := u_ws RX6 TX6 8
theorem nmX6 : ∀ a, a < 8 → ∀ b, b < 8 → a ≠ b → (TX6 a).2.1 ≠ (TX6 b).2.1 := by decide +kernel
theorem tyX6_ok : ∀ k, k < 8 → parseFieldDescriptor (TX6 k).2.2.1 = some (tyX6 k) := by decide +kernel
abbrev cX6_init : ByteArray := prog_1_method_1_code
def yX6_init : MethodName := ⟨RX6, "<init>", "()V"⟩
abbrev cX6_box : ByteArray := prog_1_method_2_code
def yX6_box : MethodName := ⟨RX6, "box", "(I)I"⟩
abbrev cX6_call : ByteArray := prog_1_method_3_code
def yX6_call : MethodName := ⟨RX6, "call", "(III)V"⟩
abbrev cX6_sample : ByteArray := prog_1_method_4_code
def yX6_sample : MethodName := ⟨RX6, "sample", "(II)Z"⟩
abbrev cX6_hang : ByteArray := prog_1_method_5_code
def yX6_hang : MethodName := ⟨RX6, "hang", "(I)I"⟩
abbrev cX6_next : ByteArray := prog_1_method_6_code
def yX6_next : MethodName := ⟨RX6, "next", "(III)I"⟩
abbrev cX6_mark : ByteArray := prog_1_method_7_code
def yX6_mark : MethodName := ⟨RX6, "mark", "(II)I"⟩
abbrev cX6_erase : ByteArray := prog_1_method_8_code
def yX6_erase : MethodName := ⟨RX6, "erase", "(I)I"⟩
abbrev cX6_forward : ByteArray := prog_1_method_9_code
def yX6_forward : MethodName := ⟨RX6, "forward", "(II)I"⟩
abbrev cX6_duration : ByteArray := prog_1_method_10_code
def yX6_duration : MethodName := ⟨RX6, "duration", "(I)I"⟩
abbrev cX6_play : ByteArray := prog_1_method_11_code
def yX6_play : MethodName := ⟨RX6, "play", "(II)I"⟩
abbrev cX6_length : ByteArray := prog_1_method_12_code
def yX6_length : MethodName := ⟨RX6, "length", "(II)I"⟩
abbrev cX6_greeting : ByteArray := prog_1_method_13_code
def yX6_greeting : MethodName := ⟨RX6, "greeting", "(III)I"⟩
abbrev cX6_used : ByteArray := prog_1_method_14_code
def yX6_used : MethodName := ⟨RX6, "used", "(I)I"⟩
abbrev cX6_quota : ByteArray := prog_1_method_15_code
def yX6_quota : MethodName := ⟨RX6, "quota", "(I)I"⟩
abbrev cX6_pack : ByteArray := prog_1_method_16_code
def yX6_pack : MethodName := ⟨RX6, "pack", "(I)I"⟩
abbrev cX6_block : ByteArray := prog_1_method_17_code
def yX6_block : MethodName := ⟨RX6, "block", "(I)I"⟩
abbrev cX6_step : ByteArray := prog_1_method_18_code
def yX6_step : MethodName := ⟨RX6, "step", "(I)I"⟩
abbrev cX6_total : ByteArray := prog_1_method_19_code
def yX6_total : MethodName := ⟨RX6, "total", "(I)I"⟩
abbrev cX6_requireBox : ByteArray := prog_1_method_20_code
def yX6_requireBox : MethodName := ⟨RX6, "requireBox", "(I)V"⟩
abbrev cX6_requireLine : ByteArray := prog_1_method_21_code
def yX6_requireLine : MethodName := ⟨RX6, "requireLine", "(I)V"⟩
abbrev cX6_requireList : ByteArray := prog_1_method_22_code
def yX6_requireList : MethodName := ⟨RX6, "requireList", "(I)V"⟩
abbrev cX6_requireOwn : ByteArray := prog_1_method_23_code
def yX6_requireOwn : MethodName := ⟨RX6, "requireOwn", "(I)V"⟩
abbrev cX6_busyLine : ByteArray := prog_1_method_24_code
def yX6_busyLine : MethodName := ⟨RX6, "busyLine", "(I)LMessageBank$Line;"⟩
abbrev cX6_placeOf : ByteArray := prog_1_method_25_code
def yX6_placeOf : MethodName := ⟨RX6, "placeOf", "(I)I"⟩
abbrev cX6_numberInList : ByteArray := prog_1_method_26_code
def yX6_numberInList : MethodName := ⟨RX6, "numberInList", "(III)I"⟩
abbrev cX6_hasRoomForMessage : ByteArray := prog_1_method_27_code
def yX6_hasRoomForMessage : MethodName := ⟨RX6, "hasRoomForMessage", "()Z"⟩
abbrev cX6_usedBy : ByteArray := prog_1_method_28_code
def yX6_usedBy : MethodName := ⟨RX6, "usedBy", "(I)I"⟩
abbrev cX6_isWithinQuota : ByteArray := prog_1_method_29_code
def yX6_isWithinQuota : MethodName := ⟨RX6, "isWithinQuota", "(II)Z"⟩
abbrev cX6_busyBits : ByteArray := prog_1_method_30_code
def yX6_busyBits : MethodName := ⟨RX6, "busyBits", "()I"⟩
abbrev cX6_addMessage : ByteArray := prog_1_method_31_code
def yX6_addMessage : MethodName := ⟨RX6, "addMessage", "(ILMessageBank$Recording;LMessageBank$Recording;)I"⟩
abbrev cX6_replaceOwn : ByteArray := prog_1_method_32_code
def yX6_replaceOwn : MethodName := ⟨RX6, "replaceOwn", "(LMessageBank$Box;ILMessageBank$Recording;)V"⟩
abbrev cX6_hold : ByteArray := prog_1_method_33_code
def yX6_hold : MethodName := ⟨RX6, "hold", "(LMessageBank$Recording;)V"⟩
abbrev cX6_release : ByteArray := prog_1_method_34_code
def yX6_release : MethodName := ⟨RX6, "release", "(LMessageBank$Recording;)I"⟩
abbrev cX6_takeFrame : ByteArray := prog_1_method_35_code
def yX6_takeFrame : MethodName := ⟨RX6, "takeFrame", "(LMessageBank$Line;)V"⟩
abbrev cX6_gapPrice : ByteArray := prog_1_method_36_code
def yX6_gapPrice : MethodName := ⟨RX6, "gapPrice", "(I)I"⟩
abbrev cX6_fits : ByteArray := prog_1_method_37_code
def yX6_fits : MethodName := ⟨RX6, "fits", "(LMessageBank$Line;ZI)Z"⟩
abbrev cX6_codeFrame : ByteArray := prog_1_method_38_code
def yX6_codeFrame : MethodName := ⟨RX6, "codeFrame", "(LMessageBank$Line;)V"⟩
abbrev cX6_costOf : ByteArray := prog_1_method_39_code
def yX6_costOf : MethodName := ⟨RX6, "costOf", "(LMessageBank$Recording;)I"⟩
abbrev cX6_samplesOf : ByteArray := prog_1_method_40_code
def yX6_samplesOf : MethodName := ⟨RX6, "samplesOf", "(LMessageBank$Recording;)I"⟩
abbrev cX6_soundOf : ByteArray := prog_1_method_41_code
def yX6_soundOf : MethodName := ⟨RX6, "soundOf", "(LMessageBank$Recording;I)I"⟩
abbrev cX6_between : ByteArray := prog_1_method_42_code
def yX6_between : MethodName := ⟨RX6, "between", "(III)I"⟩
def RX7 : String := "MessageBankModel"
def TX7 : u_T := fun k => match k with
  | 0 => ("MessageBankModel", "thrown", "I", false)
  | 1 => ("MessageBankModel", "steps", "[I", true)
  | 2 => ("MessageBankModel", "counts", "[I", true)
  | 3 => ("MessageBankModel", "nexts", "[I", true)
  | 4 => ("MessageBankModel", "gaps", "[I", true)
  | 5 => ("MessageBankModel", "codes", "[I", true)
  | 6 => ("MessageBankModel", "users", "[I", true)
  | 7 => ("MessageBankModel", "open", "[Z", true)
  | 8 => ("MessageBankModel", "firsts", "[I", true)
  | 9 => ("MessageBankModel", "sizes", "[I", true)
  | 10 => ("MessageBankModel", "boxes", "I", false)
  | 11 => ("MessageBankModel", "quotas", "[I", true)
  | 12 => ("MessageBankModel", "spoken", "[I", true)
  | 13 => ("MessageBankModel", "messages", "I", false)
  | 14 => ("MessageBankModel", "made", "I", false)
  | 15 => ("MessageBankModel", "numbers", "[I", true)
  | 16 => ("MessageBankModel", "boxOf", "[I", true)
  | 17 => ("MessageBankModel", "lists", "[I", true)
  | 18 => ("MessageBankModel", "records", "[I", true)
  | 19 => ("MessageBankModel", "prefaces", "[I", true)
  | 20 => ("MessageBankModel", "busy", "[Z", true)
  | 21 => ("MessageBankModel", "lineBox", "[I", true)
  | 22 => ("MessageBankModel", "lineKind", "[I", true)
  | 23 => ("MessageBankModel", "lineRecord", "[I", true)
  | 24 => ("MessageBankModel", "ended", "[Z", true)
  | 25 => ("MessageBankModel", "taken", "[I", true)
  | 26 => ("MessageBankModel", "samples", "[I", true)
  | 27 => ("MessageBankModel", "quiet", "[I", true)
  | 28 => ("MessageBankModel", "guesses", "[I", true)
  | 29 => ("MessageBankModel", "indexes", "[I", true)
  | 30 => ("MessageBankModel", "guess", "I", false)
  | _ => ("MessageBankModel", "index", "I", false)
def tyX7 : Nat → FieldType := fun k => match k with
  | 0 => .int
  | 1 => .array .int
  | 2 => .array .int
  | 3 => .array .int
  | 4 => .array .int
  | 5 => .array .int
  | 6 => .array .int
  | 7 => .array .boolean
  | 8 => .array .int
  | 9 => .array .int
  | 10 => .int
  | 11 => .array .int
  | 12 => .array .int
  | 13 => .int
  | 14 => .int
  | 15 => .array .int
  | 16 => .array .int
  | 17 => .array .int
  | 18 => .array .int
  | 19 => .array .int
  | 20 => .array .boolean
  | 21 => .array .int
  | 22 => .array .int
  | 23 => .array .int
  | 24 => .array .boolean
  | 25 => .array .int
  | 26 => .array .int
  | 27 => .array .int
  | 28 => .array .int
  | 29 => .array .int
  | 30 => .int
  | _ => .int
abbrev wsX70 : List Cond := u_ws RX7 TX7 32
theorem nmX7 : ∀ a, a < 32 → ∀ b, b < 32 → a ≠ b → (TX7 a).2.1 ≠ (TX7 b).2.1 := by decide +kernel
theorem tyX7_ok : ∀ k, k < 32 → parseFieldDescriptor (TX7 k).2.2.1 = some (tyX7 k) := by decide +kernel
abbrev cX7_init : ByteArray := prog_9_method_1_code
def yX7_init : MethodName := ⟨RX7, "<init>", "()V"⟩
abbrev cX7_thrown : ByteArray := prog_9_method_2_code
def yX7_thrown : MethodName := ⟨RX7, "thrown", "()I"⟩
abbrev cX7_hear : ByteArray := prog_9_method_3_code
def yX7_hear : MethodName := ⟨RX7, "hear", "(I)V"⟩
abbrev cX7_code : ByteArray := prog_9_method_4_code
def yX7_code : MethodName := ⟨RX7, "code", "(I)I"⟩
abbrev cX7_freeBlock : ByteArray := prog_9_method_5_code
def yX7_freeBlock : MethodName := ⟨RX7, "freeBlock", "()I"⟩
abbrev cX7_entryAt : ByteArray := prog_9_method_6_code
def yX7_entryAt : MethodName := ⟨RX7, "entryAt", "(II)I"⟩
abbrev cX7_append : ByteArray := prog_9_method_7_code
def yX7_append : MethodName := ⟨RX7, "append", "(II)V"⟩
abbrev cX7_dropLast : ByteArray := prog_9_method_8_code
def yX7_dropLast : MethodName := ⟨RX7, "dropLast", "(I)V"⟩
abbrev cX7_release : ByteArray := prog_9_method_9_code
def yX7_release : MethodName := ⟨RX7, "release", "(I)I"⟩
abbrev cX7_letGo : ByteArray := prog_9_method_10_code
def yX7_letGo : MethodName := ⟨RX7, "letGo", "(I)I"⟩
abbrev cX7_costOfGap : ByteArray := prog_9_method_11_code
def yX7_costOfGap : MethodName := ⟨RX7, "costOfGap", "(I)I"⟩
abbrev cX7_cost : ByteArray := prog_9_method_12_code
def yX7_cost : MethodName := ⟨RX7, "cost", "(I)I"⟩
abbrev cX7_frames : ByteArray := prog_9_method_13_code
def yX7_frames : MethodName := ⟨RX7, "frames", "(I)I"⟩
abbrev cX7_sound : ByteArray := prog_9_method_14_code
def yX7_sound : MethodName := ⟨RX7, "sound", "(II)I"⟩
abbrev cX7_isBox : ByteArray := prog_9_method_15_code
def yX7_isBox : MethodName := ⟨RX7, "isBox", "(I)Z"⟩
abbrev cX7_usedBy : ByteArray := prog_9_method_16_code
def yX7_usedBy : MethodName := ⟨RX7, "usedBy", "(I)I"⟩
abbrev cX7_isFull : ByteArray := prog_9_method_17_code
def yX7_isFull : MethodName := ⟨RX7, "isFull", "()Z"⟩
abbrev cX7_box : ByteArray := prog_9_method_18_code
def yX7_box : MethodName := ⟨RX7, "box", "(I)I"⟩
abbrev cX7_isLine : ByteArray := prog_9_method_19_code
def yX7_isLine : MethodName := ⟨RX7, "isLine", "(I)Z"⟩
abbrev cX7_call : ByteArray := prog_9_method_20_code
def yX7_call : MethodName := ⟨RX7, "call", "(III)V"⟩
abbrev cX7_isPaid : ByteArray := prog_9_method_21_code
def yX7_isPaid : MethodName := ⟨RX7, "isPaid", "(II)Z"⟩
abbrev cX7_codeFrame : ByteArray := prog_9_method_22_code
def yX7_codeFrame : MethodName := ⟨RX7, "codeFrame", "(I)V"⟩
abbrev cX7_growGap : ByteArray := prog_9_method_23_code
def yX7_growGap : MethodName := ⟨RX7, "growGap", "(I)V"⟩
abbrev cX7_frame : ByteArray := prog_9_method_24_code
def yX7_frame : MethodName := ⟨RX7, "frame", "(I)V"⟩
abbrev cX7_sample : ByteArray := prog_9_method_25_code
def yX7_sample : MethodName := ⟨RX7, "sample", "(II)Z"⟩
abbrev cX7_hang : ByteArray := prog_9_method_26_code
def yX7_hang : MethodName := ⟨RX7, "hang", "(I)I"⟩
abbrev cX7_add : ByteArray := prog_9_method_27_code
def yX7_add : MethodName := ⟨RX7, "add", "(III)I"⟩
abbrev cX7_find : ByteArray := prog_9_method_28_code
def yX7_find : MethodName := ⟨RX7, "find", "(I)I"⟩
abbrev cX7_next : ByteArray := prog_9_method_29_code
def yX7_next : MethodName := ⟨RX7, "next", "(III)I"⟩
abbrev cX7_mark : ByteArray := prog_9_method_30_code
def yX7_mark : MethodName := ⟨RX7, "mark", "(II)I"⟩
abbrev cX7_erase : ByteArray := prog_9_method_31_code
def yX7_erase : MethodName := ⟨RX7, "erase", "(I)I"⟩
abbrev cX7_forward : ByteArray := prog_9_method_32_code
def yX7_forward : MethodName := ⟨RX7, "forward", "(II)I"⟩
abbrev cX7_duration : ByteArray := prog_9_method_33_code
def yX7_duration : MethodName := ⟨RX7, "duration", "(I)I"⟩
abbrev cX7_play : ByteArray := prog_9_method_34_code
def yX7_play : MethodName := ⟨RX7, "play", "(II)I"⟩
abbrev cX7_length : ByteArray := prog_9_method_35_code
def yX7_length : MethodName := ⟨RX7, "length", "(II)I"⟩
abbrev cX7_greeting : ByteArray := prog_9_method_36_code
def yX7_greeting : MethodName := ⟨RX7, "greeting", "(III)I"⟩
abbrev cX7_used : ByteArray := prog_9_method_37_code
def yX7_used : MethodName := ⟨RX7, "used", "(I)I"⟩
abbrev cX7_quota : ByteArray := prog_9_method_38_code
def yX7_quota : MethodName := ⟨RX7, "quota", "(I)I"⟩
abbrev cX7_lastBlock : ByteArray := prog_9_method_39_code
def yX7_lastBlock : MethodName := ⟨RX7, "lastBlock", "()I"⟩
abbrev cX7_moveBlock : ByteArray := prog_9_method_40_code
def yX7_moveBlock : MethodName := ⟨RX7, "moveBlock", "(II)V"⟩
abbrev cX7_pack : ByteArray := prog_9_method_41_code
def yX7_pack : MethodName := ⟨RX7, "pack", "(I)I"⟩
abbrev cX7_block : ByteArray := prog_9_method_42_code
def yX7_block : MethodName := ⟨RX7, "block", "(I)I"⟩
abbrev cX7_step : ByteArray := prog_9_method_43_code
def yX7_step : MethodName := ⟨RX7, "step", "(I)I"⟩
abbrev cX7_total : ByteArray := prog_9_method_44_code
def yX7_total : MethodName := ⟨RX7, "total", "(I)I"⟩
def RJx145de : String := "java/io/Serializable"
def TJx145de : u_T := fun k => match k with
  | _ => ("", "", "", false)
def tyJx145de : Nat → FieldType := fun k => match k with
  | _ => .int
abbrev wsJx145de0 : List Cond := u_ws RJx145de TJx145de 0
theorem nmJx145de : ∀ a, a < 0 → ∀ b, b < 0 → a ≠ b → (TJx145de a).2.1 ≠ (TJx145de b).2.1 := by decide +kernel
theorem tyJx145de_ok : ∀ k, k < 0 → parseFieldDescriptor (TJx145de k).2.2.1 = some (tyJx145de k) := by decide +kernel
def RJx8e188 : String := "java/lang/Cloneable"
def TJx8e188 : u_T := fun k => match k with
  | _ => ("", "", "", false)
def tyJx8e188 : Nat → FieldType := fun k => match k with
  | _ => .int
abbrev wsJx8e1880 : List Cond := u_ws RJx8e188 TJx8e188 0
theorem nmJx8e188 : ∀ a, a < 0 → ∀ b, b < 0 → a ≠ b → (TJx8e188 a).2.1 ≠ (TJx8e188 b).2.1 := by decide +kernel
theorem tyJx8e188_ok : ∀ k, k < 0 → parseFieldDescriptor (TJx8e188 k).2.2.1 = some (tyJx8e188 k) := by decide +kernel
def RJxab1ab : String := "java/lang/Iterable"
def TJxab1ab : u_T := fun k => match k with
  | _ => ("", "", "", false)
def tyJxab1ab : Nat → FieldType := fun k => match k with
  | _ => .int
abbrev wsJxab1ab0 : List Cond := u_ws RJxab1ab TJxab1ab 0
theorem nmJxab1ab : ∀ a, a < 0 → ∀ b, b < 0 → a ≠ b → (TJxab1ab a).2.1 ≠ (TJxab1ab b).2.1 := by decide +kernel
theorem tyJxab1ab_ok : ∀ k, k < 0 → parseFieldDescriptor (TJxab1ab k).2.2.1 = some (tyJxab1ab k) := by decide +kernel
def RJ9 : String := "java/lang/Math"
def TJ9 : u_T := fun k => match k with
  | _ => ("", "", "", false)
def tyJ9 : Nat → FieldType := fun k => match k with
  | _ => .int
abbrev wsJ90 : List Cond := u_ws RJ9 TJ9 0
theorem nmJ9 : ∀ a, a < 0 → ∀ b, b < 0 → a ≠ b → (TJ9 a).2.1 ≠ (TJ9 b).2.1 := by decide +kernel
theorem tyJ9_ok : ∀ k, k < 0 → parseFieldDescriptor (TJ9 k).2.2.1 = some (tyJ9 k) := by decide +kernel
abbrev cJ9_max_7cf53 : ByteArray := prog_17_method_65_code
def yJ9_max_7cf53 : MethodName := ⟨RJ9, "max", "(II)I"⟩
abbrev cJ9_min_7cf53 : ByteArray := prog_17_method_69_code
def yJ9_min_7cf53 : MethodName := ⟨RJ9, "min", "(II)I"⟩
def RJ0 : String := "java/lang/String"
def TJ0 : u_T := fun k => match k with
  | _ => ("", "", "", false)
def tyJ0 : Nat → FieldType := fun k => match k with
  | _ => .int
abbrev wsJ00 : List Cond := u_ws RJ0 TJ0 0
theorem nmJ0 : ∀ a, a < 0 → ∀ b, b < 0 → a ≠ b → (TJ0 a).2.1 ≠ (TJ0 b).2.1 := by decide +kernel
theorem tyJ0_ok : ∀ k, k < 0 → parseFieldDescriptor (TJ0 k).2.2.1 = some (tyJ0 k) := by decide +kernel
def RJ10 : String := "java/lang/System"
def TJ10 : u_T := fun k => match k with
  | _ => ("", "", "", false)
def tyJ10 : Nat → FieldType := fun k => match k with
  | _ => .int
abbrev wsJ100 : List Cond := u_ws RJ10 TJ10 0
theorem nmJ10 : ∀ a, a < 0 → ∀ b, b < 0 → a ≠ b → (TJ10 a).2.1 ≠ (TJ10 b).2.1 := by decide +kernel
theorem tyJ10_ok : ∀ k, k < 0 → parseFieldDescriptor (TJ10 k).2.2.1 = some (tyJ10 k) := by decide +kernel
def RJxa1e45 : String := "java/util/AbstractCollection"
def TJxa1e45 : u_T := fun k => match k with
  | _ => ("", "", "", false)
def tyJxa1e45 : Nat → FieldType := fun k => match k with
  | _ => .int
abbrev wsJxa1e450 : List Cond := u_ws RJxa1e45 TJxa1e45 0
theorem nmJxa1e45 : ∀ a, a < 0 → ∀ b, b < 0 → a ≠ b → (TJxa1e45 a).2.1 ≠ (TJxa1e45 b).2.1 := by decide +kernel
theorem tyJxa1e45_ok : ∀ k, k < 0 → parseFieldDescriptor (TJxa1e45 k).2.2.1 = some (tyJxa1e45 k) := by decide +kernel
abbrev cJxa1e45_init_da8c8 : ByteArray := prog_22_method_1_code
def yJxa1e45_init_da8c8 : MethodName := ⟨RJxa1e45, "<init>", "()V"⟩
def RJxc12de : String := "java/util/AbstractList"
def TJxc12de : u_T := fun k => match k with
  | _ => ("", "", "", false)
def tyJxc12de : Nat → FieldType := fun k => match k with
  | _ => .int
abbrev wsJxc12de0 : List Cond := u_ws RJxc12de TJxc12de 0
theorem nmJxc12de : ∀ a, a < 0 → ∀ b, b < 0 → a ≠ b → (TJxc12de a).2.1 ≠ (TJxc12de b).2.1 := by decide +kernel
theorem tyJxc12de_ok : ∀ k, k < 0 → parseFieldDescriptor (TJxc12de k).2.2.1 = some (tyJxc12de k) := by decide +kernel
abbrev cJxc12de_init_da8c8 : ByteArray := prog_23_method_1_code
def yJxc12de_init_da8c8 : MethodName := ⟨RJxc12de, "<init>", "()V"⟩
def RJx4a65c : String := "java/util/ArrayList"
def TJx4a65c : u_T := fun k => match k with
  | 0 => ("java/util/AbstractList", "modCount", "I", false)
  | 1 => ("java/util/ArrayList", "elementData", "[Ljava/lang/Object;", false)
  | _ => ("java/util/ArrayList", "size", "I", false)
def tyJx4a65c : Nat → FieldType := fun k => match k with
  | 0 => .int
  | 1 => .array (.object "java/lang/Object")
  | _ => .int
abbrev wsJx4a65c0 : List Cond := u_ws RJx4a65c TJx4a65c 3
theorem nmJx4a65c : ∀ a, a < 3 → ∀ b, b < 3 → a ≠ b → (TJx4a65c a).2.1 ≠ (TJx4a65c b).2.1 := by decide +kernel
theorem tyJx4a65c_ok : ∀ k, k < 3 → parseFieldDescriptor (TJx4a65c k).2.2.1 = some (tyJx4a65c k) := by decide +kernel
abbrev cJx4a65c_init_da8c8 : ByteArray := prog_24_method_2_code
def yJx4a65c_init_da8c8 : MethodName := ⟨RJx4a65c, "<init>", "()V"⟩
abbrev cJx4a65c_grow_92f84 : ByteArray := prog_24_method_6_code
def yJx4a65c_grow_92f84 : MethodName := ⟨RJx4a65c, "grow", "(I)[Ljava/lang/Object;"⟩
abbrev cJx4a65c_grow_d5877 : ByteArray := prog_24_method_7_code
def yJx4a65c_grow_d5877 : MethodName := ⟨RJx4a65c, "grow", "()[Ljava/lang/Object;"⟩
abbrev cJx4a65c_size_8abf5 : ByteArray := prog_24_method_8_code
def yJx4a65c_size_8abf5 : MethodName := ⟨RJx4a65c, "size", "()I"⟩
abbrev cJx4a65c_elementData_915e3 : ByteArray := prog_24_method_18_code
def yJx4a65c_elementData_915e3 : MethodName := ⟨RJx4a65c, "elementData", "(I)Ljava/lang/Object;"⟩
abbrev cJx4a65c_get_915e3 : ByteArray := prog_24_method_20_code
def yJx4a65c_get_915e3 : MethodName := ⟨RJx4a65c, "get", "(I)Ljava/lang/Object;"⟩
abbrev cJx4a65c_add_72be8 : ByteArray := prog_24_method_24_code
def yJx4a65c_add_72be8 : MethodName := ⟨RJx4a65c, "add", "(Ljava/lang/Object;[Ljava/lang/Object;I)V"⟩
abbrev cJx4a65c_add_9ea2d : ByteArray := prog_24_method_25_code
def yJx4a65c_add_9ea2d : MethodName := ⟨RJx4a65c, "add", "(Ljava/lang/Object;)Z"⟩
abbrev cJx4a65c_remove_915e3 : ByteArray := prog_24_method_29_code
def yJx4a65c_remove_915e3 : MethodName := ⟨RJx4a65c, "remove", "(I)Ljava/lang/Object;"⟩
abbrev cJx4a65c_fastRemove_b59b0 : ByteArray := prog_24_method_39_code
def yJx4a65c_fastRemove_b59b0 : MethodName := ⟨RJx4a65c, "fastRemove", "([Ljava/lang/Object;I)V"⟩
def RJ7 : String := "java/util/Arrays"
def TJ7 : u_T := fun k => match k with
  | _ => ("", "", "", false)
def tyJ7 : Nat → FieldType := fun k => match k with
  | _ => .int
abbrev wsJ70 : List Cond := u_ws RJ7 TJ7 0
theorem nmJ7 : ∀ a, a < 0 → ∀ b, b < 0 → a ≠ b → (TJ7 a).2.1 ≠ (TJ7 b).2.1 := by decide +kernel
theorem tyJ7_ok : ∀ k, k < 0 → parseFieldDescriptor (TJ7 k).2.2.1 = some (tyJ7 k) := by decide +kernel
abbrev cJ7_copyOf_1904c : ByteArray := prog_25_method_119_code
def yJ7_copyOf_1904c : MethodName := ⟨RJ7, "copyOf", "([Ljava/lang/Object;I)[Ljava/lang/Object;"⟩
abbrev cJ7_copyOf_6403c : ByteArray := prog_25_method_120_code
def yJ7_copyOf_6403c : MethodName := ⟨RJ7, "copyOf", "([Ljava/lang/Object;ILjava/lang/Class;)[Ljava/lang/Object;"⟩
def RJx5ef63 : String := "java/util/Collection"
def TJx5ef63 : u_T := fun k => match k with
  | _ => ("", "", "", false)
def tyJx5ef63 : Nat → FieldType := fun k => match k with
  | _ => .int
abbrev wsJx5ef630 : List Cond := u_ws RJx5ef63 TJx5ef63 0
theorem nmJx5ef63 : ∀ a, a < 0 → ∀ b, b < 0 → a ≠ b → (TJx5ef63 a).2.1 ≠ (TJx5ef63 b).2.1 := by decide +kernel
theorem tyJx5ef63_ok : ∀ k, k < 0 → parseFieldDescriptor (TJx5ef63 k).2.2.1 = some (tyJx5ef63 k) := by decide +kernel
def RJxbd725 : String := "java/util/List"
def TJxbd725 : u_T := fun k => match k with
  | _ => ("", "", "", false)
def tyJxbd725 : Nat → FieldType := fun k => match k with
  | _ => .int
abbrev wsJxbd7250 : List Cond := u_ws RJxbd725 TJxbd725 0
theorem nmJxbd725 : ∀ a, a < 0 → ∀ b, b < 0 → a ≠ b → (TJxbd725 a).2.1 ≠ (TJxbd725 b).2.1 := by decide +kernel
theorem tyJxbd725_ok : ∀ k, k < 0 → parseFieldDescriptor (TJxbd725 k).2.2.1 = some (tyJxbd725 k) := by decide +kernel
def RJ15 : String := "java/util/Objects"
def TJ15 : u_T := fun k => match k with
  | _ => ("", "", "", false)
def tyJ15 : Nat → FieldType := fun k => match k with
  | _ => .int
abbrev wsJ150 : List Cond := u_ws RJ15 TJ15 0
theorem nmJ15 : ∀ a, a < 0 → ∀ b, b < 0 → a ≠ b → (TJ15 a).2.1 ≠ (TJ15 b).2.1 := by decide +kernel
theorem tyJ15_ok : ∀ k, k < 0 → parseFieldDescriptor (TJ15 k).2.2.1 = some (tyJ15 k) := by decide +kernel
abbrev cJ15_checkIndex_7cf53 : ByteArray := prog_29_method_17_code
def yJ15_checkIndex_7cf53 : MethodName := ⟨RJ15, "checkIndex", "(II)I"⟩
def RJxf0a74 : String := "java/util/RandomAccess"
def TJxf0a74 : u_T := fun k => match k with
  | _ => ("", "", "", false)
def tyJxf0a74 : Nat → FieldType := fun k => match k with
  | _ => .int
abbrev wsJxf0a740 : List Cond := u_ws RJxf0a74 TJxf0a74 0
theorem nmJxf0a74 : ∀ a, a < 0 → ∀ b, b < 0 → a ≠ b → (TJxf0a74 a).2.1 ≠ (TJxf0a74 b).2.1 := by decide +kernel
theorem tyJxf0a74_ok : ∀ k, k < 0 → parseFieldDescriptor (TJxf0a74 k).2.2.1 = some (tyJxf0a74 k) := by decide +kernel
def RJxa66e6 : String := "java/util/SequencedCollection"
def TJxa66e6 : u_T := fun k => match k with
  | _ => ("", "", "", false)
def tyJxa66e6 : Nat → FieldType := fun k => match k with
  | _ => .int
abbrev wsJxa66e60 : List Cond := u_ws RJxa66e6 TJxa66e6 0
theorem nmJxa66e6 : ∀ a, a < 0 → ∀ b, b < 0 → a ≠ b → (TJxa66e6 a).2.1 ≠ (TJxa66e6 b).2.1 := by decide +kernel
theorem tyJxa66e6_ok : ∀ k, k < 0 → parseFieldDescriptor (TJxa66e6 k).2.2.1 = some (tyJxa66e6 k) := by decide +kernel
def RJ8 : String := "jdk/internal/util/ArraysSupport"
def TJ8 : u_T := fun k => match k with
  | _ => ("", "", "", false)
def tyJ8 : Nat → FieldType := fun k => match k with
  | _ => .int
abbrev wsJ80 : List Cond := u_ws RJ8 TJ8 0
theorem nmJ8 : ∀ a, a < 0 → ∀ b, b < 0 → a ≠ b → (TJ8 a).2.1 ≠ (TJ8 b).2.1 := by decide +kernel
theorem tyJ8_ok : ∀ k, k < 0 → parseFieldDescriptor (TJ8 k).2.2.1 = some (tyJ8 k) := by decide +kernel
abbrev cJ8_newLength_cabcc : ByteArray := prog_32_method_27_code
def yJ8_newLength_cabcc : MethodName := ⟨RJ8, "newLength", "(III)I"⟩
abbrev cJ8_hugeLength_7cf53 : ByteArray := prog_32_method_28_code
def yJ8_hugeLength_7cf53 : MethodName := ⟨RJ8, "hugeLength", "(II)I"⟩
def RJ3 : String := "jdk/internal/util/Preconditions"
def TJ3 : u_T := fun k => match k with
  | _ => ("", "", "", false)
def tyJ3 : Nat → FieldType := fun k => match k with
  | _ => .int
abbrev wsJ30 : List Cond := u_ws RJ3 TJ3 0
theorem nmJ3 : ∀ a, a < 0 → ∀ b, b < 0 → a ≠ b → (TJ3 a).2.1 ≠ (TJ3 b).2.1 := by decide +kernel
theorem tyJ3_ok : ∀ k, k < 0 → parseFieldDescriptor (TJ3 k).2.2.1 = some (tyJ3 k) := by decide +kernel
abbrev cJ3_checkIndex_8e157 : ByteArray := prog_33_method_11_code
def yJ3_checkIndex_8e157 : MethodName := ⟨RJ3, "checkIndex", "(IILjava/util/function/BiFunction;)I"⟩
def RL : String := "MessageBankLaw"
abbrev cL_box : ByteArray := method_3_code
def yL_box : MethodName := ⟨RL, "box", "(LMessageBank;I[J)I"⟩
abbrev cL_call : ByteArray := method_4_code
def yL_call : MethodName := ⟨RL, "call", "(LMessageBank;III)I"⟩
abbrev cL_sample : ByteArray := method_5_code
def yL_sample : MethodName := ⟨RL, "sample", "(LMessageBank;II[J)I"⟩
abbrev cL_hang : ByteArray := method_6_code
def yL_hang : MethodName := ⟨RL, "hang", "(LMessageBank;I[J)I"⟩
abbrev cL_next : ByteArray := method_7_code
def yL_next : MethodName := ⟨RL, "next", "(LMessageBank;III[J)I"⟩
abbrev cL_mark : ByteArray := method_8_code
def yL_mark : MethodName := ⟨RL, "mark", "(LMessageBank;II[J)I"⟩
abbrev cL_erase : ByteArray := method_9_code
def yL_erase : MethodName := ⟨RL, "erase", "(LMessageBank;I[J)I"⟩
abbrev cL_forward : ByteArray := method_10_code
def yL_forward : MethodName := ⟨RL, "forward", "(LMessageBank;II[J)I"⟩
abbrev cL_duration : ByteArray := method_11_code
def yL_duration : MethodName := ⟨RL, "duration", "(LMessageBank;I[J)I"⟩
abbrev cL_play : ByteArray := method_12_code
def yL_play : MethodName := ⟨RL, "play", "(LMessageBank;II[J)I"⟩
abbrev cL_length : ByteArray := method_13_code
def yL_length : MethodName := ⟨RL, "length", "(LMessageBank;II[J)I"⟩
abbrev cL_greeting : ByteArray := method_14_code
def yL_greeting : MethodName := ⟨RL, "greeting", "(LMessageBank;III[J)I"⟩
abbrev cL_used : ByteArray := method_15_code
def yL_used : MethodName := ⟨RL, "used", "(LMessageBank;I[J)I"⟩
abbrev cL_quota : ByteArray := method_16_code
def yL_quota : MethodName := ⟨RL, "quota", "(LMessageBank;I[J)I"⟩
abbrev cL_pack : ByteArray := method_17_code
def yL_pack : MethodName := ⟨RL, "pack", "(LMessageBank;I[J)I"⟩
abbrev cL_block : ByteArray := method_18_code
def yL_block : MethodName := ⟨RL, "block", "(LMessageBank;I[J)I"⟩
abbrev cL_step : ByteArray := method_19_code
def yL_step : MethodName := ⟨RL, "step", "(LMessageBank;I[J)I"⟩
abbrev cL_law : ByteArray := code
def yL_law : MethodName := ⟨RL, "law", "([I)Z"⟩
abbrev vwCl : List vw_C := [(RJx4a65c, TJx4a65c, 3), (RX0, TX0, 4), (RX1, TX1, 2), (RX2, TX2, 10), (RX3, TX3, 5), (RX4, TX4, 5), (RX5, TX5, 1), (RX6, TX6, 8), (RX7, TX7, 32)]

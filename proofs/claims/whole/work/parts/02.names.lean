/-! ===== BEGIN printed: names, fields, word lists, decode rows ===== -/
def RX0 : String := "RegisterGateway$Cache"
def TX0 : u_T := fun k => match k with
  | 0 => ("RegisterGateway$Cache", "values", "[I", true)
  | _ => ("RegisterGateway$Cache", "times", "[I", true)
def tyX0 : Nat → FieldType := fun k => match k with
  | 0 => .array .int
  | _ => .array .int
abbrev wsX00 : List Cond := u_ws RX0 TX0 2
theorem nmX0 : ∀ a, a < 2 → ∀ b, b < 2 → a ≠ b → (TX0 a).2.1 ≠ (TX0 b).2.1 := by decide +kernel
theorem tyX0_ok : ∀ k, k < 2 → parseFieldDescriptor (TX0 k).2.2.1 = some (tyX0 k) := by decide +kernel
abbrev cX0_init : ByteArray := prog_2_method_1_code
def yX0_init : MethodName := ⟨RX0, "<init>", "()V"⟩
abbrev cX0_copyFrom : ByteArray := prog_2_method_2_code
def yX0_copyFrom : MethodName := ⟨RX0, "copyFrom", "(LRegisterGateway$Cache;)V"⟩
abbrev cX0_placeOf : ByteArray := prog_2_method_3_code
def yX0_placeOf : MethodName := ⟨RX0, "placeOf", "(II)I"⟩
abbrev cX0_valueOf : ByteArray := prog_2_method_4_code
def yX0_valueOf : MethodName := ⟨RX0, "valueOf", "(II)I"⟩
abbrev cX0_ageOf : ByteArray := prog_2_method_5_code
def yX0_ageOf : MethodName := ⟨RX0, "ageOf", "(III)I"⟩
abbrev cX0_isFresh : ByteArray := prog_2_method_6_code
def yX0_isFresh : MethodName := ⟨RX0, "isFresh", "(IIII)Z"⟩
abbrev cX0_put : ByteArray := prog_2_method_7_code
def yX0_put : MethodName := ⟨RX0, "put", "(IIII)V"⟩
abbrev cX0_forget : ByteArray := prog_2_method_8_code
def yX0_forget : MethodName := ⟨RX0, "forget", "(II)V"⟩
abbrev cX0_empty : ByteArray := prog_2_method_9_code
def yX0_empty : MethodName := ⟨RX0, "empty", "()I"⟩
def RX1 : String := "RegisterGateway$Core"
def TX1 : u_T := fun k => match k with
  | 0 => ("RegisterGateway$Core", "settings", "[I", true)
  | 1 => ("RegisterGateway$Core", "counts", "[I", true)
  | 2 => ("RegisterGateway$Core", "devices", "[LRegisterGateway$Device;", true)
  | 3 => ("RegisterGateway$Core", "cache", "LRegisterGateway$Cache;", true)
  | 4 => ("RegisterGateway$Core", "queue", "LRegisterGateway$Queue;", true)
  | 5 => ("RegisterGateway$Core", "line", "LRegisterGateway$Line;", true)
  | 6 => ("RegisterGateway$Core", "frame", "LRegisterGateway$Frame;", true)
  | 7 => ("RegisterGateway$Core", "now", "I", false)
  | 8 => ("RegisterGateway$Core", "tried", "I", false)
  | 9 => ("RegisterGateway$Core", "latestMissed", "Z", false)
  | _ => ("RegisterGateway$Core", "tookFalseReply", "Z", false)
def tyX1 : Nat → FieldType := fun k => match k with
  | 0 => .array .int
  | 1 => .array .int
  | 2 => .array (.object "RegisterGateway$Device")
  | 3 => .object "RegisterGateway$Cache"
  | 4 => .object "RegisterGateway$Queue"
  | 5 => .object "RegisterGateway$Line"
  | 6 => .object "RegisterGateway$Frame"
  | 7 => .int
  | 8 => .int
  | 9 => .boolean
  | _ => .boolean
abbrev wsX10 : List Cond := u_ws RX1 TX1 11
theorem nmX1 : ∀ a, a < 11 → ∀ b, b < 11 → a ≠ b → (TX1 a).2.1 ≠ (TX1 b).2.1 := by decide +kernel
theorem tyX1_ok : ∀ k, k < 11 → parseFieldDescriptor (TX1 k).2.2.1 = some (tyX1 k) := by decide +kernel
abbrev cX1_init : ByteArray := prog_3_method_1_code
def yX1_init : MethodName := ⟨RX1, "<init>", "()V"⟩
abbrev cX1_copyFrom : ByteArray := prog_3_method_2_code
def yX1_copyFrom : MethodName := ⟨RX1, "copyFrom", "(LRegisterGateway$Core;)V"⟩
abbrev cX1_plan : ByteArray := prog_3_method_3_code
def yX1_plan : MethodName := ⟨RX1, "plan", "()V"⟩
abbrev cX1_cacheAnswers : ByteArray := prog_3_method_4_code
def yX1_cacheAnswers : MethodName := ⟨RX1, "cacheAnswers", "(LRegisterGateway$Request;)Z"⟩
abbrev cX1_buildWriteFrame : ByteArray := prog_3_method_5_code
def yX1_buildWriteFrame : MethodName := ⟨RX1, "buildWriteFrame", "()V"⟩
abbrev cX1_takeStep : ByteArray := prog_3_method_6_code
def yX1_takeStep : MethodName := ⟨RX1, "takeStep", "()I"⟩
abbrev cX1_endFromCache : ByteArray := prog_3_method_7_code
def yX1_endFromCache : MethodName := ⟨RX1, "endFromCache", "(LRegisterGateway$Request;)V"⟩
abbrev cX1_tryFrame : ByteArray := prog_3_method_8_code
def yX1_tryFrame : MethodName := ⟨RX1, "tryFrame", "(LRegisterGateway$Device;)LRegisterGateway$Reply;"⟩
abbrev cX1_noteTaken : ByteArray := prog_3_method_9_code
def yX1_noteTaken : MethodName := ⟨RX1, "noteTaken", "(LRegisterGateway$Reply;)V"⟩
abbrev cX1_failGroup : ByteArray := prog_3_method_10_code
def yX1_failGroup : MethodName := ⟨RX1, "failGroup", "(I)V"⟩
abbrev cX1_finishGroup : ByteArray := prog_3_method_11_code
def yX1_finishGroup : MethodName := ⟨RX1, "finishGroup", "(LRegisterGateway$Frame;)V"⟩
def RX2 : String := "RegisterGateway$Device"
def TX2 : u_T := fun k => match k with
  | 0 => ("RegisterGateway$Device", "registers", "[I", true)
  | 1 => ("RegisterGateway$Device", "faultKinds", "[I", true)
  | 2 => ("RegisterGateway$Device", "faultNumbers", "[I", true)
  | 3 => ("RegisterGateway$Device", "faults", "I", false)
  | 4 => ("RegisterGateway$Device", "readOnly", "I", false)
  | 5 => ("RegisterGateway$Device", "greatest", "I", false)
  | _ => ("RegisterGateway$Device", "delay", "I", false)
def tyX2 : Nat → FieldType := fun k => match k with
  | 0 => .array .int
  | 1 => .array .int
  | 2 => .array .int
  | 3 => .int
  | 4 => .int
  | 5 => .int
  | _ => .int
abbrev wsX20 : List Cond := u_ws RX2 TX2 7
theorem nmX2 : ∀ a, a < 7 → ∀ b, b < 7 → a ≠ b → (TX2 a).2.1 ≠ (TX2 b).2.1 := by decide +kernel
theorem tyX2_ok : ∀ k, k < 7 → parseFieldDescriptor (TX2 k).2.2.1 = some (tyX2 k) := by decide +kernel
abbrev cX2_init : ByteArray := prog_4_method_1_code
def yX2_init : MethodName := ⟨RX2, "<init>", "()V"⟩
abbrev cX2_copyFrom : ByteArray := prog_4_method_2_code
def yX2_copyFrom : MethodName := ⟨RX2, "copyFrom", "(LRegisterGateway$Device;)V"⟩
abbrev cX2_isReadOnly : ByteArray := prog_4_method_3_code
def yX2_isReadOnly : MethodName := ⟨RX2, "isReadOnly", "(I)Z"⟩
abbrev cX2_appendFault : ByteArray := prog_4_method_4_code
def yX2_appendFault : MethodName := ⟨RX2, "appendFault", "(II)V"⟩
abbrev cX2_dropFirstFault : ByteArray := prog_4_method_5_code
def yX2_dropFirstFault : MethodName := ⟨RX2, "dropFirstFault", "()V"⟩
abbrev cX2_answer : ByteArray := prog_4_method_6_code
def yX2_answer : MethodName := ⟨RX2, "answer", "(LRegisterGateway$Frame;ILRegisterGateway$Reply;)Z"⟩
abbrev cX2_refusalOf : ByteArray := prog_4_method_7_code
def yX2_refusalOf : MethodName := ⟨RX2, "refusalOf", "(LRegisterGateway$Frame;)I"⟩
abbrev cX2_obey : ByteArray := prog_4_method_8_code
def yX2_obey : MethodName := ⟨RX2, "obey", "(LRegisterGateway$Frame;LRegisterGateway$Frame;)V"⟩
def RX3 : String := "RegisterGateway$Frame"
def TX3 : u_T := fun k => match k with
  | 0 => ("RegisterGateway$Frame", "bytes", "[I", true)
  | _ => ("RegisterGateway$Frame", "size", "I", false)
def tyX3 : Nat → FieldType := fun k => match k with
  | 0 => .array .int
  | _ => .int
abbrev wsX30 : List Cond := u_ws RX3 TX3 2
theorem nmX3 : ∀ a, a < 2 → ∀ b, b < 2 → a ≠ b → (TX3 a).2.1 ≠ (TX3 b).2.1 := by decide +kernel
theorem tyX3_ok : ∀ k, k < 2 → parseFieldDescriptor (TX3 k).2.2.1 = some (tyX3 k) := by decide +kernel
abbrev cX3_init : ByteArray := prog_5_method_1_code
def yX3_init : MethodName := ⟨RX3, "<init>", "()V"⟩
abbrev cX3_copyFrom : ByteArray := prog_5_method_2_code
def yX3_copyFrom : MethodName := ⟨RX3, "copyFrom", "(LRegisterGateway$Frame;)V"⟩
abbrev cX3_open : ByteArray := prog_5_method_3_code
def yX3_open : MethodName := ⟨RX3, "open", "(II)V"⟩
abbrev cX3_putByte : ByteArray := prog_5_method_4_code
def yX3_putByte : MethodName := ⟨RX3, "putByte", "(I)V"⟩
abbrev cX3_putWord : ByteArray := prog_5_method_5_code
def yX3_putWord : MethodName := ⟨RX3, "putWord", "(I)V"⟩
abbrev cX3_seal : ByteArray := prog_5_method_6_code
def yX3_seal : MethodName := ⟨RX3, "seal", "()V"⟩
abbrev cX3_sumOf : ByteArray := prog_5_method_7_code
def yX3_sumOf : MethodName := ⟨RX3, "sumOf", "(I)I"⟩
abbrev cX3_invertLowestBit : ByteArray := prog_5_method_8_code
def yX3_invertLowestBit : MethodName := ⟨RX3, "invertLowestBit", "(I)V"⟩
abbrev cX3_byteAt : ByteArray := prog_5_method_9_code
def yX3_byteAt : MethodName := ⟨RX3, "byteAt", "(I)I"⟩
abbrev cX3_wordAt : ByteArray := prog_5_method_10_code
def yX3_wordAt : MethodName := ⟨RX3, "wordAt", "(I)I"⟩
abbrev cX3_startRegister : ByteArray := prog_5_method_11_code
def yX3_startRegister : MethodName := ⟨RX3, "startRegister", "()I"⟩
abbrev cX3_registerCount : ByteArray := prog_5_method_12_code
def yX3_registerCount : MethodName := ⟨RX3, "registerCount", "()I"⟩
abbrev cX3_writtenValue : ByteArray := prog_5_method_13_code
def yX3_writtenValue : MethodName := ⟨RX3, "writtenValue", "(I)I"⟩
abbrev cX3_readValue : ByteArray := prog_5_method_14_code
def yX3_readValue : MethodName := ⟨RX3, "readValue", "(I)I"⟩
abbrev cX3_isException : ByteArray := prog_5_method_15_code
def yX3_isException : MethodName := ⟨RX3, "isException", "()Z"⟩
abbrev cX3_isReplyTo : ByteArray := prog_5_method_16_code
def yX3_isReplyTo : MethodName := ⟨RX3, "isReplyTo", "(LRegisterGateway$Frame;)Z"⟩
def RX4 : String := "RegisterGateway$Line"
def TX4 : u_T := fun k => match k with
  | 0 => ("RegisterGateway$Line", "replies", "Ljava/util/ArrayList;", true)
  | _ => ("RegisterGateway$Line", "spare", "Ljava/util/ArrayList;", true)
def tyX4 : Nat → FieldType := fun k => match k with
  | 0 => .object "java/util/ArrayList"
  | _ => .object "java/util/ArrayList"
abbrev wsX40 : List Cond := u_ws RX4 TX4 2
theorem nmX4 : ∀ a, a < 2 → ∀ b, b < 2 → a ≠ b → (TX4 a).2.1 ≠ (TX4 b).2.1 := by decide +kernel
theorem tyX4_ok : ∀ k, k < 2 → parseFieldDescriptor (TX4 k).2.2.1 = some (tyX4 k) := by decide +kernel
abbrev cX4_init : ByteArray := prog_6_method_1_code
def yX4_init : MethodName := ⟨RX4, "<init>", "()V"⟩
abbrev cX4_copyFrom : ByteArray := prog_6_method_2_code
def yX4_copyFrom : MethodName := ⟨RX4, "copyFrom", "(LRegisterGateway$Line;)V"⟩
abbrev cX4_recycle : ByteArray := prog_6_method_3_code
def yX4_recycle : MethodName := ⟨RX4, "recycle", "(LRegisterGateway$Reply;)V"⟩
abbrev cX4_freeReply : ByteArray := prog_6_method_4_code
def yX4_freeReply : MethodName := ⟨RX4, "freeReply", "()LRegisterGateway$Reply;"⟩
abbrev cX4_dropBefore : ByteArray := prog_6_method_5_code
def yX4_dropBefore : MethodName := ⟨RX4, "dropBefore", "(I)V"⟩
abbrev cX4_take : ByteArray := prog_6_method_6_code
def yX4_take : MethodName := ⟨RX4, "take", "(LRegisterGateway$Frame;I)LRegisterGateway$Reply;"⟩
abbrev cX4_earliest : ByteArray := prog_6_method_7_code
def yX4_earliest : MethodName := ⟨RX4, "earliest", "(I)I"⟩
def RX5 : String := "RegisterGateway$Listener"
def TX5 : u_T := fun k => match k with
  | 0 => ("RegisterGateway$Listener", "verdicts", "[I", true)
  | 1 => ("RegisterGateway$Listener", "sizes", "[I", true)
  | 2 => ("RegisterGateway$Listener", "ended", "I", false)
  | 3 => ("RegisterGateway$Listener", "size", "I", false)
  | 4 => ("RegisterGateway$Listener", "sum", "I", false)
  | _ => ("RegisterGateway$Listener", "broken", "Z", false)
def tyX5 : Nat → FieldType := fun k => match k with
  | 0 => .array .int
  | 1 => .array .int
  | 2 => .int
  | 3 => .int
  | 4 => .int
  | _ => .boolean
abbrev wsX50 : List Cond := u_ws RX5 TX5 6
theorem nmX5 : ∀ a, a < 6 → ∀ b, b < 6 → a ≠ b → (TX5 a).2.1 ≠ (TX5 b).2.1 := by decide +kernel
theorem tyX5_ok : ∀ k, k < 6 → parseFieldDescriptor (TX5 k).2.2.1 = some (tyX5 k) := by decide +kernel
abbrev cX5_init : ByteArray := prog_7_method_1_code
def yX5_init : MethodName := ⟨RX5, "<init>", "()V"⟩
abbrev cX5_hear : ByteArray := prog_7_method_2_code
def yX5_hear : MethodName := ⟨RX5, "hear", "(II)V"⟩
abbrev cX5_close : ByteArray := prog_7_method_3_code
def yX5_close : MethodName := ⟨RX5, "close", "()V"⟩
abbrev cX5_judge : ByteArray := prog_7_method_4_code
def yX5_judge : MethodName := ⟨RX5, "judge", "()I"⟩
abbrev cX5_isKept : ByteArray := prog_7_method_5_code
def yX5_isKept : MethodName := ⟨RX5, "isKept", "(I)Z"⟩
abbrev cX5_placeOf : ByteArray := prog_7_method_6_code
def yX5_placeOf : MethodName := ⟨RX5, "placeOf", "(I)I"⟩
def RX6 : String := "RegisterGateway$Queue"
def TX6 : u_T := fun k => match k with
  | 0 => ("RegisterGateway$Queue", "requests", "Ljava/util/ArrayList;", true)
  | 1 => ("RegisterGateway$Queue", "members", "J", false)
  | 2 => ("RegisterGateway$Queue", "first", "I", false)
  | 3 => ("RegisterGateway$Queue", "device", "I", false)
  | 4 => ("RegisterGateway$Queue", "isWrite", "Z", false)
  | 5 => ("RegisterGateway$Queue", "start", "I", false)
  | _ => ("RegisterGateway$Queue", "end", "I", false)
def tyX6 : Nat → FieldType := fun k => match k with
  | 0 => .object "java/util/ArrayList"
  | 1 => .long
  | 2 => .int
  | 3 => .int
  | 4 => .boolean
  | 5 => .int
  | _ => .int
abbrev wsX60 : List Cond := u_ws RX6 TX6 7
theorem nmX6 : ∀ a, a < 7 → ∀ b, b < 7 → a ≠ b → (TX6 a).2.1 ≠ (TX6 b).2.1 := by decide +kernel
theorem tyX6_ok : ∀ k, k < 7 → parseFieldDescriptor (TX6 k).2.2.1 = some (tyX6 k) := by decide +kernel
abbrev cX6_init : ByteArray := prog_8_method_1_code
def yX6_init : MethodName := ⟨RX6, "<init>", "()V"⟩
abbrev cX6_copyFrom : ByteArray := prog_8_method_2_code
def yX6_copyFrom : MethodName := ⟨RX6, "copyFrom", "(LRegisterGateway$Queue;)V"⟩
abbrev cX6_append : ByteArray := prog_8_method_3_code
def yX6_append : MethodName := ⟨RX6, "append", "(LRegisterGateway$Request;)I"⟩
abbrev cX6_countOf : ByteArray := prog_8_method_4_code
def yX6_countOf : MethodName := ⟨RX6, "countOf", "(II)I"⟩
abbrev cX6_isMember : ByteArray := prog_8_method_5_code
def yX6_isMember : MethodName := ⟨RX6, "isMember", "(I)Z"⟩
abbrev cX6_width : ByteArray := prog_8_method_6_code
def yX6_width : MethodName := ⟨RX6, "width", "()I"⟩
abbrev cX6_openGroup : ByteArray := prog_8_method_7_code
def yX6_openGroup : MethodName := ⟨RX6, "openGroup", "()LRegisterGateway$Request;"⟩
abbrev cX6_gather : ByteArray := prog_8_method_8_code
def yX6_gather : MethodName := ⟨RX6, "gather", "()V"⟩
abbrev cX6_fitsBeside : ByteArray := prog_8_method_9_code
def yX6_fitsBeside : MethodName := ⟨RX6, "fitsBeside", "(LRegisterGateway$Request;)Z"⟩
abbrev cX6_isBarred : ByteArray := prog_8_method_10_code
def yX6_isBarred : MethodName := ⟨RX6, "isBarred", "(ILRegisterGateway$Request;)Z"⟩
abbrev cX6_valueToWrite : ByteArray := prog_8_method_11_code
def yX6_valueToWrite : MethodName := ⟨RX6, "valueToWrite", "(I)I"⟩
def RX7 : String := "RegisterGateway$Reply"
def TX7 : u_T := fun k => match k with
  | 0 => ("RegisterGateway$Reply", "frame", "LRegisterGateway$Frame;", true)
  | 1 => ("RegisterGateway$Reply", "begin", "I", false)
  | _ => ("RegisterGateway$Reply", "cause", "I", false)
def tyX7 : Nat → FieldType := fun k => match k with
  | 0 => .object "RegisterGateway$Frame"
  | 1 => .int
  | _ => .int
abbrev wsX70 : List Cond := u_ws RX7 TX7 3
theorem nmX7 : ∀ a, a < 3 → ∀ b, b < 3 → a ≠ b → (TX7 a).2.1 ≠ (TX7 b).2.1 := by decide +kernel
theorem tyX7_ok : ∀ k, k < 3 → parseFieldDescriptor (TX7 k).2.2.1 = some (tyX7 k) := by decide +kernel
abbrev cX7_init : ByteArray := prog_9_method_1_code
def yX7_init : MethodName := ⟨RX7, "<init>", "()V"⟩
abbrev cX7_copyFrom : ByteArray := prog_9_method_2_code
def yX7_copyFrom : MethodName := ⟨RX7, "copyFrom", "(LRegisterGateway$Reply;)V"⟩
def RX8 : String := "RegisterGateway$Request"
def TX8 : u_T := fun k => match k with
  | 0 => ("RegisterGateway$Request", "client", "I", true)
  | 1 => ("RegisterGateway$Request", "device", "I", true)
  | 2 => ("RegisterGateway$Request", "start", "I", true)
  | 3 => ("RegisterGateway$Request", "count", "I", true)
  | 4 => ("RegisterGateway$Request", "end", "I", true)
  | 5 => ("RegisterGateway$Request", "isWrite", "Z", true)
  | 6 => ("RegisterGateway$Request", "values", "[I", true)
  | 7 => ("RegisterGateway$Request", "state", "I", false)
  | 8 => ("RegisterGateway$Request", "code", "I", false)
  | 9 => ("RegisterGateway$Request", "endTime", "I", false)
  | _ => ("RegisterGateway$Request", "fromCache", "Z", false)
def tyX8 : Nat → FieldType := fun k => match k with
  | 0 => .int
  | 1 => .int
  | 2 => .int
  | 3 => .int
  | 4 => .int
  | 5 => .boolean
  | 6 => .array .int
  | 7 => .int
  | 8 => .int
  | 9 => .int
  | _ => .boolean
abbrev wsX80 : List Cond := u_ws RX8 TX8 11
theorem nmX8 : ∀ a, a < 11 → ∀ b, b < 11 → a ≠ b → (TX8 a).2.1 ≠ (TX8 b).2.1 := by decide +kernel
theorem tyX8_ok : ∀ k, k < 11 → parseFieldDescriptor (TX8 k).2.2.1 = some (tyX8 k) := by decide +kernel
abbrev cX8_init : ByteArray := prog_10_method_1_code
def yX8_init : MethodName := ⟨RX8, "<init>", "(IIIIZ)V"⟩
abbrev cX8_isReadDone : ByteArray := prog_10_method_2_code
def yX8_isReadDone : MethodName := ⟨RX8, "isReadDone", "()Z"⟩
abbrev cX8_overlaps : ByteArray := prog_10_method_3_code
def yX8_overlaps : MethodName := ⟨RX8, "overlaps", "(LRegisterGateway$Request;)Z"⟩
abbrev cX8_settle : ByteArray := prog_10_method_4_code
def yX8_settle : MethodName := ⟨RX8, "settle", "(III)V"⟩
abbrev cX8_takeValues : ByteArray := prog_10_method_5_code
def yX8_takeValues : MethodName := ⟨RX8, "takeValues", "(LRegisterGateway$Frame;I)V"⟩
def RX9 : String := "RegisterGateway"
def TX9 : u_T := fun k => match k with
  | 0 => ("RegisterGateway", "core", "LRegisterGateway$Core;", true)
  | 1 => ("RegisterGateway", "listener", "LRegisterGateway$Listener;", true)
  | _ => ("RegisterGateway", "trial", "LRegisterGateway$Core;", false)
def tyX9 : Nat → FieldType := fun k => match k with
  | 0 => .object "RegisterGateway$Core"
  | 1 => .object "RegisterGateway$Listener"
  | _ => .object "RegisterGateway$Core"
abbrev wsX90 : List Cond := u_ws RX9 TX9 3
theorem nmX9 : ∀ a, a < 3 → ∀ b, b < 3 → a ≠ b → (TX9 a).2.1 ≠ (TX9 b).2.1 := by decide +kernel
theorem tyX9_ok : ∀ k, k < 3 → parseFieldDescriptor (TX9 k).2.2.1 = some (tyX9 k) := by decide +kernel
abbrev cX9_init : ByteArray := prog_1_method_1_code
def yX9_init : MethodName := ⟨RX9, "<init>", "()V"⟩
abbrev cX9_set : ByteArray := prog_1_method_2_code
def yX9_set : MethodName := ⟨RX9, "set", "(II)I"⟩
abbrev cX9_setDevice : ByteArray := prog_1_method_3_code
def yX9_setDevice : MethodName := ⟨RX9, "setDevice", "(III)I"⟩
abbrev cX9_poke : ByteArray := prog_1_method_4_code
def yX9_poke : MethodName := ⟨RX9, "poke", "(III)I"⟩
abbrev cX9_peek : ByteArray := prog_1_method_5_code
def yX9_peek : MethodName := ⟨RX9, "peek", "(II)I"⟩
abbrev cX9_protect : ByteArray := prog_1_method_6_code
def yX9_protect : MethodName := ⟨RX9, "protect", "(IIZ)Z"⟩
abbrev cX9_fault : ByteArray := prog_1_method_7_code
def yX9_fault : MethodName := ⟨RX9, "fault", "(III)I"⟩
abbrev cX9_read : ByteArray := prog_1_method_8_code
def yX9_read : MethodName := ⟨RX9, "read", "(IIII)I"⟩
abbrev cX9_write : ByteArray := prog_1_method_9_code
def yX9_write : MethodName := ⟨RX9, "write", "(IIII)I"⟩
abbrev cX9_request : ByteArray := prog_1_method_10_code
def yX9_request : MethodName := ⟨RX9, "request", "(II)I"⟩
abbrev cX9_value : ByteArray := prog_1_method_11_code
def yX9_value : MethodName := ⟨RX9, "value", "(II)I"⟩
abbrev cX9_requests : ByteArray := prog_1_method_12_code
def yX9_requests : MethodName := ⟨RX9, "requests", "(I)I"⟩
abbrev cX9_requestsOf : ByteArray := prog_1_method_13_code
def yX9_requestsOf : MethodName := ⟨RX9, "requestsOf", "(II)I"⟩
abbrev cX9_step : ByteArray := prog_1_method_14_code
def yX9_step : MethodName := ⟨RX9, "step", "()I"⟩
abbrev cX9_finish : ByteArray := prog_1_method_15_code
def yX9_finish : MethodName := ⟨RX9, "finish", "()I"⟩
abbrev cX9_pass : ByteArray := prog_1_method_16_code
def yX9_pass : MethodName := ⟨RX9, "pass", "(I)I"⟩
abbrev cX9_time : ByteArray := prog_1_method_17_code
def yX9_time : MethodName := ⟨RX9, "time", "()I"⟩
abbrev cX9_group : ByteArray := prog_1_method_18_code
def yX9_group : MethodName := ⟨RX9, "group", "()J"⟩
abbrev cX9_frameByte : ByteArray := prog_1_method_19_code
def yX9_frameByte : MethodName := ⟨RX9, "frameByte", "(I)I"⟩
abbrev cX9_cacheAge : ByteArray := prog_1_method_20_code
def yX9_cacheAge : MethodName := ⟨RX9, "cacheAge", "(II)I"⟩
abbrev cX9_cached : ByteArray := prog_1_method_21_code
def yX9_cached : MethodName := ⟨RX9, "cached", "(II)I"⟩
abbrev cX9_clearCache : ByteArray := prog_1_method_22_code
def yX9_clearCache : MethodName := ⟨RX9, "clearCache", "()I"⟩
abbrev cX9_count : ByteArray := prog_1_method_23_code
def yX9_count : MethodName := ⟨RX9, "count", "(I)I"⟩
abbrev cX9_leastDrain : ByteArray := prog_1_method_24_code
def yX9_leastDrain : MethodName := ⟨RX9, "leastDrain", "(I)I"⟩
abbrev cX9_feed : ByteArray := prog_1_method_25_code
def yX9_feed : MethodName := ⟨RX9, "feed", "(II)I"⟩
abbrev cX9_endFrame : ByteArray := prog_1_method_26_code
def yX9_endFrame : MethodName := ⟨RX9, "endFrame", "()I"⟩
abbrev cX9_verdict : ByteArray := prog_1_method_27_code
def yX9_verdict : MethodName := ⟨RX9, "verdict", "(I)I"⟩
abbrev cX9_length : ByteArray := prog_1_method_28_code
def yX9_length : MethodName := ⟨RX9, "length", "(I)I"⟩
abbrev cX9_checksum : ByteArray := prog_1_method_29_code
def yX9_checksum : MethodName := ⟨RX9, "checksum", "()I"⟩
abbrev cX9_fingerprint : ByteArray := prog_1_method_30_code
def yX9_fingerprint : MethodName := ⟨RX9, "fingerprint", "()J"⟩
abbrev cX9_mix : ByteArray := prog_1_method_31_code
def yX9_mix : MethodName := ⟨RX9, "mix", "(JI)J"⟩
abbrev cX9_mixRequest : ByteArray := prog_1_method_32_code
def yX9_mixRequest : MethodName := ⟨RX9, "mixRequest", "(JLRegisterGateway$Request;)J"⟩
abbrev cX9_needInRange : ByteArray := prog_1_method_33_code
def yX9_needInRange : MethodName := ⟨RX9, "needInRange", "(III)V"⟩
abbrev cX9_needClient : ByteArray := prog_1_method_34_code
def yX9_needClient : MethodName := ⟨RX9, "needClient", "(I)V"⟩
abbrev cX9_needDevice : ByteArray := prog_1_method_35_code
def yX9_needDevice : MethodName := ⟨RX9, "needDevice", "(I)V"⟩
abbrev cX9_needRegister : ByteArray := prog_1_method_36_code
def yX9_needRegister : MethodName := ⟨RX9, "needRegister", "(II)V"⟩
abbrev cX9_needState : ByteArray := prog_1_method_37_code
def yX9_needState : MethodName := ⟨RX9, "needState", "(I)V"⟩
abbrev cX9_needHeardIndex : ByteArray := prog_1_method_38_code
def yX9_needHeardIndex : MethodName := ⟨RX9, "needHeardIndex", "(I)V"⟩
abbrev cX9_needRoomForRequest : ByteArray := prog_1_method_39_code
def yX9_needRoomForRequest : MethodName := ⟨RX9, "needRoomForRequest", "()V"⟩
abbrev cX9_neededRequest : ByteArray := prog_1_method_40_code
def yX9_neededRequest : MethodName := ⟨RX9, "neededRequest", "(I)LRegisterGateway$Request;"⟩
abbrev cX9_nextSum : ByteArray := prog_1_method_41_code
def yX9_nextSum : MethodName := ⟨RX9, "nextSum", "(II)I"⟩
def RX10 : String := "RegisterGatewayModel"
def TX10 : u_T := fun k => match k with
  | 0 => ("RegisterGatewayModel", "v", "[I", true)
  | 1 => ("RegisterGatewayModel", "aside", "[I", true)
  | 2 => ("RegisterGatewayModel", "thrown", "I", false)
  | 3 => ("RegisterGatewayModel", "members", "J", false)
  | 4 => ("RegisterGatewayModel", "first", "I", false)
  | 5 => ("RegisterGatewayModel", "low", "I", false)
  | 6 => ("RegisterGatewayModel", "high", "I", false)
  | 7 => ("RegisterGatewayModel", "isWrite", "Z", false)
  | 8 => ("RegisterGatewayModel", "device", "I", false)
  | 9 => ("RegisterGatewayModel", "frame", "[I", true)
  | 10 => ("RegisterGatewayModel", "length", "I", false)
  | 11 => ("RegisterGatewayModel", "written", "[I", true)
  | 12 => ("RegisterGatewayModel", "taken", "[I", true)
  | 13 => ("RegisterGatewayModel", "hears", "I", false)
  | 14 => ("RegisterGatewayModel", "isBroken", "Z", false)
  | 15 => ("RegisterGatewayModel", "running", "I", false)
  | 16 => ("RegisterGatewayModel", "verdicts", "[I", true)
  | 17 => ("RegisterGatewayModel", "lengths", "[I", true)
  | _ => ("RegisterGatewayModel", "ended", "I", false)
def tyX10 : Nat → FieldType := fun k => match k with
  | 0 => .array .int
  | 1 => .array .int
  | 2 => .int
  | 3 => .long
  | 4 => .int
  | 5 => .int
  | 6 => .int
  | 7 => .boolean
  | 8 => .int
  | 9 => .array .int
  | 10 => .int
  | 11 => .array .int
  | 12 => .array .int
  | 13 => .int
  | 14 => .boolean
  | 15 => .int
  | 16 => .array .int
  | 17 => .array .int
  | _ => .int
abbrev wsX100 : List Cond := u_ws RX10 TX10 19
theorem nmX10 : ∀ a, a < 19 → ∀ b, b < 19 → a ≠ b → (TX10 a).2.1 ≠ (TX10 b).2.1 := by decide +kernel
theorem tyX10_ok : ∀ k, k < 19 → parseFieldDescriptor (TX10 k).2.2.1 = some (tyX10 k) := by decide +kernel
abbrev cX10_init : ByteArray := prog_12_method_1_code
def yX10_init : MethodName := ⟨RX10, "<init>", "()V"⟩
abbrev cX10_thrown : ByteArray := prog_12_method_2_code
def yX10_thrown : MethodName := ⟨RX10, "thrown", "()I"⟩
abbrev cX10_in : ByteArray := prog_12_method_3_code
def yX10_in : MethodName := ⟨RX10, "in", "(III)Z"⟩
abbrev cX10_fails : ByteArray := prog_12_method_4_code
def yX10_fails : MethodName := ⟨RX10, "fails", "(I)I"⟩
abbrev cX10_sets : ByteArray := prog_12_method_5_code
def yX10_sets : MethodName := ⟨RX10, "sets", "(II)I"⟩
abbrev cX10_registerAt : ByteArray := prog_12_method_6_code
def yX10_registerAt : MethodName := ⟨RX10, "registerAt", "(II)I"⟩
abbrev cX10_isRegister : ByteArray := prog_12_method_7_code
def yX10_isRegister : MethodName := ⟨RX10, "isRegister", "(II)Z"⟩
abbrev cX10_set : ByteArray := prog_12_method_8_code
def yX10_set : MethodName := ⟨RX10, "set", "(II)I"⟩
abbrev cX10_setDevice : ByteArray := prog_12_method_9_code
def yX10_setDevice : MethodName := ⟨RX10, "setDevice", "(III)I"⟩
abbrev cX10_poke : ByteArray := prog_12_method_10_code
def yX10_poke : MethodName := ⟨RX10, "poke", "(III)I"⟩
abbrev cX10_peek : ByteArray := prog_12_method_11_code
def yX10_peek : MethodName := ⟨RX10, "peek", "(II)I"⟩
abbrev cX10_protect : ByteArray := prog_12_method_12_code
def yX10_protect : MethodName := ⟨RX10, "protect", "(IIZ)Z"⟩
abbrev cX10_faults : ByteArray := prog_12_method_13_code
def yX10_faults : MethodName := ⟨RX10, "faults", "(I)I"⟩
abbrev cX10_fault : ByteArray := prog_12_method_14_code
def yX10_fault : MethodName := ⟨RX10, "fault", "(III)I"⟩
abbrev cX10_requestAt : ByteArray := prog_12_method_15_code
def yX10_requestAt : MethodName := ⟨RX10, "requestAt", "(I)I"⟩
abbrev cX10_isRequest : ByteArray := prog_12_method_16_code
def yX10_isRequest : MethodName := ⟨RX10, "isRequest", "(I)Z"⟩
abbrev cX10_makes : ByteArray := prog_12_method_17_code
def yX10_makes : MethodName := ⟨RX10, "makes", "(IIIIZI)I"⟩
abbrev cX10_asks : ByteArray := prog_12_method_18_code
def yX10_asks : MethodName := ⟨RX10, "asks", "(IIZ)I"⟩
abbrev cX10_read : ByteArray := prog_12_method_19_code
def yX10_read : MethodName := ⟨RX10, "read", "(IIII)I"⟩
abbrev cX10_write : ByteArray := prog_12_method_20_code
def yX10_write : MethodName := ⟨RX10, "write", "(IIII)I"⟩
abbrev cX10_request : ByteArray := prog_12_method_21_code
def yX10_request : MethodName := ⟨RX10, "request", "(II)I"⟩
abbrev cX10_value : ByteArray := prog_12_method_22_code
def yX10_value : MethodName := ⟨RX10, "value", "(II)I"⟩
abbrev cX10_countIn : ByteArray := prog_12_method_23_code
def yX10_countIn : MethodName := ⟨RX10, "countIn", "(II)I"⟩
abbrev cX10_requests : ByteArray := prog_12_method_24_code
def yX10_requests : MethodName := ⟨RX10, "requests", "(I)I"⟩
abbrev cX10_requestsOf : ByteArray := prog_12_method_25_code
def yX10_requestsOf : MethodName := ⟨RX10, "requestsOf", "(II)I"⟩
abbrev cX10_cacheAt : ByteArray := prog_12_method_26_code
def yX10_cacheAt : MethodName := ⟨RX10, "cacheAt", "(II)I"⟩
abbrev cX10_isFresh : ByteArray := prog_12_method_27_code
def yX10_isFresh : MethodName := ⟨RX10, "isFresh", "(II)Z"⟩
abbrev cX10_isWaiting : ByteArray := prog_12_method_28_code
def yX10_isWaiting : MethodName := ⟨RX10, "isWaiting", "(I)Z"⟩
abbrev cX10_end : ByteArray := prog_12_method_29_code
def yX10_end : MethodName := ⟨RX10, "end", "(I)I"⟩
abbrev cX10_overlap : ByteArray := prog_12_method_30_code
def yX10_overlap : MethodName := ⟨RX10, "overlap", "(II)Z"⟩
abbrev cX10_firstWaiting : ByteArray := prog_12_method_31_code
def yX10_firstWaiting : MethodName := ⟨RX10, "firstWaiting", "()I"⟩
abbrev cX10_isCached : ByteArray := prog_12_method_32_code
def yX10_isCached : MethodName := ⟨RX10, "isCached", "(I)Z"⟩
abbrev cX10_isHeldBack : ByteArray := prog_12_method_33_code
def yX10_isHeldBack : MethodName := ⟨RX10, "isHeldBack", "(I)Z"⟩
abbrev cX10_gathers : ByteArray := prog_12_method_34_code
def yX10_gathers : MethodName := ⟨RX10, "gathers", "(I)V"⟩
abbrev cX10_stirred : ByteArray := prog_12_method_35_code
def yX10_stirred : MethodName := ⟨RX10, "stirred", "(II)I"⟩
abbrev cX10_puts : ByteArray := prog_12_method_36_code
def yX10_puts : MethodName := ⟨RX10, "puts", "(I)V"⟩
abbrev cX10_putsWord : ByteArray := prog_12_method_37_code
def yX10_putsWord : MethodName := ⟨RX10, "putsWord", "(I)V"⟩
abbrev cX10_seals : ByteArray := prog_12_method_38_code
def yX10_seals : MethodName := ⟨RX10, "seals", "()V"⟩
abbrev cX10_function : ByteArray := prog_12_method_39_code
def yX10_function : MethodName := ⟨RX10, "function", "()I"⟩
abbrev cX10_frames : ByteArray := prog_12_method_40_code
def yX10_frames : MethodName := ⟨RX10, "frames", "()V"⟩
abbrev cX10_code : ByteArray := prog_12_method_41_code
def yX10_code : MethodName := ⟨RX10, "code", "()I"⟩
abbrev cX10_repliesWith : ByteArray := prog_12_method_42_code
def yX10_repliesWith : MethodName := ⟨RX10, "repliesWith", "(I)V"⟩
abbrev cX10_does : ByteArray := prog_12_method_43_code
def yX10_does : MethodName := ⟨RX10, "does", "()V"⟩
abbrev cX10_gets : ByteArray := prog_12_method_44_code
def yX10_gets : MethodName := ⟨RX10, "gets", "()V"⟩
abbrev cX10_goes : ByteArray := prog_12_method_45_code
def yX10_goes : MethodName := ⟨RX10, "goes", "(I)V"⟩
abbrev cX10_earliest : ByteArray := prog_12_method_46_code
def yX10_earliest : MethodName := ⟨RX10, "earliest", "(II)I"⟩
abbrev cX10_fits : ByteArray := prog_12_method_47_code
def yX10_fits : MethodName := ⟨RX10, "fits", "(I)Z"⟩
abbrev cX10_attempts : ByteArray := prog_12_method_48_code
def yX10_attempts : MethodName := ⟨RX10, "attempts", "()Z"⟩
abbrev cX10_tries : ByteArray := prog_12_method_49_code
def yX10_tries : MethodName := ⟨RX10, "tries", "()Z"⟩
abbrev cX10_caches : ByteArray := prog_12_method_50_code
def yX10_caches : MethodName := ⟨RX10, "caches", "(II)V"⟩
abbrev cX10_ends : ByteArray := prog_12_method_51_code
def yX10_ends : MethodName := ⟨RX10, "ends", "(III)V"⟩
abbrev cX10_byCache : ByteArray := prog_12_method_52_code
def yX10_byCache : MethodName := ⟨RX10, "byCache", "(I)I"⟩
abbrev cX10_word : ByteArray := prog_12_method_53_code
def yX10_word : MethodName := ⟨RX10, "word", "(I)I"⟩
abbrev cX10_settles : ByteArray := prog_12_method_54_code
def yX10_settles : MethodName := ⟨RX10, "settles", "(I)I"⟩
abbrev cX10_steps : ByteArray := prog_12_method_55_code
def yX10_steps : MethodName := ⟨RX10, "steps", "()I"⟩
abbrev cX10_step : ByteArray := prog_12_method_56_code
def yX10_step : MethodName := ⟨RX10, "step", "()I"⟩
abbrev cX10_stepsAll : ByteArray := prog_12_method_57_code
def yX10_stepsAll : MethodName := ⟨RX10, "stepsAll", "()V"⟩
abbrev cX10_finish : ByteArray := prog_12_method_58_code
def yX10_finish : MethodName := ⟨RX10, "finish", "()I"⟩
abbrev cX10_pass : ByteArray := prog_12_method_59_code
def yX10_pass : MethodName := ⟨RX10, "pass", "(I)I"⟩
abbrev cX10_time : ByteArray := prog_12_method_60_code
def yX10_time : MethodName := ⟨RX10, "time", "()I"⟩
abbrev cX10_group : ByteArray := prog_12_method_61_code
def yX10_group : MethodName := ⟨RX10, "group", "()J"⟩
abbrev cX10_frameByte : ByteArray := prog_12_method_62_code
def yX10_frameByte : MethodName := ⟨RX10, "frameByte", "(I)I"⟩
abbrev cX10_cacheAge : ByteArray := prog_12_method_63_code
def yX10_cacheAge : MethodName := ⟨RX10, "cacheAge", "(II)I"⟩
abbrev cX10_cachedAt : ByteArray := prog_12_method_64_code
def yX10_cachedAt : MethodName := ⟨RX10, "cachedAt", "(II)I"⟩
abbrev cX10_cached : ByteArray := prog_12_method_65_code
def yX10_cached : MethodName := ⟨RX10, "cached", "(II)I"⟩
abbrev cX10_clearCache : ByteArray := prog_12_method_66_code
def yX10_clearCache : MethodName := ⟨RX10, "clearCache", "()I"⟩
abbrev cX10_count : ByteArray := prog_12_method_67_code
def yX10_count : MethodName := ⟨RX10, "count", "(I)I"⟩
abbrev cX10_copies : ByteArray := prog_12_method_68_code
def yX10_copies : MethodName := ⟨RX10, "copies", "([I[I)V"⟩
abbrev cX10_leastDrain : ByteArray := prog_12_method_69_code
def yX10_leastDrain : MethodName := ⟨RX10, "leastDrain", "(I)I"⟩
abbrev cX10_endsFrame : ByteArray := prog_12_method_70_code
def yX10_endsFrame : MethodName := ⟨RX10, "endsFrame", "()V"⟩
abbrev cX10_feed : ByteArray := prog_12_method_71_code
def yX10_feed : MethodName := ⟨RX10, "feed", "(II)I"⟩
abbrev cX10_endFrame : ByteArray := prog_12_method_72_code
def yX10_endFrame : MethodName := ⟨RX10, "endFrame", "()I"⟩
abbrev cX10_isKept : ByteArray := prog_12_method_73_code
def yX10_isKept : MethodName := ⟨RX10, "isKept", "(I)Z"⟩
abbrev cX10_verdict : ByteArray := prog_12_method_74_code
def yX10_verdict : MethodName := ⟨RX10, "verdict", "(I)I"⟩
abbrev cX10_length : ByteArray := prog_12_method_75_code
def yX10_length : MethodName := ⟨RX10, "length", "(I)I"⟩
abbrev cX10_checksum : ByteArray := prog_12_method_76_code
def yX10_checksum : MethodName := ⟨RX10, "checksum", "()I"⟩
abbrev cX10_fingerprint : ByteArray := prog_12_method_77_code
def yX10_fingerprint : MethodName := ⟨RX10, "fingerprint", "()J"⟩
def RJx145de : String := "java/io/Serializable"
def TJx145de : u_T := fun k => match k with
  | _ => ("", "", "", false)
def tyJx145de : Nat → FieldType := fun k => match k with
  | _ => .int
abbrev wsJx145de0 : List Cond := u_ws RJx145de TJx145de 0
theorem nmJx145de : ∀ a, a < 0 → ∀ b, b < 0 → a ≠ b → (TJx145de a).2.1 ≠ (TJx145de b).2.1 := by decide +kernel
theorem tyJx145de_ok : ∀ k, k < 0 → parseFieldDescriptor (TJx145de k).2.2.1 = some (tyJx145de k) := by decide +kernel
def RJx8e188 : String := "java/lang/Cloneable"
def TJx8e188 : u_T := fun k => match k with
  | _ => ("", "", "", false)
def tyJx8e188 : Nat → FieldType := fun k => match k with
  | _ => .int
abbrev wsJx8e1880 : List Cond := u_ws RJx8e188 TJx8e188 0
theorem nmJx8e188 : ∀ a, a < 0 → ∀ b, b < 0 → a ≠ b → (TJx8e188 a).2.1 ≠ (TJx8e188 b).2.1 := by decide +kernel
theorem tyJx8e188_ok : ∀ k, k < 0 → parseFieldDescriptor (TJx8e188 k).2.2.1 = some (tyJx8e188 k) := by decide +kernel
def RJxab1ab : String := "java/lang/Iterable"
def TJxab1ab : u_T := fun k => match k with
  | _ => ("", "", "", false)
def tyJxab1ab : Nat → FieldType := fun k => match k with
  | _ => .int
abbrev wsJxab1ab0 : List Cond := u_ws RJxab1ab TJxab1ab 0
theorem nmJxab1ab : ∀ a, a < 0 → ∀ b, b < 0 → a ≠ b → (TJxab1ab a).2.1 ≠ (TJxab1ab b).2.1 := by decide +kernel
theorem tyJxab1ab_ok : ∀ k, k < 0 → parseFieldDescriptor (TJxab1ab k).2.2.1 = some (tyJxab1ab k) := by decide +kernel
def RJ13 : String := "java/lang/Long"
def TJ13 : u_T := fun k => match k with
  | _ => ("", "", "", false)
def tyJ13 : Nat → FieldType := fun k => match k with
  | _ => .int
abbrev wsJ130 : List Cond := u_ws RJ13 TJ13 0
theorem nmJ13 : ∀ a, a < 0 → ∀ b, b < 0 → a ≠ b → (TJ13 a).2.1 ≠ (TJ13 b).2.1 := by decide +kernel
theorem tyJ13_ok : ∀ k, k < 0 → parseFieldDescriptor (TJ13 k).2.2.1 = some (tyJ13 k) := by decide +kernel
abbrev cJ13_bitCount_95d88 : ByteArray := prog_20_method_50_code
def yJ13_bitCount_95d88 : MethodName := ⟨RJ13, "bitCount", "(J)I"⟩
def RJ9 : String := "java/lang/Math"
def TJ9 : u_T := fun k => match k with
  | _ => ("", "", "", false)
def tyJ9 : Nat → FieldType := fun k => match k with
  | _ => .int
abbrev wsJ90 : List Cond := u_ws RJ9 TJ9 0
theorem nmJ9 : ∀ a, a < 0 → ∀ b, b < 0 → a ≠ b → (TJ9 a).2.1 ≠ (TJ9 b).2.1 := by decide +kernel
theorem tyJ9_ok : ∀ k, k < 0 → parseFieldDescriptor (TJ9 k).2.2.1 = some (tyJ9 k) := by decide +kernel
abbrev cJ9_floorMod_7cf53 : ByteArray := prog_21_method_50_code
def yJ9_floorMod_7cf53 : MethodName := ⟨RJ9, "floorMod", "(II)I"⟩
abbrev cJ9_max_7cf53 : ByteArray := prog_21_method_65_code
def yJ9_max_7cf53 : MethodName := ⟨RJ9, "max", "(II)I"⟩
abbrev cJ9_min_7cf53 : ByteArray := prog_21_method_69_code
def yJ9_min_7cf53 : MethodName := ⟨RJ9, "min", "(II)I"⟩
def RJ0 : String := "java/lang/String"
def TJ0 : u_T := fun k => match k with
  | _ => ("", "", "", false)
def tyJ0 : Nat → FieldType := fun k => match k with
  | _ => .int
abbrev wsJ00 : List Cond := u_ws RJ0 TJ0 0
theorem nmJ0 : ∀ a, a < 0 → ∀ b, b < 0 → a ≠ b → (TJ0 a).2.1 ≠ (TJ0 b).2.1 := by decide +kernel
theorem tyJ0_ok : ∀ k, k < 0 → parseFieldDescriptor (TJ0 k).2.2.1 = some (tyJ0 k) := by decide +kernel
def RJ10 : String := "java/lang/System"
def TJ10 : u_T := fun k => match k with
  | _ => ("", "", "", false)
def tyJ10 : Nat → FieldType := fun k => match k with
  | _ => .int
abbrev wsJ100 : List Cond := u_ws RJ10 TJ10 0
theorem nmJ10 : ∀ a, a < 0 → ∀ b, b < 0 → a ≠ b → (TJ10 a).2.1 ≠ (TJ10 b).2.1 := by decide +kernel
theorem tyJ10_ok : ∀ k, k < 0 → parseFieldDescriptor (TJ10 k).2.2.1 = some (tyJ10 k) := by decide +kernel
def RJxa1e45 : String := "java/util/AbstractCollection"
def TJxa1e45 : u_T := fun k => match k with
  | _ => ("", "", "", false)
def tyJxa1e45 : Nat → FieldType := fun k => match k with
  | _ => .int
abbrev wsJxa1e450 : List Cond := u_ws RJxa1e45 TJxa1e45 0
theorem nmJxa1e45 : ∀ a, a < 0 → ∀ b, b < 0 → a ≠ b → (TJxa1e45 a).2.1 ≠ (TJxa1e45 b).2.1 := by decide +kernel
theorem tyJxa1e45_ok : ∀ k, k < 0 → parseFieldDescriptor (TJxa1e45 k).2.2.1 = some (tyJxa1e45 k) := by decide +kernel
abbrev cJxa1e45_init_da8c8 : ByteArray := prog_26_method_1_code
def yJxa1e45_init_da8c8 : MethodName := ⟨RJxa1e45, "<init>", "()V"⟩
def RJxc12de : String := "java/util/AbstractList"
def TJxc12de : u_T := fun k => match k with
  | _ => ("", "", "", false)
def tyJxc12de : Nat → FieldType := fun k => match k with
  | _ => .int
abbrev wsJxc12de0 : List Cond := u_ws RJxc12de TJxc12de 0
theorem nmJxc12de : ∀ a, a < 0 → ∀ b, b < 0 → a ≠ b → (TJxc12de a).2.1 ≠ (TJxc12de b).2.1 := by decide +kernel
theorem tyJxc12de_ok : ∀ k, k < 0 → parseFieldDescriptor (TJxc12de k).2.2.1 = some (tyJxc12de k) := by decide +kernel
abbrev cJxc12de_init_da8c8 : ByteArray := prog_27_method_1_code
def yJxc12de_init_da8c8 : MethodName := ⟨RJxc12de, "<init>", "()V"⟩
def RJx4a65c : String := "java/util/ArrayList"
def TJx4a65c : u_T := fun k => match k with
  | 0 => ("java/util/AbstractList", "modCount", "I", false)
  | 1 => ("java/util/ArrayList", "elementData", "[Ljava/lang/Object;", false)
  | _ => ("java/util/ArrayList", "size", "I", false)
def tyJx4a65c : Nat → FieldType := fun k => match k with
  | 0 => .int
  | 1 => .array (.object "java/lang/Object")
  | _ => .int
abbrev wsJx4a65c0 : List Cond := u_ws RJx4a65c TJx4a65c 3
theorem nmJx4a65c : ∀ a, a < 3 → ∀ b, b < 3 → a ≠ b → (TJx4a65c a).2.1 ≠ (TJx4a65c b).2.1 := by decide +kernel
theorem tyJx4a65c_ok : ∀ k, k < 3 → parseFieldDescriptor (TJx4a65c k).2.2.1 = some (tyJx4a65c k) := by decide +kernel
abbrev cJx4a65c_init_da8c8 : ByteArray := prog_28_method_2_code
def yJx4a65c_init_da8c8 : MethodName := ⟨RJx4a65c, "<init>", "()V"⟩
abbrev cJx4a65c_grow_92f84 : ByteArray := prog_28_method_6_code
def yJx4a65c_grow_92f84 : MethodName := ⟨RJx4a65c, "grow", "(I)[Ljava/lang/Object;"⟩
abbrev cJx4a65c_grow_d5877 : ByteArray := prog_28_method_7_code
def yJx4a65c_grow_d5877 : MethodName := ⟨RJx4a65c, "grow", "()[Ljava/lang/Object;"⟩
abbrev cJx4a65c_size_8abf5 : ByteArray := prog_28_method_8_code
def yJx4a65c_size_8abf5 : MethodName := ⟨RJx4a65c, "size", "()I"⟩
abbrev cJx4a65c_isEmpty_aae02 : ByteArray := prog_28_method_9_code
def yJx4a65c_isEmpty_aae02 : MethodName := ⟨RJx4a65c, "isEmpty", "()Z"⟩
abbrev cJx4a65c_elementData_915e3 : ByteArray := prog_28_method_18_code
def yJx4a65c_elementData_915e3 : MethodName := ⟨RJx4a65c, "elementData", "(I)Ljava/lang/Object;"⟩
abbrev cJx4a65c_get_915e3 : ByteArray := prog_28_method_20_code
def yJx4a65c_get_915e3 : MethodName := ⟨RJx4a65c, "get", "(I)Ljava/lang/Object;"⟩
abbrev cJx4a65c_add_72be8 : ByteArray := prog_28_method_24_code
def yJx4a65c_add_72be8 : MethodName := ⟨RJx4a65c, "add", "(Ljava/lang/Object;[Ljava/lang/Object;I)V"⟩
abbrev cJx4a65c_add_9ea2d : ByteArray := prog_28_method_25_code
def yJx4a65c_add_9ea2d : MethodName := ⟨RJx4a65c, "add", "(Ljava/lang/Object;)Z"⟩
abbrev cJx4a65c_remove_915e3 : ByteArray := prog_28_method_29_code
def yJx4a65c_remove_915e3 : MethodName := ⟨RJx4a65c, "remove", "(I)Ljava/lang/Object;"⟩
abbrev cJx4a65c_fastRemove_b59b0 : ByteArray := prog_28_method_39_code
def yJx4a65c_fastRemove_b59b0 : MethodName := ⟨RJx4a65c, "fastRemove", "([Ljava/lang/Object;I)V"⟩
def RJ7 : String := "java/util/Arrays"
def TJ7 : u_T := fun k => match k with
  | _ => ("", "", "", false)
def tyJ7 : Nat → FieldType := fun k => match k with
  | _ => .int
abbrev wsJ70 : List Cond := u_ws RJ7 TJ7 0
theorem nmJ7 : ∀ a, a < 0 → ∀ b, b < 0 → a ≠ b → (TJ7 a).2.1 ≠ (TJ7 b).2.1 := by decide +kernel
theorem tyJ7_ok : ∀ k, k < 0 → parseFieldDescriptor (TJ7 k).2.2.1 = some (tyJ7 k) := by decide +kernel
abbrev cJ7_fill_53178 : ByteArray := prog_29_method_103_code
def yJ7_fill_53178 : MethodName := ⟨RJ7, "fill", "([II)V"⟩
abbrev cJ7_copyOf_1904c : ByteArray := prog_29_method_119_code
def yJ7_copyOf_1904c : MethodName := ⟨RJ7, "copyOf", "([Ljava/lang/Object;I)[Ljava/lang/Object;"⟩
abbrev cJ7_copyOf_6403c : ByteArray := prog_29_method_120_code
def yJ7_copyOf_6403c : MethodName := ⟨RJ7, "copyOf", "([Ljava/lang/Object;ILjava/lang/Class;)[Ljava/lang/Object;"⟩
def RJx5ef63 : String := "java/util/Collection"
def TJx5ef63 : u_T := fun k => match k with
  | _ => ("", "", "", false)
def tyJx5ef63 : Nat → FieldType := fun k => match k with
  | _ => .int
abbrev wsJx5ef630 : List Cond := u_ws RJx5ef63 TJx5ef63 0
theorem nmJx5ef63 : ∀ a, a < 0 → ∀ b, b < 0 → a ≠ b → (TJx5ef63 a).2.1 ≠ (TJx5ef63 b).2.1 := by decide +kernel
theorem tyJx5ef63_ok : ∀ k, k < 0 → parseFieldDescriptor (TJx5ef63 k).2.2.1 = some (tyJx5ef63 k) := by decide +kernel
def RJxbd725 : String := "java/util/List"
def TJxbd725 : u_T := fun k => match k with
  | _ => ("", "", "", false)
def tyJxbd725 : Nat → FieldType := fun k => match k with
  | _ => .int
abbrev wsJxbd7250 : List Cond := u_ws RJxbd725 TJxbd725 0
theorem nmJxbd725 : ∀ a, a < 0 → ∀ b, b < 0 → a ≠ b → (TJxbd725 a).2.1 ≠ (TJxbd725 b).2.1 := by decide +kernel
theorem tyJxbd725_ok : ∀ k, k < 0 → parseFieldDescriptor (TJxbd725 k).2.2.1 = some (tyJxbd725 k) := by decide +kernel
def RJ15 : String := "java/util/Objects"
def TJ15 : u_T := fun k => match k with
  | _ => ("", "", "", false)
def tyJ15 : Nat → FieldType := fun k => match k with
  | _ => .int
abbrev wsJ150 : List Cond := u_ws RJ15 TJ15 0
theorem nmJ15 : ∀ a, a < 0 → ∀ b, b < 0 → a ≠ b → (TJ15 a).2.1 ≠ (TJ15 b).2.1 := by decide +kernel
theorem tyJ15_ok : ∀ k, k < 0 → parseFieldDescriptor (TJ15 k).2.2.1 = some (tyJ15 k) := by decide +kernel
abbrev cJ15_checkIndex_7cf53 : ByteArray := prog_32_method_17_code
def yJ15_checkIndex_7cf53 : MethodName := ⟨RJ15, "checkIndex", "(II)I"⟩
def RJxf0a74 : String := "java/util/RandomAccess"
def TJxf0a74 : u_T := fun k => match k with
  | _ => ("", "", "", false)
def tyJxf0a74 : Nat → FieldType := fun k => match k with
  | _ => .int
abbrev wsJxf0a740 : List Cond := u_ws RJxf0a74 TJxf0a74 0
theorem nmJxf0a74 : ∀ a, a < 0 → ∀ b, b < 0 → a ≠ b → (TJxf0a74 a).2.1 ≠ (TJxf0a74 b).2.1 := by decide +kernel
theorem tyJxf0a74_ok : ∀ k, k < 0 → parseFieldDescriptor (TJxf0a74 k).2.2.1 = some (tyJxf0a74 k) := by decide +kernel
def RJxa66e6 : String := "java/util/SequencedCollection"
def TJxa66e6 : u_T := fun k => match k with
  | _ => ("", "", "", false)
def tyJxa66e6 : Nat → FieldType := fun k => match k with
  | _ => .int
abbrev wsJxa66e60 : List Cond := u_ws RJxa66e6 TJxa66e6 0
theorem nmJxa66e6 : ∀ a, a < 0 → ∀ b, b < 0 → a ≠ b → (TJxa66e6 a).2.1 ≠ (TJxa66e6 b).2.1 := by decide +kernel
theorem tyJxa66e6_ok : ∀ k, k < 0 → parseFieldDescriptor (TJxa66e6 k).2.2.1 = some (tyJxa66e6 k) := by decide +kernel
def RJ8 : String := "jdk/internal/util/ArraysSupport"
def TJ8 : u_T := fun k => match k with
  | _ => ("", "", "", false)
def tyJ8 : Nat → FieldType := fun k => match k with
  | _ => .int
abbrev wsJ80 : List Cond := u_ws RJ8 TJ8 0
theorem nmJ8 : ∀ a, a < 0 → ∀ b, b < 0 → a ≠ b → (TJ8 a).2.1 ≠ (TJ8 b).2.1 := by decide +kernel
theorem tyJ8_ok : ∀ k, k < 0 → parseFieldDescriptor (TJ8 k).2.2.1 = some (tyJ8 k) := by decide +kernel
abbrev cJ8_newLength_cabcc : ByteArray := prog_35_method_27_code
def yJ8_newLength_cabcc : MethodName := ⟨RJ8, "newLength", "(III)I"⟩
abbrev cJ8_hugeLength_7cf53 : ByteArray := prog_35_method_28_code
def yJ8_hugeLength_7cf53 : MethodName := ⟨RJ8, "hugeLength", "(II)I"⟩
def RJ3 : String := "jdk/internal/util/Preconditions"
def TJ3 : u_T := fun k => match k with
  | _ => ("", "", "", false)
def tyJ3 : Nat → FieldType := fun k => match k with
  | _ => .int
abbrev wsJ30 : List Cond := u_ws RJ3 TJ3 0
theorem nmJ3 : ∀ a, a < 0 → ∀ b, b < 0 → a ≠ b → (TJ3 a).2.1 ≠ (TJ3 b).2.1 := by decide +kernel
theorem tyJ3_ok : ∀ k, k < 0 → parseFieldDescriptor (TJ3 k).2.2.1 = some (tyJ3 k) := by decide +kernel
abbrev cJ3_checkIndex_8e157 : ByteArray := prog_36_method_11_code
def yJ3_checkIndex_8e157 : MethodName := ⟨RJ3, "checkIndex", "(IILjava/util/function/BiFunction;)I"⟩
def RL : String := "RegisterGatewayLaw"
abbrev cL_set : ByteArray := method_3_code
def yL_set : MethodName := ⟨RL, "set", "(LRegisterGateway;II[J)I"⟩
abbrev cL_setDevice : ByteArray := method_4_code
def yL_setDevice : MethodName := ⟨RL, "setDevice", "(LRegisterGateway;III[J)I"⟩
abbrev cL_poke : ByteArray := method_5_code
def yL_poke : MethodName := ⟨RL, "poke", "(LRegisterGateway;III[J)I"⟩
abbrev cL_peek : ByteArray := method_6_code
def yL_peek : MethodName := ⟨RL, "peek", "(LRegisterGateway;II[J)I"⟩
abbrev cL_protect : ByteArray := method_7_code
def yL_protect : MethodName := ⟨RL, "protect", "(LRegisterGateway;IIZ[J)I"⟩
abbrev cL_fault : ByteArray := method_8_code
def yL_fault : MethodName := ⟨RL, "fault", "(LRegisterGateway;III[J)I"⟩
abbrev cL_read : ByteArray := method_9_code
def yL_read : MethodName := ⟨RL, "read", "(LRegisterGateway;IIII[J)I"⟩
abbrev cL_write : ByteArray := method_10_code
def yL_write : MethodName := ⟨RL, "write", "(LRegisterGateway;IIII[J)I"⟩
abbrev cL_request : ByteArray := method_11_code
def yL_request : MethodName := ⟨RL, "request", "(LRegisterGateway;II[J)I"⟩
abbrev cL_value : ByteArray := method_12_code
def yL_value : MethodName := ⟨RL, "value", "(LRegisterGateway;II[J)I"⟩
abbrev cL_requests : ByteArray := method_13_code
def yL_requests : MethodName := ⟨RL, "requests", "(LRegisterGateway;I[J)I"⟩
abbrev cL_requestsOf : ByteArray := method_14_code
def yL_requestsOf : MethodName := ⟨RL, "requestsOf", "(LRegisterGateway;II[J)I"⟩
abbrev cL_pass : ByteArray := method_15_code
def yL_pass : MethodName := ⟨RL, "pass", "(LRegisterGateway;I[J)I"⟩
abbrev cL_frameByte : ByteArray := method_16_code
def yL_frameByte : MethodName := ⟨RL, "frameByte", "(LRegisterGateway;I[J)I"⟩
abbrev cL_cacheAge : ByteArray := method_17_code
def yL_cacheAge : MethodName := ⟨RL, "cacheAge", "(LRegisterGateway;II[J)I"⟩
abbrev cL_cached : ByteArray := method_18_code
def yL_cached : MethodName := ⟨RL, "cached", "(LRegisterGateway;II[J)I"⟩
abbrev cL_count : ByteArray := method_19_code
def yL_count : MethodName := ⟨RL, "count", "(LRegisterGateway;I[J)I"⟩
abbrev cL_leastDrain : ByteArray := method_20_code
def yL_leastDrain : MethodName := ⟨RL, "leastDrain", "(LRegisterGateway;I[J)I"⟩
abbrev cL_feed : ByteArray := method_21_code
def yL_feed : MethodName := ⟨RL, "feed", "(LRegisterGateway;II[J)I"⟩
abbrev cL_verdict : ByteArray := method_22_code
def yL_verdict : MethodName := ⟨RL, "verdict", "(LRegisterGateway;I[J)I"⟩
abbrev cL_length : ByteArray := method_23_code
def yL_length : MethodName := ⟨RL, "length", "(LRegisterGateway;I[J)I"⟩
abbrev cL_law : ByteArray := code
def yL_law : MethodName := ⟨RL, "law", "([I)Z"⟩
abbrev vwCl : List vw_C := [(RJx4a65c, TJx4a65c, 3), (RX0, TX0, 2), (RX1, TX1, 11), (RX2, TX2, 7), (RX3, TX3, 2), (RX4, TX4, 2), (RX5, TX5, 6), (RX6, TX6, 7), (RX7, TX7, 3), (RX8, TX8, 11), (RX9, TX9, 3), (RX10, TX10, 19)]

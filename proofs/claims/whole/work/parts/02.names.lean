def RX0 : String := "StarterBay$EventLog"
def TX0 : u_T := fun k => match k with
  | 0 => ("StarterBay$EventLog", "time", "[I", true)
  | 1 => ("StarterBay$EventLog", "motor", "[I", true)
  | 2 => ("StarterBay$EventLog", "kind", "[I", true)
  | _ => ("StarterBay$EventLog", "total", "I", false)
def tyX0 : Nat → FieldType := fun k => match k with
  | 0 => .array .int
  | 1 => .array .int
  | 2 => .array .int
  | _ => .int
abbrev wsX00 : List Cond := u_ws RX0 TX0 4
theorem nmX0 : ∀ a, a < 4 → ∀ b, b < 4 → a ≠ b → (TX0 a).2.1 ≠ (TX0 b).2.1 := by decide +kernel
theorem tyX0_ok : ∀ k, k < 4 → parseFieldDescriptor (TX0 k).2.2.1 = some (tyX0 k) := by decide +kernel
abbrev cX0_init : ByteArray := prog_2_method_1_code
def yX0_init : MethodName := ⟨RX0, "<init>", "()V"⟩
abbrev cX0_copyFrom : ByteArray := prog_2_method_2_code
def yX0_copyFrom : MethodName := ⟨RX0, "copyFrom", "(LStarterBay$EventLog;)V"⟩
abbrev cX0_add : ByteArray := prog_2_method_3_code
def yX0_add : MethodName := ⟨RX0, "add", "(III)V"⟩
abbrev cX0_tell : ByteArray := prog_2_method_4_code
def yX0_tell : MethodName := ⟨RX0, "tell", "(II)I"⟩
def RX1 : String := "StarterBay$History"
def TX1 : u_T := fun k => match k with
  | 0 => ("StarterBay$History", "states", "[LStarterBay$State;", true)
  | _ => ("StarterBay$History", "size", "I", false)
def tyX1 : Nat → FieldType := fun k => match k with
  | 0 => .array (.object "StarterBay$State")
  | _ => .int
abbrev wsX10 : List Cond := u_ws RX1 TX1 2
theorem nmX1 : ∀ a, a < 2 → ∀ b, b < 2 → a ≠ b → (TX1 a).2.1 ≠ (TX1 b).2.1 := by decide +kernel
theorem tyX1_ok : ∀ k, k < 2 → parseFieldDescriptor (TX1 k).2.2.1 = some (tyX1 k) := by decide +kernel
abbrev cX1_init : ByteArray := prog_3_method_1_code
def yX1_init : MethodName := ⟨RX1, "<init>", "()V"⟩
abbrev cX1_record : ByteArray := prog_3_method_2_code
def yX1_record : MethodName := ⟨RX1, "record", "(LStarterBay$State;)V"⟩
abbrev cX1_dropOldest : ByteArray := prog_3_method_3_code
def yX1_dropOldest : MethodName := ⟨RX1, "dropOldest", "()V"⟩
abbrev cX1_takeBack : ByteArray := prog_3_method_4_code
def yX1_takeBack : MethodName := ⟨RX1, "takeBack", "(LStarterBay$State;)Z"⟩
def RX2 : String := "StarterBay$Motor"
def TX2 : u_T := fun k => match k with
  | 0 => ("StarterBay$Motor", "number", "I", true)
  | 1 => ("StarterBay$Motor", "accounts", "[I", true)
  | 2 => ("StarterBay$Motor", "rated", "I", false)
  | 3 => ("StarterBay$Motor", "ramp", "I", false)
  | 4 => ("StarterBay$Motor", "factor", "I", false)
  | 5 => ("StarterBay$Motor", "limit", "I", false)
  | 6 => ("StarterBay$Motor", "heatToStart", "I", false)
  | 7 => ("StarterBay$Motor", "need", "I", false)
  | 8 => ("StarterBay$Motor", "mode", "I", false)
  | 9 => ("StarterBay$Motor", "heat", "I", false)
  | 10 => ("StarterBay$Motor", "lost", "I", false)
  | 11 => ("StarterBay$Motor", "rampSeconds", "I", false)
  | 12 => ("StarterBay$Motor", "requestedAt", "I", false)
  | 13 => ("StarterBay$Motor", "tripReason", "I", false)
  | _ => ("StarterBay$Motor", "lossSeconds", "I", false)
def tyX2 : Nat → FieldType := fun k => match k with
  | 0 => .int
  | 1 => .array .int
  | 2 => .int
  | 3 => .int
  | 4 => .int
  | 5 => .int
  | 6 => .int
  | 7 => .int
  | 8 => .int
  | 9 => .int
  | 10 => .int
  | 11 => .int
  | 12 => .int
  | 13 => .int
  | _ => .int
abbrev wsX20 : List Cond := u_ws RX2 TX2 15
theorem nmX2 : ∀ a, a < 15 → ∀ b, b < 15 → a ≠ b → (TX2 a).2.1 ≠ (TX2 b).2.1 := by decide +kernel
theorem tyX2_ok : ∀ k, k < 15 → parseFieldDescriptor (TX2 k).2.2.1 = some (tyX2 k) := by decide +kernel
abbrev cX2_init : ByteArray := prog_4_method_1_code
def yX2_init : MethodName := ⟨RX2, "<init>", "(I)V"⟩
abbrev cX2_begin : ByteArray := prog_4_method_2_code
def yX2_begin : MethodName := ⟨RX2, "begin", "(IIII)V"⟩
abbrev cX2_copyFrom : ByteArray := prog_4_method_3_code
def yX2_copyFrom : MethodName := ⟨RX2, "copyFrom", "(LStarterBay$Motor;)V"⟩
abbrev cX2_turns : ByteArray := prog_4_method_4_code
def yX2_turns : MethodName := ⟨RX2, "turns", "()Z"⟩
abbrev cX2_peak : ByteArray := prog_4_method_5_code
def yX2_peak : MethodName := ⟨RX2, "peak", "()I"⟩
abbrev cX2_credit : ByteArray := prog_4_method_6_code
def yX2_credit : MethodName := ⟨RX2, "credit", "()I"⟩
abbrev cX2_draw : ByteArray := prog_4_method_7_code
def yX2_draw : MethodName := ⟨RX2, "draw", "()I"⟩
abbrev cX2_change : ByteArray := prog_4_method_8_code
def yX2_change : MethodName := ⟨RX2, "change", "(I)I"⟩
abbrev cX2_trip : ByteArray := prog_4_method_9_code
def yX2_trip : MethodName := ⟨RX2, "trip", "(I)I"⟩
abbrev cX2_countSecond : ByteArray := prog_4_method_10_code
def yX2_countSecond : MethodName := ⟨RX2, "countSecond", "()V"⟩
abbrev cX2_exchangeHeat : ByteArray := prog_4_method_11_code
def yX2_exchangeHeat : MethodName := ⟨RX2, "exchangeHeat", "(Z)V"⟩
abbrev cX2_endSecond : ByteArray := prog_4_method_12_code
def yX2_endSecond : MethodName := ⟨RX2, "endSecond", "()I"⟩
def RX3 : String := "StarterBay$State"
def TX3 : u_T := fun k => match k with
  | 0 => ("StarterBay$State", "motors", "[LStarterBay$Motor;", true)
  | 1 => ("StarterBay$State", "timetable", "LStarterBay$Timetable;", true)
  | 2 => ("StarterBay$State", "events", "LStarterBay$EventLog;", true)
  | 3 => ("StarterBay$State", "motorCount", "I", false)
  | 4 => ("StarterBay$State", "clock", "I", false)
  | 5 => ("StarterBay$State", "limit", "I", false)
  | 6 => ("StarterBay$State", "fan", "Z", false)
  | _ => ("StarterBay$State", "refusedItems", "I", false)
def tyX3 : Nat → FieldType := fun k => match k with
  | 0 => .array (.object "StarterBay$Motor")
  | 1 => .object "StarterBay$Timetable"
  | 2 => .object "StarterBay$EventLog"
  | 3 => .int
  | 4 => .int
  | 5 => .int
  | 6 => .boolean
  | _ => .int
abbrev wsX30 : List Cond := u_ws RX3 TX3 8
theorem nmX3 : ∀ a, a < 8 → ∀ b, b < 8 → a ≠ b → (TX3 a).2.1 ≠ (TX3 b).2.1 := by decide +kernel
theorem tyX3_ok : ∀ k, k < 8 → parseFieldDescriptor (TX3 k).2.2.1 = some (tyX3 k) := by decide +kernel
abbrev cX3_init : ByteArray := prog_5_method_1_code
def yX3_init : MethodName := ⟨RX3, "<init>", "()V"⟩
abbrev cX3_copyFrom : ByteArray := prog_5_method_2_code
def yX3_copyFrom : MethodName := ⟨RX3, "copyFrom", "(LStarterBay$State;)V"⟩
abbrev cX3_find : ByteArray := prog_5_method_3_code
def yX3_find : MethodName := ⟨RX3, "find", "(I)LStarterBay$Motor;"⟩
abbrev cX3_note : ByteArray := prog_5_method_4_code
def yX3_note : MethodName := ⟨RX3, "note", "(LStarterBay$Motor;I)V"⟩
abbrev cX3_urgency : ByteArray := prog_5_method_5_code
def yX3_urgency : MethodName := ⟨RX3, "urgency", "(LStarterBay$Motor;)I"⟩
abbrev cX3_isAhead : ByteArray := prog_5_method_6_code
def yX3_isAhead : MethodName := ⟨RX3, "isAhead", "(II)Z"⟩
abbrev cX3_reasonAgainst : ByteArray := prog_5_method_7_code
def yX3_reasonAgainst : MethodName := ⟨RX3, "reasonAgainst", "(LStarterBay$Motor;)I"⟩
abbrev cX3_takenCurrent : ByteArray := prog_5_method_8_code
def yX3_takenCurrent : MethodName := ⟨RX3, "takenCurrent", "()I"⟩
abbrev cX3_motorsInMode : ByteArray := prog_5_method_9_code
def yX3_motorsInMode : MethodName := ⟨RX3, "motorsInMode", "(I)I"⟩
abbrev cX3_sumOfAccount : ByteArray := prog_5_method_10_code
def yX3_sumOfAccount : MethodName := ⟨RX3, "sumOfAccount", "(I)I"⟩
abbrev cX3_sumOfHeat : ByteArray := prog_5_method_11_code
def yX3_sumOfHeat : MethodName := ⟨RX3, "sumOfHeat", "()I"⟩
abbrev cX3_sumOfDraws : ByteArray := prog_5_method_12_code
def yX3_sumOfDraws : MethodName := ⟨RX3, "sumOfDraws", "()I"⟩
def RX4 : String := "StarterBay$Timetable"
def TX4 : u_T := fun k => match k with
  | 0 => ("StarterBay$Timetable", "due", "[I", true)
  | 1 => ("StarterBay$Timetable", "order", "[I", true)
  | 2 => ("StarterBay$Timetable", "first", "[I", true)
  | 3 => ("StarterBay$Timetable", "second", "[I", true)
  | 4 => ("StarterBay$Timetable", "size", "I", false)
  | _ => ("StarterBay$Timetable", "next", "I", false)
def tyX4 : Nat → FieldType := fun k => match k with
  | 0 => .array .int
  | 1 => .array .int
  | 2 => .array .int
  | 3 => .array .int
  | 4 => .int
  | _ => .int
abbrev wsX40 : List Cond := u_ws RX4 TX4 6
theorem nmX4 : ∀ a, a < 6 → ∀ b, b < 6 → a ≠ b → (TX4 a).2.1 ≠ (TX4 b).2.1 := by decide +kernel
theorem tyX4_ok : ∀ k, k < 6 → parseFieldDescriptor (TX4 k).2.2.1 = some (tyX4 k) := by decide +kernel
abbrev cX4_init : ByteArray := prog_6_method_1_code
def yX4_init : MethodName := ⟨RX4, "<init>", "()V"⟩
abbrev cX4_copyFrom : ByteArray := prog_6_method_2_code
def yX4_copyFrom : MethodName := ⟨RX4, "copyFrom", "(LStarterBay$Timetable;)V"⟩
abbrev cX4_empty : ByteArray := prog_6_method_3_code
def yX4_empty : MethodName := ⟨RX4, "empty", "()V"⟩
abbrev cX4_add : ByteArray := prog_6_method_4_code
def yX4_add : MethodName := ⟨RX4, "add", "(IIII)V"⟩
abbrev cX4_left : ByteArray := prog_6_method_5_code
def yX4_left : MethodName := ⟨RX4, "left", "()I"⟩
abbrev cX4_tell : ByteArray := prog_6_method_6_code
def yX4_tell : MethodName := ⟨RX4, "tell", "(III)I"⟩
def RX5 : String := "StarterBay$TimetableText"
def TX5 : u_T := fun k => match k with
  | 0 => ("StarterBay$TimetableText", "characters", "[C", true)
  | 1 => ("StarterBay$TimetableText", "length", "I", false)
  | 2 => ("StarterBay$TimetableText", "at", "I", false)
  | 3 => ("StarterBay$TimetableText", "time", "I", false)
  | 4 => ("StarterBay$TimetableText", "order", "I", false)
  | 5 => ("StarterBay$TimetableText", "first", "I", false)
  | _ => ("StarterBay$TimetableText", "second", "I", false)
def tyX5 : Nat → FieldType := fun k => match k with
  | 0 => .array .char
  | 1 => .int
  | 2 => .int
  | 3 => .int
  | 4 => .int
  | 5 => .int
  | _ => .int
abbrev wsX50 : List Cond := u_ws RX5 TX5 7
theorem nmX5 : ∀ a, a < 7 → ∀ b, b < 7 → a ≠ b → (TX5 a).2.1 ≠ (TX5 b).2.1 := by decide +kernel
theorem tyX5_ok : ∀ k, k < 7 → parseFieldDescriptor (TX5 k).2.2.1 = some (tyX5 k) := by decide +kernel
abbrev cX5_init : ByteArray := prog_7_method_1_code
def yX5_init : MethodName := ⟨RX5, "<init>", "()V"⟩
abbrev cX5_readInto : ByteArray := prog_7_method_2_code
def yX5_readInto : MethodName := ⟨RX5, "readInto", "(LStarterBay$Timetable;I)Z"⟩
abbrev cX5_readItem : ByteArray := prog_7_method_3_code
def yX5_readItem : MethodName := ⟨RX5, "readItem", "()Z"⟩
abbrev cX5_partEnd : ByteArray := prog_7_method_4_code
def yX5_partEnd : MethodName := ⟨RX5, "partEnd", "()I"⟩
abbrev cX5_readBlank : ByteArray := prog_7_method_5_code
def yX5_readBlank : MethodName := ⟨RX5, "readBlank", "()Z"⟩
abbrev cX5_readTime : ByteArray := prog_7_method_6_code
def yX5_readTime : MethodName := ⟨RX5, "readTime", "()Z"⟩
abbrev cX5_readOrder : ByteArray := prog_7_method_7_code
def yX5_readOrder : MethodName := ⟨RX5, "readOrder", "()Z"⟩
abbrev cX5_wordOf : ByteArray := prog_7_method_8_code
def yX5_wordOf : MethodName := ⟨RX5, "wordOf", "(I)Ljava/lang/String;"⟩
abbrev cX5_isPart : ByteArray := prog_7_method_9_code
def yX5_isPart : MethodName := ⟨RX5, "isPart", "(Ljava/lang/String;I)Z"⟩
abbrev cX5_readNumbers : ByteArray := prog_7_method_10_code
def yX5_readNumbers : MethodName := ⟨RX5, "readNumbers", "()Z"⟩
abbrev cX5_readDigit : ByteArray := prog_7_method_11_code
def yX5_readDigit : MethodName := ⟨RX5, "readDigit", "(C)I"⟩
def RX6 : String := "StarterBay"
def TX6 : u_T := fun k => match k with
  | 0 => ("StarterBay", "now", "LStarterBay$State;", true)
  | 1 => ("StarterBay", "history", "LStarterBay$History;", true)
  | 2 => ("StarterBay", "snapshot", "LStarterBay$State;", true)
  | 3 => ("StarterBay", "hasSnapshot", "Z", false)
  | 4 => ("StarterBay", "text", "LStarterBay$TimetableText;", true)
  | 5 => ("StarterBay", "draft", "LStarterBay$Timetable;", true)
  | 6 => ("StarterBay", "line", "[I", true)
  | _ => ("StarterBay", "reason", "I", false)
def tyX6 : Nat → FieldType := fun k => match k with
  | 0 => .object "StarterBay$State"
  | 1 => .object "StarterBay$History"
  | 2 => .object "StarterBay$State"
  | 3 => .boolean
  | 4 => .object "StarterBay$TimetableText"
  | 5 => .object "StarterBay$Timetable"
  | 6 => .array .int
  | _ => .int
abbrev wsX60 : List Cond := u_ws RX6 TX6 8
theorem nmX6 : ∀ a, a < 8 → ∀ b, b < 8 → a ≠ b → (TX6 a).2.1 ≠ (TX6 b).2.1 := by decide +kernel
theorem tyX6_ok : ∀ k, k < 8 → parseFieldDescriptor (TX6 k).2.2.1 = some (tyX6 k) := by decide +kernel
abbrev cX6_init : ByteArray := prog_1_method_1_code
def yX6_init : MethodName := ⟨RX6, "<init>", "()V"⟩
abbrev cX6_addMotor : ByteArray := prog_1_method_2_code
def yX6_addMotor : MethodName := ⟨RX6, "addMotor", "(IIII)I"⟩
abbrev cX6_setNeed : ByteArray := prog_1_method_3_code
def yX6_setNeed : MethodName := ⟨RX6, "setNeed", "(II)I"⟩
abbrev cX6_setLimit : ByteArray := prog_1_method_4_code
def yX6_setLimit : MethodName := ⟨RX6, "setLimit", "(I)I"⟩
abbrev cX6_setFan : ByteArray := prog_1_method_5_code
def yX6_setFan : MethodName := ⟨RX6, "setFan", "(Z)I"⟩
abbrev cX6_request : ByteArray := prog_1_method_6_code
def yX6_request : MethodName := ⟨RX6, "request", "(I)I"⟩
abbrev cX6_stop : ByteArray := prog_1_method_7_code
def yX6_stop : MethodName := ⟨RX6, "stop", "(I)I"⟩
abbrev cX6_losePhases : ByteArray := prog_1_method_8_code
def yX6_losePhases : MethodName := ⟨RX6, "losePhases", "(II)I"⟩
abbrev cX6_reset : ByteArray := prog_1_method_9_code
def yX6_reset : MethodName := ⟨RX6, "reset", "(I)I"⟩
abbrev cX6_pass : ByteArray := prog_1_method_10_code
def yX6_pass : MethodName := ⟨RX6, "pass", "(I)I"⟩
abbrev cX6_type : ByteArray := prog_1_method_11_code
def yX6_type : MethodName := ⟨RX6, "type", "(C)I"⟩
abbrev cX6_clearText : ByteArray := prog_1_method_12_code
def yX6_clearText : MethodName := ⟨RX6, "clearText", "()I"⟩
abbrev cX6_readTimetable : ByteArray := prog_1_method_13_code
def yX6_readTimetable : MethodName := ⟨RX6, "readTimetable", "()I"⟩
abbrev cX6_undo : ByteArray := prog_1_method_14_code
def yX6_undo : MethodName := ⟨RX6, "undo", "()I"⟩
abbrev cX6_keep : ByteArray := prog_1_method_15_code
def yX6_keep : MethodName := ⟨RX6, "keep", "()I"⟩
abbrev cX6_restore : ByteArray := prog_1_method_16_code
def yX6_restore : MethodName := ⟨RX6, "restore", "()I"⟩
abbrev cX6_motor : ByteArray := prog_1_method_17_code
def yX6_motor : MethodName := ⟨RX6, "motor", "(II)I"⟩
abbrev cX6_account : ByteArray := prog_1_method_18_code
def yX6_account : MethodName := ⟨RX6, "account", "(II)I"⟩
abbrev cX6_queue : ByteArray := prog_1_method_19_code
def yX6_queue : MethodName := ⟨RX6, "queue", "(I)I"⟩
abbrev cX6_whyNot : ByteArray := prog_1_method_20_code
def yX6_whyNot : MethodName := ⟨RX6, "whyNot", "(I)I"⟩
abbrev cX6_event : ByteArray := prog_1_method_21_code
def yX6_event : MethodName := ⟨RX6, "event", "(II)I"⟩
abbrev cX6_item : ByteArray := prog_1_method_22_code
def yX6_item : MethodName := ⟨RX6, "item", "(II)I"⟩
abbrev cX6_startHeat : ByteArray := prog_1_method_23_code
def yX6_startHeat : MethodName := ⟨RX6, "startHeat", "(I)I"⟩
abbrev cX6_coolTime : ByteArray := prog_1_method_24_code
def yX6_coolTime : MethodName := ⟨RX6, "coolTime", "(I)I"⟩
abbrev cX6_runTime : ByteArray := prog_1_method_25_code
def yX6_runTime : MethodName := ⟨RX6, "runTime", "(I)I"⟩
abbrev cX6_longestRamp : ByteArray := prog_1_method_26_code
def yX6_longestRamp : MethodName := ⟨RX6, "longestRamp", "(I)I"⟩
abbrev cX6_count : ByteArray := prog_1_method_27_code
def yX6_count : MethodName := ⟨RX6, "count", "(I)I"⟩
abbrev cX6_callOrder : ByteArray := prog_1_method_28_code
def yX6_callOrder : MethodName := ⟨RX6, "callOrder", "(III)I"⟩
abbrev cX6_checkOrder : ByteArray := prog_1_method_29_code
def yX6_checkOrder : MethodName := ⟨RX6, "checkOrder", "(III)I"⟩
abbrev cX6_checkLoss : ByteArray := prog_1_method_30_code
def yX6_checkLoss : MethodName := ⟨RX6, "checkLoss", "(LStarterBay$Motor;I)I"⟩
abbrev cX6_checkReset : ByteArray := prog_1_method_31_code
def yX6_checkReset : MethodName := ⟨RX6, "checkReset", "(LStarterBay$Motor;)I"⟩
abbrev cX6_carryOut : ByteArray := prog_1_method_32_code
def yX6_carryOut : MethodName := ⟨RX6, "carryOut", "(III)I"⟩
abbrev cX6_carryOutLoss : ByteArray := prog_1_method_33_code
def yX6_carryOutLoss : MethodName := ⟨RX6, "carryOutLoss", "(LStarterBay$Motor;I)I"⟩
abbrev cX6_refuse : ByteArray := prog_1_method_34_code
def yX6_refuse : MethodName := ⟨RX6, "refuse", "(I)I"⟩
abbrev cX6_carryOutDueItems : ByteArray := prog_1_method_35_code
def yX6_carryOutDueItems : MethodName := ⟨RX6, "carryOutDueItems", "()V"⟩
abbrev cX6_carryOutItem : ByteArray := prog_1_method_36_code
def yX6_carryOutItem : MethodName := ⟨RX6, "carryOutItem", "(III)V"⟩
abbrev cX6_startFirstThatCan : ByteArray := prog_1_method_37_code
def yX6_startFirstThatCan : MethodName := ⟨RX6, "startFirstThatCan", "()Z"⟩
abbrev cX6_passOver : ByteArray := prog_1_method_38_code
def yX6_passOver : MethodName := ⟨RX6, "passOver", "(I)V"⟩
abbrev cX6_heatMotors : ByteArray := prog_1_method_39_code
def yX6_heatMotors : MethodName := ⟨RX6, "heatMotors", "()V"⟩
abbrev cX6_fillLine : ByteArray := prog_1_method_40_code
def yX6_fillLine : MethodName := ⟨RX6, "fillLine", "()I"⟩
abbrev cX6_placeInLine : ByteArray := prog_1_method_41_code
def yX6_placeInLine : MethodName := ⟨RX6, "placeInLine", "(I)I"⟩
abbrev cX6_isOutside : ByteArray := prog_1_method_42_code
def yX6_isOutside : MethodName := ⟨RX6, "isOutside", "(III)Z"⟩
abbrev cX6_heatOf : ByteArray := prog_1_method_43_code
def yX6_heatOf : MethodName := ⟨RX6, "heatOf", "(I)I"⟩
abbrev cX6_givenOff : ByteArray := prog_1_method_44_code
def yX6_givenOff : MethodName := ⟨RX6, "givenOff", "(IZZ)I"⟩
abbrev cX6_rampCurrent : ByteArray := prog_1_method_45_code
def yX6_rampCurrent : MethodName := ⟨RX6, "rampCurrent", "(III)I"⟩
abbrev cX6_heatOfStart : ByteArray := prog_1_method_46_code
def yX6_heatOfStart : MethodName := ⟨RX6, "heatOfStart", "(II)I"⟩
def RX7 : String := "StarterBayModel"
def TX7 : u_T := fun k => match k with
  | 0 => ("StarterBayModel", "now", "[I", true)
  | 1 => ("StarterBayModel", "history", "[I", true)
  | 2 => ("StarterBayModel", "kept", "I", false)
  | 3 => ("StarterBayModel", "slot", "[I", true)
  | 4 => ("StarterBayModel", "isFilled", "Z", false)
  | 5 => ("StarterBayModel", "reason", "I", false)
  | 6 => ("StarterBayModel", "typed", "I", false)
  | 7 => ("StarterBayModel", "text", "[C", true)
  | 8 => ("StarterBayModel", "at", "I", false)
  | 9 => ("StarterBayModel", "readMany", "I", false)
  | _ => ("StarterBayModel", "readItem", "[I", true)
def tyX7 : Nat → FieldType := fun k => match k with
  | 0 => .array .int
  | 1 => .array .int
  | 2 => .int
  | 3 => .array .int
  | 4 => .boolean
  | 5 => .int
  | 6 => .int
  | 7 => .array .char
  | 8 => .int
  | 9 => .int
  | _ => .array .int
abbrev wsX70 : List Cond := u_ws RX7 TX7 11
theorem nmX7 : ∀ a, a < 11 → ∀ b, b < 11 → a ≠ b → (TX7 a).2.1 ≠ (TX7 b).2.1 := by decide +kernel
theorem tyX7_ok : ∀ k, k < 11 → parseFieldDescriptor (TX7 k).2.2.1 = some (tyX7 k) := by decide +kernel
abbrev cX7_init : ByteArray := prog_9_method_1_code
def yX7_init : MethodName := ⟨RX7, "<init>", "()V"⟩
abbrev cX7_in : ByteArray := prog_9_method_2_code
def yX7_in : MethodName := ⟨RX7, "in", "(III)Z"⟩
abbrev cX7_record : ByteArray := prog_9_method_3_code
def yX7_record : MethodName := ⟨RX7, "record", "()V"⟩
abbrev cX7_refuse : ByteArray := prog_9_method_4_code
def yX7_refuse : MethodName := ⟨RX7, "refuse", "(I)I"⟩
abbrev cX7_noMotor : ByteArray := prog_9_method_5_code
def yX7_noMotor : MethodName := ⟨RX7, "noMotor", "(I)Z"⟩
abbrev cX7_of : ByteArray := prog_9_method_6_code
def yX7_of : MethodName := ⟨RX7, "of", "(II)I"⟩
abbrev cX7_put : ByteArray := prog_9_method_7_code
def yX7_put : MethodName := ⟨RX7, "put", "(III)V"⟩
abbrev cX7_more : ByteArray := prog_9_method_8_code
def yX7_more : MethodName := ⟨RX7, "more", "(III)V"⟩
abbrev cX7_addMotor : ByteArray := prog_9_method_9_code
def yX7_addMotor : MethodName := ⟨RX7, "addMotor", "(IIII)I"⟩
abbrev cX7_setNeed : ByteArray := prog_9_method_10_code
def yX7_setNeed : MethodName := ⟨RX7, "setNeed", "(II)I"⟩
abbrev cX7_setLimit : ByteArray := prog_9_method_11_code
def yX7_setLimit : MethodName := ⟨RX7, "setLimit", "(I)I"⟩
abbrev cX7_setFan : ByteArray := prog_9_method_12_code
def yX7_setFan : MethodName := ⟨RX7, "setFan", "(Z)I"⟩
abbrev cX7_turns : ByteArray := prog_9_method_13_code
def yX7_turns : MethodName := ⟨RX7, "turns", "(I)Z"⟩
abbrev cX7_peak : ByteArray := prog_9_method_14_code
def yX7_peak : MethodName := ⟨RX7, "peak", "(I)I"⟩
abbrev cX7_ramped : ByteArray := prog_9_method_15_code
def yX7_ramped : MethodName := ⟨RX7, "ramped", "(III)I"⟩
abbrev cX7_draws : ByteArray := prog_9_method_16_code
def yX7_draws : MethodName := ⟨RX7, "draws", "(I)I"⟩
abbrev cX7_heatOfRamp : ByteArray := prog_9_method_17_code
def yX7_heatOfRamp : MethodName := ⟨RX7, "heatOfRamp", "(II)I"⟩
abbrev cX7_needed : ByteArray := prog_9_method_18_code
def yX7_needed : MethodName := ⟨RX7, "needed", "(I)I"⟩
abbrev cX7_credit : ByteArray := prog_9_method_19_code
def yX7_credit : MethodName := ⟨RX7, "credit", "(I)I"⟩
abbrev cX7_rate : ByteArray := prog_9_method_20_code
def yX7_rate : MethodName := ⟨RX7, "rate", "(Z)I"⟩
abbrev cX7_waitedOf : ByteArray := prog_9_method_21_code
def yX7_waitedOf : MethodName := ⟨RX7, "waitedOf", "(I)I"⟩
abbrev cX7_isAhead : ByteArray := prog_9_method_22_code
def yX7_isAhead : MethodName := ⟨RX7, "isAhead", "(II)Z"⟩
abbrev cX7_waits : ByteArray := prog_9_method_23_code
def yX7_waits : MethodName := ⟨RX7, "waits", "(I)Z"⟩
abbrev cX7_placeOf : ByteArray := prog_9_method_24_code
def yX7_placeOf : MethodName := ⟨RX7, "placeOf", "(I)I"⟩
abbrev cX7_waitingAt : ByteArray := prog_9_method_25_code
def yX7_waitingAt : MethodName := ⟨RX7, "waitingAt", "(I)I"⟩
abbrev cX7_queue : ByteArray := prog_9_method_26_code
def yX7_queue : MethodName := ⟨RX7, "queue", "(I)I"⟩
abbrev cX7_against : ByteArray := prog_9_method_27_code
def yX7_against : MethodName := ⟨RX7, "against", "(I)I"⟩
abbrev cX7_whyNot : ByteArray := prog_9_method_28_code
def yX7_whyNot : MethodName := ⟨RX7, "whyNot", "(I)I"⟩
abbrev cX7_note : ByteArray := prog_9_method_29_code
def yX7_note : MethodName := ⟨RX7, "note", "(II)V"⟩
abbrev cX7_event : ByteArray := prog_9_method_30_code
def yX7_event : MethodName := ⟨RX7, "event", "(II)I"⟩
abbrev cX7_trip : ByteArray := prog_9_method_31_code
def yX7_trip : MethodName := ⟨RX7, "trip", "(II)V"⟩
abbrev cX7_wrongIn : ByteArray := prog_9_method_32_code
def yX7_wrongIn : MethodName := ⟨RX7, "wrongIn", "(III)I"⟩
abbrev cX7_carryOut : ByteArray := prog_9_method_33_code
def yX7_carryOut : MethodName := ⟨RX7, "carryOut", "(III)V"⟩
abbrev cX7_orders : ByteArray := prog_9_method_34_code
def yX7_orders : MethodName := ⟨RX7, "orders", "(III)I"⟩
abbrev cX7_request : ByteArray := prog_9_method_35_code
def yX7_request : MethodName := ⟨RX7, "request", "(I)I"⟩
abbrev cX7_stop : ByteArray := prog_9_method_36_code
def yX7_stop : MethodName := ⟨RX7, "stop", "(I)I"⟩
abbrev cX7_losePhases : ByteArray := prog_9_method_37_code
def yX7_losePhases : MethodName := ⟨RX7, "losePhases", "(II)I"⟩
abbrev cX7_reset : ByteArray := prog_9_method_38_code
def yX7_reset : MethodName := ⟨RX7, "reset", "(I)I"⟩
abbrev cX7_carryOutItems : ByteArray := prog_9_method_39_code
def yX7_carryOutItems : MethodName := ⟨RX7, "carryOutItems", "()V"⟩
abbrev cX7_startOne : ByteArray := prog_9_method_40_code
def yX7_startOne : MethodName := ⟨RX7, "startOne", "()I"⟩
abbrev cX7_goesOn : ByteArray := prog_9_method_41_code
def yX7_goesOn : MethodName := ⟨RX7, "goesOn", "(I)V"⟩
abbrev cX7_pass : ByteArray := prog_9_method_42_code
def yX7_pass : MethodName := ⟨RX7, "pass", "(I)I"⟩
abbrev cX7_type : ByteArray := prog_9_method_43_code
def yX7_type : MethodName := ⟨RX7, "type", "(C)I"⟩
abbrev cX7_clearText : ByteArray := prog_9_method_44_code
def yX7_clearText : MethodName := ⟨RX7, "clearText", "()I"⟩
abbrev cX7_end : ByteArray := prog_9_method_45_code
def yX7_end : MethodName := ⟨RX7, "end", "()I"⟩
abbrev cX7_timeAt : ByteArray := prog_9_method_46_code
def yX7_timeAt : MethodName := ⟨RX7, "timeAt", "(II)I"⟩
abbrev cX7_isWord : ByteArray := prog_9_method_47_code
def yX7_isWord : MethodName := ⟨RX7, "isWord", "(IIIIIII)Z"⟩
abbrev cX7_wordAt : ByteArray := prog_9_method_48_code
def yX7_wordAt : MethodName := ⟨RX7, "wordAt", "(I)I"⟩
abbrev cX7_digitAt : ByteArray := prog_9_method_49_code
def yX7_digitAt : MethodName := ⟨RX7, "digitAt", "(II)I"⟩
abbrev cX7_takesBlank : ByteArray := prog_9_method_50_code
def yX7_takesBlank : MethodName := ⟨RX7, "takesBlank", "()Z"⟩
abbrev cX7_readsItem : ByteArray := prog_9_method_51_code
def yX7_readsItem : MethodName := ⟨RX7, "readsItem", "()Z"⟩
abbrev cX7_readTimetable : ByteArray := prog_9_method_52_code
def yX7_readTimetable : MethodName := ⟨RX7, "readTimetable", "()I"⟩
abbrev cX7_item : ByteArray := prog_9_method_53_code
def yX7_item : MethodName := ⟨RX7, "item", "(II)I"⟩
abbrev cX7_undo : ByteArray := prog_9_method_54_code
def yX7_undo : MethodName := ⟨RX7, "undo", "()I"⟩
abbrev cX7_keep : ByteArray := prog_9_method_55_code
def yX7_keep : MethodName := ⟨RX7, "keep", "()I"⟩
abbrev cX7_restore : ByteArray := prog_9_method_56_code
def yX7_restore : MethodName := ⟨RX7, "restore", "()I"⟩
abbrev cX7_motor : ByteArray := prog_9_method_57_code
def yX7_motor : MethodName := ⟨RX7, "motor", "(II)I"⟩
abbrev cX7_account : ByteArray := prog_9_method_58_code
def yX7_account : MethodName := ⟨RX7, "account", "(II)I"⟩
abbrev cX7_startHeat : ByteArray := prog_9_method_59_code
def yX7_startHeat : MethodName := ⟨RX7, "startHeat", "(I)I"⟩
abbrev cX7_coolTime : ByteArray := prog_9_method_60_code
def yX7_coolTime : MethodName := ⟨RX7, "coolTime", "(I)I"⟩
abbrev cX7_runTime : ByteArray := prog_9_method_61_code
def yX7_runTime : MethodName := ⟨RX7, "runTime", "(I)I"⟩
abbrev cX7_longestRamp : ByteArray := prog_9_method_62_code
def yX7_longestRamp : MethodName := ⟨RX7, "longestRamp", "(I)I"⟩
abbrev cX7_inMode : ByteArray := prog_9_method_63_code
def yX7_inMode : MethodName := ⟨RX7, "inMode", "(I)I"⟩
abbrev cX7_sumOf : ByteArray := prog_9_method_64_code
def yX7_sumOf : MethodName := ⟨RX7, "sumOf", "(I)I"⟩
abbrev cX7_allDraw : ByteArray := prog_9_method_65_code
def yX7_allDraw : MethodName := ⟨RX7, "allDraw", "()I"⟩
abbrev cX7_count : ByteArray := prog_9_method_66_code
def yX7_count : MethodName := ⟨RX7, "count", "(I)I"⟩
def RJ9 : String := "java/lang/Math"
def TJ9 : u_T := fun k => match k with
  | _ => ("", "", "", false)
def tyJ9 : Nat → FieldType := fun k => match k with
  | _ => .int
abbrev wsJ90 : List Cond := u_ws RJ9 TJ9 0
theorem nmJ9 : ∀ a, a < 0 → ∀ b, b < 0 → a ≠ b → (TJ9 a).2.1 ≠ (TJ9 b).2.1 := by decide +kernel
theorem tyJ9_ok : ∀ k, k < 0 → parseFieldDescriptor (TJ9 k).2.2.1 = some (tyJ9 k) := by decide +kernel
abbrev cJ9_floorMod_7cf53 : ByteArray := prog_10_method_50_code
def yJ9_floorMod_7cf53 : MethodName := ⟨RJ9, "floorMod", "(II)I"⟩
abbrev cJ9_max_7cf53 : ByteArray := prog_10_method_65_code
def yJ9_max_7cf53 : MethodName := ⟨RJ9, "max", "(II)I"⟩
abbrev cJ9_min_7cf53 : ByteArray := prog_10_method_69_code
def yJ9_min_7cf53 : MethodName := ⟨RJ9, "min", "(II)I"⟩
def RJ0 : String := "java/lang/String"
def TJ0 : u_T := fun k => match k with
  | _ => ("", "", "", false)
def tyJ0 : Nat → FieldType := fun k => match k with
  | _ => .int
abbrev wsJ00 : List Cond := u_ws RJ0 TJ0 0
theorem nmJ0 : ∀ a, a < 0 → ∀ b, b < 0 → a ≠ b → (TJ0 a).2.1 ≠ (TJ0 b).2.1 := by decide +kernel
theorem tyJ0_ok : ∀ k, k < 0 → parseFieldDescriptor (TJ0 k).2.2.1 = some (tyJ0 k) := by decide +kernel
abbrev cJ0_length_8abf5 : ByteArray := prog_11_method_54_code
def yJ0_length_8abf5 : MethodName := ⟨RJ0, "length", "()I"⟩
abbrev cJ0_charAt_5068e : ByteArray := prog_11_method_56_code
def yJ0_charAt_5068e : MethodName := ⟨RJ0, "charAt", "(I)C"⟩
abbrev cJ0_coder_7d493 : ByteArray := prog_11_method_152_code
def yJ0_coder_7d493 : MethodName := ⟨RJ0, "coder", "()B"⟩
abbrev cJ0_isLatin1_aae02 : ByteArray := prog_11_method_154_code
def yJ0_isLatin1_aae02 : MethodName := ⟨RJ0, "isLatin1", "()Z"⟩
abbrev cJ0_checkIndex_df160 : ByteArray := prog_11_method_155_code
def yJ0_checkIndex_df160 : MethodName := ⟨RJ0, "checkIndex", "(II)V"⟩
def RJ1 : String := "java/lang/StringLatin1"
def TJ1 : u_T := fun k => match k with
  | _ => ("", "", "", false)
def tyJ1 : Nat → FieldType := fun k => match k with
  | _ => .int
abbrev wsJ10 : List Cond := u_ws RJ1 TJ1 0
theorem nmJ1 : ∀ a, a < 0 → ∀ b, b < 0 → a ≠ b → (TJ1 a).2.1 ≠ (TJ1 b).2.1 := by decide +kernel
theorem tyJ1_ok : ∀ k, k < 0 → parseFieldDescriptor (TJ1 k).2.2.1 = some (tyJ1 k) := by decide +kernel
abbrev cJ1_charAt_3b067 : ByteArray := prog_12_method_2_code
def yJ1_charAt_3b067 : MethodName := ⟨RJ1, "charAt", "([BI)C"⟩
def RJ2 : String := "java/lang/StringUTF16"
def TJ2 : u_T := fun k => match k with
  | _ => ("", "", "", false)
def tyJ2 : Nat → FieldType := fun k => match k with
  | _ => .int
abbrev wsJ20 : List Cond := u_ws RJ2 TJ2 0
theorem nmJ2 : ∀ a, a < 0 → ∀ b, b < 0 → a ≠ b → (TJ2 a).2.1 ≠ (TJ2 b).2.1 := by decide +kernel
theorem tyJ2_ok : ∀ k, k < 0 → parseFieldDescriptor (TJ2 k).2.2.1 = some (tyJ2 k) := by decide +kernel
abbrev cJ2_getChar_3b067 : ByteArray := prog_13_method_5_code
def yJ2_getChar_3b067 : MethodName := ⟨RJ2, "getChar", "([BI)C"⟩
abbrev cJ2_length_9d52b : ByteArray := prog_13_method_6_code
def yJ2_length_9d52b : MethodName := ⟨RJ2, "length", "([B)I"⟩
abbrev cJ2_charAt_3b067 : ByteArray := prog_13_method_83_code
def yJ2_charAt_3b067 : MethodName := ⟨RJ2, "charAt", "([BI)C"⟩
abbrev cJ2_checkIndex_2214a : ByteArray := prog_13_method_91_code
def yJ2_checkIndex_2214a : MethodName := ⟨RJ2, "checkIndex", "(I[B)V"⟩
def RJ10 : String := "java/lang/System"
def TJ10 : u_T := fun k => match k with
  | _ => ("", "", "", false)
def tyJ10 : Nat → FieldType := fun k => match k with
  | _ => .int
abbrev wsJ100 : List Cond := u_ws RJ10 TJ10 0
theorem nmJ10 : ∀ a, a < 0 → ∀ b, b < 0 → a ≠ b → (TJ10 a).2.1 ≠ (TJ10 b).2.1 := by decide +kernel
theorem tyJ10_ok : ∀ k, k < 0 → parseFieldDescriptor (TJ10 k).2.2.1 = some (tyJ10 k) := by decide +kernel
def RJ3 : String := "jdk/internal/util/Preconditions"
def TJ3 : u_T := fun k => match k with
  | _ => ("", "", "", false)
def tyJ3 : Nat → FieldType := fun k => match k with
  | _ => .int
abbrev wsJ30 : List Cond := u_ws RJ3 TJ3 0
theorem nmJ3 : ∀ a, a < 0 → ∀ b, b < 0 → a ≠ b → (TJ3 a).2.1 ≠ (TJ3 b).2.1 := by decide +kernel
theorem tyJ3_ok : ∀ k, k < 0 → parseFieldDescriptor (TJ3 k).2.2.1 = some (tyJ3 k) := by decide +kernel
abbrev cJ3_checkIndex_8e157 : ByteArray := prog_15_method_11_code
def yJ3_checkIndex_8e157 : MethodName := ⟨RJ3, "checkIndex", "(IILjava/util/function/BiFunction;)I"⟩
def RL : String := "StarterBayLaw"
abbrev cL_law : ByteArray := code
def yL_law : MethodName := ⟨RL, "law", "([I)Z"⟩
def wsL_law_r1 : List Cond := [Cond.classLink RL 7 RX6, Cond.instantiable RX6 8, Cond.initialized RX6, Cond.classLink RL 10 RX7, Cond.instantiable RX7 11, Cond.initialized RX7, Cond.methodLink RL 9 yX6_init, Cond.instanceMethod yX6_init, Cond.code yX6_init cX6_init 1 none, Cond.methodLink RX6 1 objectInit, Cond.instanceMethod objectInit, Cond.code objectInit ⟨#[0xb1]⟩ 1 none, Cond.classLink RX6 7 RX3, Cond.instantiable RX3 8, Cond.initialized RX3, Cond.fieldLink RX6 10 "StarterBay" "now" "LStarterBay$State;", Cond.classLink RX6 16 RX1, Cond.instantiable RX1 2, Cond.initialized RX1, Cond.fieldLink RX6 19 "StarterBay" "history" "LStarterBay$History;", Cond.fieldLink RX6 23 "StarterBay" "snapshot" "LStarterBay$State;", Cond.classLink RX6 26 RX5, Cond.instantiable RX5 7, Cond.initialized RX5]
def wsL_law_r2 : List Cond := [Cond.fieldLink RX6 29 "StarterBay" "text" "LStarterBay$TimetableText;", Cond.classLink RX6 33 RX4, Cond.instantiable RX4 6, Cond.initialized RX4, Cond.fieldLink RX6 36 "StarterBay" "draft" "LStarterBay$Timetable;", Cond.arrayClass .int, Cond.fieldLink RX6 40 "StarterBay" "line" "[I", Cond.methodLink RX6 9 yX3_init, Cond.instanceMethod yX3_init, Cond.code yX3_init cX3_init 2 none, Cond.methodLink RX3 3 objectInit, Cond.classLink RX3 9 RX2, Cond.fieldLink RX3 11 "StarterBay$State" "motors" "[LStarterBay$Motor;", Cond.instantiable RX2 15, Cond.initialized RX2, Cond.classLink RX3 20 RX4, Cond.fieldLink RX3 23 "StarterBay$State" "timetable" "LStarterBay$Timetable;", Cond.classLink RX3 27 RX0, Cond.instantiable RX0 4, Cond.initialized RX0, Cond.fieldLink RX3 30 "StarterBay$State" "events" "LStarterBay$EventLog;", Cond.fieldLink RX3 34 "StarterBay$State" "limit" "I", Cond.methodLink RX3 17 yX2_init, Cond.instanceMethod yX2_init]
def wsL_law_r3 : List Cond := [Cond.code yX2_init cX2_init 2 none, Cond.methodLink RX2 3 objectInit, Cond.fieldLink RX2 9 "StarterBay$Motor" "number" "I", Cond.fieldLink RX2 15 "StarterBay$Motor" "accounts" "[I", Cond.methodLink RX3 22 yX4_init, Cond.instanceMethod yX4_init, Cond.code yX4_init cX4_init 1 none, Cond.methodLink RX4 3 objectInit, Cond.fieldLink RX4 9 "StarterBay$Timetable" "due" "[I", Cond.fieldLink RX4 15 "StarterBay$Timetable" "order" "[I", Cond.fieldLink RX4 18 "StarterBay$Timetable" "first" "[I", Cond.fieldLink RX4 21 "StarterBay$Timetable" "second" "[I", Cond.methodLink RX3 29 yX0_init, Cond.instanceMethod yX0_init, Cond.code yX0_init cX0_init 1 none, Cond.methodLink RX0 3 objectInit, Cond.fieldLink RX0 9 "StarterBay$EventLog" "time" "[I", Cond.fieldLink RX0 15 "StarterBay$EventLog" "motor" "[I", Cond.fieldLink RX0 18 "StarterBay$EventLog" "kind" "[I", Cond.methodLink RX6 18 yX1_init, Cond.instanceMethod yX1_init, Cond.code yX1_init cX1_init 2 none, Cond.methodLink RX1 3 objectInit, Cond.classLink RX1 9 RX3]
def wsL_law_r4 : List Cond := [Cond.fieldLink RX1 11 "StarterBay$History" "states" "[LStarterBay$State;", Cond.methodLink RX1 17 yX3_init, Cond.methodLink RX6 28 yX5_init, Cond.instanceMethod yX5_init, Cond.code yX5_init cX5_init 1 none, Cond.methodLink RX5 3 objectInit, Cond.arrayClass .char, Cond.fieldLink RX5 9 "StarterBay$TimetableText" "characters" "[C", Cond.methodLink RX6 35 yX4_init, Cond.methodLink RL 12 yX7_init, Cond.instanceMethod yX7_init, Cond.code yX7_init cX7_init 1 none, Cond.methodLink RX7 1 objectInit, Cond.fieldLink RX7 7 "StarterBayModel" "now" "[I", Cond.fieldLink RX7 13 "StarterBayModel" "history" "[I", Cond.fieldLink RX7 16 "StarterBayModel" "slot" "[I", Cond.fieldLink RX7 19 "StarterBayModel" "text" "[C", Cond.fieldLink RX7 23 "StarterBayModel" "readItem" "[I", Cond.methodLink RL 13 yX6_addMotor, Cond.instanceMethod yX6_addMotor, Cond.selects RX6 yX6_addMotor yX6_addMotor, Cond.code yX6_addMotor cX6_addMotor 6 (some .int), Cond.constant RX6 48 (60000), Cond.fieldLink RX6 49 "StarterBay$State" "motorCount" "I"]
def wsL_law_r5 : List Cond := [Cond.fieldLink RX6 61 "StarterBay$State" "motors" "[LStarterBay$Motor;", Cond.methodLink RX6 44 yX6_isOutside, Cond.static yX6_isOutside, Cond.code yX6_isOutside cX6_isOutside 3 (some .boolean), Cond.methodLink RX6 53 yX6_refuse, Cond.instanceMethod yX6_refuse, Cond.selects RX6 yX6_refuse yX6_refuse, Cond.code yX6_refuse cX6_refuse 2 (some .int), Cond.fieldLink RX6 222 "StarterBay" "reason" "I", Cond.methodLink RX6 57 yX1_record, Cond.instanceMethod yX1_record, Cond.selects RX1 yX1_record yX1_record, Cond.code yX1_record cX1_record 2 none, Cond.fieldLink RX1 18 "StarterBay$History" "size" "I", Cond.methodLink RX1 22 yX1_dropOldest, Cond.instanceMethod yX1_dropOldest, Cond.selects RX1 yX1_dropOldest yX1_dropOldest, Cond.code yX1_dropOldest cX1_dropOldest 3 none, Cond.methodLink RX1 25 yX3_copyFrom, Cond.instanceMethod yX3_copyFrom, Cond.selects RX3 yX3_copyFrom yX3_copyFrom, Cond.code yX3_copyFrom cX3_copyFrom 3 none, Cond.fieldLink RX3 38 "StarterBay$State" "motorCount" "I", Cond.fieldLink RX3 51 "StarterBay$State" "clock" "I"]
def wsL_law_r6 : List Cond := [Cond.fieldLink RX3 54 "StarterBay$State" "fan" "Z", Cond.fieldLink RX3 58 "StarterBay$State" "refusedItems" "I", Cond.methodLink RX3 41 yX2_copyFrom, Cond.instanceMethod yX2_copyFrom, Cond.selects RX2 yX2_copyFrom yX2_copyFrom, Cond.code yX2_copyFrom cX2_copyFrom 2 none, Cond.fieldLink RX2 19 "StarterBay$Motor" "rated" "I", Cond.fieldLink RX2 22 "StarterBay$Motor" "ramp" "I", Cond.fieldLink RX2 25 "StarterBay$Motor" "factor" "I", Cond.fieldLink RX2 28 "StarterBay$Motor" "limit" "I", Cond.fieldLink RX2 35 "StarterBay$Motor" "heatToStart" "I", Cond.fieldLink RX2 38 "StarterBay$Motor" "need" "I", Cond.fieldLink RX2 41 "StarterBay$Motor" "mode" "I", Cond.fieldLink RX2 44 "StarterBay$Motor" "heat" "I", Cond.fieldLink RX2 47 "StarterBay$Motor" "lost" "I", Cond.fieldLink RX2 50 "StarterBay$Motor" "rampSeconds" "I", Cond.fieldLink RX2 53 "StarterBay$Motor" "requestedAt" "I", Cond.fieldLink RX2 56 "StarterBay$Motor" "tripReason" "I", Cond.fieldLink RX2 59 "StarterBay$Motor" "lossSeconds" "I", Cond.methodLink RX2 62 arraycopyName, Cond.native arraycopyName, Cond.static arraycopyName, Cond.initialized "java/lang/System", Cond.methodLink RX3 45 yX4_copyFrom]
def wsL_law_r7 : List Cond := [Cond.instanceMethod yX4_copyFrom, Cond.selects RX4 yX4_copyFrom yX4_copyFrom, Cond.code yX4_copyFrom cX4_copyFrom 2 none, Cond.methodLink RX4 24 arraycopyName, Cond.fieldLink RX4 30 "StarterBay$Timetable" "size" "I", Cond.fieldLink RX4 34 "StarterBay$Timetable" "next" "I", Cond.methodLink RX3 48 yX0_copyFrom, Cond.instanceMethod yX0_copyFrom, Cond.selects RX0 yX0_copyFrom yX0_copyFrom, Cond.code yX0_copyFrom cX0_copyFrom 2 none, Cond.methodLink RX0 21 arraycopyName, Cond.fieldLink RX0 27 "StarterBay$EventLog" "total" "I", Cond.methodLink RX6 65 yX2_begin, Cond.instanceMethod yX2_begin, Cond.selects RX2 yX2_begin yX2_begin, Cond.code yX2_begin cX2_begin 6 none, Cond.static yX6_heatOfStart, Cond.code yX6_heatOfStart cX6_heatOfStart 4 (some .int), Cond.methodLink RX6 304 yX6_rampCurrent, Cond.static yX6_rampCurrent, Cond.code yX6_rampCurrent cX6_rampCurrent 3 (some .int), Cond.methodLink RX6 210 yX6_heatOf, Cond.static yX6_heatOf, Cond.code yX6_heatOf cX6_heatOf 1 (some .int)]
def wsL_law_r8 : List Cond := [Cond.methodLink RL 17 yX7_addMotor, Cond.instanceMethod yX7_addMotor, Cond.selects RX7 yX7_addMotor yX7_addMotor, Cond.code yX7_addMotor cX7_addMotor 7 (some .int), Cond.constant RX7 37 (60000), Cond.methodLink RX7 33 yX7_in, Cond.static yX7_in, Cond.code yX7_in cX7_in 3 (some .boolean), Cond.methodLink RX7 38 yX7_refuse, Cond.instanceMethod yX7_refuse, Cond.selects RX7 yX7_refuse yX7_refuse, Cond.code yX7_refuse cX7_refuse 2 (some .int), Cond.fieldLink RX7 30 "StarterBayModel" "reason" "I", Cond.methodLink RX7 42 yX7_record, Cond.instanceMethod yX7_record, Cond.selects RX7 yX7_record yX7_record, Cond.code yX7_record cX7_record 2 none, Cond.fieldLink RX7 26 "StarterBayModel" "kept" "I", Cond.methodLink RX7 45 yX7_put, Cond.instanceMethod yX7_put, Cond.selects RX7 yX7_put yX7_put, Cond.code yX7_put cX7_put 4 none, Cond.methodLink RL 18 yX6_setNeed, Cond.instanceMethod yX6_setNeed]
def wsL_law_r9 : List Cond := [Cond.selects RX6 yX6_setNeed yX6_setNeed, Cond.code yX6_setNeed cX6_setNeed 5 (some .int), Cond.fieldLink RX6 75 "StarterBay$Motor" "need" "I", Cond.methodLink RX6 71 yX3_find, Cond.instanceMethod yX3_find, Cond.selects RX3 yX3_find yX3_find, Cond.code yX3_find cX3_find 2 (some (.object "StarterBay$Motor")), Cond.methodLink RL 22 yX7_setNeed, Cond.instanceMethod yX7_setNeed, Cond.selects RX7 yX7_setNeed yX7_setNeed, Cond.code yX7_setNeed cX7_setNeed 4 (some .int), Cond.methodLink RX7 49 yX7_noMotor, Cond.instanceMethod yX7_noMotor, Cond.selects RX7 yX7_noMotor yX7_noMotor, Cond.code yX7_noMotor cX7_noMotor 2 (some .boolean), Cond.methodLink RX7 53 yX7_of, Cond.instanceMethod yX7_of, Cond.selects RX7 yX7_of yX7_of, Cond.code yX7_of cX7_of 3 (some .int), Cond.methodLink RL 23 yX6_setLimit, Cond.instanceMethod yX6_setLimit, Cond.selects RX6 yX6_setLimit yX6_setLimit, Cond.code yX6_setLimit cX6_setLimit 3 (some .int), Cond.fieldLink RX6 78 "StarterBay$State" "limit" "I"]
def wsL_law_r10 : List Cond := [Cond.methodLink RL 27 yX7_setLimit, Cond.instanceMethod yX7_setLimit, Cond.selects RX7 yX7_setLimit yX7_setLimit, Cond.code yX7_setLimit cX7_setLimit 3 (some .int), Cond.methodLink RL 28 yX6_setFan, Cond.instanceMethod yX6_setFan, Cond.selects RX6 yX6_setFan yX6_setFan, Cond.code yX6_setFan cX6_setFan 2 (some .int), Cond.methodLink RX6 81 yX6_callOrder, Cond.instanceMethod yX6_callOrder, Cond.selects RX6 yX6_callOrder yX6_callOrder, Cond.code yX6_callOrder cX6_callOrder 5 (some .int), Cond.methodLink RX6 240 yX6_checkOrder, Cond.instanceMethod yX6_checkOrder, Cond.selects RX6 yX6_checkOrder yX6_checkOrder, Cond.code yX6_checkOrder cX6_checkOrder 5 (some .int), Cond.fieldLink RX6 203 "StarterBay$State" "fan" "Z", Cond.fieldLink RX6 149 "StarterBay$Motor" "mode" "I", Cond.methodLink RX6 246 yX6_checkLoss, Cond.instanceMethod yX6_checkLoss, Cond.selects RX6 yX6_checkLoss yX6_checkLoss, Cond.code yX6_checkLoss cX6_checkLoss 3 (some .int), Cond.fieldLink RX6 155 "StarterBay$Motor" "lost" "I", Cond.methodLink RX6 250 yX6_checkReset]
def wsL_law_r11 : List Cond := [Cond.instanceMethod yX6_checkReset, Cond.selects RX6 yX6_checkReset yX6_checkReset, Cond.code yX6_checkReset cX6_checkReset 2 (some .int), Cond.fieldLink RX6 152 "StarterBay$Motor" "heat" "I", Cond.fieldLink RX6 148 "StarterBay$Motor" "limit" "I", Cond.methodLink RX6 243 yX6_carryOut, Cond.instanceMethod yX6_carryOut, Cond.selects RX6 yX6_carryOut yX6_carryOut, Cond.code yX6_carryOut cX6_carryOut 5 (some .int), Cond.fieldLink RX6 98 "StarterBay$State" "clock" "I", Cond.fieldLink RX6 161 "StarterBay$Motor" "requestedAt" "I", Cond.methodLink RX6 253 yX2_change, Cond.instanceMethod yX2_change, Cond.selects RX2 yX2_change yX2_change, Cond.code yX2_change cX2_change 3 (some .int), Cond.methodLink RX6 256 yX3_note, Cond.instanceMethod yX3_note, Cond.selects RX3 yX3_note yX3_note, Cond.code yX3_note cX3_note 3 none, Cond.fieldLink RX3 61 "StarterBay$Motor" "number" "I", Cond.methodLink RX3 64 yX0_add, Cond.instanceMethod yX0_add, Cond.selects RX0 yX0_add yX0_add, Cond.code yX0_add cX0_add 5 none]
def wsL_law_r12 : List Cond := [Cond.methodLink RX0 31 yJ9_floorMod_7cf53, Cond.static yJ9_floorMod_7cf53, Cond.initialized RJ9, Cond.code yJ9_floorMod_7cf53 cJ9_floorMod_7cf53 3 (some .int), Cond.methodLink RX6 260 yX6_carryOutLoss, Cond.instanceMethod yX6_carryOutLoss, Cond.selects RX6 yX6_carryOutLoss yX6_carryOutLoss, Cond.code yX6_carryOutLoss cX6_carryOutLoss 4 (some .int), Cond.methodLink RX6 263 yX2_trip, Cond.instanceMethod yX2_trip, Cond.selects RX2 yX2_trip yX2_trip, Cond.code yX2_trip cX2_trip 2 (some .int), Cond.methodLink RL 32 yX7_setFan, Cond.instanceMethod yX7_setFan, Cond.selects RX7 yX7_setFan yX7_setFan, Cond.code yX7_setFan cX7_setFan 3 (some .int), Cond.methodLink RL 33 yX6_request, Cond.instanceMethod yX6_request, Cond.selects RX6 yX6_request yX6_request, Cond.code yX6_request cX6_request 3 (some .int), Cond.methodLink RX6 85 yX6_placeInLine, Cond.instanceMethod yX6_placeInLine, Cond.selects RX6 yX6_placeInLine yX6_placeInLine, Cond.code yX6_placeInLine cX6_placeInLine 4 (some .int)]
def wsL_law_r13 : List Cond := [Cond.methodLink RX6 182 yX6_fillLine, Cond.instanceMethod yX6_fillLine, Cond.selects RX6 yX6_fillLine yX6_fillLine, Cond.code yX6_fillLine cX6_fillLine 4 (some .int), Cond.methodLink RX6 300 yX3_isAhead, Cond.instanceMethod yX3_isAhead, Cond.selects RX3 yX3_isAhead yX3_isAhead, Cond.code yX3_isAhead cX3_isAhead 7 (some .boolean), Cond.fieldLink RX3 71 "StarterBay$Motor" "requestedAt" "I", Cond.methodLink RX3 74 yX3_urgency, Cond.instanceMethod yX3_urgency, Cond.selects RX3 yX3_urgency yX3_urgency, Cond.code yX3_urgency cX3_urgency 2 (some .int), Cond.fieldLink RX3 68 "StarterBay$Motor" "need" "I", Cond.methodLink RL 36 yX7_request, Cond.instanceMethod yX7_request, Cond.selects RX7 yX7_request yX7_request, Cond.code yX7_request cX7_request 3 (some .int), Cond.methodLink RX7 111 yX7_orders, Cond.instanceMethod yX7_orders, Cond.selects RX7 yX7_orders yX7_orders, Cond.code yX7_orders cX7_orders 5 (some .int), Cond.methodLink RX7 105 yX7_wrongIn, Cond.instanceMethod yX7_wrongIn]
def wsL_law_r14 : List Cond := [Cond.selects RX7 yX7_wrongIn yX7_wrongIn, Cond.code yX7_wrongIn cX7_wrongIn 5 (some .int), Cond.methodLink RX7 108 yX7_carryOut, Cond.instanceMethod yX7_carryOut, Cond.selects RX7 yX7_carryOut yX7_carryOut, Cond.code yX7_carryOut cX7_carryOut 4 none, Cond.methodLink RX7 98 yX7_note, Cond.instanceMethod yX7_note, Cond.selects RX7 yX7_note yX7_note, Cond.code yX7_note cX7_note 4 none, Cond.methodLink RX7 102 yX7_trip, Cond.instanceMethod yX7_trip, Cond.selects RX7 yX7_trip yX7_trip, Cond.code yX7_trip cX7_trip 3 none, Cond.methodLink RX7 95 yX7_more, Cond.instanceMethod yX7_more, Cond.selects RX7 yX7_more yX7_more, Cond.code yX7_more cX7_more 4 none, Cond.methodLink RX7 77 yX7_placeOf, Cond.instanceMethod yX7_placeOf, Cond.selects RX7 yX7_placeOf yX7_placeOf, Cond.code yX7_placeOf cX7_placeOf 4 (some .int), Cond.methodLink RX7 70 yX7_waits, Cond.instanceMethod yX7_waits]
def wsL_law_r15 : List Cond := [Cond.selects RX7 yX7_waits yX7_waits, Cond.code yX7_waits cX7_waits 2 (some .boolean), Cond.methodLink RX7 73 yX7_isAhead, Cond.instanceMethod yX7_isAhead, Cond.selects RX7 yX7_isAhead yX7_isAhead, Cond.code yX7_isAhead cX7_isAhead 5 (some .boolean), Cond.methodLink RX7 67 yX7_waitedOf, Cond.instanceMethod yX7_waitedOf, Cond.selects RX7 yX7_waitedOf yX7_waitedOf, Cond.code yX7_waitedOf cX7_waitedOf 2 (some .int), Cond.methodLink RL 37 yX6_stop, Cond.instanceMethod yX6_stop, Cond.selects RX6 yX6_stop yX6_stop, Cond.code yX6_stop cX6_stop 2 (some .int), Cond.methodLink RL 40 yX7_stop, Cond.instanceMethod yX7_stop, Cond.selects RX7 yX7_stop yX7_stop, Cond.code yX7_stop cX7_stop 4 (some .int), Cond.methodLink RL 41 yX6_losePhases, Cond.instanceMethod yX6_losePhases, Cond.selects RX6 yX6_losePhases yX6_losePhases, Cond.code yX6_losePhases cX6_losePhases 3 (some .int), Cond.methodLink RL 44 yX7_losePhases, Cond.instanceMethod yX7_losePhases]
def wsL_law_r16 : List Cond := [Cond.selects RX7 yX7_losePhases yX7_losePhases, Cond.code yX7_losePhases cX7_losePhases 5 (some .int), Cond.methodLink RL 45 yX6_reset, Cond.instanceMethod yX6_reset, Cond.selects RX6 yX6_reset yX6_reset, Cond.code yX6_reset cX6_reset 2 (some .int), Cond.methodLink RL 48 yX7_reset, Cond.instanceMethod yX7_reset, Cond.selects RX7 yX7_reset yX7_reset, Cond.code yX7_reset cX7_reset 3 (some .int), Cond.methodLink RL 49 yX6_pass, Cond.instanceMethod yX6_pass, Cond.selects RX6 yX6_pass yX6_pass, Cond.code yX6_pass cX6_pass 4 (some .int), Cond.methodLink RX6 88 yX6_carryOutDueItems, Cond.instanceMethod yX6_carryOutDueItems, Cond.selects RX6 yX6_carryOutDueItems yX6_carryOutDueItems, Cond.code yX6_carryOutDueItems cX6_carryOutDueItems 3 none, Cond.fieldLink RX6 115 "StarterBay$State" "timetable" "LStarterBay$Timetable;", Cond.fieldLink RX6 266 "StarterBay$Timetable" "next" "I", Cond.fieldLink RX6 269 "StarterBay$Timetable" "size" "I", Cond.fieldLink RX6 270 "StarterBay$Timetable" "due" "[I", Cond.fieldLink RX6 273 "StarterBay$Timetable" "order" "[I", Cond.fieldLink RX6 276 "StarterBay$Timetable" "first" "[I"]
def wsL_law_r17 : List Cond := [Cond.fieldLink RX6 279 "StarterBay$Timetable" "second" "[I", Cond.methodLink RX6 282 yX6_carryOutItem, Cond.instanceMethod yX6_carryOutItem, Cond.selects RX6 yX6_carryOutItem yX6_carryOutItem, Cond.code yX6_carryOutItem cX6_carryOutItem 5 none, Cond.fieldLink RX6 225 "StarterBay$State" "refusedItems" "I", Cond.methodLink RX6 91 yX6_startFirstThatCan, Cond.instanceMethod yX6_startFirstThatCan, Cond.selects RX6 yX6_startFirstThatCan yX6_startFirstThatCan, Cond.code yX6_startFirstThatCan cX6_startFirstThatCan 4 (some .boolean), Cond.fieldLink RX6 158 "StarterBay$Motor" "rampSeconds" "I", Cond.fieldLink RX6 179 "StarterBay$Motor" "accounts" "[I", Cond.methodLink RX6 185 yX3_reasonAgainst, Cond.instanceMethod yX3_reasonAgainst, Cond.selects RX3 yX3_reasonAgainst yX3_reasonAgainst, Cond.code yX3_reasonAgainst cX3_reasonAgainst 2 (some .int), Cond.fieldLink RX3 78 "StarterBay$Motor" "lost" "I", Cond.fieldLink RX3 85 "StarterBay$Motor" "heatToStart" "I", Cond.methodLink RX3 81 yX2_credit, Cond.instanceMethod yX2_credit, Cond.selects RX2 yX2_credit yX2_credit, Cond.code yX2_credit cX2_credit 1 (some .int), Cond.methodLink RX3 88 yX2_peak, Cond.instanceMethod yX2_peak]
def wsL_law_r18 : List Cond := [Cond.selects RX2 yX2_peak yX2_peak, Cond.code yX2_peak cX2_peak 1 (some .int), Cond.methodLink RX3 91 yX3_takenCurrent, Cond.instanceMethod yX3_takenCurrent, Cond.selects RX3 yX3_takenCurrent yX3_takenCurrent, Cond.code yX3_takenCurrent cX3_takenCurrent 4 (some .int), Cond.fieldLink RX3 94 "StarterBay$Motor" "mode" "I", Cond.methodLink RX3 97 yX2_draw, Cond.instanceMethod yX2_draw, Cond.selects RX2 yX2_draw yX2_draw, Cond.code yX2_draw cX2_draw 1 (some .int), Cond.methodLink RX2 68 yX2_peak, Cond.methodLink RX6 286 yX6_passOver, Cond.instanceMethod yX6_passOver, Cond.selects RX6 yX6_passOver yX6_passOver, Cond.code yX6_passOver cX6_passOver 3 none, Cond.methodLink RX6 95 yX6_heatMotors, Cond.instanceMethod yX6_heatMotors, Cond.selects RX6 yX6_heatMotors yX6_heatMotors, Cond.code yX6_heatMotors cX6_heatMotors 3 none, Cond.methodLink RX6 290 yX2_countSecond, Cond.instanceMethod yX2_countSecond, Cond.selects RX2 yX2_countSecond yX2_countSecond, Cond.code yX2_countSecond cX2_countSecond 1 none]
def wsL_law_r19 : List Cond := [Cond.methodLink RX2 76 yX2_turns, Cond.instanceMethod yX2_turns, Cond.selects RX2 yX2_turns yX2_turns, Cond.code yX2_turns cX2_turns 1 (some .boolean), Cond.methodLink RX6 293 yX2_exchangeHeat, Cond.instanceMethod yX2_exchangeHeat, Cond.selects RX2 yX2_exchangeHeat yX2_exchangeHeat, Cond.code yX2_exchangeHeat cX2_exchangeHeat 4 none, Cond.methodLink RX2 80 yX2_draw, Cond.static yX6_givenOff, Cond.code yX6_givenOff cX6_givenOff 4 (some .int), Cond.methodLink RX6 297 yX2_endSecond, Cond.instanceMethod yX2_endSecond, Cond.selects RX2 yX2_endSecond yX2_endSecond, Cond.code yX2_endSecond cX2_endSecond 1 (some .int), Cond.methodLink RX2 91 yX2_trip, Cond.methodLink RL 52 yX7_pass, Cond.instanceMethod yX7_pass, Cond.selects RX7 yX7_pass yX7_pass, Cond.code yX7_pass cX7_pass 5 (some .int), Cond.methodLink RX7 121 yX7_carryOutItems, Cond.instanceMethod yX7_carryOutItems, Cond.selects RX7 yX7_carryOutItems yX7_carryOutItems, Cond.code yX7_carryOutItems cX7_carryOutItems 5 none]
def wsL_law_r20 : List Cond := [Cond.methodLink RX7 124 yX7_startOne, Cond.instanceMethod yX7_startOne, Cond.selects RX7 yX7_startOne yX7_startOne, Cond.code yX7_startOne cX7_startOne 4 (some .int), Cond.methodLink RX7 80 yX7_waitingAt, Cond.instanceMethod yX7_waitingAt, Cond.selects RX7 yX7_waitingAt yX7_waitingAt, Cond.code yX7_waitingAt cX7_waitingAt 3 (some .int), Cond.methodLink RX7 92 yX7_against, Cond.instanceMethod yX7_against, Cond.selects RX7 yX7_against yX7_against, Cond.code yX7_against cX7_against 4 (some .int), Cond.methodLink RX7 83 yX7_credit, Cond.instanceMethod yX7_credit, Cond.selects RX7 yX7_credit yX7_credit, Cond.code yX7_credit cX7_credit 2 (some .int), Cond.methodLink RX7 86 yX7_needed, Cond.instanceMethod yX7_needed, Cond.selects RX7 yX7_needed yX7_needed, Cond.code yX7_needed cX7_needed 2 (some .int), Cond.methodLink RX7 64 yX7_heatOfRamp, Cond.instanceMethod yX7_heatOfRamp, Cond.selects RX7 yX7_heatOfRamp yX7_heatOfRamp, Cond.code yX7_heatOfRamp cX7_heatOfRamp 6 (some .int)]
def wsL_law_r21 : List Cond := [Cond.methodLink RX7 57 yX7_peak, Cond.instanceMethod yX7_peak, Cond.selects RX7 yX7_peak yX7_peak, Cond.code yX7_peak cX7_peak 2 (some .int), Cond.methodLink RX7 60 yX7_ramped, Cond.static yX7_ramped, Cond.code yX7_ramped cX7_ramped 3 (some .int), Cond.methodLink RX7 89 yX7_draws, Cond.instanceMethod yX7_draws, Cond.selects RX7 yX7_draws yX7_draws, Cond.code yX7_draws cX7_draws 2 (some .int), Cond.methodLink RX7 128 yX7_goesOn, Cond.instanceMethod yX7_goesOn, Cond.selects RX7 yX7_goesOn yX7_goesOn, Cond.code yX7_goesOn cX7_goesOn 7 none, Cond.methodLink RX7 114 yX7_turns, Cond.instanceMethod yX7_turns, Cond.selects RX7 yX7_turns yX7_turns, Cond.code yX7_turns cX7_turns 2 (some .boolean), Cond.methodLink RX7 117 yX7_rate, Cond.instanceMethod yX7_rate, Cond.selects RX7 yX7_rate yX7_rate, Cond.code yX7_rate cX7_rate 2 (some .int), Cond.methodLink RL 53 yX6_type]
def wsL_law_r22 : List Cond := [Cond.instanceMethod yX6_type, Cond.selects RX6 yX6_type yX6_type, Cond.code yX6_type cX6_type 2 (some .int), Cond.fieldLink RX6 101 "StarterBay$TimetableText" "length" "I", Cond.fieldLink RX6 104 "StarterBay$TimetableText" "characters" "[C", Cond.methodLink RL 57 yX7_type, Cond.instanceMethod yX7_type, Cond.selects RX7 yX7_type yX7_type, Cond.code yX7_type cX7_type 2 (some .int), Cond.fieldLink RX7 132 "StarterBayModel" "typed" "I", Cond.methodLink RL 58 yX6_clearText, Cond.instanceMethod yX6_clearText, Cond.selects RX6 yX6_clearText yX6_clearText, Cond.code yX6_clearText cX6_clearText 2 (some .int), Cond.methodLink RL 62 yX7_clearText, Cond.instanceMethod yX7_clearText, Cond.selects RX7 yX7_clearText yX7_clearText, Cond.code yX7_clearText cX7_clearText 2 (some .int), Cond.methodLink RL 63 yX6_readTimetable, Cond.instanceMethod yX6_readTimetable, Cond.selects RX6 yX6_readTimetable yX6_readTimetable, Cond.code yX6_readTimetable cX6_readTimetable 1 (some .int), Cond.fieldLink RX6 112 "StarterBay$TimetableText" "at" "I", Cond.methodLink RX6 108 yX5_readInto]
def wsL_law_r23 : List Cond := [Cond.instanceMethod yX5_readInto, Cond.selects RX5 yX5_readInto yX5_readInto, Cond.code yX5_readInto cX5_readInto 4 (some .boolean), Cond.fieldLink RX5 15 "StarterBay$TimetableText" "at" "I", Cond.fieldLink RX5 19 "StarterBay$TimetableText" "time" "I", Cond.fieldLink RX5 27 "StarterBay$TimetableText" "length" "I", Cond.fieldLink RX5 34 "StarterBay$TimetableText" "order" "I", Cond.fieldLink RX5 37 "StarterBay$TimetableText" "first" "I", Cond.fieldLink RX5 40 "StarterBay$TimetableText" "second" "I", Cond.methodLink RX5 22 yX4_empty, Cond.instanceMethod yX4_empty, Cond.selects RX4 yX4_empty yX4_empty, Cond.code yX4_empty cX4_empty 1 none, Cond.methodLink RX5 30 yX5_readItem, Cond.instanceMethod yX5_readItem, Cond.selects RX5 yX5_readItem yX5_readItem, Cond.code yX5_readItem cX5_readItem 1 (some .boolean), Cond.methodLink RX5 47 yX5_readTime, Cond.instanceMethod yX5_readTime, Cond.selects RX5 yX5_readTime yX5_readTime, Cond.code yX5_readTime cX5_readTime 5 (some .boolean), Cond.methodLink RX5 59 yX5_partEnd, Cond.instanceMethod yX5_partEnd, Cond.selects RX5 yX5_partEnd yX5_partEnd]
def wsL_law_r24 : List Cond := [Cond.code yX5_partEnd cX5_partEnd 2 (some .int), Cond.methodLink RX5 50 yX5_readBlank, Cond.instanceMethod yX5_readBlank, Cond.selects RX5 yX5_readBlank yX5_readBlank, Cond.code yX5_readBlank cX5_readBlank 1 (some .boolean), Cond.methodLink RX5 53 yX5_readOrder, Cond.instanceMethod yX5_readOrder, Cond.selects RX5 yX5_readOrder yX5_readOrder, Cond.code yX5_readOrder cX5_readOrder 3 (some .boolean), Cond.methodLink RX5 67 yX5_wordOf, Cond.static yX5_wordOf, Cond.code yX5_wordOf cX5_wordOf 1 (some (.object "java/lang/String")), Cond.methodLink RX5 71 yX5_isPart, Cond.instanceMethod yX5_isPart, Cond.selects RX5 yX5_isPart yX5_isPart, Cond.code yX5_isPart cX5_isPart 4 (some .boolean), Cond.methodLink RX5 85 yJ0_length_8abf5, Cond.instanceMethod yJ0_length_8abf5, Cond.selects RJ0 yJ0_length_8abf5 yJ0_length_8abf5, Cond.initialized RJ0, Cond.code yJ0_length_8abf5 cJ0_length_8abf5 1 (some .int), Cond.fieldLink RJ0 9 "java/lang/String" "value" "[B", Cond.methodLink RJ0 335 yJ0_coder_7d493, Cond.instanceMethod yJ0_coder_7d493]
def wsL_law_r25 : List Cond := [Cond.selects RJ0 yJ0_coder_7d493 yJ0_coder_7d493, Cond.code yJ0_coder_7d493 cJ0_coder_7d493 1 (some .byte), Cond.fieldLink RJ0 38 "java/lang/String" "COMPACT_STRINGS" "Z", Cond.fieldLink RJ0 15 "java/lang/String" "coder" "B", Cond.methodLink RX5 89 yJ0_charAt_5068e, Cond.instanceMethod yJ0_charAt_5068e, Cond.selects RJ0 yJ0_charAt_5068e yJ0_charAt_5068e, Cond.code yJ0_charAt_5068e cJ0_charAt_5068e 2 (some .char), Cond.methodLink RJ0 492 yJ0_isLatin1_aae02, Cond.instanceMethod yJ0_isLatin1_aae02, Cond.selects RJ0 yJ0_isLatin1_aae02 yJ0_isLatin1_aae02, Cond.code yJ0_isLatin1_aae02 cJ0_isLatin1_aae02 1 (some .boolean), Cond.methodLink RJ0 495 yJ1_charAt_3b067, Cond.static yJ1_charAt_3b067, Cond.initialized RJ1, Cond.code yJ1_charAt_3b067 cJ1_charAt_3b067 2 (some .char), Cond.methodLink RJ1 9 yJ0_checkIndex_df160, Cond.static yJ0_checkIndex_df160, Cond.code yJ0_checkIndex_df160 cJ0_checkIndex_df160 2 none, Cond.fieldLink RJ0 1053 "jdk/internal/util/Preconditions" "SIOOBE_FORMATTER" "Ljava/util/function/BiFunction;", Cond.methodLink RJ0 1059 yJ3_checkIndex_8e157, Cond.static yJ3_checkIndex_8e157, Cond.initialized RJ3, Cond.code yJ3_checkIndex_8e157 cJ3_checkIndex_8e157 3 (some .int)]
def wsL_law_r26 : List Cond := [Cond.methodLink RJ0 498 yJ2_charAt_3b067, Cond.static yJ2_charAt_3b067, Cond.initialized RJ2, Cond.code yJ2_charAt_3b067 cJ2_charAt_3b067 2 (some .char), Cond.methodLink RJ2 67 yJ2_checkIndex_2214a, Cond.static yJ2_checkIndex_2214a, Cond.code yJ2_checkIndex_2214a cJ2_checkIndex_2214a 2 none, Cond.methodLink RJ2 48 yJ2_length_9d52b, Cond.static yJ2_length_9d52b, Cond.code yJ2_length_9d52b cJ2_length_9d52b 1 (some .int), Cond.methodLink RJ2 414 yJ0_checkIndex_df160, Cond.methodLink RJ2 71 yJ2_getChar_3b067, Cond.static yJ2_getChar_3b067, Cond.code yJ2_getChar_3b067 cJ2_getChar_3b067 2 (some .char), Cond.fieldLink RJ2 44 "java/lang/StringUTF16" "$assertionsDisabled" "Z", Cond.fieldLink RJ2 59 "java/lang/StringUTF16" "HI_BYTE_SHIFT" "I", Cond.fieldLink RJ2 63 "java/lang/StringUTF16" "LO_BYTE_SHIFT" "I", Cond.methodLink RX5 56 yX5_readNumbers, Cond.instanceMethod yX5_readNumbers, Cond.selects RX5 yX5_readNumbers yX5_readNumbers, Cond.code yX5_readNumbers cX5_readNumbers 1 (some .boolean), Cond.methodLink RX5 93 yX5_readDigit, Cond.instanceMethod yX5_readDigit, Cond.selects RX5 yX5_readDigit yX5_readDigit]
def wsL_law_r27 : List Cond := [Cond.code yX5_readDigit cX5_readDigit 4 (some .int), Cond.methodLink RX5 43 yX4_add, Cond.instanceMethod yX4_add, Cond.selects RX4 yX4_add yX4_add, Cond.code yX4_add cX4_add 5 none, Cond.methodLink RX6 118 yX4_copyFrom, Cond.methodLink RX6 122 yX4_left, Cond.instanceMethod yX4_left, Cond.selects RX4 yX4_left yX4_left, Cond.code yX4_left cX4_left 1 (some .int), Cond.methodLink RL 66 yX7_readTimetable, Cond.instanceMethod yX7_readTimetable, Cond.selects RX7 yX7_readTimetable yX7_readTimetable, Cond.code yX7_readTimetable cX7_readTimetable 3 (some .int), Cond.fieldLink RX7 135 "StarterBayModel" "at" "I", Cond.fieldLink RX7 142 "StarterBayModel" "readMany" "I", Cond.methodLink RX7 161 yX7_readsItem, Cond.instanceMethod yX7_readsItem, Cond.selects RX7 yX7_readsItem yX7_readsItem, Cond.code yX7_readsItem cX7_readsItem 3 (some .boolean), Cond.methodLink RX7 145 yX7_end, Cond.instanceMethod yX7_end, Cond.selects RX7 yX7_end yX7_end, Cond.code yX7_end cX7_end 2 (some .int)]
def wsL_law_r28 : List Cond := [Cond.methodLink RX7 148 yX7_timeAt, Cond.instanceMethod yX7_timeAt, Cond.selects RX7 yX7_timeAt yX7_timeAt, Cond.code yX7_timeAt cX7_timeAt 6 (some .int), Cond.methodLink RX7 151 yX7_takesBlank, Cond.instanceMethod yX7_takesBlank, Cond.selects RX7 yX7_takesBlank yX7_takesBlank, Cond.code yX7_takesBlank cX7_takesBlank 1 (some .boolean), Cond.methodLink RX7 155 yX7_wordAt, Cond.instanceMethod yX7_wordAt, Cond.selects RX7 yX7_wordAt yX7_wordAt, Cond.code yX7_wordAt cX7_wordAt 2 (some .int), Cond.methodLink RX7 138 yX7_isWord, Cond.instanceMethod yX7_isWord, Cond.selects RX7 yX7_isWord yX7_isWord, Cond.code yX7_isWord cX7_isWord 8 (some .boolean), Cond.methodLink RX7 158 yX7_digitAt, Cond.instanceMethod yX7_digitAt, Cond.selects RX7 yX7_digitAt yX7_digitAt, Cond.code yX7_digitAt cX7_digitAt 3 (some .int), Cond.methodLink RL 67 yX6_undo, Cond.instanceMethod yX6_undo, Cond.selects RX6 yX6_undo yX6_undo, Cond.code yX6_undo cX6_undo 1 (some .int)]
def wsL_law_r29 : List Cond := [Cond.fieldLink RX6 130 "StarterBay$History" "size" "I", Cond.methodLink RX6 126 yX1_takeBack, Cond.instanceMethod yX1_takeBack, Cond.selects RX1 yX1_takeBack yX1_takeBack, Cond.code yX1_takeBack cX1_takeBack 2 (some .boolean), Cond.methodLink RL 70 yX7_undo, Cond.instanceMethod yX7_undo, Cond.selects RX7 yX7_undo yX7_undo, Cond.code yX7_undo cX7_undo 2 (some .int), Cond.methodLink RL 71 yX6_keep, Cond.instanceMethod yX6_keep, Cond.selects RX6 yX6_keep yX6_keep, Cond.code yX6_keep cX6_keep 1 (some .int), Cond.fieldLink RX6 135 "StarterBay" "hasSnapshot" "Z", Cond.methodLink RX6 133 yX3_copyFrom, Cond.methodLink RL 74 yX7_keep, Cond.instanceMethod yX7_keep, Cond.selects RX7 yX7_keep yX7_keep, Cond.code yX7_keep cX7_keep 2 (some .int), Cond.fieldLink RX7 164 "StarterBayModel" "isFilled" "Z", Cond.methodLink RL 75 yX6_restore, Cond.instanceMethod yX6_restore, Cond.selects RX6 yX6_restore yX6_restore, Cond.code yX6_restore cX6_restore 1 (some .int)]
def wsL_law_r30 : List Cond := [Cond.methodLink RL 78 yX7_restore, Cond.instanceMethod yX7_restore, Cond.selects RX7 yX7_restore yX7_restore, Cond.code yX7_restore cX7_restore 2 (some .int), Cond.methodLink RL 79 yX6_motor, Cond.instanceMethod yX6_motor, Cond.selects RX6 yX6_motor yX6_motor, Cond.code yX6_motor cX6_motor 4 (some .int), Cond.fieldLink RX6 139 "StarterBay$Motor" "rated" "I", Cond.fieldLink RX6 142 "StarterBay$Motor" "ramp" "I", Cond.fieldLink RX6 145 "StarterBay$Motor" "factor" "I", Cond.fieldLink RX6 167 "StarterBay$Motor" "tripReason" "I", Cond.methodLink RX6 173 Lib.Math.max.name, Cond.static Lib.Math.max.name, Cond.initialized "java/lang/Math", Cond.code Lib.Math.max.name Lib.Math.max.code 2 (some .int), Cond.methodLink RX6 164 yX2_draw, Cond.methodLink RX6 170 yX2_credit, Cond.methodLink RL 82 yX7_motor, Cond.instanceMethod yX7_motor, Cond.selects RX7 yX7_motor yX7_motor, Cond.code yX7_motor cX7_motor 4 (some .int), Cond.methodLink RL 83 yX6_account, Cond.instanceMethod yX6_account]
def wsL_law_r31 : List Cond := [Cond.selects RX6 yX6_account yX6_account, Cond.code yX6_account cX6_account 4 (some .int), Cond.methodLink RL 86 yX7_account, Cond.instanceMethod yX7_account, Cond.selects RX7 yX7_account yX7_account, Cond.code yX7_account cX7_account 3 (some .int), Cond.methodLink RL 87 yX6_queue, Cond.instanceMethod yX6_queue, Cond.selects RX6 yX6_queue yX6_queue, Cond.code yX6_queue cX6_queue 3 (some .int), Cond.methodLink RL 90 yX7_queue, Cond.instanceMethod yX7_queue, Cond.selects RX7 yX7_queue yX7_queue, Cond.code yX7_queue cX7_queue 2 (some .int), Cond.methodLink RL 91 yX6_whyNot, Cond.instanceMethod yX6_whyNot, Cond.selects RX6 yX6_whyNot yX6_whyNot, Cond.code yX6_whyNot cX6_whyNot 3 (some .int), Cond.methodLink RL 94 yX7_whyNot, Cond.instanceMethod yX7_whyNot, Cond.selects RX7 yX7_whyNot yX7_whyNot, Cond.code yX7_whyNot cX7_whyNot 2 (some .int), Cond.methodLink RL 95 yX6_event, Cond.instanceMethod yX6_event]
def wsL_law_r32 : List Cond := [Cond.selects RX6 yX6_event yX6_event, Cond.code yX6_event cX6_event 3 (some .int), Cond.fieldLink RX6 189 "StarterBay$State" "events" "LStarterBay$EventLog;", Cond.methodLink RX6 193 yX0_tell, Cond.instanceMethod yX0_tell, Cond.selects RX0 yX0_tell yX0_tell, Cond.code yX0_tell cX0_tell 4 (some .int), Cond.methodLink RX0 37 Lib.Math.min.name, Cond.static Lib.Math.min.name, Cond.code Lib.Math.min.name Lib.Math.min.code 2 (some .int), Cond.methodLink RL 98 yX7_event, Cond.instanceMethod yX7_event, Cond.selects RX7 yX7_event yX7_event, Cond.code yX7_event cX7_event 3 (some .int), Cond.methodLink RL 99 yX6_item, Cond.instanceMethod yX6_item, Cond.selects RX6 yX6_item yX6_item, Cond.code yX6_item cX6_item 3 (some .int), Cond.methodLink RX6 198 yX4_tell, Cond.instanceMethod yX4_tell, Cond.selects RX4 yX4_tell yX4_tell, Cond.code yX4_tell cX4_tell 5 (some .int), Cond.methodLink RX4 37 yX4_left, Cond.methodLink RL 102 yX7_item]
def wsL_law_r33 : List Cond := [Cond.instanceMethod yX7_item, Cond.selects RX7 yX7_item yX7_item, Cond.code yX7_item cX7_item 4 (some .int), Cond.methodLink RL 103 yX6_startHeat, Cond.instanceMethod yX6_startHeat, Cond.selects RX6 yX6_startHeat yX6_startHeat, Cond.code yX6_startHeat cX6_startHeat 3 (some .int), Cond.fieldLink RX6 200 "StarterBay$Motor" "heatToStart" "I", Cond.methodLink RL 106 yX7_startHeat, Cond.instanceMethod yX7_startHeat, Cond.selects RX7 yX7_startHeat yX7_startHeat, Cond.code yX7_startHeat cX7_startHeat 2 (some .int), Cond.methodLink RL 107 yX6_coolTime, Cond.instanceMethod yX6_coolTime, Cond.selects RX6 yX6_coolTime yX6_coolTime, Cond.code yX6_coolTime cX6_coolTime 5 (some .int), Cond.methodLink RX6 206 yX6_givenOff, Cond.methodLink RL 110 yX7_coolTime, Cond.instanceMethod yX7_coolTime, Cond.selects RX7 yX7_coolTime yX7_coolTime, Cond.code yX7_coolTime cX7_coolTime 5 (some .int), Cond.methodLink RL 111 yX6_runTime, Cond.instanceMethod yX6_runTime, Cond.selects RX6 yX6_runTime yX6_runTime]
def wsL_law_r34 : List Cond := [Cond.code yX6_runTime cX6_runTime 5 (some .int), Cond.methodLink RL 114 yX7_runTime, Cond.instanceMethod yX7_runTime, Cond.selects RX7 yX7_runTime yX7_runTime, Cond.code yX7_runTime cX7_runTime 4 (some .int), Cond.methodLink RL 115 yX6_longestRamp, Cond.instanceMethod yX6_longestRamp, Cond.selects RX6 yX6_longestRamp yX6_longestRamp, Cond.code yX6_longestRamp cX6_longestRamp 4 (some .int), Cond.methodLink RX6 213 yX2_peak, Cond.methodLink RX6 216 yX6_heatOfStart, Cond.methodLink RL 118 yX7_longestRamp, Cond.instanceMethod yX7_longestRamp, Cond.selects RX7 yX7_longestRamp yX7_longestRamp, Cond.code yX7_longestRamp cX7_longestRamp 3 (some .int), Cond.methodLink RL 119 yX6_count, Cond.instanceMethod yX6_count, Cond.selects RX6 yX6_count yX6_count, Cond.code yX6_count cX6_count 2 (some .int), Cond.fieldLink RX6 237 "StarterBay$EventLog" "total" "I", Cond.methodLink RX6 219 yX3_motorsInMode, Cond.instanceMethod yX3_motorsInMode, Cond.selects RX3 yX3_motorsInMode yX3_motorsInMode, Cond.code yX3_motorsInMode cX3_motorsInMode 4 (some .int)]
def wsL_law_r35 : List Cond := [Cond.methodLink RX6 228 yX3_sumOfAccount, Cond.instanceMethod yX3_sumOfAccount, Cond.selects RX3 yX3_sumOfAccount yX3_sumOfAccount, Cond.code yX3_sumOfAccount cX3_sumOfAccount 4 (some .int), Cond.fieldLink RX3 100 "StarterBay$Motor" "accounts" "[I", Cond.methodLink RX6 231 yX3_sumOfHeat, Cond.instanceMethod yX3_sumOfHeat, Cond.selects RX3 yX3_sumOfHeat yX3_sumOfHeat, Cond.code yX3_sumOfHeat cX3_sumOfHeat 3 (some .int), Cond.fieldLink RX3 104 "StarterBay$Motor" "heat" "I", Cond.methodLink RX6 234 yX3_sumOfDraws, Cond.instanceMethod yX3_sumOfDraws, Cond.selects RX3 yX3_sumOfDraws yX3_sumOfDraws, Cond.code yX3_sumOfDraws cX3_sumOfDraws 3 (some .int), Cond.methodLink RL 122 yX7_count, Cond.instanceMethod yX7_count, Cond.selects RX7 yX7_count yX7_count, Cond.code yX7_count cX7_count 2 (some .int), Cond.methodLink RX7 168 yX7_inMode, Cond.instanceMethod yX7_inMode, Cond.selects RX7 yX7_inMode yX7_inMode, Cond.code yX7_inMode cX7_inMode 4 (some .int), Cond.methodLink RX7 171 yX7_sumOf, Cond.instanceMethod yX7_sumOf]
def wsL_law_r36 : List Cond := [Cond.selects RX7 yX7_sumOf yX7_sumOf, Cond.code yX7_sumOf cX7_sumOf 4 (some .int), Cond.methodLink RX7 174 yX7_allDraw, Cond.instanceMethod yX7_allDraw, Cond.selects RX7 yX7_allDraw yX7_allDraw, Cond.code yX7_allDraw cX7_allDraw 3 (some .int)]
def wsL_law : List Cond := (wsL_law_r1 ++ (wsL_law_r2 ++ (wsL_law_r3 ++ (wsL_law_r4 ++ (wsL_law_r5 ++ (wsL_law_r6 ++ (wsL_law_r7 ++ (wsL_law_r8 ++ (wsL_law_r9 ++ (wsL_law_r10 ++ (wsL_law_r11 ++ (wsL_law_r12 ++ (wsL_law_r13 ++ (wsL_law_r14 ++ (wsL_law_r15 ++ (wsL_law_r16 ++ (wsL_law_r17 ++ (wsL_law_r18 ++ (wsL_law_r19 ++ (wsL_law_r20 ++ (wsL_law_r21 ++ (wsL_law_r22 ++ (wsL_law_r23 ++ (wsL_law_r24 ++ (wsL_law_r25 ++ (wsL_law_r26 ++ (wsL_law_r27 ++ (wsL_law_r28 ++ (wsL_law_r29 ++ (wsL_law_r30 ++ (wsL_law_r31 ++ (wsL_law_r32 ++ (wsL_law_r33 ++ (wsL_law_r34 ++ (wsL_law_r35 ++ wsL_law_r36))))))))))))))))))))))))))))))))))) ++ wsX60 ++ wsX70 ++ wsX30 ++ wsX10 ++ wsX50 ++ wsX40 ++ wsX20 ++ wsX00 ++ ([] : List Cond)
abbrev vwCl : List vw_C := [(RX0, TX0, 4), (RX1, TX1, 2), (RX2, TX2, 15), (RX3, TX3, 8), (RX4, TX4, 6), (RX5, TX5, 7), (RX6, TX6, 8), (RX7, TX7, 11)]
-- the places of the words
set_option maxRecDepth 20000 in
theorem bt_1 : ∀ w ∈ wsL_law_r1, w ∈ lw_tbl := List.forall_mem_cons.mpr ⟨List.mem_of_getElem? (i := 75) (by decide +kernel), List.forall_mem_cons.mpr ⟨List.mem_of_getElem? (i := 76) (by decide +kernel), List.forall_mem_cons.mpr ⟨List.mem_of_getElem? (i := 61) (by decide +kernel), List.forall_mem_cons.mpr ⟨List.mem_of_getElem? (i := 753) (by decide +kernel), List.forall_mem_cons.mpr ⟨List.mem_of_getElem? (i := 754) (by decide +kernel), List.forall_mem_cons.mpr ⟨List.mem_of_getElem? (i := 68) (by decide +kernel), List.forall_mem_cons.mpr ⟨List.mem_of_getElem? (i := 77) (by decide +kernel), List.forall_mem_cons.mpr ⟨List.mem_of_getElem? (i := 78) (by decide +kernel), List.forall_mem_cons.mpr ⟨List.mem_of_getElem? (i := 79) (by decide +kernel), List.forall_mem_cons.mpr ⟨List.mem_of_getElem? (i := 80) (by decide +kernel), List.forall_mem_cons.mpr ⟨List.mem_of_getElem? (i := 81) (by decide +kernel), List.forall_mem_cons.mpr ⟨List.mem_of_getElem? (i := 82) (by decide +kernel), List.forall_mem_cons.mpr ⟨List.mem_of_getElem? (i := 83) (by decide +kernel), List.forall_mem_cons.mpr ⟨List.mem_of_getElem? (i := 84) (by decide +kernel), List.forall_mem_cons.mpr ⟨List.mem_of_getElem? (i := 62) (by decide +kernel), List.forall_mem_cons.mpr ⟨List.mem_of_getElem? (i := 299) (by decide +kernel), List.forall_mem_cons.mpr ⟨List.mem_of_getElem? (i := 248) (by decide +kernel), List.forall_mem_cons.mpr ⟨List.mem_of_getElem? (i := 249) (by decide +kernel), List.forall_mem_cons.mpr ⟨List.mem_of_getElem? (i := 66) (by decide +kernel), List.forall_mem_cons.mpr ⟨List.mem_of_getElem? (i := 300) (by decide +kernel), List.forall_mem_cons.mpr ⟨List.mem_of_getElem? (i := 301) (by decide +kernel), List.forall_mem_cons.mpr ⟨List.mem_of_getElem? (i := 265) (by decide +kernel), List.forall_mem_cons.mpr ⟨List.mem_of_getElem? (i := 266) (by decide +kernel), List.forall_mem_cons.mpr ⟨List.mem_of_getElem? (i := 67) (by decide +kernel), fun w h => absurd h List.not_mem_nil⟩⟩⟩⟩⟩⟩⟩⟩⟩⟩⟩⟩⟩⟩⟩⟩⟩⟩⟩⟩⟩⟩⟩⟩
theorem bg_1 : wsL_law_r1.all goodWord = true := by decide +kernel
set_option maxRecDepth 20000 in
theorem bt_2 : ∀ w ∈ wsL_law_r2, w ∈ lw_tbl := List.forall_mem_cons.mpr ⟨List.mem_of_getElem? (i := 303) (by decide +kernel), List.forall_mem_cons.mpr ⟨List.mem_of_getElem? (i := 297) (by decide +kernel), List.forall_mem_cons.mpr ⟨List.mem_of_getElem? (i := 165) (by decide +kernel), List.forall_mem_cons.mpr ⟨List.mem_of_getElem? (i := 64) (by decide +kernel), List.forall_mem_cons.mpr ⟨List.mem_of_getElem? (i := 304) (by decide +kernel), List.forall_mem_cons.mpr ⟨List.mem_of_getElem? (i := 163) (by decide +kernel), List.forall_mem_cons.mpr ⟨List.mem_of_getElem? (i := 305) (by decide +kernel), List.forall_mem_cons.mpr ⟨List.mem_of_getElem? (i := 85) (by decide +kernel), List.forall_mem_cons.mpr ⟨List.mem_of_getElem? (i := 86) (by decide +kernel), List.forall_mem_cons.mpr ⟨List.mem_of_getElem? (i := 87) (by decide +kernel), List.forall_mem_cons.mpr ⟨List.mem_of_getElem? (i := 88) (by decide +kernel), List.forall_mem_cons.mpr ⟨List.mem_of_getElem? (i := 89) (by decide +kernel), List.forall_mem_cons.mpr ⟨List.mem_of_getElem? (i := 215) (by decide +kernel), List.forall_mem_cons.mpr ⟨List.mem_of_getElem? (i := 91) (by decide +kernel), List.forall_mem_cons.mpr ⟨List.mem_of_getElem? (i := 63) (by decide +kernel), List.forall_mem_cons.mpr ⟨List.mem_of_getElem? (i := 164) (by decide +kernel), List.forall_mem_cons.mpr ⟨List.mem_of_getElem? (i := 217) (by decide +kernel), List.forall_mem_cons.mpr ⟨List.mem_of_getElem? (i := 195) (by decide +kernel), List.forall_mem_cons.mpr ⟨List.mem_of_getElem? (i := 196) (by decide +kernel), List.forall_mem_cons.mpr ⟨List.mem_of_getElem? (i := 65) (by decide +kernel), List.forall_mem_cons.mpr ⟨List.mem_of_getElem? (i := 219) (by decide +kernel), List.forall_mem_cons.mpr ⟨List.mem_of_getElem? (i := 225) (by decide +kernel), List.forall_mem_cons.mpr ⟨List.mem_of_getElem? (i := 92) (by decide +kernel), List.forall_mem_cons.mpr ⟨List.mem_of_getElem? (i := 93) (by decide +kernel), fun w h => absurd h List.not_mem_nil⟩⟩⟩⟩⟩⟩⟩⟩⟩⟩⟩⟩⟩⟩⟩⟩⟩⟩⟩⟩⟩⟩⟩⟩
theorem bg_2 : wsL_law_r2.all goodWord = true := by decide +kernel
set_option maxRecDepth 20000 in
theorem bt_3 : ∀ w ∈ wsL_law_r3, w ∈ lw_tbl := List.forall_mem_cons.mpr ⟨List.mem_of_getElem? (i := 94) (by decide +kernel), List.forall_mem_cons.mpr ⟨List.mem_of_getElem? (i := 95) (by decide +kernel), List.forall_mem_cons.mpr ⟨List.mem_of_getElem? (i := 96) (by decide +kernel), List.forall_mem_cons.mpr ⟨List.mem_of_getElem? (i := 98) (by decide +kernel), List.forall_mem_cons.mpr ⟨List.mem_of_getElem? (i := 166) (by decide +kernel), List.forall_mem_cons.mpr ⟨List.mem_of_getElem? (i := 167) (by decide +kernel), List.forall_mem_cons.mpr ⟨List.mem_of_getElem? (i := 168) (by decide +kernel), List.forall_mem_cons.mpr ⟨List.mem_of_getElem? (i := 169) (by decide +kernel), List.forall_mem_cons.mpr ⟨List.mem_of_getElem? (i := 170) (by decide +kernel), List.forall_mem_cons.mpr ⟨List.mem_of_getElem? (i := 172) (by decide +kernel), List.forall_mem_cons.mpr ⟨List.mem_of_getElem? (i := 174) (by decide +kernel), List.forall_mem_cons.mpr ⟨List.mem_of_getElem? (i := 176) (by decide +kernel), List.forall_mem_cons.mpr ⟨List.mem_of_getElem? (i := 197) (by decide +kernel), List.forall_mem_cons.mpr ⟨List.mem_of_getElem? (i := 198) (by decide +kernel), List.forall_mem_cons.mpr ⟨List.mem_of_getElem? (i := 199) (by decide +kernel), List.forall_mem_cons.mpr ⟨List.mem_of_getElem? (i := 200) (by decide +kernel), List.forall_mem_cons.mpr ⟨List.mem_of_getElem? (i := 201) (by decide +kernel), List.forall_mem_cons.mpr ⟨List.mem_of_getElem? (i := 202) (by decide +kernel), List.forall_mem_cons.mpr ⟨List.mem_of_getElem? (i := 203) (by decide +kernel), List.forall_mem_cons.mpr ⟨List.mem_of_getElem? (i := 250) (by decide +kernel), List.forall_mem_cons.mpr ⟨List.mem_of_getElem? (i := 251) (by decide +kernel), List.forall_mem_cons.mpr ⟨List.mem_of_getElem? (i := 252) (by decide +kernel), List.forall_mem_cons.mpr ⟨List.mem_of_getElem? (i := 253) (by decide +kernel), List.forall_mem_cons.mpr ⟨List.mem_of_getElem? (i := 254) (by decide +kernel), fun w h => absurd h List.not_mem_nil⟩⟩⟩⟩⟩⟩⟩⟩⟩⟩⟩⟩⟩⟩⟩⟩⟩⟩⟩⟩⟩⟩⟩⟩
theorem bg_3 : wsL_law_r3.all goodWord = true := by decide +kernel
set_option maxRecDepth 20000 in
theorem bt_4 : ∀ w ∈ wsL_law_r4, w ∈ lw_tbl := List.forall_mem_cons.mpr ⟨List.mem_of_getElem? (i := 257) (by decide +kernel), List.forall_mem_cons.mpr ⟨List.mem_of_getElem? (i := 256) (by decide +kernel), List.forall_mem_cons.mpr ⟨List.mem_of_getElem? (i := 267) (by decide +kernel), List.forall_mem_cons.mpr ⟨List.mem_of_getElem? (i := 268) (by decide +kernel), List.forall_mem_cons.mpr ⟨List.mem_of_getElem? (i := 269) (by decide +kernel), List.forall_mem_cons.mpr ⟨List.mem_of_getElem? (i := 270) (by decide +kernel), List.forall_mem_cons.mpr ⟨List.mem_of_getElem? (i := 296) (by decide +kernel), List.forall_mem_cons.mpr ⟨List.mem_of_getElem? (i := 271) (by decide +kernel), List.forall_mem_cons.mpr ⟨List.mem_of_getElem? (i := 298) (by decide +kernel), List.forall_mem_cons.mpr ⟨List.mem_of_getElem? (i := 755) (by decide +kernel), List.forall_mem_cons.mpr ⟨List.mem_of_getElem? (i := 756) (by decide +kernel), List.forall_mem_cons.mpr ⟨List.mem_of_getElem? (i := 757) (by decide +kernel), List.forall_mem_cons.mpr ⟨List.mem_of_getElem? (i := 758) (by decide +kernel), List.forall_mem_cons.mpr ⟨List.mem_of_getElem? (i := 759) (by decide +kernel), List.forall_mem_cons.mpr ⟨List.mem_of_getElem? (i := 760) (by decide +kernel), List.forall_mem_cons.mpr ⟨List.mem_of_getElem? (i := 762) (by decide +kernel), List.forall_mem_cons.mpr ⟨List.mem_of_getElem? (i := 766) (by decide +kernel), List.forall_mem_cons.mpr ⟨List.mem_of_getElem? (i := 769) (by decide +kernel), List.forall_mem_cons.mpr ⟨List.mem_of_getElem? (i := 324) (by decide +kernel), List.forall_mem_cons.mpr ⟨List.mem_of_getElem? (i := 325) (by decide +kernel), List.forall_mem_cons.mpr ⟨List.mem_of_getElem? (i := 326) (by decide +kernel), List.forall_mem_cons.mpr ⟨List.mem_of_getElem? (i := 327) (by decide +kernel), List.forall_mem_cons.mpr ⟨List.mem_of_getElem? (i := 331) (by decide +kernel), List.forall_mem_cons.mpr ⟨List.mem_of_getElem? (i := 222) (by decide +kernel), fun w h => absurd h List.not_mem_nil⟩⟩⟩⟩⟩⟩⟩⟩⟩⟩⟩⟩⟩⟩⟩⟩⟩⟩⟩⟩⟩⟩⟩⟩
theorem bg_4 : wsL_law_r4.all goodWord = true := by decide +kernel
set_option maxRecDepth 20000 in
theorem bt_5 : ∀ w ∈ wsL_law_r5, w ∈ lw_tbl := List.forall_mem_cons.mpr ⟨List.mem_of_getElem? (i := 216) (by decide +kernel), List.forall_mem_cons.mpr ⟨List.mem_of_getElem? (i := 328) (by decide +kernel), List.forall_mem_cons.mpr ⟨List.mem_of_getElem? (i := 329) (by decide +kernel), List.forall_mem_cons.mpr ⟨List.mem_of_getElem? (i := 330) (by decide +kernel), List.forall_mem_cons.mpr ⟨List.mem_of_getElem? (i := 332) (by decide +kernel), List.forall_mem_cons.mpr ⟨List.mem_of_getElem? (i := 334) (by decide +kernel), List.forall_mem_cons.mpr ⟨List.mem_of_getElem? (i := 0) (by decide +kernel), List.forall_mem_cons.mpr ⟨List.mem_of_getElem? (i := 335) (by decide +kernel), List.forall_mem_cons.mpr ⟨List.mem_of_getElem? (i := 306) (by decide +kernel), List.forall_mem_cons.mpr ⟨List.mem_of_getElem? (i := 336) (by decide +kernel), List.forall_mem_cons.mpr ⟨List.mem_of_getElem? (i := 337) (by decide +kernel), List.forall_mem_cons.mpr ⟨List.mem_of_getElem? (i := 338) (by decide +kernel), List.forall_mem_cons.mpr ⟨List.mem_of_getElem? (i := 339) (by decide +kernel), List.forall_mem_cons.mpr ⟨List.mem_of_getElem? (i := 258) (by decide +kernel), List.forall_mem_cons.mpr ⟨List.mem_of_getElem? (i := 340) (by decide +kernel), List.forall_mem_cons.mpr ⟨List.mem_of_getElem? (i := 342) (by decide +kernel), List.forall_mem_cons.mpr ⟨List.mem_of_getElem? (i := 1) (by decide +kernel), List.forall_mem_cons.mpr ⟨List.mem_of_getElem? (i := 343) (by decide +kernel), List.forall_mem_cons.mpr ⟨List.mem_of_getElem? (i := 344) (by decide +kernel), List.forall_mem_cons.mpr ⟨List.mem_of_getElem? (i := 345) (by decide +kernel), List.forall_mem_cons.mpr ⟨List.mem_of_getElem? (i := 346) (by decide +kernel), List.forall_mem_cons.mpr ⟨List.mem_of_getElem? (i := 347) (by decide +kernel), List.forall_mem_cons.mpr ⟨List.mem_of_getElem? (i := 221) (by decide +kernel), List.forall_mem_cons.mpr ⟨List.mem_of_getElem? (i := 223) (by decide +kernel), fun w h => absurd h List.not_mem_nil⟩⟩⟩⟩⟩⟩⟩⟩⟩⟩⟩⟩⟩⟩⟩⟩⟩⟩⟩⟩⟩⟩⟩⟩
theorem bg_5 : wsL_law_r5.all goodWord = true := by decide +kernel
set_option maxRecDepth 20000 in
theorem bt_6 : ∀ w ∈ wsL_law_r6, w ∈ lw_tbl := List.forall_mem_cons.mpr ⟨List.mem_of_getElem? (i := 227) (by decide +kernel), List.forall_mem_cons.mpr ⟨List.mem_of_getElem? (i := 229) (by decide +kernel), List.forall_mem_cons.mpr ⟨List.mem_of_getElem? (i := 348) (by decide +kernel), List.forall_mem_cons.mpr ⟨List.mem_of_getElem? (i := 349) (by decide +kernel), List.forall_mem_cons.mpr ⟨List.mem_of_getElem? (i := 350) (by decide +kernel), List.forall_mem_cons.mpr ⟨List.mem_of_getElem? (i := 351) (by decide +kernel), List.forall_mem_cons.mpr ⟨List.mem_of_getElem? (i := 101) (by decide +kernel), List.forall_mem_cons.mpr ⟨List.mem_of_getElem? (i := 103) (by decide +kernel), List.forall_mem_cons.mpr ⟨List.mem_of_getElem? (i := 105) (by decide +kernel), List.forall_mem_cons.mpr ⟨List.mem_of_getElem? (i := 107) (by decide +kernel), List.forall_mem_cons.mpr ⟨List.mem_of_getElem? (i := 109) (by decide +kernel), List.forall_mem_cons.mpr ⟨List.mem_of_getElem? (i := 112) (by decide +kernel), List.forall_mem_cons.mpr ⟨List.mem_of_getElem? (i := 115) (by decide +kernel), List.forall_mem_cons.mpr ⟨List.mem_of_getElem? (i := 118) (by decide +kernel), List.forall_mem_cons.mpr ⟨List.mem_of_getElem? (i := 121) (by decide +kernel), List.forall_mem_cons.mpr ⟨List.mem_of_getElem? (i := 124) (by decide +kernel), List.forall_mem_cons.mpr ⟨List.mem_of_getElem? (i := 126) (by decide +kernel), List.forall_mem_cons.mpr ⟨List.mem_of_getElem? (i := 129) (by decide +kernel), List.forall_mem_cons.mpr ⟨List.mem_of_getElem? (i := 131) (by decide +kernel), List.forall_mem_cons.mpr ⟨List.mem_of_getElem? (i := 352) (by decide +kernel), List.forall_mem_cons.mpr ⟨List.mem_of_getElem? (i := 354) (by decide +kernel), List.forall_mem_cons.mpr ⟨List.mem_of_getElem? (i := 353) (by decide +kernel), List.forall_mem_cons.mpr ⟨List.mem_of_getElem? (i := 69) (by decide +kernel), List.forall_mem_cons.mpr ⟨List.mem_of_getElem? (i := 355) (by decide +kernel), fun w h => absurd h List.not_mem_nil⟩⟩⟩⟩⟩⟩⟩⟩⟩⟩⟩⟩⟩⟩⟩⟩⟩⟩⟩⟩⟩⟩⟩⟩
theorem bg_6 : wsL_law_r6.all goodWord = true := by decide +kernel
set_option maxRecDepth 20000 in
theorem bt_7 : ∀ w ∈ wsL_law_r7, w ∈ lw_tbl := List.forall_mem_cons.mpr ⟨List.mem_of_getElem? (i := 356) (by decide +kernel), List.forall_mem_cons.mpr ⟨List.mem_of_getElem? (i := 357) (by decide +kernel), List.forall_mem_cons.mpr ⟨List.mem_of_getElem? (i := 358) (by decide +kernel), List.forall_mem_cons.mpr ⟨List.mem_of_getElem? (i := 359) (by decide +kernel), List.forall_mem_cons.mpr ⟨List.mem_of_getElem? (i := 178) (by decide +kernel), List.forall_mem_cons.mpr ⟨List.mem_of_getElem? (i := 180) (by decide +kernel), List.forall_mem_cons.mpr ⟨List.mem_of_getElem? (i := 360) (by decide +kernel), List.forall_mem_cons.mpr ⟨List.mem_of_getElem? (i := 361) (by decide +kernel), List.forall_mem_cons.mpr ⟨List.mem_of_getElem? (i := 362) (by decide +kernel), List.forall_mem_cons.mpr ⟨List.mem_of_getElem? (i := 363) (by decide +kernel), List.forall_mem_cons.mpr ⟨List.mem_of_getElem? (i := 364) (by decide +kernel), List.forall_mem_cons.mpr ⟨List.mem_of_getElem? (i := 204) (by decide +kernel), List.forall_mem_cons.mpr ⟨List.mem_of_getElem? (i := 365) (by decide +kernel), List.forall_mem_cons.mpr ⟨List.mem_of_getElem? (i := 366) (by decide +kernel), List.forall_mem_cons.mpr ⟨List.mem_of_getElem? (i := 367) (by decide +kernel), List.forall_mem_cons.mpr ⟨List.mem_of_getElem? (i := 368) (by decide +kernel), List.forall_mem_cons.mpr ⟨List.mem_of_getElem? (i := 370) (by decide +kernel), List.forall_mem_cons.mpr ⟨List.mem_of_getElem? (i := 371) (by decide +kernel), List.forall_mem_cons.mpr ⟨List.mem_of_getElem? (i := 372) (by decide +kernel), List.forall_mem_cons.mpr ⟨List.mem_of_getElem? (i := 373) (by decide +kernel), List.forall_mem_cons.mpr ⟨List.mem_of_getElem? (i := 374) (by decide +kernel), List.forall_mem_cons.mpr ⟨List.mem_of_getElem? (i := 375) (by decide +kernel), List.forall_mem_cons.mpr ⟨List.mem_of_getElem? (i := 376) (by decide +kernel), List.forall_mem_cons.mpr ⟨List.mem_of_getElem? (i := 377) (by decide +kernel), fun w h => absurd h List.not_mem_nil⟩⟩⟩⟩⟩⟩⟩⟩⟩⟩⟩⟩⟩⟩⟩⟩⟩⟩⟩⟩⟩⟩⟩⟩
theorem bg_7 : wsL_law_r7.all goodWord = true := by decide +kernel
set_option maxRecDepth 20000 in
theorem bt_8 : ∀ w ∈ wsL_law_r8, w ∈ lw_tbl := List.forall_mem_cons.mpr ⟨List.mem_of_getElem? (i := 793) (by decide +kernel), List.forall_mem_cons.mpr ⟨List.mem_of_getElem? (i := 794) (by decide +kernel), List.forall_mem_cons.mpr ⟨List.mem_of_getElem? (i := 795) (by decide +kernel), List.forall_mem_cons.mpr ⟨List.mem_of_getElem? (i := 796) (by decide +kernel), List.forall_mem_cons.mpr ⟨List.mem_of_getElem? (i := 800) (by decide +kernel), List.forall_mem_cons.mpr ⟨List.mem_of_getElem? (i := 797) (by decide +kernel), List.forall_mem_cons.mpr ⟨List.mem_of_getElem? (i := 798) (by decide +kernel), List.forall_mem_cons.mpr ⟨List.mem_of_getElem? (i := 799) (by decide +kernel), List.forall_mem_cons.mpr ⟨List.mem_of_getElem? (i := 801) (by decide +kernel), List.forall_mem_cons.mpr ⟨List.mem_of_getElem? (i := 803) (by decide +kernel), List.forall_mem_cons.mpr ⟨List.mem_of_getElem? (i := 23) (by decide +kernel), List.forall_mem_cons.mpr ⟨List.mem_of_getElem? (i := 804) (by decide +kernel), List.forall_mem_cons.mpr ⟨List.mem_of_getElem? (i := 764) (by decide +kernel), List.forall_mem_cons.mpr ⟨List.mem_of_getElem? (i := 805) (by decide +kernel), List.forall_mem_cons.mpr ⟨List.mem_of_getElem? (i := 807) (by decide +kernel), List.forall_mem_cons.mpr ⟨List.mem_of_getElem? (i := 24) (by decide +kernel), List.forall_mem_cons.mpr ⟨List.mem_of_getElem? (i := 808) (by decide +kernel), List.forall_mem_cons.mpr ⟨List.mem_of_getElem? (i := 761) (by decide +kernel), List.forall_mem_cons.mpr ⟨List.mem_of_getElem? (i := 809) (by decide +kernel), List.forall_mem_cons.mpr ⟨List.mem_of_getElem? (i := 811) (by decide +kernel), List.forall_mem_cons.mpr ⟨List.mem_of_getElem? (i := 25) (by decide +kernel), List.forall_mem_cons.mpr ⟨List.mem_of_getElem? (i := 812) (by decide +kernel), List.forall_mem_cons.mpr ⟨List.mem_of_getElem? (i := 378) (by decide +kernel), List.forall_mem_cons.mpr ⟨List.mem_of_getElem? (i := 379) (by decide +kernel), fun w h => absurd h List.not_mem_nil⟩⟩⟩⟩⟩⟩⟩⟩⟩⟩⟩⟩⟩⟩⟩⟩⟩⟩⟩⟩⟩⟩⟩⟩
theorem bg_8 : wsL_law_r8.all goodWord = true := by decide +kernel
set_option maxRecDepth 20000 in
theorem bt_9 : ∀ w ∈ wsL_law_r9, w ∈ lw_tbl := List.forall_mem_cons.mpr ⟨List.mem_of_getElem? (i := 380) (by decide +kernel), List.forall_mem_cons.mpr ⟨List.mem_of_getElem? (i := 381) (by decide +kernel), List.forall_mem_cons.mpr ⟨List.mem_of_getElem? (i := 113) (by decide +kernel), List.forall_mem_cons.mpr ⟨List.mem_of_getElem? (i := 382) (by decide +kernel), List.forall_mem_cons.mpr ⟨List.mem_of_getElem? (i := 383) (by decide +kernel), List.forall_mem_cons.mpr ⟨List.mem_of_getElem? (i := 384) (by decide +kernel), List.forall_mem_cons.mpr ⟨List.mem_of_getElem? (i := 385) (by decide +kernel), List.forall_mem_cons.mpr ⟨List.mem_of_getElem? (i := 813) (by decide +kernel), List.forall_mem_cons.mpr ⟨List.mem_of_getElem? (i := 814) (by decide +kernel), List.forall_mem_cons.mpr ⟨List.mem_of_getElem? (i := 815) (by decide +kernel), List.forall_mem_cons.mpr ⟨List.mem_of_getElem? (i := 816) (by decide +kernel), List.forall_mem_cons.mpr ⟨List.mem_of_getElem? (i := 817) (by decide +kernel), List.forall_mem_cons.mpr ⟨List.mem_of_getElem? (i := 819) (by decide +kernel), List.forall_mem_cons.mpr ⟨List.mem_of_getElem? (i := 26) (by decide +kernel), List.forall_mem_cons.mpr ⟨List.mem_of_getElem? (i := 820) (by decide +kernel), List.forall_mem_cons.mpr ⟨List.mem_of_getElem? (i := 821) (by decide +kernel), List.forall_mem_cons.mpr ⟨List.mem_of_getElem? (i := 823) (by decide +kernel), List.forall_mem_cons.mpr ⟨List.mem_of_getElem? (i := 27) (by decide +kernel), List.forall_mem_cons.mpr ⟨List.mem_of_getElem? (i := 824) (by decide +kernel), List.forall_mem_cons.mpr ⟨List.mem_of_getElem? (i := 386) (by decide +kernel), List.forall_mem_cons.mpr ⟨List.mem_of_getElem? (i := 387) (by decide +kernel), List.forall_mem_cons.mpr ⟨List.mem_of_getElem? (i := 388) (by decide +kernel), List.forall_mem_cons.mpr ⟨List.mem_of_getElem? (i := 389) (by decide +kernel), List.forall_mem_cons.mpr ⟨List.mem_of_getElem? (i := 226) (by decide +kernel), fun w h => absurd h List.not_mem_nil⟩⟩⟩⟩⟩⟩⟩⟩⟩⟩⟩⟩⟩⟩⟩⟩⟩⟩⟩⟩⟩⟩⟩⟩
theorem bg_9 : wsL_law_r9.all goodWord = true := by decide +kernel
set_option maxRecDepth 20000 in
theorem bt_10 : ∀ w ∈ wsL_law_r10, w ∈ lw_tbl := List.forall_mem_cons.mpr ⟨List.mem_of_getElem? (i := 825) (by decide +kernel), List.forall_mem_cons.mpr ⟨List.mem_of_getElem? (i := 826) (by decide +kernel), List.forall_mem_cons.mpr ⟨List.mem_of_getElem? (i := 827) (by decide +kernel), List.forall_mem_cons.mpr ⟨List.mem_of_getElem? (i := 828) (by decide +kernel), List.forall_mem_cons.mpr ⟨List.mem_of_getElem? (i := 390) (by decide +kernel), List.forall_mem_cons.mpr ⟨List.mem_of_getElem? (i := 391) (by decide +kernel), List.forall_mem_cons.mpr ⟨List.mem_of_getElem? (i := 392) (by decide +kernel), List.forall_mem_cons.mpr ⟨List.mem_of_getElem? (i := 393) (by decide +kernel), List.forall_mem_cons.mpr ⟨List.mem_of_getElem? (i := 394) (by decide +kernel), List.forall_mem_cons.mpr ⟨List.mem_of_getElem? (i := 396) (by decide +kernel), List.forall_mem_cons.mpr ⟨List.mem_of_getElem? (i := 2) (by decide +kernel), List.forall_mem_cons.mpr ⟨List.mem_of_getElem? (i := 397) (by decide +kernel), List.forall_mem_cons.mpr ⟨List.mem_of_getElem? (i := 398) (by decide +kernel), List.forall_mem_cons.mpr ⟨List.mem_of_getElem? (i := 400) (by decide +kernel), List.forall_mem_cons.mpr ⟨List.mem_of_getElem? (i := 3) (by decide +kernel), List.forall_mem_cons.mpr ⟨List.mem_of_getElem? (i := 401) (by decide +kernel), List.forall_mem_cons.mpr ⟨List.mem_of_getElem? (i := 228) (by decide +kernel), List.forall_mem_cons.mpr ⟨List.mem_of_getElem? (i := 117) (by decide +kernel), List.forall_mem_cons.mpr ⟨List.mem_of_getElem? (i := 402) (by decide +kernel), List.forall_mem_cons.mpr ⟨List.mem_of_getElem? (i := 404) (by decide +kernel), List.forall_mem_cons.mpr ⟨List.mem_of_getElem? (i := 4) (by decide +kernel), List.forall_mem_cons.mpr ⟨List.mem_of_getElem? (i := 405) (by decide +kernel), List.forall_mem_cons.mpr ⟨List.mem_of_getElem? (i := 123) (by decide +kernel), List.forall_mem_cons.mpr ⟨List.mem_of_getElem? (i := 406) (by decide +kernel), fun w h => absurd h List.not_mem_nil⟩⟩⟩⟩⟩⟩⟩⟩⟩⟩⟩⟩⟩⟩⟩⟩⟩⟩⟩⟩⟩⟩⟩⟩
theorem bg_10 : wsL_law_r10.all goodWord = true := by decide +kernel
set_option maxRecDepth 20000 in
theorem bt_11 : ∀ w ∈ wsL_law_r11, w ∈ lw_tbl := List.forall_mem_cons.mpr ⟨List.mem_of_getElem? (i := 408) (by decide +kernel), List.forall_mem_cons.mpr ⟨List.mem_of_getElem? (i := 5) (by decide +kernel), List.forall_mem_cons.mpr ⟨List.mem_of_getElem? (i := 409) (by decide +kernel), List.forall_mem_cons.mpr ⟨List.mem_of_getElem? (i := 120) (by decide +kernel), List.forall_mem_cons.mpr ⟨List.mem_of_getElem? (i := 108) (by decide +kernel), List.forall_mem_cons.mpr ⟨List.mem_of_getElem? (i := 410) (by decide +kernel), List.forall_mem_cons.mpr ⟨List.mem_of_getElem? (i := 412) (by decide +kernel), List.forall_mem_cons.mpr ⟨List.mem_of_getElem? (i := 6) (by decide +kernel), List.forall_mem_cons.mpr ⟨List.mem_of_getElem? (i := 413) (by decide +kernel), List.forall_mem_cons.mpr ⟨List.mem_of_getElem? (i := 224) (by decide +kernel), List.forall_mem_cons.mpr ⟨List.mem_of_getElem? (i := 128) (by decide +kernel), List.forall_mem_cons.mpr ⟨List.mem_of_getElem? (i := 414) (by decide +kernel), List.forall_mem_cons.mpr ⟨List.mem_of_getElem? (i := 415) (by decide +kernel), List.forall_mem_cons.mpr ⟨List.mem_of_getElem? (i := 416) (by decide +kernel), List.forall_mem_cons.mpr ⟨List.mem_of_getElem? (i := 417) (by decide +kernel), List.forall_mem_cons.mpr ⟨List.mem_of_getElem? (i := 418) (by decide +kernel), List.forall_mem_cons.mpr ⟨List.mem_of_getElem? (i := 419) (by decide +kernel), List.forall_mem_cons.mpr ⟨List.mem_of_getElem? (i := 420) (by decide +kernel), List.forall_mem_cons.mpr ⟨List.mem_of_getElem? (i := 421) (by decide +kernel), List.forall_mem_cons.mpr ⟨List.mem_of_getElem? (i := 97) (by decide +kernel), List.forall_mem_cons.mpr ⟨List.mem_of_getElem? (i := 422) (by decide +kernel), List.forall_mem_cons.mpr ⟨List.mem_of_getElem? (i := 423) (by decide +kernel), List.forall_mem_cons.mpr ⟨List.mem_of_getElem? (i := 424) (by decide +kernel), List.forall_mem_cons.mpr ⟨List.mem_of_getElem? (i := 425) (by decide +kernel), fun w h => absurd h List.not_mem_nil⟩⟩⟩⟩⟩⟩⟩⟩⟩⟩⟩⟩⟩⟩⟩⟩⟩⟩⟩⟩⟩⟩⟩⟩
theorem bg_11 : wsL_law_r11.all goodWord = true := by decide +kernel
set_option maxRecDepth 20000 in
theorem bt_12 : ∀ w ∈ wsL_law_r12, w ∈ lw_tbl := List.forall_mem_cons.mpr ⟨List.mem_of_getElem? (i := 426) (by decide +kernel), List.forall_mem_cons.mpr ⟨List.mem_of_getElem? (i := 427) (by decide +kernel), List.forall_mem_cons.mpr ⟨List.mem_of_getElem? (i := 70) (by decide +kernel), List.forall_mem_cons.mpr ⟨List.mem_of_getElem? (i := 428) (by decide +kernel), List.forall_mem_cons.mpr ⟨List.mem_of_getElem? (i := 429) (by decide +kernel), List.forall_mem_cons.mpr ⟨List.mem_of_getElem? (i := 431) (by decide +kernel), List.forall_mem_cons.mpr ⟨List.mem_of_getElem? (i := 7) (by decide +kernel), List.forall_mem_cons.mpr ⟨List.mem_of_getElem? (i := 432) (by decide +kernel), List.forall_mem_cons.mpr ⟨List.mem_of_getElem? (i := 433) (by decide +kernel), List.forall_mem_cons.mpr ⟨List.mem_of_getElem? (i := 434) (by decide +kernel), List.forall_mem_cons.mpr ⟨List.mem_of_getElem? (i := 435) (by decide +kernel), List.forall_mem_cons.mpr ⟨List.mem_of_getElem? (i := 436) (by decide +kernel), List.forall_mem_cons.mpr ⟨List.mem_of_getElem? (i := 829) (by decide +kernel), List.forall_mem_cons.mpr ⟨List.mem_of_getElem? (i := 830) (by decide +kernel), List.forall_mem_cons.mpr ⟨List.mem_of_getElem? (i := 831) (by decide +kernel), List.forall_mem_cons.mpr ⟨List.mem_of_getElem? (i := 832) (by decide +kernel), List.forall_mem_cons.mpr ⟨List.mem_of_getElem? (i := 437) (by decide +kernel), List.forall_mem_cons.mpr ⟨List.mem_of_getElem? (i := 438) (by decide +kernel), List.forall_mem_cons.mpr ⟨List.mem_of_getElem? (i := 439) (by decide +kernel), List.forall_mem_cons.mpr ⟨List.mem_of_getElem? (i := 440) (by decide +kernel), List.forall_mem_cons.mpr ⟨List.mem_of_getElem? (i := 441) (by decide +kernel), List.forall_mem_cons.mpr ⟨List.mem_of_getElem? (i := 443) (by decide +kernel), List.forall_mem_cons.mpr ⟨List.mem_of_getElem? (i := 8) (by decide +kernel), List.forall_mem_cons.mpr ⟨List.mem_of_getElem? (i := 444) (by decide +kernel), fun w h => absurd h List.not_mem_nil⟩⟩⟩⟩⟩⟩⟩⟩⟩⟩⟩⟩⟩⟩⟩⟩⟩⟩⟩⟩⟩⟩⟩⟩
theorem bg_12 : wsL_law_r12.all goodWord = true := by decide +kernel
set_option maxRecDepth 20000 in
theorem bt_13 : ∀ w ∈ wsL_law_r13, w ∈ lw_tbl := List.forall_mem_cons.mpr ⟨List.mem_of_getElem? (i := 445) (by decide +kernel), List.forall_mem_cons.mpr ⟨List.mem_of_getElem? (i := 447) (by decide +kernel), List.forall_mem_cons.mpr ⟨List.mem_of_getElem? (i := 9) (by decide +kernel), List.forall_mem_cons.mpr ⟨List.mem_of_getElem? (i := 448) (by decide +kernel), List.forall_mem_cons.mpr ⟨List.mem_of_getElem? (i := 449) (by decide +kernel), List.forall_mem_cons.mpr ⟨List.mem_of_getElem? (i := 450) (by decide +kernel), List.forall_mem_cons.mpr ⟨List.mem_of_getElem? (i := 451) (by decide +kernel), List.forall_mem_cons.mpr ⟨List.mem_of_getElem? (i := 452) (by decide +kernel), List.forall_mem_cons.mpr ⟨List.mem_of_getElem? (i := 127) (by decide +kernel), List.forall_mem_cons.mpr ⟨List.mem_of_getElem? (i := 453) (by decide +kernel), List.forall_mem_cons.mpr ⟨List.mem_of_getElem? (i := 454) (by decide +kernel), List.forall_mem_cons.mpr ⟨List.mem_of_getElem? (i := 455) (by decide +kernel), List.forall_mem_cons.mpr ⟨List.mem_of_getElem? (i := 456) (by decide +kernel), List.forall_mem_cons.mpr ⟨List.mem_of_getElem? (i := 114) (by decide +kernel), List.forall_mem_cons.mpr ⟨List.mem_of_getElem? (i := 892) (by decide +kernel), List.forall_mem_cons.mpr ⟨List.mem_of_getElem? (i := 893) (by decide +kernel), List.forall_mem_cons.mpr ⟨List.mem_of_getElem? (i := 894) (by decide +kernel), List.forall_mem_cons.mpr ⟨List.mem_of_getElem? (i := 895) (by decide +kernel), List.forall_mem_cons.mpr ⟨List.mem_of_getElem? (i := 896) (by decide +kernel), List.forall_mem_cons.mpr ⟨List.mem_of_getElem? (i := 898) (by decide +kernel), List.forall_mem_cons.mpr ⟨List.mem_of_getElem? (i := 39) (by decide +kernel), List.forall_mem_cons.mpr ⟨List.mem_of_getElem? (i := 899) (by decide +kernel), List.forall_mem_cons.mpr ⟨List.mem_of_getElem? (i := 900) (by decide +kernel), List.forall_mem_cons.mpr ⟨List.mem_of_getElem? (i := 902) (by decide +kernel), fun w h => absurd h List.not_mem_nil⟩⟩⟩⟩⟩⟩⟩⟩⟩⟩⟩⟩⟩⟩⟩⟩⟩⟩⟩⟩⟩⟩⟩⟩
theorem bg_13 : wsL_law_r13.all goodWord = true := by decide +kernel
set_option maxRecDepth 20000 in
theorem bt_14 : ∀ w ∈ wsL_law_r14, w ∈ lw_tbl := List.forall_mem_cons.mpr ⟨List.mem_of_getElem? (i := 40) (by decide +kernel), List.forall_mem_cons.mpr ⟨List.mem_of_getElem? (i := 903) (by decide +kernel), List.forall_mem_cons.mpr ⟨List.mem_of_getElem? (i := 904) (by decide +kernel), List.forall_mem_cons.mpr ⟨List.mem_of_getElem? (i := 906) (by decide +kernel), List.forall_mem_cons.mpr ⟨List.mem_of_getElem? (i := 41) (by decide +kernel), List.forall_mem_cons.mpr ⟨List.mem_of_getElem? (i := 907) (by decide +kernel), List.forall_mem_cons.mpr ⟨List.mem_of_getElem? (i := 908) (by decide +kernel), List.forall_mem_cons.mpr ⟨List.mem_of_getElem? (i := 910) (by decide +kernel), List.forall_mem_cons.mpr ⟨List.mem_of_getElem? (i := 42) (by decide +kernel), List.forall_mem_cons.mpr ⟨List.mem_of_getElem? (i := 911) (by decide +kernel), List.forall_mem_cons.mpr ⟨List.mem_of_getElem? (i := 912) (by decide +kernel), List.forall_mem_cons.mpr ⟨List.mem_of_getElem? (i := 914) (by decide +kernel), List.forall_mem_cons.mpr ⟨List.mem_of_getElem? (i := 43) (by decide +kernel), List.forall_mem_cons.mpr ⟨List.mem_of_getElem? (i := 915) (by decide +kernel), List.forall_mem_cons.mpr ⟨List.mem_of_getElem? (i := 916) (by decide +kernel), List.forall_mem_cons.mpr ⟨List.mem_of_getElem? (i := 918) (by decide +kernel), List.forall_mem_cons.mpr ⟨List.mem_of_getElem? (i := 44) (by decide +kernel), List.forall_mem_cons.mpr ⟨List.mem_of_getElem? (i := 919) (by decide +kernel), List.forall_mem_cons.mpr ⟨List.mem_of_getElem? (i := 845) (by decide +kernel), List.forall_mem_cons.mpr ⟨List.mem_of_getElem? (i := 847) (by decide +kernel), List.forall_mem_cons.mpr ⟨List.mem_of_getElem? (i := 30) (by decide +kernel), List.forall_mem_cons.mpr ⟨List.mem_of_getElem? (i := 848) (by decide +kernel), List.forall_mem_cons.mpr ⟨List.mem_of_getElem? (i := 841) (by decide +kernel), List.forall_mem_cons.mpr ⟨List.mem_of_getElem? (i := 843) (by decide +kernel), fun w h => absurd h List.not_mem_nil⟩⟩⟩⟩⟩⟩⟩⟩⟩⟩⟩⟩⟩⟩⟩⟩⟩⟩⟩⟩⟩⟩⟩⟩
theorem bg_14 : wsL_law_r14.all goodWord = true := by decide +kernel
set_option maxRecDepth 20000 in
theorem bt_15 : ∀ w ∈ wsL_law_r15, w ∈ lw_tbl := List.forall_mem_cons.mpr ⟨List.mem_of_getElem? (i := 29) (by decide +kernel), List.forall_mem_cons.mpr ⟨List.mem_of_getElem? (i := 844) (by decide +kernel), List.forall_mem_cons.mpr ⟨List.mem_of_getElem? (i := 849) (by decide +kernel), List.forall_mem_cons.mpr ⟨List.mem_of_getElem? (i := 851) (by decide +kernel), List.forall_mem_cons.mpr ⟨List.mem_of_getElem? (i := 31) (by decide +kernel), List.forall_mem_cons.mpr ⟨List.mem_of_getElem? (i := 852) (by decide +kernel), List.forall_mem_cons.mpr ⟨List.mem_of_getElem? (i := 853) (by decide +kernel), List.forall_mem_cons.mpr ⟨List.mem_of_getElem? (i := 855) (by decide +kernel), List.forall_mem_cons.mpr ⟨List.mem_of_getElem? (i := 32) (by decide +kernel), List.forall_mem_cons.mpr ⟨List.mem_of_getElem? (i := 856) (by decide +kernel), List.forall_mem_cons.mpr ⟨List.mem_of_getElem? (i := 457) (by decide +kernel), List.forall_mem_cons.mpr ⟨List.mem_of_getElem? (i := 458) (by decide +kernel), List.forall_mem_cons.mpr ⟨List.mem_of_getElem? (i := 459) (by decide +kernel), List.forall_mem_cons.mpr ⟨List.mem_of_getElem? (i := 460) (by decide +kernel), List.forall_mem_cons.mpr ⟨List.mem_of_getElem? (i := 920) (by decide +kernel), List.forall_mem_cons.mpr ⟨List.mem_of_getElem? (i := 921) (by decide +kernel), List.forall_mem_cons.mpr ⟨List.mem_of_getElem? (i := 922) (by decide +kernel), List.forall_mem_cons.mpr ⟨List.mem_of_getElem? (i := 923) (by decide +kernel), List.forall_mem_cons.mpr ⟨List.mem_of_getElem? (i := 461) (by decide +kernel), List.forall_mem_cons.mpr ⟨List.mem_of_getElem? (i := 462) (by decide +kernel), List.forall_mem_cons.mpr ⟨List.mem_of_getElem? (i := 463) (by decide +kernel), List.forall_mem_cons.mpr ⟨List.mem_of_getElem? (i := 464) (by decide +kernel), List.forall_mem_cons.mpr ⟨List.mem_of_getElem? (i := 924) (by decide +kernel), List.forall_mem_cons.mpr ⟨List.mem_of_getElem? (i := 925) (by decide +kernel), fun w h => absurd h List.not_mem_nil⟩⟩⟩⟩⟩⟩⟩⟩⟩⟩⟩⟩⟩⟩⟩⟩⟩⟩⟩⟩⟩⟩⟩⟩
theorem bg_15 : wsL_law_r15.all goodWord = true := by decide +kernel
set_option maxRecDepth 20000 in
theorem bt_16 : ∀ w ∈ wsL_law_r16, w ∈ lw_tbl := List.forall_mem_cons.mpr ⟨List.mem_of_getElem? (i := 926) (by decide +kernel), List.forall_mem_cons.mpr ⟨List.mem_of_getElem? (i := 927) (by decide +kernel), List.forall_mem_cons.mpr ⟨List.mem_of_getElem? (i := 465) (by decide +kernel), List.forall_mem_cons.mpr ⟨List.mem_of_getElem? (i := 466) (by decide +kernel), List.forall_mem_cons.mpr ⟨List.mem_of_getElem? (i := 467) (by decide +kernel), List.forall_mem_cons.mpr ⟨List.mem_of_getElem? (i := 468) (by decide +kernel), List.forall_mem_cons.mpr ⟨List.mem_of_getElem? (i := 928) (by decide +kernel), List.forall_mem_cons.mpr ⟨List.mem_of_getElem? (i := 929) (by decide +kernel), List.forall_mem_cons.mpr ⟨List.mem_of_getElem? (i := 930) (by decide +kernel), List.forall_mem_cons.mpr ⟨List.mem_of_getElem? (i := 931) (by decide +kernel), List.forall_mem_cons.mpr ⟨List.mem_of_getElem? (i := 469) (by decide +kernel), List.forall_mem_cons.mpr ⟨List.mem_of_getElem? (i := 470) (by decide +kernel), List.forall_mem_cons.mpr ⟨List.mem_of_getElem? (i := 471) (by decide +kernel), List.forall_mem_cons.mpr ⟨List.mem_of_getElem? (i := 472) (by decide +kernel), List.forall_mem_cons.mpr ⟨List.mem_of_getElem? (i := 473) (by decide +kernel), List.forall_mem_cons.mpr ⟨List.mem_of_getElem? (i := 475) (by decide +kernel), List.forall_mem_cons.mpr ⟨List.mem_of_getElem? (i := 10) (by decide +kernel), List.forall_mem_cons.mpr ⟨List.mem_of_getElem? (i := 476) (by decide +kernel), List.forall_mem_cons.mpr ⟨List.mem_of_getElem? (i := 218) (by decide +kernel), List.forall_mem_cons.mpr ⟨List.mem_of_getElem? (i := 181) (by decide +kernel), List.forall_mem_cons.mpr ⟨List.mem_of_getElem? (i := 179) (by decide +kernel), List.forall_mem_cons.mpr ⟨List.mem_of_getElem? (i := 171) (by decide +kernel), List.forall_mem_cons.mpr ⟨List.mem_of_getElem? (i := 173) (by decide +kernel), List.forall_mem_cons.mpr ⟨List.mem_of_getElem? (i := 175) (by decide +kernel), fun w h => absurd h List.not_mem_nil⟩⟩⟩⟩⟩⟩⟩⟩⟩⟩⟩⟩⟩⟩⟩⟩⟩⟩⟩⟩⟩⟩⟩⟩
theorem bg_16 : wsL_law_r16.all goodWord = true := by decide +kernel
set_option maxRecDepth 20000 in
theorem bt_17 : ∀ w ∈ wsL_law_r17, w ∈ lw_tbl := List.forall_mem_cons.mpr ⟨List.mem_of_getElem? (i := 177) (by decide +kernel), List.forall_mem_cons.mpr ⟨List.mem_of_getElem? (i := 477) (by decide +kernel), List.forall_mem_cons.mpr ⟨List.mem_of_getElem? (i := 479) (by decide +kernel), List.forall_mem_cons.mpr ⟨List.mem_of_getElem? (i := 11) (by decide +kernel), List.forall_mem_cons.mpr ⟨List.mem_of_getElem? (i := 480) (by decide +kernel), List.forall_mem_cons.mpr ⟨List.mem_of_getElem? (i := 230) (by decide +kernel), List.forall_mem_cons.mpr ⟨List.mem_of_getElem? (i := 481) (by decide +kernel), List.forall_mem_cons.mpr ⟨List.mem_of_getElem? (i := 483) (by decide +kernel), List.forall_mem_cons.mpr ⟨List.mem_of_getElem? (i := 12) (by decide +kernel), List.forall_mem_cons.mpr ⟨List.mem_of_getElem? (i := 484) (by decide +kernel), List.forall_mem_cons.mpr ⟨List.mem_of_getElem? (i := 125) (by decide +kernel), List.forall_mem_cons.mpr ⟨List.mem_of_getElem? (i := 100) (by decide +kernel), List.forall_mem_cons.mpr ⟨List.mem_of_getElem? (i := 485) (by decide +kernel), List.forall_mem_cons.mpr ⟨List.mem_of_getElem? (i := 486) (by decide +kernel), List.forall_mem_cons.mpr ⟨List.mem_of_getElem? (i := 487) (by decide +kernel), List.forall_mem_cons.mpr ⟨List.mem_of_getElem? (i := 488) (by decide +kernel), List.forall_mem_cons.mpr ⟨List.mem_of_getElem? (i := 122) (by decide +kernel), List.forall_mem_cons.mpr ⟨List.mem_of_getElem? (i := 110) (by decide +kernel), List.forall_mem_cons.mpr ⟨List.mem_of_getElem? (i := 489) (by decide +kernel), List.forall_mem_cons.mpr ⟨List.mem_of_getElem? (i := 490) (by decide +kernel), List.forall_mem_cons.mpr ⟨List.mem_of_getElem? (i := 491) (by decide +kernel), List.forall_mem_cons.mpr ⟨List.mem_of_getElem? (i := 492) (by decide +kernel), List.forall_mem_cons.mpr ⟨List.mem_of_getElem? (i := 493) (by decide +kernel), List.forall_mem_cons.mpr ⟨List.mem_of_getElem? (i := 494) (by decide +kernel), fun w h => absurd h List.not_mem_nil⟩⟩⟩⟩⟩⟩⟩⟩⟩⟩⟩⟩⟩⟩⟩⟩⟩⟩⟩⟩⟩⟩⟩⟩
theorem bg_17 : wsL_law_r17.all goodWord = true := by decide +kernel
set_option maxRecDepth 20000 in
theorem bt_18 : ∀ w ∈ wsL_law_r18, w ∈ lw_tbl := List.forall_mem_cons.mpr ⟨List.mem_of_getElem? (i := 495) (by decide +kernel), List.forall_mem_cons.mpr ⟨List.mem_of_getElem? (i := 496) (by decide +kernel), List.forall_mem_cons.mpr ⟨List.mem_of_getElem? (i := 497) (by decide +kernel), List.forall_mem_cons.mpr ⟨List.mem_of_getElem? (i := 498) (by decide +kernel), List.forall_mem_cons.mpr ⟨List.mem_of_getElem? (i := 499) (by decide +kernel), List.forall_mem_cons.mpr ⟨List.mem_of_getElem? (i := 500) (by decide +kernel), List.forall_mem_cons.mpr ⟨List.mem_of_getElem? (i := 116) (by decide +kernel), List.forall_mem_cons.mpr ⟨List.mem_of_getElem? (i := 501) (by decide +kernel), List.forall_mem_cons.mpr ⟨List.mem_of_getElem? (i := 502) (by decide +kernel), List.forall_mem_cons.mpr ⟨List.mem_of_getElem? (i := 503) (by decide +kernel), List.forall_mem_cons.mpr ⟨List.mem_of_getElem? (i := 504) (by decide +kernel), List.forall_mem_cons.mpr ⟨List.mem_of_getElem? (i := 505) (by decide +kernel), List.forall_mem_cons.mpr ⟨List.mem_of_getElem? (i := 507) (by decide +kernel), List.forall_mem_cons.mpr ⟨List.mem_of_getElem? (i := 509) (by decide +kernel), List.forall_mem_cons.mpr ⟨List.mem_of_getElem? (i := 13) (by decide +kernel), List.forall_mem_cons.mpr ⟨List.mem_of_getElem? (i := 510) (by decide +kernel), List.forall_mem_cons.mpr ⟨List.mem_of_getElem? (i := 511) (by decide +kernel), List.forall_mem_cons.mpr ⟨List.mem_of_getElem? (i := 513) (by decide +kernel), List.forall_mem_cons.mpr ⟨List.mem_of_getElem? (i := 14) (by decide +kernel), List.forall_mem_cons.mpr ⟨List.mem_of_getElem? (i := 514) (by decide +kernel), List.forall_mem_cons.mpr ⟨List.mem_of_getElem? (i := 515) (by decide +kernel), List.forall_mem_cons.mpr ⟨List.mem_of_getElem? (i := 516) (by decide +kernel), List.forall_mem_cons.mpr ⟨List.mem_of_getElem? (i := 517) (by decide +kernel), List.forall_mem_cons.mpr ⟨List.mem_of_getElem? (i := 518) (by decide +kernel), fun w h => absurd h List.not_mem_nil⟩⟩⟩⟩⟩⟩⟩⟩⟩⟩⟩⟩⟩⟩⟩⟩⟩⟩⟩⟩⟩⟩⟩⟩
theorem bg_18 : wsL_law_r18.all goodWord = true := by decide +kernel
set_option maxRecDepth 20000 in
theorem bt_19 : ∀ w ∈ wsL_law_r19, w ∈ lw_tbl := List.forall_mem_cons.mpr ⟨List.mem_of_getElem? (i := 519) (by decide +kernel), List.forall_mem_cons.mpr ⟨List.mem_of_getElem? (i := 520) (by decide +kernel), List.forall_mem_cons.mpr ⟨List.mem_of_getElem? (i := 521) (by decide +kernel), List.forall_mem_cons.mpr ⟨List.mem_of_getElem? (i := 522) (by decide +kernel), List.forall_mem_cons.mpr ⟨List.mem_of_getElem? (i := 523) (by decide +kernel), List.forall_mem_cons.mpr ⟨List.mem_of_getElem? (i := 524) (by decide +kernel), List.forall_mem_cons.mpr ⟨List.mem_of_getElem? (i := 525) (by decide +kernel), List.forall_mem_cons.mpr ⟨List.mem_of_getElem? (i := 526) (by decide +kernel), List.forall_mem_cons.mpr ⟨List.mem_of_getElem? (i := 527) (by decide +kernel), List.forall_mem_cons.mpr ⟨List.mem_of_getElem? (i := 530) (by decide +kernel), List.forall_mem_cons.mpr ⟨List.mem_of_getElem? (i := 531) (by decide +kernel), List.forall_mem_cons.mpr ⟨List.mem_of_getElem? (i := 532) (by decide +kernel), List.forall_mem_cons.mpr ⟨List.mem_of_getElem? (i := 533) (by decide +kernel), List.forall_mem_cons.mpr ⟨List.mem_of_getElem? (i := 534) (by decide +kernel), List.forall_mem_cons.mpr ⟨List.mem_of_getElem? (i := 535) (by decide +kernel), List.forall_mem_cons.mpr ⟨List.mem_of_getElem? (i := 536) (by decide +kernel), List.forall_mem_cons.mpr ⟨List.mem_of_getElem? (i := 932) (by decide +kernel), List.forall_mem_cons.mpr ⟨List.mem_of_getElem? (i := 933) (by decide +kernel), List.forall_mem_cons.mpr ⟨List.mem_of_getElem? (i := 934) (by decide +kernel), List.forall_mem_cons.mpr ⟨List.mem_of_getElem? (i := 935) (by decide +kernel), List.forall_mem_cons.mpr ⟨List.mem_of_getElem? (i := 936) (by decide +kernel), List.forall_mem_cons.mpr ⟨List.mem_of_getElem? (i := 938) (by decide +kernel), List.forall_mem_cons.mpr ⟨List.mem_of_getElem? (i := 45) (by decide +kernel), List.forall_mem_cons.mpr ⟨List.mem_of_getElem? (i := 939) (by decide +kernel), fun w h => absurd h List.not_mem_nil⟩⟩⟩⟩⟩⟩⟩⟩⟩⟩⟩⟩⟩⟩⟩⟩⟩⟩⟩⟩⟩⟩⟩⟩
theorem bg_19 : wsL_law_r19.all goodWord = true := by decide +kernel
set_option maxRecDepth 20000 in
theorem bt_20 : ∀ w ∈ wsL_law_r20, w ∈ lw_tbl := List.forall_mem_cons.mpr ⟨List.mem_of_getElem? (i := 940) (by decide +kernel), List.forall_mem_cons.mpr ⟨List.mem_of_getElem? (i := 942) (by decide +kernel), List.forall_mem_cons.mpr ⟨List.mem_of_getElem? (i := 46) (by decide +kernel), List.forall_mem_cons.mpr ⟨List.mem_of_getElem? (i := 943) (by decide +kernel), List.forall_mem_cons.mpr ⟨List.mem_of_getElem? (i := 837) (by decide +kernel), List.forall_mem_cons.mpr ⟨List.mem_of_getElem? (i := 839) (by decide +kernel), List.forall_mem_cons.mpr ⟨List.mem_of_getElem? (i := 28) (by decide +kernel), List.forall_mem_cons.mpr ⟨List.mem_of_getElem? (i := 840) (by decide +kernel), List.forall_mem_cons.mpr ⟨List.mem_of_getElem? (i := 861) (by decide +kernel), List.forall_mem_cons.mpr ⟨List.mem_of_getElem? (i := 863) (by decide +kernel), List.forall_mem_cons.mpr ⟨List.mem_of_getElem? (i := 33) (by decide +kernel), List.forall_mem_cons.mpr ⟨List.mem_of_getElem? (i := 864) (by decide +kernel), List.forall_mem_cons.mpr ⟨List.mem_of_getElem? (i := 865) (by decide +kernel), List.forall_mem_cons.mpr ⟨List.mem_of_getElem? (i := 867) (by decide +kernel), List.forall_mem_cons.mpr ⟨List.mem_of_getElem? (i := 34) (by decide +kernel), List.forall_mem_cons.mpr ⟨List.mem_of_getElem? (i := 868) (by decide +kernel), List.forall_mem_cons.mpr ⟨List.mem_of_getElem? (i := 869) (by decide +kernel), List.forall_mem_cons.mpr ⟨List.mem_of_getElem? (i := 871) (by decide +kernel), List.forall_mem_cons.mpr ⟨List.mem_of_getElem? (i := 35) (by decide +kernel), List.forall_mem_cons.mpr ⟨List.mem_of_getElem? (i := 872) (by decide +kernel), List.forall_mem_cons.mpr ⟨List.mem_of_getElem? (i := 873) (by decide +kernel), List.forall_mem_cons.mpr ⟨List.mem_of_getElem? (i := 875) (by decide +kernel), List.forall_mem_cons.mpr ⟨List.mem_of_getElem? (i := 36) (by decide +kernel), List.forall_mem_cons.mpr ⟨List.mem_of_getElem? (i := 876) (by decide +kernel), fun w h => absurd h List.not_mem_nil⟩⟩⟩⟩⟩⟩⟩⟩⟩⟩⟩⟩⟩⟩⟩⟩⟩⟩⟩⟩⟩⟩⟩⟩
theorem bg_20 : wsL_law_r20.all goodWord = true := by decide +kernel
set_option maxRecDepth 20000 in
theorem bt_21 : ∀ w ∈ wsL_law_r21, w ∈ lw_tbl := List.forall_mem_cons.mpr ⟨List.mem_of_getElem? (i := 877) (by decide +kernel), List.forall_mem_cons.mpr ⟨List.mem_of_getElem? (i := 879) (by decide +kernel), List.forall_mem_cons.mpr ⟨List.mem_of_getElem? (i := 37) (by decide +kernel), List.forall_mem_cons.mpr ⟨List.mem_of_getElem? (i := 880) (by decide +kernel), List.forall_mem_cons.mpr ⟨List.mem_of_getElem? (i := 881) (by decide +kernel), List.forall_mem_cons.mpr ⟨List.mem_of_getElem? (i := 882) (by decide +kernel), List.forall_mem_cons.mpr ⟨List.mem_of_getElem? (i := 883) (by decide +kernel), List.forall_mem_cons.mpr ⟨List.mem_of_getElem? (i := 884) (by decide +kernel), List.forall_mem_cons.mpr ⟨List.mem_of_getElem? (i := 886) (by decide +kernel), List.forall_mem_cons.mpr ⟨List.mem_of_getElem? (i := 38) (by decide +kernel), List.forall_mem_cons.mpr ⟨List.mem_of_getElem? (i := 887) (by decide +kernel), List.forall_mem_cons.mpr ⟨List.mem_of_getElem? (i := 944) (by decide +kernel), List.forall_mem_cons.mpr ⟨List.mem_of_getElem? (i := 946) (by decide +kernel), List.forall_mem_cons.mpr ⟨List.mem_of_getElem? (i := 47) (by decide +kernel), List.forall_mem_cons.mpr ⟨List.mem_of_getElem? (i := 947) (by decide +kernel), List.forall_mem_cons.mpr ⟨List.mem_of_getElem? (i := 948) (by decide +kernel), List.forall_mem_cons.mpr ⟨List.mem_of_getElem? (i := 950) (by decide +kernel), List.forall_mem_cons.mpr ⟨List.mem_of_getElem? (i := 48) (by decide +kernel), List.forall_mem_cons.mpr ⟨List.mem_of_getElem? (i := 951) (by decide +kernel), List.forall_mem_cons.mpr ⟨List.mem_of_getElem? (i := 952) (by decide +kernel), List.forall_mem_cons.mpr ⟨List.mem_of_getElem? (i := 954) (by decide +kernel), List.forall_mem_cons.mpr ⟨List.mem_of_getElem? (i := 49) (by decide +kernel), List.forall_mem_cons.mpr ⟨List.mem_of_getElem? (i := 955) (by decide +kernel), List.forall_mem_cons.mpr ⟨List.mem_of_getElem? (i := 537) (by decide +kernel), fun w h => absurd h List.not_mem_nil⟩⟩⟩⟩⟩⟩⟩⟩⟩⟩⟩⟩⟩⟩⟩⟩⟩⟩⟩⟩⟩⟩⟩⟩
theorem bg_21 : wsL_law_r21.all goodWord = true := by decide +kernel
set_option maxRecDepth 20000 in
theorem bt_22 : ∀ w ∈ wsL_law_r22, w ∈ lw_tbl := List.forall_mem_cons.mpr ⟨List.mem_of_getElem? (i := 538) (by decide +kernel), List.forall_mem_cons.mpr ⟨List.mem_of_getElem? (i := 539) (by decide +kernel), List.forall_mem_cons.mpr ⟨List.mem_of_getElem? (i := 540) (by decide +kernel), List.forall_mem_cons.mpr ⟨List.mem_of_getElem? (i := 274) (by decide +kernel), List.forall_mem_cons.mpr ⟨List.mem_of_getElem? (i := 272) (by decide +kernel), List.forall_mem_cons.mpr ⟨List.mem_of_getElem? (i := 956) (by decide +kernel), List.forall_mem_cons.mpr ⟨List.mem_of_getElem? (i := 957) (by decide +kernel), List.forall_mem_cons.mpr ⟨List.mem_of_getElem? (i := 958) (by decide +kernel), List.forall_mem_cons.mpr ⟨List.mem_of_getElem? (i := 959) (by decide +kernel), List.forall_mem_cons.mpr ⟨List.mem_of_getElem? (i := 765) (by decide +kernel), List.forall_mem_cons.mpr ⟨List.mem_of_getElem? (i := 541) (by decide +kernel), List.forall_mem_cons.mpr ⟨List.mem_of_getElem? (i := 542) (by decide +kernel), List.forall_mem_cons.mpr ⟨List.mem_of_getElem? (i := 543) (by decide +kernel), List.forall_mem_cons.mpr ⟨List.mem_of_getElem? (i := 544) (by decide +kernel), List.forall_mem_cons.mpr ⟨List.mem_of_getElem? (i := 960) (by decide +kernel), List.forall_mem_cons.mpr ⟨List.mem_of_getElem? (i := 961) (by decide +kernel), List.forall_mem_cons.mpr ⟨List.mem_of_getElem? (i := 962) (by decide +kernel), List.forall_mem_cons.mpr ⟨List.mem_of_getElem? (i := 963) (by decide +kernel), List.forall_mem_cons.mpr ⟨List.mem_of_getElem? (i := 545) (by decide +kernel), List.forall_mem_cons.mpr ⟨List.mem_of_getElem? (i := 546) (by decide +kernel), List.forall_mem_cons.mpr ⟨List.mem_of_getElem? (i := 547) (by decide +kernel), List.forall_mem_cons.mpr ⟨List.mem_of_getElem? (i := 548) (by decide +kernel), List.forall_mem_cons.mpr ⟨List.mem_of_getElem? (i := 276) (by decide +kernel), List.forall_mem_cons.mpr ⟨List.mem_of_getElem? (i := 549) (by decide +kernel), fun w h => absurd h List.not_mem_nil⟩⟩⟩⟩⟩⟩⟩⟩⟩⟩⟩⟩⟩⟩⟩⟩⟩⟩⟩⟩⟩⟩⟩⟩
theorem bg_22 : wsL_law_r22.all goodWord = true := by decide +kernel
set_option maxRecDepth 20000 in
theorem bt_23 : ∀ w ∈ wsL_law_r23, w ∈ lw_tbl := List.forall_mem_cons.mpr ⟨List.mem_of_getElem? (i := 550) (by decide +kernel), List.forall_mem_cons.mpr ⟨List.mem_of_getElem? (i := 551) (by decide +kernel), List.forall_mem_cons.mpr ⟨List.mem_of_getElem? (i := 552) (by decide +kernel), List.forall_mem_cons.mpr ⟨List.mem_of_getElem? (i := 275) (by decide +kernel), List.forall_mem_cons.mpr ⟨List.mem_of_getElem? (i := 277) (by decide +kernel), List.forall_mem_cons.mpr ⟨List.mem_of_getElem? (i := 273) (by decide +kernel), List.forall_mem_cons.mpr ⟨List.mem_of_getElem? (i := 278) (by decide +kernel), List.forall_mem_cons.mpr ⟨List.mem_of_getElem? (i := 279) (by decide +kernel), List.forall_mem_cons.mpr ⟨List.mem_of_getElem? (i := 280) (by decide +kernel), List.forall_mem_cons.mpr ⟨List.mem_of_getElem? (i := 553) (by decide +kernel), List.forall_mem_cons.mpr ⟨List.mem_of_getElem? (i := 554) (by decide +kernel), List.forall_mem_cons.mpr ⟨List.mem_of_getElem? (i := 555) (by decide +kernel), List.forall_mem_cons.mpr ⟨List.mem_of_getElem? (i := 556) (by decide +kernel), List.forall_mem_cons.mpr ⟨List.mem_of_getElem? (i := 557) (by decide +kernel), List.forall_mem_cons.mpr ⟨List.mem_of_getElem? (i := 559) (by decide +kernel), List.forall_mem_cons.mpr ⟨List.mem_of_getElem? (i := 15) (by decide +kernel), List.forall_mem_cons.mpr ⟨List.mem_of_getElem? (i := 560) (by decide +kernel), List.forall_mem_cons.mpr ⟨List.mem_of_getElem? (i := 561) (by decide +kernel), List.forall_mem_cons.mpr ⟨List.mem_of_getElem? (i := 563) (by decide +kernel), List.forall_mem_cons.mpr ⟨List.mem_of_getElem? (i := 16) (by decide +kernel), List.forall_mem_cons.mpr ⟨List.mem_of_getElem? (i := 564) (by decide +kernel), List.forall_mem_cons.mpr ⟨List.mem_of_getElem? (i := 565) (by decide +kernel), List.forall_mem_cons.mpr ⟨List.mem_of_getElem? (i := 567) (by decide +kernel), List.forall_mem_cons.mpr ⟨List.mem_of_getElem? (i := 17) (by decide +kernel), fun w h => absurd h List.not_mem_nil⟩⟩⟩⟩⟩⟩⟩⟩⟩⟩⟩⟩⟩⟩⟩⟩⟩⟩⟩⟩⟩⟩⟩⟩
theorem bg_23 : wsL_law_r23.all goodWord = true := by decide +kernel
set_option maxRecDepth 20000 in
theorem bt_24 : ∀ w ∈ wsL_law_r24, w ∈ lw_tbl := List.forall_mem_cons.mpr ⟨List.mem_of_getElem? (i := 568) (by decide +kernel), List.forall_mem_cons.mpr ⟨List.mem_of_getElem? (i := 570) (by decide +kernel), List.forall_mem_cons.mpr ⟨List.mem_of_getElem? (i := 572) (by decide +kernel), List.forall_mem_cons.mpr ⟨List.mem_of_getElem? (i := 18) (by decide +kernel), List.forall_mem_cons.mpr ⟨List.mem_of_getElem? (i := 573) (by decide +kernel), List.forall_mem_cons.mpr ⟨List.mem_of_getElem? (i := 574) (by decide +kernel), List.forall_mem_cons.mpr ⟨List.mem_of_getElem? (i := 576) (by decide +kernel), List.forall_mem_cons.mpr ⟨List.mem_of_getElem? (i := 19) (by decide +kernel), List.forall_mem_cons.mpr ⟨List.mem_of_getElem? (i := 577) (by decide +kernel), List.forall_mem_cons.mpr ⟨List.mem_of_getElem? (i := 578) (by decide +kernel), List.forall_mem_cons.mpr ⟨List.mem_of_getElem? (i := 579) (by decide +kernel), List.forall_mem_cons.mpr ⟨List.mem_of_getElem? (i := 580) (by decide +kernel), List.forall_mem_cons.mpr ⟨List.mem_of_getElem? (i := 586) (by decide +kernel), List.forall_mem_cons.mpr ⟨List.mem_of_getElem? (i := 588) (by decide +kernel), List.forall_mem_cons.mpr ⟨List.mem_of_getElem? (i := 20) (by decide +kernel), List.forall_mem_cons.mpr ⟨List.mem_of_getElem? (i := 589) (by decide +kernel), List.forall_mem_cons.mpr ⟨List.mem_of_getElem? (i := 590) (by decide +kernel), List.forall_mem_cons.mpr ⟨List.mem_of_getElem? (i := 591) (by decide +kernel), List.forall_mem_cons.mpr ⟨List.mem_of_getElem? (i := 592) (by decide +kernel), List.forall_mem_cons.mpr ⟨List.mem_of_getElem? (i := 71) (by decide +kernel), List.forall_mem_cons.mpr ⟨List.mem_of_getElem? (i := 593) (by decide +kernel), List.forall_mem_cons.mpr ⟨List.mem_of_getElem? (i := 1052) (by decide +kernel), List.forall_mem_cons.mpr ⟨List.mem_of_getElem? (i := 594) (by decide +kernel), List.forall_mem_cons.mpr ⟨List.mem_of_getElem? (i := 595) (by decide +kernel), fun w h => absurd h List.not_mem_nil⟩⟩⟩⟩⟩⟩⟩⟩⟩⟩⟩⟩⟩⟩⟩⟩⟩⟩⟩⟩⟩⟩⟩⟩
theorem bg_24 : wsL_law_r24.all goodWord = true := by decide +kernel
set_option maxRecDepth 20000 in
theorem bt_25 : ∀ w ∈ wsL_law_r25, w ∈ lw_tbl := List.forall_mem_cons.mpr ⟨List.mem_of_getElem? (i := 596) (by decide +kernel), List.forall_mem_cons.mpr ⟨List.mem_of_getElem? (i := 597) (by decide +kernel), List.forall_mem_cons.mpr ⟨List.mem_of_getElem? (i := 598) (by decide +kernel), List.forall_mem_cons.mpr ⟨List.mem_of_getElem? (i := 1053) (by decide +kernel), List.forall_mem_cons.mpr ⟨List.mem_of_getElem? (i := 600) (by decide +kernel), List.forall_mem_cons.mpr ⟨List.mem_of_getElem? (i := 601) (by decide +kernel), List.forall_mem_cons.mpr ⟨List.mem_of_getElem? (i := 602) (by decide +kernel), List.forall_mem_cons.mpr ⟨List.mem_of_getElem? (i := 603) (by decide +kernel), List.forall_mem_cons.mpr ⟨List.mem_of_getElem? (i := 604) (by decide +kernel), List.forall_mem_cons.mpr ⟨List.mem_of_getElem? (i := 605) (by decide +kernel), List.forall_mem_cons.mpr ⟨List.mem_of_getElem? (i := 606) (by decide +kernel), List.forall_mem_cons.mpr ⟨List.mem_of_getElem? (i := 607) (by decide +kernel), List.forall_mem_cons.mpr ⟨List.mem_of_getElem? (i := 608) (by decide +kernel), List.forall_mem_cons.mpr ⟨List.mem_of_getElem? (i := 609) (by decide +kernel), List.forall_mem_cons.mpr ⟨List.mem_of_getElem? (i := 72) (by decide +kernel), List.forall_mem_cons.mpr ⟨List.mem_of_getElem? (i := 610) (by decide +kernel), List.forall_mem_cons.mpr ⟨List.mem_of_getElem? (i := 611) (by decide +kernel), List.forall_mem_cons.mpr ⟨List.mem_of_getElem? (i := 612) (by decide +kernel), List.forall_mem_cons.mpr ⟨List.mem_of_getElem? (i := 613) (by decide +kernel), List.forall_mem_cons.mpr ⟨List.mem_of_getElem? (i := 614) (by decide +kernel), List.forall_mem_cons.mpr ⟨List.mem_of_getElem? (i := 616) (by decide +kernel), List.forall_mem_cons.mpr ⟨List.mem_of_getElem? (i := 617) (by decide +kernel), List.forall_mem_cons.mpr ⟨List.mem_of_getElem? (i := 73) (by decide +kernel), List.forall_mem_cons.mpr ⟨List.mem_of_getElem? (i := 618) (by decide +kernel), fun w h => absurd h List.not_mem_nil⟩⟩⟩⟩⟩⟩⟩⟩⟩⟩⟩⟩⟩⟩⟩⟩⟩⟩⟩⟩⟩⟩⟩⟩
theorem bg_25 : wsL_law_r25.all goodWord = true := by decide +kernel
set_option maxRecDepth 20000 in
theorem bt_26 : ∀ w ∈ wsL_law_r26, w ∈ lw_tbl := List.forall_mem_cons.mpr ⟨List.mem_of_getElem? (i := 619) (by decide +kernel), List.forall_mem_cons.mpr ⟨List.mem_of_getElem? (i := 620) (by decide +kernel), List.forall_mem_cons.mpr ⟨List.mem_of_getElem? (i := 74) (by decide +kernel), List.forall_mem_cons.mpr ⟨List.mem_of_getElem? (i := 621) (by decide +kernel), List.forall_mem_cons.mpr ⟨List.mem_of_getElem? (i := 622) (by decide +kernel), List.forall_mem_cons.mpr ⟨List.mem_of_getElem? (i := 623) (by decide +kernel), List.forall_mem_cons.mpr ⟨List.mem_of_getElem? (i := 624) (by decide +kernel), List.forall_mem_cons.mpr ⟨List.mem_of_getElem? (i := 625) (by decide +kernel), List.forall_mem_cons.mpr ⟨List.mem_of_getElem? (i := 626) (by decide +kernel), List.forall_mem_cons.mpr ⟨List.mem_of_getElem? (i := 627) (by decide +kernel), List.forall_mem_cons.mpr ⟨List.mem_of_getElem? (i := 628) (by decide +kernel), List.forall_mem_cons.mpr ⟨List.mem_of_getElem? (i := 629) (by decide +kernel), List.forall_mem_cons.mpr ⟨List.mem_of_getElem? (i := 630) (by decide +kernel), List.forall_mem_cons.mpr ⟨List.mem_of_getElem? (i := 631) (by decide +kernel), List.forall_mem_cons.mpr ⟨List.mem_of_getElem? (i := 632) (by decide +kernel), List.forall_mem_cons.mpr ⟨List.mem_of_getElem? (i := 634) (by decide +kernel), List.forall_mem_cons.mpr ⟨List.mem_of_getElem? (i := 636) (by decide +kernel), List.forall_mem_cons.mpr ⟨List.mem_of_getElem? (i := 638) (by decide +kernel), List.forall_mem_cons.mpr ⟨List.mem_of_getElem? (i := 640) (by decide +kernel), List.forall_mem_cons.mpr ⟨List.mem_of_getElem? (i := 21) (by decide +kernel), List.forall_mem_cons.mpr ⟨List.mem_of_getElem? (i := 641) (by decide +kernel), List.forall_mem_cons.mpr ⟨List.mem_of_getElem? (i := 642) (by decide +kernel), List.forall_mem_cons.mpr ⟨List.mem_of_getElem? (i := 644) (by decide +kernel), List.forall_mem_cons.mpr ⟨List.mem_of_getElem? (i := 22) (by decide +kernel), fun w h => absurd h List.not_mem_nil⟩⟩⟩⟩⟩⟩⟩⟩⟩⟩⟩⟩⟩⟩⟩⟩⟩⟩⟩⟩⟩⟩⟩⟩
theorem bg_26 : wsL_law_r26.all goodWord = true := by decide +kernel
set_option maxRecDepth 20000 in
theorem bt_27 : ∀ w ∈ wsL_law_r27, w ∈ lw_tbl := List.forall_mem_cons.mpr ⟨List.mem_of_getElem? (i := 645) (by decide +kernel), List.forall_mem_cons.mpr ⟨List.mem_of_getElem? (i := 646) (by decide +kernel), List.forall_mem_cons.mpr ⟨List.mem_of_getElem? (i := 647) (by decide +kernel), List.forall_mem_cons.mpr ⟨List.mem_of_getElem? (i := 648) (by decide +kernel), List.forall_mem_cons.mpr ⟨List.mem_of_getElem? (i := 649) (by decide +kernel), List.forall_mem_cons.mpr ⟨List.mem_of_getElem? (i := 650) (by decide +kernel), List.forall_mem_cons.mpr ⟨List.mem_of_getElem? (i := 651) (by decide +kernel), List.forall_mem_cons.mpr ⟨List.mem_of_getElem? (i := 652) (by decide +kernel), List.forall_mem_cons.mpr ⟨List.mem_of_getElem? (i := 653) (by decide +kernel), List.forall_mem_cons.mpr ⟨List.mem_of_getElem? (i := 654) (by decide +kernel), List.forall_mem_cons.mpr ⟨List.mem_of_getElem? (i := 964) (by decide +kernel), List.forall_mem_cons.mpr ⟨List.mem_of_getElem? (i := 965) (by decide +kernel), List.forall_mem_cons.mpr ⟨List.mem_of_getElem? (i := 966) (by decide +kernel), List.forall_mem_cons.mpr ⟨List.mem_of_getElem? (i := 967) (by decide +kernel), List.forall_mem_cons.mpr ⟨List.mem_of_getElem? (i := 767) (by decide +kernel), List.forall_mem_cons.mpr ⟨List.mem_of_getElem? (i := 768) (by decide +kernel), List.forall_mem_cons.mpr ⟨List.mem_of_getElem? (i := 968) (by decide +kernel), List.forall_mem_cons.mpr ⟨List.mem_of_getElem? (i := 970) (by decide +kernel), List.forall_mem_cons.mpr ⟨List.mem_of_getElem? (i := 50) (by decide +kernel), List.forall_mem_cons.mpr ⟨List.mem_of_getElem? (i := 971) (by decide +kernel), List.forall_mem_cons.mpr ⟨List.mem_of_getElem? (i := 972) (by decide +kernel), List.forall_mem_cons.mpr ⟨List.mem_of_getElem? (i := 974) (by decide +kernel), List.forall_mem_cons.mpr ⟨List.mem_of_getElem? (i := 51) (by decide +kernel), List.forall_mem_cons.mpr ⟨List.mem_of_getElem? (i := 975) (by decide +kernel), fun w h => absurd h List.not_mem_nil⟩⟩⟩⟩⟩⟩⟩⟩⟩⟩⟩⟩⟩⟩⟩⟩⟩⟩⟩⟩⟩⟩⟩⟩
theorem bg_27 : wsL_law_r27.all goodWord = true := by decide +kernel
set_option maxRecDepth 20000 in
theorem bt_28 : ∀ w ∈ wsL_law_r28, w ∈ lw_tbl := List.forall_mem_cons.mpr ⟨List.mem_of_getElem? (i := 976) (by decide +kernel), List.forall_mem_cons.mpr ⟨List.mem_of_getElem? (i := 978) (by decide +kernel), List.forall_mem_cons.mpr ⟨List.mem_of_getElem? (i := 52) (by decide +kernel), List.forall_mem_cons.mpr ⟨List.mem_of_getElem? (i := 979) (by decide +kernel), List.forall_mem_cons.mpr ⟨List.mem_of_getElem? (i := 980) (by decide +kernel), List.forall_mem_cons.mpr ⟨List.mem_of_getElem? (i := 982) (by decide +kernel), List.forall_mem_cons.mpr ⟨List.mem_of_getElem? (i := 53) (by decide +kernel), List.forall_mem_cons.mpr ⟨List.mem_of_getElem? (i := 983) (by decide +kernel), List.forall_mem_cons.mpr ⟨List.mem_of_getElem? (i := 984) (by decide +kernel), List.forall_mem_cons.mpr ⟨List.mem_of_getElem? (i := 986) (by decide +kernel), List.forall_mem_cons.mpr ⟨List.mem_of_getElem? (i := 54) (by decide +kernel), List.forall_mem_cons.mpr ⟨List.mem_of_getElem? (i := 987) (by decide +kernel), List.forall_mem_cons.mpr ⟨List.mem_of_getElem? (i := 988) (by decide +kernel), List.forall_mem_cons.mpr ⟨List.mem_of_getElem? (i := 990) (by decide +kernel), List.forall_mem_cons.mpr ⟨List.mem_of_getElem? (i := 55) (by decide +kernel), List.forall_mem_cons.mpr ⟨List.mem_of_getElem? (i := 991) (by decide +kernel), List.forall_mem_cons.mpr ⟨List.mem_of_getElem? (i := 992) (by decide +kernel), List.forall_mem_cons.mpr ⟨List.mem_of_getElem? (i := 994) (by decide +kernel), List.forall_mem_cons.mpr ⟨List.mem_of_getElem? (i := 56) (by decide +kernel), List.forall_mem_cons.mpr ⟨List.mem_of_getElem? (i := 995) (by decide +kernel), List.forall_mem_cons.mpr ⟨List.mem_of_getElem? (i := 656) (by decide +kernel), List.forall_mem_cons.mpr ⟨List.mem_of_getElem? (i := 657) (by decide +kernel), List.forall_mem_cons.mpr ⟨List.mem_of_getElem? (i := 658) (by decide +kernel), List.forall_mem_cons.mpr ⟨List.mem_of_getElem? (i := 659) (by decide +kernel), fun w h => absurd h List.not_mem_nil⟩⟩⟩⟩⟩⟩⟩⟩⟩⟩⟩⟩⟩⟩⟩⟩⟩⟩⟩⟩⟩⟩⟩⟩
theorem bg_28 : wsL_law_r28.all goodWord = true := by decide +kernel
set_option maxRecDepth 20000 in
theorem bt_29 : ∀ w ∈ wsL_law_r29, w ∈ lw_tbl := List.forall_mem_cons.mpr ⟨List.mem_of_getElem? (i := 259) (by decide +kernel), List.forall_mem_cons.mpr ⟨List.mem_of_getElem? (i := 660) (by decide +kernel), List.forall_mem_cons.mpr ⟨List.mem_of_getElem? (i := 661) (by decide +kernel), List.forall_mem_cons.mpr ⟨List.mem_of_getElem? (i := 662) (by decide +kernel), List.forall_mem_cons.mpr ⟨List.mem_of_getElem? (i := 663) (by decide +kernel), List.forall_mem_cons.mpr ⟨List.mem_of_getElem? (i := 1000) (by decide +kernel), List.forall_mem_cons.mpr ⟨List.mem_of_getElem? (i := 1001) (by decide +kernel), List.forall_mem_cons.mpr ⟨List.mem_of_getElem? (i := 1002) (by decide +kernel), List.forall_mem_cons.mpr ⟨List.mem_of_getElem? (i := 1003) (by decide +kernel), List.forall_mem_cons.mpr ⟨List.mem_of_getElem? (i := 664) (by decide +kernel), List.forall_mem_cons.mpr ⟨List.mem_of_getElem? (i := 665) (by decide +kernel), List.forall_mem_cons.mpr ⟨List.mem_of_getElem? (i := 666) (by decide +kernel), List.forall_mem_cons.mpr ⟨List.mem_of_getElem? (i := 667) (by decide +kernel), List.forall_mem_cons.mpr ⟨List.mem_of_getElem? (i := 302) (by decide +kernel), List.forall_mem_cons.mpr ⟨List.mem_of_getElem? (i := 668) (by decide +kernel), List.forall_mem_cons.mpr ⟨List.mem_of_getElem? (i := 1004) (by decide +kernel), List.forall_mem_cons.mpr ⟨List.mem_of_getElem? (i := 1005) (by decide +kernel), List.forall_mem_cons.mpr ⟨List.mem_of_getElem? (i := 1006) (by decide +kernel), List.forall_mem_cons.mpr ⟨List.mem_of_getElem? (i := 1007) (by decide +kernel), List.forall_mem_cons.mpr ⟨List.mem_of_getElem? (i := 763) (by decide +kernel), List.forall_mem_cons.mpr ⟨List.mem_of_getElem? (i := 669) (by decide +kernel), List.forall_mem_cons.mpr ⟨List.mem_of_getElem? (i := 670) (by decide +kernel), List.forall_mem_cons.mpr ⟨List.mem_of_getElem? (i := 671) (by decide +kernel), List.forall_mem_cons.mpr ⟨List.mem_of_getElem? (i := 672) (by decide +kernel), fun w h => absurd h List.not_mem_nil⟩⟩⟩⟩⟩⟩⟩⟩⟩⟩⟩⟩⟩⟩⟩⟩⟩⟩⟩⟩⟩⟩⟩⟩
theorem bg_29 : wsL_law_r29.all goodWord = true := by decide +kernel
set_option maxRecDepth 20000 in
theorem bt_30 : ∀ w ∈ wsL_law_r30, w ∈ lw_tbl := List.forall_mem_cons.mpr ⟨List.mem_of_getElem? (i := 1008) (by decide +kernel), List.forall_mem_cons.mpr ⟨List.mem_of_getElem? (i := 1009) (by decide +kernel), List.forall_mem_cons.mpr ⟨List.mem_of_getElem? (i := 1010) (by decide +kernel), List.forall_mem_cons.mpr ⟨List.mem_of_getElem? (i := 1011) (by decide +kernel), List.forall_mem_cons.mpr ⟨List.mem_of_getElem? (i := 673) (by decide +kernel), List.forall_mem_cons.mpr ⟨List.mem_of_getElem? (i := 674) (by decide +kernel), List.forall_mem_cons.mpr ⟨List.mem_of_getElem? (i := 675) (by decide +kernel), List.forall_mem_cons.mpr ⟨List.mem_of_getElem? (i := 676) (by decide +kernel), List.forall_mem_cons.mpr ⟨List.mem_of_getElem? (i := 102) (by decide +kernel), List.forall_mem_cons.mpr ⟨List.mem_of_getElem? (i := 104) (by decide +kernel), List.forall_mem_cons.mpr ⟨List.mem_of_getElem? (i := 106) (by decide +kernel), List.forall_mem_cons.mpr ⟨List.mem_of_getElem? (i := 130) (by decide +kernel), List.forall_mem_cons.mpr ⟨List.mem_of_getElem? (i := 679) (by decide +kernel), List.forall_mem_cons.mpr ⟨List.mem_of_getElem? (i := 680) (by decide +kernel), List.forall_mem_cons.mpr ⟨List.mem_of_getElem? (i := 70) (by decide +kernel), List.forall_mem_cons.mpr ⟨List.mem_of_getElem? (i := 681) (by decide +kernel), List.forall_mem_cons.mpr ⟨List.mem_of_getElem? (i := 677) (by decide +kernel), List.forall_mem_cons.mpr ⟨List.mem_of_getElem? (i := 678) (by decide +kernel), List.forall_mem_cons.mpr ⟨List.mem_of_getElem? (i := 1012) (by decide +kernel), List.forall_mem_cons.mpr ⟨List.mem_of_getElem? (i := 1013) (by decide +kernel), List.forall_mem_cons.mpr ⟨List.mem_of_getElem? (i := 1014) (by decide +kernel), List.forall_mem_cons.mpr ⟨List.mem_of_getElem? (i := 1015) (by decide +kernel), List.forall_mem_cons.mpr ⟨List.mem_of_getElem? (i := 682) (by decide +kernel), List.forall_mem_cons.mpr ⟨List.mem_of_getElem? (i := 683) (by decide +kernel), fun w h => absurd h List.not_mem_nil⟩⟩⟩⟩⟩⟩⟩⟩⟩⟩⟩⟩⟩⟩⟩⟩⟩⟩⟩⟩⟩⟩⟩⟩
theorem bg_30 : wsL_law_r30.all goodWord = true := by decide +kernel
set_option maxRecDepth 20000 in
theorem bt_31 : ∀ w ∈ wsL_law_r31, w ∈ lw_tbl := List.forall_mem_cons.mpr ⟨List.mem_of_getElem? (i := 684) (by decide +kernel), List.forall_mem_cons.mpr ⟨List.mem_of_getElem? (i := 685) (by decide +kernel), List.forall_mem_cons.mpr ⟨List.mem_of_getElem? (i := 1016) (by decide +kernel), List.forall_mem_cons.mpr ⟨List.mem_of_getElem? (i := 1017) (by decide +kernel), List.forall_mem_cons.mpr ⟨List.mem_of_getElem? (i := 1018) (by decide +kernel), List.forall_mem_cons.mpr ⟨List.mem_of_getElem? (i := 1019) (by decide +kernel), List.forall_mem_cons.mpr ⟨List.mem_of_getElem? (i := 686) (by decide +kernel), List.forall_mem_cons.mpr ⟨List.mem_of_getElem? (i := 687) (by decide +kernel), List.forall_mem_cons.mpr ⟨List.mem_of_getElem? (i := 688) (by decide +kernel), List.forall_mem_cons.mpr ⟨List.mem_of_getElem? (i := 689) (by decide +kernel), List.forall_mem_cons.mpr ⟨List.mem_of_getElem? (i := 833) (by decide +kernel), List.forall_mem_cons.mpr ⟨List.mem_of_getElem? (i := 834) (by decide +kernel), List.forall_mem_cons.mpr ⟨List.mem_of_getElem? (i := 835) (by decide +kernel), List.forall_mem_cons.mpr ⟨List.mem_of_getElem? (i := 836) (by decide +kernel), List.forall_mem_cons.mpr ⟨List.mem_of_getElem? (i := 690) (by decide +kernel), List.forall_mem_cons.mpr ⟨List.mem_of_getElem? (i := 691) (by decide +kernel), List.forall_mem_cons.mpr ⟨List.mem_of_getElem? (i := 692) (by decide +kernel), List.forall_mem_cons.mpr ⟨List.mem_of_getElem? (i := 693) (by decide +kernel), List.forall_mem_cons.mpr ⟨List.mem_of_getElem? (i := 857) (by decide +kernel), List.forall_mem_cons.mpr ⟨List.mem_of_getElem? (i := 858) (by decide +kernel), List.forall_mem_cons.mpr ⟨List.mem_of_getElem? (i := 859) (by decide +kernel), List.forall_mem_cons.mpr ⟨List.mem_of_getElem? (i := 860) (by decide +kernel), List.forall_mem_cons.mpr ⟨List.mem_of_getElem? (i := 694) (by decide +kernel), List.forall_mem_cons.mpr ⟨List.mem_of_getElem? (i := 695) (by decide +kernel), fun w h => absurd h List.not_mem_nil⟩⟩⟩⟩⟩⟩⟩⟩⟩⟩⟩⟩⟩⟩⟩⟩⟩⟩⟩⟩⟩⟩⟩⟩
theorem bg_31 : wsL_law_r31.all goodWord = true := by decide +kernel
set_option maxRecDepth 20000 in
theorem bt_32 : ∀ w ∈ wsL_law_r32, w ∈ lw_tbl := List.forall_mem_cons.mpr ⟨List.mem_of_getElem? (i := 696) (by decide +kernel), List.forall_mem_cons.mpr ⟨List.mem_of_getElem? (i := 697) (by decide +kernel), List.forall_mem_cons.mpr ⟨List.mem_of_getElem? (i := 220) (by decide +kernel), List.forall_mem_cons.mpr ⟨List.mem_of_getElem? (i := 698) (by decide +kernel), List.forall_mem_cons.mpr ⟨List.mem_of_getElem? (i := 699) (by decide +kernel), List.forall_mem_cons.mpr ⟨List.mem_of_getElem? (i := 700) (by decide +kernel), List.forall_mem_cons.mpr ⟨List.mem_of_getElem? (i := 701) (by decide +kernel), List.forall_mem_cons.mpr ⟨List.mem_of_getElem? (i := 702) (by decide +kernel), List.forall_mem_cons.mpr ⟨List.mem_of_getElem? (i := 703) (by decide +kernel), List.forall_mem_cons.mpr ⟨List.mem_of_getElem? (i := 704) (by decide +kernel), List.forall_mem_cons.mpr ⟨List.mem_of_getElem? (i := 888) (by decide +kernel), List.forall_mem_cons.mpr ⟨List.mem_of_getElem? (i := 889) (by decide +kernel), List.forall_mem_cons.mpr ⟨List.mem_of_getElem? (i := 890) (by decide +kernel), List.forall_mem_cons.mpr ⟨List.mem_of_getElem? (i := 891) (by decide +kernel), List.forall_mem_cons.mpr ⟨List.mem_of_getElem? (i := 705) (by decide +kernel), List.forall_mem_cons.mpr ⟨List.mem_of_getElem? (i := 706) (by decide +kernel), List.forall_mem_cons.mpr ⟨List.mem_of_getElem? (i := 707) (by decide +kernel), List.forall_mem_cons.mpr ⟨List.mem_of_getElem? (i := 708) (by decide +kernel), List.forall_mem_cons.mpr ⟨List.mem_of_getElem? (i := 709) (by decide +kernel), List.forall_mem_cons.mpr ⟨List.mem_of_getElem? (i := 710) (by decide +kernel), List.forall_mem_cons.mpr ⟨List.mem_of_getElem? (i := 711) (by decide +kernel), List.forall_mem_cons.mpr ⟨List.mem_of_getElem? (i := 712) (by decide +kernel), List.forall_mem_cons.mpr ⟨List.mem_of_getElem? (i := 713) (by decide +kernel), List.forall_mem_cons.mpr ⟨List.mem_of_getElem? (i := 996) (by decide +kernel), fun w h => absurd h List.not_mem_nil⟩⟩⟩⟩⟩⟩⟩⟩⟩⟩⟩⟩⟩⟩⟩⟩⟩⟩⟩⟩⟩⟩⟩⟩
theorem bg_32 : wsL_law_r32.all goodWord = true := by decide +kernel
set_option maxRecDepth 20000 in
theorem bt_33 : ∀ w ∈ wsL_law_r33, w ∈ lw_tbl := List.forall_mem_cons.mpr ⟨List.mem_of_getElem? (i := 997) (by decide +kernel), List.forall_mem_cons.mpr ⟨List.mem_of_getElem? (i := 998) (by decide +kernel), List.forall_mem_cons.mpr ⟨List.mem_of_getElem? (i := 999) (by decide +kernel), List.forall_mem_cons.mpr ⟨List.mem_of_getElem? (i := 714) (by decide +kernel), List.forall_mem_cons.mpr ⟨List.mem_of_getElem? (i := 715) (by decide +kernel), List.forall_mem_cons.mpr ⟨List.mem_of_getElem? (i := 716) (by decide +kernel), List.forall_mem_cons.mpr ⟨List.mem_of_getElem? (i := 717) (by decide +kernel), List.forall_mem_cons.mpr ⟨List.mem_of_getElem? (i := 111) (by decide +kernel), List.forall_mem_cons.mpr ⟨List.mem_of_getElem? (i := 1020) (by decide +kernel), List.forall_mem_cons.mpr ⟨List.mem_of_getElem? (i := 1021) (by decide +kernel), List.forall_mem_cons.mpr ⟨List.mem_of_getElem? (i := 1022) (by decide +kernel), List.forall_mem_cons.mpr ⟨List.mem_of_getElem? (i := 1023) (by decide +kernel), List.forall_mem_cons.mpr ⟨List.mem_of_getElem? (i := 718) (by decide +kernel), List.forall_mem_cons.mpr ⟨List.mem_of_getElem? (i := 719) (by decide +kernel), List.forall_mem_cons.mpr ⟨List.mem_of_getElem? (i := 720) (by decide +kernel), List.forall_mem_cons.mpr ⟨List.mem_of_getElem? (i := 721) (by decide +kernel), List.forall_mem_cons.mpr ⟨List.mem_of_getElem? (i := 722) (by decide +kernel), List.forall_mem_cons.mpr ⟨List.mem_of_getElem? (i := 1024) (by decide +kernel), List.forall_mem_cons.mpr ⟨List.mem_of_getElem? (i := 1025) (by decide +kernel), List.forall_mem_cons.mpr ⟨List.mem_of_getElem? (i := 1026) (by decide +kernel), List.forall_mem_cons.mpr ⟨List.mem_of_getElem? (i := 1027) (by decide +kernel), List.forall_mem_cons.mpr ⟨List.mem_of_getElem? (i := 723) (by decide +kernel), List.forall_mem_cons.mpr ⟨List.mem_of_getElem? (i := 724) (by decide +kernel), List.forall_mem_cons.mpr ⟨List.mem_of_getElem? (i := 725) (by decide +kernel), fun w h => absurd h List.not_mem_nil⟩⟩⟩⟩⟩⟩⟩⟩⟩⟩⟩⟩⟩⟩⟩⟩⟩⟩⟩⟩⟩⟩⟩⟩
theorem bg_33 : wsL_law_r33.all goodWord = true := by decide +kernel
set_option maxRecDepth 20000 in
theorem bt_34 : ∀ w ∈ wsL_law_r34, w ∈ lw_tbl := List.forall_mem_cons.mpr ⟨List.mem_of_getElem? (i := 726) (by decide +kernel), List.forall_mem_cons.mpr ⟨List.mem_of_getElem? (i := 1028) (by decide +kernel), List.forall_mem_cons.mpr ⟨List.mem_of_getElem? (i := 1029) (by decide +kernel), List.forall_mem_cons.mpr ⟨List.mem_of_getElem? (i := 1030) (by decide +kernel), List.forall_mem_cons.mpr ⟨List.mem_of_getElem? (i := 1031) (by decide +kernel), List.forall_mem_cons.mpr ⟨List.mem_of_getElem? (i := 727) (by decide +kernel), List.forall_mem_cons.mpr ⟨List.mem_of_getElem? (i := 728) (by decide +kernel), List.forall_mem_cons.mpr ⟨List.mem_of_getElem? (i := 729) (by decide +kernel), List.forall_mem_cons.mpr ⟨List.mem_of_getElem? (i := 730) (by decide +kernel), List.forall_mem_cons.mpr ⟨List.mem_of_getElem? (i := 731) (by decide +kernel), List.forall_mem_cons.mpr ⟨List.mem_of_getElem? (i := 732) (by decide +kernel), List.forall_mem_cons.mpr ⟨List.mem_of_getElem? (i := 1032) (by decide +kernel), List.forall_mem_cons.mpr ⟨List.mem_of_getElem? (i := 1033) (by decide +kernel), List.forall_mem_cons.mpr ⟨List.mem_of_getElem? (i := 1034) (by decide +kernel), List.forall_mem_cons.mpr ⟨List.mem_of_getElem? (i := 1035) (by decide +kernel), List.forall_mem_cons.mpr ⟨List.mem_of_getElem? (i := 733) (by decide +kernel), List.forall_mem_cons.mpr ⟨List.mem_of_getElem? (i := 734) (by decide +kernel), List.forall_mem_cons.mpr ⟨List.mem_of_getElem? (i := 735) (by decide +kernel), List.forall_mem_cons.mpr ⟨List.mem_of_getElem? (i := 736) (by decide +kernel), List.forall_mem_cons.mpr ⟨List.mem_of_getElem? (i := 205) (by decide +kernel), List.forall_mem_cons.mpr ⟨List.mem_of_getElem? (i := 737) (by decide +kernel), List.forall_mem_cons.mpr ⟨List.mem_of_getElem? (i := 738) (by decide +kernel), List.forall_mem_cons.mpr ⟨List.mem_of_getElem? (i := 739) (by decide +kernel), List.forall_mem_cons.mpr ⟨List.mem_of_getElem? (i := 740) (by decide +kernel), fun w h => absurd h List.not_mem_nil⟩⟩⟩⟩⟩⟩⟩⟩⟩⟩⟩⟩⟩⟩⟩⟩⟩⟩⟩⟩⟩⟩⟩⟩
theorem bg_34 : wsL_law_r34.all goodWord = true := by decide +kernel
set_option maxRecDepth 20000 in
theorem bt_35 : ∀ w ∈ wsL_law_r35, w ∈ lw_tbl := List.forall_mem_cons.mpr ⟨List.mem_of_getElem? (i := 741) (by decide +kernel), List.forall_mem_cons.mpr ⟨List.mem_of_getElem? (i := 742) (by decide +kernel), List.forall_mem_cons.mpr ⟨List.mem_of_getElem? (i := 743) (by decide +kernel), List.forall_mem_cons.mpr ⟨List.mem_of_getElem? (i := 744) (by decide +kernel), List.forall_mem_cons.mpr ⟨List.mem_of_getElem? (i := 99) (by decide +kernel), List.forall_mem_cons.mpr ⟨List.mem_of_getElem? (i := 745) (by decide +kernel), List.forall_mem_cons.mpr ⟨List.mem_of_getElem? (i := 746) (by decide +kernel), List.forall_mem_cons.mpr ⟨List.mem_of_getElem? (i := 747) (by decide +kernel), List.forall_mem_cons.mpr ⟨List.mem_of_getElem? (i := 748) (by decide +kernel), List.forall_mem_cons.mpr ⟨List.mem_of_getElem? (i := 119) (by decide +kernel), List.forall_mem_cons.mpr ⟨List.mem_of_getElem? (i := 749) (by decide +kernel), List.forall_mem_cons.mpr ⟨List.mem_of_getElem? (i := 750) (by decide +kernel), List.forall_mem_cons.mpr ⟨List.mem_of_getElem? (i := 751) (by decide +kernel), List.forall_mem_cons.mpr ⟨List.mem_of_getElem? (i := 752) (by decide +kernel), List.forall_mem_cons.mpr ⟨List.mem_of_getElem? (i := 1036) (by decide +kernel), List.forall_mem_cons.mpr ⟨List.mem_of_getElem? (i := 1037) (by decide +kernel), List.forall_mem_cons.mpr ⟨List.mem_of_getElem? (i := 1038) (by decide +kernel), List.forall_mem_cons.mpr ⟨List.mem_of_getElem? (i := 1039) (by decide +kernel), List.forall_mem_cons.mpr ⟨List.mem_of_getElem? (i := 1040) (by decide +kernel), List.forall_mem_cons.mpr ⟨List.mem_of_getElem? (i := 1042) (by decide +kernel), List.forall_mem_cons.mpr ⟨List.mem_of_getElem? (i := 57) (by decide +kernel), List.forall_mem_cons.mpr ⟨List.mem_of_getElem? (i := 1043) (by decide +kernel), List.forall_mem_cons.mpr ⟨List.mem_of_getElem? (i := 1044) (by decide +kernel), List.forall_mem_cons.mpr ⟨List.mem_of_getElem? (i := 1046) (by decide +kernel), fun w h => absurd h List.not_mem_nil⟩⟩⟩⟩⟩⟩⟩⟩⟩⟩⟩⟩⟩⟩⟩⟩⟩⟩⟩⟩⟩⟩⟩⟩
theorem bg_35 : wsL_law_r35.all goodWord = true := by decide +kernel
set_option maxRecDepth 20000 in
theorem bt_36 : ∀ w ∈ wsL_law_r36, w ∈ lw_tbl := List.forall_mem_cons.mpr ⟨List.mem_of_getElem? (i := 58) (by decide +kernel), List.forall_mem_cons.mpr ⟨List.mem_of_getElem? (i := 1047) (by decide +kernel), List.forall_mem_cons.mpr ⟨List.mem_of_getElem? (i := 1048) (by decide +kernel), List.forall_mem_cons.mpr ⟨List.mem_of_getElem? (i := 1050) (by decide +kernel), List.forall_mem_cons.mpr ⟨List.mem_of_getElem? (i := 59) (by decide +kernel), List.forall_mem_cons.mpr ⟨List.mem_of_getElem? (i := 1051) (by decide +kernel), fun w h => absurd h List.not_mem_nil⟩⟩⟩⟩⟩⟩
theorem bg_36 : wsL_law_r36.all goodWord = true := by decide +kernel
theorem bp_1 : ∀ w ∈ wsL_law_r1, w ∈ wsL_law := fun w h => (List.mem_append_left _ (List.mem_append_left _ (List.mem_append_left _ (List.mem_append_left _ (List.mem_append_left _ (List.mem_append_left _ (List.mem_append_left _ (List.mem_append_left _ (List.mem_append_left _ (List.mem_append_left _ h))))))))))
theorem bp_2 : ∀ w ∈ wsL_law_r2, w ∈ wsL_law := fun w h => (List.mem_append_left _ (List.mem_append_left _ (List.mem_append_left _ (List.mem_append_left _ (List.mem_append_left _ (List.mem_append_left _ (List.mem_append_left _ (List.mem_append_left _ (List.mem_append_left _ (List.mem_append_right _ (List.mem_append_left _ h)))))))))))
theorem bp_3 : ∀ w ∈ wsL_law_r3, w ∈ wsL_law := fun w h => (List.mem_append_left _ (List.mem_append_left _ (List.mem_append_left _ (List.mem_append_left _ (List.mem_append_left _ (List.mem_append_left _ (List.mem_append_left _ (List.mem_append_left _ (List.mem_append_left _ (List.mem_append_right _ (List.mem_append_right _ (List.mem_append_left _ h))))))))))))
theorem bp_4 : ∀ w ∈ wsL_law_r4, w ∈ wsL_law := fun w h => (List.mem_append_left _ (List.mem_append_left _ (List.mem_append_left _ (List.mem_append_left _ (List.mem_append_left _ (List.mem_append_left _ (List.mem_append_left _ (List.mem_append_left _ (List.mem_append_left _ (List.mem_append_right _ (List.mem_append_right _ (List.mem_append_right _ (List.mem_append_left _ h)))))))))))))
theorem bp_5 : ∀ w ∈ wsL_law_r5, w ∈ wsL_law := fun w h => (List.mem_append_left _ (List.mem_append_left _ (List.mem_append_left _ (List.mem_append_left _ (List.mem_append_left _ (List.mem_append_left _ (List.mem_append_left _ (List.mem_append_left _ (List.mem_append_left _ (List.mem_append_right _ (List.mem_append_right _ (List.mem_append_right _ (List.mem_append_right _ (List.mem_append_left _ h))))))))))))))
theorem bp_6 : ∀ w ∈ wsL_law_r6, w ∈ wsL_law := fun w h => (List.mem_append_left _ (List.mem_append_left _ (List.mem_append_left _ (List.mem_append_left _ (List.mem_append_left _ (List.mem_append_left _ (List.mem_append_left _ (List.mem_append_left _ (List.mem_append_left _ (List.mem_append_right _ (List.mem_append_right _ (List.mem_append_right _ (List.mem_append_right _ (List.mem_append_right _ (List.mem_append_left _ h)))))))))))))))
theorem bp_7 : ∀ w ∈ wsL_law_r7, w ∈ wsL_law := fun w h => (List.mem_append_left _ (List.mem_append_left _ (List.mem_append_left _ (List.mem_append_left _ (List.mem_append_left _ (List.mem_append_left _ (List.mem_append_left _ (List.mem_append_left _ (List.mem_append_left _ (List.mem_append_right _ (List.mem_append_right _ (List.mem_append_right _ (List.mem_append_right _ (List.mem_append_right _ (List.mem_append_right _ (List.mem_append_left _ h))))))))))))))))
theorem bp_8 : ∀ w ∈ wsL_law_r8, w ∈ wsL_law := fun w h => (List.mem_append_left _ (List.mem_append_left _ (List.mem_append_left _ (List.mem_append_left _ (List.mem_append_left _ (List.mem_append_left _ (List.mem_append_left _ (List.mem_append_left _ (List.mem_append_left _ (List.mem_append_right _ (List.mem_append_right _ (List.mem_append_right _ (List.mem_append_right _ (List.mem_append_right _ (List.mem_append_right _ (List.mem_append_right _ (List.mem_append_left _ h)))))))))))))))))
theorem bp_9 : ∀ w ∈ wsL_law_r9, w ∈ wsL_law := fun w h => (List.mem_append_left _ (List.mem_append_left _ (List.mem_append_left _ (List.mem_append_left _ (List.mem_append_left _ (List.mem_append_left _ (List.mem_append_left _ (List.mem_append_left _ (List.mem_append_left _ (List.mem_append_right _ (List.mem_append_right _ (List.mem_append_right _ (List.mem_append_right _ (List.mem_append_right _ (List.mem_append_right _ (List.mem_append_right _ (List.mem_append_right _ (List.mem_append_left _ h))))))))))))))))))
theorem bp_10 : ∀ w ∈ wsL_law_r10, w ∈ wsL_law := fun w h => (List.mem_append_left _ (List.mem_append_left _ (List.mem_append_left _ (List.mem_append_left _ (List.mem_append_left _ (List.mem_append_left _ (List.mem_append_left _ (List.mem_append_left _ (List.mem_append_left _ (List.mem_append_right _ (List.mem_append_right _ (List.mem_append_right _ (List.mem_append_right _ (List.mem_append_right _ (List.mem_append_right _ (List.mem_append_right _ (List.mem_append_right _ (List.mem_append_right _ (List.mem_append_left _ h)))))))))))))))))))
theorem bp_11 : ∀ w ∈ wsL_law_r11, w ∈ wsL_law := fun w h => (List.mem_append_left _ (List.mem_append_left _ (List.mem_append_left _ (List.mem_append_left _ (List.mem_append_left _ (List.mem_append_left _ (List.mem_append_left _ (List.mem_append_left _ (List.mem_append_left _ (List.mem_append_right _ (List.mem_append_right _ (List.mem_append_right _ (List.mem_append_right _ (List.mem_append_right _ (List.mem_append_right _ (List.mem_append_right _ (List.mem_append_right _ (List.mem_append_right _ (List.mem_append_right _ (List.mem_append_left _ h))))))))))))))))))))
theorem bp_12 : ∀ w ∈ wsL_law_r12, w ∈ wsL_law := fun w h => (List.mem_append_left _ (List.mem_append_left _ (List.mem_append_left _ (List.mem_append_left _ (List.mem_append_left _ (List.mem_append_left _ (List.mem_append_left _ (List.mem_append_left _ (List.mem_append_left _ (List.mem_append_right _ (List.mem_append_right _ (List.mem_append_right _ (List.mem_append_right _ (List.mem_append_right _ (List.mem_append_right _ (List.mem_append_right _ (List.mem_append_right _ (List.mem_append_right _ (List.mem_append_right _ (List.mem_append_right _ (List.mem_append_left _ h)))))))))))))))))))))
theorem bp_13 : ∀ w ∈ wsL_law_r13, w ∈ wsL_law := fun w h => (List.mem_append_left _ (List.mem_append_left _ (List.mem_append_left _ (List.mem_append_left _ (List.mem_append_left _ (List.mem_append_left _ (List.mem_append_left _ (List.mem_append_left _ (List.mem_append_left _ (List.mem_append_right _ (List.mem_append_right _ (List.mem_append_right _ (List.mem_append_right _ (List.mem_append_right _ (List.mem_append_right _ (List.mem_append_right _ (List.mem_append_right _ (List.mem_append_right _ (List.mem_append_right _ (List.mem_append_right _ (List.mem_append_right _ (List.mem_append_left _ h))))))))))))))))))))))
theorem bp_14 : ∀ w ∈ wsL_law_r14, w ∈ wsL_law := fun w h => (List.mem_append_left _ (List.mem_append_left _ (List.mem_append_left _ (List.mem_append_left _ (List.mem_append_left _ (List.mem_append_left _ (List.mem_append_left _ (List.mem_append_left _ (List.mem_append_left _ (List.mem_append_right _ (List.mem_append_right _ (List.mem_append_right _ (List.mem_append_right _ (List.mem_append_right _ (List.mem_append_right _ (List.mem_append_right _ (List.mem_append_right _ (List.mem_append_right _ (List.mem_append_right _ (List.mem_append_right _ (List.mem_append_right _ (List.mem_append_right _ (List.mem_append_left _ h)))))))))))))))))))))))
theorem bp_15 : ∀ w ∈ wsL_law_r15, w ∈ wsL_law := fun w h => (List.mem_append_left _ (List.mem_append_left _ (List.mem_append_left _ (List.mem_append_left _ (List.mem_append_left _ (List.mem_append_left _ (List.mem_append_left _ (List.mem_append_left _ (List.mem_append_left _ (List.mem_append_right _ (List.mem_append_right _ (List.mem_append_right _ (List.mem_append_right _ (List.mem_append_right _ (List.mem_append_right _ (List.mem_append_right _ (List.mem_append_right _ (List.mem_append_right _ (List.mem_append_right _ (List.mem_append_right _ (List.mem_append_right _ (List.mem_append_right _ (List.mem_append_right _ (List.mem_append_left _ h))))))))))))))))))))))))
theorem bp_16 : ∀ w ∈ wsL_law_r16, w ∈ wsL_law := fun w h => (List.mem_append_left _ (List.mem_append_left _ (List.mem_append_left _ (List.mem_append_left _ (List.mem_append_left _ (List.mem_append_left _ (List.mem_append_left _ (List.mem_append_left _ (List.mem_append_left _ (List.mem_append_right _ (List.mem_append_right _ (List.mem_append_right _ (List.mem_append_right _ (List.mem_append_right _ (List.mem_append_right _ (List.mem_append_right _ (List.mem_append_right _ (List.mem_append_right _ (List.mem_append_right _ (List.mem_append_right _ (List.mem_append_right _ (List.mem_append_right _ (List.mem_append_right _ (List.mem_append_right _ (List.mem_append_left _ h)))))))))))))))))))))))))
theorem bp_17 : ∀ w ∈ wsL_law_r17, w ∈ wsL_law := fun w h => (List.mem_append_left _ (List.mem_append_left _ (List.mem_append_left _ (List.mem_append_left _ (List.mem_append_left _ (List.mem_append_left _ (List.mem_append_left _ (List.mem_append_left _ (List.mem_append_left _ (List.mem_append_right _ (List.mem_append_right _ (List.mem_append_right _ (List.mem_append_right _ (List.mem_append_right _ (List.mem_append_right _ (List.mem_append_right _ (List.mem_append_right _ (List.mem_append_right _ (List.mem_append_right _ (List.mem_append_right _ (List.mem_append_right _ (List.mem_append_right _ (List.mem_append_right _ (List.mem_append_right _ (List.mem_append_right _ (List.mem_append_left _ h))))))))))))))))))))))))))
theorem bp_18 : ∀ w ∈ wsL_law_r18, w ∈ wsL_law := fun w h => (List.mem_append_left _ (List.mem_append_left _ (List.mem_append_left _ (List.mem_append_left _ (List.mem_append_left _ (List.mem_append_left _ (List.mem_append_left _ (List.mem_append_left _ (List.mem_append_left _ (List.mem_append_right _ (List.mem_append_right _ (List.mem_append_right _ (List.mem_append_right _ (List.mem_append_right _ (List.mem_append_right _ (List.mem_append_right _ (List.mem_append_right _ (List.mem_append_right _ (List.mem_append_right _ (List.mem_append_right _ (List.mem_append_right _ (List.mem_append_right _ (List.mem_append_right _ (List.mem_append_right _ (List.mem_append_right _ (List.mem_append_right _ (List.mem_append_left _ h)))))))))))))))))))))))))))
theorem bp_19 : ∀ w ∈ wsL_law_r19, w ∈ wsL_law := fun w h => (List.mem_append_left _ (List.mem_append_left _ (List.mem_append_left _ (List.mem_append_left _ (List.mem_append_left _ (List.mem_append_left _ (List.mem_append_left _ (List.mem_append_left _ (List.mem_append_left _ (List.mem_append_right _ (List.mem_append_right _ (List.mem_append_right _ (List.mem_append_right _ (List.mem_append_right _ (List.mem_append_right _ (List.mem_append_right _ (List.mem_append_right _ (List.mem_append_right _ (List.mem_append_right _ (List.mem_append_right _ (List.mem_append_right _ (List.mem_append_right _ (List.mem_append_right _ (List.mem_append_right _ (List.mem_append_right _ (List.mem_append_right _ (List.mem_append_right _ (List.mem_append_left _ h))))))))))))))))))))))))))))
theorem bp_20 : ∀ w ∈ wsL_law_r20, w ∈ wsL_law := fun w h => (List.mem_append_left _ (List.mem_append_left _ (List.mem_append_left _ (List.mem_append_left _ (List.mem_append_left _ (List.mem_append_left _ (List.mem_append_left _ (List.mem_append_left _ (List.mem_append_left _ (List.mem_append_right _ (List.mem_append_right _ (List.mem_append_right _ (List.mem_append_right _ (List.mem_append_right _ (List.mem_append_right _ (List.mem_append_right _ (List.mem_append_right _ (List.mem_append_right _ (List.mem_append_right _ (List.mem_append_right _ (List.mem_append_right _ (List.mem_append_right _ (List.mem_append_right _ (List.mem_append_right _ (List.mem_append_right _ (List.mem_append_right _ (List.mem_append_right _ (List.mem_append_right _ (List.mem_append_left _ h)))))))))))))))))))))))))))))
theorem bp_21 : ∀ w ∈ wsL_law_r21, w ∈ wsL_law := fun w h => (List.mem_append_left _ (List.mem_append_left _ (List.mem_append_left _ (List.mem_append_left _ (List.mem_append_left _ (List.mem_append_left _ (List.mem_append_left _ (List.mem_append_left _ (List.mem_append_left _ (List.mem_append_right _ (List.mem_append_right _ (List.mem_append_right _ (List.mem_append_right _ (List.mem_append_right _ (List.mem_append_right _ (List.mem_append_right _ (List.mem_append_right _ (List.mem_append_right _ (List.mem_append_right _ (List.mem_append_right _ (List.mem_append_right _ (List.mem_append_right _ (List.mem_append_right _ (List.mem_append_right _ (List.mem_append_right _ (List.mem_append_right _ (List.mem_append_right _ (List.mem_append_right _ (List.mem_append_right _ (List.mem_append_left _ h))))))))))))))))))))))))))))))
theorem bp_22 : ∀ w ∈ wsL_law_r22, w ∈ wsL_law := fun w h => (List.mem_append_left _ (List.mem_append_left _ (List.mem_append_left _ (List.mem_append_left _ (List.mem_append_left _ (List.mem_append_left _ (List.mem_append_left _ (List.mem_append_left _ (List.mem_append_left _ (List.mem_append_right _ (List.mem_append_right _ (List.mem_append_right _ (List.mem_append_right _ (List.mem_append_right _ (List.mem_append_right _ (List.mem_append_right _ (List.mem_append_right _ (List.mem_append_right _ (List.mem_append_right _ (List.mem_append_right _ (List.mem_append_right _ (List.mem_append_right _ (List.mem_append_right _ (List.mem_append_right _ (List.mem_append_right _ (List.mem_append_right _ (List.mem_append_right _ (List.mem_append_right _ (List.mem_append_right _ (List.mem_append_right _ (List.mem_append_left _ h)))))))))))))))))))))))))))))))
theorem bp_23 : ∀ w ∈ wsL_law_r23, w ∈ wsL_law := fun w h => (List.mem_append_left _ (List.mem_append_left _ (List.mem_append_left _ (List.mem_append_left _ (List.mem_append_left _ (List.mem_append_left _ (List.mem_append_left _ (List.mem_append_left _ (List.mem_append_left _ (List.mem_append_right _ (List.mem_append_right _ (List.mem_append_right _ (List.mem_append_right _ (List.mem_append_right _ (List.mem_append_right _ (List.mem_append_right _ (List.mem_append_right _ (List.mem_append_right _ (List.mem_append_right _ (List.mem_append_right _ (List.mem_append_right _ (List.mem_append_right _ (List.mem_append_right _ (List.mem_append_right _ (List.mem_append_right _ (List.mem_append_right _ (List.mem_append_right _ (List.mem_append_right _ (List.mem_append_right _ (List.mem_append_right _ (List.mem_append_right _ (List.mem_append_left _ h))))))))))))))))))))))))))))))))
theorem bp_24 : ∀ w ∈ wsL_law_r24, w ∈ wsL_law := fun w h => (List.mem_append_left _ (List.mem_append_left _ (List.mem_append_left _ (List.mem_append_left _ (List.mem_append_left _ (List.mem_append_left _ (List.mem_append_left _ (List.mem_append_left _ (List.mem_append_left _ (List.mem_append_right _ (List.mem_append_right _ (List.mem_append_right _ (List.mem_append_right _ (List.mem_append_right _ (List.mem_append_right _ (List.mem_append_right _ (List.mem_append_right _ (List.mem_append_right _ (List.mem_append_right _ (List.mem_append_right _ (List.mem_append_right _ (List.mem_append_right _ (List.mem_append_right _ (List.mem_append_right _ (List.mem_append_right _ (List.mem_append_right _ (List.mem_append_right _ (List.mem_append_right _ (List.mem_append_right _ (List.mem_append_right _ (List.mem_append_right _ (List.mem_append_right _ (List.mem_append_left _ h)))))))))))))))))))))))))))))))))
theorem bp_25 : ∀ w ∈ wsL_law_r25, w ∈ wsL_law := fun w h => (List.mem_append_left _ (List.mem_append_left _ (List.mem_append_left _ (List.mem_append_left _ (List.mem_append_left _ (List.mem_append_left _ (List.mem_append_left _ (List.mem_append_left _ (List.mem_append_left _ (List.mem_append_right _ (List.mem_append_right _ (List.mem_append_right _ (List.mem_append_right _ (List.mem_append_right _ (List.mem_append_right _ (List.mem_append_right _ (List.mem_append_right _ (List.mem_append_right _ (List.mem_append_right _ (List.mem_append_right _ (List.mem_append_right _ (List.mem_append_right _ (List.mem_append_right _ (List.mem_append_right _ (List.mem_append_right _ (List.mem_append_right _ (List.mem_append_right _ (List.mem_append_right _ (List.mem_append_right _ (List.mem_append_right _ (List.mem_append_right _ (List.mem_append_right _ (List.mem_append_right _ (List.mem_append_left _ h))))))))))))))))))))))))))))))))))
theorem bp_26 : ∀ w ∈ wsL_law_r26, w ∈ wsL_law := fun w h => (List.mem_append_left _ (List.mem_append_left _ (List.mem_append_left _ (List.mem_append_left _ (List.mem_append_left _ (List.mem_append_left _ (List.mem_append_left _ (List.mem_append_left _ (List.mem_append_left _ (List.mem_append_right _ (List.mem_append_right _ (List.mem_append_right _ (List.mem_append_right _ (List.mem_append_right _ (List.mem_append_right _ (List.mem_append_right _ (List.mem_append_right _ (List.mem_append_right _ (List.mem_append_right _ (List.mem_append_right _ (List.mem_append_right _ (List.mem_append_right _ (List.mem_append_right _ (List.mem_append_right _ (List.mem_append_right _ (List.mem_append_right _ (List.mem_append_right _ (List.mem_append_right _ (List.mem_append_right _ (List.mem_append_right _ (List.mem_append_right _ (List.mem_append_right _ (List.mem_append_right _ (List.mem_append_right _ (List.mem_append_left _ h)))))))))))))))))))))))))))))))))))
theorem bp_27 : ∀ w ∈ wsL_law_r27, w ∈ wsL_law := fun w h => (List.mem_append_left _ (List.mem_append_left _ (List.mem_append_left _ (List.mem_append_left _ (List.mem_append_left _ (List.mem_append_left _ (List.mem_append_left _ (List.mem_append_left _ (List.mem_append_left _ (List.mem_append_right _ (List.mem_append_right _ (List.mem_append_right _ (List.mem_append_right _ (List.mem_append_right _ (List.mem_append_right _ (List.mem_append_right _ (List.mem_append_right _ (List.mem_append_right _ (List.mem_append_right _ (List.mem_append_right _ (List.mem_append_right _ (List.mem_append_right _ (List.mem_append_right _ (List.mem_append_right _ (List.mem_append_right _ (List.mem_append_right _ (List.mem_append_right _ (List.mem_append_right _ (List.mem_append_right _ (List.mem_append_right _ (List.mem_append_right _ (List.mem_append_right _ (List.mem_append_right _ (List.mem_append_right _ (List.mem_append_right _ (List.mem_append_left _ h))))))))))))))))))))))))))))))))))))
theorem bp_28 : ∀ w ∈ wsL_law_r28, w ∈ wsL_law := fun w h => (List.mem_append_left _ (List.mem_append_left _ (List.mem_append_left _ (List.mem_append_left _ (List.mem_append_left _ (List.mem_append_left _ (List.mem_append_left _ (List.mem_append_left _ (List.mem_append_left _ (List.mem_append_right _ (List.mem_append_right _ (List.mem_append_right _ (List.mem_append_right _ (List.mem_append_right _ (List.mem_append_right _ (List.mem_append_right _ (List.mem_append_right _ (List.mem_append_right _ (List.mem_append_right _ (List.mem_append_right _ (List.mem_append_right _ (List.mem_append_right _ (List.mem_append_right _ (List.mem_append_right _ (List.mem_append_right _ (List.mem_append_right _ (List.mem_append_right _ (List.mem_append_right _ (List.mem_append_right _ (List.mem_append_right _ (List.mem_append_right _ (List.mem_append_right _ (List.mem_append_right _ (List.mem_append_right _ (List.mem_append_right _ (List.mem_append_right _ (List.mem_append_left _ h)))))))))))))))))))))))))))))))))))))
theorem bp_29 : ∀ w ∈ wsL_law_r29, w ∈ wsL_law := fun w h => (List.mem_append_left _ (List.mem_append_left _ (List.mem_append_left _ (List.mem_append_left _ (List.mem_append_left _ (List.mem_append_left _ (List.mem_append_left _ (List.mem_append_left _ (List.mem_append_left _ (List.mem_append_right _ (List.mem_append_right _ (List.mem_append_right _ (List.mem_append_right _ (List.mem_append_right _ (List.mem_append_right _ (List.mem_append_right _ (List.mem_append_right _ (List.mem_append_right _ (List.mem_append_right _ (List.mem_append_right _ (List.mem_append_right _ (List.mem_append_right _ (List.mem_append_right _ (List.mem_append_right _ (List.mem_append_right _ (List.mem_append_right _ (List.mem_append_right _ (List.mem_append_right _ (List.mem_append_right _ (List.mem_append_right _ (List.mem_append_right _ (List.mem_append_right _ (List.mem_append_right _ (List.mem_append_right _ (List.mem_append_right _ (List.mem_append_right _ (List.mem_append_right _ (List.mem_append_left _ h))))))))))))))))))))))))))))))))))))))
theorem bp_30 : ∀ w ∈ wsL_law_r30, w ∈ wsL_law := fun w h => (List.mem_append_left _ (List.mem_append_left _ (List.mem_append_left _ (List.mem_append_left _ (List.mem_append_left _ (List.mem_append_left _ (List.mem_append_left _ (List.mem_append_left _ (List.mem_append_left _ (List.mem_append_right _ (List.mem_append_right _ (List.mem_append_right _ (List.mem_append_right _ (List.mem_append_right _ (List.mem_append_right _ (List.mem_append_right _ (List.mem_append_right _ (List.mem_append_right _ (List.mem_append_right _ (List.mem_append_right _ (List.mem_append_right _ (List.mem_append_right _ (List.mem_append_right _ (List.mem_append_right _ (List.mem_append_right _ (List.mem_append_right _ (List.mem_append_right _ (List.mem_append_right _ (List.mem_append_right _ (List.mem_append_right _ (List.mem_append_right _ (List.mem_append_right _ (List.mem_append_right _ (List.mem_append_right _ (List.mem_append_right _ (List.mem_append_right _ (List.mem_append_right _ (List.mem_append_right _ (List.mem_append_left _ h)))))))))))))))))))))))))))))))))))))))
theorem bp_31 : ∀ w ∈ wsL_law_r31, w ∈ wsL_law := fun w h => (List.mem_append_left _ (List.mem_append_left _ (List.mem_append_left _ (List.mem_append_left _ (List.mem_append_left _ (List.mem_append_left _ (List.mem_append_left _ (List.mem_append_left _ (List.mem_append_left _ (List.mem_append_right _ (List.mem_append_right _ (List.mem_append_right _ (List.mem_append_right _ (List.mem_append_right _ (List.mem_append_right _ (List.mem_append_right _ (List.mem_append_right _ (List.mem_append_right _ (List.mem_append_right _ (List.mem_append_right _ (List.mem_append_right _ (List.mem_append_right _ (List.mem_append_right _ (List.mem_append_right _ (List.mem_append_right _ (List.mem_append_right _ (List.mem_append_right _ (List.mem_append_right _ (List.mem_append_right _ (List.mem_append_right _ (List.mem_append_right _ (List.mem_append_right _ (List.mem_append_right _ (List.mem_append_right _ (List.mem_append_right _ (List.mem_append_right _ (List.mem_append_right _ (List.mem_append_right _ (List.mem_append_right _ (List.mem_append_left _ h))))))))))))))))))))))))))))))))))))))))
theorem bp_32 : ∀ w ∈ wsL_law_r32, w ∈ wsL_law := fun w h => (List.mem_append_left _ (List.mem_append_left _ (List.mem_append_left _ (List.mem_append_left _ (List.mem_append_left _ (List.mem_append_left _ (List.mem_append_left _ (List.mem_append_left _ (List.mem_append_left _ (List.mem_append_right _ (List.mem_append_right _ (List.mem_append_right _ (List.mem_append_right _ (List.mem_append_right _ (List.mem_append_right _ (List.mem_append_right _ (List.mem_append_right _ (List.mem_append_right _ (List.mem_append_right _ (List.mem_append_right _ (List.mem_append_right _ (List.mem_append_right _ (List.mem_append_right _ (List.mem_append_right _ (List.mem_append_right _ (List.mem_append_right _ (List.mem_append_right _ (List.mem_append_right _ (List.mem_append_right _ (List.mem_append_right _ (List.mem_append_right _ (List.mem_append_right _ (List.mem_append_right _ (List.mem_append_right _ (List.mem_append_right _ (List.mem_append_right _ (List.mem_append_right _ (List.mem_append_right _ (List.mem_append_right _ (List.mem_append_right _ (List.mem_append_left _ h)))))))))))))))))))))))))))))))))))))))))
theorem bp_33 : ∀ w ∈ wsL_law_r33, w ∈ wsL_law := fun w h => (List.mem_append_left _ (List.mem_append_left _ (List.mem_append_left _ (List.mem_append_left _ (List.mem_append_left _ (List.mem_append_left _ (List.mem_append_left _ (List.mem_append_left _ (List.mem_append_left _ (List.mem_append_right _ (List.mem_append_right _ (List.mem_append_right _ (List.mem_append_right _ (List.mem_append_right _ (List.mem_append_right _ (List.mem_append_right _ (List.mem_append_right _ (List.mem_append_right _ (List.mem_append_right _ (List.mem_append_right _ (List.mem_append_right _ (List.mem_append_right _ (List.mem_append_right _ (List.mem_append_right _ (List.mem_append_right _ (List.mem_append_right _ (List.mem_append_right _ (List.mem_append_right _ (List.mem_append_right _ (List.mem_append_right _ (List.mem_append_right _ (List.mem_append_right _ (List.mem_append_right _ (List.mem_append_right _ (List.mem_append_right _ (List.mem_append_right _ (List.mem_append_right _ (List.mem_append_right _ (List.mem_append_right _ (List.mem_append_right _ (List.mem_append_right _ (List.mem_append_left _ h))))))))))))))))))))))))))))))))))))))))))
theorem bp_34 : ∀ w ∈ wsL_law_r34, w ∈ wsL_law := fun w h => (List.mem_append_left _ (List.mem_append_left _ (List.mem_append_left _ (List.mem_append_left _ (List.mem_append_left _ (List.mem_append_left _ (List.mem_append_left _ (List.mem_append_left _ (List.mem_append_left _ (List.mem_append_right _ (List.mem_append_right _ (List.mem_append_right _ (List.mem_append_right _ (List.mem_append_right _ (List.mem_append_right _ (List.mem_append_right _ (List.mem_append_right _ (List.mem_append_right _ (List.mem_append_right _ (List.mem_append_right _ (List.mem_append_right _ (List.mem_append_right _ (List.mem_append_right _ (List.mem_append_right _ (List.mem_append_right _ (List.mem_append_right _ (List.mem_append_right _ (List.mem_append_right _ (List.mem_append_right _ (List.mem_append_right _ (List.mem_append_right _ (List.mem_append_right _ (List.mem_append_right _ (List.mem_append_right _ (List.mem_append_right _ (List.mem_append_right _ (List.mem_append_right _ (List.mem_append_right _ (List.mem_append_right _ (List.mem_append_right _ (List.mem_append_right _ (List.mem_append_right _ (List.mem_append_left _ h)))))))))))))))))))))))))))))))))))))))))))
theorem bp_35 : ∀ w ∈ wsL_law_r35, w ∈ wsL_law := fun w h => (List.mem_append_left _ (List.mem_append_left _ (List.mem_append_left _ (List.mem_append_left _ (List.mem_append_left _ (List.mem_append_left _ (List.mem_append_left _ (List.mem_append_left _ (List.mem_append_left _ (List.mem_append_right _ (List.mem_append_right _ (List.mem_append_right _ (List.mem_append_right _ (List.mem_append_right _ (List.mem_append_right _ (List.mem_append_right _ (List.mem_append_right _ (List.mem_append_right _ (List.mem_append_right _ (List.mem_append_right _ (List.mem_append_right _ (List.mem_append_right _ (List.mem_append_right _ (List.mem_append_right _ (List.mem_append_right _ (List.mem_append_right _ (List.mem_append_right _ (List.mem_append_right _ (List.mem_append_right _ (List.mem_append_right _ (List.mem_append_right _ (List.mem_append_right _ (List.mem_append_right _ (List.mem_append_right _ (List.mem_append_right _ (List.mem_append_right _ (List.mem_append_right _ (List.mem_append_right _ (List.mem_append_right _ (List.mem_append_right _ (List.mem_append_right _ (List.mem_append_right _ (List.mem_append_right _ (List.mem_append_left _ h))))))))))))))))))))))))))))))))))))))))))))
theorem bp_36 : ∀ w ∈ wsL_law_r36, w ∈ wsL_law := fun w h => (List.mem_append_left _ (List.mem_append_left _ (List.mem_append_left _ (List.mem_append_left _ (List.mem_append_left _ (List.mem_append_left _ (List.mem_append_left _ (List.mem_append_left _ (List.mem_append_left _ (List.mem_append_right _ (List.mem_append_right _ (List.mem_append_right _ (List.mem_append_right _ (List.mem_append_right _ (List.mem_append_right _ (List.mem_append_right _ (List.mem_append_right _ (List.mem_append_right _ (List.mem_append_right _ (List.mem_append_right _ (List.mem_append_right _ (List.mem_append_right _ (List.mem_append_right _ (List.mem_append_right _ (List.mem_append_right _ (List.mem_append_right _ (List.mem_append_right _ (List.mem_append_right _ (List.mem_append_right _ (List.mem_append_right _ (List.mem_append_right _ (List.mem_append_right _ (List.mem_append_right _ (List.mem_append_right _ (List.mem_append_right _ (List.mem_append_right _ (List.mem_append_right _ (List.mem_append_right _ (List.mem_append_right _ (List.mem_append_right _ (List.mem_append_right _ (List.mem_append_right _ (List.mem_append_right _ (List.mem_append_right _ h))))))))))))))))))))))))))))))))))))))))))))
theorem bp_X6 : ∀ w ∈ wsX60, w ∈ wsL_law := fun w h => (List.mem_append_left _ (List.mem_append_left _ (List.mem_append_left _ (List.mem_append_left _ (List.mem_append_left _ (List.mem_append_left _ (List.mem_append_left _ (List.mem_append_left _ (List.mem_append_right _ h)))))))))
theorem bp_X7 : ∀ w ∈ wsX70, w ∈ wsL_law := fun w h => (List.mem_append_left _ (List.mem_append_left _ (List.mem_append_left _ (List.mem_append_left _ (List.mem_append_left _ (List.mem_append_left _ (List.mem_append_left _ (List.mem_append_right _ h))))))))
theorem bp_X3 : ∀ w ∈ wsX30, w ∈ wsL_law := fun w h => (List.mem_append_left _ (List.mem_append_left _ (List.mem_append_left _ (List.mem_append_left _ (List.mem_append_left _ (List.mem_append_left _ (List.mem_append_right _ h)))))))
theorem bp_X1 : ∀ w ∈ wsX10, w ∈ wsL_law := fun w h => (List.mem_append_left _ (List.mem_append_left _ (List.mem_append_left _ (List.mem_append_left _ (List.mem_append_left _ (List.mem_append_right _ h))))))
theorem bp_X5 : ∀ w ∈ wsX50, w ∈ wsL_law := fun w h => (List.mem_append_left _ (List.mem_append_left _ (List.mem_append_left _ (List.mem_append_left _ (List.mem_append_right _ h)))))
theorem bp_X4 : ∀ w ∈ wsX40, w ∈ wsL_law := fun w h => (List.mem_append_left _ (List.mem_append_left _ (List.mem_append_left _ (List.mem_append_right _ h))))
theorem bp_X2 : ∀ w ∈ wsX20, w ∈ wsL_law := fun w h => (List.mem_append_left _ (List.mem_append_left _ (List.mem_append_right _ h)))
theorem bp_X0 : ∀ w ∈ wsX00, w ∈ wsL_law := fun w h => (List.mem_append_left _ (List.mem_append_right _ h))
theorem bt_X6 : ∀ w ∈ wsX60, w ∈ lw_tbl := List.forall_mem_cons.mpr ⟨List.mem_of_getElem? (i := 307) (by decide +kernel), List.forall_mem_cons.mpr ⟨List.mem_of_getElem? (i := 309) (by decide +kernel), List.forall_mem_cons.mpr ⟨List.mem_of_getElem? (i := 311) (by decide +kernel), List.forall_mem_cons.mpr ⟨List.mem_of_getElem? (i := 313) (by decide +kernel), List.forall_mem_cons.mpr ⟨List.mem_of_getElem? (i := 315) (by decide +kernel), List.forall_mem_cons.mpr ⟨List.mem_of_getElem? (i := 317) (by decide +kernel), List.forall_mem_cons.mpr ⟨List.mem_of_getElem? (i := 319) (by decide +kernel), List.forall_mem_cons.mpr ⟨List.mem_of_getElem? (i := 321) (by decide +kernel), fun w h => absurd h List.not_mem_nil⟩⟩⟩⟩⟩⟩⟩⟩
theorem bg_X6 : (wsX60 : List Cond).all goodWord = true := by decide +kernel
theorem bt_X7 : ∀ w ∈ wsX70, w ∈ lw_tbl := List.forall_mem_cons.mpr ⟨List.mem_of_getElem? (i := 770) (by decide +kernel), List.forall_mem_cons.mpr ⟨List.mem_of_getElem? (i := 772) (by decide +kernel), List.forall_mem_cons.mpr ⟨List.mem_of_getElem? (i := 774) (by decide +kernel), List.forall_mem_cons.mpr ⟨List.mem_of_getElem? (i := 776) (by decide +kernel), List.forall_mem_cons.mpr ⟨List.mem_of_getElem? (i := 778) (by decide +kernel), List.forall_mem_cons.mpr ⟨List.mem_of_getElem? (i := 780) (by decide +kernel), List.forall_mem_cons.mpr ⟨List.mem_of_getElem? (i := 782) (by decide +kernel), List.forall_mem_cons.mpr ⟨List.mem_of_getElem? (i := 784) (by decide +kernel), List.forall_mem_cons.mpr ⟨List.mem_of_getElem? (i := 786) (by decide +kernel), List.forall_mem_cons.mpr ⟨List.mem_of_getElem? (i := 788) (by decide +kernel), List.forall_mem_cons.mpr ⟨List.mem_of_getElem? (i := 790) (by decide +kernel), fun w h => absurd h List.not_mem_nil⟩⟩⟩⟩⟩⟩⟩⟩⟩⟩⟩
theorem bg_X7 : (wsX70 : List Cond).all goodWord = true := by decide +kernel
theorem bt_X3 : ∀ w ∈ wsX30, w ∈ lw_tbl := List.forall_mem_cons.mpr ⟨List.mem_of_getElem? (i := 231) (by decide +kernel), List.forall_mem_cons.mpr ⟨List.mem_of_getElem? (i := 233) (by decide +kernel), List.forall_mem_cons.mpr ⟨List.mem_of_getElem? (i := 235) (by decide +kernel), List.forall_mem_cons.mpr ⟨List.mem_of_getElem? (i := 237) (by decide +kernel), List.forall_mem_cons.mpr ⟨List.mem_of_getElem? (i := 239) (by decide +kernel), List.forall_mem_cons.mpr ⟨List.mem_of_getElem? (i := 241) (by decide +kernel), List.forall_mem_cons.mpr ⟨List.mem_of_getElem? (i := 243) (by decide +kernel), List.forall_mem_cons.mpr ⟨List.mem_of_getElem? (i := 245) (by decide +kernel), fun w h => absurd h List.not_mem_nil⟩⟩⟩⟩⟩⟩⟩⟩
theorem bg_X3 : (wsX30 : List Cond).all goodWord = true := by decide +kernel
theorem bt_X1 : ∀ w ∈ wsX10, w ∈ lw_tbl := List.forall_mem_cons.mpr ⟨List.mem_of_getElem? (i := 260) (by decide +kernel), List.forall_mem_cons.mpr ⟨List.mem_of_getElem? (i := 262) (by decide +kernel), fun w h => absurd h List.not_mem_nil⟩⟩
theorem bg_X1 : (wsX10 : List Cond).all goodWord = true := by decide +kernel
theorem bt_X5 : ∀ w ∈ wsX50, w ∈ lw_tbl := List.forall_mem_cons.mpr ⟨List.mem_of_getElem? (i := 281) (by decide +kernel), List.forall_mem_cons.mpr ⟨List.mem_of_getElem? (i := 283) (by decide +kernel), List.forall_mem_cons.mpr ⟨List.mem_of_getElem? (i := 285) (by decide +kernel), List.forall_mem_cons.mpr ⟨List.mem_of_getElem? (i := 287) (by decide +kernel), List.forall_mem_cons.mpr ⟨List.mem_of_getElem? (i := 289) (by decide +kernel), List.forall_mem_cons.mpr ⟨List.mem_of_getElem? (i := 291) (by decide +kernel), List.forall_mem_cons.mpr ⟨List.mem_of_getElem? (i := 293) (by decide +kernel), fun w h => absurd h List.not_mem_nil⟩⟩⟩⟩⟩⟩⟩
theorem bg_X5 : (wsX50 : List Cond).all goodWord = true := by decide +kernel
theorem bt_X4 : ∀ w ∈ wsX40, w ∈ lw_tbl := List.forall_mem_cons.mpr ⟨List.mem_of_getElem? (i := 182) (by decide +kernel), List.forall_mem_cons.mpr ⟨List.mem_of_getElem? (i := 184) (by decide +kernel), List.forall_mem_cons.mpr ⟨List.mem_of_getElem? (i := 186) (by decide +kernel), List.forall_mem_cons.mpr ⟨List.mem_of_getElem? (i := 188) (by decide +kernel), List.forall_mem_cons.mpr ⟨List.mem_of_getElem? (i := 190) (by decide +kernel), List.forall_mem_cons.mpr ⟨List.mem_of_getElem? (i := 192) (by decide +kernel), fun w h => absurd h List.not_mem_nil⟩⟩⟩⟩⟩⟩
theorem bg_X4 : (wsX40 : List Cond).all goodWord = true := by decide +kernel
theorem bt_X2 : ∀ w ∈ wsX20, w ∈ lw_tbl := List.forall_mem_cons.mpr ⟨List.mem_of_getElem? (i := 132) (by decide +kernel), List.forall_mem_cons.mpr ⟨List.mem_of_getElem? (i := 134) (by decide +kernel), List.forall_mem_cons.mpr ⟨List.mem_of_getElem? (i := 136) (by decide +kernel), List.forall_mem_cons.mpr ⟨List.mem_of_getElem? (i := 138) (by decide +kernel), List.forall_mem_cons.mpr ⟨List.mem_of_getElem? (i := 140) (by decide +kernel), List.forall_mem_cons.mpr ⟨List.mem_of_getElem? (i := 142) (by decide +kernel), List.forall_mem_cons.mpr ⟨List.mem_of_getElem? (i := 144) (by decide +kernel), List.forall_mem_cons.mpr ⟨List.mem_of_getElem? (i := 146) (by decide +kernel), List.forall_mem_cons.mpr ⟨List.mem_of_getElem? (i := 148) (by decide +kernel), List.forall_mem_cons.mpr ⟨List.mem_of_getElem? (i := 150) (by decide +kernel), List.forall_mem_cons.mpr ⟨List.mem_of_getElem? (i := 152) (by decide +kernel), List.forall_mem_cons.mpr ⟨List.mem_of_getElem? (i := 154) (by decide +kernel), List.forall_mem_cons.mpr ⟨List.mem_of_getElem? (i := 156) (by decide +kernel), List.forall_mem_cons.mpr ⟨List.mem_of_getElem? (i := 158) (by decide +kernel), List.forall_mem_cons.mpr ⟨List.mem_of_getElem? (i := 160) (by decide +kernel), fun w h => absurd h List.not_mem_nil⟩⟩⟩⟩⟩⟩⟩⟩⟩⟩⟩⟩⟩⟩⟩
theorem bg_X2 : (wsX20 : List Cond).all goodWord = true := by decide +kernel
theorem bt_X0 : ∀ w ∈ wsX00, w ∈ lw_tbl := List.forall_mem_cons.mpr ⟨List.mem_of_getElem? (i := 206) (by decide +kernel), List.forall_mem_cons.mpr ⟨List.mem_of_getElem? (i := 208) (by decide +kernel), List.forall_mem_cons.mpr ⟨List.mem_of_getElem? (i := 210) (by decide +kernel), List.forall_mem_cons.mpr ⟨List.mem_of_getElem? (i := 212) (by decide +kernel), fun w h => absurd h List.not_mem_nil⟩⟩⟩⟩
theorem bg_X0 : (wsX00 : List Cond).all goodWord = true := by decide +kernel
theorem bz_B_in : ∀ w ∈ wsL_law, w ∈ lw_tbl := List.forall_mem_append.mpr ⟨List.forall_mem_append.mpr ⟨List.forall_mem_append.mpr ⟨List.forall_mem_append.mpr ⟨List.forall_mem_append.mpr ⟨List.forall_mem_append.mpr ⟨List.forall_mem_append.mpr ⟨List.forall_mem_append.mpr ⟨List.forall_mem_append.mpr ⟨List.forall_mem_append.mpr ⟨bt_1, List.forall_mem_append.mpr ⟨bt_2, List.forall_mem_append.mpr ⟨bt_3, List.forall_mem_append.mpr ⟨bt_4, List.forall_mem_append.mpr ⟨bt_5, List.forall_mem_append.mpr ⟨bt_6, List.forall_mem_append.mpr ⟨bt_7, List.forall_mem_append.mpr ⟨bt_8, List.forall_mem_append.mpr ⟨bt_9, List.forall_mem_append.mpr ⟨bt_10, List.forall_mem_append.mpr ⟨bt_11, List.forall_mem_append.mpr ⟨bt_12, List.forall_mem_append.mpr ⟨bt_13, List.forall_mem_append.mpr ⟨bt_14, List.forall_mem_append.mpr ⟨bt_15, List.forall_mem_append.mpr ⟨bt_16, List.forall_mem_append.mpr ⟨bt_17, List.forall_mem_append.mpr ⟨bt_18, List.forall_mem_append.mpr ⟨bt_19, List.forall_mem_append.mpr ⟨bt_20, List.forall_mem_append.mpr ⟨bt_21, List.forall_mem_append.mpr ⟨bt_22, List.forall_mem_append.mpr ⟨bt_23, List.forall_mem_append.mpr ⟨bt_24, List.forall_mem_append.mpr ⟨bt_25, List.forall_mem_append.mpr ⟨bt_26, List.forall_mem_append.mpr ⟨bt_27, List.forall_mem_append.mpr ⟨bt_28, List.forall_mem_append.mpr ⟨bt_29, List.forall_mem_append.mpr ⟨bt_30, List.forall_mem_append.mpr ⟨bt_31, List.forall_mem_append.mpr ⟨bt_32, List.forall_mem_append.mpr ⟨bt_33, List.forall_mem_append.mpr ⟨bt_34, List.forall_mem_append.mpr ⟨bt_35, bt_36⟩⟩⟩⟩⟩⟩⟩⟩⟩⟩⟩⟩⟩⟩⟩⟩⟩⟩⟩⟩⟩⟩⟩⟩⟩⟩⟩⟩⟩⟩⟩⟩⟩⟩⟩, bt_X6⟩, bt_X7⟩, bt_X3⟩, bt_X1⟩, bt_X5⟩, bt_X4⟩, bt_X2⟩, bt_X0⟩, fun w h => absurd h List.not_mem_nil⟩
theorem bh_1 : ∀ w ∈ wsL_law_r1, (w.onTables && w.keeps) = true ∨ ∃ ty, w = .arrayClass ty := fun w h => good_of_word (List.all_eq_true.mp bg_1 w h)
theorem bh_2 : ∀ w ∈ wsL_law_r2, (w.onTables && w.keeps) = true ∨ ∃ ty, w = .arrayClass ty := fun w h => good_of_word (List.all_eq_true.mp bg_2 w h)
theorem bh_3 : ∀ w ∈ wsL_law_r3, (w.onTables && w.keeps) = true ∨ ∃ ty, w = .arrayClass ty := fun w h => good_of_word (List.all_eq_true.mp bg_3 w h)
theorem bh_4 : ∀ w ∈ wsL_law_r4, (w.onTables && w.keeps) = true ∨ ∃ ty, w = .arrayClass ty := fun w h => good_of_word (List.all_eq_true.mp bg_4 w h)
theorem bh_5 : ∀ w ∈ wsL_law_r5, (w.onTables && w.keeps) = true ∨ ∃ ty, w = .arrayClass ty := fun w h => good_of_word (List.all_eq_true.mp bg_5 w h)
theorem bh_6 : ∀ w ∈ wsL_law_r6, (w.onTables && w.keeps) = true ∨ ∃ ty, w = .arrayClass ty := fun w h => good_of_word (List.all_eq_true.mp bg_6 w h)
theorem bh_7 : ∀ w ∈ wsL_law_r7, (w.onTables && w.keeps) = true ∨ ∃ ty, w = .arrayClass ty := fun w h => good_of_word (List.all_eq_true.mp bg_7 w h)
theorem bh_8 : ∀ w ∈ wsL_law_r8, (w.onTables && w.keeps) = true ∨ ∃ ty, w = .arrayClass ty := fun w h => good_of_word (List.all_eq_true.mp bg_8 w h)
theorem bh_9 : ∀ w ∈ wsL_law_r9, (w.onTables && w.keeps) = true ∨ ∃ ty, w = .arrayClass ty := fun w h => good_of_word (List.all_eq_true.mp bg_9 w h)
theorem bh_10 : ∀ w ∈ wsL_law_r10, (w.onTables && w.keeps) = true ∨ ∃ ty, w = .arrayClass ty := fun w h => good_of_word (List.all_eq_true.mp bg_10 w h)
theorem bh_11 : ∀ w ∈ wsL_law_r11, (w.onTables && w.keeps) = true ∨ ∃ ty, w = .arrayClass ty := fun w h => good_of_word (List.all_eq_true.mp bg_11 w h)
theorem bh_12 : ∀ w ∈ wsL_law_r12, (w.onTables && w.keeps) = true ∨ ∃ ty, w = .arrayClass ty := fun w h => good_of_word (List.all_eq_true.mp bg_12 w h)
theorem bh_13 : ∀ w ∈ wsL_law_r13, (w.onTables && w.keeps) = true ∨ ∃ ty, w = .arrayClass ty := fun w h => good_of_word (List.all_eq_true.mp bg_13 w h)
theorem bh_14 : ∀ w ∈ wsL_law_r14, (w.onTables && w.keeps) = true ∨ ∃ ty, w = .arrayClass ty := fun w h => good_of_word (List.all_eq_true.mp bg_14 w h)
theorem bh_15 : ∀ w ∈ wsL_law_r15, (w.onTables && w.keeps) = true ∨ ∃ ty, w = .arrayClass ty := fun w h => good_of_word (List.all_eq_true.mp bg_15 w h)
theorem bh_16 : ∀ w ∈ wsL_law_r16, (w.onTables && w.keeps) = true ∨ ∃ ty, w = .arrayClass ty := fun w h => good_of_word (List.all_eq_true.mp bg_16 w h)
theorem bh_17 : ∀ w ∈ wsL_law_r17, (w.onTables && w.keeps) = true ∨ ∃ ty, w = .arrayClass ty := fun w h => good_of_word (List.all_eq_true.mp bg_17 w h)
theorem bh_18 : ∀ w ∈ wsL_law_r18, (w.onTables && w.keeps) = true ∨ ∃ ty, w = .arrayClass ty := fun w h => good_of_word (List.all_eq_true.mp bg_18 w h)
theorem bh_19 : ∀ w ∈ wsL_law_r19, (w.onTables && w.keeps) = true ∨ ∃ ty, w = .arrayClass ty := fun w h => good_of_word (List.all_eq_true.mp bg_19 w h)
theorem bh_20 : ∀ w ∈ wsL_law_r20, (w.onTables && w.keeps) = true ∨ ∃ ty, w = .arrayClass ty := fun w h => good_of_word (List.all_eq_true.mp bg_20 w h)
theorem bh_21 : ∀ w ∈ wsL_law_r21, (w.onTables && w.keeps) = true ∨ ∃ ty, w = .arrayClass ty := fun w h => good_of_word (List.all_eq_true.mp bg_21 w h)
theorem bh_22 : ∀ w ∈ wsL_law_r22, (w.onTables && w.keeps) = true ∨ ∃ ty, w = .arrayClass ty := fun w h => good_of_word (List.all_eq_true.mp bg_22 w h)
theorem bh_23 : ∀ w ∈ wsL_law_r23, (w.onTables && w.keeps) = true ∨ ∃ ty, w = .arrayClass ty := fun w h => good_of_word (List.all_eq_true.mp bg_23 w h)
theorem bh_24 : ∀ w ∈ wsL_law_r24, (w.onTables && w.keeps) = true ∨ ∃ ty, w = .arrayClass ty := fun w h => good_of_word (List.all_eq_true.mp bg_24 w h)
theorem bh_25 : ∀ w ∈ wsL_law_r25, (w.onTables && w.keeps) = true ∨ ∃ ty, w = .arrayClass ty := fun w h => good_of_word (List.all_eq_true.mp bg_25 w h)
theorem bh_26 : ∀ w ∈ wsL_law_r26, (w.onTables && w.keeps) = true ∨ ∃ ty, w = .arrayClass ty := fun w h => good_of_word (List.all_eq_true.mp bg_26 w h)
theorem bh_27 : ∀ w ∈ wsL_law_r27, (w.onTables && w.keeps) = true ∨ ∃ ty, w = .arrayClass ty := fun w h => good_of_word (List.all_eq_true.mp bg_27 w h)
theorem bh_28 : ∀ w ∈ wsL_law_r28, (w.onTables && w.keeps) = true ∨ ∃ ty, w = .arrayClass ty := fun w h => good_of_word (List.all_eq_true.mp bg_28 w h)
theorem bh_29 : ∀ w ∈ wsL_law_r29, (w.onTables && w.keeps) = true ∨ ∃ ty, w = .arrayClass ty := fun w h => good_of_word (List.all_eq_true.mp bg_29 w h)
theorem bh_30 : ∀ w ∈ wsL_law_r30, (w.onTables && w.keeps) = true ∨ ∃ ty, w = .arrayClass ty := fun w h => good_of_word (List.all_eq_true.mp bg_30 w h)
theorem bh_31 : ∀ w ∈ wsL_law_r31, (w.onTables && w.keeps) = true ∨ ∃ ty, w = .arrayClass ty := fun w h => good_of_word (List.all_eq_true.mp bg_31 w h)
theorem bh_32 : ∀ w ∈ wsL_law_r32, (w.onTables && w.keeps) = true ∨ ∃ ty, w = .arrayClass ty := fun w h => good_of_word (List.all_eq_true.mp bg_32 w h)
theorem bh_33 : ∀ w ∈ wsL_law_r33, (w.onTables && w.keeps) = true ∨ ∃ ty, w = .arrayClass ty := fun w h => good_of_word (List.all_eq_true.mp bg_33 w h)
theorem bh_34 : ∀ w ∈ wsL_law_r34, (w.onTables && w.keeps) = true ∨ ∃ ty, w = .arrayClass ty := fun w h => good_of_word (List.all_eq_true.mp bg_34 w h)
theorem bh_35 : ∀ w ∈ wsL_law_r35, (w.onTables && w.keeps) = true ∨ ∃ ty, w = .arrayClass ty := fun w h => good_of_word (List.all_eq_true.mp bg_35 w h)
theorem bh_36 : ∀ w ∈ wsL_law_r36, (w.onTables && w.keeps) = true ∨ ∃ ty, w = .arrayClass ty := fun w h => good_of_word (List.all_eq_true.mp bg_36 w h)
theorem bh_X6 : ∀ w ∈ (wsX60 : List Cond), (w.onTables && w.keeps) = true ∨ ∃ ty, w = .arrayClass ty := fun w h => good_of_word (List.all_eq_true.mp bg_X6 w h)
theorem bh_X7 : ∀ w ∈ (wsX70 : List Cond), (w.onTables && w.keeps) = true ∨ ∃ ty, w = .arrayClass ty := fun w h => good_of_word (List.all_eq_true.mp bg_X7 w h)
theorem bh_X3 : ∀ w ∈ (wsX30 : List Cond), (w.onTables && w.keeps) = true ∨ ∃ ty, w = .arrayClass ty := fun w h => good_of_word (List.all_eq_true.mp bg_X3 w h)
theorem bh_X1 : ∀ w ∈ (wsX10 : List Cond), (w.onTables && w.keeps) = true ∨ ∃ ty, w = .arrayClass ty := fun w h => good_of_word (List.all_eq_true.mp bg_X1 w h)
theorem bh_X5 : ∀ w ∈ (wsX50 : List Cond), (w.onTables && w.keeps) = true ∨ ∃ ty, w = .arrayClass ty := fun w h => good_of_word (List.all_eq_true.mp bg_X5 w h)
theorem bh_X4 : ∀ w ∈ (wsX40 : List Cond), (w.onTables && w.keeps) = true ∨ ∃ ty, w = .arrayClass ty := fun w h => good_of_word (List.all_eq_true.mp bg_X4 w h)
theorem bh_X2 : ∀ w ∈ (wsX20 : List Cond), (w.onTables && w.keeps) = true ∨ ∃ ty, w = .arrayClass ty := fun w h => good_of_word (List.all_eq_true.mp bg_X2 w h)
theorem bh_X0 : ∀ w ∈ (wsX00 : List Cond), (w.onTables && w.keeps) = true ∨ ∃ ty, w = .arrayClass ty := fun w h => good_of_word (List.all_eq_true.mp bg_X0 w h)
theorem bz_B_good : ∀ w ∈ wsL_law, (w.onTables && w.keeps) = true ∨ ∃ ty, w = .arrayClass ty := List.forall_mem_append.mpr ⟨List.forall_mem_append.mpr ⟨List.forall_mem_append.mpr ⟨List.forall_mem_append.mpr ⟨List.forall_mem_append.mpr ⟨List.forall_mem_append.mpr ⟨List.forall_mem_append.mpr ⟨List.forall_mem_append.mpr ⟨List.forall_mem_append.mpr ⟨List.forall_mem_append.mpr ⟨bh_1, List.forall_mem_append.mpr ⟨bh_2, List.forall_mem_append.mpr ⟨bh_3, List.forall_mem_append.mpr ⟨bh_4, List.forall_mem_append.mpr ⟨bh_5, List.forall_mem_append.mpr ⟨bh_6, List.forall_mem_append.mpr ⟨bh_7, List.forall_mem_append.mpr ⟨bh_8, List.forall_mem_append.mpr ⟨bh_9, List.forall_mem_append.mpr ⟨bh_10, List.forall_mem_append.mpr ⟨bh_11, List.forall_mem_append.mpr ⟨bh_12, List.forall_mem_append.mpr ⟨bh_13, List.forall_mem_append.mpr ⟨bh_14, List.forall_mem_append.mpr ⟨bh_15, List.forall_mem_append.mpr ⟨bh_16, List.forall_mem_append.mpr ⟨bh_17, List.forall_mem_append.mpr ⟨bh_18, List.forall_mem_append.mpr ⟨bh_19, List.forall_mem_append.mpr ⟨bh_20, List.forall_mem_append.mpr ⟨bh_21, List.forall_mem_append.mpr ⟨bh_22, List.forall_mem_append.mpr ⟨bh_23, List.forall_mem_append.mpr ⟨bh_24, List.forall_mem_append.mpr ⟨bh_25, List.forall_mem_append.mpr ⟨bh_26, List.forall_mem_append.mpr ⟨bh_27, List.forall_mem_append.mpr ⟨bh_28, List.forall_mem_append.mpr ⟨bh_29, List.forall_mem_append.mpr ⟨bh_30, List.forall_mem_append.mpr ⟨bh_31, List.forall_mem_append.mpr ⟨bh_32, List.forall_mem_append.mpr ⟨bh_33, List.forall_mem_append.mpr ⟨bh_34, List.forall_mem_append.mpr ⟨bh_35, bh_36⟩⟩⟩⟩⟩⟩⟩⟩⟩⟩⟩⟩⟩⟩⟩⟩⟩⟩⟩⟩⟩⟩⟩⟩⟩⟩⟩⟩⟩⟩⟩⟩⟩⟩⟩, bh_X6⟩, bh_X7⟩, bh_X3⟩, bh_X1⟩, bh_X5⟩, bh_X4⟩, bh_X2⟩, bh_X0⟩, fun w h => absurd h List.not_mem_nil⟩
theorem wd_1_0 : Cond.classLink RL 7 RX6 ∈ wsL_law := bp_1 _ (List.mem_of_getElem? (i := 0) rfl)
theorem wd_1_1 : Cond.instantiable RX6 8 ∈ wsL_law := bp_1 _ (List.mem_of_getElem? (i := 1) rfl)
theorem wd_1_2 : Cond.initialized RX6 ∈ wsL_law := bp_1 _ (List.mem_of_getElem? (i := 2) rfl)
theorem wd_1_3 : Cond.classLink RL 10 RX7 ∈ wsL_law := bp_1 _ (List.mem_of_getElem? (i := 3) rfl)
theorem wd_1_4 : Cond.instantiable RX7 11 ∈ wsL_law := bp_1 _ (List.mem_of_getElem? (i := 4) rfl)
theorem wd_1_5 : Cond.initialized RX7 ∈ wsL_law := bp_1 _ (List.mem_of_getElem? (i := 5) rfl)
theorem wd_1_6 : Cond.methodLink RL 9 yX6_init ∈ wsL_law := bp_1 _ (List.mem_of_getElem? (i := 6) rfl)
theorem wd_1_7 : Cond.instanceMethod yX6_init ∈ wsL_law := bp_1 _ (List.mem_of_getElem? (i := 7) rfl)
theorem wd_1_8 : Cond.code yX6_init cX6_init 1 none ∈ wsL_law := bp_1 _ (List.mem_of_getElem? (i := 8) rfl)
theorem wd_1_9 : Cond.methodLink RX6 1 objectInit ∈ wsL_law := bp_1 _ (List.mem_of_getElem? (i := 9) rfl)
theorem wd_1_10 : Cond.instanceMethod objectInit ∈ wsL_law := bp_1 _ (List.mem_of_getElem? (i := 10) rfl)
theorem wd_1_11 : Cond.code objectInit ⟨#[0xb1]⟩ 1 none ∈ wsL_law := bp_1 _ (List.mem_of_getElem? (i := 11) rfl)
theorem wd_1_12 : Cond.classLink RX6 7 RX3 ∈ wsL_law := bp_1 _ (List.mem_of_getElem? (i := 12) rfl)
theorem wd_1_13 : Cond.instantiable RX3 8 ∈ wsL_law := bp_1 _ (List.mem_of_getElem? (i := 13) rfl)
theorem wd_1_14 : Cond.initialized RX3 ∈ wsL_law := bp_1 _ (List.mem_of_getElem? (i := 14) rfl)
theorem wd_1_15 : Cond.fieldLink RX6 10 "StarterBay" "now" "LStarterBay$State;" ∈ wsL_law := bp_1 _ (List.mem_of_getElem? (i := 15) rfl)
theorem wd_1_16 : Cond.classLink RX6 16 RX1 ∈ wsL_law := bp_1 _ (List.mem_of_getElem? (i := 16) rfl)
theorem wd_1_17 : Cond.instantiable RX1 2 ∈ wsL_law := bp_1 _ (List.mem_of_getElem? (i := 17) rfl)
theorem wd_1_18 : Cond.initialized RX1 ∈ wsL_law := bp_1 _ (List.mem_of_getElem? (i := 18) rfl)
theorem wd_1_19 : Cond.fieldLink RX6 19 "StarterBay" "history" "LStarterBay$History;" ∈ wsL_law := bp_1 _ (List.mem_of_getElem? (i := 19) rfl)
theorem wd_1_20 : Cond.fieldLink RX6 23 "StarterBay" "snapshot" "LStarterBay$State;" ∈ wsL_law := bp_1 _ (List.mem_of_getElem? (i := 20) rfl)
theorem wd_1_21 : Cond.classLink RX6 26 RX5 ∈ wsL_law := bp_1 _ (List.mem_of_getElem? (i := 21) rfl)
theorem wd_1_22 : Cond.instantiable RX5 7 ∈ wsL_law := bp_1 _ (List.mem_of_getElem? (i := 22) rfl)
theorem wd_1_23 : Cond.initialized RX5 ∈ wsL_law := bp_1 _ (List.mem_of_getElem? (i := 23) rfl)
theorem wd_2_0 : Cond.fieldLink RX6 29 "StarterBay" "text" "LStarterBay$TimetableText;" ∈ wsL_law := bp_2 _ (List.mem_of_getElem? (i := 0) rfl)
theorem wd_2_1 : Cond.classLink RX6 33 RX4 ∈ wsL_law := bp_2 _ (List.mem_of_getElem? (i := 1) rfl)
theorem wd_2_2 : Cond.instantiable RX4 6 ∈ wsL_law := bp_2 _ (List.mem_of_getElem? (i := 2) rfl)
theorem wd_2_3 : Cond.initialized RX4 ∈ wsL_law := bp_2 _ (List.mem_of_getElem? (i := 3) rfl)
theorem wd_2_4 : Cond.fieldLink RX6 36 "StarterBay" "draft" "LStarterBay$Timetable;" ∈ wsL_law := bp_2 _ (List.mem_of_getElem? (i := 4) rfl)
theorem wd_2_5 : Cond.arrayClass .int ∈ wsL_law := bp_2 _ (List.mem_of_getElem? (i := 5) rfl)
theorem wd_2_6 : Cond.fieldLink RX6 40 "StarterBay" "line" "[I" ∈ wsL_law := bp_2 _ (List.mem_of_getElem? (i := 6) rfl)
theorem wd_2_7 : Cond.methodLink RX6 9 yX3_init ∈ wsL_law := bp_2 _ (List.mem_of_getElem? (i := 7) rfl)
theorem wd_2_8 : Cond.instanceMethod yX3_init ∈ wsL_law := bp_2 _ (List.mem_of_getElem? (i := 8) rfl)
theorem wd_2_9 : Cond.code yX3_init cX3_init 2 none ∈ wsL_law := bp_2 _ (List.mem_of_getElem? (i := 9) rfl)
theorem wd_2_10 : Cond.methodLink RX3 3 objectInit ∈ wsL_law := bp_2 _ (List.mem_of_getElem? (i := 10) rfl)
theorem wd_2_11 : Cond.classLink RX3 9 RX2 ∈ wsL_law := bp_2 _ (List.mem_of_getElem? (i := 11) rfl)
theorem wd_2_12 : Cond.fieldLink RX3 11 "StarterBay$State" "motors" "[LStarterBay$Motor;" ∈ wsL_law := bp_2 _ (List.mem_of_getElem? (i := 12) rfl)
theorem wd_2_13 : Cond.instantiable RX2 15 ∈ wsL_law := bp_2 _ (List.mem_of_getElem? (i := 13) rfl)
theorem wd_2_14 : Cond.initialized RX2 ∈ wsL_law := bp_2 _ (List.mem_of_getElem? (i := 14) rfl)
theorem wd_2_15 : Cond.classLink RX3 20 RX4 ∈ wsL_law := bp_2 _ (List.mem_of_getElem? (i := 15) rfl)
theorem wd_2_16 : Cond.fieldLink RX3 23 "StarterBay$State" "timetable" "LStarterBay$Timetable;" ∈ wsL_law := bp_2 _ (List.mem_of_getElem? (i := 16) rfl)
theorem wd_2_17 : Cond.classLink RX3 27 RX0 ∈ wsL_law := bp_2 _ (List.mem_of_getElem? (i := 17) rfl)
theorem wd_2_18 : Cond.instantiable RX0 4 ∈ wsL_law := bp_2 _ (List.mem_of_getElem? (i := 18) rfl)
theorem wd_2_19 : Cond.initialized RX0 ∈ wsL_law := bp_2 _ (List.mem_of_getElem? (i := 19) rfl)
theorem wd_2_20 : Cond.fieldLink RX3 30 "StarterBay$State" "events" "LStarterBay$EventLog;" ∈ wsL_law := bp_2 _ (List.mem_of_getElem? (i := 20) rfl)
theorem wd_2_21 : Cond.fieldLink RX3 34 "StarterBay$State" "limit" "I" ∈ wsL_law := bp_2 _ (List.mem_of_getElem? (i := 21) rfl)
theorem wd_2_22 : Cond.methodLink RX3 17 yX2_init ∈ wsL_law := bp_2 _ (List.mem_of_getElem? (i := 22) rfl)
theorem wd_2_23 : Cond.instanceMethod yX2_init ∈ wsL_law := bp_2 _ (List.mem_of_getElem? (i := 23) rfl)
theorem wd_3_0 : Cond.code yX2_init cX2_init 2 none ∈ wsL_law := bp_3 _ (List.mem_of_getElem? (i := 0) rfl)
theorem wd_3_1 : Cond.methodLink RX2 3 objectInit ∈ wsL_law := bp_3 _ (List.mem_of_getElem? (i := 1) rfl)
theorem wd_3_2 : Cond.fieldLink RX2 9 "StarterBay$Motor" "number" "I" ∈ wsL_law := bp_3 _ (List.mem_of_getElem? (i := 2) rfl)
theorem wd_3_3 : Cond.fieldLink RX2 15 "StarterBay$Motor" "accounts" "[I" ∈ wsL_law := bp_3 _ (List.mem_of_getElem? (i := 3) rfl)
theorem wd_3_4 : Cond.methodLink RX3 22 yX4_init ∈ wsL_law := bp_3 _ (List.mem_of_getElem? (i := 4) rfl)
theorem wd_3_5 : Cond.instanceMethod yX4_init ∈ wsL_law := bp_3 _ (List.mem_of_getElem? (i := 5) rfl)
theorem wd_3_6 : Cond.code yX4_init cX4_init 1 none ∈ wsL_law := bp_3 _ (List.mem_of_getElem? (i := 6) rfl)
theorem wd_3_7 : Cond.methodLink RX4 3 objectInit ∈ wsL_law := bp_3 _ (List.mem_of_getElem? (i := 7) rfl)
theorem wd_3_8 : Cond.fieldLink RX4 9 "StarterBay$Timetable" "due" "[I" ∈ wsL_law := bp_3 _ (List.mem_of_getElem? (i := 8) rfl)
theorem wd_3_9 : Cond.fieldLink RX4 15 "StarterBay$Timetable" "order" "[I" ∈ wsL_law := bp_3 _ (List.mem_of_getElem? (i := 9) rfl)
theorem wd_3_10 : Cond.fieldLink RX4 18 "StarterBay$Timetable" "first" "[I" ∈ wsL_law := bp_3 _ (List.mem_of_getElem? (i := 10) rfl)
theorem wd_3_11 : Cond.fieldLink RX4 21 "StarterBay$Timetable" "second" "[I" ∈ wsL_law := bp_3 _ (List.mem_of_getElem? (i := 11) rfl)
theorem wd_3_12 : Cond.methodLink RX3 29 yX0_init ∈ wsL_law := bp_3 _ (List.mem_of_getElem? (i := 12) rfl)
theorem wd_3_13 : Cond.instanceMethod yX0_init ∈ wsL_law := bp_3 _ (List.mem_of_getElem? (i := 13) rfl)
theorem wd_3_14 : Cond.code yX0_init cX0_init 1 none ∈ wsL_law := bp_3 _ (List.mem_of_getElem? (i := 14) rfl)
theorem wd_3_15 : Cond.methodLink RX0 3 objectInit ∈ wsL_law := bp_3 _ (List.mem_of_getElem? (i := 15) rfl)
theorem wd_3_16 : Cond.fieldLink RX0 9 "StarterBay$EventLog" "time" "[I" ∈ wsL_law := bp_3 _ (List.mem_of_getElem? (i := 16) rfl)
theorem wd_3_17 : Cond.fieldLink RX0 15 "StarterBay$EventLog" "motor" "[I" ∈ wsL_law := bp_3 _ (List.mem_of_getElem? (i := 17) rfl)
theorem wd_3_18 : Cond.fieldLink RX0 18 "StarterBay$EventLog" "kind" "[I" ∈ wsL_law := bp_3 _ (List.mem_of_getElem? (i := 18) rfl)
theorem wd_3_19 : Cond.methodLink RX6 18 yX1_init ∈ wsL_law := bp_3 _ (List.mem_of_getElem? (i := 19) rfl)
theorem wd_3_20 : Cond.instanceMethod yX1_init ∈ wsL_law := bp_3 _ (List.mem_of_getElem? (i := 20) rfl)
theorem wd_3_21 : Cond.code yX1_init cX1_init 2 none ∈ wsL_law := bp_3 _ (List.mem_of_getElem? (i := 21) rfl)
theorem wd_3_22 : Cond.methodLink RX1 3 objectInit ∈ wsL_law := bp_3 _ (List.mem_of_getElem? (i := 22) rfl)
theorem wd_3_23 : Cond.classLink RX1 9 RX3 ∈ wsL_law := bp_3 _ (List.mem_of_getElem? (i := 23) rfl)
theorem wd_4_0 : Cond.fieldLink RX1 11 "StarterBay$History" "states" "[LStarterBay$State;" ∈ wsL_law := bp_4 _ (List.mem_of_getElem? (i := 0) rfl)
theorem wd_4_1 : Cond.methodLink RX1 17 yX3_init ∈ wsL_law := bp_4 _ (List.mem_of_getElem? (i := 1) rfl)
theorem wd_4_2 : Cond.methodLink RX6 28 yX5_init ∈ wsL_law := bp_4 _ (List.mem_of_getElem? (i := 2) rfl)
theorem wd_4_3 : Cond.instanceMethod yX5_init ∈ wsL_law := bp_4 _ (List.mem_of_getElem? (i := 3) rfl)
theorem wd_4_4 : Cond.code yX5_init cX5_init 1 none ∈ wsL_law := bp_4 _ (List.mem_of_getElem? (i := 4) rfl)
theorem wd_4_5 : Cond.methodLink RX5 3 objectInit ∈ wsL_law := bp_4 _ (List.mem_of_getElem? (i := 5) rfl)
theorem wd_4_6 : Cond.arrayClass .char ∈ wsL_law := bp_4 _ (List.mem_of_getElem? (i := 6) rfl)
theorem wd_4_7 : Cond.fieldLink RX5 9 "StarterBay$TimetableText" "characters" "[C" ∈ wsL_law := bp_4 _ (List.mem_of_getElem? (i := 7) rfl)
theorem wd_4_8 : Cond.methodLink RX6 35 yX4_init ∈ wsL_law := bp_4 _ (List.mem_of_getElem? (i := 8) rfl)
theorem wd_4_9 : Cond.methodLink RL 12 yX7_init ∈ wsL_law := bp_4 _ (List.mem_of_getElem? (i := 9) rfl)
theorem wd_4_10 : Cond.instanceMethod yX7_init ∈ wsL_law := bp_4 _ (List.mem_of_getElem? (i := 10) rfl)
theorem wd_4_11 : Cond.code yX7_init cX7_init 1 none ∈ wsL_law := bp_4 _ (List.mem_of_getElem? (i := 11) rfl)
theorem wd_4_12 : Cond.methodLink RX7 1 objectInit ∈ wsL_law := bp_4 _ (List.mem_of_getElem? (i := 12) rfl)
theorem wd_4_13 : Cond.fieldLink RX7 7 "StarterBayModel" "now" "[I" ∈ wsL_law := bp_4 _ (List.mem_of_getElem? (i := 13) rfl)
theorem wd_4_14 : Cond.fieldLink RX7 13 "StarterBayModel" "history" "[I" ∈ wsL_law := bp_4 _ (List.mem_of_getElem? (i := 14) rfl)
theorem wd_4_15 : Cond.fieldLink RX7 16 "StarterBayModel" "slot" "[I" ∈ wsL_law := bp_4 _ (List.mem_of_getElem? (i := 15) rfl)
theorem wd_4_16 : Cond.fieldLink RX7 19 "StarterBayModel" "text" "[C" ∈ wsL_law := bp_4 _ (List.mem_of_getElem? (i := 16) rfl)
theorem wd_4_17 : Cond.fieldLink RX7 23 "StarterBayModel" "readItem" "[I" ∈ wsL_law := bp_4 _ (List.mem_of_getElem? (i := 17) rfl)
theorem wd_4_18 : Cond.methodLink RL 13 yX6_addMotor ∈ wsL_law := bp_4 _ (List.mem_of_getElem? (i := 18) rfl)
theorem wd_4_19 : Cond.instanceMethod yX6_addMotor ∈ wsL_law := bp_4 _ (List.mem_of_getElem? (i := 19) rfl)
theorem wd_4_20 : Cond.selects RX6 yX6_addMotor yX6_addMotor ∈ wsL_law := bp_4 _ (List.mem_of_getElem? (i := 20) rfl)
theorem wd_4_21 : Cond.code yX6_addMotor cX6_addMotor 6 (some .int) ∈ wsL_law := bp_4 _ (List.mem_of_getElem? (i := 21) rfl)
theorem wd_4_22 : Cond.constant RX6 48 (60000) ∈ wsL_law := bp_4 _ (List.mem_of_getElem? (i := 22) rfl)
theorem wd_4_23 : Cond.fieldLink RX6 49 "StarterBay$State" "motorCount" "I" ∈ wsL_law := bp_4 _ (List.mem_of_getElem? (i := 23) rfl)
theorem wd_5_0 : Cond.fieldLink RX6 61 "StarterBay$State" "motors" "[LStarterBay$Motor;" ∈ wsL_law := bp_5 _ (List.mem_of_getElem? (i := 0) rfl)
theorem wd_5_1 : Cond.methodLink RX6 44 yX6_isOutside ∈ wsL_law := bp_5 _ (List.mem_of_getElem? (i := 1) rfl)
theorem wd_5_2 : Cond.static yX6_isOutside ∈ wsL_law := bp_5 _ (List.mem_of_getElem? (i := 2) rfl)
theorem wd_5_3 : Cond.code yX6_isOutside cX6_isOutside 3 (some .boolean) ∈ wsL_law := bp_5 _ (List.mem_of_getElem? (i := 3) rfl)
theorem wd_5_4 : Cond.methodLink RX6 53 yX6_refuse ∈ wsL_law := bp_5 _ (List.mem_of_getElem? (i := 4) rfl)
theorem wd_5_5 : Cond.instanceMethod yX6_refuse ∈ wsL_law := bp_5 _ (List.mem_of_getElem? (i := 5) rfl)
theorem wd_5_6 : Cond.selects RX6 yX6_refuse yX6_refuse ∈ wsL_law := bp_5 _ (List.mem_of_getElem? (i := 6) rfl)
theorem wd_5_7 : Cond.code yX6_refuse cX6_refuse 2 (some .int) ∈ wsL_law := bp_5 _ (List.mem_of_getElem? (i := 7) rfl)
theorem wd_5_8 : Cond.fieldLink RX6 222 "StarterBay" "reason" "I" ∈ wsL_law := bp_5 _ (List.mem_of_getElem? (i := 8) rfl)
theorem wd_5_9 : Cond.methodLink RX6 57 yX1_record ∈ wsL_law := bp_5 _ (List.mem_of_getElem? (i := 9) rfl)
theorem wd_5_10 : Cond.instanceMethod yX1_record ∈ wsL_law := bp_5 _ (List.mem_of_getElem? (i := 10) rfl)
theorem wd_5_11 : Cond.selects RX1 yX1_record yX1_record ∈ wsL_law := bp_5 _ (List.mem_of_getElem? (i := 11) rfl)
theorem wd_5_12 : Cond.code yX1_record cX1_record 2 none ∈ wsL_law := bp_5 _ (List.mem_of_getElem? (i := 12) rfl)
theorem wd_5_13 : Cond.fieldLink RX1 18 "StarterBay$History" "size" "I" ∈ wsL_law := bp_5 _ (List.mem_of_getElem? (i := 13) rfl)
theorem wd_5_14 : Cond.methodLink RX1 22 yX1_dropOldest ∈ wsL_law := bp_5 _ (List.mem_of_getElem? (i := 14) rfl)
theorem wd_5_15 : Cond.instanceMethod yX1_dropOldest ∈ wsL_law := bp_5 _ (List.mem_of_getElem? (i := 15) rfl)
theorem wd_5_16 : Cond.selects RX1 yX1_dropOldest yX1_dropOldest ∈ wsL_law := bp_5 _ (List.mem_of_getElem? (i := 16) rfl)
theorem wd_5_17 : Cond.code yX1_dropOldest cX1_dropOldest 3 none ∈ wsL_law := bp_5 _ (List.mem_of_getElem? (i := 17) rfl)
theorem wd_5_18 : Cond.methodLink RX1 25 yX3_copyFrom ∈ wsL_law := bp_5 _ (List.mem_of_getElem? (i := 18) rfl)
theorem wd_5_19 : Cond.instanceMethod yX3_copyFrom ∈ wsL_law := bp_5 _ (List.mem_of_getElem? (i := 19) rfl)
theorem wd_5_20 : Cond.selects RX3 yX3_copyFrom yX3_copyFrom ∈ wsL_law := bp_5 _ (List.mem_of_getElem? (i := 20) rfl)
theorem wd_5_21 : Cond.code yX3_copyFrom cX3_copyFrom 3 none ∈ wsL_law := bp_5 _ (List.mem_of_getElem? (i := 21) rfl)
theorem wd_5_22 : Cond.fieldLink RX3 38 "StarterBay$State" "motorCount" "I" ∈ wsL_law := bp_5 _ (List.mem_of_getElem? (i := 22) rfl)
theorem wd_5_23 : Cond.fieldLink RX3 51 "StarterBay$State" "clock" "I" ∈ wsL_law := bp_5 _ (List.mem_of_getElem? (i := 23) rfl)
theorem wd_6_0 : Cond.fieldLink RX3 54 "StarterBay$State" "fan" "Z" ∈ wsL_law := bp_6 _ (List.mem_of_getElem? (i := 0) rfl)
theorem wd_6_1 : Cond.fieldLink RX3 58 "StarterBay$State" "refusedItems" "I" ∈ wsL_law := bp_6 _ (List.mem_of_getElem? (i := 1) rfl)
theorem wd_6_2 : Cond.methodLink RX3 41 yX2_copyFrom ∈ wsL_law := bp_6 _ (List.mem_of_getElem? (i := 2) rfl)
theorem wd_6_3 : Cond.instanceMethod yX2_copyFrom ∈ wsL_law := bp_6 _ (List.mem_of_getElem? (i := 3) rfl)
theorem wd_6_4 : Cond.selects RX2 yX2_copyFrom yX2_copyFrom ∈ wsL_law := bp_6 _ (List.mem_of_getElem? (i := 4) rfl)
theorem wd_6_5 : Cond.code yX2_copyFrom cX2_copyFrom 2 none ∈ wsL_law := bp_6 _ (List.mem_of_getElem? (i := 5) rfl)
theorem wd_6_6 : Cond.fieldLink RX2 19 "StarterBay$Motor" "rated" "I" ∈ wsL_law := bp_6 _ (List.mem_of_getElem? (i := 6) rfl)
theorem wd_6_7 : Cond.fieldLink RX2 22 "StarterBay$Motor" "ramp" "I" ∈ wsL_law := bp_6 _ (List.mem_of_getElem? (i := 7) rfl)
theorem wd_6_8 : Cond.fieldLink RX2 25 "StarterBay$Motor" "factor" "I" ∈ wsL_law := bp_6 _ (List.mem_of_getElem? (i := 8) rfl)
theorem wd_6_9 : Cond.fieldLink RX2 28 "StarterBay$Motor" "limit" "I" ∈ wsL_law := bp_6 _ (List.mem_of_getElem? (i := 9) rfl)
theorem wd_6_10 : Cond.fieldLink RX2 35 "StarterBay$Motor" "heatToStart" "I" ∈ wsL_law := bp_6 _ (List.mem_of_getElem? (i := 10) rfl)
theorem wd_6_11 : Cond.fieldLink RX2 38 "StarterBay$Motor" "need" "I" ∈ wsL_law := bp_6 _ (List.mem_of_getElem? (i := 11) rfl)
theorem wd_6_12 : Cond.fieldLink RX2 41 "StarterBay$Motor" "mode" "I" ∈ wsL_law := bp_6 _ (List.mem_of_getElem? (i := 12) rfl)
theorem wd_6_13 : Cond.fieldLink RX2 44 "StarterBay$Motor" "heat" "I" ∈ wsL_law := bp_6 _ (List.mem_of_getElem? (i := 13) rfl)
theorem wd_6_14 : Cond.fieldLink RX2 47 "StarterBay$Motor" "lost" "I" ∈ wsL_law := bp_6 _ (List.mem_of_getElem? (i := 14) rfl)
theorem wd_6_15 : Cond.fieldLink RX2 50 "StarterBay$Motor" "rampSeconds" "I" ∈ wsL_law := bp_6 _ (List.mem_of_getElem? (i := 15) rfl)
theorem wd_6_16 : Cond.fieldLink RX2 53 "StarterBay$Motor" "requestedAt" "I" ∈ wsL_law := bp_6 _ (List.mem_of_getElem? (i := 16) rfl)
theorem wd_6_17 : Cond.fieldLink RX2 56 "StarterBay$Motor" "tripReason" "I" ∈ wsL_law := bp_6 _ (List.mem_of_getElem? (i := 17) rfl)
theorem wd_6_18 : Cond.fieldLink RX2 59 "StarterBay$Motor" "lossSeconds" "I" ∈ wsL_law := bp_6 _ (List.mem_of_getElem? (i := 18) rfl)
theorem wd_6_19 : Cond.methodLink RX2 62 arraycopyName ∈ wsL_law := bp_6 _ (List.mem_of_getElem? (i := 19) rfl)
theorem wd_6_20 : Cond.native arraycopyName ∈ wsL_law := bp_6 _ (List.mem_of_getElem? (i := 20) rfl)
theorem wd_6_21 : Cond.static arraycopyName ∈ wsL_law := bp_6 _ (List.mem_of_getElem? (i := 21) rfl)
theorem wd_6_22 : Cond.initialized "java/lang/System" ∈ wsL_law := bp_6 _ (List.mem_of_getElem? (i := 22) rfl)
theorem wd_6_23 : Cond.methodLink RX3 45 yX4_copyFrom ∈ wsL_law := bp_6 _ (List.mem_of_getElem? (i := 23) rfl)
theorem wd_7_0 : Cond.instanceMethod yX4_copyFrom ∈ wsL_law := bp_7 _ (List.mem_of_getElem? (i := 0) rfl)
theorem wd_7_1 : Cond.selects RX4 yX4_copyFrom yX4_copyFrom ∈ wsL_law := bp_7 _ (List.mem_of_getElem? (i := 1) rfl)
theorem wd_7_2 : Cond.code yX4_copyFrom cX4_copyFrom 2 none ∈ wsL_law := bp_7 _ (List.mem_of_getElem? (i := 2) rfl)
theorem wd_7_3 : Cond.methodLink RX4 24 arraycopyName ∈ wsL_law := bp_7 _ (List.mem_of_getElem? (i := 3) rfl)
theorem wd_7_4 : Cond.fieldLink RX4 30 "StarterBay$Timetable" "size" "I" ∈ wsL_law := bp_7 _ (List.mem_of_getElem? (i := 4) rfl)
theorem wd_7_5 : Cond.fieldLink RX4 34 "StarterBay$Timetable" "next" "I" ∈ wsL_law := bp_7 _ (List.mem_of_getElem? (i := 5) rfl)
theorem wd_7_6 : Cond.methodLink RX3 48 yX0_copyFrom ∈ wsL_law := bp_7 _ (List.mem_of_getElem? (i := 6) rfl)
theorem wd_7_7 : Cond.instanceMethod yX0_copyFrom ∈ wsL_law := bp_7 _ (List.mem_of_getElem? (i := 7) rfl)
theorem wd_7_8 : Cond.selects RX0 yX0_copyFrom yX0_copyFrom ∈ wsL_law := bp_7 _ (List.mem_of_getElem? (i := 8) rfl)
theorem wd_7_9 : Cond.code yX0_copyFrom cX0_copyFrom 2 none ∈ wsL_law := bp_7 _ (List.mem_of_getElem? (i := 9) rfl)
theorem wd_7_10 : Cond.methodLink RX0 21 arraycopyName ∈ wsL_law := bp_7 _ (List.mem_of_getElem? (i := 10) rfl)
theorem wd_7_11 : Cond.fieldLink RX0 27 "StarterBay$EventLog" "total" "I" ∈ wsL_law := bp_7 _ (List.mem_of_getElem? (i := 11) rfl)
theorem wd_7_12 : Cond.methodLink RX6 65 yX2_begin ∈ wsL_law := bp_7 _ (List.mem_of_getElem? (i := 12) rfl)
theorem wd_7_13 : Cond.instanceMethod yX2_begin ∈ wsL_law := bp_7 _ (List.mem_of_getElem? (i := 13) rfl)
theorem wd_7_14 : Cond.selects RX2 yX2_begin yX2_begin ∈ wsL_law := bp_7 _ (List.mem_of_getElem? (i := 14) rfl)
theorem wd_7_15 : Cond.code yX2_begin cX2_begin 6 none ∈ wsL_law := bp_7 _ (List.mem_of_getElem? (i := 15) rfl)
theorem wd_7_16 : Cond.static yX6_heatOfStart ∈ wsL_law := bp_7 _ (List.mem_of_getElem? (i := 16) rfl)
theorem wd_7_17 : Cond.code yX6_heatOfStart cX6_heatOfStart 4 (some .int) ∈ wsL_law := bp_7 _ (List.mem_of_getElem? (i := 17) rfl)
theorem wd_7_18 : Cond.methodLink RX6 304 yX6_rampCurrent ∈ wsL_law := bp_7 _ (List.mem_of_getElem? (i := 18) rfl)
theorem wd_7_19 : Cond.static yX6_rampCurrent ∈ wsL_law := bp_7 _ (List.mem_of_getElem? (i := 19) rfl)
theorem wd_7_20 : Cond.code yX6_rampCurrent cX6_rampCurrent 3 (some .int) ∈ wsL_law := bp_7 _ (List.mem_of_getElem? (i := 20) rfl)
theorem wd_7_21 : Cond.methodLink RX6 210 yX6_heatOf ∈ wsL_law := bp_7 _ (List.mem_of_getElem? (i := 21) rfl)
theorem wd_7_22 : Cond.static yX6_heatOf ∈ wsL_law := bp_7 _ (List.mem_of_getElem? (i := 22) rfl)
theorem wd_7_23 : Cond.code yX6_heatOf cX6_heatOf 1 (some .int) ∈ wsL_law := bp_7 _ (List.mem_of_getElem? (i := 23) rfl)
theorem wd_8_0 : Cond.methodLink RL 17 yX7_addMotor ∈ wsL_law := bp_8 _ (List.mem_of_getElem? (i := 0) rfl)
theorem wd_8_1 : Cond.instanceMethod yX7_addMotor ∈ wsL_law := bp_8 _ (List.mem_of_getElem? (i := 1) rfl)
theorem wd_8_2 : Cond.selects RX7 yX7_addMotor yX7_addMotor ∈ wsL_law := bp_8 _ (List.mem_of_getElem? (i := 2) rfl)
theorem wd_8_3 : Cond.code yX7_addMotor cX7_addMotor 7 (some .int) ∈ wsL_law := bp_8 _ (List.mem_of_getElem? (i := 3) rfl)
theorem wd_8_4 : Cond.constant RX7 37 (60000) ∈ wsL_law := bp_8 _ (List.mem_of_getElem? (i := 4) rfl)
theorem wd_8_5 : Cond.methodLink RX7 33 yX7_in ∈ wsL_law := bp_8 _ (List.mem_of_getElem? (i := 5) rfl)
theorem wd_8_6 : Cond.static yX7_in ∈ wsL_law := bp_8 _ (List.mem_of_getElem? (i := 6) rfl)
theorem wd_8_7 : Cond.code yX7_in cX7_in 3 (some .boolean) ∈ wsL_law := bp_8 _ (List.mem_of_getElem? (i := 7) rfl)
theorem wd_8_8 : Cond.methodLink RX7 38 yX7_refuse ∈ wsL_law := bp_8 _ (List.mem_of_getElem? (i := 8) rfl)
theorem wd_8_9 : Cond.instanceMethod yX7_refuse ∈ wsL_law := bp_8 _ (List.mem_of_getElem? (i := 9) rfl)
theorem wd_8_10 : Cond.selects RX7 yX7_refuse yX7_refuse ∈ wsL_law := bp_8 _ (List.mem_of_getElem? (i := 10) rfl)
theorem wd_8_11 : Cond.code yX7_refuse cX7_refuse 2 (some .int) ∈ wsL_law := bp_8 _ (List.mem_of_getElem? (i := 11) rfl)
theorem wd_8_12 : Cond.fieldLink RX7 30 "StarterBayModel" "reason" "I" ∈ wsL_law := bp_8 _ (List.mem_of_getElem? (i := 12) rfl)
theorem wd_8_13 : Cond.methodLink RX7 42 yX7_record ∈ wsL_law := bp_8 _ (List.mem_of_getElem? (i := 13) rfl)
theorem wd_8_14 : Cond.instanceMethod yX7_record ∈ wsL_law := bp_8 _ (List.mem_of_getElem? (i := 14) rfl)
theorem wd_8_15 : Cond.selects RX7 yX7_record yX7_record ∈ wsL_law := bp_8 _ (List.mem_of_getElem? (i := 15) rfl)
theorem wd_8_16 : Cond.code yX7_record cX7_record 2 none ∈ wsL_law := bp_8 _ (List.mem_of_getElem? (i := 16) rfl)
theorem wd_8_17 : Cond.fieldLink RX7 26 "StarterBayModel" "kept" "I" ∈ wsL_law := bp_8 _ (List.mem_of_getElem? (i := 17) rfl)
theorem wd_8_18 : Cond.methodLink RX7 45 yX7_put ∈ wsL_law := bp_8 _ (List.mem_of_getElem? (i := 18) rfl)
theorem wd_8_19 : Cond.instanceMethod yX7_put ∈ wsL_law := bp_8 _ (List.mem_of_getElem? (i := 19) rfl)
theorem wd_8_20 : Cond.selects RX7 yX7_put yX7_put ∈ wsL_law := bp_8 _ (List.mem_of_getElem? (i := 20) rfl)
theorem wd_8_21 : Cond.code yX7_put cX7_put 4 none ∈ wsL_law := bp_8 _ (List.mem_of_getElem? (i := 21) rfl)
theorem wd_8_22 : Cond.methodLink RL 18 yX6_setNeed ∈ wsL_law := bp_8 _ (List.mem_of_getElem? (i := 22) rfl)
theorem wd_8_23 : Cond.instanceMethod yX6_setNeed ∈ wsL_law := bp_8 _ (List.mem_of_getElem? (i := 23) rfl)
theorem wd_9_0 : Cond.selects RX6 yX6_setNeed yX6_setNeed ∈ wsL_law := bp_9 _ (List.mem_of_getElem? (i := 0) rfl)
theorem wd_9_1 : Cond.code yX6_setNeed cX6_setNeed 5 (some .int) ∈ wsL_law := bp_9 _ (List.mem_of_getElem? (i := 1) rfl)
theorem wd_9_2 : Cond.fieldLink RX6 75 "StarterBay$Motor" "need" "I" ∈ wsL_law := bp_9 _ (List.mem_of_getElem? (i := 2) rfl)
theorem wd_9_3 : Cond.methodLink RX6 71 yX3_find ∈ wsL_law := bp_9 _ (List.mem_of_getElem? (i := 3) rfl)
theorem wd_9_4 : Cond.instanceMethod yX3_find ∈ wsL_law := bp_9 _ (List.mem_of_getElem? (i := 4) rfl)
theorem wd_9_5 : Cond.selects RX3 yX3_find yX3_find ∈ wsL_law := bp_9 _ (List.mem_of_getElem? (i := 5) rfl)
theorem wd_9_6 : Cond.code yX3_find cX3_find 2 (some (.object "StarterBay$Motor")) ∈ wsL_law := bp_9 _ (List.mem_of_getElem? (i := 6) rfl)
theorem wd_9_7 : Cond.methodLink RL 22 yX7_setNeed ∈ wsL_law := bp_9 _ (List.mem_of_getElem? (i := 7) rfl)
theorem wd_9_8 : Cond.instanceMethod yX7_setNeed ∈ wsL_law := bp_9 _ (List.mem_of_getElem? (i := 8) rfl)
theorem wd_9_9 : Cond.selects RX7 yX7_setNeed yX7_setNeed ∈ wsL_law := bp_9 _ (List.mem_of_getElem? (i := 9) rfl)
theorem wd_9_10 : Cond.code yX7_setNeed cX7_setNeed 4 (some .int) ∈ wsL_law := bp_9 _ (List.mem_of_getElem? (i := 10) rfl)
theorem wd_9_11 : Cond.methodLink RX7 49 yX7_noMotor ∈ wsL_law := bp_9 _ (List.mem_of_getElem? (i := 11) rfl)
theorem wd_9_12 : Cond.instanceMethod yX7_noMotor ∈ wsL_law := bp_9 _ (List.mem_of_getElem? (i := 12) rfl)
theorem wd_9_13 : Cond.selects RX7 yX7_noMotor yX7_noMotor ∈ wsL_law := bp_9 _ (List.mem_of_getElem? (i := 13) rfl)
theorem wd_9_14 : Cond.code yX7_noMotor cX7_noMotor 2 (some .boolean) ∈ wsL_law := bp_9 _ (List.mem_of_getElem? (i := 14) rfl)
theorem wd_9_15 : Cond.methodLink RX7 53 yX7_of ∈ wsL_law := bp_9 _ (List.mem_of_getElem? (i := 15) rfl)
theorem wd_9_16 : Cond.instanceMethod yX7_of ∈ wsL_law := bp_9 _ (List.mem_of_getElem? (i := 16) rfl)
theorem wd_9_17 : Cond.selects RX7 yX7_of yX7_of ∈ wsL_law := bp_9 _ (List.mem_of_getElem? (i := 17) rfl)
theorem wd_9_18 : Cond.code yX7_of cX7_of 3 (some .int) ∈ wsL_law := bp_9 _ (List.mem_of_getElem? (i := 18) rfl)
theorem wd_9_19 : Cond.methodLink RL 23 yX6_setLimit ∈ wsL_law := bp_9 _ (List.mem_of_getElem? (i := 19) rfl)
theorem wd_9_20 : Cond.instanceMethod yX6_setLimit ∈ wsL_law := bp_9 _ (List.mem_of_getElem? (i := 20) rfl)
theorem wd_9_21 : Cond.selects RX6 yX6_setLimit yX6_setLimit ∈ wsL_law := bp_9 _ (List.mem_of_getElem? (i := 21) rfl)
theorem wd_9_22 : Cond.code yX6_setLimit cX6_setLimit 3 (some .int) ∈ wsL_law := bp_9 _ (List.mem_of_getElem? (i := 22) rfl)
theorem wd_9_23 : Cond.fieldLink RX6 78 "StarterBay$State" "limit" "I" ∈ wsL_law := bp_9 _ (List.mem_of_getElem? (i := 23) rfl)
theorem wd_10_0 : Cond.methodLink RL 27 yX7_setLimit ∈ wsL_law := bp_10 _ (List.mem_of_getElem? (i := 0) rfl)
theorem wd_10_1 : Cond.instanceMethod yX7_setLimit ∈ wsL_law := bp_10 _ (List.mem_of_getElem? (i := 1) rfl)
theorem wd_10_2 : Cond.selects RX7 yX7_setLimit yX7_setLimit ∈ wsL_law := bp_10 _ (List.mem_of_getElem? (i := 2) rfl)
theorem wd_10_3 : Cond.code yX7_setLimit cX7_setLimit 3 (some .int) ∈ wsL_law := bp_10 _ (List.mem_of_getElem? (i := 3) rfl)
theorem wd_10_4 : Cond.methodLink RL 28 yX6_setFan ∈ wsL_law := bp_10 _ (List.mem_of_getElem? (i := 4) rfl)
theorem wd_10_5 : Cond.instanceMethod yX6_setFan ∈ wsL_law := bp_10 _ (List.mem_of_getElem? (i := 5) rfl)
theorem wd_10_6 : Cond.selects RX6 yX6_setFan yX6_setFan ∈ wsL_law := bp_10 _ (List.mem_of_getElem? (i := 6) rfl)
theorem wd_10_7 : Cond.code yX6_setFan cX6_setFan 2 (some .int) ∈ wsL_law := bp_10 _ (List.mem_of_getElem? (i := 7) rfl)
theorem wd_10_8 : Cond.methodLink RX6 81 yX6_callOrder ∈ wsL_law := bp_10 _ (List.mem_of_getElem? (i := 8) rfl)
theorem wd_10_9 : Cond.instanceMethod yX6_callOrder ∈ wsL_law := bp_10 _ (List.mem_of_getElem? (i := 9) rfl)
theorem wd_10_10 : Cond.selects RX6 yX6_callOrder yX6_callOrder ∈ wsL_law := bp_10 _ (List.mem_of_getElem? (i := 10) rfl)
theorem wd_10_11 : Cond.code yX6_callOrder cX6_callOrder 5 (some .int) ∈ wsL_law := bp_10 _ (List.mem_of_getElem? (i := 11) rfl)
theorem wd_10_12 : Cond.methodLink RX6 240 yX6_checkOrder ∈ wsL_law := bp_10 _ (List.mem_of_getElem? (i := 12) rfl)
theorem wd_10_13 : Cond.instanceMethod yX6_checkOrder ∈ wsL_law := bp_10 _ (List.mem_of_getElem? (i := 13) rfl)
theorem wd_10_14 : Cond.selects RX6 yX6_checkOrder yX6_checkOrder ∈ wsL_law := bp_10 _ (List.mem_of_getElem? (i := 14) rfl)
theorem wd_10_15 : Cond.code yX6_checkOrder cX6_checkOrder 5 (some .int) ∈ wsL_law := bp_10 _ (List.mem_of_getElem? (i := 15) rfl)
theorem wd_10_16 : Cond.fieldLink RX6 203 "StarterBay$State" "fan" "Z" ∈ wsL_law := bp_10 _ (List.mem_of_getElem? (i := 16) rfl)
theorem wd_10_17 : Cond.fieldLink RX6 149 "StarterBay$Motor" "mode" "I" ∈ wsL_law := bp_10 _ (List.mem_of_getElem? (i := 17) rfl)
theorem wd_10_18 : Cond.methodLink RX6 246 yX6_checkLoss ∈ wsL_law := bp_10 _ (List.mem_of_getElem? (i := 18) rfl)
theorem wd_10_19 : Cond.instanceMethod yX6_checkLoss ∈ wsL_law := bp_10 _ (List.mem_of_getElem? (i := 19) rfl)
theorem wd_10_20 : Cond.selects RX6 yX6_checkLoss yX6_checkLoss ∈ wsL_law := bp_10 _ (List.mem_of_getElem? (i := 20) rfl)
theorem wd_10_21 : Cond.code yX6_checkLoss cX6_checkLoss 3 (some .int) ∈ wsL_law := bp_10 _ (List.mem_of_getElem? (i := 21) rfl)
theorem wd_10_22 : Cond.fieldLink RX6 155 "StarterBay$Motor" "lost" "I" ∈ wsL_law := bp_10 _ (List.mem_of_getElem? (i := 22) rfl)
theorem wd_10_23 : Cond.methodLink RX6 250 yX6_checkReset ∈ wsL_law := bp_10 _ (List.mem_of_getElem? (i := 23) rfl)
theorem wd_11_0 : Cond.instanceMethod yX6_checkReset ∈ wsL_law := bp_11 _ (List.mem_of_getElem? (i := 0) rfl)
theorem wd_11_1 : Cond.selects RX6 yX6_checkReset yX6_checkReset ∈ wsL_law := bp_11 _ (List.mem_of_getElem? (i := 1) rfl)
theorem wd_11_2 : Cond.code yX6_checkReset cX6_checkReset 2 (some .int) ∈ wsL_law := bp_11 _ (List.mem_of_getElem? (i := 2) rfl)
theorem wd_11_3 : Cond.fieldLink RX6 152 "StarterBay$Motor" "heat" "I" ∈ wsL_law := bp_11 _ (List.mem_of_getElem? (i := 3) rfl)
theorem wd_11_4 : Cond.fieldLink RX6 148 "StarterBay$Motor" "limit" "I" ∈ wsL_law := bp_11 _ (List.mem_of_getElem? (i := 4) rfl)
theorem wd_11_5 : Cond.methodLink RX6 243 yX6_carryOut ∈ wsL_law := bp_11 _ (List.mem_of_getElem? (i := 5) rfl)
theorem wd_11_6 : Cond.instanceMethod yX6_carryOut ∈ wsL_law := bp_11 _ (List.mem_of_getElem? (i := 6) rfl)
theorem wd_11_7 : Cond.selects RX6 yX6_carryOut yX6_carryOut ∈ wsL_law := bp_11 _ (List.mem_of_getElem? (i := 7) rfl)
theorem wd_11_8 : Cond.code yX6_carryOut cX6_carryOut 5 (some .int) ∈ wsL_law := bp_11 _ (List.mem_of_getElem? (i := 8) rfl)
theorem wd_11_9 : Cond.fieldLink RX6 98 "StarterBay$State" "clock" "I" ∈ wsL_law := bp_11 _ (List.mem_of_getElem? (i := 9) rfl)
theorem wd_11_10 : Cond.fieldLink RX6 161 "StarterBay$Motor" "requestedAt" "I" ∈ wsL_law := bp_11 _ (List.mem_of_getElem? (i := 10) rfl)
theorem wd_11_11 : Cond.methodLink RX6 253 yX2_change ∈ wsL_law := bp_11 _ (List.mem_of_getElem? (i := 11) rfl)
theorem wd_11_12 : Cond.instanceMethod yX2_change ∈ wsL_law := bp_11 _ (List.mem_of_getElem? (i := 12) rfl)
theorem wd_11_13 : Cond.selects RX2 yX2_change yX2_change ∈ wsL_law := bp_11 _ (List.mem_of_getElem? (i := 13) rfl)
theorem wd_11_14 : Cond.code yX2_change cX2_change 3 (some .int) ∈ wsL_law := bp_11 _ (List.mem_of_getElem? (i := 14) rfl)
theorem wd_11_15 : Cond.methodLink RX6 256 yX3_note ∈ wsL_law := bp_11 _ (List.mem_of_getElem? (i := 15) rfl)
theorem wd_11_16 : Cond.instanceMethod yX3_note ∈ wsL_law := bp_11 _ (List.mem_of_getElem? (i := 16) rfl)
theorem wd_11_17 : Cond.selects RX3 yX3_note yX3_note ∈ wsL_law := bp_11 _ (List.mem_of_getElem? (i := 17) rfl)
theorem wd_11_18 : Cond.code yX3_note cX3_note 3 none ∈ wsL_law := bp_11 _ (List.mem_of_getElem? (i := 18) rfl)
theorem wd_11_19 : Cond.fieldLink RX3 61 "StarterBay$Motor" "number" "I" ∈ wsL_law := bp_11 _ (List.mem_of_getElem? (i := 19) rfl)
theorem wd_11_20 : Cond.methodLink RX3 64 yX0_add ∈ wsL_law := bp_11 _ (List.mem_of_getElem? (i := 20) rfl)
theorem wd_11_21 : Cond.instanceMethod yX0_add ∈ wsL_law := bp_11 _ (List.mem_of_getElem? (i := 21) rfl)
theorem wd_11_22 : Cond.selects RX0 yX0_add yX0_add ∈ wsL_law := bp_11 _ (List.mem_of_getElem? (i := 22) rfl)
theorem wd_11_23 : Cond.code yX0_add cX0_add 5 none ∈ wsL_law := bp_11 _ (List.mem_of_getElem? (i := 23) rfl)
theorem wd_12_0 : Cond.methodLink RX0 31 yJ9_floorMod_7cf53 ∈ wsL_law := bp_12 _ (List.mem_of_getElem? (i := 0) rfl)
theorem wd_12_1 : Cond.static yJ9_floorMod_7cf53 ∈ wsL_law := bp_12 _ (List.mem_of_getElem? (i := 1) rfl)
theorem wd_12_2 : Cond.initialized RJ9 ∈ wsL_law := bp_12 _ (List.mem_of_getElem? (i := 2) rfl)
theorem wd_12_3 : Cond.code yJ9_floorMod_7cf53 cJ9_floorMod_7cf53 3 (some .int) ∈ wsL_law := bp_12 _ (List.mem_of_getElem? (i := 3) rfl)
theorem wd_12_4 : Cond.methodLink RX6 260 yX6_carryOutLoss ∈ wsL_law := bp_12 _ (List.mem_of_getElem? (i := 4) rfl)
theorem wd_12_5 : Cond.instanceMethod yX6_carryOutLoss ∈ wsL_law := bp_12 _ (List.mem_of_getElem? (i := 5) rfl)
theorem wd_12_6 : Cond.selects RX6 yX6_carryOutLoss yX6_carryOutLoss ∈ wsL_law := bp_12 _ (List.mem_of_getElem? (i := 6) rfl)
theorem wd_12_7 : Cond.code yX6_carryOutLoss cX6_carryOutLoss 4 (some .int) ∈ wsL_law := bp_12 _ (List.mem_of_getElem? (i := 7) rfl)
theorem wd_12_8 : Cond.methodLink RX6 263 yX2_trip ∈ wsL_law := bp_12 _ (List.mem_of_getElem? (i := 8) rfl)
theorem wd_12_9 : Cond.instanceMethod yX2_trip ∈ wsL_law := bp_12 _ (List.mem_of_getElem? (i := 9) rfl)
theorem wd_12_10 : Cond.selects RX2 yX2_trip yX2_trip ∈ wsL_law := bp_12 _ (List.mem_of_getElem? (i := 10) rfl)
theorem wd_12_11 : Cond.code yX2_trip cX2_trip 2 (some .int) ∈ wsL_law := bp_12 _ (List.mem_of_getElem? (i := 11) rfl)
theorem wd_12_12 : Cond.methodLink RL 32 yX7_setFan ∈ wsL_law := bp_12 _ (List.mem_of_getElem? (i := 12) rfl)
theorem wd_12_13 : Cond.instanceMethod yX7_setFan ∈ wsL_law := bp_12 _ (List.mem_of_getElem? (i := 13) rfl)
theorem wd_12_14 : Cond.selects RX7 yX7_setFan yX7_setFan ∈ wsL_law := bp_12 _ (List.mem_of_getElem? (i := 14) rfl)
theorem wd_12_15 : Cond.code yX7_setFan cX7_setFan 3 (some .int) ∈ wsL_law := bp_12 _ (List.mem_of_getElem? (i := 15) rfl)
theorem wd_12_16 : Cond.methodLink RL 33 yX6_request ∈ wsL_law := bp_12 _ (List.mem_of_getElem? (i := 16) rfl)
theorem wd_12_17 : Cond.instanceMethod yX6_request ∈ wsL_law := bp_12 _ (List.mem_of_getElem? (i := 17) rfl)
theorem wd_12_18 : Cond.selects RX6 yX6_request yX6_request ∈ wsL_law := bp_12 _ (List.mem_of_getElem? (i := 18) rfl)
theorem wd_12_19 : Cond.code yX6_request cX6_request 3 (some .int) ∈ wsL_law := bp_12 _ (List.mem_of_getElem? (i := 19) rfl)
theorem wd_12_20 : Cond.methodLink RX6 85 yX6_placeInLine ∈ wsL_law := bp_12 _ (List.mem_of_getElem? (i := 20) rfl)
theorem wd_12_21 : Cond.instanceMethod yX6_placeInLine ∈ wsL_law := bp_12 _ (List.mem_of_getElem? (i := 21) rfl)
theorem wd_12_22 : Cond.selects RX6 yX6_placeInLine yX6_placeInLine ∈ wsL_law := bp_12 _ (List.mem_of_getElem? (i := 22) rfl)
theorem wd_12_23 : Cond.code yX6_placeInLine cX6_placeInLine 4 (some .int) ∈ wsL_law := bp_12 _ (List.mem_of_getElem? (i := 23) rfl)
theorem wd_13_0 : Cond.methodLink RX6 182 yX6_fillLine ∈ wsL_law := bp_13 _ (List.mem_of_getElem? (i := 0) rfl)
theorem wd_13_1 : Cond.instanceMethod yX6_fillLine ∈ wsL_law := bp_13 _ (List.mem_of_getElem? (i := 1) rfl)
theorem wd_13_2 : Cond.selects RX6 yX6_fillLine yX6_fillLine ∈ wsL_law := bp_13 _ (List.mem_of_getElem? (i := 2) rfl)
theorem wd_13_3 : Cond.code yX6_fillLine cX6_fillLine 4 (some .int) ∈ wsL_law := bp_13 _ (List.mem_of_getElem? (i := 3) rfl)
theorem wd_13_4 : Cond.methodLink RX6 300 yX3_isAhead ∈ wsL_law := bp_13 _ (List.mem_of_getElem? (i := 4) rfl)
theorem wd_13_5 : Cond.instanceMethod yX3_isAhead ∈ wsL_law := bp_13 _ (List.mem_of_getElem? (i := 5) rfl)
theorem wd_13_6 : Cond.selects RX3 yX3_isAhead yX3_isAhead ∈ wsL_law := bp_13 _ (List.mem_of_getElem? (i := 6) rfl)
theorem wd_13_7 : Cond.code yX3_isAhead cX3_isAhead 7 (some .boolean) ∈ wsL_law := bp_13 _ (List.mem_of_getElem? (i := 7) rfl)
theorem wd_13_8 : Cond.fieldLink RX3 71 "StarterBay$Motor" "requestedAt" "I" ∈ wsL_law := bp_13 _ (List.mem_of_getElem? (i := 8) rfl)
theorem wd_13_9 : Cond.methodLink RX3 74 yX3_urgency ∈ wsL_law := bp_13 _ (List.mem_of_getElem? (i := 9) rfl)
theorem wd_13_10 : Cond.instanceMethod yX3_urgency ∈ wsL_law := bp_13 _ (List.mem_of_getElem? (i := 10) rfl)
theorem wd_13_11 : Cond.selects RX3 yX3_urgency yX3_urgency ∈ wsL_law := bp_13 _ (List.mem_of_getElem? (i := 11) rfl)
theorem wd_13_12 : Cond.code yX3_urgency cX3_urgency 2 (some .int) ∈ wsL_law := bp_13 _ (List.mem_of_getElem? (i := 12) rfl)
theorem wd_13_13 : Cond.fieldLink RX3 68 "StarterBay$Motor" "need" "I" ∈ wsL_law := bp_13 _ (List.mem_of_getElem? (i := 13) rfl)
theorem wd_13_14 : Cond.methodLink RL 36 yX7_request ∈ wsL_law := bp_13 _ (List.mem_of_getElem? (i := 14) rfl)
theorem wd_13_15 : Cond.instanceMethod yX7_request ∈ wsL_law := bp_13 _ (List.mem_of_getElem? (i := 15) rfl)
theorem wd_13_16 : Cond.selects RX7 yX7_request yX7_request ∈ wsL_law := bp_13 _ (List.mem_of_getElem? (i := 16) rfl)
theorem wd_13_17 : Cond.code yX7_request cX7_request 3 (some .int) ∈ wsL_law := bp_13 _ (List.mem_of_getElem? (i := 17) rfl)
theorem wd_13_18 : Cond.methodLink RX7 111 yX7_orders ∈ wsL_law := bp_13 _ (List.mem_of_getElem? (i := 18) rfl)
theorem wd_13_19 : Cond.instanceMethod yX7_orders ∈ wsL_law := bp_13 _ (List.mem_of_getElem? (i := 19) rfl)
theorem wd_13_20 : Cond.selects RX7 yX7_orders yX7_orders ∈ wsL_law := bp_13 _ (List.mem_of_getElem? (i := 20) rfl)
theorem wd_13_21 : Cond.code yX7_orders cX7_orders 5 (some .int) ∈ wsL_law := bp_13 _ (List.mem_of_getElem? (i := 21) rfl)
theorem wd_13_22 : Cond.methodLink RX7 105 yX7_wrongIn ∈ wsL_law := bp_13 _ (List.mem_of_getElem? (i := 22) rfl)
theorem wd_13_23 : Cond.instanceMethod yX7_wrongIn ∈ wsL_law := bp_13 _ (List.mem_of_getElem? (i := 23) rfl)
theorem wd_14_0 : Cond.selects RX7 yX7_wrongIn yX7_wrongIn ∈ wsL_law := bp_14 _ (List.mem_of_getElem? (i := 0) rfl)
theorem wd_14_1 : Cond.code yX7_wrongIn cX7_wrongIn 5 (some .int) ∈ wsL_law := bp_14 _ (List.mem_of_getElem? (i := 1) rfl)
theorem wd_14_2 : Cond.methodLink RX7 108 yX7_carryOut ∈ wsL_law := bp_14 _ (List.mem_of_getElem? (i := 2) rfl)
theorem wd_14_3 : Cond.instanceMethod yX7_carryOut ∈ wsL_law := bp_14 _ (List.mem_of_getElem? (i := 3) rfl)
theorem wd_14_4 : Cond.selects RX7 yX7_carryOut yX7_carryOut ∈ wsL_law := bp_14 _ (List.mem_of_getElem? (i := 4) rfl)
theorem wd_14_5 : Cond.code yX7_carryOut cX7_carryOut 4 none ∈ wsL_law := bp_14 _ (List.mem_of_getElem? (i := 5) rfl)
theorem wd_14_6 : Cond.methodLink RX7 98 yX7_note ∈ wsL_law := bp_14 _ (List.mem_of_getElem? (i := 6) rfl)
theorem wd_14_7 : Cond.instanceMethod yX7_note ∈ wsL_law := bp_14 _ (List.mem_of_getElem? (i := 7) rfl)
theorem wd_14_8 : Cond.selects RX7 yX7_note yX7_note ∈ wsL_law := bp_14 _ (List.mem_of_getElem? (i := 8) rfl)
theorem wd_14_9 : Cond.code yX7_note cX7_note 4 none ∈ wsL_law := bp_14 _ (List.mem_of_getElem? (i := 9) rfl)
theorem wd_14_10 : Cond.methodLink RX7 102 yX7_trip ∈ wsL_law := bp_14 _ (List.mem_of_getElem? (i := 10) rfl)
theorem wd_14_11 : Cond.instanceMethod yX7_trip ∈ wsL_law := bp_14 _ (List.mem_of_getElem? (i := 11) rfl)
theorem wd_14_12 : Cond.selects RX7 yX7_trip yX7_trip ∈ wsL_law := bp_14 _ (List.mem_of_getElem? (i := 12) rfl)
theorem wd_14_13 : Cond.code yX7_trip cX7_trip 3 none ∈ wsL_law := bp_14 _ (List.mem_of_getElem? (i := 13) rfl)
theorem wd_14_14 : Cond.methodLink RX7 95 yX7_more ∈ wsL_law := bp_14 _ (List.mem_of_getElem? (i := 14) rfl)
theorem wd_14_15 : Cond.instanceMethod yX7_more ∈ wsL_law := bp_14 _ (List.mem_of_getElem? (i := 15) rfl)
theorem wd_14_16 : Cond.selects RX7 yX7_more yX7_more ∈ wsL_law := bp_14 _ (List.mem_of_getElem? (i := 16) rfl)
theorem wd_14_17 : Cond.code yX7_more cX7_more 4 none ∈ wsL_law := bp_14 _ (List.mem_of_getElem? (i := 17) rfl)
theorem wd_14_18 : Cond.methodLink RX7 77 yX7_placeOf ∈ wsL_law := bp_14 _ (List.mem_of_getElem? (i := 18) rfl)
theorem wd_14_19 : Cond.instanceMethod yX7_placeOf ∈ wsL_law := bp_14 _ (List.mem_of_getElem? (i := 19) rfl)
theorem wd_14_20 : Cond.selects RX7 yX7_placeOf yX7_placeOf ∈ wsL_law := bp_14 _ (List.mem_of_getElem? (i := 20) rfl)
theorem wd_14_21 : Cond.code yX7_placeOf cX7_placeOf 4 (some .int) ∈ wsL_law := bp_14 _ (List.mem_of_getElem? (i := 21) rfl)
theorem wd_14_22 : Cond.methodLink RX7 70 yX7_waits ∈ wsL_law := bp_14 _ (List.mem_of_getElem? (i := 22) rfl)
theorem wd_14_23 : Cond.instanceMethod yX7_waits ∈ wsL_law := bp_14 _ (List.mem_of_getElem? (i := 23) rfl)
theorem wd_15_0 : Cond.selects RX7 yX7_waits yX7_waits ∈ wsL_law := bp_15 _ (List.mem_of_getElem? (i := 0) rfl)
theorem wd_15_1 : Cond.code yX7_waits cX7_waits 2 (some .boolean) ∈ wsL_law := bp_15 _ (List.mem_of_getElem? (i := 1) rfl)
theorem wd_15_2 : Cond.methodLink RX7 73 yX7_isAhead ∈ wsL_law := bp_15 _ (List.mem_of_getElem? (i := 2) rfl)
theorem wd_15_3 : Cond.instanceMethod yX7_isAhead ∈ wsL_law := bp_15 _ (List.mem_of_getElem? (i := 3) rfl)
theorem wd_15_4 : Cond.selects RX7 yX7_isAhead yX7_isAhead ∈ wsL_law := bp_15 _ (List.mem_of_getElem? (i := 4) rfl)
theorem wd_15_5 : Cond.code yX7_isAhead cX7_isAhead 5 (some .boolean) ∈ wsL_law := bp_15 _ (List.mem_of_getElem? (i := 5) rfl)
theorem wd_15_6 : Cond.methodLink RX7 67 yX7_waitedOf ∈ wsL_law := bp_15 _ (List.mem_of_getElem? (i := 6) rfl)
theorem wd_15_7 : Cond.instanceMethod yX7_waitedOf ∈ wsL_law := bp_15 _ (List.mem_of_getElem? (i := 7) rfl)
theorem wd_15_8 : Cond.selects RX7 yX7_waitedOf yX7_waitedOf ∈ wsL_law := bp_15 _ (List.mem_of_getElem? (i := 8) rfl)
theorem wd_15_9 : Cond.code yX7_waitedOf cX7_waitedOf 2 (some .int) ∈ wsL_law := bp_15 _ (List.mem_of_getElem? (i := 9) rfl)
theorem wd_15_10 : Cond.methodLink RL 37 yX6_stop ∈ wsL_law := bp_15 _ (List.mem_of_getElem? (i := 10) rfl)
theorem wd_15_11 : Cond.instanceMethod yX6_stop ∈ wsL_law := bp_15 _ (List.mem_of_getElem? (i := 11) rfl)
theorem wd_15_12 : Cond.selects RX6 yX6_stop yX6_stop ∈ wsL_law := bp_15 _ (List.mem_of_getElem? (i := 12) rfl)
theorem wd_15_13 : Cond.code yX6_stop cX6_stop 2 (some .int) ∈ wsL_law := bp_15 _ (List.mem_of_getElem? (i := 13) rfl)
theorem wd_15_14 : Cond.methodLink RL 40 yX7_stop ∈ wsL_law := bp_15 _ (List.mem_of_getElem? (i := 14) rfl)
theorem wd_15_15 : Cond.instanceMethod yX7_stop ∈ wsL_law := bp_15 _ (List.mem_of_getElem? (i := 15) rfl)
theorem wd_15_16 : Cond.selects RX7 yX7_stop yX7_stop ∈ wsL_law := bp_15 _ (List.mem_of_getElem? (i := 16) rfl)
theorem wd_15_17 : Cond.code yX7_stop cX7_stop 4 (some .int) ∈ wsL_law := bp_15 _ (List.mem_of_getElem? (i := 17) rfl)
theorem wd_15_18 : Cond.methodLink RL 41 yX6_losePhases ∈ wsL_law := bp_15 _ (List.mem_of_getElem? (i := 18) rfl)
theorem wd_15_19 : Cond.instanceMethod yX6_losePhases ∈ wsL_law := bp_15 _ (List.mem_of_getElem? (i := 19) rfl)
theorem wd_15_20 : Cond.selects RX6 yX6_losePhases yX6_losePhases ∈ wsL_law := bp_15 _ (List.mem_of_getElem? (i := 20) rfl)
theorem wd_15_21 : Cond.code yX6_losePhases cX6_losePhases 3 (some .int) ∈ wsL_law := bp_15 _ (List.mem_of_getElem? (i := 21) rfl)
theorem wd_15_22 : Cond.methodLink RL 44 yX7_losePhases ∈ wsL_law := bp_15 _ (List.mem_of_getElem? (i := 22) rfl)
theorem wd_15_23 : Cond.instanceMethod yX7_losePhases ∈ wsL_law := bp_15 _ (List.mem_of_getElem? (i := 23) rfl)
theorem wd_16_0 : Cond.selects RX7 yX7_losePhases yX7_losePhases ∈ wsL_law := bp_16 _ (List.mem_of_getElem? (i := 0) rfl)
theorem wd_16_1 : Cond.code yX7_losePhases cX7_losePhases 5 (some .int) ∈ wsL_law := bp_16 _ (List.mem_of_getElem? (i := 1) rfl)
theorem wd_16_2 : Cond.methodLink RL 45 yX6_reset ∈ wsL_law := bp_16 _ (List.mem_of_getElem? (i := 2) rfl)
theorem wd_16_3 : Cond.instanceMethod yX6_reset ∈ wsL_law := bp_16 _ (List.mem_of_getElem? (i := 3) rfl)
theorem wd_16_4 : Cond.selects RX6 yX6_reset yX6_reset ∈ wsL_law := bp_16 _ (List.mem_of_getElem? (i := 4) rfl)
theorem wd_16_5 : Cond.code yX6_reset cX6_reset 2 (some .int) ∈ wsL_law := bp_16 _ (List.mem_of_getElem? (i := 5) rfl)
theorem wd_16_6 : Cond.methodLink RL 48 yX7_reset ∈ wsL_law := bp_16 _ (List.mem_of_getElem? (i := 6) rfl)
theorem wd_16_7 : Cond.instanceMethod yX7_reset ∈ wsL_law := bp_16 _ (List.mem_of_getElem? (i := 7) rfl)
theorem wd_16_8 : Cond.selects RX7 yX7_reset yX7_reset ∈ wsL_law := bp_16 _ (List.mem_of_getElem? (i := 8) rfl)
theorem wd_16_9 : Cond.code yX7_reset cX7_reset 3 (some .int) ∈ wsL_law := bp_16 _ (List.mem_of_getElem? (i := 9) rfl)
theorem wd_16_10 : Cond.methodLink RL 49 yX6_pass ∈ wsL_law := bp_16 _ (List.mem_of_getElem? (i := 10) rfl)
theorem wd_16_11 : Cond.instanceMethod yX6_pass ∈ wsL_law := bp_16 _ (List.mem_of_getElem? (i := 11) rfl)
theorem wd_16_12 : Cond.selects RX6 yX6_pass yX6_pass ∈ wsL_law := bp_16 _ (List.mem_of_getElem? (i := 12) rfl)
theorem wd_16_13 : Cond.code yX6_pass cX6_pass 4 (some .int) ∈ wsL_law := bp_16 _ (List.mem_of_getElem? (i := 13) rfl)
theorem wd_16_14 : Cond.methodLink RX6 88 yX6_carryOutDueItems ∈ wsL_law := bp_16 _ (List.mem_of_getElem? (i := 14) rfl)
theorem wd_16_15 : Cond.instanceMethod yX6_carryOutDueItems ∈ wsL_law := bp_16 _ (List.mem_of_getElem? (i := 15) rfl)
theorem wd_16_16 : Cond.selects RX6 yX6_carryOutDueItems yX6_carryOutDueItems ∈ wsL_law := bp_16 _ (List.mem_of_getElem? (i := 16) rfl)
theorem wd_16_17 : Cond.code yX6_carryOutDueItems cX6_carryOutDueItems 3 none ∈ wsL_law := bp_16 _ (List.mem_of_getElem? (i := 17) rfl)
theorem wd_16_18 : Cond.fieldLink RX6 115 "StarterBay$State" "timetable" "LStarterBay$Timetable;" ∈ wsL_law := bp_16 _ (List.mem_of_getElem? (i := 18) rfl)
theorem wd_16_19 : Cond.fieldLink RX6 266 "StarterBay$Timetable" "next" "I" ∈ wsL_law := bp_16 _ (List.mem_of_getElem? (i := 19) rfl)
theorem wd_16_20 : Cond.fieldLink RX6 269 "StarterBay$Timetable" "size" "I" ∈ wsL_law := bp_16 _ (List.mem_of_getElem? (i := 20) rfl)
theorem wd_16_21 : Cond.fieldLink RX6 270 "StarterBay$Timetable" "due" "[I" ∈ wsL_law := bp_16 _ (List.mem_of_getElem? (i := 21) rfl)
theorem wd_16_22 : Cond.fieldLink RX6 273 "StarterBay$Timetable" "order" "[I" ∈ wsL_law := bp_16 _ (List.mem_of_getElem? (i := 22) rfl)
theorem wd_16_23 : Cond.fieldLink RX6 276 "StarterBay$Timetable" "first" "[I" ∈ wsL_law := bp_16 _ (List.mem_of_getElem? (i := 23) rfl)
theorem wd_17_0 : Cond.fieldLink RX6 279 "StarterBay$Timetable" "second" "[I" ∈ wsL_law := bp_17 _ (List.mem_of_getElem? (i := 0) rfl)
theorem wd_17_1 : Cond.methodLink RX6 282 yX6_carryOutItem ∈ wsL_law := bp_17 _ (List.mem_of_getElem? (i := 1) rfl)
theorem wd_17_2 : Cond.instanceMethod yX6_carryOutItem ∈ wsL_law := bp_17 _ (List.mem_of_getElem? (i := 2) rfl)
theorem wd_17_3 : Cond.selects RX6 yX6_carryOutItem yX6_carryOutItem ∈ wsL_law := bp_17 _ (List.mem_of_getElem? (i := 3) rfl)
theorem wd_17_4 : Cond.code yX6_carryOutItem cX6_carryOutItem 5 none ∈ wsL_law := bp_17 _ (List.mem_of_getElem? (i := 4) rfl)
theorem wd_17_5 : Cond.fieldLink RX6 225 "StarterBay$State" "refusedItems" "I" ∈ wsL_law := bp_17 _ (List.mem_of_getElem? (i := 5) rfl)
theorem wd_17_6 : Cond.methodLink RX6 91 yX6_startFirstThatCan ∈ wsL_law := bp_17 _ (List.mem_of_getElem? (i := 6) rfl)
theorem wd_17_7 : Cond.instanceMethod yX6_startFirstThatCan ∈ wsL_law := bp_17 _ (List.mem_of_getElem? (i := 7) rfl)
theorem wd_17_8 : Cond.selects RX6 yX6_startFirstThatCan yX6_startFirstThatCan ∈ wsL_law := bp_17 _ (List.mem_of_getElem? (i := 8) rfl)
theorem wd_17_9 : Cond.code yX6_startFirstThatCan cX6_startFirstThatCan 4 (some .boolean) ∈ wsL_law := bp_17 _ (List.mem_of_getElem? (i := 9) rfl)
theorem wd_17_10 : Cond.fieldLink RX6 158 "StarterBay$Motor" "rampSeconds" "I" ∈ wsL_law := bp_17 _ (List.mem_of_getElem? (i := 10) rfl)
theorem wd_17_11 : Cond.fieldLink RX6 179 "StarterBay$Motor" "accounts" "[I" ∈ wsL_law := bp_17 _ (List.mem_of_getElem? (i := 11) rfl)
theorem wd_17_12 : Cond.methodLink RX6 185 yX3_reasonAgainst ∈ wsL_law := bp_17 _ (List.mem_of_getElem? (i := 12) rfl)
theorem wd_17_13 : Cond.instanceMethod yX3_reasonAgainst ∈ wsL_law := bp_17 _ (List.mem_of_getElem? (i := 13) rfl)
theorem wd_17_14 : Cond.selects RX3 yX3_reasonAgainst yX3_reasonAgainst ∈ wsL_law := bp_17 _ (List.mem_of_getElem? (i := 14) rfl)
theorem wd_17_15 : Cond.code yX3_reasonAgainst cX3_reasonAgainst 2 (some .int) ∈ wsL_law := bp_17 _ (List.mem_of_getElem? (i := 15) rfl)
theorem wd_17_16 : Cond.fieldLink RX3 78 "StarterBay$Motor" "lost" "I" ∈ wsL_law := bp_17 _ (List.mem_of_getElem? (i := 16) rfl)
theorem wd_17_17 : Cond.fieldLink RX3 85 "StarterBay$Motor" "heatToStart" "I" ∈ wsL_law := bp_17 _ (List.mem_of_getElem? (i := 17) rfl)
theorem wd_17_18 : Cond.methodLink RX3 81 yX2_credit ∈ wsL_law := bp_17 _ (List.mem_of_getElem? (i := 18) rfl)
theorem wd_17_19 : Cond.instanceMethod yX2_credit ∈ wsL_law := bp_17 _ (List.mem_of_getElem? (i := 19) rfl)
theorem wd_17_20 : Cond.selects RX2 yX2_credit yX2_credit ∈ wsL_law := bp_17 _ (List.mem_of_getElem? (i := 20) rfl)
theorem wd_17_21 : Cond.code yX2_credit cX2_credit 1 (some .int) ∈ wsL_law := bp_17 _ (List.mem_of_getElem? (i := 21) rfl)
theorem wd_17_22 : Cond.methodLink RX3 88 yX2_peak ∈ wsL_law := bp_17 _ (List.mem_of_getElem? (i := 22) rfl)
theorem wd_17_23 : Cond.instanceMethod yX2_peak ∈ wsL_law := bp_17 _ (List.mem_of_getElem? (i := 23) rfl)
theorem wd_18_0 : Cond.selects RX2 yX2_peak yX2_peak ∈ wsL_law := bp_18 _ (List.mem_of_getElem? (i := 0) rfl)
theorem wd_18_1 : Cond.code yX2_peak cX2_peak 1 (some .int) ∈ wsL_law := bp_18 _ (List.mem_of_getElem? (i := 1) rfl)
theorem wd_18_2 : Cond.methodLink RX3 91 yX3_takenCurrent ∈ wsL_law := bp_18 _ (List.mem_of_getElem? (i := 2) rfl)
theorem wd_18_3 : Cond.instanceMethod yX3_takenCurrent ∈ wsL_law := bp_18 _ (List.mem_of_getElem? (i := 3) rfl)
theorem wd_18_4 : Cond.selects RX3 yX3_takenCurrent yX3_takenCurrent ∈ wsL_law := bp_18 _ (List.mem_of_getElem? (i := 4) rfl)
theorem wd_18_5 : Cond.code yX3_takenCurrent cX3_takenCurrent 4 (some .int) ∈ wsL_law := bp_18 _ (List.mem_of_getElem? (i := 5) rfl)
theorem wd_18_6 : Cond.fieldLink RX3 94 "StarterBay$Motor" "mode" "I" ∈ wsL_law := bp_18 _ (List.mem_of_getElem? (i := 6) rfl)
theorem wd_18_7 : Cond.methodLink RX3 97 yX2_draw ∈ wsL_law := bp_18 _ (List.mem_of_getElem? (i := 7) rfl)
theorem wd_18_8 : Cond.instanceMethod yX2_draw ∈ wsL_law := bp_18 _ (List.mem_of_getElem? (i := 8) rfl)
theorem wd_18_9 : Cond.selects RX2 yX2_draw yX2_draw ∈ wsL_law := bp_18 _ (List.mem_of_getElem? (i := 9) rfl)
theorem wd_18_10 : Cond.code yX2_draw cX2_draw 1 (some .int) ∈ wsL_law := bp_18 _ (List.mem_of_getElem? (i := 10) rfl)
theorem wd_18_11 : Cond.methodLink RX2 68 yX2_peak ∈ wsL_law := bp_18 _ (List.mem_of_getElem? (i := 11) rfl)
theorem wd_18_12 : Cond.methodLink RX6 286 yX6_passOver ∈ wsL_law := bp_18 _ (List.mem_of_getElem? (i := 12) rfl)
theorem wd_18_13 : Cond.instanceMethod yX6_passOver ∈ wsL_law := bp_18 _ (List.mem_of_getElem? (i := 13) rfl)
theorem wd_18_14 : Cond.selects RX6 yX6_passOver yX6_passOver ∈ wsL_law := bp_18 _ (List.mem_of_getElem? (i := 14) rfl)
theorem wd_18_15 : Cond.code yX6_passOver cX6_passOver 3 none ∈ wsL_law := bp_18 _ (List.mem_of_getElem? (i := 15) rfl)
theorem wd_18_16 : Cond.methodLink RX6 95 yX6_heatMotors ∈ wsL_law := bp_18 _ (List.mem_of_getElem? (i := 16) rfl)
theorem wd_18_17 : Cond.instanceMethod yX6_heatMotors ∈ wsL_law := bp_18 _ (List.mem_of_getElem? (i := 17) rfl)
theorem wd_18_18 : Cond.selects RX6 yX6_heatMotors yX6_heatMotors ∈ wsL_law := bp_18 _ (List.mem_of_getElem? (i := 18) rfl)
theorem wd_18_19 : Cond.code yX6_heatMotors cX6_heatMotors 3 none ∈ wsL_law := bp_18 _ (List.mem_of_getElem? (i := 19) rfl)
theorem wd_18_20 : Cond.methodLink RX6 290 yX2_countSecond ∈ wsL_law := bp_18 _ (List.mem_of_getElem? (i := 20) rfl)
theorem wd_18_21 : Cond.instanceMethod yX2_countSecond ∈ wsL_law := bp_18 _ (List.mem_of_getElem? (i := 21) rfl)
theorem wd_18_22 : Cond.selects RX2 yX2_countSecond yX2_countSecond ∈ wsL_law := bp_18 _ (List.mem_of_getElem? (i := 22) rfl)
theorem wd_18_23 : Cond.code yX2_countSecond cX2_countSecond 1 none ∈ wsL_law := bp_18 _ (List.mem_of_getElem? (i := 23) rfl)
theorem wd_19_0 : Cond.methodLink RX2 76 yX2_turns ∈ wsL_law := bp_19 _ (List.mem_of_getElem? (i := 0) rfl)
theorem wd_19_1 : Cond.instanceMethod yX2_turns ∈ wsL_law := bp_19 _ (List.mem_of_getElem? (i := 1) rfl)
theorem wd_19_2 : Cond.selects RX2 yX2_turns yX2_turns ∈ wsL_law := bp_19 _ (List.mem_of_getElem? (i := 2) rfl)
theorem wd_19_3 : Cond.code yX2_turns cX2_turns 1 (some .boolean) ∈ wsL_law := bp_19 _ (List.mem_of_getElem? (i := 3) rfl)
theorem wd_19_4 : Cond.methodLink RX6 293 yX2_exchangeHeat ∈ wsL_law := bp_19 _ (List.mem_of_getElem? (i := 4) rfl)
theorem wd_19_5 : Cond.instanceMethod yX2_exchangeHeat ∈ wsL_law := bp_19 _ (List.mem_of_getElem? (i := 5) rfl)
theorem wd_19_6 : Cond.selects RX2 yX2_exchangeHeat yX2_exchangeHeat ∈ wsL_law := bp_19 _ (List.mem_of_getElem? (i := 6) rfl)
theorem wd_19_7 : Cond.code yX2_exchangeHeat cX2_exchangeHeat 4 none ∈ wsL_law := bp_19 _ (List.mem_of_getElem? (i := 7) rfl)
theorem wd_19_8 : Cond.methodLink RX2 80 yX2_draw ∈ wsL_law := bp_19 _ (List.mem_of_getElem? (i := 8) rfl)
theorem wd_19_9 : Cond.static yX6_givenOff ∈ wsL_law := bp_19 _ (List.mem_of_getElem? (i := 9) rfl)
theorem wd_19_10 : Cond.code yX6_givenOff cX6_givenOff 4 (some .int) ∈ wsL_law := bp_19 _ (List.mem_of_getElem? (i := 10) rfl)
theorem wd_19_11 : Cond.methodLink RX6 297 yX2_endSecond ∈ wsL_law := bp_19 _ (List.mem_of_getElem? (i := 11) rfl)
theorem wd_19_12 : Cond.instanceMethod yX2_endSecond ∈ wsL_law := bp_19 _ (List.mem_of_getElem? (i := 12) rfl)
theorem wd_19_13 : Cond.selects RX2 yX2_endSecond yX2_endSecond ∈ wsL_law := bp_19 _ (List.mem_of_getElem? (i := 13) rfl)
theorem wd_19_14 : Cond.code yX2_endSecond cX2_endSecond 1 (some .int) ∈ wsL_law := bp_19 _ (List.mem_of_getElem? (i := 14) rfl)
theorem wd_19_15 : Cond.methodLink RX2 91 yX2_trip ∈ wsL_law := bp_19 _ (List.mem_of_getElem? (i := 15) rfl)
theorem wd_19_16 : Cond.methodLink RL 52 yX7_pass ∈ wsL_law := bp_19 _ (List.mem_of_getElem? (i := 16) rfl)
theorem wd_19_17 : Cond.instanceMethod yX7_pass ∈ wsL_law := bp_19 _ (List.mem_of_getElem? (i := 17) rfl)
theorem wd_19_18 : Cond.selects RX7 yX7_pass yX7_pass ∈ wsL_law := bp_19 _ (List.mem_of_getElem? (i := 18) rfl)
theorem wd_19_19 : Cond.code yX7_pass cX7_pass 5 (some .int) ∈ wsL_law := bp_19 _ (List.mem_of_getElem? (i := 19) rfl)
theorem wd_19_20 : Cond.methodLink RX7 121 yX7_carryOutItems ∈ wsL_law := bp_19 _ (List.mem_of_getElem? (i := 20) rfl)
theorem wd_19_21 : Cond.instanceMethod yX7_carryOutItems ∈ wsL_law := bp_19 _ (List.mem_of_getElem? (i := 21) rfl)
theorem wd_19_22 : Cond.selects RX7 yX7_carryOutItems yX7_carryOutItems ∈ wsL_law := bp_19 _ (List.mem_of_getElem? (i := 22) rfl)
theorem wd_19_23 : Cond.code yX7_carryOutItems cX7_carryOutItems 5 none ∈ wsL_law := bp_19 _ (List.mem_of_getElem? (i := 23) rfl)
theorem wd_20_0 : Cond.methodLink RX7 124 yX7_startOne ∈ wsL_law := bp_20 _ (List.mem_of_getElem? (i := 0) rfl)
theorem wd_20_1 : Cond.instanceMethod yX7_startOne ∈ wsL_law := bp_20 _ (List.mem_of_getElem? (i := 1) rfl)
theorem wd_20_2 : Cond.selects RX7 yX7_startOne yX7_startOne ∈ wsL_law := bp_20 _ (List.mem_of_getElem? (i := 2) rfl)
theorem wd_20_3 : Cond.code yX7_startOne cX7_startOne 4 (some .int) ∈ wsL_law := bp_20 _ (List.mem_of_getElem? (i := 3) rfl)
theorem wd_20_4 : Cond.methodLink RX7 80 yX7_waitingAt ∈ wsL_law := bp_20 _ (List.mem_of_getElem? (i := 4) rfl)
theorem wd_20_5 : Cond.instanceMethod yX7_waitingAt ∈ wsL_law := bp_20 _ (List.mem_of_getElem? (i := 5) rfl)
theorem wd_20_6 : Cond.selects RX7 yX7_waitingAt yX7_waitingAt ∈ wsL_law := bp_20 _ (List.mem_of_getElem? (i := 6) rfl)
theorem wd_20_7 : Cond.code yX7_waitingAt cX7_waitingAt 3 (some .int) ∈ wsL_law := bp_20 _ (List.mem_of_getElem? (i := 7) rfl)
theorem wd_20_8 : Cond.methodLink RX7 92 yX7_against ∈ wsL_law := bp_20 _ (List.mem_of_getElem? (i := 8) rfl)
theorem wd_20_9 : Cond.instanceMethod yX7_against ∈ wsL_law := bp_20 _ (List.mem_of_getElem? (i := 9) rfl)
theorem wd_20_10 : Cond.selects RX7 yX7_against yX7_against ∈ wsL_law := bp_20 _ (List.mem_of_getElem? (i := 10) rfl)
theorem wd_20_11 : Cond.code yX7_against cX7_against 4 (some .int) ∈ wsL_law := bp_20 _ (List.mem_of_getElem? (i := 11) rfl)
theorem wd_20_12 : Cond.methodLink RX7 83 yX7_credit ∈ wsL_law := bp_20 _ (List.mem_of_getElem? (i := 12) rfl)
theorem wd_20_13 : Cond.instanceMethod yX7_credit ∈ wsL_law := bp_20 _ (List.mem_of_getElem? (i := 13) rfl)
theorem wd_20_14 : Cond.selects RX7 yX7_credit yX7_credit ∈ wsL_law := bp_20 _ (List.mem_of_getElem? (i := 14) rfl)
theorem wd_20_15 : Cond.code yX7_credit cX7_credit 2 (some .int) ∈ wsL_law := bp_20 _ (List.mem_of_getElem? (i := 15) rfl)
theorem wd_20_16 : Cond.methodLink RX7 86 yX7_needed ∈ wsL_law := bp_20 _ (List.mem_of_getElem? (i := 16) rfl)
theorem wd_20_17 : Cond.instanceMethod yX7_needed ∈ wsL_law := bp_20 _ (List.mem_of_getElem? (i := 17) rfl)
theorem wd_20_18 : Cond.selects RX7 yX7_needed yX7_needed ∈ wsL_law := bp_20 _ (List.mem_of_getElem? (i := 18) rfl)
theorem wd_20_19 : Cond.code yX7_needed cX7_needed 2 (some .int) ∈ wsL_law := bp_20 _ (List.mem_of_getElem? (i := 19) rfl)
theorem wd_20_20 : Cond.methodLink RX7 64 yX7_heatOfRamp ∈ wsL_law := bp_20 _ (List.mem_of_getElem? (i := 20) rfl)
theorem wd_20_21 : Cond.instanceMethod yX7_heatOfRamp ∈ wsL_law := bp_20 _ (List.mem_of_getElem? (i := 21) rfl)
theorem wd_20_22 : Cond.selects RX7 yX7_heatOfRamp yX7_heatOfRamp ∈ wsL_law := bp_20 _ (List.mem_of_getElem? (i := 22) rfl)
theorem wd_20_23 : Cond.code yX7_heatOfRamp cX7_heatOfRamp 6 (some .int) ∈ wsL_law := bp_20 _ (List.mem_of_getElem? (i := 23) rfl)
theorem wd_21_0 : Cond.methodLink RX7 57 yX7_peak ∈ wsL_law := bp_21 _ (List.mem_of_getElem? (i := 0) rfl)
theorem wd_21_1 : Cond.instanceMethod yX7_peak ∈ wsL_law := bp_21 _ (List.mem_of_getElem? (i := 1) rfl)
theorem wd_21_2 : Cond.selects RX7 yX7_peak yX7_peak ∈ wsL_law := bp_21 _ (List.mem_of_getElem? (i := 2) rfl)
theorem wd_21_3 : Cond.code yX7_peak cX7_peak 2 (some .int) ∈ wsL_law := bp_21 _ (List.mem_of_getElem? (i := 3) rfl)
theorem wd_21_4 : Cond.methodLink RX7 60 yX7_ramped ∈ wsL_law := bp_21 _ (List.mem_of_getElem? (i := 4) rfl)
theorem wd_21_5 : Cond.static yX7_ramped ∈ wsL_law := bp_21 _ (List.mem_of_getElem? (i := 5) rfl)
theorem wd_21_6 : Cond.code yX7_ramped cX7_ramped 3 (some .int) ∈ wsL_law := bp_21 _ (List.mem_of_getElem? (i := 6) rfl)
theorem wd_21_7 : Cond.methodLink RX7 89 yX7_draws ∈ wsL_law := bp_21 _ (List.mem_of_getElem? (i := 7) rfl)
theorem wd_21_8 : Cond.instanceMethod yX7_draws ∈ wsL_law := bp_21 _ (List.mem_of_getElem? (i := 8) rfl)
theorem wd_21_9 : Cond.selects RX7 yX7_draws yX7_draws ∈ wsL_law := bp_21 _ (List.mem_of_getElem? (i := 9) rfl)
theorem wd_21_10 : Cond.code yX7_draws cX7_draws 2 (some .int) ∈ wsL_law := bp_21 _ (List.mem_of_getElem? (i := 10) rfl)
theorem wd_21_11 : Cond.methodLink RX7 128 yX7_goesOn ∈ wsL_law := bp_21 _ (List.mem_of_getElem? (i := 11) rfl)
theorem wd_21_12 : Cond.instanceMethod yX7_goesOn ∈ wsL_law := bp_21 _ (List.mem_of_getElem? (i := 12) rfl)
theorem wd_21_13 : Cond.selects RX7 yX7_goesOn yX7_goesOn ∈ wsL_law := bp_21 _ (List.mem_of_getElem? (i := 13) rfl)
theorem wd_21_14 : Cond.code yX7_goesOn cX7_goesOn 7 none ∈ wsL_law := bp_21 _ (List.mem_of_getElem? (i := 14) rfl)
theorem wd_21_15 : Cond.methodLink RX7 114 yX7_turns ∈ wsL_law := bp_21 _ (List.mem_of_getElem? (i := 15) rfl)
theorem wd_21_16 : Cond.instanceMethod yX7_turns ∈ wsL_law := bp_21 _ (List.mem_of_getElem? (i := 16) rfl)
theorem wd_21_17 : Cond.selects RX7 yX7_turns yX7_turns ∈ wsL_law := bp_21 _ (List.mem_of_getElem? (i := 17) rfl)
theorem wd_21_18 : Cond.code yX7_turns cX7_turns 2 (some .boolean) ∈ wsL_law := bp_21 _ (List.mem_of_getElem? (i := 18) rfl)
theorem wd_21_19 : Cond.methodLink RX7 117 yX7_rate ∈ wsL_law := bp_21 _ (List.mem_of_getElem? (i := 19) rfl)
theorem wd_21_20 : Cond.instanceMethod yX7_rate ∈ wsL_law := bp_21 _ (List.mem_of_getElem? (i := 20) rfl)
theorem wd_21_21 : Cond.selects RX7 yX7_rate yX7_rate ∈ wsL_law := bp_21 _ (List.mem_of_getElem? (i := 21) rfl)
theorem wd_21_22 : Cond.code yX7_rate cX7_rate 2 (some .int) ∈ wsL_law := bp_21 _ (List.mem_of_getElem? (i := 22) rfl)
theorem wd_21_23 : Cond.methodLink RL 53 yX6_type ∈ wsL_law := bp_21 _ (List.mem_of_getElem? (i := 23) rfl)
theorem wd_22_0 : Cond.instanceMethod yX6_type ∈ wsL_law := bp_22 _ (List.mem_of_getElem? (i := 0) rfl)
theorem wd_22_1 : Cond.selects RX6 yX6_type yX6_type ∈ wsL_law := bp_22 _ (List.mem_of_getElem? (i := 1) rfl)
theorem wd_22_2 : Cond.code yX6_type cX6_type 2 (some .int) ∈ wsL_law := bp_22 _ (List.mem_of_getElem? (i := 2) rfl)
theorem wd_22_3 : Cond.fieldLink RX6 101 "StarterBay$TimetableText" "length" "I" ∈ wsL_law := bp_22 _ (List.mem_of_getElem? (i := 3) rfl)
theorem wd_22_4 : Cond.fieldLink RX6 104 "StarterBay$TimetableText" "characters" "[C" ∈ wsL_law := bp_22 _ (List.mem_of_getElem? (i := 4) rfl)
theorem wd_22_5 : Cond.methodLink RL 57 yX7_type ∈ wsL_law := bp_22 _ (List.mem_of_getElem? (i := 5) rfl)
theorem wd_22_6 : Cond.instanceMethod yX7_type ∈ wsL_law := bp_22 _ (List.mem_of_getElem? (i := 6) rfl)
theorem wd_22_7 : Cond.selects RX7 yX7_type yX7_type ∈ wsL_law := bp_22 _ (List.mem_of_getElem? (i := 7) rfl)
theorem wd_22_8 : Cond.code yX7_type cX7_type 2 (some .int) ∈ wsL_law := bp_22 _ (List.mem_of_getElem? (i := 8) rfl)
theorem wd_22_9 : Cond.fieldLink RX7 132 "StarterBayModel" "typed" "I" ∈ wsL_law := bp_22 _ (List.mem_of_getElem? (i := 9) rfl)
theorem wd_22_10 : Cond.methodLink RL 58 yX6_clearText ∈ wsL_law := bp_22 _ (List.mem_of_getElem? (i := 10) rfl)
theorem wd_22_11 : Cond.instanceMethod yX6_clearText ∈ wsL_law := bp_22 _ (List.mem_of_getElem? (i := 11) rfl)
theorem wd_22_12 : Cond.selects RX6 yX6_clearText yX6_clearText ∈ wsL_law := bp_22 _ (List.mem_of_getElem? (i := 12) rfl)
theorem wd_22_13 : Cond.code yX6_clearText cX6_clearText 2 (some .int) ∈ wsL_law := bp_22 _ (List.mem_of_getElem? (i := 13) rfl)
theorem wd_22_14 : Cond.methodLink RL 62 yX7_clearText ∈ wsL_law := bp_22 _ (List.mem_of_getElem? (i := 14) rfl)
theorem wd_22_15 : Cond.instanceMethod yX7_clearText ∈ wsL_law := bp_22 _ (List.mem_of_getElem? (i := 15) rfl)
theorem wd_22_16 : Cond.selects RX7 yX7_clearText yX7_clearText ∈ wsL_law := bp_22 _ (List.mem_of_getElem? (i := 16) rfl)
theorem wd_22_17 : Cond.code yX7_clearText cX7_clearText 2 (some .int) ∈ wsL_law := bp_22 _ (List.mem_of_getElem? (i := 17) rfl)
theorem wd_22_18 : Cond.methodLink RL 63 yX6_readTimetable ∈ wsL_law := bp_22 _ (List.mem_of_getElem? (i := 18) rfl)
theorem wd_22_19 : Cond.instanceMethod yX6_readTimetable ∈ wsL_law := bp_22 _ (List.mem_of_getElem? (i := 19) rfl)
theorem wd_22_20 : Cond.selects RX6 yX6_readTimetable yX6_readTimetable ∈ wsL_law := bp_22 _ (List.mem_of_getElem? (i := 20) rfl)
theorem wd_22_21 : Cond.code yX6_readTimetable cX6_readTimetable 1 (some .int) ∈ wsL_law := bp_22 _ (List.mem_of_getElem? (i := 21) rfl)
theorem wd_22_22 : Cond.fieldLink RX6 112 "StarterBay$TimetableText" "at" "I" ∈ wsL_law := bp_22 _ (List.mem_of_getElem? (i := 22) rfl)
theorem wd_22_23 : Cond.methodLink RX6 108 yX5_readInto ∈ wsL_law := bp_22 _ (List.mem_of_getElem? (i := 23) rfl)
theorem wd_23_0 : Cond.instanceMethod yX5_readInto ∈ wsL_law := bp_23 _ (List.mem_of_getElem? (i := 0) rfl)
theorem wd_23_1 : Cond.selects RX5 yX5_readInto yX5_readInto ∈ wsL_law := bp_23 _ (List.mem_of_getElem? (i := 1) rfl)
theorem wd_23_2 : Cond.code yX5_readInto cX5_readInto 4 (some .boolean) ∈ wsL_law := bp_23 _ (List.mem_of_getElem? (i := 2) rfl)
theorem wd_23_3 : Cond.fieldLink RX5 15 "StarterBay$TimetableText" "at" "I" ∈ wsL_law := bp_23 _ (List.mem_of_getElem? (i := 3) rfl)
theorem wd_23_4 : Cond.fieldLink RX5 19 "StarterBay$TimetableText" "time" "I" ∈ wsL_law := bp_23 _ (List.mem_of_getElem? (i := 4) rfl)
theorem wd_23_5 : Cond.fieldLink RX5 27 "StarterBay$TimetableText" "length" "I" ∈ wsL_law := bp_23 _ (List.mem_of_getElem? (i := 5) rfl)
theorem wd_23_6 : Cond.fieldLink RX5 34 "StarterBay$TimetableText" "order" "I" ∈ wsL_law := bp_23 _ (List.mem_of_getElem? (i := 6) rfl)
theorem wd_23_7 : Cond.fieldLink RX5 37 "StarterBay$TimetableText" "first" "I" ∈ wsL_law := bp_23 _ (List.mem_of_getElem? (i := 7) rfl)
theorem wd_23_8 : Cond.fieldLink RX5 40 "StarterBay$TimetableText" "second" "I" ∈ wsL_law := bp_23 _ (List.mem_of_getElem? (i := 8) rfl)
theorem wd_23_9 : Cond.methodLink RX5 22 yX4_empty ∈ wsL_law := bp_23 _ (List.mem_of_getElem? (i := 9) rfl)
theorem wd_23_10 : Cond.instanceMethod yX4_empty ∈ wsL_law := bp_23 _ (List.mem_of_getElem? (i := 10) rfl)
theorem wd_23_11 : Cond.selects RX4 yX4_empty yX4_empty ∈ wsL_law := bp_23 _ (List.mem_of_getElem? (i := 11) rfl)
theorem wd_23_12 : Cond.code yX4_empty cX4_empty 1 none ∈ wsL_law := bp_23 _ (List.mem_of_getElem? (i := 12) rfl)
theorem wd_23_13 : Cond.methodLink RX5 30 yX5_readItem ∈ wsL_law := bp_23 _ (List.mem_of_getElem? (i := 13) rfl)
theorem wd_23_14 : Cond.instanceMethod yX5_readItem ∈ wsL_law := bp_23 _ (List.mem_of_getElem? (i := 14) rfl)
theorem wd_23_15 : Cond.selects RX5 yX5_readItem yX5_readItem ∈ wsL_law := bp_23 _ (List.mem_of_getElem? (i := 15) rfl)
theorem wd_23_16 : Cond.code yX5_readItem cX5_readItem 1 (some .boolean) ∈ wsL_law := bp_23 _ (List.mem_of_getElem? (i := 16) rfl)
theorem wd_23_17 : Cond.methodLink RX5 47 yX5_readTime ∈ wsL_law := bp_23 _ (List.mem_of_getElem? (i := 17) rfl)
theorem wd_23_18 : Cond.instanceMethod yX5_readTime ∈ wsL_law := bp_23 _ (List.mem_of_getElem? (i := 18) rfl)
theorem wd_23_19 : Cond.selects RX5 yX5_readTime yX5_readTime ∈ wsL_law := bp_23 _ (List.mem_of_getElem? (i := 19) rfl)
theorem wd_23_20 : Cond.code yX5_readTime cX5_readTime 5 (some .boolean) ∈ wsL_law := bp_23 _ (List.mem_of_getElem? (i := 20) rfl)
theorem wd_23_21 : Cond.methodLink RX5 59 yX5_partEnd ∈ wsL_law := bp_23 _ (List.mem_of_getElem? (i := 21) rfl)
theorem wd_23_22 : Cond.instanceMethod yX5_partEnd ∈ wsL_law := bp_23 _ (List.mem_of_getElem? (i := 22) rfl)
theorem wd_23_23 : Cond.selects RX5 yX5_partEnd yX5_partEnd ∈ wsL_law := bp_23 _ (List.mem_of_getElem? (i := 23) rfl)
theorem wd_24_0 : Cond.code yX5_partEnd cX5_partEnd 2 (some .int) ∈ wsL_law := bp_24 _ (List.mem_of_getElem? (i := 0) rfl)
theorem wd_24_1 : Cond.methodLink RX5 50 yX5_readBlank ∈ wsL_law := bp_24 _ (List.mem_of_getElem? (i := 1) rfl)
theorem wd_24_2 : Cond.instanceMethod yX5_readBlank ∈ wsL_law := bp_24 _ (List.mem_of_getElem? (i := 2) rfl)
theorem wd_24_3 : Cond.selects RX5 yX5_readBlank yX5_readBlank ∈ wsL_law := bp_24 _ (List.mem_of_getElem? (i := 3) rfl)
theorem wd_24_4 : Cond.code yX5_readBlank cX5_readBlank 1 (some .boolean) ∈ wsL_law := bp_24 _ (List.mem_of_getElem? (i := 4) rfl)
theorem wd_24_5 : Cond.methodLink RX5 53 yX5_readOrder ∈ wsL_law := bp_24 _ (List.mem_of_getElem? (i := 5) rfl)
theorem wd_24_6 : Cond.instanceMethod yX5_readOrder ∈ wsL_law := bp_24 _ (List.mem_of_getElem? (i := 6) rfl)
theorem wd_24_7 : Cond.selects RX5 yX5_readOrder yX5_readOrder ∈ wsL_law := bp_24 _ (List.mem_of_getElem? (i := 7) rfl)
theorem wd_24_8 : Cond.code yX5_readOrder cX5_readOrder 3 (some .boolean) ∈ wsL_law := bp_24 _ (List.mem_of_getElem? (i := 8) rfl)
theorem wd_24_9 : Cond.methodLink RX5 67 yX5_wordOf ∈ wsL_law := bp_24 _ (List.mem_of_getElem? (i := 9) rfl)
theorem wd_24_10 : Cond.static yX5_wordOf ∈ wsL_law := bp_24 _ (List.mem_of_getElem? (i := 10) rfl)
theorem wd_24_11 : Cond.code yX5_wordOf cX5_wordOf 1 (some (.object "java/lang/String")) ∈ wsL_law := bp_24 _ (List.mem_of_getElem? (i := 11) rfl)
theorem wd_24_12 : Cond.methodLink RX5 71 yX5_isPart ∈ wsL_law := bp_24 _ (List.mem_of_getElem? (i := 12) rfl)
theorem wd_24_13 : Cond.instanceMethod yX5_isPart ∈ wsL_law := bp_24 _ (List.mem_of_getElem? (i := 13) rfl)
theorem wd_24_14 : Cond.selects RX5 yX5_isPart yX5_isPart ∈ wsL_law := bp_24 _ (List.mem_of_getElem? (i := 14) rfl)
theorem wd_24_15 : Cond.code yX5_isPart cX5_isPart 4 (some .boolean) ∈ wsL_law := bp_24 _ (List.mem_of_getElem? (i := 15) rfl)
theorem wd_24_16 : Cond.methodLink RX5 85 yJ0_length_8abf5 ∈ wsL_law := bp_24 _ (List.mem_of_getElem? (i := 16) rfl)
theorem wd_24_17 : Cond.instanceMethod yJ0_length_8abf5 ∈ wsL_law := bp_24 _ (List.mem_of_getElem? (i := 17) rfl)
theorem wd_24_18 : Cond.selects RJ0 yJ0_length_8abf5 yJ0_length_8abf5 ∈ wsL_law := bp_24 _ (List.mem_of_getElem? (i := 18) rfl)
theorem wd_24_19 : Cond.initialized RJ0 ∈ wsL_law := bp_24 _ (List.mem_of_getElem? (i := 19) rfl)
theorem wd_24_20 : Cond.code yJ0_length_8abf5 cJ0_length_8abf5 1 (some .int) ∈ wsL_law := bp_24 _ (List.mem_of_getElem? (i := 20) rfl)
theorem wd_24_21 : Cond.fieldLink RJ0 9 "java/lang/String" "value" "[B" ∈ wsL_law := bp_24 _ (List.mem_of_getElem? (i := 21) rfl)
theorem wd_24_22 : Cond.methodLink RJ0 335 yJ0_coder_7d493 ∈ wsL_law := bp_24 _ (List.mem_of_getElem? (i := 22) rfl)
theorem wd_24_23 : Cond.instanceMethod yJ0_coder_7d493 ∈ wsL_law := bp_24 _ (List.mem_of_getElem? (i := 23) rfl)
theorem wd_25_0 : Cond.selects RJ0 yJ0_coder_7d493 yJ0_coder_7d493 ∈ wsL_law := bp_25 _ (List.mem_of_getElem? (i := 0) rfl)
theorem wd_25_1 : Cond.code yJ0_coder_7d493 cJ0_coder_7d493 1 (some .byte) ∈ wsL_law := bp_25 _ (List.mem_of_getElem? (i := 1) rfl)
theorem wd_25_2 : Cond.fieldLink RJ0 38 "java/lang/String" "COMPACT_STRINGS" "Z" ∈ wsL_law := bp_25 _ (List.mem_of_getElem? (i := 2) rfl)
theorem wd_25_3 : Cond.fieldLink RJ0 15 "java/lang/String" "coder" "B" ∈ wsL_law := bp_25 _ (List.mem_of_getElem? (i := 3) rfl)
theorem wd_25_4 : Cond.methodLink RX5 89 yJ0_charAt_5068e ∈ wsL_law := bp_25 _ (List.mem_of_getElem? (i := 4) rfl)
theorem wd_25_5 : Cond.instanceMethod yJ0_charAt_5068e ∈ wsL_law := bp_25 _ (List.mem_of_getElem? (i := 5) rfl)
theorem wd_25_6 : Cond.selects RJ0 yJ0_charAt_5068e yJ0_charAt_5068e ∈ wsL_law := bp_25 _ (List.mem_of_getElem? (i := 6) rfl)
theorem wd_25_7 : Cond.code yJ0_charAt_5068e cJ0_charAt_5068e 2 (some .char) ∈ wsL_law := bp_25 _ (List.mem_of_getElem? (i := 7) rfl)
theorem wd_25_8 : Cond.methodLink RJ0 492 yJ0_isLatin1_aae02 ∈ wsL_law := bp_25 _ (List.mem_of_getElem? (i := 8) rfl)
theorem wd_25_9 : Cond.instanceMethod yJ0_isLatin1_aae02 ∈ wsL_law := bp_25 _ (List.mem_of_getElem? (i := 9) rfl)
theorem wd_25_10 : Cond.selects RJ0 yJ0_isLatin1_aae02 yJ0_isLatin1_aae02 ∈ wsL_law := bp_25 _ (List.mem_of_getElem? (i := 10) rfl)
theorem wd_25_11 : Cond.code yJ0_isLatin1_aae02 cJ0_isLatin1_aae02 1 (some .boolean) ∈ wsL_law := bp_25 _ (List.mem_of_getElem? (i := 11) rfl)
theorem wd_25_12 : Cond.methodLink RJ0 495 yJ1_charAt_3b067 ∈ wsL_law := bp_25 _ (List.mem_of_getElem? (i := 12) rfl)
theorem wd_25_13 : Cond.static yJ1_charAt_3b067 ∈ wsL_law := bp_25 _ (List.mem_of_getElem? (i := 13) rfl)
theorem wd_25_14 : Cond.initialized RJ1 ∈ wsL_law := bp_25 _ (List.mem_of_getElem? (i := 14) rfl)
theorem wd_25_15 : Cond.code yJ1_charAt_3b067 cJ1_charAt_3b067 2 (some .char) ∈ wsL_law := bp_25 _ (List.mem_of_getElem? (i := 15) rfl)
theorem wd_25_16 : Cond.methodLink RJ1 9 yJ0_checkIndex_df160 ∈ wsL_law := bp_25 _ (List.mem_of_getElem? (i := 16) rfl)
theorem wd_25_17 : Cond.static yJ0_checkIndex_df160 ∈ wsL_law := bp_25 _ (List.mem_of_getElem? (i := 17) rfl)
theorem wd_25_18 : Cond.code yJ0_checkIndex_df160 cJ0_checkIndex_df160 2 none ∈ wsL_law := bp_25 _ (List.mem_of_getElem? (i := 18) rfl)
theorem wd_25_19 : Cond.fieldLink RJ0 1053 "jdk/internal/util/Preconditions" "SIOOBE_FORMATTER" "Ljava/util/function/BiFunction;" ∈ wsL_law := bp_25 _ (List.mem_of_getElem? (i := 19) rfl)
theorem wd_25_20 : Cond.methodLink RJ0 1059 yJ3_checkIndex_8e157 ∈ wsL_law := bp_25 _ (List.mem_of_getElem? (i := 20) rfl)
theorem wd_25_21 : Cond.static yJ3_checkIndex_8e157 ∈ wsL_law := bp_25 _ (List.mem_of_getElem? (i := 21) rfl)
theorem wd_25_22 : Cond.initialized RJ3 ∈ wsL_law := bp_25 _ (List.mem_of_getElem? (i := 22) rfl)
theorem wd_25_23 : Cond.code yJ3_checkIndex_8e157 cJ3_checkIndex_8e157 3 (some .int) ∈ wsL_law := bp_25 _ (List.mem_of_getElem? (i := 23) rfl)
theorem wd_26_0 : Cond.methodLink RJ0 498 yJ2_charAt_3b067 ∈ wsL_law := bp_26 _ (List.mem_of_getElem? (i := 0) rfl)
theorem wd_26_1 : Cond.static yJ2_charAt_3b067 ∈ wsL_law := bp_26 _ (List.mem_of_getElem? (i := 1) rfl)
theorem wd_26_2 : Cond.initialized RJ2 ∈ wsL_law := bp_26 _ (List.mem_of_getElem? (i := 2) rfl)
theorem wd_26_3 : Cond.code yJ2_charAt_3b067 cJ2_charAt_3b067 2 (some .char) ∈ wsL_law := bp_26 _ (List.mem_of_getElem? (i := 3) rfl)
theorem wd_26_4 : Cond.methodLink RJ2 67 yJ2_checkIndex_2214a ∈ wsL_law := bp_26 _ (List.mem_of_getElem? (i := 4) rfl)
theorem wd_26_5 : Cond.static yJ2_checkIndex_2214a ∈ wsL_law := bp_26 _ (List.mem_of_getElem? (i := 5) rfl)
theorem wd_26_6 : Cond.code yJ2_checkIndex_2214a cJ2_checkIndex_2214a 2 none ∈ wsL_law := bp_26 _ (List.mem_of_getElem? (i := 6) rfl)
theorem wd_26_7 : Cond.methodLink RJ2 48 yJ2_length_9d52b ∈ wsL_law := bp_26 _ (List.mem_of_getElem? (i := 7) rfl)
theorem wd_26_8 : Cond.static yJ2_length_9d52b ∈ wsL_law := bp_26 _ (List.mem_of_getElem? (i := 8) rfl)
theorem wd_26_9 : Cond.code yJ2_length_9d52b cJ2_length_9d52b 1 (some .int) ∈ wsL_law := bp_26 _ (List.mem_of_getElem? (i := 9) rfl)
theorem wd_26_10 : Cond.methodLink RJ2 414 yJ0_checkIndex_df160 ∈ wsL_law := bp_26 _ (List.mem_of_getElem? (i := 10) rfl)
theorem wd_26_11 : Cond.methodLink RJ2 71 yJ2_getChar_3b067 ∈ wsL_law := bp_26 _ (List.mem_of_getElem? (i := 11) rfl)
theorem wd_26_12 : Cond.static yJ2_getChar_3b067 ∈ wsL_law := bp_26 _ (List.mem_of_getElem? (i := 12) rfl)
theorem wd_26_13 : Cond.code yJ2_getChar_3b067 cJ2_getChar_3b067 2 (some .char) ∈ wsL_law := bp_26 _ (List.mem_of_getElem? (i := 13) rfl)
theorem wd_26_14 : Cond.fieldLink RJ2 44 "java/lang/StringUTF16" "$assertionsDisabled" "Z" ∈ wsL_law := bp_26 _ (List.mem_of_getElem? (i := 14) rfl)
theorem wd_26_15 : Cond.fieldLink RJ2 59 "java/lang/StringUTF16" "HI_BYTE_SHIFT" "I" ∈ wsL_law := bp_26 _ (List.mem_of_getElem? (i := 15) rfl)
theorem wd_26_16 : Cond.fieldLink RJ2 63 "java/lang/StringUTF16" "LO_BYTE_SHIFT" "I" ∈ wsL_law := bp_26 _ (List.mem_of_getElem? (i := 16) rfl)
theorem wd_26_17 : Cond.methodLink RX5 56 yX5_readNumbers ∈ wsL_law := bp_26 _ (List.mem_of_getElem? (i := 17) rfl)
theorem wd_26_18 : Cond.instanceMethod yX5_readNumbers ∈ wsL_law := bp_26 _ (List.mem_of_getElem? (i := 18) rfl)
theorem wd_26_19 : Cond.selects RX5 yX5_readNumbers yX5_readNumbers ∈ wsL_law := bp_26 _ (List.mem_of_getElem? (i := 19) rfl)
theorem wd_26_20 : Cond.code yX5_readNumbers cX5_readNumbers 1 (some .boolean) ∈ wsL_law := bp_26 _ (List.mem_of_getElem? (i := 20) rfl)
theorem wd_26_21 : Cond.methodLink RX5 93 yX5_readDigit ∈ wsL_law := bp_26 _ (List.mem_of_getElem? (i := 21) rfl)
theorem wd_26_22 : Cond.instanceMethod yX5_readDigit ∈ wsL_law := bp_26 _ (List.mem_of_getElem? (i := 22) rfl)
theorem wd_26_23 : Cond.selects RX5 yX5_readDigit yX5_readDigit ∈ wsL_law := bp_26 _ (List.mem_of_getElem? (i := 23) rfl)
theorem wd_27_0 : Cond.code yX5_readDigit cX5_readDigit 4 (some .int) ∈ wsL_law := bp_27 _ (List.mem_of_getElem? (i := 0) rfl)
theorem wd_27_1 : Cond.methodLink RX5 43 yX4_add ∈ wsL_law := bp_27 _ (List.mem_of_getElem? (i := 1) rfl)
theorem wd_27_2 : Cond.instanceMethod yX4_add ∈ wsL_law := bp_27 _ (List.mem_of_getElem? (i := 2) rfl)
theorem wd_27_3 : Cond.selects RX4 yX4_add yX4_add ∈ wsL_law := bp_27 _ (List.mem_of_getElem? (i := 3) rfl)
theorem wd_27_4 : Cond.code yX4_add cX4_add 5 none ∈ wsL_law := bp_27 _ (List.mem_of_getElem? (i := 4) rfl)
theorem wd_27_5 : Cond.methodLink RX6 118 yX4_copyFrom ∈ wsL_law := bp_27 _ (List.mem_of_getElem? (i := 5) rfl)
theorem wd_27_6 : Cond.methodLink RX6 122 yX4_left ∈ wsL_law := bp_27 _ (List.mem_of_getElem? (i := 6) rfl)
theorem wd_27_7 : Cond.instanceMethod yX4_left ∈ wsL_law := bp_27 _ (List.mem_of_getElem? (i := 7) rfl)
theorem wd_27_8 : Cond.selects RX4 yX4_left yX4_left ∈ wsL_law := bp_27 _ (List.mem_of_getElem? (i := 8) rfl)
theorem wd_27_9 : Cond.code yX4_left cX4_left 1 (some .int) ∈ wsL_law := bp_27 _ (List.mem_of_getElem? (i := 9) rfl)
theorem wd_27_10 : Cond.methodLink RL 66 yX7_readTimetable ∈ wsL_law := bp_27 _ (List.mem_of_getElem? (i := 10) rfl)
theorem wd_27_11 : Cond.instanceMethod yX7_readTimetable ∈ wsL_law := bp_27 _ (List.mem_of_getElem? (i := 11) rfl)
theorem wd_27_12 : Cond.selects RX7 yX7_readTimetable yX7_readTimetable ∈ wsL_law := bp_27 _ (List.mem_of_getElem? (i := 12) rfl)
theorem wd_27_13 : Cond.code yX7_readTimetable cX7_readTimetable 3 (some .int) ∈ wsL_law := bp_27 _ (List.mem_of_getElem? (i := 13) rfl)
theorem wd_27_14 : Cond.fieldLink RX7 135 "StarterBayModel" "at" "I" ∈ wsL_law := bp_27 _ (List.mem_of_getElem? (i := 14) rfl)
theorem wd_27_15 : Cond.fieldLink RX7 142 "StarterBayModel" "readMany" "I" ∈ wsL_law := bp_27 _ (List.mem_of_getElem? (i := 15) rfl)
theorem wd_27_16 : Cond.methodLink RX7 161 yX7_readsItem ∈ wsL_law := bp_27 _ (List.mem_of_getElem? (i := 16) rfl)
theorem wd_27_17 : Cond.instanceMethod yX7_readsItem ∈ wsL_law := bp_27 _ (List.mem_of_getElem? (i := 17) rfl)
theorem wd_27_18 : Cond.selects RX7 yX7_readsItem yX7_readsItem ∈ wsL_law := bp_27 _ (List.mem_of_getElem? (i := 18) rfl)
theorem wd_27_19 : Cond.code yX7_readsItem cX7_readsItem 3 (some .boolean) ∈ wsL_law := bp_27 _ (List.mem_of_getElem? (i := 19) rfl)
theorem wd_27_20 : Cond.methodLink RX7 145 yX7_end ∈ wsL_law := bp_27 _ (List.mem_of_getElem? (i := 20) rfl)
theorem wd_27_21 : Cond.instanceMethod yX7_end ∈ wsL_law := bp_27 _ (List.mem_of_getElem? (i := 21) rfl)
theorem wd_27_22 : Cond.selects RX7 yX7_end yX7_end ∈ wsL_law := bp_27 _ (List.mem_of_getElem? (i := 22) rfl)
theorem wd_27_23 : Cond.code yX7_end cX7_end 2 (some .int) ∈ wsL_law := bp_27 _ (List.mem_of_getElem? (i := 23) rfl)
theorem wd_28_0 : Cond.methodLink RX7 148 yX7_timeAt ∈ wsL_law := bp_28 _ (List.mem_of_getElem? (i := 0) rfl)
theorem wd_28_1 : Cond.instanceMethod yX7_timeAt ∈ wsL_law := bp_28 _ (List.mem_of_getElem? (i := 1) rfl)
theorem wd_28_2 : Cond.selects RX7 yX7_timeAt yX7_timeAt ∈ wsL_law := bp_28 _ (List.mem_of_getElem? (i := 2) rfl)
theorem wd_28_3 : Cond.code yX7_timeAt cX7_timeAt 6 (some .int) ∈ wsL_law := bp_28 _ (List.mem_of_getElem? (i := 3) rfl)
theorem wd_28_4 : Cond.methodLink RX7 151 yX7_takesBlank ∈ wsL_law := bp_28 _ (List.mem_of_getElem? (i := 4) rfl)
theorem wd_28_5 : Cond.instanceMethod yX7_takesBlank ∈ wsL_law := bp_28 _ (List.mem_of_getElem? (i := 5) rfl)
theorem wd_28_6 : Cond.selects RX7 yX7_takesBlank yX7_takesBlank ∈ wsL_law := bp_28 _ (List.mem_of_getElem? (i := 6) rfl)
theorem wd_28_7 : Cond.code yX7_takesBlank cX7_takesBlank 1 (some .boolean) ∈ wsL_law := bp_28 _ (List.mem_of_getElem? (i := 7) rfl)
theorem wd_28_8 : Cond.methodLink RX7 155 yX7_wordAt ∈ wsL_law := bp_28 _ (List.mem_of_getElem? (i := 8) rfl)
theorem wd_28_9 : Cond.instanceMethod yX7_wordAt ∈ wsL_law := bp_28 _ (List.mem_of_getElem? (i := 9) rfl)
theorem wd_28_10 : Cond.selects RX7 yX7_wordAt yX7_wordAt ∈ wsL_law := bp_28 _ (List.mem_of_getElem? (i := 10) rfl)
theorem wd_28_11 : Cond.code yX7_wordAt cX7_wordAt 2 (some .int) ∈ wsL_law := bp_28 _ (List.mem_of_getElem? (i := 11) rfl)
theorem wd_28_12 : Cond.methodLink RX7 138 yX7_isWord ∈ wsL_law := bp_28 _ (List.mem_of_getElem? (i := 12) rfl)
theorem wd_28_13 : Cond.instanceMethod yX7_isWord ∈ wsL_law := bp_28 _ (List.mem_of_getElem? (i := 13) rfl)
theorem wd_28_14 : Cond.selects RX7 yX7_isWord yX7_isWord ∈ wsL_law := bp_28 _ (List.mem_of_getElem? (i := 14) rfl)
theorem wd_28_15 : Cond.code yX7_isWord cX7_isWord 8 (some .boolean) ∈ wsL_law := bp_28 _ (List.mem_of_getElem? (i := 15) rfl)
theorem wd_28_16 : Cond.methodLink RX7 158 yX7_digitAt ∈ wsL_law := bp_28 _ (List.mem_of_getElem? (i := 16) rfl)
theorem wd_28_17 : Cond.instanceMethod yX7_digitAt ∈ wsL_law := bp_28 _ (List.mem_of_getElem? (i := 17) rfl)
theorem wd_28_18 : Cond.selects RX7 yX7_digitAt yX7_digitAt ∈ wsL_law := bp_28 _ (List.mem_of_getElem? (i := 18) rfl)
theorem wd_28_19 : Cond.code yX7_digitAt cX7_digitAt 3 (some .int) ∈ wsL_law := bp_28 _ (List.mem_of_getElem? (i := 19) rfl)
theorem wd_28_20 : Cond.methodLink RL 67 yX6_undo ∈ wsL_law := bp_28 _ (List.mem_of_getElem? (i := 20) rfl)
theorem wd_28_21 : Cond.instanceMethod yX6_undo ∈ wsL_law := bp_28 _ (List.mem_of_getElem? (i := 21) rfl)
theorem wd_28_22 : Cond.selects RX6 yX6_undo yX6_undo ∈ wsL_law := bp_28 _ (List.mem_of_getElem? (i := 22) rfl)
theorem wd_28_23 : Cond.code yX6_undo cX6_undo 1 (some .int) ∈ wsL_law := bp_28 _ (List.mem_of_getElem? (i := 23) rfl)
theorem wd_29_0 : Cond.fieldLink RX6 130 "StarterBay$History" "size" "I" ∈ wsL_law := bp_29 _ (List.mem_of_getElem? (i := 0) rfl)
theorem wd_29_1 : Cond.methodLink RX6 126 yX1_takeBack ∈ wsL_law := bp_29 _ (List.mem_of_getElem? (i := 1) rfl)
theorem wd_29_2 : Cond.instanceMethod yX1_takeBack ∈ wsL_law := bp_29 _ (List.mem_of_getElem? (i := 2) rfl)
theorem wd_29_3 : Cond.selects RX1 yX1_takeBack yX1_takeBack ∈ wsL_law := bp_29 _ (List.mem_of_getElem? (i := 3) rfl)
theorem wd_29_4 : Cond.code yX1_takeBack cX1_takeBack 2 (some .boolean) ∈ wsL_law := bp_29 _ (List.mem_of_getElem? (i := 4) rfl)
theorem wd_29_5 : Cond.methodLink RL 70 yX7_undo ∈ wsL_law := bp_29 _ (List.mem_of_getElem? (i := 5) rfl)
theorem wd_29_6 : Cond.instanceMethod yX7_undo ∈ wsL_law := bp_29 _ (List.mem_of_getElem? (i := 6) rfl)
theorem wd_29_7 : Cond.selects RX7 yX7_undo yX7_undo ∈ wsL_law := bp_29 _ (List.mem_of_getElem? (i := 7) rfl)
theorem wd_29_8 : Cond.code yX7_undo cX7_undo 2 (some .int) ∈ wsL_law := bp_29 _ (List.mem_of_getElem? (i := 8) rfl)
theorem wd_29_9 : Cond.methodLink RL 71 yX6_keep ∈ wsL_law := bp_29 _ (List.mem_of_getElem? (i := 9) rfl)
theorem wd_29_10 : Cond.instanceMethod yX6_keep ∈ wsL_law := bp_29 _ (List.mem_of_getElem? (i := 10) rfl)
theorem wd_29_11 : Cond.selects RX6 yX6_keep yX6_keep ∈ wsL_law := bp_29 _ (List.mem_of_getElem? (i := 11) rfl)
theorem wd_29_12 : Cond.code yX6_keep cX6_keep 1 (some .int) ∈ wsL_law := bp_29 _ (List.mem_of_getElem? (i := 12) rfl)
theorem wd_29_13 : Cond.fieldLink RX6 135 "StarterBay" "hasSnapshot" "Z" ∈ wsL_law := bp_29 _ (List.mem_of_getElem? (i := 13) rfl)
theorem wd_29_14 : Cond.methodLink RX6 133 yX3_copyFrom ∈ wsL_law := bp_29 _ (List.mem_of_getElem? (i := 14) rfl)
theorem wd_29_15 : Cond.methodLink RL 74 yX7_keep ∈ wsL_law := bp_29 _ (List.mem_of_getElem? (i := 15) rfl)
theorem wd_29_16 : Cond.instanceMethod yX7_keep ∈ wsL_law := bp_29 _ (List.mem_of_getElem? (i := 16) rfl)
theorem wd_29_17 : Cond.selects RX7 yX7_keep yX7_keep ∈ wsL_law := bp_29 _ (List.mem_of_getElem? (i := 17) rfl)
theorem wd_29_18 : Cond.code yX7_keep cX7_keep 2 (some .int) ∈ wsL_law := bp_29 _ (List.mem_of_getElem? (i := 18) rfl)
theorem wd_29_19 : Cond.fieldLink RX7 164 "StarterBayModel" "isFilled" "Z" ∈ wsL_law := bp_29 _ (List.mem_of_getElem? (i := 19) rfl)
theorem wd_29_20 : Cond.methodLink RL 75 yX6_restore ∈ wsL_law := bp_29 _ (List.mem_of_getElem? (i := 20) rfl)
theorem wd_29_21 : Cond.instanceMethod yX6_restore ∈ wsL_law := bp_29 _ (List.mem_of_getElem? (i := 21) rfl)
theorem wd_29_22 : Cond.selects RX6 yX6_restore yX6_restore ∈ wsL_law := bp_29 _ (List.mem_of_getElem? (i := 22) rfl)
theorem wd_29_23 : Cond.code yX6_restore cX6_restore 1 (some .int) ∈ wsL_law := bp_29 _ (List.mem_of_getElem? (i := 23) rfl)
theorem wd_30_0 : Cond.methodLink RL 78 yX7_restore ∈ wsL_law := bp_30 _ (List.mem_of_getElem? (i := 0) rfl)
theorem wd_30_1 : Cond.instanceMethod yX7_restore ∈ wsL_law := bp_30 _ (List.mem_of_getElem? (i := 1) rfl)
theorem wd_30_2 : Cond.selects RX7 yX7_restore yX7_restore ∈ wsL_law := bp_30 _ (List.mem_of_getElem? (i := 2) rfl)
theorem wd_30_3 : Cond.code yX7_restore cX7_restore 2 (some .int) ∈ wsL_law := bp_30 _ (List.mem_of_getElem? (i := 3) rfl)
theorem wd_30_4 : Cond.methodLink RL 79 yX6_motor ∈ wsL_law := bp_30 _ (List.mem_of_getElem? (i := 4) rfl)
theorem wd_30_5 : Cond.instanceMethod yX6_motor ∈ wsL_law := bp_30 _ (List.mem_of_getElem? (i := 5) rfl)
theorem wd_30_6 : Cond.selects RX6 yX6_motor yX6_motor ∈ wsL_law := bp_30 _ (List.mem_of_getElem? (i := 6) rfl)
theorem wd_30_7 : Cond.code yX6_motor cX6_motor 4 (some .int) ∈ wsL_law := bp_30 _ (List.mem_of_getElem? (i := 7) rfl)
theorem wd_30_8 : Cond.fieldLink RX6 139 "StarterBay$Motor" "rated" "I" ∈ wsL_law := bp_30 _ (List.mem_of_getElem? (i := 8) rfl)
theorem wd_30_9 : Cond.fieldLink RX6 142 "StarterBay$Motor" "ramp" "I" ∈ wsL_law := bp_30 _ (List.mem_of_getElem? (i := 9) rfl)
theorem wd_30_10 : Cond.fieldLink RX6 145 "StarterBay$Motor" "factor" "I" ∈ wsL_law := bp_30 _ (List.mem_of_getElem? (i := 10) rfl)
theorem wd_30_11 : Cond.fieldLink RX6 167 "StarterBay$Motor" "tripReason" "I" ∈ wsL_law := bp_30 _ (List.mem_of_getElem? (i := 11) rfl)
theorem wd_30_12 : Cond.methodLink RX6 173 Lib.Math.max.name ∈ wsL_law := bp_30 _ (List.mem_of_getElem? (i := 12) rfl)
theorem wd_30_13 : Cond.static Lib.Math.max.name ∈ wsL_law := bp_30 _ (List.mem_of_getElem? (i := 13) rfl)
theorem wd_30_14 : Cond.initialized "java/lang/Math" ∈ wsL_law := bp_30 _ (List.mem_of_getElem? (i := 14) rfl)
theorem wd_30_15 : Cond.code Lib.Math.max.name Lib.Math.max.code 2 (some .int) ∈ wsL_law := bp_30 _ (List.mem_of_getElem? (i := 15) rfl)
theorem wd_30_16 : Cond.methodLink RX6 164 yX2_draw ∈ wsL_law := bp_30 _ (List.mem_of_getElem? (i := 16) rfl)
theorem wd_30_17 : Cond.methodLink RX6 170 yX2_credit ∈ wsL_law := bp_30 _ (List.mem_of_getElem? (i := 17) rfl)
theorem wd_30_18 : Cond.methodLink RL 82 yX7_motor ∈ wsL_law := bp_30 _ (List.mem_of_getElem? (i := 18) rfl)
theorem wd_30_19 : Cond.instanceMethod yX7_motor ∈ wsL_law := bp_30 _ (List.mem_of_getElem? (i := 19) rfl)
theorem wd_30_20 : Cond.selects RX7 yX7_motor yX7_motor ∈ wsL_law := bp_30 _ (List.mem_of_getElem? (i := 20) rfl)
theorem wd_30_21 : Cond.code yX7_motor cX7_motor 4 (some .int) ∈ wsL_law := bp_30 _ (List.mem_of_getElem? (i := 21) rfl)
theorem wd_30_22 : Cond.methodLink RL 83 yX6_account ∈ wsL_law := bp_30 _ (List.mem_of_getElem? (i := 22) rfl)
theorem wd_30_23 : Cond.instanceMethod yX6_account ∈ wsL_law := bp_30 _ (List.mem_of_getElem? (i := 23) rfl)
theorem wd_31_0 : Cond.selects RX6 yX6_account yX6_account ∈ wsL_law := bp_31 _ (List.mem_of_getElem? (i := 0) rfl)
theorem wd_31_1 : Cond.code yX6_account cX6_account 4 (some .int) ∈ wsL_law := bp_31 _ (List.mem_of_getElem? (i := 1) rfl)
theorem wd_31_2 : Cond.methodLink RL 86 yX7_account ∈ wsL_law := bp_31 _ (List.mem_of_getElem? (i := 2) rfl)
theorem wd_31_3 : Cond.instanceMethod yX7_account ∈ wsL_law := bp_31 _ (List.mem_of_getElem? (i := 3) rfl)
theorem wd_31_4 : Cond.selects RX7 yX7_account yX7_account ∈ wsL_law := bp_31 _ (List.mem_of_getElem? (i := 4) rfl)
theorem wd_31_5 : Cond.code yX7_account cX7_account 3 (some .int) ∈ wsL_law := bp_31 _ (List.mem_of_getElem? (i := 5) rfl)
theorem wd_31_6 : Cond.methodLink RL 87 yX6_queue ∈ wsL_law := bp_31 _ (List.mem_of_getElem? (i := 6) rfl)
theorem wd_31_7 : Cond.instanceMethod yX6_queue ∈ wsL_law := bp_31 _ (List.mem_of_getElem? (i := 7) rfl)
theorem wd_31_8 : Cond.selects RX6 yX6_queue yX6_queue ∈ wsL_law := bp_31 _ (List.mem_of_getElem? (i := 8) rfl)
theorem wd_31_9 : Cond.code yX6_queue cX6_queue 3 (some .int) ∈ wsL_law := bp_31 _ (List.mem_of_getElem? (i := 9) rfl)
theorem wd_31_10 : Cond.methodLink RL 90 yX7_queue ∈ wsL_law := bp_31 _ (List.mem_of_getElem? (i := 10) rfl)
theorem wd_31_11 : Cond.instanceMethod yX7_queue ∈ wsL_law := bp_31 _ (List.mem_of_getElem? (i := 11) rfl)
theorem wd_31_12 : Cond.selects RX7 yX7_queue yX7_queue ∈ wsL_law := bp_31 _ (List.mem_of_getElem? (i := 12) rfl)
theorem wd_31_13 : Cond.code yX7_queue cX7_queue 2 (some .int) ∈ wsL_law := bp_31 _ (List.mem_of_getElem? (i := 13) rfl)
theorem wd_31_14 : Cond.methodLink RL 91 yX6_whyNot ∈ wsL_law := bp_31 _ (List.mem_of_getElem? (i := 14) rfl)
theorem wd_31_15 : Cond.instanceMethod yX6_whyNot ∈ wsL_law := bp_31 _ (List.mem_of_getElem? (i := 15) rfl)
theorem wd_31_16 : Cond.selects RX6 yX6_whyNot yX6_whyNot ∈ wsL_law := bp_31 _ (List.mem_of_getElem? (i := 16) rfl)
theorem wd_31_17 : Cond.code yX6_whyNot cX6_whyNot 3 (some .int) ∈ wsL_law := bp_31 _ (List.mem_of_getElem? (i := 17) rfl)
theorem wd_31_18 : Cond.methodLink RL 94 yX7_whyNot ∈ wsL_law := bp_31 _ (List.mem_of_getElem? (i := 18) rfl)
theorem wd_31_19 : Cond.instanceMethod yX7_whyNot ∈ wsL_law := bp_31 _ (List.mem_of_getElem? (i := 19) rfl)
theorem wd_31_20 : Cond.selects RX7 yX7_whyNot yX7_whyNot ∈ wsL_law := bp_31 _ (List.mem_of_getElem? (i := 20) rfl)
theorem wd_31_21 : Cond.code yX7_whyNot cX7_whyNot 2 (some .int) ∈ wsL_law := bp_31 _ (List.mem_of_getElem? (i := 21) rfl)
theorem wd_31_22 : Cond.methodLink RL 95 yX6_event ∈ wsL_law := bp_31 _ (List.mem_of_getElem? (i := 22) rfl)
theorem wd_31_23 : Cond.instanceMethod yX6_event ∈ wsL_law := bp_31 _ (List.mem_of_getElem? (i := 23) rfl)
theorem wd_32_0 : Cond.selects RX6 yX6_event yX6_event ∈ wsL_law := bp_32 _ (List.mem_of_getElem? (i := 0) rfl)
theorem wd_32_1 : Cond.code yX6_event cX6_event 3 (some .int) ∈ wsL_law := bp_32 _ (List.mem_of_getElem? (i := 1) rfl)
theorem wd_32_2 : Cond.fieldLink RX6 189 "StarterBay$State" "events" "LStarterBay$EventLog;" ∈ wsL_law := bp_32 _ (List.mem_of_getElem? (i := 2) rfl)
theorem wd_32_3 : Cond.methodLink RX6 193 yX0_tell ∈ wsL_law := bp_32 _ (List.mem_of_getElem? (i := 3) rfl)
theorem wd_32_4 : Cond.instanceMethod yX0_tell ∈ wsL_law := bp_32 _ (List.mem_of_getElem? (i := 4) rfl)
theorem wd_32_5 : Cond.selects RX0 yX0_tell yX0_tell ∈ wsL_law := bp_32 _ (List.mem_of_getElem? (i := 5) rfl)
theorem wd_32_6 : Cond.code yX0_tell cX0_tell 4 (some .int) ∈ wsL_law := bp_32 _ (List.mem_of_getElem? (i := 6) rfl)
theorem wd_32_7 : Cond.methodLink RX0 37 Lib.Math.min.name ∈ wsL_law := bp_32 _ (List.mem_of_getElem? (i := 7) rfl)
theorem wd_32_8 : Cond.static Lib.Math.min.name ∈ wsL_law := bp_32 _ (List.mem_of_getElem? (i := 8) rfl)
theorem wd_32_9 : Cond.code Lib.Math.min.name Lib.Math.min.code 2 (some .int) ∈ wsL_law := bp_32 _ (List.mem_of_getElem? (i := 9) rfl)
theorem wd_32_10 : Cond.methodLink RL 98 yX7_event ∈ wsL_law := bp_32 _ (List.mem_of_getElem? (i := 10) rfl)
theorem wd_32_11 : Cond.instanceMethod yX7_event ∈ wsL_law := bp_32 _ (List.mem_of_getElem? (i := 11) rfl)
theorem wd_32_12 : Cond.selects RX7 yX7_event yX7_event ∈ wsL_law := bp_32 _ (List.mem_of_getElem? (i := 12) rfl)
theorem wd_32_13 : Cond.code yX7_event cX7_event 3 (some .int) ∈ wsL_law := bp_32 _ (List.mem_of_getElem? (i := 13) rfl)
theorem wd_32_14 : Cond.methodLink RL 99 yX6_item ∈ wsL_law := bp_32 _ (List.mem_of_getElem? (i := 14) rfl)
theorem wd_32_15 : Cond.instanceMethod yX6_item ∈ wsL_law := bp_32 _ (List.mem_of_getElem? (i := 15) rfl)
theorem wd_32_16 : Cond.selects RX6 yX6_item yX6_item ∈ wsL_law := bp_32 _ (List.mem_of_getElem? (i := 16) rfl)
theorem wd_32_17 : Cond.code yX6_item cX6_item 3 (some .int) ∈ wsL_law := bp_32 _ (List.mem_of_getElem? (i := 17) rfl)
theorem wd_32_18 : Cond.methodLink RX6 198 yX4_tell ∈ wsL_law := bp_32 _ (List.mem_of_getElem? (i := 18) rfl)
theorem wd_32_19 : Cond.instanceMethod yX4_tell ∈ wsL_law := bp_32 _ (List.mem_of_getElem? (i := 19) rfl)
theorem wd_32_20 : Cond.selects RX4 yX4_tell yX4_tell ∈ wsL_law := bp_32 _ (List.mem_of_getElem? (i := 20) rfl)
theorem wd_32_21 : Cond.code yX4_tell cX4_tell 5 (some .int) ∈ wsL_law := bp_32 _ (List.mem_of_getElem? (i := 21) rfl)
theorem wd_32_22 : Cond.methodLink RX4 37 yX4_left ∈ wsL_law := bp_32 _ (List.mem_of_getElem? (i := 22) rfl)
theorem wd_32_23 : Cond.methodLink RL 102 yX7_item ∈ wsL_law := bp_32 _ (List.mem_of_getElem? (i := 23) rfl)
theorem wd_33_0 : Cond.instanceMethod yX7_item ∈ wsL_law := bp_33 _ (List.mem_of_getElem? (i := 0) rfl)
theorem wd_33_1 : Cond.selects RX7 yX7_item yX7_item ∈ wsL_law := bp_33 _ (List.mem_of_getElem? (i := 1) rfl)
theorem wd_33_2 : Cond.code yX7_item cX7_item 4 (some .int) ∈ wsL_law := bp_33 _ (List.mem_of_getElem? (i := 2) rfl)
theorem wd_33_3 : Cond.methodLink RL 103 yX6_startHeat ∈ wsL_law := bp_33 _ (List.mem_of_getElem? (i := 3) rfl)
theorem wd_33_4 : Cond.instanceMethod yX6_startHeat ∈ wsL_law := bp_33 _ (List.mem_of_getElem? (i := 4) rfl)
theorem wd_33_5 : Cond.selects RX6 yX6_startHeat yX6_startHeat ∈ wsL_law := bp_33 _ (List.mem_of_getElem? (i := 5) rfl)
theorem wd_33_6 : Cond.code yX6_startHeat cX6_startHeat 3 (some .int) ∈ wsL_law := bp_33 _ (List.mem_of_getElem? (i := 6) rfl)
theorem wd_33_7 : Cond.fieldLink RX6 200 "StarterBay$Motor" "heatToStart" "I" ∈ wsL_law := bp_33 _ (List.mem_of_getElem? (i := 7) rfl)
theorem wd_33_8 : Cond.methodLink RL 106 yX7_startHeat ∈ wsL_law := bp_33 _ (List.mem_of_getElem? (i := 8) rfl)
theorem wd_33_9 : Cond.instanceMethod yX7_startHeat ∈ wsL_law := bp_33 _ (List.mem_of_getElem? (i := 9) rfl)
theorem wd_33_10 : Cond.selects RX7 yX7_startHeat yX7_startHeat ∈ wsL_law := bp_33 _ (List.mem_of_getElem? (i := 10) rfl)
theorem wd_33_11 : Cond.code yX7_startHeat cX7_startHeat 2 (some .int) ∈ wsL_law := bp_33 _ (List.mem_of_getElem? (i := 11) rfl)
theorem wd_33_12 : Cond.methodLink RL 107 yX6_coolTime ∈ wsL_law := bp_33 _ (List.mem_of_getElem? (i := 12) rfl)
theorem wd_33_13 : Cond.instanceMethod yX6_coolTime ∈ wsL_law := bp_33 _ (List.mem_of_getElem? (i := 13) rfl)
theorem wd_33_14 : Cond.selects RX6 yX6_coolTime yX6_coolTime ∈ wsL_law := bp_33 _ (List.mem_of_getElem? (i := 14) rfl)
theorem wd_33_15 : Cond.code yX6_coolTime cX6_coolTime 5 (some .int) ∈ wsL_law := bp_33 _ (List.mem_of_getElem? (i := 15) rfl)
theorem wd_33_16 : Cond.methodLink RX6 206 yX6_givenOff ∈ wsL_law := bp_33 _ (List.mem_of_getElem? (i := 16) rfl)
theorem wd_33_17 : Cond.methodLink RL 110 yX7_coolTime ∈ wsL_law := bp_33 _ (List.mem_of_getElem? (i := 17) rfl)
theorem wd_33_18 : Cond.instanceMethod yX7_coolTime ∈ wsL_law := bp_33 _ (List.mem_of_getElem? (i := 18) rfl)
theorem wd_33_19 : Cond.selects RX7 yX7_coolTime yX7_coolTime ∈ wsL_law := bp_33 _ (List.mem_of_getElem? (i := 19) rfl)
theorem wd_33_20 : Cond.code yX7_coolTime cX7_coolTime 5 (some .int) ∈ wsL_law := bp_33 _ (List.mem_of_getElem? (i := 20) rfl)
theorem wd_33_21 : Cond.methodLink RL 111 yX6_runTime ∈ wsL_law := bp_33 _ (List.mem_of_getElem? (i := 21) rfl)
theorem wd_33_22 : Cond.instanceMethod yX6_runTime ∈ wsL_law := bp_33 _ (List.mem_of_getElem? (i := 22) rfl)
theorem wd_33_23 : Cond.selects RX6 yX6_runTime yX6_runTime ∈ wsL_law := bp_33 _ (List.mem_of_getElem? (i := 23) rfl)
theorem wd_34_0 : Cond.code yX6_runTime cX6_runTime 5 (some .int) ∈ wsL_law := bp_34 _ (List.mem_of_getElem? (i := 0) rfl)
theorem wd_34_1 : Cond.methodLink RL 114 yX7_runTime ∈ wsL_law := bp_34 _ (List.mem_of_getElem? (i := 1) rfl)
theorem wd_34_2 : Cond.instanceMethod yX7_runTime ∈ wsL_law := bp_34 _ (List.mem_of_getElem? (i := 2) rfl)
theorem wd_34_3 : Cond.selects RX7 yX7_runTime yX7_runTime ∈ wsL_law := bp_34 _ (List.mem_of_getElem? (i := 3) rfl)
theorem wd_34_4 : Cond.code yX7_runTime cX7_runTime 4 (some .int) ∈ wsL_law := bp_34 _ (List.mem_of_getElem? (i := 4) rfl)
theorem wd_34_5 : Cond.methodLink RL 115 yX6_longestRamp ∈ wsL_law := bp_34 _ (List.mem_of_getElem? (i := 5) rfl)
theorem wd_34_6 : Cond.instanceMethod yX6_longestRamp ∈ wsL_law := bp_34 _ (List.mem_of_getElem? (i := 6) rfl)
theorem wd_34_7 : Cond.selects RX6 yX6_longestRamp yX6_longestRamp ∈ wsL_law := bp_34 _ (List.mem_of_getElem? (i := 7) rfl)
theorem wd_34_8 : Cond.code yX6_longestRamp cX6_longestRamp 4 (some .int) ∈ wsL_law := bp_34 _ (List.mem_of_getElem? (i := 8) rfl)
theorem wd_34_9 : Cond.methodLink RX6 213 yX2_peak ∈ wsL_law := bp_34 _ (List.mem_of_getElem? (i := 9) rfl)
theorem wd_34_10 : Cond.methodLink RX6 216 yX6_heatOfStart ∈ wsL_law := bp_34 _ (List.mem_of_getElem? (i := 10) rfl)
theorem wd_34_11 : Cond.methodLink RL 118 yX7_longestRamp ∈ wsL_law := bp_34 _ (List.mem_of_getElem? (i := 11) rfl)
theorem wd_34_12 : Cond.instanceMethod yX7_longestRamp ∈ wsL_law := bp_34 _ (List.mem_of_getElem? (i := 12) rfl)
theorem wd_34_13 : Cond.selects RX7 yX7_longestRamp yX7_longestRamp ∈ wsL_law := bp_34 _ (List.mem_of_getElem? (i := 13) rfl)
theorem wd_34_14 : Cond.code yX7_longestRamp cX7_longestRamp 3 (some .int) ∈ wsL_law := bp_34 _ (List.mem_of_getElem? (i := 14) rfl)
theorem wd_34_15 : Cond.methodLink RL 119 yX6_count ∈ wsL_law := bp_34 _ (List.mem_of_getElem? (i := 15) rfl)
theorem wd_34_16 : Cond.instanceMethod yX6_count ∈ wsL_law := bp_34 _ (List.mem_of_getElem? (i := 16) rfl)
theorem wd_34_17 : Cond.selects RX6 yX6_count yX6_count ∈ wsL_law := bp_34 _ (List.mem_of_getElem? (i := 17) rfl)
theorem wd_34_18 : Cond.code yX6_count cX6_count 2 (some .int) ∈ wsL_law := bp_34 _ (List.mem_of_getElem? (i := 18) rfl)
theorem wd_34_19 : Cond.fieldLink RX6 237 "StarterBay$EventLog" "total" "I" ∈ wsL_law := bp_34 _ (List.mem_of_getElem? (i := 19) rfl)
theorem wd_34_20 : Cond.methodLink RX6 219 yX3_motorsInMode ∈ wsL_law := bp_34 _ (List.mem_of_getElem? (i := 20) rfl)
theorem wd_34_21 : Cond.instanceMethod yX3_motorsInMode ∈ wsL_law := bp_34 _ (List.mem_of_getElem? (i := 21) rfl)
theorem wd_34_22 : Cond.selects RX3 yX3_motorsInMode yX3_motorsInMode ∈ wsL_law := bp_34 _ (List.mem_of_getElem? (i := 22) rfl)
theorem wd_34_23 : Cond.code yX3_motorsInMode cX3_motorsInMode 4 (some .int) ∈ wsL_law := bp_34 _ (List.mem_of_getElem? (i := 23) rfl)
theorem wd_35_0 : Cond.methodLink RX6 228 yX3_sumOfAccount ∈ wsL_law := bp_35 _ (List.mem_of_getElem? (i := 0) rfl)
theorem wd_35_1 : Cond.instanceMethod yX3_sumOfAccount ∈ wsL_law := bp_35 _ (List.mem_of_getElem? (i := 1) rfl)
theorem wd_35_2 : Cond.selects RX3 yX3_sumOfAccount yX3_sumOfAccount ∈ wsL_law := bp_35 _ (List.mem_of_getElem? (i := 2) rfl)
theorem wd_35_3 : Cond.code yX3_sumOfAccount cX3_sumOfAccount 4 (some .int) ∈ wsL_law := bp_35 _ (List.mem_of_getElem? (i := 3) rfl)
theorem wd_35_4 : Cond.fieldLink RX3 100 "StarterBay$Motor" "accounts" "[I" ∈ wsL_law := bp_35 _ (List.mem_of_getElem? (i := 4) rfl)
theorem wd_35_5 : Cond.methodLink RX6 231 yX3_sumOfHeat ∈ wsL_law := bp_35 _ (List.mem_of_getElem? (i := 5) rfl)
theorem wd_35_6 : Cond.instanceMethod yX3_sumOfHeat ∈ wsL_law := bp_35 _ (List.mem_of_getElem? (i := 6) rfl)
theorem wd_35_7 : Cond.selects RX3 yX3_sumOfHeat yX3_sumOfHeat ∈ wsL_law := bp_35 _ (List.mem_of_getElem? (i := 7) rfl)
theorem wd_35_8 : Cond.code yX3_sumOfHeat cX3_sumOfHeat 3 (some .int) ∈ wsL_law := bp_35 _ (List.mem_of_getElem? (i := 8) rfl)
theorem wd_35_9 : Cond.fieldLink RX3 104 "StarterBay$Motor" "heat" "I" ∈ wsL_law := bp_35 _ (List.mem_of_getElem? (i := 9) rfl)
theorem wd_35_10 : Cond.methodLink RX6 234 yX3_sumOfDraws ∈ wsL_law := bp_35 _ (List.mem_of_getElem? (i := 10) rfl)
theorem wd_35_11 : Cond.instanceMethod yX3_sumOfDraws ∈ wsL_law := bp_35 _ (List.mem_of_getElem? (i := 11) rfl)
theorem wd_35_12 : Cond.selects RX3 yX3_sumOfDraws yX3_sumOfDraws ∈ wsL_law := bp_35 _ (List.mem_of_getElem? (i := 12) rfl)
theorem wd_35_13 : Cond.code yX3_sumOfDraws cX3_sumOfDraws 3 (some .int) ∈ wsL_law := bp_35 _ (List.mem_of_getElem? (i := 13) rfl)
theorem wd_35_14 : Cond.methodLink RL 122 yX7_count ∈ wsL_law := bp_35 _ (List.mem_of_getElem? (i := 14) rfl)
theorem wd_35_15 : Cond.instanceMethod yX7_count ∈ wsL_law := bp_35 _ (List.mem_of_getElem? (i := 15) rfl)
theorem wd_35_16 : Cond.selects RX7 yX7_count yX7_count ∈ wsL_law := bp_35 _ (List.mem_of_getElem? (i := 16) rfl)
theorem wd_35_17 : Cond.code yX7_count cX7_count 2 (some .int) ∈ wsL_law := bp_35 _ (List.mem_of_getElem? (i := 17) rfl)
theorem wd_35_18 : Cond.methodLink RX7 168 yX7_inMode ∈ wsL_law := bp_35 _ (List.mem_of_getElem? (i := 18) rfl)
theorem wd_35_19 : Cond.instanceMethod yX7_inMode ∈ wsL_law := bp_35 _ (List.mem_of_getElem? (i := 19) rfl)
theorem wd_35_20 : Cond.selects RX7 yX7_inMode yX7_inMode ∈ wsL_law := bp_35 _ (List.mem_of_getElem? (i := 20) rfl)
theorem wd_35_21 : Cond.code yX7_inMode cX7_inMode 4 (some .int) ∈ wsL_law := bp_35 _ (List.mem_of_getElem? (i := 21) rfl)
theorem wd_35_22 : Cond.methodLink RX7 171 yX7_sumOf ∈ wsL_law := bp_35 _ (List.mem_of_getElem? (i := 22) rfl)
theorem wd_35_23 : Cond.instanceMethod yX7_sumOf ∈ wsL_law := bp_35 _ (List.mem_of_getElem? (i := 23) rfl)
theorem wd_36_0 : Cond.selects RX7 yX7_sumOf yX7_sumOf ∈ wsL_law := bp_36 _ (List.mem_of_getElem? (i := 0) rfl)
theorem wd_36_1 : Cond.code yX7_sumOf cX7_sumOf 4 (some .int) ∈ wsL_law := bp_36 _ (List.mem_of_getElem? (i := 1) rfl)
theorem wd_36_2 : Cond.methodLink RX7 174 yX7_allDraw ∈ wsL_law := bp_36 _ (List.mem_of_getElem? (i := 2) rfl)
theorem wd_36_3 : Cond.instanceMethod yX7_allDraw ∈ wsL_law := bp_36 _ (List.mem_of_getElem? (i := 3) rfl)
theorem wd_36_4 : Cond.selects RX7 yX7_allDraw yX7_allDraw ∈ wsL_law := bp_36 _ (List.mem_of_getElem? (i := 4) rfl)
theorem wd_36_5 : Cond.code yX7_allDraw cX7_allDraw 3 (some .int) ∈ wsL_law := bp_36 _ (List.mem_of_getElem? (i := 5) rfl)
abbrev wz_X0_init : List Cond := .code yX0_init cX0_init 1 none :: wsL_law
abbrev wz_X0_copyFrom : List Cond := .code yX0_copyFrom cX0_copyFrom 2 none :: wsL_law
abbrev wz_J9_floorMod_7cf53 : List Cond := .code yJ9_floorMod_7cf53 cJ9_floorMod_7cf53 3 (some .int) :: wsL_law
abbrev wz_X0_add : List Cond := .code yX0_add cX0_add 5 none :: wsL_law
abbrev wz_X0_tell : List Cond := .code yX0_tell cX0_tell 4 (some .int) :: wsL_law
abbrev wz_X2_init : List Cond := .code yX2_init cX2_init 2 none :: wsL_law
abbrev wz_X4_init : List Cond := .code yX4_init cX4_init 1 none :: wsL_law
abbrev wz_X3_init : List Cond := .code yX3_init cX3_init 2 none :: wsL_law
abbrev wz_X1_init : List Cond := .code yX1_init cX1_init 2 none :: wsL_law
abbrev wz_X1_dropOldest : List Cond := .code yX1_dropOldest cX1_dropOldest 3 none :: wsL_law
abbrev wz_X2_copyFrom : List Cond := .code yX2_copyFrom cX2_copyFrom 2 none :: wsL_law
abbrev wz_X4_copyFrom : List Cond := .code yX4_copyFrom cX4_copyFrom 2 none :: wsL_law
abbrev wz_X3_copyFrom : List Cond := .code yX3_copyFrom cX3_copyFrom 3 none :: wsL_law
abbrev wz_X1_record : List Cond := .code yX1_record cX1_record 2 none :: wsL_law
abbrev wz_X1_takeBack : List Cond := .code yX1_takeBack cX1_takeBack 2 (some .boolean) :: wsL_law
abbrev wz_X6_rampCurrent : List Cond := .code yX6_rampCurrent cX6_rampCurrent 3 (some .int) :: wsL_law
abbrev wz_X6_heatOf : List Cond := .code yX6_heatOf cX6_heatOf 1 (some .int) :: wsL_law
abbrev wz_X6_heatOfStart : List Cond := .code yX6_heatOfStart cX6_heatOfStart 4 (some .int) :: wsL_law
abbrev wz_X2_begin : List Cond := .code yX2_begin cX2_begin 6 none :: wsL_law
abbrev wz_X2_turns : List Cond := .code yX2_turns cX2_turns 1 (some .boolean) :: wsL_law
abbrev wz_X2_peak : List Cond := .code yX2_peak cX2_peak 1 (some .int) :: wsL_law
abbrev wz_X2_credit : List Cond := .code yX2_credit cX2_credit 1 (some .int) :: wsL_law
abbrev wz_X2_draw : List Cond := .code yX2_draw cX2_draw 1 (some .int) :: wsL_law
abbrev wz_X2_change : List Cond := .code yX2_change cX2_change 3 (some .int) :: wsL_law
abbrev wz_X2_trip : List Cond := .code yX2_trip cX2_trip 2 (some .int) :: wsL_law
abbrev wz_X2_countSecond : List Cond := .code yX2_countSecond cX2_countSecond 1 none :: wsL_law
abbrev wz_X6_givenOff : List Cond := .code yX6_givenOff cX6_givenOff 4 (some .int) :: wsL_law
abbrev wz_X2_exchangeHeat : List Cond := .code yX2_exchangeHeat cX2_exchangeHeat 4 none :: wsL_law
abbrev wz_X2_endSecond : List Cond := .code yX2_endSecond cX2_endSecond 1 (some .int) :: wsL_law
abbrev wz_X3_find : List Cond := .code yX3_find cX3_find 2 (some (.object "StarterBay$Motor")) :: wsL_law
abbrev wz_X3_note : List Cond := .code yX3_note cX3_note 3 none :: wsL_law
abbrev wz_X3_urgency : List Cond := .code yX3_urgency cX3_urgency 2 (some .int) :: wsL_law
abbrev wz_X3_isAhead : List Cond := .code yX3_isAhead cX3_isAhead 7 (some .boolean) :: wsL_law
abbrev wz_X3_takenCurrent : List Cond := .code yX3_takenCurrent cX3_takenCurrent 4 (some .int) :: wsL_law
abbrev wz_X3_reasonAgainst : List Cond := .code yX3_reasonAgainst cX3_reasonAgainst 2 (some .int) :: wsL_law
abbrev wz_X3_motorsInMode : List Cond := .code yX3_motorsInMode cX3_motorsInMode 4 (some .int) :: wsL_law
abbrev wz_X3_sumOfAccount : List Cond := .code yX3_sumOfAccount cX3_sumOfAccount 4 (some .int) :: wsL_law
abbrev wz_X3_sumOfHeat : List Cond := .code yX3_sumOfHeat cX3_sumOfHeat 3 (some .int) :: wsL_law
abbrev wz_X3_sumOfDraws : List Cond := .code yX3_sumOfDraws cX3_sumOfDraws 3 (some .int) :: wsL_law
abbrev wz_X4_empty : List Cond := .code yX4_empty cX4_empty 1 none :: wsL_law
abbrev wz_X4_add : List Cond := .code yX4_add cX4_add 5 none :: wsL_law
abbrev wz_X4_left : List Cond := .code yX4_left cX4_left 1 (some .int) :: wsL_law
abbrev wz_X4_tell : List Cond := .code yX4_tell cX4_tell 5 (some .int) :: wsL_law
abbrev wz_X5_init : List Cond := .code yX5_init cX5_init 1 none :: wsL_law
abbrev wz_X5_partEnd : List Cond := .code yX5_partEnd cX5_partEnd 2 (some .int) :: wsL_law
abbrev wz_X6_isOutside : List Cond := .code yX6_isOutside cX6_isOutside 3 (some .boolean) :: wsL_law
abbrev wz_X5_readTime : List Cond := .code yX5_readTime cX5_readTime 5 (some .boolean) :: wsL_law
abbrev wz_X5_readBlank : List Cond := .code yX5_readBlank cX5_readBlank 1 (some .boolean) :: wsL_law
abbrev wz_X5_wordOf : List Cond := .code yX5_wordOf cX5_wordOf 1 (some (.object "java/lang/String")) :: wsL_law
abbrev wz_J0_coder_7d493 : List Cond := .code yJ0_coder_7d493 cJ0_coder_7d493 1 (some .byte) :: wsL_law
abbrev wz_J0_length_8abf5 : List Cond := .code yJ0_length_8abf5 cJ0_length_8abf5 1 (some .int) :: wsL_law
abbrev wz_J0_isLatin1_aae02 : List Cond := .code yJ0_isLatin1_aae02 cJ0_isLatin1_aae02 1 (some .boolean) :: wsL_law
abbrev wz_J3_checkIndex_8e157 : List Cond := .code yJ3_checkIndex_8e157 cJ3_checkIndex_8e157 3 (some .int) :: wsL_law
abbrev wz_J0_checkIndex_df160 : List Cond := .code yJ0_checkIndex_df160 cJ0_checkIndex_df160 2 none :: wsL_law
abbrev wz_J1_charAt_3b067 : List Cond := .code yJ1_charAt_3b067 cJ1_charAt_3b067 2 (some .char) :: wsL_law
abbrev wz_J2_length_9d52b : List Cond := .code yJ2_length_9d52b cJ2_length_9d52b 1 (some .int) :: wsL_law
abbrev wz_J2_checkIndex_2214a : List Cond := .code yJ2_checkIndex_2214a cJ2_checkIndex_2214a 2 none :: wsL_law
abbrev wz_J2_getChar_3b067 : List Cond := .code yJ2_getChar_3b067 cJ2_getChar_3b067 2 (some .char) :: wsL_law
abbrev wz_J2_charAt_3b067 : List Cond := .code yJ2_charAt_3b067 cJ2_charAt_3b067 2 (some .char) :: wsL_law
abbrev wz_J0_charAt_5068e : List Cond := .code yJ0_charAt_5068e cJ0_charAt_5068e 2 (some .char) :: wsL_law
abbrev wz_X5_isPart : List Cond := .code yX5_isPart cX5_isPart 4 (some .boolean) :: wsL_law
abbrev wz_X5_readOrder : List Cond := .code yX5_readOrder cX5_readOrder 3 (some .boolean) :: wsL_law
abbrev wz_X5_readDigit : List Cond := .code yX5_readDigit cX5_readDigit 4 (some .int) :: wsL_law
abbrev wz_X5_readNumbers : List Cond := .code yX5_readNumbers cX5_readNumbers 1 (some .boolean) :: wsL_law
abbrev wz_X5_readItem : List Cond := .code yX5_readItem cX5_readItem 1 (some .boolean) :: wsL_law
abbrev wz_X5_readInto : List Cond := .code yX5_readInto cX5_readInto 4 (some .boolean) :: wsL_law
abbrev wz_X6_init : List Cond := .code yX6_init cX6_init 1 none :: wsL_law
abbrev wz_X6_refuse : List Cond := .code yX6_refuse cX6_refuse 2 (some .int) :: wsL_law
abbrev wz_X6_addMotor : List Cond := .code yX6_addMotor cX6_addMotor 6 (some .int) :: wsL_law
abbrev wz_X6_setNeed : List Cond := .code yX6_setNeed cX6_setNeed 5 (some .int) :: wsL_law
abbrev wz_X6_setLimit : List Cond := .code yX6_setLimit cX6_setLimit 3 (some .int) :: wsL_law
abbrev wz_X6_checkLoss : List Cond := .code yX6_checkLoss cX6_checkLoss 3 (some .int) :: wsL_law
abbrev wz_X6_checkReset : List Cond := .code yX6_checkReset cX6_checkReset 2 (some .int) :: wsL_law
abbrev wz_X6_checkOrder : List Cond := .code yX6_checkOrder cX6_checkOrder 5 (some .int) :: wsL_law
abbrev wz_X6_carryOutLoss : List Cond := .code yX6_carryOutLoss cX6_carryOutLoss 4 (some .int) :: wsL_law
abbrev wz_X6_carryOut : List Cond := .code yX6_carryOut cX6_carryOut 5 (some .int) :: wsL_law
abbrev wz_X6_callOrder : List Cond := .code yX6_callOrder cX6_callOrder 5 (some .int) :: wsL_law
abbrev wz_X6_setFan : List Cond := .code yX6_setFan cX6_setFan 2 (some .int) :: wsL_law
abbrev wz_X6_fillLine : List Cond := .code yX6_fillLine cX6_fillLine 4 (some .int) :: wsL_law
abbrev wz_X6_placeInLine : List Cond := .code yX6_placeInLine cX6_placeInLine 4 (some .int) :: wsL_law
abbrev wz_X6_request : List Cond := .code yX6_request cX6_request 3 (some .int) :: wsL_law
abbrev wz_X6_stop : List Cond := .code yX6_stop cX6_stop 2 (some .int) :: wsL_law
abbrev wz_X6_losePhases : List Cond := .code yX6_losePhases cX6_losePhases 3 (some .int) :: wsL_law
abbrev wz_X6_reset : List Cond := .code yX6_reset cX6_reset 2 (some .int) :: wsL_law
abbrev wz_X6_carryOutItem : List Cond := .code yX6_carryOutItem cX6_carryOutItem 5 none :: wsL_law
abbrev wz_X6_carryOutDueItems : List Cond := .code yX6_carryOutDueItems cX6_carryOutDueItems 3 none :: wsL_law
abbrev wz_X6_passOver : List Cond := .code yX6_passOver cX6_passOver 3 none :: wsL_law
abbrev wz_X6_startFirstThatCan : List Cond := .code yX6_startFirstThatCan cX6_startFirstThatCan 4 (some .boolean) :: wsL_law
abbrev wz_X6_heatMotors : List Cond := .code yX6_heatMotors cX6_heatMotors 3 none :: wsL_law
abbrev wz_X6_pass : List Cond := .code yX6_pass cX6_pass 4 (some .int) :: wsL_law
abbrev wz_X6_type : List Cond := .code yX6_type cX6_type 2 (some .int) :: wsL_law
abbrev wz_X6_clearText : List Cond := .code yX6_clearText cX6_clearText 2 (some .int) :: wsL_law
abbrev wz_X6_readTimetable : List Cond := .code yX6_readTimetable cX6_readTimetable 1 (some .int) :: wsL_law
abbrev wz_X6_undo : List Cond := .code yX6_undo cX6_undo 1 (some .int) :: wsL_law
abbrev wz_X6_keep : List Cond := .code yX6_keep cX6_keep 1 (some .int) :: wsL_law
abbrev wz_X6_restore : List Cond := .code yX6_restore cX6_restore 1 (some .int) :: wsL_law
abbrev wz_X6_motor : List Cond := .code yX6_motor cX6_motor 4 (some .int) :: wsL_law
abbrev wz_X6_account : List Cond := .code yX6_account cX6_account 4 (some .int) :: wsL_law
abbrev wz_X6_queue : List Cond := .code yX6_queue cX6_queue 3 (some .int) :: wsL_law
abbrev wz_X6_whyNot : List Cond := .code yX6_whyNot cX6_whyNot 3 (some .int) :: wsL_law
abbrev wz_X6_event : List Cond := .code yX6_event cX6_event 3 (some .int) :: wsL_law
abbrev wz_X6_item : List Cond := .code yX6_item cX6_item 3 (some .int) :: wsL_law
abbrev wz_X6_startHeat : List Cond := .code yX6_startHeat cX6_startHeat 3 (some .int) :: wsL_law
abbrev wz_X6_coolTime : List Cond := .code yX6_coolTime cX6_coolTime 5 (some .int) :: wsL_law
abbrev wz_X6_runTime : List Cond := .code yX6_runTime cX6_runTime 5 (some .int) :: wsL_law
abbrev wz_X6_longestRamp : List Cond := .code yX6_longestRamp cX6_longestRamp 4 (some .int) :: wsL_law
abbrev wz_X6_count : List Cond := .code yX6_count cX6_count 2 (some .int) :: wsL_law
abbrev wz_X7_init : List Cond := .code yX7_init cX7_init 1 none :: wsL_law
abbrev wz_X7_in : List Cond := .code yX7_in cX7_in 3 (some .boolean) :: wsL_law
abbrev wz_X7_record : List Cond := .code yX7_record cX7_record 2 none :: wsL_law
abbrev wz_X7_refuse : List Cond := .code yX7_refuse cX7_refuse 2 (some .int) :: wsL_law
abbrev wz_X7_noMotor : List Cond := .code yX7_noMotor cX7_noMotor 2 (some .boolean) :: wsL_law
abbrev wz_X7_of : List Cond := .code yX7_of cX7_of 3 (some .int) :: wsL_law
abbrev wz_X7_put : List Cond := .code yX7_put cX7_put 4 none :: wsL_law
abbrev wz_X7_more : List Cond := .code yX7_more cX7_more 4 none :: wsL_law
abbrev wz_X7_addMotor : List Cond := .code yX7_addMotor cX7_addMotor 7 (some .int) :: wsL_law
abbrev wz_X7_setNeed : List Cond := .code yX7_setNeed cX7_setNeed 4 (some .int) :: wsL_law
abbrev wz_X7_setLimit : List Cond := .code yX7_setLimit cX7_setLimit 3 (some .int) :: wsL_law
abbrev wz_X7_setFan : List Cond := .code yX7_setFan cX7_setFan 3 (some .int) :: wsL_law
abbrev wz_X7_turns : List Cond := .code yX7_turns cX7_turns 2 (some .boolean) :: wsL_law
abbrev wz_X7_peak : List Cond := .code yX7_peak cX7_peak 2 (some .int) :: wsL_law
abbrev wz_X7_ramped : List Cond := .code yX7_ramped cX7_ramped 3 (some .int) :: wsL_law
abbrev wz_X7_draws : List Cond := .code yX7_draws cX7_draws 2 (some .int) :: wsL_law
abbrev wz_X7_heatOfRamp : List Cond := .code yX7_heatOfRamp cX7_heatOfRamp 6 (some .int) :: wsL_law
abbrev wz_X7_needed : List Cond := .code yX7_needed cX7_needed 2 (some .int) :: wsL_law
abbrev wz_X7_credit : List Cond := .code yX7_credit cX7_credit 2 (some .int) :: wsL_law
abbrev wz_X7_rate : List Cond := .code yX7_rate cX7_rate 2 (some .int) :: wsL_law
abbrev wz_X7_waitedOf : List Cond := .code yX7_waitedOf cX7_waitedOf 2 (some .int) :: wsL_law
abbrev wz_X7_isAhead : List Cond := .code yX7_isAhead cX7_isAhead 5 (some .boolean) :: wsL_law
abbrev wz_X7_waits : List Cond := .code yX7_waits cX7_waits 2 (some .boolean) :: wsL_law
abbrev wz_X7_placeOf : List Cond := .code yX7_placeOf cX7_placeOf 4 (some .int) :: wsL_law
abbrev wz_X7_waitingAt : List Cond := .code yX7_waitingAt cX7_waitingAt 3 (some .int) :: wsL_law
abbrev wz_X7_queue : List Cond := .code yX7_queue cX7_queue 2 (some .int) :: wsL_law
abbrev wz_X7_against : List Cond := .code yX7_against cX7_against 4 (some .int) :: wsL_law
abbrev wz_X7_whyNot : List Cond := .code yX7_whyNot cX7_whyNot 2 (some .int) :: wsL_law
abbrev wz_X7_note : List Cond := .code yX7_note cX7_note 4 none :: wsL_law
abbrev wz_X7_event : List Cond := .code yX7_event cX7_event 3 (some .int) :: wsL_law
abbrev wz_X7_trip : List Cond := .code yX7_trip cX7_trip 3 none :: wsL_law
abbrev wz_X7_wrongIn : List Cond := .code yX7_wrongIn cX7_wrongIn 5 (some .int) :: wsL_law
abbrev wz_X7_carryOut : List Cond := .code yX7_carryOut cX7_carryOut 4 none :: wsL_law
abbrev wz_X7_orders : List Cond := .code yX7_orders cX7_orders 5 (some .int) :: wsL_law
abbrev wz_X7_request : List Cond := .code yX7_request cX7_request 3 (some .int) :: wsL_law
abbrev wz_X7_stop : List Cond := .code yX7_stop cX7_stop 4 (some .int) :: wsL_law
abbrev wz_X7_losePhases : List Cond := .code yX7_losePhases cX7_losePhases 5 (some .int) :: wsL_law
abbrev wz_X7_reset : List Cond := .code yX7_reset cX7_reset 3 (some .int) :: wsL_law
abbrev wz_X7_carryOutItems : List Cond := .code yX7_carryOutItems cX7_carryOutItems 5 none :: wsL_law
abbrev wz_X7_startOne : List Cond := .code yX7_startOne cX7_startOne 4 (some .int) :: wsL_law
abbrev wz_X7_goesOn : List Cond := .code yX7_goesOn cX7_goesOn 7 none :: wsL_law
abbrev wz_X7_pass : List Cond := .code yX7_pass cX7_pass 5 (some .int) :: wsL_law
abbrev wz_X7_type : List Cond := .code yX7_type cX7_type 2 (some .int) :: wsL_law
abbrev wz_X7_clearText : List Cond := .code yX7_clearText cX7_clearText 2 (some .int) :: wsL_law
abbrev wz_X7_end : List Cond := .code yX7_end cX7_end 2 (some .int) :: wsL_law
abbrev wz_X7_timeAt : List Cond := .code yX7_timeAt cX7_timeAt 6 (some .int) :: wsL_law
abbrev wz_X7_isWord : List Cond := .code yX7_isWord cX7_isWord 8 (some .boolean) :: wsL_law
abbrev wz_X7_wordAt : List Cond := .code yX7_wordAt cX7_wordAt 2 (some .int) :: wsL_law
abbrev wz_X7_digitAt : List Cond := .code yX7_digitAt cX7_digitAt 3 (some .int) :: wsL_law
abbrev wz_X7_takesBlank : List Cond := .code yX7_takesBlank cX7_takesBlank 1 (some .boolean) :: wsL_law
abbrev wz_X7_readsItem : List Cond := .code yX7_readsItem cX7_readsItem 3 (some .boolean) :: wsL_law
abbrev wz_X7_readTimetable : List Cond := .code yX7_readTimetable cX7_readTimetable 3 (some .int) :: wsL_law
abbrev wz_X7_item : List Cond := .code yX7_item cX7_item 4 (some .int) :: wsL_law
abbrev wz_X7_undo : List Cond := .code yX7_undo cX7_undo 2 (some .int) :: wsL_law
abbrev wz_X7_keep : List Cond := .code yX7_keep cX7_keep 2 (some .int) :: wsL_law
abbrev wz_X7_restore : List Cond := .code yX7_restore cX7_restore 2 (some .int) :: wsL_law
abbrev wz_X7_motor : List Cond := .code yX7_motor cX7_motor 4 (some .int) :: wsL_law
abbrev wz_X7_account : List Cond := .code yX7_account cX7_account 3 (some .int) :: wsL_law
abbrev wz_X7_startHeat : List Cond := .code yX7_startHeat cX7_startHeat 2 (some .int) :: wsL_law
abbrev wz_X7_coolTime : List Cond := .code yX7_coolTime cX7_coolTime 5 (some .int) :: wsL_law
abbrev wz_X7_runTime : List Cond := .code yX7_runTime cX7_runTime 4 (some .int) :: wsL_law
abbrev wz_X7_longestRamp : List Cond := .code yX7_longestRamp cX7_longestRamp 3 (some .int) :: wsL_law
abbrev wz_X7_inMode : List Cond := .code yX7_inMode cX7_inMode 4 (some .int) :: wsL_law
abbrev wz_X7_sumOf : List Cond := .code yX7_sumOf cX7_sumOf 4 (some .int) :: wsL_law
abbrev wz_X7_allDraw : List Cond := .code yX7_allDraw cX7_allDraw 3 (some .int) :: wsL_law
abbrev wz_X7_count : List Cond := .code yX7_count cX7_count 2 (some .int) :: wsL_law
abbrev wz_J9_max_7cf53 : List Cond := .code yJ9_max_7cf53 cJ9_max_7cf53 2 (some .int) :: wsL_law
abbrev wz_J9_min_7cf53 : List Cond := .code yJ9_min_7cf53 cJ9_min_7cf53 2 (some .int) :: wsL_law

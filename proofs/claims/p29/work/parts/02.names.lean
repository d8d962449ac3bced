def RX0 : String := "StarterBay$EventLog"
def TX0 : u_T := fun k => match k with
  | 0 => ("StarterBay$EventLog", "time", "[I", true)
  | 1 => ("StarterBay$EventLog", "motor", "[I", true)
  | 2 => ("StarterBay$EventLog", "kind", "[I", true)
  | _ => ("StarterBay$EventLog", "total", "I", false)
def tyX0 : Nat → FieldType := fun k => match k with
  | 0 => .array .int
  | 1 => .array .int
  | 2 => .array .int
  | _ => .int
abbrev wsX00 : List Cond := u_ws RX0 TX0 4
theorem nmX0 : ∀ a, a < 4 → ∀ b, b < 4 → a ≠ b → (TX0 a).2.1 ≠ (TX0 b).2.1 := by decide +kernel
theorem tyX0_ok : ∀ k, k < 4 → parseFieldDescriptor (TX0 k).2.2.1 = some (tyX0 k) := by decide +kernel
abbrev cX0_init : ByteArray := prog_2_method_1_code
def yX0_init : MethodName := ⟨RX0, "<init>", "()V"⟩
abbrev cX0_copyFrom : ByteArray := prog_2_method_2_code
def yX0_copyFrom : MethodName := ⟨RX0, "copyFrom", "(LStarterBay$EventLog;)V"⟩
abbrev cX0_add : ByteArray := prog_2_method_3_code
def yX0_add : MethodName := ⟨RX0, "add", "(III)V"⟩
abbrev cX0_tell : ByteArray := prog_2_method_4_code
def yX0_tell : MethodName := ⟨RX0, "tell", "(II)I"⟩
def RX1 : String := "StarterBay$History"
def TX1 : u_T := fun k => match k with
  | 0 => ("StarterBay$History", "states", "[LStarterBay$State;", true)
  | _ => ("StarterBay$History", "size", "I", false)
def tyX1 : Nat → FieldType := fun k => match k with
  | 0 => .array (.object "StarterBay$State")
  | _ => .int
abbrev wsX10 : List Cond := u_ws RX1 TX1 2
theorem nmX1 : ∀ a, a < 2 → ∀ b, b < 2 → a ≠ b → (TX1 a).2.1 ≠ (TX1 b).2.1 := by decide +kernel
theorem tyX1_ok : ∀ k, k < 2 → parseFieldDescriptor (TX1 k).2.2.1 = some (tyX1 k) := by decide +kernel
abbrev cX1_init : ByteArray := prog_3_method_1_code
def yX1_init : MethodName := ⟨RX1, "<init>", "()V"⟩
abbrev cX1_record : ByteArray := prog_3_method_2_code
def yX1_record : MethodName := ⟨RX1, "record", "(LStarterBay$State;)V"⟩
abbrev cX1_dropOldest : ByteArray := prog_3_method_3_code
def yX1_dropOldest : MethodName := ⟨RX1, "dropOldest", "()V"⟩
abbrev cX1_takeBack : ByteArray := prog_3_method_4_code
def yX1_takeBack : MethodName := ⟨RX1, "takeBack", "(LStarterBay$State;)Z"⟩
def RX2 : String := "StarterBay$Motor"
def TX2 : u_T := fun k => match k with
  | 0 => ("StarterBay$Motor", "number", "I", true)
  | 1 => ("StarterBay$Motor", "accounts", "[I", true)
  | 2 => ("StarterBay$Motor", "rated", "I", false)
  | 3 => ("StarterBay$Motor", "ramp", "I", false)
  | 4 => ("StarterBay$Motor", "factor", "I", false)
  | 5 => ("StarterBay$Motor", "limit", "I", false)
  | 6 => ("StarterBay$Motor", "heatToStart", "I", false)
  | 7 => ("StarterBay$Motor", "need", "I", false)
  | 8 => ("StarterBay$Motor", "mode", "I", false)
  | 9 => ("StarterBay$Motor", "heat", "I", false)
  | 10 => ("StarterBay$Motor", "lost", "I", false)
  | 11 => ("StarterBay$Motor", "rampSeconds", "I", false)
  | 12 => ("StarterBay$Motor", "requestedAt", "I", false)
  | 13 => ("StarterBay$Motor", "tripReason", "I", false)
  | _ => ("StarterBay$Motor", "lossSeconds", "I", false)
def tyX2 : Nat → FieldType := fun k => match k with
  | 0 => .int
  | 1 => .array .int
  | 2 => .int
  | 3 => .int
  | 4 => .int
  | 5 => .int
  | 6 => .int
  | 7 => .int
  | 8 => .int
  | 9 => .int
  | 10 => .int
  | 11 => .int
  | 12 => .int
  | 13 => .int
  | _ => .int
abbrev wsX20 : List Cond := u_ws RX2 TX2 15
theorem nmX2 : ∀ a, a < 15 → ∀ b, b < 15 → a ≠ b → (TX2 a).2.1 ≠ (TX2 b).2.1 := by decide +kernel
theorem tyX2_ok : ∀ k, k < 15 → parseFieldDescriptor (TX2 k).2.2.1 = some (tyX2 k) := by decide +kernel
abbrev cX2_init : ByteArray := prog_4_method_1_code
def yX2_init : MethodName := ⟨RX2, "<init>", "(I)V"⟩
abbrev cX2_begin : ByteArray := prog_4_method_2_code
def yX2_begin : MethodName := ⟨RX2, "begin", "(IIII)V"⟩
abbrev cX2_copyFrom : ByteArray := prog_4_method_3_code
def yX2_copyFrom : MethodName := ⟨RX2, "copyFrom", "(LStarterBay$Motor;)V"⟩
abbrev cX2_turns : ByteArray := prog_4_method_4_code
def yX2_turns : MethodName := ⟨RX2, "turns", "()Z"⟩
abbrev cX2_peak : ByteArray := prog_4_method_5_code
def yX2_peak : MethodName := ⟨RX2, "peak", "()I"⟩
abbrev cX2_credit : ByteArray := prog_4_method_6_code
def yX2_credit : MethodName := ⟨RX2, "credit", "()I"⟩
abbrev cX2_draw : ByteArray := prog_4_method_7_code
def yX2_draw : MethodName := ⟨RX2, "draw", "()I"⟩
abbrev cX2_change : ByteArray := prog_4_method_8_code
def yX2_change : MethodName := ⟨RX2, "change", "(I)I"⟩
abbrev cX2_trip : ByteArray := prog_4_method_9_code
def yX2_trip : MethodName := ⟨RX2, "trip", "(I)I"⟩
abbrev cX2_countSecond : ByteArray := prog_4_method_10_code
def yX2_countSecond : MethodName := ⟨RX2, "countSecond", "()V"⟩
abbrev cX2_exchangeHeat : ByteArray := prog_4_method_11_code
def yX2_exchangeHeat : MethodName := ⟨RX2, "exchangeHeat", "(Z)V"⟩
abbrev cX2_endSecond : ByteArray := prog_4_method_12_code
def yX2_endSecond : MethodName := ⟨RX2, "endSecond", "()I"⟩
def RX3 : String := "StarterBay$State"
def TX3 : u_T := fun k => match k with
  | 0 => ("StarterBay$State", "motors", "[LStarterBay$Motor;", true)
  | 1 => ("StarterBay$State", "timetable", "LStarterBay$Timetable;", true)
  | 2 => ("StarterBay$State", "events", "LStarterBay$EventLog;", true)
  | 3 => ("StarterBay$State", "motorCount", "I", false)
  | 4 => ("StarterBay$State", "clock", "I", false)
  | 5 => ("StarterBay$State", "limit", "I", false)
  | 6 => ("StarterBay$State", "fan", "Z", false)
  | _ => ("StarterBay$State", "refusedItems", "I", false)
def tyX3 : Nat → FieldType := fun k => match k with
  | 0 => .array (.object "StarterBay$Motor")
  | 1 => .object "StarterBay$Timetable"
  | 2 => .object "StarterBay$EventLog"
  | 3 => .int
  | 4 => .int
  | 5 => .int
  | 6 => .boolean
  | _ => .int
abbrev wsX30 : List Cond := u_ws RX3 TX3 8
theorem nmX3 : ∀ a, a < 8 → ∀ b, b < 8 → a ≠ b → (TX3 a).2.1 ≠ (TX3 b).2.1 := by decide +kernel
theorem tyX3_ok : ∀ k, k < 8 → parseFieldDescriptor (TX3 k).2.2.1 = some (tyX3 k) := by decide +kernel
abbrev cX3_init : ByteArray := prog_5_method_1_code
def yX3_init : MethodName := ⟨RX3, "<init>", "()V"⟩
abbrev cX3_copyFrom : ByteArray := prog_5_method_2_code
def yX3_copyFrom : MethodName := ⟨RX3, "copyFrom", "(LStarterBay$State;)V"⟩
abbrev cX3_find : ByteArray := prog_5_method_3_code
def yX3_find : MethodName := ⟨RX3, "find", "(I)LStarterBay$Motor;"⟩
abbrev cX3_note : ByteArray := prog_5_method_4_code
def yX3_note : MethodName := ⟨RX3, "note", "(LStarterBay$Motor;I)V"⟩
abbrev cX3_urgency : ByteArray := prog_5_method_5_code
def yX3_urgency : MethodName := ⟨RX3, "urgency", "(LStarterBay$Motor;)I"⟩
abbrev cX3_isAhead : ByteArray := prog_5_method_6_code
def yX3_isAhead : MethodName := ⟨RX3, "isAhead", "(II)Z"⟩
abbrev cX3_reasonAgainst : ByteArray := prog_5_method_7_code
def yX3_reasonAgainst : MethodName := ⟨RX3, "reasonAgainst", "(LStarterBay$Motor;)I"⟩
abbrev cX3_takenCurrent : ByteArray := prog_5_method_8_code
def yX3_takenCurrent : MethodName := ⟨RX3, "takenCurrent", "()I"⟩
abbrev cX3_motorsInMode : ByteArray := prog_5_method_9_code
def yX3_motorsInMode : MethodName := ⟨RX3, "motorsInMode", "(I)I"⟩
abbrev cX3_sumOfAccount : ByteArray := prog_5_method_10_code
def yX3_sumOfAccount : MethodName := ⟨RX3, "sumOfAccount", "(I)I"⟩
abbrev cX3_sumOfHeat : ByteArray := prog_5_method_11_code
def yX3_sumOfHeat : MethodName := ⟨RX3, "sumOfHeat", "()I"⟩
abbrev cX3_sumOfDraws : ByteArray := prog_5_method_12_code
def yX3_sumOfDraws : MethodName := ⟨RX3, "sumOfDraws", "()I"⟩
def RX4 : String := "StarterBay$Timetable"
def TX4 : u_T := fun k => match k with
  | 0 => ("StarterBay$Timetable", "due", "[I", true)
  | 1 => ("StarterBay$Timetable", "order", "[I", true)
  | 2 => ("StarterBay$Timetable", "first", "[I", true)
  | 3 => ("StarterBay$Timetable", "second", "[I", true)
  | 4 => ("StarterBay$Timetable", "size", "I", false)
  | _ => ("StarterBay$Timetable", "next", "I", false)
def tyX4 : Nat → FieldType := fun k => match k with
  | 0 => .array .int
  | 1 => .array .int
  | 2 => .array .int
  | 3 => .array .int
  | 4 => .int
  | _ => .int
abbrev wsX40 : List Cond := u_ws RX4 TX4 6
theorem nmX4 : ∀ a, a < 6 → ∀ b, b < 6 → a ≠ b → (TX4 a).2.1 ≠ (TX4 b).2.1 := by decide +kernel
theorem tyX4_ok : ∀ k, k < 6 → parseFieldDescriptor (TX4 k).2.2.1 = some (tyX4 k) := by decide +kernel
abbrev cX4_init : ByteArray := prog_6_method_1_code
def yX4_init : MethodName := ⟨RX4, "<init>", "()V"⟩
abbrev cX4_copyFrom : ByteArray := prog_6_method_2_code
def yX4_copyFrom : MethodName := ⟨RX4, "copyFrom", "(LStarterBay$Timetable;)V"⟩
abbrev cX4_empty : ByteArray := prog_6_method_3_code
def yX4_empty : MethodName := ⟨RX4, "empty", "()V"⟩
abbrev cX4_add : ByteArray := prog_6_method_4_code
def yX4_add : MethodName := ⟨RX4, "add", "(IIII)V"⟩
abbrev cX4_left : ByteArray := prog_6_method_5_code
def yX4_left : MethodName := ⟨RX4, "left", "()I"⟩
def RX5 : String := "StarterBay$TimetableText"
def TX5 : u_T := fun k => match k with
  | 0 => ("StarterBay$TimetableText", "characters", "[C", true)
  | 1 => ("StarterBay$TimetableText", "length", "I", false)
  | 2 => ("StarterBay$TimetableText", "at", "I", false)
  | 3 => ("StarterBay$TimetableText", "time", "I", false)
  | 4 => ("StarterBay$TimetableText", "order", "I", false)
  | 5 => ("StarterBay$TimetableText", "first", "I", false)
  | _ => ("StarterBay$TimetableText", "second", "I", false)
def tyX5 : Nat → FieldType := fun k => match k with
  | 0 => .array .char
  | 1 => .int
  | 2 => .int
  | 3 => .int
  | 4 => .int
  | 5 => .int
  | _ => .int
abbrev wsX50 : List Cond := u_ws RX5 TX5 7
theorem nmX5 : ∀ a, a < 7 → ∀ b, b < 7 → a ≠ b → (TX5 a).2.1 ≠ (TX5 b).2.1 := by decide +kernel
theorem tyX5_ok : ∀ k, k < 7 → parseFieldDescriptor (TX5 k).2.2.1 = some (tyX5 k) := by decide +kernel
abbrev cX5_init : ByteArray := prog_7_method_1_code
def yX5_init : MethodName := ⟨RX5, "<init>", "()V"⟩
abbrev cX5_readInto : ByteArray := prog_7_method_2_code
def yX5_readInto : MethodName := ⟨RX5, "readInto", "(LStarterBay$Timetable;I)Z"⟩
abbrev cX5_readItem : ByteArray := prog_7_method_3_code
def yX5_readItem : MethodName := ⟨RX5, "readItem", "()Z"⟩
abbrev cX5_partEnd : ByteArray := prog_7_method_4_code
def yX5_partEnd : MethodName := ⟨RX5, "partEnd", "()I"⟩
abbrev cX5_readBlank : ByteArray := prog_7_method_5_code
def yX5_readBlank : MethodName := ⟨RX5, "readBlank", "()Z"⟩
abbrev cX5_readTime : ByteArray := prog_7_method_6_code
def yX5_readTime : MethodName := ⟨RX5, "readTime", "()Z"⟩
abbrev cX5_readOrder : ByteArray := prog_7_method_7_code
def yX5_readOrder : MethodName := ⟨RX5, "readOrder", "()Z"⟩
abbrev cX5_wordOf : ByteArray := prog_7_method_8_code
def yX5_wordOf : MethodName := ⟨RX5, "wordOf", "(I)Ljava/lang/String;"⟩
abbrev cX5_isPart : ByteArray := prog_7_method_9_code
def yX5_isPart : MethodName := ⟨RX5, "isPart", "(Ljava/lang/String;I)Z"⟩
abbrev cX5_readNumbers : ByteArray := prog_7_method_10_code
def yX5_readNumbers : MethodName := ⟨RX5, "readNumbers", "()Z"⟩
abbrev cX5_readDigit : ByteArray := prog_7_method_11_code
def yX5_readDigit : MethodName := ⟨RX5, "readDigit", "(C)I"⟩
def RX6 : String := "StarterBay"
def TX6 : u_T := fun k => match k with
  | 0 => ("StarterBay", "now", "LStarterBay$State;", true)
  | 1 => ("StarterBay", "history", "LStarterBay$History;", true)
  | 2 => ("StarterBay", "snapshot", "LStarterBay$State;", true)
  | 3 => ("StarterBay", "hasSnapshot", "Z", false)
  | 4 => ("StarterBay", "text", "LStarterBay$TimetableText;", true)
  | 5 => ("StarterBay", "draft", "LStarterBay$Timetable;", true)
  | 6 => ("StarterBay", "line", "[I", true)
  | _ => ("StarterBay", "reason", "I", false)
def tyX6 : Nat → FieldType := fun k => match k with
  | 0 => .object "StarterBay$State"
  | 1 => .object "StarterBay$History"
  | 2 => .object "StarterBay$State"
  | 3 => .boolean
  | 4 => .object "StarterBay$TimetableText"
  | 5 => .object "StarterBay$Timetable"
  | 6 => .array .int
  | _ => .int
abbrev wsX60 : List Cond := u_ws RX6 TX6 8
theorem nmX6 : ∀ a, a < 8 → ∀ b, b < 8 → a ≠ b → (TX6 a).2.1 ≠ (TX6 b).2.1 := by decide +kernel
theorem tyX6_ok : ∀ k, k < 8 → parseFieldDescriptor (TX6 k).2.2.1 = some (tyX6 k) := by decide +kernel
abbrev cX6_init : ByteArray := prog_1_method_1_code
def yX6_init : MethodName := ⟨RX6, "<init>", "()V"⟩
abbrev cX6_addMotor : ByteArray := prog_1_method_2_code
def yX6_addMotor : MethodName := ⟨RX6, "addMotor", "(IIII)I"⟩
abbrev cX6_setNeed : ByteArray := prog_1_method_3_code
def yX6_setNeed : MethodName := ⟨RX6, "setNeed", "(II)I"⟩
abbrev cX6_setLimit : ByteArray := prog_1_method_4_code
def yX6_setLimit : MethodName := ⟨RX6, "setLimit", "(I)I"⟩
abbrev cX6_setFan : ByteArray := prog_1_method_5_code
def yX6_setFan : MethodName := ⟨RX6, "setFan", "(Z)I"⟩
abbrev cX6_request : ByteArray := prog_1_method_6_code
def yX6_request : MethodName := ⟨RX6, "request", "(I)I"⟩
abbrev cX6_stop : ByteArray := prog_1_method_7_code
def yX6_stop : MethodName := ⟨RX6, "stop", "(I)I"⟩
abbrev cX6_losePhases : ByteArray := prog_1_method_8_code
def yX6_losePhases : MethodName := ⟨RX6, "losePhases", "(II)I"⟩
abbrev cX6_reset : ByteArray := prog_1_method_9_code
def yX6_reset : MethodName := ⟨RX6, "reset", "(I)I"⟩
abbrev cX6_pass : ByteArray := prog_1_method_10_code
def yX6_pass : MethodName := ⟨RX6, "pass", "(I)I"⟩
abbrev cX6_readTimetable : ByteArray := prog_1_method_13_code
def yX6_readTimetable : MethodName := ⟨RX6, "readTimetable", "()I"⟩
abbrev cX6_undo : ByteArray := prog_1_method_14_code
def yX6_undo : MethodName := ⟨RX6, "undo", "()I"⟩
abbrev cX6_keep : ByteArray := prog_1_method_15_code
def yX6_keep : MethodName := ⟨RX6, "keep", "()I"⟩
abbrev cX6_restore : ByteArray := prog_1_method_16_code
def yX6_restore : MethodName := ⟨RX6, "restore", "()I"⟩
abbrev cX6_motor : ByteArray := prog_1_method_17_code
def yX6_motor : MethodName := ⟨RX6, "motor", "(II)I"⟩
abbrev cX6_account : ByteArray := prog_1_method_18_code
def yX6_account : MethodName := ⟨RX6, "account", "(II)I"⟩
abbrev cX6_queue : ByteArray := prog_1_method_19_code
def yX6_queue : MethodName := ⟨RX6, "queue", "(I)I"⟩
abbrev cX6_whyNot : ByteArray := prog_1_method_20_code
def yX6_whyNot : MethodName := ⟨RX6, "whyNot", "(I)I"⟩
abbrev cX6_event : ByteArray := prog_1_method_21_code
def yX6_event : MethodName := ⟨RX6, "event", "(II)I"⟩
abbrev cX6_startHeat : ByteArray := prog_1_method_23_code
def yX6_startHeat : MethodName := ⟨RX6, "startHeat", "(I)I"⟩
abbrev cX6_count : ByteArray := prog_1_method_27_code
def yX6_count : MethodName := ⟨RX6, "count", "(I)I"⟩
abbrev cX6_callOrder : ByteArray := prog_1_method_28_code
def yX6_callOrder : MethodName := ⟨RX6, "callOrder", "(III)I"⟩
abbrev cX6_checkOrder : ByteArray := prog_1_method_29_code
def yX6_checkOrder : MethodName := ⟨RX6, "checkOrder", "(III)I"⟩
abbrev cX6_checkLoss : ByteArray := prog_1_method_30_code
def yX6_checkLoss : MethodName := ⟨RX6, "checkLoss", "(LStarterBay$Motor;I)I"⟩
abbrev cX6_checkReset : ByteArray := prog_1_method_31_code
def yX6_checkReset : MethodName := ⟨RX6, "checkReset", "(LStarterBay$Motor;)I"⟩
abbrev cX6_carryOut : ByteArray := prog_1_method_32_code
def yX6_carryOut : MethodName := ⟨RX6, "carryOut", "(III)I"⟩
abbrev cX6_carryOutLoss : ByteArray := prog_1_method_33_code
def yX6_carryOutLoss : MethodName := ⟨RX6, "carryOutLoss", "(LStarterBay$Motor;I)I"⟩
abbrev cX6_refuse : ByteArray := prog_1_method_34_code
def yX6_refuse : MethodName := ⟨RX6, "refuse", "(I)I"⟩
abbrev cX6_carryOutDueItems : ByteArray := prog_1_method_35_code
def yX6_carryOutDueItems : MethodName := ⟨RX6, "carryOutDueItems", "()V"⟩
abbrev cX6_carryOutItem : ByteArray := prog_1_method_36_code
def yX6_carryOutItem : MethodName := ⟨RX6, "carryOutItem", "(III)V"⟩
abbrev cX6_startFirstThatCan : ByteArray := prog_1_method_37_code
def yX6_startFirstThatCan : MethodName := ⟨RX6, "startFirstThatCan", "()Z"⟩
abbrev cX6_passOver : ByteArray := prog_1_method_38_code
def yX6_passOver : MethodName := ⟨RX6, "passOver", "(I)V"⟩
abbrev cX6_heatMotors : ByteArray := prog_1_method_39_code
def yX6_heatMotors : MethodName := ⟨RX6, "heatMotors", "()V"⟩
abbrev cX6_fillLine : ByteArray := prog_1_method_40_code
def yX6_fillLine : MethodName := ⟨RX6, "fillLine", "()I"⟩
abbrev cX6_placeInLine : ByteArray := prog_1_method_41_code
def yX6_placeInLine : MethodName := ⟨RX6, "placeInLine", "(I)I"⟩
abbrev cX6_isOutside : ByteArray := prog_1_method_42_code
def yX6_isOutside : MethodName := ⟨RX6, "isOutside", "(III)Z"⟩
abbrev cX6_heatOf : ByteArray := prog_1_method_43_code
def yX6_heatOf : MethodName := ⟨RX6, "heatOf", "(I)I"⟩
abbrev cX6_givenOff : ByteArray := prog_1_method_44_code
def yX6_givenOff : MethodName := ⟨RX6, "givenOff", "(IZZ)I"⟩
abbrev cX6_rampCurrent : ByteArray := prog_1_method_45_code
def yX6_rampCurrent : MethodName := ⟨RX6, "rampCurrent", "(III)I"⟩
abbrev cX6_heatOfStart : ByteArray := prog_1_method_46_code
def yX6_heatOfStart : MethodName := ⟨RX6, "heatOfStart", "(II)I"⟩
def RX7 : String := "StarterBayModel"
def TX7 : u_T := fun k => match k with
  | _ => ("", "", "", false)
def tyX7 : Nat → FieldType := fun k => match k with
  | _ => .int
abbrev wsX70 : List Cond := u_ws RX7 TX7 0
theorem nmX7 : ∀ a, a < 0 → ∀ b, b < 0 → a ≠ b → (TX7 a).2.1 ≠ (TX7 b).2.1 := by decide +kernel
theorem tyX7_ok : ∀ k, k < 0 → parseFieldDescriptor (TX7 k).2.2.1 = some (tyX7 k) := by decide +kernel
def RJ9 : String := "java/lang/Math"
def TJ9 : u_T := fun k => match k with
  | _ => ("", "", "", false)
def tyJ9 : Nat → FieldType := fun k => match k with
  | _ => .int
abbrev wsJ90 : List Cond := u_ws RJ9 TJ9 0
theorem nmJ9 : ∀ a, a < 0 → ∀ b, b < 0 → a ≠ b → (TJ9 a).2.1 ≠ (TJ9 b).2.1 := by decide +kernel
theorem tyJ9_ok : ∀ k, k < 0 → parseFieldDescriptor (TJ9 k).2.2.1 = some (tyJ9 k) := by decide +kernel
abbrev cJ9_floorMod_7cf53 : ByteArray := prog_10_method_50_code
def yJ9_floorMod_7cf53 : MethodName := ⟨RJ9, "floorMod", "(II)I"⟩
abbrev cJ9_max_7cf53 : ByteArray := prog_10_method_65_code
def yJ9_max_7cf53 : MethodName := ⟨RJ9, "max", "(II)I"⟩
abbrev cJ9_min_7cf53 : ByteArray := prog_10_method_69_code
def yJ9_min_7cf53 : MethodName := ⟨RJ9, "min", "(II)I"⟩
def RJ0 : String := "java/lang/String"
def TJ0 : u_T := fun k => match k with
  | _ => ("", "", "", false)
def tyJ0 : Nat → FieldType := fun k => match k with
  | _ => .int
abbrev wsJ00 : List Cond := u_ws RJ0 TJ0 0
theorem nmJ0 : ∀ a, a < 0 → ∀ b, b < 0 → a ≠ b → (TJ0 a).2.1 ≠ (TJ0 b).2.1 := by decide +kernel
theorem tyJ0_ok : ∀ k, k < 0 → parseFieldDescriptor (TJ0 k).2.2.1 = some (tyJ0 k) := by decide +kernel
abbrev cJ0_length_8abf5 : ByteArray := prog_11_method_54_code
def yJ0_length_8abf5 : MethodName := ⟨RJ0, "length", "()I"⟩
abbrev cJ0_charAt_5068e : ByteArray := prog_11_method_56_code
def yJ0_charAt_5068e : MethodName := ⟨RJ0, "charAt", "(I)C"⟩
abbrev cJ0_coder_7d493 : ByteArray := prog_11_method_152_code
def yJ0_coder_7d493 : MethodName := ⟨RJ0, "coder", "()B"⟩
abbrev cJ0_isLatin1_aae02 : ByteArray := prog_11_method_154_code
def yJ0_isLatin1_aae02 : MethodName := ⟨RJ0, "isLatin1", "()Z"⟩
abbrev cJ0_checkIndex_df160 : ByteArray := prog_11_method_155_code
def yJ0_checkIndex_df160 : MethodName := ⟨RJ0, "checkIndex", "(II)V"⟩
def RJ1 : String := "java/lang/StringLatin1"
def TJ1 : u_T := fun k => match k with
  | _ => ("", "", "", false)
def tyJ1 : Nat → FieldType := fun k => match k with
  | _ => .int
abbrev wsJ10 : List Cond := u_ws RJ1 TJ1 0
theorem nmJ1 : ∀ a, a < 0 → ∀ b, b < 0 → a ≠ b → (TJ1 a).2.1 ≠ (TJ1 b).2.1 := by decide +kernel
theorem tyJ1_ok : ∀ k, k < 0 → parseFieldDescriptor (TJ1 k).2.2.1 = some (tyJ1 k) := by decide +kernel
abbrev cJ1_charAt_3b067 : ByteArray := prog_12_method_2_code
def yJ1_charAt_3b067 : MethodName := ⟨RJ1, "charAt", "([BI)C"⟩
def RJ2 : String := "java/lang/StringUTF16"
def TJ2 : u_T := fun k => match k with
  | _ => ("", "", "", false)
def tyJ2 : Nat → FieldType := fun k => match k with
  | _ => .int
abbrev wsJ20 : List Cond := u_ws RJ2 TJ2 0
theorem nmJ2 : ∀ a, a < 0 → ∀ b, b < 0 → a ≠ b → (TJ2 a).2.1 ≠ (TJ2 b).2.1 := by decide +kernel
theorem tyJ2_ok : ∀ k, k < 0 → parseFieldDescriptor (TJ2 k).2.2.1 = some (tyJ2 k) := by decide +kernel
abbrev cJ2_getChar_3b067 : ByteArray := prog_13_method_5_code
def yJ2_getChar_3b067 : MethodName := ⟨RJ2, "getChar", "([BI)C"⟩
abbrev cJ2_length_9d52b : ByteArray := prog_13_method_6_code
def yJ2_length_9d52b : MethodName := ⟨RJ2, "length", "([B)I"⟩
abbrev cJ2_charAt_3b067 : ByteArray := prog_13_method_83_code
def yJ2_charAt_3b067 : MethodName := ⟨RJ2, "charAt", "([BI)C"⟩
abbrev cJ2_checkIndex_2214a : ByteArray := prog_13_method_91_code
def yJ2_checkIndex_2214a : MethodName := ⟨RJ2, "checkIndex", "(I[B)V"⟩
def RJ10 : String := "java/lang/System"
def TJ10 : u_T := fun k => match k with
  | _ => ("", "", "", false)
def tyJ10 : Nat → FieldType := fun k => match k with
  | _ => .int
abbrev wsJ100 : List Cond := u_ws RJ10 TJ10 0
theorem nmJ10 : ∀ a, a < 0 → ∀ b, b < 0 → a ≠ b → (TJ10 a).2.1 ≠ (TJ10 b).2.1 := by decide +kernel
theorem tyJ10_ok : ∀ k, k < 0 → parseFieldDescriptor (TJ10 k).2.2.1 = some (tyJ10 k) := by decide +kernel
def RJ3 : String := "jdk/internal/util/Preconditions"
def TJ3 : u_T := fun k => match k with
  | _ => ("", "", "", false)
def tyJ3 : Nat → FieldType := fun k => match k with
  | _ => .int
abbrev wsJ30 : List Cond := u_ws RJ3 TJ3 0
theorem nmJ3 : ∀ a, a < 0 → ∀ b, b < 0 → a ≠ b → (TJ3 a).2.1 ≠ (TJ3 b).2.1 := by decide +kernel
theorem tyJ3_ok : ∀ k, k < 0 → parseFieldDescriptor (TJ3 k).2.2.1 = some (tyJ3 k) := by decide +kernel
abbrev cJ3_checkIndex_8e157 : ByteArray := prog_15_method_11_code
def yJ3_checkIndex_8e157 : MethodName := ⟨RJ3, "checkIndex", "(IILjava/util/function/BiFunction;)I"⟩
def RL : String := "StarterBayLaw"
abbrev cL_cell : ByteArray := method_2_code
def yL_cell : MethodName := ⟨RL, "cell", "([II)I"⟩
abbrev cL_low : ByteArray := method_3_code
def yL_low : MethodName := ⟨RL, "low", "(II)I"⟩
abbrev cL_digest : ByteArray := method_4_code
def yL_digest : MethodName := ⟨RL, "digest", "(LStarterBay;)J"⟩
abbrev cL_peak : ByteArray := method_5_code
def yL_peak : MethodName := ⟨RL, "peak", "(LStarterBay;I)I"⟩
abbrev cL_heatOf : ByteArray := method_6_code
def yL_heatOf : MethodName := ⟨RL, "heatOf", "(LStarterBay;I)I"⟩
abbrev cL_why : ByteArray := method_7_code
def yL_why : MethodName := ⟨RL, "why", "(LStarterBay;I)I"⟩
abbrev cL_urgency : ByteArray := method_8_code
def yL_urgency : MethodName := ⟨RL, "urgency", "(LStarterBay;I)I"⟩
abbrev cL_lines : ByteArray := method_9_code
def yL_lines : MethodName := ⟨RL, "lines", "(LStarterBay;)Z"⟩
abbrev cL_sound : ByteArray := method_10_code
def yL_sound : MethodName := ⟨RL, "sound", "(LStarterBay;)Z"⟩
abbrev cL_passedOver : ByteArray := method_11_code
def yL_passedOver : MethodName := ⟨RL, "passedOver", "(LStarterBay;)I"⟩
abbrev cL_second : ByteArray := method_12_code
def yL_second : MethodName := ⟨RL, "second", "(LStarterBay;)Z"⟩
abbrev cL_parts : ByteArray := method_13_code
def yL_parts : MethodName := ⟨RL, "parts", "(LStarterBay;II)Z"⟩
abbrev cL_orders : ByteArray := method_14_code
def yL_orders : MethodName := ⟨RL, "orders", "(LStarterBay;III)Z"⟩
abbrev cL_sets : ByteArray := method_15_code
def yL_sets : MethodName := ⟨RL, "sets", "(LStarterBay;III)Z"⟩
abbrev cL_law : ByteArray := code
def yL_law : MethodName := ⟨RL, "law", "([I)Z"⟩
def wsL_law_r1 : List Cond := [Cond.classLink RL 14 RX6, Cond.instantiable RX6 8, Cond.initialized RX6, Cond.methodLink RL 104 yX6_init, Cond.instanceMethod yX6_init, Cond.code yX6_init cX6_init 1 none, Cond.methodLink RX6 1 objectInit, Cond.instanceMethod objectInit, Cond.code objectInit ⟨#[0xb1]⟩ 1 none, Cond.classLink RX6 7 RX3, Cond.instantiable RX3 8, Cond.initialized RX3, Cond.fieldLink RX6 10 "StarterBay" "now" "LStarterBay$State;", Cond.classLink RX6 16 RX1, Cond.instantiable RX1 2, Cond.initialized RX1, Cond.fieldLink RX6 19 "StarterBay" "history" "LStarterBay$History;", Cond.fieldLink RX6 23 "StarterBay" "snapshot" "LStarterBay$State;", Cond.classLink RX6 26 RX5, Cond.instantiable RX5 7, Cond.initialized RX5, Cond.fieldLink RX6 29 "StarterBay" "text" "LStarterBay$TimetableText;", Cond.classLink RX6 33 RX4, Cond.instantiable RX4 6]
def wsL_law_r2 : List Cond := [Cond.initialized RX4, Cond.fieldLink RX6 36 "StarterBay" "draft" "LStarterBay$Timetable;", Cond.arrayClass .int, Cond.fieldLink RX6 40 "StarterBay" "line" "[I", Cond.methodLink RX6 9 yX3_init, Cond.instanceMethod yX3_init, Cond.code yX3_init cX3_init 2 none, Cond.methodLink RX3 3 objectInit, Cond.classLink RX3 9 RX2, Cond.fieldLink RX3 11 "StarterBay$State" "motors" "[LStarterBay$Motor;", Cond.instantiable RX2 15, Cond.initialized RX2, Cond.classLink RX3 20 RX4, Cond.fieldLink RX3 23 "StarterBay$State" "timetable" "LStarterBay$Timetable;", Cond.classLink RX3 27 RX0, Cond.instantiable RX0 4, Cond.initialized RX0, Cond.fieldLink RX3 30 "StarterBay$State" "events" "LStarterBay$EventLog;", Cond.fieldLink RX3 34 "StarterBay$State" "limit" "I", Cond.methodLink RX3 17 yX2_init, Cond.instanceMethod yX2_init, Cond.code yX2_init cX2_init 2 none, Cond.methodLink RX2 3 objectInit, Cond.fieldLink RX2 9 "StarterBay$Motor" "number" "I"]
def wsL_law_r3 : List Cond := [Cond.fieldLink RX2 15 "StarterBay$Motor" "accounts" "[I", Cond.methodLink RX3 22 yX4_init, Cond.instanceMethod yX4_init, Cond.code yX4_init cX4_init 1 none, Cond.methodLink RX4 3 objectInit, Cond.fieldLink RX4 9 "StarterBay$Timetable" "due" "[I", Cond.fieldLink RX4 15 "StarterBay$Timetable" "order" "[I", Cond.fieldLink RX4 18 "StarterBay$Timetable" "first" "[I", Cond.fieldLink RX4 21 "StarterBay$Timetable" "second" "[I", Cond.methodLink RX3 29 yX0_init, Cond.instanceMethod yX0_init, Cond.code yX0_init cX0_init 1 none, Cond.methodLink RX0 3 objectInit, Cond.fieldLink RX0 9 "StarterBay$EventLog" "time" "[I", Cond.fieldLink RX0 15 "StarterBay$EventLog" "motor" "[I", Cond.fieldLink RX0 18 "StarterBay$EventLog" "kind" "[I", Cond.methodLink RX6 18 yX1_init, Cond.instanceMethod yX1_init, Cond.code yX1_init cX1_init 2 none, Cond.methodLink RX1 3 objectInit, Cond.classLink RX1 9 RX3, Cond.fieldLink RX1 11 "StarterBay$History" "states" "[LStarterBay$State;", Cond.methodLink RX1 17 yX3_init, Cond.methodLink RX6 28 yX5_init]
def wsL_law_r4 : List Cond := [Cond.instanceMethod yX5_init, Cond.code yX5_init cX5_init 1 none, Cond.methodLink RX5 3 objectInit, Cond.arrayClass .char, Cond.fieldLink RX5 9 "StarterBay$TimetableText" "characters" "[C", Cond.methodLink RX6 35 yX4_init, Cond.methodLink RL 105 yX6_undo, Cond.instanceMethod yX6_undo, Cond.selects RX6 yX6_undo yX6_undo, Cond.code yX6_undo cX6_undo 1 (some .int), Cond.fieldLink RX6 130 "StarterBay$History" "size" "I", Cond.methodLink RX6 126 yX1_takeBack, Cond.instanceMethod yX1_takeBack, Cond.selects RX1 yX1_takeBack yX1_takeBack, Cond.code yX1_takeBack cX1_takeBack 2 (some .boolean), Cond.fieldLink RX1 18 "StarterBay$History" "size" "I", Cond.methodLink RX1 25 yX3_copyFrom, Cond.instanceMethod yX3_copyFrom, Cond.selects RX3 yX3_copyFrom yX3_copyFrom, Cond.code yX3_copyFrom cX3_copyFrom 3 none, Cond.fieldLink RX3 38 "StarterBay$State" "motorCount" "I", Cond.fieldLink RX3 51 "StarterBay$State" "clock" "I", Cond.fieldLink RX3 54 "StarterBay$State" "fan" "Z", Cond.fieldLink RX3 58 "StarterBay$State" "refusedItems" "I"]
def wsL_law_r5 : List Cond := [Cond.methodLink RX3 41 yX2_copyFrom, Cond.instanceMethod yX2_copyFrom, Cond.selects RX2 yX2_copyFrom yX2_copyFrom, Cond.code yX2_copyFrom cX2_copyFrom 2 none, Cond.fieldLink RX2 19 "StarterBay$Motor" "rated" "I", Cond.fieldLink RX2 22 "StarterBay$Motor" "ramp" "I", Cond.fieldLink RX2 25 "StarterBay$Motor" "factor" "I", Cond.fieldLink RX2 28 "StarterBay$Motor" "limit" "I", Cond.fieldLink RX2 35 "StarterBay$Motor" "heatToStart" "I", Cond.fieldLink RX2 38 "StarterBay$Motor" "need" "I", Cond.fieldLink RX2 41 "StarterBay$Motor" "mode" "I", Cond.fieldLink RX2 44 "StarterBay$Motor" "heat" "I", Cond.fieldLink RX2 47 "StarterBay$Motor" "lost" "I", Cond.fieldLink RX2 50 "StarterBay$Motor" "rampSeconds" "I", Cond.fieldLink RX2 53 "StarterBay$Motor" "requestedAt" "I", Cond.fieldLink RX2 56 "StarterBay$Motor" "tripReason" "I", Cond.fieldLink RX2 59 "StarterBay$Motor" "lossSeconds" "I", Cond.methodLink RX2 62 arraycopyName, Cond.native arraycopyName, Cond.static arraycopyName, Cond.initialized "java/lang/System", Cond.methodLink RX3 45 yX4_copyFrom, Cond.instanceMethod yX4_copyFrom, Cond.selects RX4 yX4_copyFrom yX4_copyFrom]
def wsL_law_r6 : List Cond := [Cond.code yX4_copyFrom cX4_copyFrom 2 none, Cond.methodLink RX4 24 arraycopyName, Cond.fieldLink RX4 30 "StarterBay$Timetable" "size" "I", Cond.fieldLink RX4 34 "StarterBay$Timetable" "next" "I", Cond.methodLink RX3 48 yX0_copyFrom, Cond.instanceMethod yX0_copyFrom, Cond.selects RX0 yX0_copyFrom yX0_copyFrom, Cond.code yX0_copyFrom cX0_copyFrom 2 none, Cond.methodLink RX0 21 arraycopyName, Cond.fieldLink RX0 27 "StarterBay$EventLog" "total" "I", Cond.methodLink RL 76 yX6_restore, Cond.instanceMethod yX6_restore, Cond.selects RX6 yX6_restore yX6_restore, Cond.code yX6_restore cX6_restore 1 (some .int), Cond.fieldLink RX6 135 "StarterBay" "hasSnapshot" "Z", Cond.fieldLink RX6 98 "StarterBay$State" "clock" "I", Cond.methodLink RX6 57 yX1_record, Cond.instanceMethod yX1_record, Cond.selects RX1 yX1_record yX1_record, Cond.code yX1_record cX1_record 2 none, Cond.methodLink RX1 22 yX1_dropOldest, Cond.instanceMethod yX1_dropOldest, Cond.selects RX1 yX1_dropOldest yX1_dropOldest, Cond.code yX1_dropOldest cX1_dropOldest 3 none]
def wsL_law_r7 : List Cond := [Cond.methodLink RX6 133 yX3_copyFrom, Cond.methodLink RL 42 yX6_queue, Cond.instanceMethod yX6_queue, Cond.selects RX6 yX6_queue yX6_queue, Cond.code yX6_queue cX6_queue 3 (some .int), Cond.methodLink RX6 182 yX6_fillLine, Cond.instanceMethod yX6_fillLine, Cond.selects RX6 yX6_fillLine yX6_fillLine, Cond.code yX6_fillLine cX6_fillLine 4 (some .int), Cond.fieldLink RX6 49 "StarterBay$State" "motorCount" "I", Cond.fieldLink RX6 61 "StarterBay$State" "motors" "[LStarterBay$Motor;", Cond.fieldLink RX6 149 "StarterBay$Motor" "mode" "I", Cond.methodLink RX6 300 yX3_isAhead, Cond.instanceMethod yX3_isAhead, Cond.selects RX3 yX3_isAhead yX3_isAhead, Cond.code yX3_isAhead cX3_isAhead 7 (some .boolean), Cond.fieldLink RX3 71 "StarterBay$Motor" "requestedAt" "I", Cond.methodLink RX3 74 yX3_urgency, Cond.instanceMethod yX3_urgency, Cond.selects RX3 yX3_urgency yX3_urgency, Cond.code yX3_urgency cX3_urgency 2 (some .int), Cond.fieldLink RX3 68 "StarterBay$Motor" "need" "I", Cond.methodLink RL 79 yX6_request, Cond.instanceMethod yX6_request]
def wsL_law_r8 : List Cond := [Cond.selects RX6 yX6_request yX6_request, Cond.code yX6_request cX6_request 3 (some .int), Cond.methodLink RX6 81 yX6_callOrder, Cond.instanceMethod yX6_callOrder, Cond.selects RX6 yX6_callOrder yX6_callOrder, Cond.code yX6_callOrder cX6_callOrder 5 (some .int), Cond.methodLink RX6 240 yX6_checkOrder, Cond.instanceMethod yX6_checkOrder, Cond.selects RX6 yX6_checkOrder yX6_checkOrder, Cond.code yX6_checkOrder cX6_checkOrder 5 (some .int), Cond.fieldLink RX6 203 "StarterBay$State" "fan" "Z", Cond.methodLink RX6 71 yX3_find, Cond.instanceMethod yX3_find, Cond.selects RX3 yX3_find yX3_find, Cond.code yX3_find cX3_find 2 (some (.object "StarterBay$Motor")), Cond.methodLink RX6 53 yX6_refuse, Cond.instanceMethod yX6_refuse, Cond.selects RX6 yX6_refuse yX6_refuse, Cond.code yX6_refuse cX6_refuse 2 (some .int), Cond.fieldLink RX6 222 "StarterBay" "reason" "I", Cond.methodLink RX6 246 yX6_checkLoss, Cond.instanceMethod yX6_checkLoss, Cond.selects RX6 yX6_checkLoss yX6_checkLoss, Cond.code yX6_checkLoss cX6_checkLoss 3 (some .int)]
def wsL_law_r9 : List Cond := [Cond.fieldLink RX6 155 "StarterBay$Motor" "lost" "I", Cond.methodLink RX6 44 yX6_isOutside, Cond.static yX6_isOutside, Cond.code yX6_isOutside cX6_isOutside 3 (some .boolean), Cond.methodLink RX6 250 yX6_checkReset, Cond.instanceMethod yX6_checkReset, Cond.selects RX6 yX6_checkReset yX6_checkReset, Cond.code yX6_checkReset cX6_checkReset 2 (some .int), Cond.fieldLink RX6 152 "StarterBay$Motor" "heat" "I", Cond.fieldLink RX6 148 "StarterBay$Motor" "limit" "I", Cond.methodLink RX6 243 yX6_carryOut, Cond.instanceMethod yX6_carryOut, Cond.selects RX6 yX6_carryOut yX6_carryOut, Cond.code yX6_carryOut cX6_carryOut 5 (some .int), Cond.fieldLink RX6 161 "StarterBay$Motor" "requestedAt" "I", Cond.methodLink RX6 253 yX2_change, Cond.instanceMethod yX2_change, Cond.selects RX2 yX2_change yX2_change, Cond.code yX2_change cX2_change 3 (some .int), Cond.methodLink RX6 256 yX3_note, Cond.instanceMethod yX3_note, Cond.selects RX3 yX3_note yX3_note, Cond.code yX3_note cX3_note 3 none, Cond.fieldLink RX3 61 "StarterBay$Motor" "number" "I"]
def wsL_law_r10 : List Cond := [Cond.methodLink RX3 64 yX0_add, Cond.instanceMethod yX0_add, Cond.selects RX0 yX0_add yX0_add, Cond.code yX0_add cX0_add 5 none, Cond.methodLink RX0 31 yJ9_floorMod_7cf53, Cond.static yJ9_floorMod_7cf53, Cond.initialized RJ9, Cond.code yJ9_floorMod_7cf53 cJ9_floorMod_7cf53 3 (some .int), Cond.methodLink RX6 260 yX6_carryOutLoss, Cond.instanceMethod yX6_carryOutLoss, Cond.selects RX6 yX6_carryOutLoss yX6_carryOutLoss, Cond.code yX6_carryOutLoss cX6_carryOutLoss 4 (some .int), Cond.methodLink RX6 263 yX2_trip, Cond.instanceMethod yX2_trip, Cond.selects RX2 yX2_trip yX2_trip, Cond.code yX2_trip cX2_trip 2 (some .int), Cond.methodLink RX6 85 yX6_placeInLine, Cond.instanceMethod yX6_placeInLine, Cond.selects RX6 yX6_placeInLine yX6_placeInLine, Cond.code yX6_placeInLine cX6_placeInLine 4 (some .int), Cond.methodLink RL 28 yX6_event, Cond.instanceMethod yX6_event, Cond.selects RX6 yX6_event yX6_event, Cond.code yX6_event cX6_event 3 (some .int)]
def wsL_law_r11 : List Cond := [Cond.fieldLink RX6 189 "StarterBay$State" "events" "LStarterBay$EventLog;", Cond.methodLink RX6 193 yX0_tell, Cond.instanceMethod yX0_tell, Cond.selects RX0 yX0_tell yX0_tell, Cond.code yX0_tell cX0_tell 4 (some .int), Cond.methodLink RX0 37 Lib.Math.min.name, Cond.static Lib.Math.min.name, Cond.initialized "java/lang/Math", Cond.code Lib.Math.min.name Lib.Math.min.code 2 (some .int), Cond.methodLink RL 108 yX6_readTimetable, Cond.instanceMethod yX6_readTimetable, Cond.selects RX6 yX6_readTimetable yX6_readTimetable, Cond.code yX6_readTimetable cX6_readTimetable 1 (some .int), Cond.fieldLink RX6 112 "StarterBay$TimetableText" "at" "I", Cond.fieldLink RX6 115 "StarterBay$State" "timetable" "LStarterBay$Timetable;", Cond.methodLink RX6 108 yX5_readInto, Cond.instanceMethod yX5_readInto, Cond.selects RX5 yX5_readInto yX5_readInto, Cond.code yX5_readInto cX5_readInto 4 (some .boolean), Cond.fieldLink RX5 15 "StarterBay$TimetableText" "at" "I", Cond.fieldLink RX5 19 "StarterBay$TimetableText" "time" "I", Cond.fieldLink RX5 27 "StarterBay$TimetableText" "length" "I", Cond.fieldLink RX5 34 "StarterBay$TimetableText" "order" "I", Cond.fieldLink RX5 37 "StarterBay$TimetableText" "first" "I"]
def wsL_law_r12 : List Cond := [Cond.fieldLink RX5 40 "StarterBay$TimetableText" "second" "I", Cond.methodLink RX5 22 yX4_empty, Cond.instanceMethod yX4_empty, Cond.selects RX4 yX4_empty yX4_empty, Cond.code yX4_empty cX4_empty 1 none, Cond.methodLink RX5 30 yX5_readItem, Cond.instanceMethod yX5_readItem, Cond.selects RX5 yX5_readItem yX5_readItem, Cond.code yX5_readItem cX5_readItem 1 (some .boolean), Cond.methodLink RX5 47 yX5_readTime, Cond.instanceMethod yX5_readTime, Cond.selects RX5 yX5_readTime yX5_readTime, Cond.code yX5_readTime cX5_readTime 5 (some .boolean), Cond.methodLink RX5 59 yX5_partEnd, Cond.instanceMethod yX5_partEnd, Cond.selects RX5 yX5_partEnd yX5_partEnd, Cond.code yX5_partEnd cX5_partEnd 2 (some .int), Cond.methodLink RX5 50 yX5_readBlank, Cond.instanceMethod yX5_readBlank, Cond.selects RX5 yX5_readBlank yX5_readBlank, Cond.code yX5_readBlank cX5_readBlank 1 (some .boolean), Cond.methodLink RX5 53 yX5_readOrder, Cond.instanceMethod yX5_readOrder, Cond.selects RX5 yX5_readOrder yX5_readOrder]
def wsL_law_r13 : List Cond := [Cond.code yX5_readOrder cX5_readOrder 3 (some .boolean), Cond.methodLink RX5 67 yX5_wordOf, Cond.static yX5_wordOf, Cond.code yX5_wordOf cX5_wordOf 1 (some (.object "java/lang/String")), Cond.methodLink RX5 71 yX5_isPart, Cond.instanceMethod yX5_isPart, Cond.selects RX5 yX5_isPart yX5_isPart, Cond.code yX5_isPart cX5_isPart 4 (some .boolean), Cond.methodLink RX5 85 yJ0_length_8abf5, Cond.instanceMethod yJ0_length_8abf5, Cond.selects RJ0 yJ0_length_8abf5 yJ0_length_8abf5, Cond.initialized RJ0, Cond.code yJ0_length_8abf5 cJ0_length_8abf5 1 (some .int), Cond.fieldLink RJ0 9 "java/lang/String" "value" "[B", Cond.methodLink RJ0 335 yJ0_coder_7d493, Cond.instanceMethod yJ0_coder_7d493, Cond.selects RJ0 yJ0_coder_7d493 yJ0_coder_7d493, Cond.code yJ0_coder_7d493 cJ0_coder_7d493 1 (some .byte), Cond.fieldLink RJ0 38 "java/lang/String" "COMPACT_STRINGS" "Z", Cond.fieldLink RJ0 15 "java/lang/String" "coder" "B", Cond.methodLink RX5 89 yJ0_charAt_5068e, Cond.instanceMethod yJ0_charAt_5068e, Cond.selects RJ0 yJ0_charAt_5068e yJ0_charAt_5068e, Cond.code yJ0_charAt_5068e cJ0_charAt_5068e 2 (some .char)]
def wsL_law_r14 : List Cond := [Cond.methodLink RJ0 492 yJ0_isLatin1_aae02, Cond.instanceMethod yJ0_isLatin1_aae02, Cond.selects RJ0 yJ0_isLatin1_aae02 yJ0_isLatin1_aae02, Cond.code yJ0_isLatin1_aae02 cJ0_isLatin1_aae02 1 (some .boolean), Cond.methodLink RJ0 495 yJ1_charAt_3b067, Cond.static yJ1_charAt_3b067, Cond.initialized RJ1, Cond.code yJ1_charAt_3b067 cJ1_charAt_3b067 2 (some .char), Cond.methodLink RJ1 9 yJ0_checkIndex_df160, Cond.static yJ0_checkIndex_df160, Cond.code yJ0_checkIndex_df160 cJ0_checkIndex_df160 2 none, Cond.fieldLink RJ0 1053 "jdk/internal/util/Preconditions" "SIOOBE_FORMATTER" "Ljava/util/function/BiFunction;", Cond.methodLink RJ0 1059 yJ3_checkIndex_8e157, Cond.static yJ3_checkIndex_8e157, Cond.initialized RJ3, Cond.code yJ3_checkIndex_8e157 cJ3_checkIndex_8e157 3 (some .int), Cond.methodLink RJ0 498 yJ2_charAt_3b067, Cond.static yJ2_charAt_3b067, Cond.initialized RJ2, Cond.code yJ2_charAt_3b067 cJ2_charAt_3b067 2 (some .char), Cond.methodLink RJ2 67 yJ2_checkIndex_2214a, Cond.static yJ2_checkIndex_2214a, Cond.code yJ2_checkIndex_2214a cJ2_checkIndex_2214a 2 none, Cond.methodLink RJ2 48 yJ2_length_9d52b]
def wsL_law_r15 : List Cond := [Cond.static yJ2_length_9d52b, Cond.code yJ2_length_9d52b cJ2_length_9d52b 1 (some .int), Cond.methodLink RJ2 414 yJ0_checkIndex_df160, Cond.methodLink RJ2 71 yJ2_getChar_3b067, Cond.static yJ2_getChar_3b067, Cond.code yJ2_getChar_3b067 cJ2_getChar_3b067 2 (some .char), Cond.fieldLink RJ2 44 "java/lang/StringUTF16" "$assertionsDisabled" "Z", Cond.fieldLink RJ2 59 "java/lang/StringUTF16" "HI_BYTE_SHIFT" "I", Cond.fieldLink RJ2 63 "java/lang/StringUTF16" "LO_BYTE_SHIFT" "I", Cond.methodLink RX5 56 yX5_readNumbers, Cond.instanceMethod yX5_readNumbers, Cond.selects RX5 yX5_readNumbers yX5_readNumbers, Cond.code yX5_readNumbers cX5_readNumbers 1 (some .boolean), Cond.methodLink RX5 93 yX5_readDigit, Cond.instanceMethod yX5_readDigit, Cond.selects RX5 yX5_readDigit yX5_readDigit, Cond.code yX5_readDigit cX5_readDigit 4 (some .int), Cond.methodLink RX5 43 yX4_add, Cond.instanceMethod yX4_add, Cond.selects RX4 yX4_add yX4_add, Cond.code yX4_add cX4_add 5 none, Cond.methodLink RX6 118 yX4_copyFrom, Cond.methodLink RX6 122 yX4_left, Cond.instanceMethod yX4_left]
def wsL_law_r16 : List Cond := [Cond.selects RX4 yX4_left yX4_left, Cond.code yX4_left cX4_left 1 (some .int), Cond.methodLink RL 13 yX6_count, Cond.instanceMethod yX6_count, Cond.selects RX6 yX6_count yX6_count, Cond.code yX6_count cX6_count 2 (some .int), Cond.fieldLink RX6 78 "StarterBay$State" "limit" "I", Cond.fieldLink RX6 225 "StarterBay$State" "refusedItems" "I", Cond.fieldLink RX6 237 "StarterBay$EventLog" "total" "I", Cond.fieldLink RX6 101 "StarterBay$TimetableText" "length" "I", Cond.methodLink RX6 219 yX3_motorsInMode, Cond.instanceMethod yX3_motorsInMode, Cond.selects RX3 yX3_motorsInMode yX3_motorsInMode, Cond.code yX3_motorsInMode cX3_motorsInMode 4 (some .int), Cond.fieldLink RX3 94 "StarterBay$Motor" "mode" "I", Cond.methodLink RX6 228 yX3_sumOfAccount, Cond.instanceMethod yX3_sumOfAccount, Cond.selects RX3 yX3_sumOfAccount yX3_sumOfAccount, Cond.code yX3_sumOfAccount cX3_sumOfAccount 4 (some .int), Cond.fieldLink RX3 100 "StarterBay$Motor" "accounts" "[I", Cond.methodLink RX6 231 yX3_sumOfHeat, Cond.instanceMethod yX3_sumOfHeat, Cond.selects RX3 yX3_sumOfHeat yX3_sumOfHeat, Cond.code yX3_sumOfHeat cX3_sumOfHeat 3 (some .int)]
def wsL_law_r17 : List Cond := [Cond.fieldLink RX3 104 "StarterBay$Motor" "heat" "I", Cond.methodLink RX6 234 yX3_sumOfDraws, Cond.instanceMethod yX3_sumOfDraws, Cond.selects RX3 yX3_sumOfDraws yX3_sumOfDraws, Cond.code yX3_sumOfDraws cX3_sumOfDraws 3 (some .int), Cond.methodLink RX3 97 yX2_draw, Cond.instanceMethod yX2_draw, Cond.selects RX2 yX2_draw yX2_draw, Cond.code yX2_draw cX2_draw 1 (some .int), Cond.methodLink RX2 68 yX2_peak, Cond.instanceMethod yX2_peak, Cond.selects RX2 yX2_peak yX2_peak, Cond.code yX2_peak cX2_peak 1 (some .int), Cond.static yX6_rampCurrent, Cond.code yX6_rampCurrent cX6_rampCurrent 3 (some .int), Cond.methodLink RL 65 yX6_pass, Cond.instanceMethod yX6_pass, Cond.selects RX6 yX6_pass yX6_pass, Cond.code yX6_pass cX6_pass 4 (some .int), Cond.methodLink RX6 88 yX6_carryOutDueItems, Cond.instanceMethod yX6_carryOutDueItems, Cond.selects RX6 yX6_carryOutDueItems yX6_carryOutDueItems, Cond.code yX6_carryOutDueItems cX6_carryOutDueItems 3 none, Cond.fieldLink RX6 266 "StarterBay$Timetable" "next" "I"]
def wsL_law_r18 : List Cond := [Cond.fieldLink RX6 269 "StarterBay$Timetable" "size" "I", Cond.fieldLink RX6 270 "StarterBay$Timetable" "due" "[I", Cond.fieldLink RX6 273 "StarterBay$Timetable" "order" "[I", Cond.fieldLink RX6 276 "StarterBay$Timetable" "first" "[I", Cond.fieldLink RX6 279 "StarterBay$Timetable" "second" "[I", Cond.methodLink RX6 282 yX6_carryOutItem, Cond.instanceMethod yX6_carryOutItem, Cond.selects RX6 yX6_carryOutItem yX6_carryOutItem, Cond.code yX6_carryOutItem cX6_carryOutItem 5 none, Cond.methodLink RX6 91 yX6_startFirstThatCan, Cond.instanceMethod yX6_startFirstThatCan, Cond.selects RX6 yX6_startFirstThatCan yX6_startFirstThatCan, Cond.code yX6_startFirstThatCan cX6_startFirstThatCan 4 (some .boolean), Cond.fieldLink RX6 158 "StarterBay$Motor" "rampSeconds" "I", Cond.fieldLink RX6 179 "StarterBay$Motor" "accounts" "[I", Cond.methodLink RX6 185 yX3_reasonAgainst, Cond.instanceMethod yX3_reasonAgainst, Cond.selects RX3 yX3_reasonAgainst yX3_reasonAgainst, Cond.code yX3_reasonAgainst cX3_reasonAgainst 2 (some .int), Cond.fieldLink RX3 78 "StarterBay$Motor" "lost" "I", Cond.fieldLink RX3 85 "StarterBay$Motor" "heatToStart" "I", Cond.methodLink RX3 81 yX2_credit, Cond.instanceMethod yX2_credit, Cond.selects RX2 yX2_credit yX2_credit]
def wsL_law_r19 : List Cond := [Cond.code yX2_credit cX2_credit 1 (some .int), Cond.methodLink RX3 88 yX2_peak, Cond.methodLink RX3 91 yX3_takenCurrent, Cond.instanceMethod yX3_takenCurrent, Cond.selects RX3 yX3_takenCurrent yX3_takenCurrent, Cond.code yX3_takenCurrent cX3_takenCurrent 4 (some .int), Cond.methodLink RX6 286 yX6_passOver, Cond.instanceMethod yX6_passOver, Cond.selects RX6 yX6_passOver yX6_passOver, Cond.code yX6_passOver cX6_passOver 3 none, Cond.methodLink RX6 95 yX6_heatMotors, Cond.instanceMethod yX6_heatMotors, Cond.selects RX6 yX6_heatMotors yX6_heatMotors, Cond.code yX6_heatMotors cX6_heatMotors 3 none, Cond.methodLink RX6 290 yX2_countSecond, Cond.instanceMethod yX2_countSecond, Cond.selects RX2 yX2_countSecond yX2_countSecond, Cond.code yX2_countSecond cX2_countSecond 1 none, Cond.methodLink RX2 76 yX2_turns, Cond.instanceMethod yX2_turns, Cond.selects RX2 yX2_turns yX2_turns, Cond.code yX2_turns cX2_turns 1 (some .boolean), Cond.methodLink RX6 293 yX2_exchangeHeat, Cond.instanceMethod yX2_exchangeHeat]
def wsL_law_r20 : List Cond := [Cond.selects RX2 yX2_exchangeHeat yX2_exchangeHeat, Cond.code yX2_exchangeHeat cX2_exchangeHeat 4 none, Cond.methodLink RX2 80 yX2_draw, Cond.static yX6_heatOf, Cond.code yX6_heatOf cX6_heatOf 1 (some .int), Cond.static yX6_givenOff, Cond.code yX6_givenOff cX6_givenOff 4 (some .int), Cond.methodLink RX6 297 yX2_endSecond, Cond.instanceMethod yX2_endSecond, Cond.selects RX2 yX2_endSecond yX2_endSecond, Cond.code yX2_endSecond cX2_endSecond 1 (some .int), Cond.methodLink RX2 91 yX2_trip, Cond.methodLink RL 111 yL_cell, Cond.static yL_cell, Cond.initialized RL, Cond.code yL_cell cL_cell 2 (some .int), Cond.constant RL 7 (2330011), Cond.methodLink RL 85 yL_low, Cond.static yL_low, Cond.code yL_low cL_low 2 (some .int), Cond.constant RL 8 (2147483647), Cond.methodLink RL 72 yL_digest, Cond.static yL_digest, Cond.code yL_digest cL_digest 5 (some .long)]
def wsL_law_r21 : List Cond := [Cond.constantLong RL 9 (47), Cond.constantLong RL 11 (31), Cond.constantLong RL 26 (100), Cond.constantLong RL 31 (10), Cond.methodLink RL 19 yX6_motor, Cond.instanceMethod yX6_motor, Cond.selects RX6 yX6_motor yX6_motor, Cond.code yX6_motor cX6_motor 4 (some .int), Cond.fieldLink RX6 139 "StarterBay$Motor" "rated" "I", Cond.fieldLink RX6 142 "StarterBay$Motor" "ramp" "I", Cond.fieldLink RX6 145 "StarterBay$Motor" "factor" "I", Cond.fieldLink RX6 75 "StarterBay$Motor" "need" "I", Cond.fieldLink RX6 167 "StarterBay$Motor" "tripReason" "I", Cond.methodLink RX6 173 Lib.Math.max.name, Cond.static Lib.Math.max.name, Cond.code Lib.Math.max.name Lib.Math.max.code 2 (some .int), Cond.methodLink RX6 164 yX2_draw, Cond.methodLink RX6 170 yX2_credit, Cond.methodLink RL 23 yX6_account, Cond.instanceMethod yX6_account, Cond.selects RX6 yX6_account yX6_account, Cond.code yX6_account cX6_account 4 (some .int), Cond.methodLink RL 115 yX6_addMotor, Cond.instanceMethod yX6_addMotor]
def wsL_law_r22 : List Cond := [Cond.selects RX6 yX6_addMotor yX6_addMotor, Cond.code yX6_addMotor cX6_addMotor 6 (some .int), Cond.constant RX6 48 (60000), Cond.methodLink RX6 65 yX2_begin, Cond.instanceMethod yX2_begin, Cond.selects RX2 yX2_begin yX2_begin, Cond.code yX2_begin cX2_begin 6 none, Cond.static yX6_heatOfStart, Cond.code yX6_heatOfStart cX6_heatOfStart 4 (some .int), Cond.methodLink RX6 304 yX6_rampCurrent, Cond.methodLink RX6 210 yX6_heatOf, Cond.methodLink RL 119 yL_sets, Cond.static yL_sets, Cond.code yL_sets cL_sets 6 (some .boolean), Cond.methodLink RL 94 yX6_setNeed, Cond.instanceMethod yX6_setNeed, Cond.selects RX6 yX6_setNeed yX6_setNeed, Cond.code yX6_setNeed cX6_setNeed 5 (some .int), Cond.methodLink RL 97 yX6_setLimit, Cond.instanceMethod yX6_setLimit, Cond.selects RX6 yX6_setLimit yX6_setLimit, Cond.code yX6_setLimit cX6_setLimit 3 (some .int), Cond.methodLink RL 100 yX6_setFan, Cond.instanceMethod yX6_setFan]
def wsL_law_r23 : List Cond := [Cond.selects RX6 yX6_setFan yX6_setFan, Cond.code yX6_setFan cX6_setFan 2 (some .int), Cond.methodLink RL 123 yL_orders, Cond.static yL_orders, Cond.code yL_orders cL_orders 9 (some .boolean), Cond.methodLink RL 82 yX6_stop, Cond.instanceMethod yX6_stop, Cond.selects RX6 yX6_stop yX6_stop, Cond.code yX6_stop cX6_stop 2 (some .int), Cond.methodLink RL 88 yX6_losePhases, Cond.instanceMethod yX6_losePhases, Cond.selects RX6 yX6_losePhases yX6_losePhases, Cond.code yX6_losePhases cX6_losePhases 3 (some .int), Cond.methodLink RL 91 yX6_reset, Cond.instanceMethod yX6_reset, Cond.selects RX6 yX6_reset yX6_reset, Cond.code yX6_reset cX6_reset 2 (some .int), Cond.methodLink RL 126 yL_parts, Cond.static yL_parts, Cond.code yL_parts cL_parts 8 (some .boolean), Cond.methodLink RL 68 yX6_keep, Cond.instanceMethod yX6_keep, Cond.selects RX6 yX6_keep yX6_keep, Cond.code yX6_keep cX6_keep 1 (some .int)]
def wsL_law_r24 : List Cond := [Cond.methodLink RL 130 yL_second, Cond.static yL_second, Cond.code yL_second cL_second 8 (some .boolean), Cond.methodLink RL 51 yX6_whyNot, Cond.instanceMethod yX6_whyNot, Cond.selects RX6 yX6_whyNot yX6_whyNot, Cond.code yX6_whyNot cX6_whyNot 3 (some .int), Cond.methodLink RL 61 yL_passedOver, Cond.static yL_passedOver, Cond.code yL_passedOver cL_passedOver 3 (some .int), Cond.methodLink RL 133 yL_sound, Cond.static yL_sound, Cond.code yL_sound cL_sound 8 (some .boolean), Cond.methodLink RL 39 yX6_startHeat, Cond.instanceMethod yX6_startHeat, Cond.selects RX6 yX6_startHeat yX6_startHeat, Cond.code yX6_startHeat cX6_startHeat 3 (some .int), Cond.fieldLink RX6 200 "StarterBay$Motor" "heatToStart" "I", Cond.methodLink RL 48 yL_heatOf, Cond.static yL_heatOf, Cond.code yL_heatOf cL_heatOf 6 (some .int), Cond.methodLink RL 33 yL_peak, Cond.static yL_peak, Cond.code yL_peak cL_peak 2 (some .int)]
def wsL_law_r25 : List Cond := [Cond.methodLink RL 54 yL_why, Cond.static yL_why, Cond.code yL_why cL_why 5 (some .int), Cond.methodLink RL 57 yL_lines, Cond.static yL_lines, Cond.code yL_lines cL_lines 8 (some .boolean), Cond.methodLink RL 45 yL_urgency, Cond.static yL_urgency, Cond.code yL_urgency cL_urgency 2 (some .int)]
def wsL_law : List Cond := (wsL_law_r1 ++ (wsL_law_r2 ++ (wsL_law_r3 ++ (wsL_law_r4 ++ (wsL_law_r5 ++ (wsL_law_r6 ++ (wsL_law_r7 ++ (wsL_law_r8 ++ (wsL_law_r9 ++ (wsL_law_r10 ++ (wsL_law_r11 ++ (wsL_law_r12 ++ (wsL_law_r13 ++ (wsL_law_r14 ++ (wsL_law_r15 ++ (wsL_law_r16 ++ (wsL_law_r17 ++ (wsL_law_r18 ++ (wsL_law_r19 ++ (wsL_law_r20 ++ (wsL_law_r21 ++ (wsL_law_r22 ++ (wsL_law_r23 ++ (wsL_law_r24 ++ wsL_law_r25)))))))))))))))))))))))) ++ wsX60 ++ wsX30 ++ wsX10 ++ wsX50 ++ wsX40 ++ wsX20 ++ wsX00 ++ ([] : List Cond)
abbrev vwCl : List vw_C := [(RX0, TX0, 4), (RX1, TX1, 2), (RX2, TX2, 15), (RX3, TX3, 8), (RX4, TX4, 6), (RX5, TX5, 7), (RX6, TX6, 8)]
-- the places of the words
set_option maxRecDepth 20000 in
theorem bt_1 : ∀ w ∈ wsL_law_r1, w ∈ lw_tbl := List.forall_mem_cons.mpr ⟨List.mem_of_getElem? (i := 37) (by decide +kernel), List.forall_mem_cons.mpr ⟨List.mem_of_getElem? (i := 38) (by decide +kernel), List.forall_mem_cons.mpr ⟨List.mem_of_getElem? (i := 24) (by decide +kernel), List.forall_mem_cons.mpr ⟨List.mem_of_getElem? (i := 39) (by decide +kernel), List.forall_mem_cons.mpr ⟨List.mem_of_getElem? (i := 40) (by decide +kernel), List.forall_mem_cons.mpr ⟨List.mem_of_getElem? (i := 41) (by decide +kernel), List.forall_mem_cons.mpr ⟨List.mem_of_getElem? (i := 42) (by decide +kernel), List.forall_mem_cons.mpr ⟨List.mem_of_getElem? (i := 43) (by decide +kernel), List.forall_mem_cons.mpr ⟨List.mem_of_getElem? (i := 44) (by decide +kernel), List.forall_mem_cons.mpr ⟨List.mem_of_getElem? (i := 45) (by decide +kernel), List.forall_mem_cons.mpr ⟨List.mem_of_getElem? (i := 46) (by decide +kernel), List.forall_mem_cons.mpr ⟨List.mem_of_getElem? (i := 25) (by decide +kernel), List.forall_mem_cons.mpr ⟨List.mem_of_getElem? (i := 260) (by decide +kernel), List.forall_mem_cons.mpr ⟨List.mem_of_getElem? (i := 210) (by decide +kernel), List.forall_mem_cons.mpr ⟨List.mem_of_getElem? (i := 211) (by decide +kernel), List.forall_mem_cons.mpr ⟨List.mem_of_getElem? (i := 29) (by decide +kernel), List.forall_mem_cons.mpr ⟨List.mem_of_getElem? (i := 261) (by decide +kernel), List.forall_mem_cons.mpr ⟨List.mem_of_getElem? (i := 262) (by decide +kernel), List.forall_mem_cons.mpr ⟨List.mem_of_getElem? (i := 227) (by decide +kernel), List.forall_mem_cons.mpr ⟨List.mem_of_getElem? (i := 228) (by decide +kernel), List.forall_mem_cons.mpr ⟨List.mem_of_getElem? (i := 30) (by decide +kernel), List.forall_mem_cons.mpr ⟨List.mem_of_getElem? (i := 264) (by decide +kernel), List.forall_mem_cons.mpr ⟨List.mem_of_getElem? (i := 258) (by decide +kernel), List.forall_mem_cons.mpr ⟨List.mem_of_getElem? (i := 127) (by decide +kernel), fun w h => absurd h List.not_mem_nil⟩⟩⟩⟩⟩⟩⟩⟩⟩⟩⟩⟩⟩⟩⟩⟩⟩⟩⟩⟩⟩⟩⟩⟩
theorem bg_1 : wsL_law_r1.all goodWord = true := by decide +kernel
set_option maxRecDepth 20000 in
theorem bt_2 : ∀ w ∈ wsL_law_r2, w ∈ lw_tbl := List.forall_mem_cons.mpr ⟨List.mem_of_getElem? (i := 27) (by decide +kernel), List.forall_mem_cons.mpr ⟨List.mem_of_getElem? (i := 265) (by decide +kernel), List.forall_mem_cons.mpr ⟨List.mem_of_getElem? (i := 125) (by decide +kernel), List.forall_mem_cons.mpr ⟨List.mem_of_getElem? (i := 266) (by decide +kernel), List.forall_mem_cons.mpr ⟨List.mem_of_getElem? (i := 47) (by decide +kernel), List.forall_mem_cons.mpr ⟨List.mem_of_getElem? (i := 48) (by decide +kernel), List.forall_mem_cons.mpr ⟨List.mem_of_getElem? (i := 49) (by decide +kernel), List.forall_mem_cons.mpr ⟨List.mem_of_getElem? (i := 50) (by decide +kernel), List.forall_mem_cons.mpr ⟨List.mem_of_getElem? (i := 51) (by decide +kernel), List.forall_mem_cons.mpr ⟨List.mem_of_getElem? (i := 177) (by decide +kernel), List.forall_mem_cons.mpr ⟨List.mem_of_getElem? (i := 53) (by decide +kernel), List.forall_mem_cons.mpr ⟨List.mem_of_getElem? (i := 26) (by decide +kernel), List.forall_mem_cons.mpr ⟨List.mem_of_getElem? (i := 126) (by decide +kernel), List.forall_mem_cons.mpr ⟨List.mem_of_getElem? (i := 179) (by decide +kernel), List.forall_mem_cons.mpr ⟨List.mem_of_getElem? (i := 157) (by decide +kernel), List.forall_mem_cons.mpr ⟨List.mem_of_getElem? (i := 158) (by decide +kernel), List.forall_mem_cons.mpr ⟨List.mem_of_getElem? (i := 28) (by decide +kernel), List.forall_mem_cons.mpr ⟨List.mem_of_getElem? (i := 181) (by decide +kernel), List.forall_mem_cons.mpr ⟨List.mem_of_getElem? (i := 187) (by decide +kernel), List.forall_mem_cons.mpr ⟨List.mem_of_getElem? (i := 54) (by decide +kernel), List.forall_mem_cons.mpr ⟨List.mem_of_getElem? (i := 55) (by decide +kernel), List.forall_mem_cons.mpr ⟨List.mem_of_getElem? (i := 56) (by decide +kernel), List.forall_mem_cons.mpr ⟨List.mem_of_getElem? (i := 57) (by decide +kernel), List.forall_mem_cons.mpr ⟨List.mem_of_getElem? (i := 58) (by decide +kernel), fun w h => absurd h List.not_mem_nil⟩⟩⟩⟩⟩⟩⟩⟩⟩⟩⟩⟩⟩⟩⟩⟩⟩⟩⟩⟩⟩⟩⟩⟩
theorem bg_2 : wsL_law_r2.all goodWord = true := by decide +kernel
set_option maxRecDepth 20000 in
theorem bt_3 : ∀ w ∈ wsL_law_r3, w ∈ lw_tbl := List.forall_mem_cons.mpr ⟨List.mem_of_getElem? (i := 60) (by decide +kernel), List.forall_mem_cons.mpr ⟨List.mem_of_getElem? (i := 128) (by decide +kernel), List.forall_mem_cons.mpr ⟨List.mem_of_getElem? (i := 129) (by decide +kernel), List.forall_mem_cons.mpr ⟨List.mem_of_getElem? (i := 130) (by decide +kernel), List.forall_mem_cons.mpr ⟨List.mem_of_getElem? (i := 131) (by decide +kernel), List.forall_mem_cons.mpr ⟨List.mem_of_getElem? (i := 132) (by decide +kernel), List.forall_mem_cons.mpr ⟨List.mem_of_getElem? (i := 134) (by decide +kernel), List.forall_mem_cons.mpr ⟨List.mem_of_getElem? (i := 136) (by decide +kernel), List.forall_mem_cons.mpr ⟨List.mem_of_getElem? (i := 138) (by decide +kernel), List.forall_mem_cons.mpr ⟨List.mem_of_getElem? (i := 159) (by decide +kernel), List.forall_mem_cons.mpr ⟨List.mem_of_getElem? (i := 160) (by decide +kernel), List.forall_mem_cons.mpr ⟨List.mem_of_getElem? (i := 161) (by decide +kernel), List.forall_mem_cons.mpr ⟨List.mem_of_getElem? (i := 162) (by decide +kernel), List.forall_mem_cons.mpr ⟨List.mem_of_getElem? (i := 163) (by decide +kernel), List.forall_mem_cons.mpr ⟨List.mem_of_getElem? (i := 164) (by decide +kernel), List.forall_mem_cons.mpr ⟨List.mem_of_getElem? (i := 165) (by decide +kernel), List.forall_mem_cons.mpr ⟨List.mem_of_getElem? (i := 212) (by decide +kernel), List.forall_mem_cons.mpr ⟨List.mem_of_getElem? (i := 213) (by decide +kernel), List.forall_mem_cons.mpr ⟨List.mem_of_getElem? (i := 214) (by decide +kernel), List.forall_mem_cons.mpr ⟨List.mem_of_getElem? (i := 215) (by decide +kernel), List.forall_mem_cons.mpr ⟨List.mem_of_getElem? (i := 216) (by decide +kernel), List.forall_mem_cons.mpr ⟨List.mem_of_getElem? (i := 219) (by decide +kernel), List.forall_mem_cons.mpr ⟨List.mem_of_getElem? (i := 218) (by decide +kernel), List.forall_mem_cons.mpr ⟨List.mem_of_getElem? (i := 229) (by decide +kernel), fun w h => absurd h List.not_mem_nil⟩⟩⟩⟩⟩⟩⟩⟩⟩⟩⟩⟩⟩⟩⟩⟩⟩⟩⟩⟩⟩⟩⟩⟩
theorem bg_3 : wsL_law_r3.all goodWord = true := by decide +kernel
set_option maxRecDepth 20000 in
theorem bt_4 : ∀ w ∈ wsL_law_r4, w ∈ lw_tbl := List.forall_mem_cons.mpr ⟨List.mem_of_getElem? (i := 230) (by decide +kernel), List.forall_mem_cons.mpr ⟨List.mem_of_getElem? (i := 231) (by decide +kernel), List.forall_mem_cons.mpr ⟨List.mem_of_getElem? (i := 232) (by decide +kernel), List.forall_mem_cons.mpr ⟨List.mem_of_getElem? (i := 257) (by decide +kernel), List.forall_mem_cons.mpr ⟨List.mem_of_getElem? (i := 233) (by decide +kernel), List.forall_mem_cons.mpr ⟨List.mem_of_getElem? (i := 259) (by decide +kernel), List.forall_mem_cons.mpr ⟨List.mem_of_getElem? (i := 585) (by decide +kernel), List.forall_mem_cons.mpr ⟨List.mem_of_getElem? (i := 586) (by decide +kernel), List.forall_mem_cons.mpr ⟨List.mem_of_getElem? (i := 587) (by decide +kernel), List.forall_mem_cons.mpr ⟨List.mem_of_getElem? (i := 588) (by decide +kernel), List.forall_mem_cons.mpr ⟨List.mem_of_getElem? (i := 221) (by decide +kernel), List.forall_mem_cons.mpr ⟨List.mem_of_getElem? (i := 589) (by decide +kernel), List.forall_mem_cons.mpr ⟨List.mem_of_getElem? (i := 590) (by decide +kernel), List.forall_mem_cons.mpr ⟨List.mem_of_getElem? (i := 591) (by decide +kernel), List.forall_mem_cons.mpr ⟨List.mem_of_getElem? (i := 592) (by decide +kernel), List.forall_mem_cons.mpr ⟨List.mem_of_getElem? (i := 220) (by decide +kernel), List.forall_mem_cons.mpr ⟨List.mem_of_getElem? (i := 305) (by decide +kernel), List.forall_mem_cons.mpr ⟨List.mem_of_getElem? (i := 306) (by decide +kernel), List.forall_mem_cons.mpr ⟨List.mem_of_getElem? (i := 307) (by decide +kernel), List.forall_mem_cons.mpr ⟨List.mem_of_getElem? (i := 308) (by decide +kernel), List.forall_mem_cons.mpr ⟨List.mem_of_getElem? (i := 183) (by decide +kernel), List.forall_mem_cons.mpr ⟨List.mem_of_getElem? (i := 185) (by decide +kernel), List.forall_mem_cons.mpr ⟨List.mem_of_getElem? (i := 189) (by decide +kernel), List.forall_mem_cons.mpr ⟨List.mem_of_getElem? (i := 191) (by decide +kernel), fun w h => absurd h List.not_mem_nil⟩⟩⟩⟩⟩⟩⟩⟩⟩⟩⟩⟩⟩⟩⟩⟩⟩⟩⟩⟩⟩⟩⟩⟩
theorem bg_4 : wsL_law_r4.all goodWord = true := by decide +kernel
set_option maxRecDepth 20000 in
theorem bt_5 : ∀ w ∈ wsL_law_r5, w ∈ lw_tbl := List.forall_mem_cons.mpr ⟨List.mem_of_getElem? (i := 309) (by decide +kernel), List.forall_mem_cons.mpr ⟨List.mem_of_getElem? (i := 310) (by decide +kernel), List.forall_mem_cons.mpr ⟨List.mem_of_getElem? (i := 311) (by decide +kernel), List.forall_mem_cons.mpr ⟨List.mem_of_getElem? (i := 312) (by decide +kernel), List.forall_mem_cons.mpr ⟨List.mem_of_getElem? (i := 63) (by decide +kernel), List.forall_mem_cons.mpr ⟨List.mem_of_getElem? (i := 65) (by decide +kernel), List.forall_mem_cons.mpr ⟨List.mem_of_getElem? (i := 67) (by decide +kernel), List.forall_mem_cons.mpr ⟨List.mem_of_getElem? (i := 69) (by decide +kernel), List.forall_mem_cons.mpr ⟨List.mem_of_getElem? (i := 71) (by decide +kernel), List.forall_mem_cons.mpr ⟨List.mem_of_getElem? (i := 74) (by decide +kernel), List.forall_mem_cons.mpr ⟨List.mem_of_getElem? (i := 77) (by decide +kernel), List.forall_mem_cons.mpr ⟨List.mem_of_getElem? (i := 80) (by decide +kernel), List.forall_mem_cons.mpr ⟨List.mem_of_getElem? (i := 83) (by decide +kernel), List.forall_mem_cons.mpr ⟨List.mem_of_getElem? (i := 86) (by decide +kernel), List.forall_mem_cons.mpr ⟨List.mem_of_getElem? (i := 88) (by decide +kernel), List.forall_mem_cons.mpr ⟨List.mem_of_getElem? (i := 91) (by decide +kernel), List.forall_mem_cons.mpr ⟨List.mem_of_getElem? (i := 93) (by decide +kernel), List.forall_mem_cons.mpr ⟨List.mem_of_getElem? (i := 313) (by decide +kernel), List.forall_mem_cons.mpr ⟨List.mem_of_getElem? (i := 315) (by decide +kernel), List.forall_mem_cons.mpr ⟨List.mem_of_getElem? (i := 314) (by decide +kernel), List.forall_mem_cons.mpr ⟨List.mem_of_getElem? (i := 31) (by decide +kernel), List.forall_mem_cons.mpr ⟨List.mem_of_getElem? (i := 316) (by decide +kernel), List.forall_mem_cons.mpr ⟨List.mem_of_getElem? (i := 317) (by decide +kernel), List.forall_mem_cons.mpr ⟨List.mem_of_getElem? (i := 318) (by decide +kernel), fun w h => absurd h List.not_mem_nil⟩⟩⟩⟩⟩⟩⟩⟩⟩⟩⟩⟩⟩⟩⟩⟩⟩⟩⟩⟩⟩⟩⟩⟩
theorem bg_5 : wsL_law_r5.all goodWord = true := by decide +kernel
set_option maxRecDepth 20000 in
theorem bt_6 : ∀ w ∈ wsL_law_r6, w ∈ lw_tbl := List.forall_mem_cons.mpr ⟨List.mem_of_getElem? (i := 319) (by decide +kernel), List.forall_mem_cons.mpr ⟨List.mem_of_getElem? (i := 320) (by decide +kernel), List.forall_mem_cons.mpr ⟨List.mem_of_getElem? (i := 140) (by decide +kernel), List.forall_mem_cons.mpr ⟨List.mem_of_getElem? (i := 142) (by decide +kernel), List.forall_mem_cons.mpr ⟨List.mem_of_getElem? (i := 321) (by decide +kernel), List.forall_mem_cons.mpr ⟨List.mem_of_getElem? (i := 322) (by decide +kernel), List.forall_mem_cons.mpr ⟨List.mem_of_getElem? (i := 323) (by decide +kernel), List.forall_mem_cons.mpr ⟨List.mem_of_getElem? (i := 324) (by decide +kernel), List.forall_mem_cons.mpr ⟨List.mem_of_getElem? (i := 325) (by decide +kernel), List.forall_mem_cons.mpr ⟨List.mem_of_getElem? (i := 166) (by decide +kernel), List.forall_mem_cons.mpr ⟨List.mem_of_getElem? (i := 593) (by decide +kernel), List.forall_mem_cons.mpr ⟨List.mem_of_getElem? (i := 594) (by decide +kernel), List.forall_mem_cons.mpr ⟨List.mem_of_getElem? (i := 595) (by decide +kernel), List.forall_mem_cons.mpr ⟨List.mem_of_getElem? (i := 596) (by decide +kernel), List.forall_mem_cons.mpr ⟨List.mem_of_getElem? (i := 263) (by decide +kernel), List.forall_mem_cons.mpr ⟨List.mem_of_getElem? (i := 186) (by decide +kernel), List.forall_mem_cons.mpr ⟨List.mem_of_getElem? (i := 297) (by decide +kernel), List.forall_mem_cons.mpr ⟨List.mem_of_getElem? (i := 298) (by decide +kernel), List.forall_mem_cons.mpr ⟨List.mem_of_getElem? (i := 299) (by decide +kernel), List.forall_mem_cons.mpr ⟨List.mem_of_getElem? (i := 300) (by decide +kernel), List.forall_mem_cons.mpr ⟨List.mem_of_getElem? (i := 301) (by decide +kernel), List.forall_mem_cons.mpr ⟨List.mem_of_getElem? (i := 303) (by decide +kernel), List.forall_mem_cons.mpr ⟨List.mem_of_getElem? (i := 1) (by decide +kernel), List.forall_mem_cons.mpr ⟨List.mem_of_getElem? (i := 304) (by decide +kernel), fun w h => absurd h List.not_mem_nil⟩⟩⟩⟩⟩⟩⟩⟩⟩⟩⟩⟩⟩⟩⟩⟩⟩⟩⟩⟩⟩⟩⟩⟩
theorem bg_6 : wsL_law_r6.all goodWord = true := by decide +kernel
set_option maxRecDepth 20000 in
theorem bt_7 : ∀ w ∈ wsL_law_r7, w ∈ lw_tbl := List.forall_mem_cons.mpr ⟨List.mem_of_getElem? (i := 597) (by decide +kernel), List.forall_mem_cons.mpr ⟨List.mem_of_getElem? (i := 607) (by decide +kernel), List.forall_mem_cons.mpr ⟨List.mem_of_getElem? (i := 608) (by decide +kernel), List.forall_mem_cons.mpr ⟨List.mem_of_getElem? (i := 609) (by decide +kernel), List.forall_mem_cons.mpr ⟨List.mem_of_getElem? (i := 610) (by decide +kernel), List.forall_mem_cons.mpr ⟨List.mem_of_getElem? (i := 394) (by decide +kernel), List.forall_mem_cons.mpr ⟨List.mem_of_getElem? (i := 396) (by decide +kernel), List.forall_mem_cons.mpr ⟨List.mem_of_getElem? (i := 9) (by decide +kernel), List.forall_mem_cons.mpr ⟨List.mem_of_getElem? (i := 397) (by decide +kernel), List.forall_mem_cons.mpr ⟨List.mem_of_getElem? (i := 184) (by decide +kernel), List.forall_mem_cons.mpr ⟨List.mem_of_getElem? (i := 178) (by decide +kernel), List.forall_mem_cons.mpr ⟨List.mem_of_getElem? (i := 79) (by decide +kernel), List.forall_mem_cons.mpr ⟨List.mem_of_getElem? (i := 398) (by decide +kernel), List.forall_mem_cons.mpr ⟨List.mem_of_getElem? (i := 399) (by decide +kernel), List.forall_mem_cons.mpr ⟨List.mem_of_getElem? (i := 400) (by decide +kernel), List.forall_mem_cons.mpr ⟨List.mem_of_getElem? (i := 401) (by decide +kernel), List.forall_mem_cons.mpr ⟨List.mem_of_getElem? (i := 89) (by decide +kernel), List.forall_mem_cons.mpr ⟨List.mem_of_getElem? (i := 402) (by decide +kernel), List.forall_mem_cons.mpr ⟨List.mem_of_getElem? (i := 403) (by decide +kernel), List.forall_mem_cons.mpr ⟨List.mem_of_getElem? (i := 404) (by decide +kernel), List.forall_mem_cons.mpr ⟨List.mem_of_getElem? (i := 405) (by decide +kernel), List.forall_mem_cons.mpr ⟨List.mem_of_getElem? (i := 76) (by decide +kernel), List.forall_mem_cons.mpr ⟨List.mem_of_getElem? (i := 339) (by decide +kernel), List.forall_mem_cons.mpr ⟨List.mem_of_getElem? (i := 340) (by decide +kernel), fun w h => absurd h List.not_mem_nil⟩⟩⟩⟩⟩⟩⟩⟩⟩⟩⟩⟩⟩⟩⟩⟩⟩⟩⟩⟩⟩⟩⟩⟩
theorem bg_7 : wsL_law_r7.all goodWord = true := by decide +kernel
set_option maxRecDepth 20000 in
theorem bt_8 : ∀ w ∈ wsL_law_r8, w ∈ lw_tbl := List.forall_mem_cons.mpr ⟨List.mem_of_getElem? (i := 341) (by decide +kernel), List.forall_mem_cons.mpr ⟨List.mem_of_getElem? (i := 342) (by decide +kernel), List.forall_mem_cons.mpr ⟨List.mem_of_getElem? (i := 343) (by decide +kernel), List.forall_mem_cons.mpr ⟨List.mem_of_getElem? (i := 345) (by decide +kernel), List.forall_mem_cons.mpr ⟨List.mem_of_getElem? (i := 2) (by decide +kernel), List.forall_mem_cons.mpr ⟨List.mem_of_getElem? (i := 346) (by decide +kernel), List.forall_mem_cons.mpr ⟨List.mem_of_getElem? (i := 347) (by decide +kernel), List.forall_mem_cons.mpr ⟨List.mem_of_getElem? (i := 349) (by decide +kernel), List.forall_mem_cons.mpr ⟨List.mem_of_getElem? (i := 3) (by decide +kernel), List.forall_mem_cons.mpr ⟨List.mem_of_getElem? (i := 350) (by decide +kernel), List.forall_mem_cons.mpr ⟨List.mem_of_getElem? (i := 190) (by decide +kernel), List.forall_mem_cons.mpr ⟨List.mem_of_getElem? (i := 351) (by decide +kernel), List.forall_mem_cons.mpr ⟨List.mem_of_getElem? (i := 352) (by decide +kernel), List.forall_mem_cons.mpr ⟨List.mem_of_getElem? (i := 353) (by decide +kernel), List.forall_mem_cons.mpr ⟨List.mem_of_getElem? (i := 354) (by decide +kernel), List.forall_mem_cons.mpr ⟨List.mem_of_getElem? (i := 293) (by decide +kernel), List.forall_mem_cons.mpr ⟨List.mem_of_getElem? (i := 295) (by decide +kernel), List.forall_mem_cons.mpr ⟨List.mem_of_getElem? (i := 0) (by decide +kernel), List.forall_mem_cons.mpr ⟨List.mem_of_getElem? (i := 296) (by decide +kernel), List.forall_mem_cons.mpr ⟨List.mem_of_getElem? (i := 267) (by decide +kernel), List.forall_mem_cons.mpr ⟨List.mem_of_getElem? (i := 355) (by decide +kernel), List.forall_mem_cons.mpr ⟨List.mem_of_getElem? (i := 357) (by decide +kernel), List.forall_mem_cons.mpr ⟨List.mem_of_getElem? (i := 4) (by decide +kernel), List.forall_mem_cons.mpr ⟨List.mem_of_getElem? (i := 358) (by decide +kernel), fun w h => absurd h List.not_mem_nil⟩⟩⟩⟩⟩⟩⟩⟩⟩⟩⟩⟩⟩⟩⟩⟩⟩⟩⟩⟩⟩⟩⟩⟩
theorem bg_8 : wsL_law_r8.all goodWord = true := by decide +kernel
set_option maxRecDepth 20000 in
theorem bt_9 : ∀ w ∈ wsL_law_r9, w ∈ lw_tbl := List.forall_mem_cons.mpr ⟨List.mem_of_getElem? (i := 85) (by decide +kernel), List.forall_mem_cons.mpr ⟨List.mem_of_getElem? (i := 289) (by decide +kernel), List.forall_mem_cons.mpr ⟨List.mem_of_getElem? (i := 290) (by decide +kernel), List.forall_mem_cons.mpr ⟨List.mem_of_getElem? (i := 291) (by decide +kernel), List.forall_mem_cons.mpr ⟨List.mem_of_getElem? (i := 359) (by decide +kernel), List.forall_mem_cons.mpr ⟨List.mem_of_getElem? (i := 361) (by decide +kernel), List.forall_mem_cons.mpr ⟨List.mem_of_getElem? (i := 5) (by decide +kernel), List.forall_mem_cons.mpr ⟨List.mem_of_getElem? (i := 362) (by decide +kernel), List.forall_mem_cons.mpr ⟨List.mem_of_getElem? (i := 82) (by decide +kernel), List.forall_mem_cons.mpr ⟨List.mem_of_getElem? (i := 70) (by decide +kernel), List.forall_mem_cons.mpr ⟨List.mem_of_getElem? (i := 363) (by decide +kernel), List.forall_mem_cons.mpr ⟨List.mem_of_getElem? (i := 365) (by decide +kernel), List.forall_mem_cons.mpr ⟨List.mem_of_getElem? (i := 6) (by decide +kernel), List.forall_mem_cons.mpr ⟨List.mem_of_getElem? (i := 366) (by decide +kernel), List.forall_mem_cons.mpr ⟨List.mem_of_getElem? (i := 90) (by decide +kernel), List.forall_mem_cons.mpr ⟨List.mem_of_getElem? (i := 367) (by decide +kernel), List.forall_mem_cons.mpr ⟨List.mem_of_getElem? (i := 368) (by decide +kernel), List.forall_mem_cons.mpr ⟨List.mem_of_getElem? (i := 369) (by decide +kernel), List.forall_mem_cons.mpr ⟨List.mem_of_getElem? (i := 370) (by decide +kernel), List.forall_mem_cons.mpr ⟨List.mem_of_getElem? (i := 371) (by decide +kernel), List.forall_mem_cons.mpr ⟨List.mem_of_getElem? (i := 372) (by decide +kernel), List.forall_mem_cons.mpr ⟨List.mem_of_getElem? (i := 373) (by decide +kernel), List.forall_mem_cons.mpr ⟨List.mem_of_getElem? (i := 374) (by decide +kernel), List.forall_mem_cons.mpr ⟨List.mem_of_getElem? (i := 59) (by decide +kernel), fun w h => absurd h List.not_mem_nil⟩⟩⟩⟩⟩⟩⟩⟩⟩⟩⟩⟩⟩⟩⟩⟩⟩⟩⟩⟩⟩⟩⟩⟩
theorem bg_9 : wsL_law_r9.all goodWord = true := by decide +kernel
set_option maxRecDepth 20000 in
theorem bt_10 : ∀ w ∈ wsL_law_r10, w ∈ lw_tbl := List.forall_mem_cons.mpr ⟨List.mem_of_getElem? (i := 375) (by decide +kernel), List.forall_mem_cons.mpr ⟨List.mem_of_getElem? (i := 376) (by decide +kernel), List.forall_mem_cons.mpr ⟨List.mem_of_getElem? (i := 377) (by decide +kernel), List.forall_mem_cons.mpr ⟨List.mem_of_getElem? (i := 378) (by decide +kernel), List.forall_mem_cons.mpr ⟨List.mem_of_getElem? (i := 379) (by decide +kernel), List.forall_mem_cons.mpr ⟨List.mem_of_getElem? (i := 380) (by decide +kernel), List.forall_mem_cons.mpr ⟨List.mem_of_getElem? (i := 32) (by decide +kernel), List.forall_mem_cons.mpr ⟨List.mem_of_getElem? (i := 381) (by decide +kernel), List.forall_mem_cons.mpr ⟨List.mem_of_getElem? (i := 382) (by decide +kernel), List.forall_mem_cons.mpr ⟨List.mem_of_getElem? (i := 384) (by decide +kernel), List.forall_mem_cons.mpr ⟨List.mem_of_getElem? (i := 7) (by decide +kernel), List.forall_mem_cons.mpr ⟨List.mem_of_getElem? (i := 385) (by decide +kernel), List.forall_mem_cons.mpr ⟨List.mem_of_getElem? (i := 386) (by decide +kernel), List.forall_mem_cons.mpr ⟨List.mem_of_getElem? (i := 387) (by decide +kernel), List.forall_mem_cons.mpr ⟨List.mem_of_getElem? (i := 388) (by decide +kernel), List.forall_mem_cons.mpr ⟨List.mem_of_getElem? (i := 389) (by decide +kernel), List.forall_mem_cons.mpr ⟨List.mem_of_getElem? (i := 390) (by decide +kernel), List.forall_mem_cons.mpr ⟨List.mem_of_getElem? (i := 392) (by decide +kernel), List.forall_mem_cons.mpr ⟨List.mem_of_getElem? (i := 8) (by decide +kernel), List.forall_mem_cons.mpr ⟨List.mem_of_getElem? (i := 393) (by decide +kernel), List.forall_mem_cons.mpr ⟨List.mem_of_getElem? (i := 611) (by decide +kernel), List.forall_mem_cons.mpr ⟨List.mem_of_getElem? (i := 612) (by decide +kernel), List.forall_mem_cons.mpr ⟨List.mem_of_getElem? (i := 613) (by decide +kernel), List.forall_mem_cons.mpr ⟨List.mem_of_getElem? (i := 614) (by decide +kernel), fun w h => absurd h List.not_mem_nil⟩⟩⟩⟩⟩⟩⟩⟩⟩⟩⟩⟩⟩⟩⟩⟩⟩⟩⟩⟩⟩⟩⟩⟩
theorem bg_10 : wsL_law_r10.all goodWord = true := by decide +kernel
set_option maxRecDepth 20000 in
theorem bt_11 : ∀ w ∈ wsL_law_r11, w ∈ lw_tbl := List.forall_mem_cons.mpr ⟨List.mem_of_getElem? (i := 182) (by decide +kernel), List.forall_mem_cons.mpr ⟨List.mem_of_getElem? (i := 615) (by decide +kernel), List.forall_mem_cons.mpr ⟨List.mem_of_getElem? (i := 616) (by decide +kernel), List.forall_mem_cons.mpr ⟨List.mem_of_getElem? (i := 617) (by decide +kernel), List.forall_mem_cons.mpr ⟨List.mem_of_getElem? (i := 618) (by decide +kernel), List.forall_mem_cons.mpr ⟨List.mem_of_getElem? (i := 619) (by decide +kernel), List.forall_mem_cons.mpr ⟨List.mem_of_getElem? (i := 620) (by decide +kernel), List.forall_mem_cons.mpr ⟨List.mem_of_getElem? (i := 32) (by decide +kernel), List.forall_mem_cons.mpr ⟨List.mem_of_getElem? (i := 621) (by decide +kernel), List.forall_mem_cons.mpr ⟨List.mem_of_getElem? (i := 474) (by decide +kernel), List.forall_mem_cons.mpr ⟨List.mem_of_getElem? (i := 475) (by decide +kernel), List.forall_mem_cons.mpr ⟨List.mem_of_getElem? (i := 476) (by decide +kernel), List.forall_mem_cons.mpr ⟨List.mem_of_getElem? (i := 477) (by decide +kernel), List.forall_mem_cons.mpr ⟨List.mem_of_getElem? (i := 237) (by decide +kernel), List.forall_mem_cons.mpr ⟨List.mem_of_getElem? (i := 180) (by decide +kernel), List.forall_mem_cons.mpr ⟨List.mem_of_getElem? (i := 478) (by decide +kernel), List.forall_mem_cons.mpr ⟨List.mem_of_getElem? (i := 479) (by decide +kernel), List.forall_mem_cons.mpr ⟨List.mem_of_getElem? (i := 480) (by decide +kernel), List.forall_mem_cons.mpr ⟨List.mem_of_getElem? (i := 481) (by decide +kernel), List.forall_mem_cons.mpr ⟨List.mem_of_getElem? (i := 236) (by decide +kernel), List.forall_mem_cons.mpr ⟨List.mem_of_getElem? (i := 238) (by decide +kernel), List.forall_mem_cons.mpr ⟨List.mem_of_getElem? (i := 234) (by decide +kernel), List.forall_mem_cons.mpr ⟨List.mem_of_getElem? (i := 239) (by decide +kernel), List.forall_mem_cons.mpr ⟨List.mem_of_getElem? (i := 240) (by decide +kernel), fun w h => absurd h List.not_mem_nil⟩⟩⟩⟩⟩⟩⟩⟩⟩⟩⟩⟩⟩⟩⟩⟩⟩⟩⟩⟩⟩⟩⟩⟩
theorem bg_11 : wsL_law_r11.all goodWord = true := by decide +kernel
set_option maxRecDepth 20000 in
theorem bt_12 : ∀ w ∈ wsL_law_r12, w ∈ lw_tbl := List.forall_mem_cons.mpr ⟨List.mem_of_getElem? (i := 241) (by decide +kernel), List.forall_mem_cons.mpr ⟨List.mem_of_getElem? (i := 482) (by decide +kernel), List.forall_mem_cons.mpr ⟨List.mem_of_getElem? (i := 483) (by decide +kernel), List.forall_mem_cons.mpr ⟨List.mem_of_getElem? (i := 484) (by decide +kernel), List.forall_mem_cons.mpr ⟨List.mem_of_getElem? (i := 485) (by decide +kernel), List.forall_mem_cons.mpr ⟨List.mem_of_getElem? (i := 486) (by decide +kernel), List.forall_mem_cons.mpr ⟨List.mem_of_getElem? (i := 488) (by decide +kernel), List.forall_mem_cons.mpr ⟨List.mem_of_getElem? (i := 15) (by decide +kernel), List.forall_mem_cons.mpr ⟨List.mem_of_getElem? (i := 489) (by decide +kernel), List.forall_mem_cons.mpr ⟨List.mem_of_getElem? (i := 490) (by decide +kernel), List.forall_mem_cons.mpr ⟨List.mem_of_getElem? (i := 492) (by decide +kernel), List.forall_mem_cons.mpr ⟨List.mem_of_getElem? (i := 16) (by decide +kernel), List.forall_mem_cons.mpr ⟨List.mem_of_getElem? (i := 493) (by decide +kernel), List.forall_mem_cons.mpr ⟨List.mem_of_getElem? (i := 494) (by decide +kernel), List.forall_mem_cons.mpr ⟨List.mem_of_getElem? (i := 496) (by decide +kernel), List.forall_mem_cons.mpr ⟨List.mem_of_getElem? (i := 17) (by decide +kernel), List.forall_mem_cons.mpr ⟨List.mem_of_getElem? (i := 497) (by decide +kernel), List.forall_mem_cons.mpr ⟨List.mem_of_getElem? (i := 499) (by decide +kernel), List.forall_mem_cons.mpr ⟨List.mem_of_getElem? (i := 501) (by decide +kernel), List.forall_mem_cons.mpr ⟨List.mem_of_getElem? (i := 18) (by decide +kernel), List.forall_mem_cons.mpr ⟨List.mem_of_getElem? (i := 502) (by decide +kernel), List.forall_mem_cons.mpr ⟨List.mem_of_getElem? (i := 503) (by decide +kernel), List.forall_mem_cons.mpr ⟨List.mem_of_getElem? (i := 505) (by decide +kernel), List.forall_mem_cons.mpr ⟨List.mem_of_getElem? (i := 19) (by decide +kernel), fun w h => absurd h List.not_mem_nil⟩⟩⟩⟩⟩⟩⟩⟩⟩⟩⟩⟩⟩⟩⟩⟩⟩⟩⟩⟩⟩⟩⟩⟩
theorem bg_12 : wsL_law_r12.all goodWord = true := by decide +kernel
set_option maxRecDepth 20000 in
theorem bt_13 : ∀ w ∈ wsL_law_r13, w ∈ lw_tbl := List.forall_mem_cons.mpr ⟨List.mem_of_getElem? (i := 506) (by decide +kernel), List.forall_mem_cons.mpr ⟨List.mem_of_getElem? (i := 507) (by decide +kernel), List.forall_mem_cons.mpr ⟨List.mem_of_getElem? (i := 508) (by decide +kernel), List.forall_mem_cons.mpr ⟨List.mem_of_getElem? (i := 509) (by decide +kernel), List.forall_mem_cons.mpr ⟨List.mem_of_getElem? (i := 515) (by decide +kernel), List.forall_mem_cons.mpr ⟨List.mem_of_getElem? (i := 517) (by decide +kernel), List.forall_mem_cons.mpr ⟨List.mem_of_getElem? (i := 20) (by decide +kernel), List.forall_mem_cons.mpr ⟨List.mem_of_getElem? (i := 518) (by decide +kernel), List.forall_mem_cons.mpr ⟨List.mem_of_getElem? (i := 519) (by decide +kernel), List.forall_mem_cons.mpr ⟨List.mem_of_getElem? (i := 520) (by decide +kernel), List.forall_mem_cons.mpr ⟨List.mem_of_getElem? (i := 521) (by decide +kernel), List.forall_mem_cons.mpr ⟨List.mem_of_getElem? (i := 33) (by decide +kernel), List.forall_mem_cons.mpr ⟨List.mem_of_getElem? (i := 522) (by decide +kernel), List.forall_mem_cons.mpr ⟨List.mem_of_getElem? (i := 730) (by decide +kernel), List.forall_mem_cons.mpr ⟨List.mem_of_getElem? (i := 523) (by decide +kernel), List.forall_mem_cons.mpr ⟨List.mem_of_getElem? (i := 524) (by decide +kernel), List.forall_mem_cons.mpr ⟨List.mem_of_getElem? (i := 525) (by decide +kernel), List.forall_mem_cons.mpr ⟨List.mem_of_getElem? (i := 526) (by decide +kernel), List.forall_mem_cons.mpr ⟨List.mem_of_getElem? (i := 527) (by decide +kernel), List.forall_mem_cons.mpr ⟨List.mem_of_getElem? (i := 731) (by decide +kernel), List.forall_mem_cons.mpr ⟨List.mem_of_getElem? (i := 529) (by decide +kernel), List.forall_mem_cons.mpr ⟨List.mem_of_getElem? (i := 530) (by decide +kernel), List.forall_mem_cons.mpr ⟨List.mem_of_getElem? (i := 531) (by decide +kernel), List.forall_mem_cons.mpr ⟨List.mem_of_getElem? (i := 532) (by decide +kernel), fun w h => absurd h List.not_mem_nil⟩⟩⟩⟩⟩⟩⟩⟩⟩⟩⟩⟩⟩⟩⟩⟩⟩⟩⟩⟩⟩⟩⟩⟩
theorem bg_13 : wsL_law_r13.all goodWord = true := by decide +kernel
set_option maxRecDepth 20000 in
theorem bt_14 : ∀ w ∈ wsL_law_r14, w ∈ lw_tbl := List.forall_mem_cons.mpr ⟨List.mem_of_getElem? (i := 533) (by decide +kernel), List.forall_mem_cons.mpr ⟨List.mem_of_getElem? (i := 534) (by decide +kernel), List.forall_mem_cons.mpr ⟨List.mem_of_getElem? (i := 535) (by decide +kernel), List.forall_mem_cons.mpr ⟨List.mem_of_getElem? (i := 536) (by decide +kernel), List.forall_mem_cons.mpr ⟨List.mem_of_getElem? (i := 537) (by decide +kernel), List.forall_mem_cons.mpr ⟨List.mem_of_getElem? (i := 538) (by decide +kernel), List.forall_mem_cons.mpr ⟨List.mem_of_getElem? (i := 34) (by decide +kernel), List.forall_mem_cons.mpr ⟨List.mem_of_getElem? (i := 539) (by decide +kernel), List.forall_mem_cons.mpr ⟨List.mem_of_getElem? (i := 540) (by decide +kernel), List.forall_mem_cons.mpr ⟨List.mem_of_getElem? (i := 541) (by decide +kernel), List.forall_mem_cons.mpr ⟨List.mem_of_getElem? (i := 542) (by decide +kernel), List.forall_mem_cons.mpr ⟨List.mem_of_getElem? (i := 543) (by decide +kernel), List.forall_mem_cons.mpr ⟨List.mem_of_getElem? (i := 545) (by decide +kernel), List.forall_mem_cons.mpr ⟨List.mem_of_getElem? (i := 546) (by decide +kernel), List.forall_mem_cons.mpr ⟨List.mem_of_getElem? (i := 35) (by decide +kernel), List.forall_mem_cons.mpr ⟨List.mem_of_getElem? (i := 547) (by decide +kernel), List.forall_mem_cons.mpr ⟨List.mem_of_getElem? (i := 548) (by decide +kernel), List.forall_mem_cons.mpr ⟨List.mem_of_getElem? (i := 549) (by decide +kernel), List.forall_mem_cons.mpr ⟨List.mem_of_getElem? (i := 36) (by decide +kernel), List.forall_mem_cons.mpr ⟨List.mem_of_getElem? (i := 550) (by decide +kernel), List.forall_mem_cons.mpr ⟨List.mem_of_getElem? (i := 551) (by decide +kernel), List.forall_mem_cons.mpr ⟨List.mem_of_getElem? (i := 552) (by decide +kernel), List.forall_mem_cons.mpr ⟨List.mem_of_getElem? (i := 553) (by decide +kernel), List.forall_mem_cons.mpr ⟨List.mem_of_getElem? (i := 554) (by decide +kernel), fun w h => absurd h List.not_mem_nil⟩⟩⟩⟩⟩⟩⟩⟩⟩⟩⟩⟩⟩⟩⟩⟩⟩⟩⟩⟩⟩⟩⟩⟩
theorem bg_14 : wsL_law_r14.all goodWord = true := by decide +kernel
set_option maxRecDepth 20000 in
theorem bt_15 : ∀ w ∈ wsL_law_r15, w ∈ lw_tbl := List.forall_mem_cons.mpr ⟨List.mem_of_getElem? (i := 555) (by decide +kernel), List.forall_mem_cons.mpr ⟨List.mem_of_getElem? (i := 556) (by decide +kernel), List.forall_mem_cons.mpr ⟨List.mem_of_getElem? (i := 557) (by decide +kernel), List.forall_mem_cons.mpr ⟨List.mem_of_getElem? (i := 558) (by decide +kernel), List.forall_mem_cons.mpr ⟨List.mem_of_getElem? (i := 559) (by decide +kernel), List.forall_mem_cons.mpr ⟨List.mem_of_getElem? (i := 560) (by decide +kernel), List.forall_mem_cons.mpr ⟨List.mem_of_getElem? (i := 561) (by decide +kernel), List.forall_mem_cons.mpr ⟨List.mem_of_getElem? (i := 563) (by decide +kernel), List.forall_mem_cons.mpr ⟨List.mem_of_getElem? (i := 565) (by decide +kernel), List.forall_mem_cons.mpr ⟨List.mem_of_getElem? (i := 567) (by decide +kernel), List.forall_mem_cons.mpr ⟨List.mem_of_getElem? (i := 569) (by decide +kernel), List.forall_mem_cons.mpr ⟨List.mem_of_getElem? (i := 21) (by decide +kernel), List.forall_mem_cons.mpr ⟨List.mem_of_getElem? (i := 570) (by decide +kernel), List.forall_mem_cons.mpr ⟨List.mem_of_getElem? (i := 571) (by decide +kernel), List.forall_mem_cons.mpr ⟨List.mem_of_getElem? (i := 573) (by decide +kernel), List.forall_mem_cons.mpr ⟨List.mem_of_getElem? (i := 22) (by decide +kernel), List.forall_mem_cons.mpr ⟨List.mem_of_getElem? (i := 574) (by decide +kernel), List.forall_mem_cons.mpr ⟨List.mem_of_getElem? (i := 575) (by decide +kernel), List.forall_mem_cons.mpr ⟨List.mem_of_getElem? (i := 576) (by decide +kernel), List.forall_mem_cons.mpr ⟨List.mem_of_getElem? (i := 577) (by decide +kernel), List.forall_mem_cons.mpr ⟨List.mem_of_getElem? (i := 578) (by decide +kernel), List.forall_mem_cons.mpr ⟨List.mem_of_getElem? (i := 579) (by decide +kernel), List.forall_mem_cons.mpr ⟨List.mem_of_getElem? (i := 580) (by decide +kernel), List.forall_mem_cons.mpr ⟨List.mem_of_getElem? (i := 581) (by decide +kernel), fun w h => absurd h List.not_mem_nil⟩⟩⟩⟩⟩⟩⟩⟩⟩⟩⟩⟩⟩⟩⟩⟩⟩⟩⟩⟩⟩⟩⟩⟩
theorem bg_15 : wsL_law_r15.all goodWord = true := by decide +kernel
set_option maxRecDepth 20000 in
theorem bt_16 : ∀ w ∈ wsL_law_r16, w ∈ lw_tbl := List.forall_mem_cons.mpr ⟨List.mem_of_getElem? (i := 582) (by decide +kernel), List.forall_mem_cons.mpr ⟨List.mem_of_getElem? (i := 583) (by decide +kernel), List.forall_mem_cons.mpr ⟨List.mem_of_getElem? (i := 622) (by decide +kernel), List.forall_mem_cons.mpr ⟨List.mem_of_getElem? (i := 623) (by decide +kernel), List.forall_mem_cons.mpr ⟨List.mem_of_getElem? (i := 624) (by decide +kernel), List.forall_mem_cons.mpr ⟨List.mem_of_getElem? (i := 625) (by decide +kernel), List.forall_mem_cons.mpr ⟨List.mem_of_getElem? (i := 188) (by decide +kernel), List.forall_mem_cons.mpr ⟨List.mem_of_getElem? (i := 192) (by decide +kernel), List.forall_mem_cons.mpr ⟨List.mem_of_getElem? (i := 167) (by decide +kernel), List.forall_mem_cons.mpr ⟨List.mem_of_getElem? (i := 235) (by decide +kernel), List.forall_mem_cons.mpr ⟨List.mem_of_getElem? (i := 626) (by decide +kernel), List.forall_mem_cons.mpr ⟨List.mem_of_getElem? (i := 627) (by decide +kernel), List.forall_mem_cons.mpr ⟨List.mem_of_getElem? (i := 628) (by decide +kernel), List.forall_mem_cons.mpr ⟨List.mem_of_getElem? (i := 629) (by decide +kernel), List.forall_mem_cons.mpr ⟨List.mem_of_getElem? (i := 78) (by decide +kernel), List.forall_mem_cons.mpr ⟨List.mem_of_getElem? (i := 630) (by decide +kernel), List.forall_mem_cons.mpr ⟨List.mem_of_getElem? (i := 631) (by decide +kernel), List.forall_mem_cons.mpr ⟨List.mem_of_getElem? (i := 632) (by decide +kernel), List.forall_mem_cons.mpr ⟨List.mem_of_getElem? (i := 633) (by decide +kernel), List.forall_mem_cons.mpr ⟨List.mem_of_getElem? (i := 61) (by decide +kernel), List.forall_mem_cons.mpr ⟨List.mem_of_getElem? (i := 634) (by decide +kernel), List.forall_mem_cons.mpr ⟨List.mem_of_getElem? (i := 635) (by decide +kernel), List.forall_mem_cons.mpr ⟨List.mem_of_getElem? (i := 636) (by decide +kernel), List.forall_mem_cons.mpr ⟨List.mem_of_getElem? (i := 637) (by decide +kernel), fun w h => absurd h List.not_mem_nil⟩⟩⟩⟩⟩⟩⟩⟩⟩⟩⟩⟩⟩⟩⟩⟩⟩⟩⟩⟩⟩⟩⟩⟩
theorem bg_16 : wsL_law_r16.all goodWord = true := by decide +kernel
set_option maxRecDepth 20000 in
theorem bt_17 : ∀ w ∈ wsL_law_r17, w ∈ lw_tbl := List.forall_mem_cons.mpr ⟨List.mem_of_getElem? (i := 81) (by decide +kernel), List.forall_mem_cons.mpr ⟨List.mem_of_getElem? (i := 638) (by decide +kernel), List.forall_mem_cons.mpr ⟨List.mem_of_getElem? (i := 639) (by decide +kernel), List.forall_mem_cons.mpr ⟨List.mem_of_getElem? (i := 640) (by decide +kernel), List.forall_mem_cons.mpr ⟨List.mem_of_getElem? (i := 641) (by decide +kernel), List.forall_mem_cons.mpr ⟨List.mem_of_getElem? (i := 438) (by decide +kernel), List.forall_mem_cons.mpr ⟨List.mem_of_getElem? (i := 439) (by decide +kernel), List.forall_mem_cons.mpr ⟨List.mem_of_getElem? (i := 440) (by decide +kernel), List.forall_mem_cons.mpr ⟨List.mem_of_getElem? (i := 441) (by decide +kernel), List.forall_mem_cons.mpr ⟨List.mem_of_getElem? (i := 442) (by decide +kernel), List.forall_mem_cons.mpr ⟨List.mem_of_getElem? (i := 431) (by decide +kernel), List.forall_mem_cons.mpr ⟨List.mem_of_getElem? (i := 432) (by decide +kernel), List.forall_mem_cons.mpr ⟨List.mem_of_getElem? (i := 433) (by decide +kernel), List.forall_mem_cons.mpr ⟨List.mem_of_getElem? (i := 334) (by decide +kernel), List.forall_mem_cons.mpr ⟨List.mem_of_getElem? (i := 335) (by decide +kernel), List.forall_mem_cons.mpr ⟨List.mem_of_getElem? (i := 406) (by decide +kernel), List.forall_mem_cons.mpr ⟨List.mem_of_getElem? (i := 407) (by decide +kernel), List.forall_mem_cons.mpr ⟨List.mem_of_getElem? (i := 408) (by decide +kernel), List.forall_mem_cons.mpr ⟨List.mem_of_getElem? (i := 409) (by decide +kernel), List.forall_mem_cons.mpr ⟨List.mem_of_getElem? (i := 410) (by decide +kernel), List.forall_mem_cons.mpr ⟨List.mem_of_getElem? (i := 412) (by decide +kernel), List.forall_mem_cons.mpr ⟨List.mem_of_getElem? (i := 10) (by decide +kernel), List.forall_mem_cons.mpr ⟨List.mem_of_getElem? (i := 413) (by decide +kernel), List.forall_mem_cons.mpr ⟨List.mem_of_getElem? (i := 143) (by decide +kernel), fun w h => absurd h List.not_mem_nil⟩⟩⟩⟩⟩⟩⟩⟩⟩⟩⟩⟩⟩⟩⟩⟩⟩⟩⟩⟩⟩⟩⟩⟩
theorem bg_17 : wsL_law_r17.all goodWord = true := by decide +kernel
set_option maxRecDepth 20000 in
theorem bt_18 : ∀ w ∈ wsL_law_r18, w ∈ lw_tbl := List.forall_mem_cons.mpr ⟨List.mem_of_getElem? (i := 141) (by decide +kernel), List.forall_mem_cons.mpr ⟨List.mem_of_getElem? (i := 133) (by decide +kernel), List.forall_mem_cons.mpr ⟨List.mem_of_getElem? (i := 135) (by decide +kernel), List.forall_mem_cons.mpr ⟨List.mem_of_getElem? (i := 137) (by decide +kernel), List.forall_mem_cons.mpr ⟨List.mem_of_getElem? (i := 139) (by decide +kernel), List.forall_mem_cons.mpr ⟨List.mem_of_getElem? (i := 414) (by decide +kernel), List.forall_mem_cons.mpr ⟨List.mem_of_getElem? (i := 416) (by decide +kernel), List.forall_mem_cons.mpr ⟨List.mem_of_getElem? (i := 11) (by decide +kernel), List.forall_mem_cons.mpr ⟨List.mem_of_getElem? (i := 417) (by decide +kernel), List.forall_mem_cons.mpr ⟨List.mem_of_getElem? (i := 418) (by decide +kernel), List.forall_mem_cons.mpr ⟨List.mem_of_getElem? (i := 420) (by decide +kernel), List.forall_mem_cons.mpr ⟨List.mem_of_getElem? (i := 12) (by decide +kernel), List.forall_mem_cons.mpr ⟨List.mem_of_getElem? (i := 421) (by decide +kernel), List.forall_mem_cons.mpr ⟨List.mem_of_getElem? (i := 87) (by decide +kernel), List.forall_mem_cons.mpr ⟨List.mem_of_getElem? (i := 62) (by decide +kernel), List.forall_mem_cons.mpr ⟨List.mem_of_getElem? (i := 422) (by decide +kernel), List.forall_mem_cons.mpr ⟨List.mem_of_getElem? (i := 423) (by decide +kernel), List.forall_mem_cons.mpr ⟨List.mem_of_getElem? (i := 424) (by decide +kernel), List.forall_mem_cons.mpr ⟨List.mem_of_getElem? (i := 425) (by decide +kernel), List.forall_mem_cons.mpr ⟨List.mem_of_getElem? (i := 84) (by decide +kernel), List.forall_mem_cons.mpr ⟨List.mem_of_getElem? (i := 72) (by decide +kernel), List.forall_mem_cons.mpr ⟨List.mem_of_getElem? (i := 426) (by decide +kernel), List.forall_mem_cons.mpr ⟨List.mem_of_getElem? (i := 427) (by decide +kernel), List.forall_mem_cons.mpr ⟨List.mem_of_getElem? (i := 428) (by decide +kernel), fun w h => absurd h List.not_mem_nil⟩⟩⟩⟩⟩⟩⟩⟩⟩⟩⟩⟩⟩⟩⟩⟩⟩⟩⟩⟩⟩⟩⟩⟩
theorem bg_18 : wsL_law_r18.all goodWord = true := by decide +kernel
set_option maxRecDepth 20000 in
theorem bt_19 : ∀ w ∈ wsL_law_r19, w ∈ lw_tbl := List.forall_mem_cons.mpr ⟨List.mem_of_getElem? (i := 429) (by decide +kernel), List.forall_mem_cons.mpr ⟨List.mem_of_getElem? (i := 430) (by decide +kernel), List.forall_mem_cons.mpr ⟨List.mem_of_getElem? (i := 434) (by decide +kernel), List.forall_mem_cons.mpr ⟨List.mem_of_getElem? (i := 435) (by decide +kernel), List.forall_mem_cons.mpr ⟨List.mem_of_getElem? (i := 436) (by decide +kernel), List.forall_mem_cons.mpr ⟨List.mem_of_getElem? (i := 437) (by decide +kernel), List.forall_mem_cons.mpr ⟨List.mem_of_getElem? (i := 444) (by decide +kernel), List.forall_mem_cons.mpr ⟨List.mem_of_getElem? (i := 446) (by decide +kernel), List.forall_mem_cons.mpr ⟨List.mem_of_getElem? (i := 13) (by decide +kernel), List.forall_mem_cons.mpr ⟨List.mem_of_getElem? (i := 447) (by decide +kernel), List.forall_mem_cons.mpr ⟨List.mem_of_getElem? (i := 448) (by decide +kernel), List.forall_mem_cons.mpr ⟨List.mem_of_getElem? (i := 450) (by decide +kernel), List.forall_mem_cons.mpr ⟨List.mem_of_getElem? (i := 14) (by decide +kernel), List.forall_mem_cons.mpr ⟨List.mem_of_getElem? (i := 451) (by decide +kernel), List.forall_mem_cons.mpr ⟨List.mem_of_getElem? (i := 452) (by decide +kernel), List.forall_mem_cons.mpr ⟨List.mem_of_getElem? (i := 453) (by decide +kernel), List.forall_mem_cons.mpr ⟨List.mem_of_getElem? (i := 454) (by decide +kernel), List.forall_mem_cons.mpr ⟨List.mem_of_getElem? (i := 455) (by decide +kernel), List.forall_mem_cons.mpr ⟨List.mem_of_getElem? (i := 456) (by decide +kernel), List.forall_mem_cons.mpr ⟨List.mem_of_getElem? (i := 457) (by decide +kernel), List.forall_mem_cons.mpr ⟨List.mem_of_getElem? (i := 458) (by decide +kernel), List.forall_mem_cons.mpr ⟨List.mem_of_getElem? (i := 459) (by decide +kernel), List.forall_mem_cons.mpr ⟨List.mem_of_getElem? (i := 460) (by decide +kernel), List.forall_mem_cons.mpr ⟨List.mem_of_getElem? (i := 461) (by decide +kernel), fun w h => absurd h List.not_mem_nil⟩⟩⟩⟩⟩⟩⟩⟩⟩⟩⟩⟩⟩⟩⟩⟩⟩⟩⟩⟩⟩⟩⟩⟩
theorem bg_19 : wsL_law_r19.all goodWord = true := by decide +kernel
set_option maxRecDepth 20000 in
theorem bt_20 : ∀ w ∈ wsL_law_r20, w ∈ lw_tbl := List.forall_mem_cons.mpr ⟨List.mem_of_getElem? (i := 462) (by decide +kernel), List.forall_mem_cons.mpr ⟨List.mem_of_getElem? (i := 463) (by decide +kernel), List.forall_mem_cons.mpr ⟨List.mem_of_getElem? (i := 464) (by decide +kernel), List.forall_mem_cons.mpr ⟨List.mem_of_getElem? (i := 337) (by decide +kernel), List.forall_mem_cons.mpr ⟨List.mem_of_getElem? (i := 338) (by decide +kernel), List.forall_mem_cons.mpr ⟨List.mem_of_getElem? (i := 467) (by decide +kernel), List.forall_mem_cons.mpr ⟨List.mem_of_getElem? (i := 468) (by decide +kernel), List.forall_mem_cons.mpr ⟨List.mem_of_getElem? (i := 469) (by decide +kernel), List.forall_mem_cons.mpr ⟨List.mem_of_getElem? (i := 470) (by decide +kernel), List.forall_mem_cons.mpr ⟨List.mem_of_getElem? (i := 471) (by decide +kernel), List.forall_mem_cons.mpr ⟨List.mem_of_getElem? (i := 472) (by decide +kernel), List.forall_mem_cons.mpr ⟨List.mem_of_getElem? (i := 473) (by decide +kernel), List.forall_mem_cons.mpr ⟨List.mem_of_getElem? (i := 642) (by decide +kernel), List.forall_mem_cons.mpr ⟨List.mem_of_getElem? (i := 643) (by decide +kernel), List.forall_mem_cons.mpr ⟨List.mem_of_getElem? (i := 23) (by decide +kernel), List.forall_mem_cons.mpr ⟨List.mem_of_getElem? (i := 644) (by decide +kernel), List.forall_mem_cons.mpr ⟨List.mem_of_getElem? (i := 645) (by decide +kernel), List.forall_mem_cons.mpr ⟨List.mem_of_getElem? (i := 646) (by decide +kernel), List.forall_mem_cons.mpr ⟨List.mem_of_getElem? (i := 647) (by decide +kernel), List.forall_mem_cons.mpr ⟨List.mem_of_getElem? (i := 648) (by decide +kernel), List.forall_mem_cons.mpr ⟨List.mem_of_getElem? (i := 649) (by decide +kernel), List.forall_mem_cons.mpr ⟨List.mem_of_getElem? (i := 650) (by decide +kernel), List.forall_mem_cons.mpr ⟨List.mem_of_getElem? (i := 651) (by decide +kernel), List.forall_mem_cons.mpr ⟨List.mem_of_getElem? (i := 652) (by decide +kernel), fun w h => absurd h List.not_mem_nil⟩⟩⟩⟩⟩⟩⟩⟩⟩⟩⟩⟩⟩⟩⟩⟩⟩⟩⟩⟩⟩⟩⟩⟩
theorem bg_20 : wsL_law_r20.all goodWord = true := by decide +kernel
set_option maxRecDepth 20000 in
theorem bt_21 : ∀ w ∈ wsL_law_r21, w ∈ lw_tbl := List.forall_mem_cons.mpr ⟨List.mem_of_getElem? (i := 653) (by decide +kernel), List.forall_mem_cons.mpr ⟨List.mem_of_getElem? (i := 654) (by decide +kernel), List.forall_mem_cons.mpr ⟨List.mem_of_getElem? (i := 659) (by decide +kernel), List.forall_mem_cons.mpr ⟨List.mem_of_getElem? (i := 660) (by decide +kernel), List.forall_mem_cons.mpr ⟨List.mem_of_getElem? (i := 598) (by decide +kernel), List.forall_mem_cons.mpr ⟨List.mem_of_getElem? (i := 599) (by decide +kernel), List.forall_mem_cons.mpr ⟨List.mem_of_getElem? (i := 600) (by decide +kernel), List.forall_mem_cons.mpr ⟨List.mem_of_getElem? (i := 601) (by decide +kernel), List.forall_mem_cons.mpr ⟨List.mem_of_getElem? (i := 64) (by decide +kernel), List.forall_mem_cons.mpr ⟨List.mem_of_getElem? (i := 66) (by decide +kernel), List.forall_mem_cons.mpr ⟨List.mem_of_getElem? (i := 68) (by decide +kernel), List.forall_mem_cons.mpr ⟨List.mem_of_getElem? (i := 75) (by decide +kernel), List.forall_mem_cons.mpr ⟨List.mem_of_getElem? (i := 92) (by decide +kernel), List.forall_mem_cons.mpr ⟨List.mem_of_getElem? (i := 604) (by decide +kernel), List.forall_mem_cons.mpr ⟨List.mem_of_getElem? (i := 605) (by decide +kernel), List.forall_mem_cons.mpr ⟨List.mem_of_getElem? (i := 606) (by decide +kernel), List.forall_mem_cons.mpr ⟨List.mem_of_getElem? (i := 602) (by decide +kernel), List.forall_mem_cons.mpr ⟨List.mem_of_getElem? (i := 603) (by decide +kernel), List.forall_mem_cons.mpr ⟨List.mem_of_getElem? (i := 655) (by decide +kernel), List.forall_mem_cons.mpr ⟨List.mem_of_getElem? (i := 656) (by decide +kernel), List.forall_mem_cons.mpr ⟨List.mem_of_getElem? (i := 657) (by decide +kernel), List.forall_mem_cons.mpr ⟨List.mem_of_getElem? (i := 658) (by decide +kernel), List.forall_mem_cons.mpr ⟨List.mem_of_getElem? (i := 285) (by decide +kernel), List.forall_mem_cons.mpr ⟨List.mem_of_getElem? (i := 286) (by decide +kernel), fun w h => absurd h List.not_mem_nil⟩⟩⟩⟩⟩⟩⟩⟩⟩⟩⟩⟩⟩⟩⟩⟩⟩⟩⟩⟩⟩⟩⟩⟩
theorem bg_21 : wsL_law_r21.all goodWord = true := by decide +kernel
set_option maxRecDepth 20000 in
theorem bt_22 : ∀ w ∈ wsL_law_r22, w ∈ lw_tbl := List.forall_mem_cons.mpr ⟨List.mem_of_getElem? (i := 287) (by decide +kernel), List.forall_mem_cons.mpr ⟨List.mem_of_getElem? (i := 288) (by decide +kernel), List.forall_mem_cons.mpr ⟨List.mem_of_getElem? (i := 292) (by decide +kernel), List.forall_mem_cons.mpr ⟨List.mem_of_getElem? (i := 326) (by decide +kernel), List.forall_mem_cons.mpr ⟨List.mem_of_getElem? (i := 327) (by decide +kernel), List.forall_mem_cons.mpr ⟨List.mem_of_getElem? (i := 328) (by decide +kernel), List.forall_mem_cons.mpr ⟨List.mem_of_getElem? (i := 329) (by decide +kernel), List.forall_mem_cons.mpr ⟨List.mem_of_getElem? (i := 331) (by decide +kernel), List.forall_mem_cons.mpr ⟨List.mem_of_getElem? (i := 332) (by decide +kernel), List.forall_mem_cons.mpr ⟨List.mem_of_getElem? (i := 333) (by decide +kernel), List.forall_mem_cons.mpr ⟨List.mem_of_getElem? (i := 336) (by decide +kernel), List.forall_mem_cons.mpr ⟨List.mem_of_getElem? (i := 715) (by decide +kernel), List.forall_mem_cons.mpr ⟨List.mem_of_getElem? (i := 716) (by decide +kernel), List.forall_mem_cons.mpr ⟨List.mem_of_getElem? (i := 717) (by decide +kernel), List.forall_mem_cons.mpr ⟨List.mem_of_getElem? (i := 718) (by decide +kernel), List.forall_mem_cons.mpr ⟨List.mem_of_getElem? (i := 719) (by decide +kernel), List.forall_mem_cons.mpr ⟨List.mem_of_getElem? (i := 720) (by decide +kernel), List.forall_mem_cons.mpr ⟨List.mem_of_getElem? (i := 721) (by decide +kernel), List.forall_mem_cons.mpr ⟨List.mem_of_getElem? (i := 722) (by decide +kernel), List.forall_mem_cons.mpr ⟨List.mem_of_getElem? (i := 723) (by decide +kernel), List.forall_mem_cons.mpr ⟨List.mem_of_getElem? (i := 724) (by decide +kernel), List.forall_mem_cons.mpr ⟨List.mem_of_getElem? (i := 725) (by decide +kernel), List.forall_mem_cons.mpr ⟨List.mem_of_getElem? (i := 726) (by decide +kernel), List.forall_mem_cons.mpr ⟨List.mem_of_getElem? (i := 727) (by decide +kernel), fun w h => absurd h List.not_mem_nil⟩⟩⟩⟩⟩⟩⟩⟩⟩⟩⟩⟩⟩⟩⟩⟩⟩⟩⟩⟩⟩⟩⟩⟩
theorem bg_22 : wsL_law_r22.all goodWord = true := by decide +kernel
set_option maxRecDepth 20000 in
theorem bt_23 : ∀ w ∈ wsL_law_r23, w ∈ lw_tbl := List.forall_mem_cons.mpr ⟨List.mem_of_getElem? (i := 728) (by decide +kernel), List.forall_mem_cons.mpr ⟨List.mem_of_getElem? (i := 729) (by decide +kernel), List.forall_mem_cons.mpr ⟨List.mem_of_getElem? (i := 700) (by decide +kernel), List.forall_mem_cons.mpr ⟨List.mem_of_getElem? (i := 701) (by decide +kernel), List.forall_mem_cons.mpr ⟨List.mem_of_getElem? (i := 702) (by decide +kernel), List.forall_mem_cons.mpr ⟨List.mem_of_getElem? (i := 703) (by decide +kernel), List.forall_mem_cons.mpr ⟨List.mem_of_getElem? (i := 704) (by decide +kernel), List.forall_mem_cons.mpr ⟨List.mem_of_getElem? (i := 705) (by decide +kernel), List.forall_mem_cons.mpr ⟨List.mem_of_getElem? (i := 706) (by decide +kernel), List.forall_mem_cons.mpr ⟨List.mem_of_getElem? (i := 707) (by decide +kernel), List.forall_mem_cons.mpr ⟨List.mem_of_getElem? (i := 708) (by decide +kernel), List.forall_mem_cons.mpr ⟨List.mem_of_getElem? (i := 709) (by decide +kernel), List.forall_mem_cons.mpr ⟨List.mem_of_getElem? (i := 710) (by decide +kernel), List.forall_mem_cons.mpr ⟨List.mem_of_getElem? (i := 711) (by decide +kernel), List.forall_mem_cons.mpr ⟨List.mem_of_getElem? (i := 712) (by decide +kernel), List.forall_mem_cons.mpr ⟨List.mem_of_getElem? (i := 713) (by decide +kernel), List.forall_mem_cons.mpr ⟨List.mem_of_getElem? (i := 714) (by decide +kernel), List.forall_mem_cons.mpr ⟨List.mem_of_getElem? (i := 693) (by decide +kernel), List.forall_mem_cons.mpr ⟨List.mem_of_getElem? (i := 694) (by decide +kernel), List.forall_mem_cons.mpr ⟨List.mem_of_getElem? (i := 695) (by decide +kernel), List.forall_mem_cons.mpr ⟨List.mem_of_getElem? (i := 696) (by decide +kernel), List.forall_mem_cons.mpr ⟨List.mem_of_getElem? (i := 697) (by decide +kernel), List.forall_mem_cons.mpr ⟨List.mem_of_getElem? (i := 698) (by decide +kernel), List.forall_mem_cons.mpr ⟨List.mem_of_getElem? (i := 699) (by decide +kernel), fun w h => absurd h List.not_mem_nil⟩⟩⟩⟩⟩⟩⟩⟩⟩⟩⟩⟩⟩⟩⟩⟩⟩⟩⟩⟩⟩⟩⟩⟩
theorem bg_23 : wsL_law_r23.all goodWord = true := by decide +kernel
set_option maxRecDepth 20000 in
theorem bt_24 : ∀ w ∈ wsL_law_r24, w ∈ lw_tbl := List.forall_mem_cons.mpr ⟨List.mem_of_getElem? (i := 687) (by decide +kernel), List.forall_mem_cons.mpr ⟨List.mem_of_getElem? (i := 688) (by decide +kernel), List.forall_mem_cons.mpr ⟨List.mem_of_getElem? (i := 689) (by decide +kernel), List.forall_mem_cons.mpr ⟨List.mem_of_getElem? (i := 674) (by decide +kernel), List.forall_mem_cons.mpr ⟨List.mem_of_getElem? (i := 675) (by decide +kernel), List.forall_mem_cons.mpr ⟨List.mem_of_getElem? (i := 676) (by decide +kernel), List.forall_mem_cons.mpr ⟨List.mem_of_getElem? (i := 677) (by decide +kernel), List.forall_mem_cons.mpr ⟨List.mem_of_getElem? (i := 690) (by decide +kernel), List.forall_mem_cons.mpr ⟨List.mem_of_getElem? (i := 691) (by decide +kernel), List.forall_mem_cons.mpr ⟨List.mem_of_getElem? (i := 692) (by decide +kernel), List.forall_mem_cons.mpr ⟨List.mem_of_getElem? (i := 661) (by decide +kernel), List.forall_mem_cons.mpr ⟨List.mem_of_getElem? (i := 662) (by decide +kernel), List.forall_mem_cons.mpr ⟨List.mem_of_getElem? (i := 663) (by decide +kernel), List.forall_mem_cons.mpr ⟨List.mem_of_getElem? (i := 664) (by decide +kernel), List.forall_mem_cons.mpr ⟨List.mem_of_getElem? (i := 665) (by decide +kernel), List.forall_mem_cons.mpr ⟨List.mem_of_getElem? (i := 666) (by decide +kernel), List.forall_mem_cons.mpr ⟨List.mem_of_getElem? (i := 667) (by decide +kernel), List.forall_mem_cons.mpr ⟨List.mem_of_getElem? (i := 73) (by decide +kernel), List.forall_mem_cons.mpr ⟨List.mem_of_getElem? (i := 668) (by decide +kernel), List.forall_mem_cons.mpr ⟨List.mem_of_getElem? (i := 669) (by decide +kernel), List.forall_mem_cons.mpr ⟨List.mem_of_getElem? (i := 670) (by decide +kernel), List.forall_mem_cons.mpr ⟨List.mem_of_getElem? (i := 671) (by decide +kernel), List.forall_mem_cons.mpr ⟨List.mem_of_getElem? (i := 672) (by decide +kernel), List.forall_mem_cons.mpr ⟨List.mem_of_getElem? (i := 673) (by decide +kernel), fun w h => absurd h List.not_mem_nil⟩⟩⟩⟩⟩⟩⟩⟩⟩⟩⟩⟩⟩⟩⟩⟩⟩⟩⟩⟩⟩⟩⟩⟩
theorem bg_24 : wsL_law_r24.all goodWord = true := by decide +kernel
set_option maxRecDepth 20000 in
theorem bt_25 : ∀ w ∈ wsL_law_r25, w ∈ lw_tbl := List.forall_mem_cons.mpr ⟨List.mem_of_getElem? (i := 678) (by decide +kernel), List.forall_mem_cons.mpr ⟨List.mem_of_getElem? (i := 679) (by decide +kernel), List.forall_mem_cons.mpr ⟨List.mem_of_getElem? (i := 680) (by decide +kernel), List.forall_mem_cons.mpr ⟨List.mem_of_getElem? (i := 681) (by decide +kernel), List.forall_mem_cons.mpr ⟨List.mem_of_getElem? (i := 682) (by decide +kernel), List.forall_mem_cons.mpr ⟨List.mem_of_getElem? (i := 683) (by decide +kernel), List.forall_mem_cons.mpr ⟨List.mem_of_getElem? (i := 684) (by decide +kernel), List.forall_mem_cons.mpr ⟨List.mem_of_getElem? (i := 685) (by decide +kernel), List.forall_mem_cons.mpr ⟨List.mem_of_getElem? (i := 686) (by decide +kernel), fun w h => absurd h List.not_mem_nil⟩⟩⟩⟩⟩⟩⟩⟩⟩
theorem bg_25 : wsL_law_r25.all goodWord = true := by decide +kernel
theorem bp_1 : ∀ w ∈ wsL_law_r1, w ∈ wsL_law := fun w h => (List.mem_append_left _ (List.mem_append_left _ (List.mem_append_left _ (List.mem_append_left _ (List.mem_append_left _ (List.mem_append_left _ (List.mem_append_left _ (List.mem_append_left _ (List.mem_append_left _ h)))))))))
theorem bp_2 : ∀ w ∈ wsL_law_r2, w ∈ wsL_law := fun w h => (List.mem_append_left _ (List.mem_append_left _ (List.mem_append_left _ (List.mem_append_left _ (List.mem_append_left _ (List.mem_append_left _ (List.mem_append_left _ (List.mem_append_left _ (List.mem_append_right _ (List.mem_append_left _ h))))))))))
theorem bp_3 : ∀ w ∈ wsL_law_r3, w ∈ wsL_law := fun w h => (List.mem_append_left _ (List.mem_append_left _ (List.mem_append_left _ (List.mem_append_left _ (List.mem_append_left _ (List.mem_append_left _ (List.mem_append_left _ (List.mem_append_left _ (List.mem_append_right _ (List.mem_append_right _ (List.mem_append_left _ h)))))))))))
theorem bp_4 : ∀ w ∈ wsL_law_r4, w ∈ wsL_law := fun w h => (List.mem_append_left _ (List.mem_append_left _ (List.mem_append_left _ (List.mem_append_left _ (List.mem_append_left _ (List.mem_append_left _ (List.mem_append_left _ (List.mem_append_left _ (List.mem_append_right _ (List.mem_append_right _ (List.mem_append_right _ (List.mem_append_left _ h))))))))))))
theorem bp_5 : ∀ w ∈ wsL_law_r5, w ∈ wsL_law := fun w h => (List.mem_append_left _ (List.mem_append_left _ (List.mem_append_left _ (List.mem_append_left _ (List.mem_append_left _ (List.mem_append_left _ (List.mem_append_left _ (List.mem_append_left _ (List.mem_append_right _ (List.mem_append_right _ (List.mem_append_right _ (List.mem_append_right _ (List.mem_append_left _ h)))))))))))))
theorem bp_6 : ∀ w ∈ wsL_law_r6, w ∈ wsL_law := fun w h => (List.mem_append_left _ (List.mem_append_left _ (List.mem_append_left _ (List.mem_append_left _ (List.mem_append_left _ (List.mem_append_left _ (List.mem_append_left _ (List.mem_append_left _ (List.mem_append_right _ (List.mem_append_right _ (List.mem_append_right _ (List.mem_append_right _ (List.mem_append_right _ (List.mem_append_left _ h))))))))))))))
theorem bp_7 : ∀ w ∈ wsL_law_r7, w ∈ wsL_law := fun w h => (List.mem_append_left _ (List.mem_append_left _ (List.mem_append_left _ (List.mem_append_left _ (List.mem_append_left _ (List.mem_append_left _ (List.mem_append_left _ (List.mem_append_left _ (List.mem_append_right _ (List.mem_append_right _ (List.mem_append_right _ (List.mem_append_right _ (List.mem_append_right _ (List.mem_append_right _ (List.mem_append_left _ h)))))))))))))))
theorem bp_8 : ∀ w ∈ wsL_law_r8, w ∈ wsL_law := fun w h => (List.mem_append_left _ (List.mem_append_left _ (List.mem_append_left _ (List.mem_append_left _ (List.mem_append_left _ (List.mem_append_left _ (List.mem_append_left _ (List.mem_append_left _ (List.mem_append_right _ (List.mem_append_right _ (List.mem_append_right _ (List.mem_append_right _ (List.mem_append_right _ (List.mem_append_right _ (List.mem_append_right _ (List.mem_append_left _ h))))))))))))))))
theorem bp_9 : ∀ w ∈ wsL_law_r9, w ∈ wsL_law := fun w h => (List.mem_append_left _ (List.mem_append_left _ (List.mem_append_left _ (List.mem_append_left _ (List.mem_append_left _ (List.mem_append_left _ (List.mem_append_left _ (List.mem_append_left _ (List.mem_append_right _ (List.mem_append_right _ (List.mem_append_right _ (List.mem_append_right _ (List.mem_append_right _ (List.mem_append_right _ (List.mem_append_right _ (List.mem_append_right _ (List.mem_append_left _ h)))))))))))))))))
theorem bp_10 : ∀ w ∈ wsL_law_r10, w ∈ wsL_law := fun w h => (List.mem_append_left _ (List.mem_append_left _ (List.mem_append_left _ (List.mem_append_left _ (List.mem_append_left _ (List.mem_append_left _ (List.mem_append_left _ (List.mem_append_left _ (List.mem_append_right _ (List.mem_append_right _ (List.mem_append_right _ (List.mem_append_right _ (List.mem_append_right _ (List.mem_append_right _ (List.mem_append_right _ (List.mem_append_right _ (List.mem_append_right _ (List.mem_append_left _ h))))))))))))))))))
theorem bp_11 : ∀ w ∈ wsL_law_r11, w ∈ wsL_law := fun w h => (List.mem_append_left _ (List.mem_append_left _ (List.mem_append_left _ (List.mem_append_left _ (List.mem_append_left _ (List.mem_append_left _ (List.mem_append_left _ (List.mem_append_left _ (List.mem_append_right _ (List.mem_append_right _ (List.mem_append_right _ (List.mem_append_right _ (List.mem_append_right _ (List.mem_append_right _ (List.mem_append_right _ (List.mem_append_right _ (List.mem_append_right _ (List.mem_append_right _ (List.mem_append_left _ h)))))))))))))))))))
theorem bp_12 : ∀ w ∈ wsL_law_r12, w ∈ wsL_law := fun w h => (List.mem_append_left _ (List.mem_append_left _ (List.mem_append_left _ (List.mem_append_left _ (List.mem_append_left _ (List.mem_append_left _ (List.mem_append_left _ (List.mem_append_left _ (List.mem_append_right _ (List.mem_append_right _ (List.mem_append_right _ (List.mem_append_right _ (List.mem_append_right _ (List.mem_append_right _ (List.mem_append_right _ (List.mem_append_right _ (List.mem_append_right _ (List.mem_append_right _ (List.mem_append_right _ (List.mem_append_left _ h))))))))))))))))))))
theorem bp_13 : ∀ w ∈ wsL_law_r13, w ∈ wsL_law := fun w h => (List.mem_append_left _ (List.mem_append_left _ (List.mem_append_left _ (List.mem_append_left _ (List.mem_append_left _ (List.mem_append_left _ (List.mem_append_left _ (List.mem_append_left _ (List.mem_append_right _ (List.mem_append_right _ (List.mem_append_right _ (List.mem_append_right _ (List.mem_append_right _ (List.mem_append_right _ (List.mem_append_right _ (List.mem_append_right _ (List.mem_append_right _ (List.mem_append_right _ (List.mem_append_right _ (List.mem_append_right _ (List.mem_append_left _ h)))))))))))))))))))))
theorem bp_14 : ∀ w ∈ wsL_law_r14, w ∈ wsL_law := fun w h => (List.mem_append_left _ (List.mem_append_left _ (List.mem_append_left _ (List.mem_append_left _ (List.mem_append_left _ (List.mem_append_left _ (List.mem_append_left _ (List.mem_append_left _ (List.mem_append_right _ (List.mem_append_right _ (List.mem_append_right _ (List.mem_append_right _ (List.mem_append_right _ (List.mem_append_right _ (List.mem_append_right _ (List.mem_append_right _ (List.mem_append_right _ (List.mem_append_right _ (List.mem_append_right _ (List.mem_append_right _ (List.mem_append_right _ (List.mem_append_left _ h))))))))))))))))))))))
theorem bp_15 : ∀ w ∈ wsL_law_r15, w ∈ wsL_law := fun w h => (List.mem_append_left _ (List.mem_append_left _ (List.mem_append_left _ (List.mem_append_left _ (List.mem_append_left _ (List.mem_append_left _ (List.mem_append_left _ (List.mem_append_left _ (List.mem_append_right _ (List.mem_append_right _ (List.mem_append_right _ (List.mem_append_right _ (List.mem_append_right _ (List.mem_append_right _ (List.mem_append_right _ (List.mem_append_right _ (List.mem_append_right _ (List.mem_append_right _ (List.mem_append_right _ (List.mem_append_right _ (List.mem_append_right _ (List.mem_append_right _ (List.mem_append_left _ h)))))))))))))))))))))))
theorem bp_16 : ∀ w ∈ wsL_law_r16, w ∈ wsL_law := fun w h => (List.mem_append_left _ (List.mem_append_left _ (List.mem_append_left _ (List.mem_append_left _ (List.mem_append_left _ (List.mem_append_left _ (List.mem_append_left _ (List.mem_append_left _ (List.mem_append_right _ (List.mem_append_right _ (List.mem_append_right _ (List.mem_append_right _ (List.mem_append_right _ (List.mem_append_right _ (List.mem_append_right _ (List.mem_append_right _ (List.mem_append_right _ (List.mem_append_right _ (List.mem_append_right _ (List.mem_append_right _ (List.mem_append_right _ (List.mem_append_right _ (List.mem_append_right _ (List.mem_append_left _ h))))))))))))))))))))))))
theorem bp_17 : ∀ w ∈ wsL_law_r17, w ∈ wsL_law := fun w h => (List.mem_append_left _ (List.mem_append_left _ (List.mem_append_left _ (List.mem_append_left _ (List.mem_append_left _ (List.mem_append_left _ (List.mem_append_left _ (List.mem_append_left _ (List.mem_append_right _ (List.mem_append_right _ (List.mem_append_right _ (List.mem_append_right _ (List.mem_append_right _ (List.mem_append_right _ (List.mem_append_right _ (List.mem_append_right _ (List.mem_append_right _ (List.mem_append_right _ (List.mem_append_right _ (List.mem_append_right _ (List.mem_append_right _ (List.mem_append_right _ (List.mem_append_right _ (List.mem_append_right _ (List.mem_append_left _ h)))))))))))))))))))))))))
theorem bp_18 : ∀ w ∈ wsL_law_r18, w ∈ wsL_law := fun w h => (List.mem_append_left _ (List.mem_append_left _ (List.mem_append_left _ (List.mem_append_left _ (List.mem_append_left _ (List.mem_append_left _ (List.mem_append_left _ (List.mem_append_left _ (List.mem_append_right _ (List.mem_append_right _ (List.mem_append_right _ (List.mem_append_right _ (List.mem_append_right _ (List.mem_append_right _ (List.mem_append_right _ (List.mem_append_right _ (List.mem_append_right _ (List.mem_append_right _ (List.mem_append_right _ (List.mem_append_right _ (List.mem_append_right _ (List.mem_append_right _ (List.mem_append_right _ (List.mem_append_right _ (List.mem_append_right _ (List.mem_append_left _ h))))))))))))))))))))))))))
theorem bp_19 : ∀ w ∈ wsL_law_r19, w ∈ wsL_law := fun w h => (List.mem_append_left _ (List.mem_append_left _ (List.mem_append_left _ (List.mem_append_left _ (List.mem_append_left _ (List.mem_append_left _ (List.mem_append_left _ (List.mem_append_left _ (List.mem_append_right _ (List.mem_append_right _ (List.mem_append_right _ (List.mem_append_right _ (List.mem_append_right _ (List.mem_append_right _ (List.mem_append_right _ (List.mem_append_right _ (List.mem_append_right _ (List.mem_append_right _ (List.mem_append_right _ (List.mem_append_right _ (List.mem_append_right _ (List.mem_append_right _ (List.mem_append_right _ (List.mem_append_right _ (List.mem_append_right _ (List.mem_append_right _ (List.mem_append_left _ h)))))))))))))))))))))))))))
theorem bp_20 : ∀ w ∈ wsL_law_r20, w ∈ wsL_law := fun w h => (List.mem_append_left _ (List.mem_append_left _ (List.mem_append_left _ (List.mem_append_left _ (List.mem_append_left _ (List.mem_append_left _ (List.mem_append_left _ (List.mem_append_left _ (List.mem_append_right _ (List.mem_append_right _ (List.mem_append_right _ (List.mem_append_right _ (List.mem_append_right _ (List.mem_append_right _ (List.mem_append_right _ (List.mem_append_right _ (List.mem_append_right _ (List.mem_append_right _ (List.mem_append_right _ (List.mem_append_right _ (List.mem_append_right _ (List.mem_append_right _ (List.mem_append_right _ (List.mem_append_right _ (List.mem_append_right _ (List.mem_append_right _ (List.mem_append_right _ (List.mem_append_left _ h))))))))))))))))))))))))))))
theorem bp_21 : ∀ w ∈ wsL_law_r21, w ∈ wsL_law := fun w h => (List.mem_append_left _ (List.mem_append_left _ (List.mem_append_left _ (List.mem_append_left _ (List.mem_append_left _ (List.mem_append_left _ (List.mem_append_left _ (List.mem_append_left _ (List.mem_append_right _ (List.mem_append_right _ (List.mem_append_right _ (List.mem_append_right _ (List.mem_append_right _ (List.mem_append_right _ (List.mem_append_right _ (List.mem_append_right _ (List.mem_append_right _ (List.mem_append_right _ (List.mem_append_right _ (List.mem_append_right _ (List.mem_append_right _ (List.mem_append_right _ (List.mem_append_right _ (List.mem_append_right _ (List.mem_append_right _ (List.mem_append_right _ (List.mem_append_right _ (List.mem_append_right _ (List.mem_append_left _ h)))))))))))))))))))))))))))))
theorem bp_22 : ∀ w ∈ wsL_law_r22, w ∈ wsL_law := fun w h => (List.mem_append_left _ (List.mem_append_left _ (List.mem_append_left _ (List.mem_append_left _ (List.mem_append_left _ (List.mem_append_left _ (List.mem_append_left _ (List.mem_append_left _ (List.mem_append_right _ (List.mem_append_right _ (List.mem_append_right _ (List.mem_append_right _ (List.mem_append_right _ (List.mem_append_right _ (List.mem_append_right _ (List.mem_append_right _ (List.mem_append_right _ (List.mem_append_right _ (List.mem_append_right _ (List.mem_append_right _ (List.mem_append_right _ (List.mem_append_right _ (List.mem_append_right _ (List.mem_append_right _ (List.mem_append_right _ (List.mem_append_right _ (List.mem_append_right _ (List.mem_append_right _ (List.mem_append_right _ (List.mem_append_left _ h))))))))))))))))))))))))))))))
theorem bp_23 : ∀ w ∈ wsL_law_r23, w ∈ wsL_law := fun w h => (List.mem_append_left _ (List.mem_append_left _ (List.mem_append_left _ (List.mem_append_left _ (List.mem_append_left _ (List.mem_append_left _ (List.mem_append_left _ (List.mem_append_left _ (List.mem_append_right _ (List.mem_append_right _ (List.mem_append_right _ (List.mem_append_right _ (List.mem_append_right _ (List.mem_append_right _ (List.mem_append_right _ (List.mem_append_right _ (List.mem_append_right _ (List.mem_append_right _ (List.mem_append_right _ (List.mem_append_right _ (List.mem_append_right _ (List.mem_append_right _ (List.mem_append_right _ (List.mem_append_right _ (List.mem_append_right _ (List.mem_append_right _ (List.mem_append_right _ (List.mem_append_right _ (List.mem_append_right _ (List.mem_append_right _ (List.mem_append_left _ h)))))))))))))))))))))))))))))))
theorem bp_24 : ∀ w ∈ wsL_law_r24, w ∈ wsL_law := fun w h => (List.mem_append_left _ (List.mem_append_left _ (List.mem_append_left _ (List.mem_append_left _ (List.mem_append_left _ (List.mem_append_left _ (List.mem_append_left _ (List.mem_append_left _ (List.mem_append_right _ (List.mem_append_right _ (List.mem_append_right _ (List.mem_append_right _ (List.mem_append_right _ (List.mem_append_right _ (List.mem_append_right _ (List.mem_append_right _ (List.mem_append_right _ (List.mem_append_right _ (List.mem_append_right _ (List.mem_append_right _ (List.mem_append_right _ (List.mem_append_right _ (List.mem_append_right _ (List.mem_append_right _ (List.mem_append_right _ (List.mem_append_right _ (List.mem_append_right _ (List.mem_append_right _ (List.mem_append_right _ (List.mem_append_right _ (List.mem_append_right _ (List.mem_append_left _ h))))))))))))))))))))))))))))))))
theorem bp_25 : ∀ w ∈ wsL_law_r25, w ∈ wsL_law := fun w h => (List.mem_append_left _ (List.mem_append_left _ (List.mem_append_left _ (List.mem_append_left _ (List.mem_append_left _ (List.mem_append_left _ (List.mem_append_left _ (List.mem_append_left _ (List.mem_append_right _ (List.mem_append_right _ (List.mem_append_right _ (List.mem_append_right _ (List.mem_append_right _ (List.mem_append_right _ (List.mem_append_right _ (List.mem_append_right _ (List.mem_append_right _ (List.mem_append_right _ (List.mem_append_right _ (List.mem_append_right _ (List.mem_append_right _ (List.mem_append_right _ (List.mem_append_right _ (List.mem_append_right _ (List.mem_append_right _ (List.mem_append_right _ (List.mem_append_right _ (List.mem_append_right _ (List.mem_append_right _ (List.mem_append_right _ (List.mem_append_right _ (List.mem_append_right _ h))))))))))))))))))))))))))))))))
theorem bp_X6 : ∀ w ∈ wsX60, w ∈ wsL_law := fun w h => (List.mem_append_left _ (List.mem_append_left _ (List.mem_append_left _ (List.mem_append_left _ (List.mem_append_left _ (List.mem_append_left _ (List.mem_append_left _ (List.mem_append_right _ h))))))))
theorem bp_X3 : ∀ w ∈ wsX30, w ∈ wsL_law := fun w h => (List.mem_append_left _ (List.mem_append_left _ (List.mem_append_left _ (List.mem_append_left _ (List.mem_append_left _ (List.mem_append_left _ (List.mem_append_right _ h)))))))
theorem bp_X1 : ∀ w ∈ wsX10, w ∈ wsL_law := fun w h => (List.mem_append_left _ (List.mem_append_left _ (List.mem_append_left _ (List.mem_append_left _ (List.mem_append_left _ (List.mem_append_right _ h))))))
theorem bp_X5 : ∀ w ∈ wsX50, w ∈ wsL_law := fun w h => (List.mem_append_left _ (List.mem_append_left _ (List.mem_append_left _ (List.mem_append_left _ (List.mem_append_right _ h)))))
theorem bp_X4 : ∀ w ∈ wsX40, w ∈ wsL_law := fun w h => (List.mem_append_left _ (List.mem_append_left _ (List.mem_append_left _ (List.mem_append_right _ h))))
theorem bp_X2 : ∀ w ∈ wsX20, w ∈ wsL_law := fun w h => (List.mem_append_left _ (List.mem_append_left _ (List.mem_append_right _ h)))
theorem bp_X0 : ∀ w ∈ wsX00, w ∈ wsL_law := fun w h => (List.mem_append_left _ (List.mem_append_right _ h))
theorem bt_X6 : ∀ w ∈ wsX60, w ∈ lw_tbl := List.forall_mem_cons.mpr ⟨List.mem_of_getElem? (i := 268) (by decide +kernel), List.forall_mem_cons.mpr ⟨List.mem_of_getElem? (i := 270) (by decide +kernel), List.forall_mem_cons.mpr ⟨List.mem_of_getElem? (i := 272) (by decide +kernel), List.forall_mem_cons.mpr ⟨List.mem_of_getElem? (i := 274) (by decide +kernel), List.forall_mem_cons.mpr ⟨List.mem_of_getElem? (i := 276) (by decide +kernel), List.forall_mem_cons.mpr ⟨List.mem_of_getElem? (i := 278) (by decide +kernel), List.forall_mem_cons.mpr ⟨List.mem_of_getElem? (i := 280) (by decide +kernel), List.forall_mem_cons.mpr ⟨List.mem_of_getElem? (i := 282) (by decide +kernel), fun w h => absurd h List.not_mem_nil⟩⟩⟩⟩⟩⟩⟩⟩
theorem bg_X6 : (wsX60 : List Cond).all goodWord = true := by decide +kernel
theorem bt_X3 : ∀ w ∈ wsX30, w ∈ lw_tbl := List.forall_mem_cons.mpr ⟨List.mem_of_getElem? (i := 193) (by decide +kernel), List.forall_mem_cons.mpr ⟨List.mem_of_getElem? (i := 195) (by decide +kernel), List.forall_mem_cons.mpr ⟨List.mem_of_getElem? (i := 197) (by decide +kernel), List.forall_mem_cons.mpr ⟨List.mem_of_getElem? (i := 199) (by decide +kernel), List.forall_mem_cons.mpr ⟨List.mem_of_getElem? (i := 201) (by decide +kernel), List.forall_mem_cons.mpr ⟨List.mem_of_getElem? (i := 203) (by decide +kernel), List.forall_mem_cons.mpr ⟨List.mem_of_getElem? (i := 205) (by decide +kernel), List.forall_mem_cons.mpr ⟨List.mem_of_getElem? (i := 207) (by decide +kernel), fun w h => absurd h List.not_mem_nil⟩⟩⟩⟩⟩⟩⟩⟩
theorem bg_X3 : (wsX30 : List Cond).all goodWord = true := by decide +kernel
theorem bt_X1 : ∀ w ∈ wsX10, w ∈ lw_tbl := List.forall_mem_cons.mpr ⟨List.mem_of_getElem? (i := 222) (by decide +kernel), List.forall_mem_cons.mpr ⟨List.mem_of_getElem? (i := 224) (by decide +kernel), fun w h => absurd h List.not_mem_nil⟩⟩
theorem bg_X1 : (wsX10 : List Cond).all goodWord = true := by decide +kernel
theorem bt_X5 : ∀ w ∈ wsX50, w ∈ lw_tbl := List.forall_mem_cons.mpr ⟨List.mem_of_getElem? (i := 242) (by decide +kernel), List.forall_mem_cons.mpr ⟨List.mem_of_getElem? (i := 244) (by decide +kernel), List.forall_mem_cons.mpr ⟨List.mem_of_getElem? (i := 246) (by decide +kernel), List.forall_mem_cons.mpr ⟨List.mem_of_getElem? (i := 248) (by decide +kernel), List.forall_mem_cons.mpr ⟨List.mem_of_getElem? (i := 250) (by decide +kernel), List.forall_mem_cons.mpr ⟨List.mem_of_getElem? (i := 252) (by decide +kernel), List.forall_mem_cons.mpr ⟨List.mem_of_getElem? (i := 254) (by decide +kernel), fun w h => absurd h List.not_mem_nil⟩⟩⟩⟩⟩⟩⟩
theorem bg_X5 : (wsX50 : List Cond).all goodWord = true := by decide +kernel
theorem bt_X4 : ∀ w ∈ wsX40, w ∈ lw_tbl := List.forall_mem_cons.mpr ⟨List.mem_of_getElem? (i := 144) (by decide +kernel), List.forall_mem_cons.mpr ⟨List.mem_of_getElem? (i := 146) (by decide +kernel), List.forall_mem_cons.mpr ⟨List.mem_of_getElem? (i := 148) (by decide +kernel), List.forall_mem_cons.mpr ⟨List.mem_of_getElem? (i := 150) (by decide +kernel), List.forall_mem_cons.mpr ⟨List.mem_of_getElem? (i := 152) (by decide +kernel), List.forall_mem_cons.mpr ⟨List.mem_of_getElem? (i := 154) (by decide +kernel), fun w h => absurd h List.not_mem_nil⟩⟩⟩⟩⟩⟩
theorem bg_X4 : (wsX40 : List Cond).all goodWord = true := by decide +kernel
theorem bt_X2 : ∀ w ∈ wsX20, w ∈ lw_tbl := List.forall_mem_cons.mpr ⟨List.mem_of_getElem? (i := 94) (by decide +kernel), List.forall_mem_cons.mpr ⟨List.mem_of_getElem? (i := 96) (by decide +kernel), List.forall_mem_cons.mpr ⟨List.mem_of_getElem? (i := 98) (by decide +kernel), List.forall_mem_cons.mpr ⟨List.mem_of_getElem? (i := 100) (by decide +kernel), List.forall_mem_cons.mpr ⟨List.mem_of_getElem? (i := 102) (by decide +kernel), List.forall_mem_cons.mpr ⟨List.mem_of_getElem? (i := 104) (by decide +kernel), List.forall_mem_cons.mpr ⟨List.mem_of_getElem? (i := 106) (by decide +kernel), List.forall_mem_cons.mpr ⟨List.mem_of_getElem? (i := 108) (by decide +kernel), List.forall_mem_cons.mpr ⟨List.mem_of_getElem? (i := 110) (by decide +kernel), List.forall_mem_cons.mpr ⟨List.mem_of_getElem? (i := 112) (by decide +kernel), List.forall_mem_cons.mpr ⟨List.mem_of_getElem? (i := 114) (by decide +kernel), List.forall_mem_cons.mpr ⟨List.mem_of_getElem? (i := 116) (by decide +kernel), List.forall_mem_cons.mpr ⟨List.mem_of_getElem? (i := 118) (by decide +kernel), List.forall_mem_cons.mpr ⟨List.mem_of_getElem? (i := 120) (by decide +kernel), List.forall_mem_cons.mpr ⟨List.mem_of_getElem? (i := 122) (by decide +kernel), fun w h => absurd h List.not_mem_nil⟩⟩⟩⟩⟩⟩⟩⟩⟩⟩⟩⟩⟩⟩⟩
theorem bg_X2 : (wsX20 : List Cond).all goodWord = true := by decide +kernel
theorem bt_X0 : ∀ w ∈ wsX00, w ∈ lw_tbl := List.forall_mem_cons.mpr ⟨List.mem_of_getElem? (i := 168) (by decide +kernel), List.forall_mem_cons.mpr ⟨List.mem_of_getElem? (i := 170) (by decide +kernel), List.forall_mem_cons.mpr ⟨List.mem_of_getElem? (i := 172) (by decide +kernel), List.forall_mem_cons.mpr ⟨List.mem_of_getElem? (i := 174) (by decide +kernel), fun w h => absurd h List.not_mem_nil⟩⟩⟩⟩
theorem bg_X0 : (wsX00 : List Cond).all goodWord = true := by decide +kernel
theorem bz_B_in : ∀ w ∈ wsL_law, w ∈ lw_tbl := List.forall_mem_append.mpr ⟨List.forall_mem_append.mpr ⟨List.forall_mem_append.mpr ⟨List.forall_mem_append.mpr ⟨List.forall_mem_append.mpr ⟨List.forall_mem_append.mpr ⟨List.forall_mem_append.mpr ⟨List.forall_mem_append.mpr ⟨List.forall_mem_append.mpr ⟨bt_1, List.forall_mem_append.mpr ⟨bt_2, List.forall_mem_append.mpr ⟨bt_3, List.forall_mem_append.mpr ⟨bt_4, List.forall_mem_append.mpr ⟨bt_5, List.forall_mem_append.mpr ⟨bt_6, List.forall_mem_append.mpr ⟨bt_7, List.forall_mem_append.mpr ⟨bt_8, List.forall_mem_append.mpr ⟨bt_9, List.forall_mem_append.mpr ⟨bt_10, List.forall_mem_append.mpr ⟨bt_11, List.forall_mem_append.mpr ⟨bt_12, List.forall_mem_append.mpr ⟨bt_13, List.forall_mem_append.mpr ⟨bt_14, List.forall_mem_append.mpr ⟨bt_15, List.forall_mem_append.mpr ⟨bt_16, List.forall_mem_append.mpr ⟨bt_17, List.forall_mem_append.mpr ⟨bt_18, List.forall_mem_append.mpr ⟨bt_19, List.forall_mem_append.mpr ⟨bt_20, List.forall_mem_append.mpr ⟨bt_21, List.forall_mem_append.mpr ⟨bt_22, List.forall_mem_append.mpr ⟨bt_23, List.forall_mem_append.mpr ⟨bt_24, bt_25⟩⟩⟩⟩⟩⟩⟩⟩⟩⟩⟩⟩⟩⟩⟩⟩⟩⟩⟩⟩⟩⟩⟩⟩, bt_X6⟩, bt_X3⟩, bt_X1⟩, bt_X5⟩, bt_X4⟩, bt_X2⟩, bt_X0⟩, fun w h => absurd h List.not_mem_nil⟩
theorem bh_1 : ∀ w ∈ wsL_law_r1, (w.onTables && w.keeps) = true ∨ ∃ ty, w = .arrayClass ty := fun w h => good_of_word (List.all_eq_true.mp bg_1 w h)
theorem bh_2 : ∀ w ∈ wsL_law_r2, (w.onTables && w.keeps) = true ∨ ∃ ty, w = .arrayClass ty := fun w h => good_of_word (List.all_eq_true.mp bg_2 w h)
theorem bh_3 : ∀ w ∈ wsL_law_r3, (w.onTables && w.keeps) = true ∨ ∃ ty, w = .arrayClass ty := fun w h => good_of_word (List.all_eq_true.mp bg_3 w h)
theorem bh_4 : ∀ w ∈ wsL_law_r4, (w.onTables && w.keeps) = true ∨ ∃ ty, w = .arrayClass ty := fun w h => good_of_word (List.all_eq_true.mp bg_4 w h)
theorem bh_5 : ∀ w ∈ wsL_law_r5, (w.onTables && w.keeps) = true ∨ ∃ ty, w = .arrayClass ty := fun w h => good_of_word (List.all_eq_true.mp bg_5 w h)
theorem bh_6 : ∀ w ∈ wsL_law_r6, (w.onTables && w.keeps) = true ∨ ∃ ty, w = .arrayClass ty := fun w h => good_of_word (List.all_eq_true.mp bg_6 w h)
theorem bh_7 : ∀ w ∈ wsL_law_r7, (w.onTables && w.keeps) = true ∨ ∃ ty, w = .arrayClass ty := fun w h => good_of_word (List.all_eq_true.mp bg_7 w h)
theorem bh_8 : ∀ w ∈ wsL_law_r8, (w.onTables && w.keeps) = true ∨ ∃ ty, w = .arrayClass ty := fun w h => good_of_word (List.all_eq_true.mp bg_8 w h)
theorem bh_9 : ∀ w ∈ wsL_law_r9, (w.onTables && w.keeps) = true ∨ ∃ ty, w = .arrayClass ty := fun w h => good_of_word (List.all_eq_true.mp bg_9 w h)
theorem bh_10 : ∀ w ∈ wsL_law_r10, (w.onTables && w.keeps) = true ∨ ∃ ty, w = .arrayClass ty := fun w h => good_of_word (List.all_eq_true.mp bg_10 w h)
theorem bh_11 : ∀ w ∈ wsL_law_r11, (w.onTables && w.keeps) = true ∨ ∃ ty, w = .arrayClass ty := fun w h => good_of_word (List.all_eq_true.mp bg_11 w h)
theorem bh_12 : ∀ w ∈ wsL_law_r12, (w.onTables && w.keeps) = true ∨ ∃ ty, w = .arrayClass ty := fun w h => good_of_word (List.all_eq_true.mp bg_12 w h)
theorem bh_13 : ∀ w ∈ wsL_law_r13, (w.onTables && w.keeps) = true ∨ ∃ ty, w = .arrayClass ty := fun w h => good_of_word (List.all_eq_true.mp bg_13 w h)
theorem bh_14 : ∀ w ∈ wsL_law_r14, (w.onTables && w.keeps) = true ∨ ∃ ty, w = .arrayClass ty := fun w h => good_of_word (List.all_eq_true.mp bg_14 w h)
theorem bh_15 : ∀ w ∈ wsL_law_r15, (w.onTables && w.keeps) = true ∨ ∃ ty, w = .arrayClass ty := fun w h => good_of_word (List.all_eq_true.mp bg_15 w h)
theorem bh_16 : ∀ w ∈ wsL_law_r16, (w.onTables && w.keeps) = true ∨ ∃ ty, w = .arrayClass ty := fun w h => good_of_word (List.all_eq_true.mp bg_16 w h)
theorem bh_17 : ∀ w ∈ wsL_law_r17, (w.onTables && w.keeps) = true ∨ ∃ ty, w = .arrayClass ty := fun w h => good_of_word (List.all_eq_true.mp bg_17 w h)
theorem bh_18 : ∀ w ∈ wsL_law_r18, (w.onTables && w.keeps) = true ∨ ∃ ty, w = .arrayClass ty := fun w h => good_of_word (List.all_eq_true.mp bg_18 w h)
theorem bh_19 : ∀ w ∈ wsL_law_r19, (w.onTables && w.keeps) = true ∨ ∃ ty, w = .arrayClass ty := fun w h => good_of_word (List.all_eq_true.mp bg_19 w h)
theorem bh_20 : ∀ w ∈ wsL_law_r20, (w.onTables && w.keeps) = true ∨ ∃ ty, w = .arrayClass ty := fun w h => good_of_word (List.all_eq_true.mp bg_20 w h)
theorem bh_21 : ∀ w ∈ wsL_law_r21, (w.onTables && w.keeps) = true ∨ ∃ ty, w = .arrayClass ty := fun w h => good_of_word (List.all_eq_true.mp bg_21 w h)
theorem bh_22 : ∀ w ∈ wsL_law_r22, (w.onTables && w.keeps) = true ∨ ∃ ty, w = .arrayClass ty := fun w h => good_of_word (List.all_eq_true.mp bg_22 w h)
theorem bh_23 : ∀ w ∈ wsL_law_r23, (w.onTables && w.keeps) = true ∨ ∃ ty, w = .arrayClass ty := fun w h => good_of_word (List.all_eq_true.mp bg_23 w h)
theorem bh_24 : ∀ w ∈ wsL_law_r24, (w.onTables && w.keeps) = true ∨ ∃ ty, w = .arrayClass ty := fun w h => good_of_word (List.all_eq_true.mp bg_24 w h)
theorem bh_25 : ∀ w ∈ wsL_law_r25, (w.onTables && w.keeps) = true ∨ ∃ ty, w = .arrayClass ty := fun w h => good_of_word (List.all_eq_true.mp bg_25 w h)
theorem bh_X6 : ∀ w ∈ (wsX60 : List Cond), (w.onTables && w.keeps) = true ∨ ∃ ty, w = .arrayClass ty := fun w h => good_of_word (List.all_eq_true.mp bg_X6 w h)
theorem bh_X3 : ∀ w ∈ (wsX30 : List Cond), (w.onTables && w.keeps) = true ∨ ∃ ty, w = .arrayClass ty := fun w h => good_of_word (List.all_eq_true.mp bg_X3 w h)
theorem bh_X1 : ∀ w ∈ (wsX10 : List Cond), (w.onTables && w.keeps) = true ∨ ∃ ty, w = .arrayClass ty := fun w h => good_of_word (List.all_eq_true.mp bg_X1 w h)
theorem bh_X5 : ∀ w ∈ (wsX50 : List Cond), (w.onTables && w.keeps) = true ∨ ∃ ty, w = .arrayClass ty := fun w h => good_of_word (List.all_eq_true.mp bg_X5 w h)
theorem bh_X4 : ∀ w ∈ (wsX40 : List Cond), (w.onTables && w.keeps) = true ∨ ∃ ty, w = .arrayClass ty := fun w h => good_of_word (List.all_eq_true.mp bg_X4 w h)
theorem bh_X2 : ∀ w ∈ (wsX20 : List Cond), (w.onTables && w.keeps) = true ∨ ∃ ty, w = .arrayClass ty := fun w h => good_of_word (List.all_eq_true.mp bg_X2 w h)
theorem bh_X0 : ∀ w ∈ (wsX00 : List Cond), (w.onTables && w.keeps) = true ∨ ∃ ty, w = .arrayClass ty := fun w h => good_of_word (List.all_eq_true.mp bg_X0 w h)
theorem bz_B_good : ∀ w ∈ wsL_law, (w.onTables && w.keeps) = true ∨ ∃ ty, w = .arrayClass ty := List.forall_mem_append.mpr ⟨List.forall_mem_append.mpr ⟨List.forall_mem_append.mpr ⟨List.forall_mem_append.mpr ⟨List.forall_mem_append.mpr ⟨List.forall_mem_append.mpr ⟨List.forall_mem_append.mpr ⟨List.forall_mem_append.mpr ⟨List.forall_mem_append.mpr ⟨bh_1, List.forall_mem_append.mpr ⟨bh_2, List.forall_mem_append.mpr ⟨bh_3, List.forall_mem_append.mpr ⟨bh_4, List.forall_mem_append.mpr ⟨bh_5, List.forall_mem_append.mpr ⟨bh_6, List.forall_mem_append.mpr ⟨bh_7, List.forall_mem_append.mpr ⟨bh_8, List.forall_mem_append.mpr ⟨bh_9, List.forall_mem_append.mpr ⟨bh_10, List.forall_mem_append.mpr ⟨bh_11, List.forall_mem_append.mpr ⟨bh_12, List.forall_mem_append.mpr ⟨bh_13, List.forall_mem_append.mpr ⟨bh_14, List.forall_mem_append.mpr ⟨bh_15, List.forall_mem_append.mpr ⟨bh_16, List.forall_mem_append.mpr ⟨bh_17, List.forall_mem_append.mpr ⟨bh_18, List.forall_mem_append.mpr ⟨bh_19, List.forall_mem_append.mpr ⟨bh_20, List.forall_mem_append.mpr ⟨bh_21, List.forall_mem_append.mpr ⟨bh_22, List.forall_mem_append.mpr ⟨bh_23, List.forall_mem_append.mpr ⟨bh_24, bh_25⟩⟩⟩⟩⟩⟩⟩⟩⟩⟩⟩⟩⟩⟩⟩⟩⟩⟩⟩⟩⟩⟩⟩⟩, bh_X6⟩, bh_X3⟩, bh_X1⟩, bh_X5⟩, bh_X4⟩, bh_X2⟩, bh_X0⟩, fun w h => absurd h List.not_mem_nil⟩
theorem wd_1_0 : Cond.classLink RL 14 RX6 ∈ wsL_law := bp_1 _ (List.mem_of_getElem? (i := 0) rfl)
theorem wd_1_1 : Cond.instantiable RX6 8 ∈ wsL_law := bp_1 _ (List.mem_of_getElem? (i := 1) rfl)
theorem wd_1_2 : Cond.initialized RX6 ∈ wsL_law := bp_1 _ (List.mem_of_getElem? (i := 2) rfl)
theorem wd_1_3 : Cond.methodLink RL 104 yX6_init ∈ wsL_law := bp_1 _ (List.mem_of_getElem? (i := 3) rfl)
theorem wd_1_4 : Cond.instanceMethod yX6_init ∈ wsL_law := bp_1 _ (List.mem_of_getElem? (i := 4) rfl)
theorem wd_1_5 : Cond.code yX6_init cX6_init 1 none ∈ wsL_law := bp_1 _ (List.mem_of_getElem? (i := 5) rfl)
theorem wd_1_6 : Cond.methodLink RX6 1 objectInit ∈ wsL_law := bp_1 _ (List.mem_of_getElem? (i := 6) rfl)
theorem wd_1_7 : Cond.instanceMethod objectInit ∈ wsL_law := bp_1 _ (List.mem_of_getElem? (i := 7) rfl)
theorem wd_1_8 : Cond.code objectInit ⟨#[0xb1]⟩ 1 none ∈ wsL_law := bp_1 _ (List.mem_of_getElem? (i := 8) rfl)
theorem wd_1_9 : Cond.classLink RX6 7 RX3 ∈ wsL_law := bp_1 _ (List.mem_of_getElem? (i := 9) rfl)
theorem wd_1_10 : Cond.instantiable RX3 8 ∈ wsL_law := bp_1 _ (List.mem_of_getElem? (i := 10) rfl)
theorem wd_1_11 : Cond.initialized RX3 ∈ wsL_law := bp_1 _ (List.mem_of_getElem? (i := 11) rfl)
theorem wd_1_12 : Cond.fieldLink RX6 10 "StarterBay" "now" "LStarterBay$State;" ∈ wsL_law := bp_1 _ (List.mem_of_getElem? (i := 12) rfl)
theorem wd_1_13 : Cond.classLink RX6 16 RX1 ∈ wsL_law := bp_1 _ (List.mem_of_getElem? (i := 13) rfl)
theorem wd_1_14 : Cond.instantiable RX1 2 ∈ wsL_law := bp_1 _ (List.mem_of_getElem? (i := 14) rfl)
theorem wd_1_15 : Cond.initialized RX1 ∈ wsL_law := bp_1 _ (List.mem_of_getElem? (i := 15) rfl)
theorem wd_1_16 : Cond.fieldLink RX6 19 "StarterBay" "history" "LStarterBay$History;" ∈ wsL_law := bp_1 _ (List.mem_of_getElem? (i := 16) rfl)
theorem wd_1_17 : Cond.fieldLink RX6 23 "StarterBay" "snapshot" "LStarterBay$State;" ∈ wsL_law := bp_1 _ (List.mem_of_getElem? (i := 17) rfl)
theorem wd_1_18 : Cond.classLink RX6 26 RX5 ∈ wsL_law := bp_1 _ (List.mem_of_getElem? (i := 18) rfl)
theorem wd_1_19 : Cond.instantiable RX5 7 ∈ wsL_law := bp_1 _ (List.mem_of_getElem? (i := 19) rfl)
theorem wd_1_20 : Cond.initialized RX5 ∈ wsL_law := bp_1 _ (List.mem_of_getElem? (i := 20) rfl)
theorem wd_1_21 : Cond.fieldLink RX6 29 "StarterBay" "text" "LStarterBay$TimetableText;" ∈ wsL_law := bp_1 _ (List.mem_of_getElem? (i := 21) rfl)
theorem wd_1_22 : Cond.classLink RX6 33 RX4 ∈ wsL_law := bp_1 _ (List.mem_of_getElem? (i := 22) rfl)
theorem wd_1_23 : Cond.instantiable RX4 6 ∈ wsL_law := bp_1 _ (List.mem_of_getElem? (i := 23) rfl)
theorem wd_2_0 : Cond.initialized RX4 ∈ wsL_law := bp_2 _ (List.mem_of_getElem? (i := 0) rfl)
theorem wd_2_1 : Cond.fieldLink RX6 36 "StarterBay" "draft" "LStarterBay$Timetable;" ∈ wsL_law := bp_2 _ (List.mem_of_getElem? (i := 1) rfl)
theorem wd_2_2 : Cond.arrayClass .int ∈ wsL_law := bp_2 _ (List.mem_of_getElem? (i := 2) rfl)
theorem wd_2_3 : Cond.fieldLink RX6 40 "StarterBay" "line" "[I" ∈ wsL_law := bp_2 _ (List.mem_of_getElem? (i := 3) rfl)
theorem wd_2_4 : Cond.methodLink RX6 9 yX3_init ∈ wsL_law := bp_2 _ (List.mem_of_getElem? (i := 4) rfl)
theorem wd_2_5 : Cond.instanceMethod yX3_init ∈ wsL_law := bp_2 _ (List.mem_of_getElem? (i := 5) rfl)
theorem wd_2_6 : Cond.code yX3_init cX3_init 2 none ∈ wsL_law := bp_2 _ (List.mem_of_getElem? (i := 6) rfl)
theorem wd_2_7 : Cond.methodLink RX3 3 objectInit ∈ wsL_law := bp_2 _ (List.mem_of_getElem? (i := 7) rfl)
theorem wd_2_8 : Cond.classLink RX3 9 RX2 ∈ wsL_law := bp_2 _ (List.mem_of_getElem? (i := 8) rfl)
theorem wd_2_9 : Cond.fieldLink RX3 11 "StarterBay$State" "motors" "[LStarterBay$Motor;" ∈ wsL_law := bp_2 _ (List.mem_of_getElem? (i := 9) rfl)
theorem wd_2_10 : Cond.instantiable RX2 15 ∈ wsL_law := bp_2 _ (List.mem_of_getElem? (i := 10) rfl)
theorem wd_2_11 : Cond.initialized RX2 ∈ wsL_law := bp_2 _ (List.mem_of_getElem? (i := 11) rfl)
theorem wd_2_12 : Cond.classLink RX3 20 RX4 ∈ wsL_law := bp_2 _ (List.mem_of_getElem? (i := 12) rfl)
theorem wd_2_13 : Cond.fieldLink RX3 23 "StarterBay$State" "timetable" "LStarterBay$Timetable;" ∈ wsL_law := bp_2 _ (List.mem_of_getElem? (i := 13) rfl)
theorem wd_2_14 : Cond.classLink RX3 27 RX0 ∈ wsL_law := bp_2 _ (List.mem_of_getElem? (i := 14) rfl)
theorem wd_2_15 : Cond.instantiable RX0 4 ∈ wsL_law := bp_2 _ (List.mem_of_getElem? (i := 15) rfl)
theorem wd_2_16 : Cond.initialized RX0 ∈ wsL_law := bp_2 _ (List.mem_of_getElem? (i := 16) rfl)
theorem wd_2_17 : Cond.fieldLink RX3 30 "StarterBay$State" "events" "LStarterBay$EventLog;" ∈ wsL_law := bp_2 _ (List.mem_of_getElem? (i := 17) rfl)
theorem wd_2_18 : Cond.fieldLink RX3 34 "StarterBay$State" "limit" "I" ∈ wsL_law := bp_2 _ (List.mem_of_getElem? (i := 18) rfl)
theorem wd_2_19 : Cond.methodLink RX3 17 yX2_init ∈ wsL_law := bp_2 _ (List.mem_of_getElem? (i := 19) rfl)
theorem wd_2_20 : Cond.instanceMethod yX2_init ∈ wsL_law := bp_2 _ (List.mem_of_getElem? (i := 20) rfl)
theorem wd_2_21 : Cond.code yX2_init cX2_init 2 none ∈ wsL_law := bp_2 _ (List.mem_of_getElem? (i := 21) rfl)
theorem wd_2_22 : Cond.methodLink RX2 3 objectInit ∈ wsL_law := bp_2 _ (List.mem_of_getElem? (i := 22) rfl)
theorem wd_2_23 : Cond.fieldLink RX2 9 "StarterBay$Motor" "number" "I" ∈ wsL_law := bp_2 _ (List.mem_of_getElem? (i := 23) rfl)
theorem wd_3_0 : Cond.fieldLink RX2 15 "StarterBay$Motor" "accounts" "[I" ∈ wsL_law := bp_3 _ (List.mem_of_getElem? (i := 0) rfl)
theorem wd_3_1 : Cond.methodLink RX3 22 yX4_init ∈ wsL_law := bp_3 _ (List.mem_of_getElem? (i := 1) rfl)
theorem wd_3_2 : Cond.instanceMethod yX4_init ∈ wsL_law := bp_3 _ (List.mem_of_getElem? (i := 2) rfl)
theorem wd_3_3 : Cond.code yX4_init cX4_init 1 none ∈ wsL_law := bp_3 _ (List.mem_of_getElem? (i := 3) rfl)
theorem wd_3_4 : Cond.methodLink RX4 3 objectInit ∈ wsL_law := bp_3 _ (List.mem_of_getElem? (i := 4) rfl)
theorem wd_3_5 : Cond.fieldLink RX4 9 "StarterBay$Timetable" "due" "[I" ∈ wsL_law := bp_3 _ (List.mem_of_getElem? (i := 5) rfl)
theorem wd_3_6 : Cond.fieldLink RX4 15 "StarterBay$Timetable" "order" "[I" ∈ wsL_law := bp_3 _ (List.mem_of_getElem? (i := 6) rfl)
theorem wd_3_7 : Cond.fieldLink RX4 18 "StarterBay$Timetable" "first" "[I" ∈ wsL_law := bp_3 _ (List.mem_of_getElem? (i := 7) rfl)
theorem wd_3_8 : Cond.fieldLink RX4 21 "StarterBay$Timetable" "second" "[I" ∈ wsL_law := bp_3 _ (List.mem_of_getElem? (i := 8) rfl)
theorem wd_3_9 : Cond.methodLink RX3 29 yX0_init ∈ wsL_law := bp_3 _ (List.mem_of_getElem? (i := 9) rfl)
theorem wd_3_10 : Cond.instanceMethod yX0_init ∈ wsL_law := bp_3 _ (List.mem_of_getElem? (i := 10) rfl)
theorem wd_3_11 : Cond.code yX0_init cX0_init 1 none ∈ wsL_law := bp_3 _ (List.mem_of_getElem? (i := 11) rfl)
theorem wd_3_12 : Cond.methodLink RX0 3 objectInit ∈ wsL_law := bp_3 _ (List.mem_of_getElem? (i := 12) rfl)
theorem wd_3_13 : Cond.fieldLink RX0 9 "StarterBay$EventLog" "time" "[I" ∈ wsL_law := bp_3 _ (List.mem_of_getElem? (i := 13) rfl)
theorem wd_3_14 : Cond.fieldLink RX0 15 "StarterBay$EventLog" "motor" "[I" ∈ wsL_law := bp_3 _ (List.mem_of_getElem? (i := 14) rfl)
theorem wd_3_15 : Cond.fieldLink RX0 18 "StarterBay$EventLog" "kind" "[I" ∈ wsL_law := bp_3 _ (List.mem_of_getElem? (i := 15) rfl)
theorem wd_3_16 : Cond.methodLink RX6 18 yX1_init ∈ wsL_law := bp_3 _ (List.mem_of_getElem? (i := 16) rfl)
theorem wd_3_17 : Cond.instanceMethod yX1_init ∈ wsL_law := bp_3 _ (List.mem_of_getElem? (i := 17) rfl)
theorem wd_3_18 : Cond.code yX1_init cX1_init 2 none ∈ wsL_law := bp_3 _ (List.mem_of_getElem? (i := 18) rfl)
theorem wd_3_19 : Cond.methodLink RX1 3 objectInit ∈ wsL_law := bp_3 _ (List.mem_of_getElem? (i := 19) rfl)
theorem wd_3_20 : Cond.classLink RX1 9 RX3 ∈ wsL_law := bp_3 _ (List.mem_of_getElem? (i := 20) rfl)
theorem wd_3_21 : Cond.fieldLink RX1 11 "StarterBay$History" "states" "[LStarterBay$State;" ∈ wsL_law := bp_3 _ (List.mem_of_getElem? (i := 21) rfl)
theorem wd_3_22 : Cond.methodLink RX1 17 yX3_init ∈ wsL_law := bp_3 _ (List.mem_of_getElem? (i := 22) rfl)
theorem wd_3_23 : Cond.methodLink RX6 28 yX5_init ∈ wsL_law := bp_3 _ (List.mem_of_getElem? (i := 23) rfl)
theorem wd_4_0 : Cond.instanceMethod yX5_init ∈ wsL_law := bp_4 _ (List.mem_of_getElem? (i := 0) rfl)
theorem wd_4_1 : Cond.code yX5_init cX5_init 1 none ∈ wsL_law := bp_4 _ (List.mem_of_getElem? (i := 1) rfl)
theorem wd_4_2 : Cond.methodLink RX5 3 objectInit ∈ wsL_law := bp_4 _ (List.mem_of_getElem? (i := 2) rfl)
theorem wd_4_3 : Cond.arrayClass .char ∈ wsL_law := bp_4 _ (List.mem_of_getElem? (i := 3) rfl)
theorem wd_4_4 : Cond.fieldLink RX5 9 "StarterBay$TimetableText" "characters" "[C" ∈ wsL_law := bp_4 _ (List.mem_of_getElem? (i := 4) rfl)
theorem wd_4_5 : Cond.methodLink RX6 35 yX4_init ∈ wsL_law := bp_4 _ (List.mem_of_getElem? (i := 5) rfl)
theorem wd_4_6 : Cond.methodLink RL 105 yX6_undo ∈ wsL_law := bp_4 _ (List.mem_of_getElem? (i := 6) rfl)
theorem wd_4_7 : Cond.instanceMethod yX6_undo ∈ wsL_law := bp_4 _ (List.mem_of_getElem? (i := 7) rfl)
theorem wd_4_8 : Cond.selects RX6 yX6_undo yX6_undo ∈ wsL_law := bp_4 _ (List.mem_of_getElem? (i := 8) rfl)
theorem wd_4_9 : Cond.code yX6_undo cX6_undo 1 (some .int) ∈ wsL_law := bp_4 _ (List.mem_of_getElem? (i := 9) rfl)
theorem wd_4_10 : Cond.fieldLink RX6 130 "StarterBay$History" "size" "I" ∈ wsL_law := bp_4 _ (List.mem_of_getElem? (i := 10) rfl)
theorem wd_4_11 : Cond.methodLink RX6 126 yX1_takeBack ∈ wsL_law := bp_4 _ (List.mem_of_getElem? (i := 11) rfl)
theorem wd_4_12 : Cond.instanceMethod yX1_takeBack ∈ wsL_law := bp_4 _ (List.mem_of_getElem? (i := 12) rfl)
theorem wd_4_13 : Cond.selects RX1 yX1_takeBack yX1_takeBack ∈ wsL_law := bp_4 _ (List.mem_of_getElem? (i := 13) rfl)
theorem wd_4_14 : Cond.code yX1_takeBack cX1_takeBack 2 (some .boolean) ∈ wsL_law := bp_4 _ (List.mem_of_getElem? (i := 14) rfl)
theorem wd_4_15 : Cond.fieldLink RX1 18 "StarterBay$History" "size" "I" ∈ wsL_law := bp_4 _ (List.mem_of_getElem? (i := 15) rfl)
theorem wd_4_16 : Cond.methodLink RX1 25 yX3_copyFrom ∈ wsL_law := bp_4 _ (List.mem_of_getElem? (i := 16) rfl)
theorem wd_4_17 : Cond.instanceMethod yX3_copyFrom ∈ wsL_law := bp_4 _ (List.mem_of_getElem? (i := 17) rfl)
theorem wd_4_18 : Cond.selects RX3 yX3_copyFrom yX3_copyFrom ∈ wsL_law := bp_4 _ (List.mem_of_getElem? (i := 18) rfl)
theorem wd_4_19 : Cond.code yX3_copyFrom cX3_copyFrom 3 none ∈ wsL_law := bp_4 _ (List.mem_of_getElem? (i := 19) rfl)
theorem wd_4_20 : Cond.fieldLink RX3 38 "StarterBay$State" "motorCount" "I" ∈ wsL_law := bp_4 _ (List.mem_of_getElem? (i := 20) rfl)
theorem wd_4_21 : Cond.fieldLink RX3 51 "StarterBay$State" "clock" "I" ∈ wsL_law := bp_4 _ (List.mem_of_getElem? (i := 21) rfl)
theorem wd_4_22 : Cond.fieldLink RX3 54 "StarterBay$State" "fan" "Z" ∈ wsL_law := bp_4 _ (List.mem_of_getElem? (i := 22) rfl)
theorem wd_4_23 : Cond.fieldLink RX3 58 "StarterBay$State" "refusedItems" "I" ∈ wsL_law := bp_4 _ (List.mem_of_getElem? (i := 23) rfl)
theorem wd_5_0 : Cond.methodLink RX3 41 yX2_copyFrom ∈ wsL_law := bp_5 _ (List.mem_of_getElem? (i := 0) rfl)
theorem wd_5_1 : Cond.instanceMethod yX2_copyFrom ∈ wsL_law := bp_5 _ (List.mem_of_getElem? (i := 1) rfl)
theorem wd_5_2 : Cond.selects RX2 yX2_copyFrom yX2_copyFrom ∈ wsL_law := bp_5 _ (List.mem_of_getElem? (i := 2) rfl)
theorem wd_5_3 : Cond.code yX2_copyFrom cX2_copyFrom 2 none ∈ wsL_law := bp_5 _ (List.mem_of_getElem? (i := 3) rfl)
theorem wd_5_4 : Cond.fieldLink RX2 19 "StarterBay$Motor" "rated" "I" ∈ wsL_law := bp_5 _ (List.mem_of_getElem? (i := 4) rfl)
theorem wd_5_5 : Cond.fieldLink RX2 22 "StarterBay$Motor" "ramp" "I" ∈ wsL_law := bp_5 _ (List.mem_of_getElem? (i := 5) rfl)
theorem wd_5_6 : Cond.fieldLink RX2 25 "StarterBay$Motor" "factor" "I" ∈ wsL_law := bp_5 _ (List.mem_of_getElem? (i := 6) rfl)
theorem wd_5_7 : Cond.fieldLink RX2 28 "StarterBay$Motor" "limit" "I" ∈ wsL_law := bp_5 _ (List.mem_of_getElem? (i := 7) rfl)
theorem wd_5_8 : Cond.fieldLink RX2 35 "StarterBay$Motor" "heatToStart" "I" ∈ wsL_law := bp_5 _ (List.mem_of_getElem? (i := 8) rfl)
theorem wd_5_9 : Cond.fieldLink RX2 38 "StarterBay$Motor" "need" "I" ∈ wsL_law := bp_5 _ (List.mem_of_getElem? (i := 9) rfl)
theorem wd_5_10 : Cond.fieldLink RX2 41 "StarterBay$Motor" "mode" "I" ∈ wsL_law := bp_5 _ (List.mem_of_getElem? (i := 10) rfl)
theorem wd_5_11 : Cond.fieldLink RX2 44 "StarterBay$Motor" "heat" "I" ∈ wsL_law := bp_5 _ (List.mem_of_getElem? (i := 11) rfl)
theorem wd_5_12 : Cond.fieldLink RX2 47 "StarterBay$Motor" "lost" "I" ∈ wsL_law := bp_5 _ (List.mem_of_getElem? (i := 12) rfl)
theorem wd_5_13 : Cond.fieldLink RX2 50 "StarterBay$Motor" "rampSeconds" "I" ∈ wsL_law := bp_5 _ (List.mem_of_getElem? (i := 13) rfl)
theorem wd_5_14 : Cond.fieldLink RX2 53 "StarterBay$Motor" "requestedAt" "I" ∈ wsL_law := bp_5 _ (List.mem_of_getElem? (i := 14) rfl)
theorem wd_5_15 : Cond.fieldLink RX2 56 "StarterBay$Motor" "tripReason" "I" ∈ wsL_law := bp_5 _ (List.mem_of_getElem? (i := 15) rfl)
theorem wd_5_16 : Cond.fieldLink RX2 59 "StarterBay$Motor" "lossSeconds" "I" ∈ wsL_law := bp_5 _ (List.mem_of_getElem? (i := 16) rfl)
theorem wd_5_17 : Cond.methodLink RX2 62 arraycopyName ∈ wsL_law := bp_5 _ (List.mem_of_getElem? (i := 17) rfl)
theorem wd_5_18 : Cond.native arraycopyName ∈ wsL_law := bp_5 _ (List.mem_of_getElem? (i := 18) rfl)
theorem wd_5_19 : Cond.static arraycopyName ∈ wsL_law := bp_5 _ (List.mem_of_getElem? (i := 19) rfl)
theorem wd_5_20 : Cond.initialized "java/lang/System" ∈ wsL_law := bp_5 _ (List.mem_of_getElem? (i := 20) rfl)
theorem wd_5_21 : Cond.methodLink RX3 45 yX4_copyFrom ∈ wsL_law := bp_5 _ (List.mem_of_getElem? (i := 21) rfl)
theorem wd_5_22 : Cond.instanceMethod yX4_copyFrom ∈ wsL_law := bp_5 _ (List.mem_of_getElem? (i := 22) rfl)
theorem wd_5_23 : Cond.selects RX4 yX4_copyFrom yX4_copyFrom ∈ wsL_law := bp_5 _ (List.mem_of_getElem? (i := 23) rfl)
theorem wd_6_0 : Cond.code yX4_copyFrom cX4_copyFrom 2 none ∈ wsL_law := bp_6 _ (List.mem_of_getElem? (i := 0) rfl)
theorem wd_6_1 : Cond.methodLink RX4 24 arraycopyName ∈ wsL_law := bp_6 _ (List.mem_of_getElem? (i := 1) rfl)
theorem wd_6_2 : Cond.fieldLink RX4 30 "StarterBay$Timetable" "size" "I" ∈ wsL_law := bp_6 _ (List.mem_of_getElem? (i := 2) rfl)
theorem wd_6_3 : Cond.fieldLink RX4 34 "StarterBay$Timetable" "next" "I" ∈ wsL_law := bp_6 _ (List.mem_of_getElem? (i := 3) rfl)
theorem wd_6_4 : Cond.methodLink RX3 48 yX0_copyFrom ∈ wsL_law := bp_6 _ (List.mem_of_getElem? (i := 4) rfl)
theorem wd_6_5 : Cond.instanceMethod yX0_copyFrom ∈ wsL_law := bp_6 _ (List.mem_of_getElem? (i := 5) rfl)
theorem wd_6_6 : Cond.selects RX0 yX0_copyFrom yX0_copyFrom ∈ wsL_law := bp_6 _ (List.mem_of_getElem? (i := 6) rfl)
theorem wd_6_7 : Cond.code yX0_copyFrom cX0_copyFrom 2 none ∈ wsL_law := bp_6 _ (List.mem_of_getElem? (i := 7) rfl)
theorem wd_6_8 : Cond.methodLink RX0 21 arraycopyName ∈ wsL_law := bp_6 _ (List.mem_of_getElem? (i := 8) rfl)
theorem wd_6_9 : Cond.fieldLink RX0 27 "StarterBay$EventLog" "total" "I" ∈ wsL_law := bp_6 _ (List.mem_of_getElem? (i := 9) rfl)
theorem wd_6_10 : Cond.methodLink RL 76 yX6_restore ∈ wsL_law := bp_6 _ (List.mem_of_getElem? (i := 10) rfl)
theorem wd_6_11 : Cond.instanceMethod yX6_restore ∈ wsL_law := bp_6 _ (List.mem_of_getElem? (i := 11) rfl)
theorem wd_6_12 : Cond.selects RX6 yX6_restore yX6_restore ∈ wsL_law := bp_6 _ (List.mem_of_getElem? (i := 12) rfl)
theorem wd_6_13 : Cond.code yX6_restore cX6_restore 1 (some .int) ∈ wsL_law := bp_6 _ (List.mem_of_getElem? (i := 13) rfl)
theorem wd_6_14 : Cond.fieldLink RX6 135 "StarterBay" "hasSnapshot" "Z" ∈ wsL_law := bp_6 _ (List.mem_of_getElem? (i := 14) rfl)
theorem wd_6_15 : Cond.fieldLink RX6 98 "StarterBay$State" "clock" "I" ∈ wsL_law := bp_6 _ (List.mem_of_getElem? (i := 15) rfl)
theorem wd_6_16 : Cond.methodLink RX6 57 yX1_record ∈ wsL_law := bp_6 _ (List.mem_of_getElem? (i := 16) rfl)
theorem wd_6_17 : Cond.instanceMethod yX1_record ∈ wsL_law := bp_6 _ (List.mem_of_getElem? (i := 17) rfl)
theorem wd_6_18 : Cond.selects RX1 yX1_record yX1_record ∈ wsL_law := bp_6 _ (List.mem_of_getElem? (i := 18) rfl)
theorem wd_6_19 : Cond.code yX1_record cX1_record 2 none ∈ wsL_law := bp_6 _ (List.mem_of_getElem? (i := 19) rfl)
theorem wd_6_20 : Cond.methodLink RX1 22 yX1_dropOldest ∈ wsL_law := bp_6 _ (List.mem_of_getElem? (i := 20) rfl)
theorem wd_6_21 : Cond.instanceMethod yX1_dropOldest ∈ wsL_law := bp_6 _ (List.mem_of_getElem? (i := 21) rfl)
theorem wd_6_22 : Cond.selects RX1 yX1_dropOldest yX1_dropOldest ∈ wsL_law := bp_6 _ (List.mem_of_getElem? (i := 22) rfl)
theorem wd_6_23 : Cond.code yX1_dropOldest cX1_dropOldest 3 none ∈ wsL_law := bp_6 _ (List.mem_of_getElem? (i := 23) rfl)
theorem wd_7_0 : Cond.methodLink RX6 133 yX3_copyFrom ∈ wsL_law := bp_7 _ (List.mem_of_getElem? (i := 0) rfl)
theorem wd_7_1 : Cond.methodLink RL 42 yX6_queue ∈ wsL_law := bp_7 _ (List.mem_of_getElem? (i := 1) rfl)
theorem wd_7_2 : Cond.instanceMethod yX6_queue ∈ wsL_law := bp_7 _ (List.mem_of_getElem? (i := 2) rfl)
theorem wd_7_3 : Cond.selects RX6 yX6_queue yX6_queue ∈ wsL_law := bp_7 _ (List.mem_of_getElem? (i := 3) rfl)
theorem wd_7_4 : Cond.code yX6_queue cX6_queue 3 (some .int) ∈ wsL_law := bp_7 _ (List.mem_of_getElem? (i := 4) rfl)
theorem wd_7_5 : Cond.methodLink RX6 182 yX6_fillLine ∈ wsL_law := bp_7 _ (List.mem_of_getElem? (i := 5) rfl)
theorem wd_7_6 : Cond.instanceMethod yX6_fillLine ∈ wsL_law := bp_7 _ (List.mem_of_getElem? (i := 6) rfl)
theorem wd_7_7 : Cond.selects RX6 yX6_fillLine yX6_fillLine ∈ wsL_law := bp_7 _ (List.mem_of_getElem? (i := 7) rfl)
theorem wd_7_8 : Cond.code yX6_fillLine cX6_fillLine 4 (some .int) ∈ wsL_law := bp_7 _ (List.mem_of_getElem? (i := 8) rfl)
theorem wd_7_9 : Cond.fieldLink RX6 49 "StarterBay$State" "motorCount" "I" ∈ wsL_law := bp_7 _ (List.mem_of_getElem? (i := 9) rfl)
theorem wd_7_10 : Cond.fieldLink RX6 61 "StarterBay$State" "motors" "[LStarterBay$Motor;" ∈ wsL_law := bp_7 _ (List.mem_of_getElem? (i := 10) rfl)
theorem wd_7_11 : Cond.fieldLink RX6 149 "StarterBay$Motor" "mode" "I" ∈ wsL_law := bp_7 _ (List.mem_of_getElem? (i := 11) rfl)
theorem wd_7_12 : Cond.methodLink RX6 300 yX3_isAhead ∈ wsL_law := bp_7 _ (List.mem_of_getElem? (i := 12) rfl)
theorem wd_7_13 : Cond.instanceMethod yX3_isAhead ∈ wsL_law := bp_7 _ (List.mem_of_getElem? (i := 13) rfl)
theorem wd_7_14 : Cond.selects RX3 yX3_isAhead yX3_isAhead ∈ wsL_law := bp_7 _ (List.mem_of_getElem? (i := 14) rfl)
theorem wd_7_15 : Cond.code yX3_isAhead cX3_isAhead 7 (some .boolean) ∈ wsL_law := bp_7 _ (List.mem_of_getElem? (i := 15) rfl)
theorem wd_7_16 : Cond.fieldLink RX3 71 "StarterBay$Motor" "requestedAt" "I" ∈ wsL_law := bp_7 _ (List.mem_of_getElem? (i := 16) rfl)
theorem wd_7_17 : Cond.methodLink RX3 74 yX3_urgency ∈ wsL_law := bp_7 _ (List.mem_of_getElem? (i := 17) rfl)
theorem wd_7_18 : Cond.instanceMethod yX3_urgency ∈ wsL_law := bp_7 _ (List.mem_of_getElem? (i := 18) rfl)
theorem wd_7_19 : Cond.selects RX3 yX3_urgency yX3_urgency ∈ wsL_law := bp_7 _ (List.mem_of_getElem? (i := 19) rfl)
theorem wd_7_20 : Cond.code yX3_urgency cX3_urgency 2 (some .int) ∈ wsL_law := bp_7 _ (List.mem_of_getElem? (i := 20) rfl)
theorem wd_7_21 : Cond.fieldLink RX3 68 "StarterBay$Motor" "need" "I" ∈ wsL_law := bp_7 _ (List.mem_of_getElem? (i := 21) rfl)
theorem wd_7_22 : Cond.methodLink RL 79 yX6_request ∈ wsL_law := bp_7 _ (List.mem_of_getElem? (i := 22) rfl)
theorem wd_7_23 : Cond.instanceMethod yX6_request ∈ wsL_law := bp_7 _ (List.mem_of_getElem? (i := 23) rfl)
theorem wd_8_0 : Cond.selects RX6 yX6_request yX6_request ∈ wsL_law := bp_8 _ (List.mem_of_getElem? (i := 0) rfl)
theorem wd_8_1 : Cond.code yX6_request cX6_request 3 (some .int) ∈ wsL_law := bp_8 _ (List.mem_of_getElem? (i := 1) rfl)
theorem wd_8_2 : Cond.methodLink RX6 81 yX6_callOrder ∈ wsL_law := bp_8 _ (List.mem_of_getElem? (i := 2) rfl)
theorem wd_8_3 : Cond.instanceMethod yX6_callOrder ∈ wsL_law := bp_8 _ (List.mem_of_getElem? (i := 3) rfl)
theorem wd_8_4 : Cond.selects RX6 yX6_callOrder yX6_callOrder ∈ wsL_law := bp_8 _ (List.mem_of_getElem? (i := 4) rfl)
theorem wd_8_5 : Cond.code yX6_callOrder cX6_callOrder 5 (some .int) ∈ wsL_law := bp_8 _ (List.mem_of_getElem? (i := 5) rfl)
theorem wd_8_6 : Cond.methodLink RX6 240 yX6_checkOrder ∈ wsL_law := bp_8 _ (List.mem_of_getElem? (i := 6) rfl)
theorem wd_8_7 : Cond.instanceMethod yX6_checkOrder ∈ wsL_law := bp_8 _ (List.mem_of_getElem? (i := 7) rfl)
theorem wd_8_8 : Cond.selects RX6 yX6_checkOrder yX6_checkOrder ∈ wsL_law := bp_8 _ (List.mem_of_getElem? (i := 8) rfl)
theorem wd_8_9 : Cond.code yX6_checkOrder cX6_checkOrder 5 (some .int) ∈ wsL_law := bp_8 _ (List.mem_of_getElem? (i := 9) rfl)
theorem wd_8_10 : Cond.fieldLink RX6 203 "StarterBay$State" "fan" "Z" ∈ wsL_law := bp_8 _ (List.mem_of_getElem? (i := 10) rfl)
theorem wd_8_11 : Cond.methodLink RX6 71 yX3_find ∈ wsL_law := bp_8 _ (List.mem_of_getElem? (i := 11) rfl)
theorem wd_8_12 : Cond.instanceMethod yX3_find ∈ wsL_law := bp_8 _ (List.mem_of_getElem? (i := 12) rfl)
theorem wd_8_13 : Cond.selects RX3 yX3_find yX3_find ∈ wsL_law := bp_8 _ (List.mem_of_getElem? (i := 13) rfl)
theorem wd_8_14 : Cond.code yX3_find cX3_find 2 (some (.object "StarterBay$Motor")) ∈ wsL_law := bp_8 _ (List.mem_of_getElem? (i := 14) rfl)
theorem wd_8_15 : Cond.methodLink RX6 53 yX6_refuse ∈ wsL_law := bp_8 _ (List.mem_of_getElem? (i := 15) rfl)
theorem wd_8_16 : Cond.instanceMethod yX6_refuse ∈ wsL_law := bp_8 _ (List.mem_of_getElem? (i := 16) rfl)
theorem wd_8_17 : Cond.selects RX6 yX6_refuse yX6_refuse ∈ wsL_law := bp_8 _ (List.mem_of_getElem? (i := 17) rfl)
theorem wd_8_18 : Cond.code yX6_refuse cX6_refuse 2 (some .int) ∈ wsL_law := bp_8 _ (List.mem_of_getElem? (i := 18) rfl)
theorem wd_8_19 : Cond.fieldLink RX6 222 "StarterBay" "reason" "I" ∈ wsL_law := bp_8 _ (List.mem_of_getElem? (i := 19) rfl)
theorem wd_8_20 : Cond.methodLink RX6 246 yX6_checkLoss ∈ wsL_law := bp_8 _ (List.mem_of_getElem? (i := 20) rfl)
theorem wd_8_21 : Cond.instanceMethod yX6_checkLoss ∈ wsL_law := bp_8 _ (List.mem_of_getElem? (i := 21) rfl)
theorem wd_8_22 : Cond.selects RX6 yX6_checkLoss yX6_checkLoss ∈ wsL_law := bp_8 _ (List.mem_of_getElem? (i := 22) rfl)
theorem wd_8_23 : Cond.code yX6_checkLoss cX6_checkLoss 3 (some .int) ∈ wsL_law := bp_8 _ (List.mem_of_getElem? (i := 23) rfl)
theorem wd_9_0 : Cond.fieldLink RX6 155 "StarterBay$Motor" "lost" "I" ∈ wsL_law := bp_9 _ (List.mem_of_getElem? (i := 0) rfl)
theorem wd_9_1 : Cond.methodLink RX6 44 yX6_isOutside ∈ wsL_law := bp_9 _ (List.mem_of_getElem? (i := 1) rfl)
theorem wd_9_2 : Cond.static yX6_isOutside ∈ wsL_law := bp_9 _ (List.mem_of_getElem? (i := 2) rfl)
theorem wd_9_3 : Cond.code yX6_isOutside cX6_isOutside 3 (some .boolean) ∈ wsL_law := bp_9 _ (List.mem_of_getElem? (i := 3) rfl)
theorem wd_9_4 : Cond.methodLink RX6 250 yX6_checkReset ∈ wsL_law := bp_9 _ (List.mem_of_getElem? (i := 4) rfl)
theorem wd_9_5 : Cond.instanceMethod yX6_checkReset ∈ wsL_law := bp_9 _ (List.mem_of_getElem? (i := 5) rfl)
theorem wd_9_6 : Cond.selects RX6 yX6_checkReset yX6_checkReset ∈ wsL_law := bp_9 _ (List.mem_of_getElem? (i := 6) rfl)
theorem wd_9_7 : Cond.code yX6_checkReset cX6_checkReset 2 (some .int) ∈ wsL_law := bp_9 _ (List.mem_of_getElem? (i := 7) rfl)
theorem wd_9_8 : Cond.fieldLink RX6 152 "StarterBay$Motor" "heat" "I" ∈ wsL_law := bp_9 _ (List.mem_of_getElem? (i := 8) rfl)
theorem wd_9_9 : Cond.fieldLink RX6 148 "StarterBay$Motor" "limit" "I" ∈ wsL_law := bp_9 _ (List.mem_of_getElem? (i := 9) rfl)
theorem wd_9_10 : Cond.methodLink RX6 243 yX6_carryOut ∈ wsL_law := bp_9 _ (List.mem_of_getElem? (i := 10) rfl)
theorem wd_9_11 : Cond.instanceMethod yX6_carryOut ∈ wsL_law := bp_9 _ (List.mem_of_getElem? (i := 11) rfl)
theorem wd_9_12 : Cond.selects RX6 yX6_carryOut yX6_carryOut ∈ wsL_law := bp_9 _ (List.mem_of_getElem? (i := 12) rfl)
theorem wd_9_13 : Cond.code yX6_carryOut cX6_carryOut 5 (some .int) ∈ wsL_law := bp_9 _ (List.mem_of_getElem? (i := 13) rfl)
theorem wd_9_14 : Cond.fieldLink RX6 161 "StarterBay$Motor" "requestedAt" "I" ∈ wsL_law := bp_9 _ (List.mem_of_getElem? (i := 14) rfl)
theorem wd_9_15 : Cond.methodLink RX6 253 yX2_change ∈ wsL_law := bp_9 _ (List.mem_of_getElem? (i := 15) rfl)
theorem wd_9_16 : Cond.instanceMethod yX2_change ∈ wsL_law := bp_9 _ (List.mem_of_getElem? (i := 16) rfl)
theorem wd_9_17 : Cond.selects RX2 yX2_change yX2_change ∈ wsL_law := bp_9 _ (List.mem_of_getElem? (i := 17) rfl)
theorem wd_9_18 : Cond.code yX2_change cX2_change 3 (some .int) ∈ wsL_law := bp_9 _ (List.mem_of_getElem? (i := 18) rfl)
theorem wd_9_19 : Cond.methodLink RX6 256 yX3_note ∈ wsL_law := bp_9 _ (List.mem_of_getElem? (i := 19) rfl)
theorem wd_9_20 : Cond.instanceMethod yX3_note ∈ wsL_law := bp_9 _ (List.mem_of_getElem? (i := 20) rfl)
theorem wd_9_21 : Cond.selects RX3 yX3_note yX3_note ∈ wsL_law := bp_9 _ (List.mem_of_getElem? (i := 21) rfl)
theorem wd_9_22 : Cond.code yX3_note cX3_note 3 none ∈ wsL_law := bp_9 _ (List.mem_of_getElem? (i := 22) rfl)
theorem wd_9_23 : Cond.fieldLink RX3 61 "StarterBay$Motor" "number" "I" ∈ wsL_law := bp_9 _ (List.mem_of_getElem? (i := 23) rfl)
theorem wd_10_0 : Cond.methodLink RX3 64 yX0_add ∈ wsL_law := bp_10 _ (List.mem_of_getElem? (i := 0) rfl)
theorem wd_10_1 : Cond.instanceMethod yX0_add ∈ wsL_law := bp_10 _ (List.mem_of_getElem? (i := 1) rfl)
theorem wd_10_2 : Cond.selects RX0 yX0_add yX0_add ∈ wsL_law := bp_10 _ (List.mem_of_getElem? (i := 2) rfl)
theorem wd_10_3 : Cond.code yX0_add cX0_add 5 none ∈ wsL_law := bp_10 _ (List.mem_of_getElem? (i := 3) rfl)
theorem wd_10_4 : Cond.methodLink RX0 31 yJ9_floorMod_7cf53 ∈ wsL_law := bp_10 _ (List.mem_of_getElem? (i := 4) rfl)
theorem wd_10_5 : Cond.static yJ9_floorMod_7cf53 ∈ wsL_law := bp_10 _ (List.mem_of_getElem? (i := 5) rfl)
theorem wd_10_6 : Cond.initialized RJ9 ∈ wsL_law := bp_10 _ (List.mem_of_getElem? (i := 6) rfl)
theorem wd_10_7 : Cond.code yJ9_floorMod_7cf53 cJ9_floorMod_7cf53 3 (some .int) ∈ wsL_law := bp_10 _ (List.mem_of_getElem? (i := 7) rfl)
theorem wd_10_8 : Cond.methodLink RX6 260 yX6_carryOutLoss ∈ wsL_law := bp_10 _ (List.mem_of_getElem? (i := 8) rfl)
theorem wd_10_9 : Cond.instanceMethod yX6_carryOutLoss ∈ wsL_law := bp_10 _ (List.mem_of_getElem? (i := 9) rfl)
theorem wd_10_10 : Cond.selects RX6 yX6_carryOutLoss yX6_carryOutLoss ∈ wsL_law := bp_10 _ (List.mem_of_getElem? (i := 10) rfl)
theorem wd_10_11 : Cond.code yX6_carryOutLoss cX6_carryOutLoss 4 (some .int) ∈ wsL_law := bp_10 _ (List.mem_of_getElem? (i := 11) rfl)
theorem wd_10_12 : Cond.methodLink RX6 263 yX2_trip ∈ wsL_law := bp_10 _ (List.mem_of_getElem? (i := 12) rfl)
theorem wd_10_13 : Cond.instanceMethod yX2_trip ∈ wsL_law := bp_10 _ (List.mem_of_getElem? (i := 13) rfl)
theorem wd_10_14 : Cond.selects RX2 yX2_trip yX2_trip ∈ wsL_law := bp_10 _ (List.mem_of_getElem? (i := 14) rfl)
theorem wd_10_15 : Cond.code yX2_trip cX2_trip 2 (some .int) ∈ wsL_law := bp_10 _ (List.mem_of_getElem? (i := 15) rfl)
theorem wd_10_16 : Cond.methodLink RX6 85 yX6_placeInLine ∈ wsL_law := bp_10 _ (List.mem_of_getElem? (i := 16) rfl)
theorem wd_10_17 : Cond.instanceMethod yX6_placeInLine ∈ wsL_law := bp_10 _ (List.mem_of_getElem? (i := 17) rfl)
theorem wd_10_18 : Cond.selects RX6 yX6_placeInLine yX6_placeInLine ∈ wsL_law := bp_10 _ (List.mem_of_getElem? (i := 18) rfl)
theorem wd_10_19 : Cond.code yX6_placeInLine cX6_placeInLine 4 (some .int) ∈ wsL_law := bp_10 _ (List.mem_of_getElem? (i := 19) rfl)
theorem wd_10_20 : Cond.methodLink RL 28 yX6_event ∈ wsL_law := bp_10 _ (List.mem_of_getElem? (i := 20) rfl)
theorem wd_10_21 : Cond.instanceMethod yX6_event ∈ wsL_law := bp_10 _ (List.mem_of_getElem? (i := 21) rfl)
theorem wd_10_22 : Cond.selects RX6 yX6_event yX6_event ∈ wsL_law := bp_10 _ (List.mem_of_getElem? (i := 22) rfl)
theorem wd_10_23 : Cond.code yX6_event cX6_event 3 (some .int) ∈ wsL_law := bp_10 _ (List.mem_of_getElem? (i := 23) rfl)
theorem wd_11_0 : Cond.fieldLink RX6 189 "StarterBay$State" "events" "LStarterBay$EventLog;" ∈ wsL_law := bp_11 _ (List.mem_of_getElem? (i := 0) rfl)
theorem wd_11_1 : Cond.methodLink RX6 193 yX0_tell ∈ wsL_law := bp_11 _ (List.mem_of_getElem? (i := 1) rfl)
theorem wd_11_2 : Cond.instanceMethod yX0_tell ∈ wsL_law := bp_11 _ (List.mem_of_getElem? (i := 2) rfl)
theorem wd_11_3 : Cond.selects RX0 yX0_tell yX0_tell ∈ wsL_law := bp_11 _ (List.mem_of_getElem? (i := 3) rfl)
theorem wd_11_4 : Cond.code yX0_tell cX0_tell 4 (some .int) ∈ wsL_law := bp_11 _ (List.mem_of_getElem? (i := 4) rfl)
theorem wd_11_5 : Cond.methodLink RX0 37 Lib.Math.min.name ∈ wsL_law := bp_11 _ (List.mem_of_getElem? (i := 5) rfl)
theorem wd_11_6 : Cond.static Lib.Math.min.name ∈ wsL_law := bp_11 _ (List.mem_of_getElem? (i := 6) rfl)
theorem wd_11_7 : Cond.initialized "java/lang/Math" ∈ wsL_law := bp_11 _ (List.mem_of_getElem? (i := 7) rfl)
theorem wd_11_8 : Cond.code Lib.Math.min.name Lib.Math.min.code 2 (some .int) ∈ wsL_law := bp_11 _ (List.mem_of_getElem? (i := 8) rfl)
theorem wd_11_9 : Cond.methodLink RL 108 yX6_readTimetable ∈ wsL_law := bp_11 _ (List.mem_of_getElem? (i := 9) rfl)
theorem wd_11_10 : Cond.instanceMethod yX6_readTimetable ∈ wsL_law := bp_11 _ (List.mem_of_getElem? (i := 10) rfl)
theorem wd_11_11 : Cond.selects RX6 yX6_readTimetable yX6_readTimetable ∈ wsL_law := bp_11 _ (List.mem_of_getElem? (i := 11) rfl)
theorem wd_11_12 : Cond.code yX6_readTimetable cX6_readTimetable 1 (some .int) ∈ wsL_law := bp_11 _ (List.mem_of_getElem? (i := 12) rfl)
theorem wd_11_13 : Cond.fieldLink RX6 112 "StarterBay$TimetableText" "at" "I" ∈ wsL_law := bp_11 _ (List.mem_of_getElem? (i := 13) rfl)
theorem wd_11_14 : Cond.fieldLink RX6 115 "StarterBay$State" "timetable" "LStarterBay$Timetable;" ∈ wsL_law := bp_11 _ (List.mem_of_getElem? (i := 14) rfl)
theorem wd_11_15 : Cond.methodLink RX6 108 yX5_readInto ∈ wsL_law := bp_11 _ (List.mem_of_getElem? (i := 15) rfl)
theorem wd_11_16 : Cond.instanceMethod yX5_readInto ∈ wsL_law := bp_11 _ (List.mem_of_getElem? (i := 16) rfl)
theorem wd_11_17 : Cond.selects RX5 yX5_readInto yX5_readInto ∈ wsL_law := bp_11 _ (List.mem_of_getElem? (i := 17) rfl)
theorem wd_11_18 : Cond.code yX5_readInto cX5_readInto 4 (some .boolean) ∈ wsL_law := bp_11 _ (List.mem_of_getElem? (i := 18) rfl)
theorem wd_11_19 : Cond.fieldLink RX5 15 "StarterBay$TimetableText" "at" "I" ∈ wsL_law := bp_11 _ (List.mem_of_getElem? (i := 19) rfl)
theorem wd_11_20 : Cond.fieldLink RX5 19 "StarterBay$TimetableText" "time" "I" ∈ wsL_law := bp_11 _ (List.mem_of_getElem? (i := 20) rfl)
theorem wd_11_21 : Cond.fieldLink RX5 27 "StarterBay$TimetableText" "length" "I" ∈ wsL_law := bp_11 _ (List.mem_of_getElem? (i := 21) rfl)
theorem wd_11_22 : Cond.fieldLink RX5 34 "StarterBay$TimetableText" "order" "I" ∈ wsL_law := bp_11 _ (List.mem_of_getElem? (i := 22) rfl)
theorem wd_11_23 : Cond.fieldLink RX5 37 "StarterBay$TimetableText" "first" "I" ∈ wsL_law := bp_11 _ (List.mem_of_getElem? (i := 23) rfl)
theorem wd_12_0 : Cond.fieldLink RX5 40 "StarterBay$TimetableText" "second" "I" ∈ wsL_law := bp_12 _ (List.mem_of_getElem? (i := 0) rfl)
theorem wd_12_1 : Cond.methodLink RX5 22 yX4_empty ∈ wsL_law := bp_12 _ (List.mem_of_getElem? (i := 1) rfl)
theorem wd_12_2 : Cond.instanceMethod yX4_empty ∈ wsL_law := bp_12 _ (List.mem_of_getElem? (i := 2) rfl)
theorem wd_12_3 : Cond.selects RX4 yX4_empty yX4_empty ∈ wsL_law := bp_12 _ (List.mem_of_getElem? (i := 3) rfl)
theorem wd_12_4 : Cond.code yX4_empty cX4_empty 1 none ∈ wsL_law := bp_12 _ (List.mem_of_getElem? (i := 4) rfl)
theorem wd_12_5 : Cond.methodLink RX5 30 yX5_readItem ∈ wsL_law := bp_12 _ (List.mem_of_getElem? (i := 5) rfl)
theorem wd_12_6 : Cond.instanceMethod yX5_readItem ∈ wsL_law := bp_12 _ (List.mem_of_getElem? (i := 6) rfl)
theorem wd_12_7 : Cond.selects RX5 yX5_readItem yX5_readItem ∈ wsL_law := bp_12 _ (List.mem_of_getElem? (i := 7) rfl)
theorem wd_12_8 : Cond.code yX5_readItem cX5_readItem 1 (some .boolean) ∈ wsL_law := bp_12 _ (List.mem_of_getElem? (i := 8) rfl)
theorem wd_12_9 : Cond.methodLink RX5 47 yX5_readTime ∈ wsL_law := bp_12 _ (List.mem_of_getElem? (i := 9) rfl)
theorem wd_12_10 : Cond.instanceMethod yX5_readTime ∈ wsL_law := bp_12 _ (List.mem_of_getElem? (i := 10) rfl)
theorem wd_12_11 : Cond.selects RX5 yX5_readTime yX5_readTime ∈ wsL_law := bp_12 _ (List.mem_of_getElem? (i := 11) rfl)
theorem wd_12_12 : Cond.code yX5_readTime cX5_readTime 5 (some .boolean) ∈ wsL_law := bp_12 _ (List.mem_of_getElem? (i := 12) rfl)
theorem wd_12_13 : Cond.methodLink RX5 59 yX5_partEnd ∈ wsL_law := bp_12 _ (List.mem_of_getElem? (i := 13) rfl)
theorem wd_12_14 : Cond.instanceMethod yX5_partEnd ∈ wsL_law := bp_12 _ (List.mem_of_getElem? (i := 14) rfl)
theorem wd_12_15 : Cond.selects RX5 yX5_partEnd yX5_partEnd ∈ wsL_law := bp_12 _ (List.mem_of_getElem? (i := 15) rfl)
theorem wd_12_16 : Cond.code yX5_partEnd cX5_partEnd 2 (some .int) ∈ wsL_law := bp_12 _ (List.mem_of_getElem? (i := 16) rfl)
theorem wd_12_17 : Cond.methodLink RX5 50 yX5_readBlank ∈ wsL_law := bp_12 _ (List.mem_of_getElem? (i := 17) rfl)
theorem wd_12_18 : Cond.instanceMethod yX5_readBlank ∈ wsL_law := bp_12 _ (List.mem_of_getElem? (i := 18) rfl)
theorem wd_12_19 : Cond.selects RX5 yX5_readBlank yX5_readBlank ∈ wsL_law := bp_12 _ (List.mem_of_getElem? (i := 19) rfl)
theorem wd_12_20 : Cond.code yX5_readBlank cX5_readBlank 1 (some .boolean) ∈ wsL_law := bp_12 _ (List.mem_of_getElem? (i := 20) rfl)
theorem wd_12_21 : Cond.methodLink RX5 53 yX5_readOrder ∈ wsL_law := bp_12 _ (List.mem_of_getElem? (i := 21) rfl)
theorem wd_12_22 : Cond.instanceMethod yX5_readOrder ∈ wsL_law := bp_12 _ (List.mem_of_getElem? (i := 22) rfl)
theorem wd_12_23 : Cond.selects RX5 yX5_readOrder yX5_readOrder ∈ wsL_law := bp_12 _ (List.mem_of_getElem? (i := 23) rfl)
theorem wd_13_0 : Cond.code yX5_readOrder cX5_readOrder 3 (some .boolean) ∈ wsL_law := bp_13 _ (List.mem_of_getElem? (i := 0) rfl)
theorem wd_13_1 : Cond.methodLink RX5 67 yX5_wordOf ∈ wsL_law := bp_13 _ (List.mem_of_getElem? (i := 1) rfl)
theorem wd_13_2 : Cond.static yX5_wordOf ∈ wsL_law := bp_13 _ (List.mem_of_getElem? (i := 2) rfl)
theorem wd_13_3 : Cond.code yX5_wordOf cX5_wordOf 1 (some (.object "java/lang/String")) ∈ wsL_law := bp_13 _ (List.mem_of_getElem? (i := 3) rfl)
theorem wd_13_4 : Cond.methodLink RX5 71 yX5_isPart ∈ wsL_law := bp_13 _ (List.mem_of_getElem? (i := 4) rfl)
theorem wd_13_5 : Cond.instanceMethod yX5_isPart ∈ wsL_law := bp_13 _ (List.mem_of_getElem? (i := 5) rfl)
theorem wd_13_6 : Cond.selects RX5 yX5_isPart yX5_isPart ∈ wsL_law := bp_13 _ (List.mem_of_getElem? (i := 6) rfl)
theorem wd_13_7 : Cond.code yX5_isPart cX5_isPart 4 (some .boolean) ∈ wsL_law := bp_13 _ (List.mem_of_getElem? (i := 7) rfl)
theorem wd_13_8 : Cond.methodLink RX5 85 yJ0_length_8abf5 ∈ wsL_law := bp_13 _ (List.mem_of_getElem? (i := 8) rfl)
theorem wd_13_9 : Cond.instanceMethod yJ0_length_8abf5 ∈ wsL_law := bp_13 _ (List.mem_of_getElem? (i := 9) rfl)
theorem wd_13_10 : Cond.selects RJ0 yJ0_length_8abf5 yJ0_length_8abf5 ∈ wsL_law := bp_13 _ (List.mem_of_getElem? (i := 10) rfl)
theorem wd_13_11 : Cond.initialized RJ0 ∈ wsL_law := bp_13 _ (List.mem_of_getElem? (i := 11) rfl)
theorem wd_13_12 : Cond.code yJ0_length_8abf5 cJ0_length_8abf5 1 (some .int) ∈ wsL_law := bp_13 _ (List.mem_of_getElem? (i := 12) rfl)
theorem wd_13_13 : Cond.fieldLink RJ0 9 "java/lang/String" "value" "[B" ∈ wsL_law := bp_13 _ (List.mem_of_getElem? (i := 13) rfl)
theorem wd_13_14 : Cond.methodLink RJ0 335 yJ0_coder_7d493 ∈ wsL_law := bp_13 _ (List.mem_of_getElem? (i := 14) rfl)
theorem wd_13_15 : Cond.instanceMethod yJ0_coder_7d493 ∈ wsL_law := bp_13 _ (List.mem_of_getElem? (i := 15) rfl)
theorem wd_13_16 : Cond.selects RJ0 yJ0_coder_7d493 yJ0_coder_7d493 ∈ wsL_law := bp_13 _ (List.mem_of_getElem? (i := 16) rfl)
theorem wd_13_17 : Cond.code yJ0_coder_7d493 cJ0_coder_7d493 1 (some .byte) ∈ wsL_law := bp_13 _ (List.mem_of_getElem? (i := 17) rfl)
theorem wd_13_18 : Cond.fieldLink RJ0 38 "java/lang/String" "COMPACT_STRINGS" "Z" ∈ wsL_law := bp_13 _ (List.mem_of_getElem? (i := 18) rfl)
theorem wd_13_19 : Cond.fieldLink RJ0 15 "java/lang/String" "coder" "B" ∈ wsL_law := bp_13 _ (List.mem_of_getElem? (i := 19) rfl)
theorem wd_13_20 : Cond.methodLink RX5 89 yJ0_charAt_5068e ∈ wsL_law := bp_13 _ (List.mem_of_getElem? (i := 20) rfl)
theorem wd_13_21 : Cond.instanceMethod yJ0_charAt_5068e ∈ wsL_law := bp_13 _ (List.mem_of_getElem? (i := 21) rfl)
theorem wd_13_22 : Cond.selects RJ0 yJ0_charAt_5068e yJ0_charAt_5068e ∈ wsL_law := bp_13 _ (List.mem_of_getElem? (i := 22) rfl)
theorem wd_13_23 : Cond.code yJ0_charAt_5068e cJ0_charAt_5068e 2 (some .char) ∈ wsL_law := bp_13 _ (List.mem_of_getElem? (i := 23) rfl)
theorem wd_14_0 : Cond.methodLink RJ0 492 yJ0_isLatin1_aae02 ∈ wsL_law := bp_14 _ (List.mem_of_getElem? (i := 0) rfl)
theorem wd_14_1 : Cond.instanceMethod yJ0_isLatin1_aae02 ∈ wsL_law := bp_14 _ (List.mem_of_getElem? (i := 1) rfl)
theorem wd_14_2 : Cond.selects RJ0 yJ0_isLatin1_aae02 yJ0_isLatin1_aae02 ∈ wsL_law := bp_14 _ (List.mem_of_getElem? (i := 2) rfl)
theorem wd_14_3 : Cond.code yJ0_isLatin1_aae02 cJ0_isLatin1_aae02 1 (some .boolean) ∈ wsL_law := bp_14 _ (List.mem_of_getElem? (i := 3) rfl)
theorem wd_14_4 : Cond.methodLink RJ0 495 yJ1_charAt_3b067 ∈ wsL_law := bp_14 _ (List.mem_of_getElem? (i := 4) rfl)
theorem wd_14_5 : Cond.static yJ1_charAt_3b067 ∈ wsL_law := bp_14 _ (List.mem_of_getElem? (i := 5) rfl)
theorem wd_14_6 : Cond.initialized RJ1 ∈ wsL_law := bp_14 _ (List.mem_of_getElem? (i := 6) rfl)
theorem wd_14_7 : Cond.code yJ1_charAt_3b067 cJ1_charAt_3b067 2 (some .char) ∈ wsL_law := bp_14 _ (List.mem_of_getElem? (i := 7) rfl)
theorem wd_14_8 : Cond.methodLink RJ1 9 yJ0_checkIndex_df160 ∈ wsL_law := bp_14 _ (List.mem_of_getElem? (i := 8) rfl)
theorem wd_14_9 : Cond.static yJ0_checkIndex_df160 ∈ wsL_law := bp_14 _ (List.mem_of_getElem? (i := 9) rfl)
theorem wd_14_10 : Cond.code yJ0_checkIndex_df160 cJ0_checkIndex_df160 2 none ∈ wsL_law := bp_14 _ (List.mem_of_getElem? (i := 10) rfl)
theorem wd_14_11 : Cond.fieldLink RJ0 1053 "jdk/internal/util/Preconditions" "SIOOBE_FORMATTER" "Ljava/util/function/BiFunction;" ∈ wsL_law := bp_14 _ (List.mem_of_getElem? (i := 11) rfl)
theorem wd_14_12 : Cond.methodLink RJ0 1059 yJ3_checkIndex_8e157 ∈ wsL_law := bp_14 _ (List.mem_of_getElem? (i := 12) rfl)
theorem wd_14_13 : Cond.static yJ3_checkIndex_8e157 ∈ wsL_law := bp_14 _ (List.mem_of_getElem? (i := 13) rfl)
theorem wd_14_14 : Cond.initialized RJ3 ∈ wsL_law := bp_14 _ (List.mem_of_getElem? (i := 14) rfl)
theorem wd_14_15 : Cond.code yJ3_checkIndex_8e157 cJ3_checkIndex_8e157 3 (some .int) ∈ wsL_law := bp_14 _ (List.mem_of_getElem? (i := 15) rfl)
theorem wd_14_16 : Cond.methodLink RJ0 498 yJ2_charAt_3b067 ∈ wsL_law := bp_14 _ (List.mem_of_getElem? (i := 16) rfl)
theorem wd_14_17 : Cond.static yJ2_charAt_3b067 ∈ wsL_law := bp_14 _ (List.mem_of_getElem? (i := 17) rfl)
theorem wd_14_18 : Cond.initialized RJ2 ∈ wsL_law := bp_14 _ (List.mem_of_getElem? (i := 18) rfl)
theorem wd_14_19 : Cond.code yJ2_charAt_3b067 cJ2_charAt_3b067 2 (some .char) ∈ wsL_law := bp_14 _ (List.mem_of_getElem? (i := 19) rfl)
theorem wd_14_20 : Cond.methodLink RJ2 67 yJ2_checkIndex_2214a ∈ wsL_law := bp_14 _ (List.mem_of_getElem? (i := 20) rfl)
theorem wd_14_21 : Cond.static yJ2_checkIndex_2214a ∈ wsL_law := bp_14 _ (List.mem_of_getElem? (i := 21) rfl)
theorem wd_14_22 : Cond.code yJ2_checkIndex_2214a cJ2_checkIndex_2214a 2 none ∈ wsL_law := bp_14 _ (List.mem_of_getElem? (i := 22) rfl)
theorem wd_14_23 : Cond.methodLink RJ2 48 yJ2_length_9d52b ∈ wsL_law := bp_14 _ (List.mem_of_getElem? (i := 23) rfl)
theorem wd_15_0 : Cond.static yJ2_length_9d52b ∈ wsL_law := bp_15 _ (List.mem_of_getElem? (i := 0) rfl)
theorem wd_15_1 : Cond.code yJ2_length_9d52b cJ2_length_9d52b 1 (some .int) ∈ wsL_law := bp_15 _ (List.mem_of_getElem? (i := 1) rfl)
theorem wd_15_2 : Cond.methodLink RJ2 414 yJ0_checkIndex_df160 ∈ wsL_law := bp_15 _ (List.mem_of_getElem? (i := 2) rfl)
theorem wd_15_3 : Cond.methodLink RJ2 71 yJ2_getChar_3b067 ∈ wsL_law := bp_15 _ (List.mem_of_getElem? (i := 3) rfl)
theorem wd_15_4 : Cond.static yJ2_getChar_3b067 ∈ wsL_law := bp_15 _ (List.mem_of_getElem? (i := 4) rfl)
theorem wd_15_5 : Cond.code yJ2_getChar_3b067 cJ2_getChar_3b067 2 (some .char) ∈ wsL_law := bp_15 _ (List.mem_of_getElem? (i := 5) rfl)
theorem wd_15_6 : Cond.fieldLink RJ2 44 "java/lang/StringUTF16" "$assertionsDisabled" "Z" ∈ wsL_law := bp_15 _ (List.mem_of_getElem? (i := 6) rfl)
theorem wd_15_7 : Cond.fieldLink RJ2 59 "java/lang/StringUTF16" "HI_BYTE_SHIFT" "I" ∈ wsL_law := bp_15 _ (List.mem_of_getElem? (i := 7) rfl)
theorem wd_15_8 : Cond.fieldLink RJ2 63 "java/lang/StringUTF16" "LO_BYTE_SHIFT" "I" ∈ wsL_law := bp_15 _ (List.mem_of_getElem? (i := 8) rfl)
theorem wd_15_9 : Cond.methodLink RX5 56 yX5_readNumbers ∈ wsL_law := bp_15 _ (List.mem_of_getElem? (i := 9) rfl)
theorem wd_15_10 : Cond.instanceMethod yX5_readNumbers ∈ wsL_law := bp_15 _ (List.mem_of_getElem? (i := 10) rfl)
theorem wd_15_11 : Cond.selects RX5 yX5_readNumbers yX5_readNumbers ∈ wsL_law := bp_15 _ (List.mem_of_getElem? (i := 11) rfl)
theorem wd_15_12 : Cond.code yX5_readNumbers cX5_readNumbers 1 (some .boolean) ∈ wsL_law := bp_15 _ (List.mem_of_getElem? (i := 12) rfl)
theorem wd_15_13 : Cond.methodLink RX5 93 yX5_readDigit ∈ wsL_law := bp_15 _ (List.mem_of_getElem? (i := 13) rfl)
theorem wd_15_14 : Cond.instanceMethod yX5_readDigit ∈ wsL_law := bp_15 _ (List.mem_of_getElem? (i := 14) rfl)
theorem wd_15_15 : Cond.selects RX5 yX5_readDigit yX5_readDigit ∈ wsL_law := bp_15 _ (List.mem_of_getElem? (i := 15) rfl)
theorem wd_15_16 : Cond.code yX5_readDigit cX5_readDigit 4 (some .int) ∈ wsL_law := bp_15 _ (List.mem_of_getElem? (i := 16) rfl)
theorem wd_15_17 : Cond.methodLink RX5 43 yX4_add ∈ wsL_law := bp_15 _ (List.mem_of_getElem? (i := 17) rfl)
theorem wd_15_18 : Cond.instanceMethod yX4_add ∈ wsL_law := bp_15 _ (List.mem_of_getElem? (i := 18) rfl)
theorem wd_15_19 : Cond.selects RX4 yX4_add yX4_add ∈ wsL_law := bp_15 _ (List.mem_of_getElem? (i := 19) rfl)
theorem wd_15_20 : Cond.code yX4_add cX4_add 5 none ∈ wsL_law := bp_15 _ (List.mem_of_getElem? (i := 20) rfl)
theorem wd_15_21 : Cond.methodLink RX6 118 yX4_copyFrom ∈ wsL_law := bp_15 _ (List.mem_of_getElem? (i := 21) rfl)
theorem wd_15_22 : Cond.methodLink RX6 122 yX4_left ∈ wsL_law := bp_15 _ (List.mem_of_getElem? (i := 22) rfl)
theorem wd_15_23 : Cond.instanceMethod yX4_left ∈ wsL_law := bp_15 _ (List.mem_of_getElem? (i := 23) rfl)
theorem wd_16_0 : Cond.selects RX4 yX4_left yX4_left ∈ wsL_law := bp_16 _ (List.mem_of_getElem? (i := 0) rfl)
theorem wd_16_1 : Cond.code yX4_left cX4_left 1 (some .int) ∈ wsL_law := bp_16 _ (List.mem_of_getElem? (i := 1) rfl)
theorem wd_16_2 : Cond.methodLink RL 13 yX6_count ∈ wsL_law := bp_16 _ (List.mem_of_getElem? (i := 2) rfl)
theorem wd_16_3 : Cond.instanceMethod yX6_count ∈ wsL_law := bp_16 _ (List.mem_of_getElem? (i := 3) rfl)
theorem wd_16_4 : Cond.selects RX6 yX6_count yX6_count ∈ wsL_law := bp_16 _ (List.mem_of_getElem? (i := 4) rfl)
theorem wd_16_5 : Cond.code yX6_count cX6_count 2 (some .int) ∈ wsL_law := bp_16 _ (List.mem_of_getElem? (i := 5) rfl)
theorem wd_16_6 : Cond.fieldLink RX6 78 "StarterBay$State" "limit" "I" ∈ wsL_law := bp_16 _ (List.mem_of_getElem? (i := 6) rfl)
theorem wd_16_7 : Cond.fieldLink RX6 225 "StarterBay$State" "refusedItems" "I" ∈ wsL_law := bp_16 _ (List.mem_of_getElem? (i := 7) rfl)
theorem wd_16_8 : Cond.fieldLink RX6 237 "StarterBay$EventLog" "total" "I" ∈ wsL_law := bp_16 _ (List.mem_of_getElem? (i := 8) rfl)
theorem wd_16_9 : Cond.fieldLink RX6 101 "StarterBay$TimetableText" "length" "I" ∈ wsL_law := bp_16 _ (List.mem_of_getElem? (i := 9) rfl)
theorem wd_16_10 : Cond.methodLink RX6 219 yX3_motorsInMode ∈ wsL_law := bp_16 _ (List.mem_of_getElem? (i := 10) rfl)
theorem wd_16_11 : Cond.instanceMethod yX3_motorsInMode ∈ wsL_law := bp_16 _ (List.mem_of_getElem? (i := 11) rfl)
theorem wd_16_12 : Cond.selects RX3 yX3_motorsInMode yX3_motorsInMode ∈ wsL_law := bp_16 _ (List.mem_of_getElem? (i := 12) rfl)
theorem wd_16_13 : Cond.code yX3_motorsInMode cX3_motorsInMode 4 (some .int) ∈ wsL_law := bp_16 _ (List.mem_of_getElem? (i := 13) rfl)
theorem wd_16_14 : Cond.fieldLink RX3 94 "StarterBay$Motor" "mode" "I" ∈ wsL_law := bp_16 _ (List.mem_of_getElem? (i := 14) rfl)
theorem wd_16_15 : Cond.methodLink RX6 228 yX3_sumOfAccount ∈ wsL_law := bp_16 _ (List.mem_of_getElem? (i := 15) rfl)
theorem wd_16_16 : Cond.instanceMethod yX3_sumOfAccount ∈ wsL_law := bp_16 _ (List.mem_of_getElem? (i := 16) rfl)
theorem wd_16_17 : Cond.selects RX3 yX3_sumOfAccount yX3_sumOfAccount ∈ wsL_law := bp_16 _ (List.mem_of_getElem? (i := 17) rfl)
theorem wd_16_18 : Cond.code yX3_sumOfAccount cX3_sumOfAccount 4 (some .int) ∈ wsL_law := bp_16 _ (List.mem_of_getElem? (i := 18) rfl)
theorem wd_16_19 : Cond.fieldLink RX3 100 "StarterBay$Motor" "accounts" "[I" ∈ wsL_law := bp_16 _ (List.mem_of_getElem? (i := 19) rfl)
theorem wd_16_20 : Cond.methodLink RX6 231 yX3_sumOfHeat ∈ wsL_law := bp_16 _ (List.mem_of_getElem? (i := 20) rfl)
theorem wd_16_21 : Cond.instanceMethod yX3_sumOfHeat ∈ wsL_law := bp_16 _ (List.mem_of_getElem? (i := 21) rfl)
theorem wd_16_22 : Cond.selects RX3 yX3_sumOfHeat yX3_sumOfHeat ∈ wsL_law := bp_16 _ (List.mem_of_getElem? (i := 22) rfl)
theorem wd_16_23 : Cond.code yX3_sumOfHeat cX3_sumOfHeat 3 (some .int) ∈ wsL_law := bp_16 _ (List.mem_of_getElem? (i := 23) rfl)
theorem wd_17_0 : Cond.fieldLink RX3 104 "StarterBay$Motor" "heat" "I" ∈ wsL_law := bp_17 _ (List.mem_of_getElem? (i := 0) rfl)
theorem wd_17_1 : Cond.methodLink RX6 234 yX3_sumOfDraws ∈ wsL_law := bp_17 _ (List.mem_of_getElem? (i := 1) rfl)
theorem wd_17_2 : Cond.instanceMethod yX3_sumOfDraws ∈ wsL_law := bp_17 _ (List.mem_of_getElem? (i := 2) rfl)
theorem wd_17_3 : Cond.selects RX3 yX3_sumOfDraws yX3_sumOfDraws ∈ wsL_law := bp_17 _ (List.mem_of_getElem? (i := 3) rfl)
theorem wd_17_4 : Cond.code yX3_sumOfDraws cX3_sumOfDraws 3 (some .int) ∈ wsL_law := bp_17 _ (List.mem_of_getElem? (i := 4) rfl)
theorem wd_17_5 : Cond.methodLink RX3 97 yX2_draw ∈ wsL_law := bp_17 _ (List.mem_of_getElem? (i := 5) rfl)
theorem wd_17_6 : Cond.instanceMethod yX2_draw ∈ wsL_law := bp_17 _ (List.mem_of_getElem? (i := 6) rfl)
theorem wd_17_7 : Cond.selects RX2 yX2_draw yX2_draw ∈ wsL_law := bp_17 _ (List.mem_of_getElem? (i := 7) rfl)
theorem wd_17_8 : Cond.code yX2_draw cX2_draw 1 (some .int) ∈ wsL_law := bp_17 _ (List.mem_of_getElem? (i := 8) rfl)
theorem wd_17_9 : Cond.methodLink RX2 68 yX2_peak ∈ wsL_law := bp_17 _ (List.mem_of_getElem? (i := 9) rfl)
theorem wd_17_10 : Cond.instanceMethod yX2_peak ∈ wsL_law := bp_17 _ (List.mem_of_getElem? (i := 10) rfl)
theorem wd_17_11 : Cond.selects RX2 yX2_peak yX2_peak ∈ wsL_law := bp_17 _ (List.mem_of_getElem? (i := 11) rfl)
theorem wd_17_12 : Cond.code yX2_peak cX2_peak 1 (some .int) ∈ wsL_law := bp_17 _ (List.mem_of_getElem? (i := 12) rfl)
theorem wd_17_13 : Cond.static yX6_rampCurrent ∈ wsL_law := bp_17 _ (List.mem_of_getElem? (i := 13) rfl)
theorem wd_17_14 : Cond.code yX6_rampCurrent cX6_rampCurrent 3 (some .int) ∈ wsL_law := bp_17 _ (List.mem_of_getElem? (i := 14) rfl)
theorem wd_17_15 : Cond.methodLink RL 65 yX6_pass ∈ wsL_law := bp_17 _ (List.mem_of_getElem? (i := 15) rfl)
theorem wd_17_16 : Cond.instanceMethod yX6_pass ∈ wsL_law := bp_17 _ (List.mem_of_getElem? (i := 16) rfl)
theorem wd_17_17 : Cond.selects RX6 yX6_pass yX6_pass ∈ wsL_law := bp_17 _ (List.mem_of_getElem? (i := 17) rfl)
theorem wd_17_18 : Cond.code yX6_pass cX6_pass 4 (some .int) ∈ wsL_law := bp_17 _ (List.mem_of_getElem? (i := 18) rfl)
theorem wd_17_19 : Cond.methodLink RX6 88 yX6_carryOutDueItems ∈ wsL_law := bp_17 _ (List.mem_of_getElem? (i := 19) rfl)
theorem wd_17_20 : Cond.instanceMethod yX6_carryOutDueItems ∈ wsL_law := bp_17 _ (List.mem_of_getElem? (i := 20) rfl)
theorem wd_17_21 : Cond.selects RX6 yX6_carryOutDueItems yX6_carryOutDueItems ∈ wsL_law := bp_17 _ (List.mem_of_getElem? (i := 21) rfl)
theorem wd_17_22 : Cond.code yX6_carryOutDueItems cX6_carryOutDueItems 3 none ∈ wsL_law := bp_17 _ (List.mem_of_getElem? (i := 22) rfl)
theorem wd_17_23 : Cond.fieldLink RX6 266 "StarterBay$Timetable" "next" "I" ∈ wsL_law := bp_17 _ (List.mem_of_getElem? (i := 23) rfl)
theorem wd_18_0 : Cond.fieldLink RX6 269 "StarterBay$Timetable" "size" "I" ∈ wsL_law := bp_18 _ (List.mem_of_getElem? (i := 0) rfl)
theorem wd_18_1 : Cond.fieldLink RX6 270 "StarterBay$Timetable" "due" "[I" ∈ wsL_law := bp_18 _ (List.mem_of_getElem? (i := 1) rfl)
theorem wd_18_2 : Cond.fieldLink RX6 273 "StarterBay$Timetable" "order" "[I" ∈ wsL_law := bp_18 _ (List.mem_of_getElem? (i := 2) rfl)
theorem wd_18_3 : Cond.fieldLink RX6 276 "StarterBay$Timetable" "first" "[I" ∈ wsL_law := bp_18 _ (List.mem_of_getElem? (i := 3) rfl)
theorem wd_18_4 : Cond.fieldLink RX6 279 "StarterBay$Timetable" "second" "[I" ∈ wsL_law := bp_18 _ (List.mem_of_getElem? (i := 4) rfl)
theorem wd_18_5 : Cond.methodLink RX6 282 yX6_carryOutItem ∈ wsL_law := bp_18 _ (List.mem_of_getElem? (i := 5) rfl)
theorem wd_18_6 : Cond.instanceMethod yX6_carryOutItem ∈ wsL_law := bp_18 _ (List.mem_of_getElem? (i := 6) rfl)
theorem wd_18_7 : Cond.selects RX6 yX6_carryOutItem yX6_carryOutItem ∈ wsL_law := bp_18 _ (List.mem_of_getElem? (i := 7) rfl)
theorem wd_18_8 : Cond.code yX6_carryOutItem cX6_carryOutItem 5 none ∈ wsL_law := bp_18 _ (List.mem_of_getElem? (i := 8) rfl)
theorem wd_18_9 : Cond.methodLink RX6 91 yX6_startFirstThatCan ∈ wsL_law := bp_18 _ (List.mem_of_getElem? (i := 9) rfl)
theorem wd_18_10 : Cond.instanceMethod yX6_startFirstThatCan ∈ wsL_law := bp_18 _ (List.mem_of_getElem? (i := 10) rfl)
theorem wd_18_11 : Cond.selects RX6 yX6_startFirstThatCan yX6_startFirstThatCan ∈ wsL_law := bp_18 _ (List.mem_of_getElem? (i := 11) rfl)
theorem wd_18_12 : Cond.code yX6_startFirstThatCan cX6_startFirstThatCan 4 (some .boolean) ∈ wsL_law := bp_18 _ (List.mem_of_getElem? (i := 12) rfl)
theorem wd_18_13 : Cond.fieldLink RX6 158 "StarterBay$Motor" "rampSeconds" "I" ∈ wsL_law := bp_18 _ (List.mem_of_getElem? (i := 13) rfl)
theorem wd_18_14 : Cond.fieldLink RX6 179 "StarterBay$Motor" "accounts" "[I" ∈ wsL_law := bp_18 _ (List.mem_of_getElem? (i := 14) rfl)
theorem wd_18_15 : Cond.methodLink RX6 185 yX3_reasonAgainst ∈ wsL_law := bp_18 _ (List.mem_of_getElem? (i := 15) rfl)
theorem wd_18_16 : Cond.instanceMethod yX3_reasonAgainst ∈ wsL_law := bp_18 _ (List.mem_of_getElem? (i := 16) rfl)
theorem wd_18_17 : Cond.selects RX3 yX3_reasonAgainst yX3_reasonAgainst ∈ wsL_law := bp_18 _ (List.mem_of_getElem? (i := 17) rfl)
theorem wd_18_18 : Cond.code yX3_reasonAgainst cX3_reasonAgainst 2 (some .int) ∈ wsL_law := bp_18 _ (List.mem_of_getElem? (i := 18) rfl)
theorem wd_18_19 : Cond.fieldLink RX3 78 "StarterBay$Motor" "lost" "I" ∈ wsL_law := bp_18 _ (List.mem_of_getElem? (i := 19) rfl)
theorem wd_18_20 : Cond.fieldLink RX3 85 "StarterBay$Motor" "heatToStart" "I" ∈ wsL_law := bp_18 _ (List.mem_of_getElem? (i := 20) rfl)
theorem wd_18_21 : Cond.methodLink RX3 81 yX2_credit ∈ wsL_law := bp_18 _ (List.mem_of_getElem? (i := 21) rfl)
theorem wd_18_22 : Cond.instanceMethod yX2_credit ∈ wsL_law := bp_18 _ (List.mem_of_getElem? (i := 22) rfl)
theorem wd_18_23 : Cond.selects RX2 yX2_credit yX2_credit ∈ wsL_law := bp_18 _ (List.mem_of_getElem? (i := 23) rfl)
theorem wd_19_0 : Cond.code yX2_credit cX2_credit 1 (some .int) ∈ wsL_law := bp_19 _ (List.mem_of_getElem? (i := 0) rfl)
theorem wd_19_1 : Cond.methodLink RX3 88 yX2_peak ∈ wsL_law := bp_19 _ (List.mem_of_getElem? (i := 1) rfl)
theorem wd_19_2 : Cond.methodLink RX3 91 yX3_takenCurrent ∈ wsL_law := bp_19 _ (List.mem_of_getElem? (i := 2) rfl)
theorem wd_19_3 : Cond.instanceMethod yX3_takenCurrent ∈ wsL_law := bp_19 _ (List.mem_of_getElem? (i := 3) rfl)
theorem wd_19_4 : Cond.selects RX3 yX3_takenCurrent yX3_takenCurrent ∈ wsL_law := bp_19 _ (List.mem_of_getElem? (i := 4) rfl)
theorem wd_19_5 : Cond.code yX3_takenCurrent cX3_takenCurrent 4 (some .int) ∈ wsL_law := bp_19 _ (List.mem_of_getElem? (i := 5) rfl)
theorem wd_19_6 : Cond.methodLink RX6 286 yX6_passOver ∈ wsL_law := bp_19 _ (List.mem_of_getElem? (i := 6) rfl)
theorem wd_19_7 : Cond.instanceMethod yX6_passOver ∈ wsL_law := bp_19 _ (List.mem_of_getElem? (i := 7) rfl)
theorem wd_19_8 : Cond.selects RX6 yX6_passOver yX6_passOver ∈ wsL_law := bp_19 _ (List.mem_of_getElem? (i := 8) rfl)
theorem wd_19_9 : Cond.code yX6_passOver cX6_passOver 3 none ∈ wsL_law := bp_19 _ (List.mem_of_getElem? (i := 9) rfl)
theorem wd_19_10 : Cond.methodLink RX6 95 yX6_heatMotors ∈ wsL_law := bp_19 _ (List.mem_of_getElem? (i := 10) rfl)
theorem wd_19_11 : Cond.instanceMethod yX6_heatMotors ∈ wsL_law := bp_19 _ (List.mem_of_getElem? (i := 11) rfl)
theorem wd_19_12 : Cond.selects RX6 yX6_heatMotors yX6_heatMotors ∈ wsL_law := bp_19 _ (List.mem_of_getElem? (i := 12) rfl)
theorem wd_19_13 : Cond.code yX6_heatMotors cX6_heatMotors 3 none ∈ wsL_law := bp_19 _ (List.mem_of_getElem? (i := 13) rfl)
theorem wd_19_14 : Cond.methodLink RX6 290 yX2_countSecond ∈ wsL_law := bp_19 _ (List.mem_of_getElem? (i := 14) rfl)
theorem wd_19_15 : Cond.instanceMethod yX2_countSecond ∈ wsL_law := bp_19 _ (List.mem_of_getElem? (i := 15) rfl)
theorem wd_19_16 : Cond.selects RX2 yX2_countSecond yX2_countSecond ∈ wsL_law := bp_19 _ (List.mem_of_getElem? (i := 16) rfl)
theorem wd_19_17 : Cond.code yX2_countSecond cX2_countSecond 1 none ∈ wsL_law := bp_19 _ (List.mem_of_getElem? (i := 17) rfl)
theorem wd_19_18 : Cond.methodLink RX2 76 yX2_turns ∈ wsL_law := bp_19 _ (List.mem_of_getElem? (i := 18) rfl)
theorem wd_19_19 : Cond.instanceMethod yX2_turns ∈ wsL_law := bp_19 _ (List.mem_of_getElem? (i := 19) rfl)
theorem wd_19_20 : Cond.selects RX2 yX2_turns yX2_turns ∈ wsL_law := bp_19 _ (List.mem_of_getElem? (i := 20) rfl)
theorem wd_19_21 : Cond.code yX2_turns cX2_turns 1 (some .boolean) ∈ wsL_law := bp_19 _ (List.mem_of_getElem? (i := 21) rfl)
theorem wd_19_22 : Cond.methodLink RX6 293 yX2_exchangeHeat ∈ wsL_law := bp_19 _ (List.mem_of_getElem? (i := 22) rfl)
theorem wd_19_23 : Cond.instanceMethod yX2_exchangeHeat ∈ wsL_law := bp_19 _ (List.mem_of_getElem? (i := 23) rfl)
theorem wd_20_0 : Cond.selects RX2 yX2_exchangeHeat yX2_exchangeHeat ∈ wsL_law := bp_20 _ (List.mem_of_getElem? (i := 0) rfl)
theorem wd_20_1 : Cond.code yX2_exchangeHeat cX2_exchangeHeat 4 none ∈ wsL_law := bp_20 _ (List.mem_of_getElem? (i := 1) rfl)
theorem wd_20_2 : Cond.methodLink RX2 80 yX2_draw ∈ wsL_law := bp_20 _ (List.mem_of_getElem? (i := 2) rfl)
theorem wd_20_3 : Cond.static yX6_heatOf ∈ wsL_law := bp_20 _ (List.mem_of_getElem? (i := 3) rfl)
theorem wd_20_4 : Cond.code yX6_heatOf cX6_heatOf 1 (some .int) ∈ wsL_law := bp_20 _ (List.mem_of_getElem? (i := 4) rfl)
theorem wd_20_5 : Cond.static yX6_givenOff ∈ wsL_law := bp_20 _ (List.mem_of_getElem? (i := 5) rfl)
theorem wd_20_6 : Cond.code yX6_givenOff cX6_givenOff 4 (some .int) ∈ wsL_law := bp_20 _ (List.mem_of_getElem? (i := 6) rfl)
theorem wd_20_7 : Cond.methodLink RX6 297 yX2_endSecond ∈ wsL_law := bp_20 _ (List.mem_of_getElem? (i := 7) rfl)
theorem wd_20_8 : Cond.instanceMethod yX2_endSecond ∈ wsL_law := bp_20 _ (List.mem_of_getElem? (i := 8) rfl)
theorem wd_20_9 : Cond.selects RX2 yX2_endSecond yX2_endSecond ∈ wsL_law := bp_20 _ (List.mem_of_getElem? (i := 9) rfl)
theorem wd_20_10 : Cond.code yX2_endSecond cX2_endSecond 1 (some .int) ∈ wsL_law := bp_20 _ (List.mem_of_getElem? (i := 10) rfl)
theorem wd_20_11 : Cond.methodLink RX2 91 yX2_trip ∈ wsL_law := bp_20 _ (List.mem_of_getElem? (i := 11) rfl)
theorem wd_20_12 : Cond.methodLink RL 111 yL_cell ∈ wsL_law := bp_20 _ (List.mem_of_getElem? (i := 12) rfl)
theorem wd_20_13 : Cond.static yL_cell ∈ wsL_law := bp_20 _ (List.mem_of_getElem? (i := 13) rfl)
theorem wd_20_14 : Cond.initialized RL ∈ wsL_law := bp_20 _ (List.mem_of_getElem? (i := 14) rfl)
theorem wd_20_15 : Cond.code yL_cell cL_cell 2 (some .int) ∈ wsL_law := bp_20 _ (List.mem_of_getElem? (i := 15) rfl)
theorem wd_20_16 : Cond.constant RL 7 (2330011) ∈ wsL_law := bp_20 _ (List.mem_of_getElem? (i := 16) rfl)
theorem wd_20_17 : Cond.methodLink RL 85 yL_low ∈ wsL_law := bp_20 _ (List.mem_of_getElem? (i := 17) rfl)
theorem wd_20_18 : Cond.static yL_low ∈ wsL_law := bp_20 _ (List.mem_of_getElem? (i := 18) rfl)
theorem wd_20_19 : Cond.code yL_low cL_low 2 (some .int) ∈ wsL_law := bp_20 _ (List.mem_of_getElem? (i := 19) rfl)
theorem wd_20_20 : Cond.constant RL 8 (2147483647) ∈ wsL_law := bp_20 _ (List.mem_of_getElem? (i := 20) rfl)
theorem wd_20_21 : Cond.methodLink RL 72 yL_digest ∈ wsL_law := bp_20 _ (List.mem_of_getElem? (i := 21) rfl)
theorem wd_20_22 : Cond.static yL_digest ∈ wsL_law := bp_20 _ (List.mem_of_getElem? (i := 22) rfl)
theorem wd_20_23 : Cond.code yL_digest cL_digest 5 (some .long) ∈ wsL_law := bp_20 _ (List.mem_of_getElem? (i := 23) rfl)
theorem wd_21_0 : Cond.constantLong RL 9 (47) ∈ wsL_law := bp_21 _ (List.mem_of_getElem? (i := 0) rfl)
theorem wd_21_1 : Cond.constantLong RL 11 (31) ∈ wsL_law := bp_21 _ (List.mem_of_getElem? (i := 1) rfl)
theorem wd_21_2 : Cond.constantLong RL 26 (100) ∈ wsL_law := bp_21 _ (List.mem_of_getElem? (i := 2) rfl)
theorem wd_21_3 : Cond.constantLong RL 31 (10) ∈ wsL_law := bp_21 _ (List.mem_of_getElem? (i := 3) rfl)
theorem wd_21_4 : Cond.methodLink RL 19 yX6_motor ∈ wsL_law := bp_21 _ (List.mem_of_getElem? (i := 4) rfl)
theorem wd_21_5 : Cond.instanceMethod yX6_motor ∈ wsL_law := bp_21 _ (List.mem_of_getElem? (i := 5) rfl)
theorem wd_21_6 : Cond.selects RX6 yX6_motor yX6_motor ∈ wsL_law := bp_21 _ (List.mem_of_getElem? (i := 6) rfl)
theorem wd_21_7 : Cond.code yX6_motor cX6_motor 4 (some .int) ∈ wsL_law := bp_21 _ (List.mem_of_getElem? (i := 7) rfl)
theorem wd_21_8 : Cond.fieldLink RX6 139 "StarterBay$Motor" "rated" "I" ∈ wsL_law := bp_21 _ (List.mem_of_getElem? (i := 8) rfl)
theorem wd_21_9 : Cond.fieldLink RX6 142 "StarterBay$Motor" "ramp" "I" ∈ wsL_law := bp_21 _ (List.mem_of_getElem? (i := 9) rfl)
theorem wd_21_10 : Cond.fieldLink RX6 145 "StarterBay$Motor" "factor" "I" ∈ wsL_law := bp_21 _ (List.mem_of_getElem? (i := 10) rfl)
theorem wd_21_11 : Cond.fieldLink RX6 75 "StarterBay$Motor" "need" "I" ∈ wsL_law := bp_21 _ (List.mem_of_getElem? (i := 11) rfl)
theorem wd_21_12 : Cond.fieldLink RX6 167 "StarterBay$Motor" "tripReason" "I" ∈ wsL_law := bp_21 _ (List.mem_of_getElem? (i := 12) rfl)
theorem wd_21_13 : Cond.methodLink RX6 173 Lib.Math.max.name ∈ wsL_law := bp_21 _ (List.mem_of_getElem? (i := 13) rfl)
theorem wd_21_14 : Cond.static Lib.Math.max.name ∈ wsL_law := bp_21 _ (List.mem_of_getElem? (i := 14) rfl)
theorem wd_21_15 : Cond.code Lib.Math.max.name Lib.Math.max.code 2 (some .int) ∈ wsL_law := bp_21 _ (List.mem_of_getElem? (i := 15) rfl)
theorem wd_21_16 : Cond.methodLink RX6 164 yX2_draw ∈ wsL_law := bp_21 _ (List.mem_of_getElem? (i := 16) rfl)
theorem wd_21_17 : Cond.methodLink RX6 170 yX2_credit ∈ wsL_law := bp_21 _ (List.mem_of_getElem? (i := 17) rfl)
theorem wd_21_18 : Cond.methodLink RL 23 yX6_account ∈ wsL_law := bp_21 _ (List.mem_of_getElem? (i := 18) rfl)
theorem wd_21_19 : Cond.instanceMethod yX6_account ∈ wsL_law := bp_21 _ (List.mem_of_getElem? (i := 19) rfl)
theorem wd_21_20 : Cond.selects RX6 yX6_account yX6_account ∈ wsL_law := bp_21 _ (List.mem_of_getElem? (i := 20) rfl)
theorem wd_21_21 : Cond.code yX6_account cX6_account 4 (some .int) ∈ wsL_law := bp_21 _ (List.mem_of_getElem? (i := 21) rfl)
theorem wd_21_22 : Cond.methodLink RL 115 yX6_addMotor ∈ wsL_law := bp_21 _ (List.mem_of_getElem? (i := 22) rfl)
theorem wd_21_23 : Cond.instanceMethod yX6_addMotor ∈ wsL_law := bp_21 _ (List.mem_of_getElem? (i := 23) rfl)
theorem wd_22_0 : Cond.selects RX6 yX6_addMotor yX6_addMotor ∈ wsL_law := bp_22 _ (List.mem_of_getElem? (i := 0) rfl)
theorem wd_22_1 : Cond.code yX6_addMotor cX6_addMotor 6 (some .int) ∈ wsL_law := bp_22 _ (List.mem_of_getElem? (i := 1) rfl)
theorem wd_22_2 : Cond.constant RX6 48 (60000) ∈ wsL_law := bp_22 _ (List.mem_of_getElem? (i := 2) rfl)
theorem wd_22_3 : Cond.methodLink RX6 65 yX2_begin ∈ wsL_law := bp_22 _ (List.mem_of_getElem? (i := 3) rfl)
theorem wd_22_4 : Cond.instanceMethod yX2_begin ∈ wsL_law := bp_22 _ (List.mem_of_getElem? (i := 4) rfl)
theorem wd_22_5 : Cond.selects RX2 yX2_begin yX2_begin ∈ wsL_law := bp_22 _ (List.mem_of_getElem? (i := 5) rfl)
theorem wd_22_6 : Cond.code yX2_begin cX2_begin 6 none ∈ wsL_law := bp_22 _ (List.mem_of_getElem? (i := 6) rfl)
theorem wd_22_7 : Cond.static yX6_heatOfStart ∈ wsL_law := bp_22 _ (List.mem_of_getElem? (i := 7) rfl)
theorem wd_22_8 : Cond.code yX6_heatOfStart cX6_heatOfStart 4 (some .int) ∈ wsL_law := bp_22 _ (List.mem_of_getElem? (i := 8) rfl)
theorem wd_22_9 : Cond.methodLink RX6 304 yX6_rampCurrent ∈ wsL_law := bp_22 _ (List.mem_of_getElem? (i := 9) rfl)
theorem wd_22_10 : Cond.methodLink RX6 210 yX6_heatOf ∈ wsL_law := bp_22 _ (List.mem_of_getElem? (i := 10) rfl)
theorem wd_22_11 : Cond.methodLink RL 119 yL_sets ∈ wsL_law := bp_22 _ (List.mem_of_getElem? (i := 11) rfl)
theorem wd_22_12 : Cond.static yL_sets ∈ wsL_law := bp_22 _ (List.mem_of_getElem? (i := 12) rfl)
theorem wd_22_13 : Cond.code yL_sets cL_sets 6 (some .boolean) ∈ wsL_law := bp_22 _ (List.mem_of_getElem? (i := 13) rfl)
theorem wd_22_14 : Cond.methodLink RL 94 yX6_setNeed ∈ wsL_law := bp_22 _ (List.mem_of_getElem? (i := 14) rfl)
theorem wd_22_15 : Cond.instanceMethod yX6_setNeed ∈ wsL_law := bp_22 _ (List.mem_of_getElem? (i := 15) rfl)
theorem wd_22_16 : Cond.selects RX6 yX6_setNeed yX6_setNeed ∈ wsL_law := bp_22 _ (List.mem_of_getElem? (i := 16) rfl)
theorem wd_22_17 : Cond.code yX6_setNeed cX6_setNeed 5 (some .int) ∈ wsL_law := bp_22 _ (List.mem_of_getElem? (i := 17) rfl)
theorem wd_22_18 : Cond.methodLink RL 97 yX6_setLimit ∈ wsL_law := bp_22 _ (List.mem_of_getElem? (i := 18) rfl)
theorem wd_22_19 : Cond.instanceMethod yX6_setLimit ∈ wsL_law := bp_22 _ (List.mem_of_getElem? (i := 19) rfl)
theorem wd_22_20 : Cond.selects RX6 yX6_setLimit yX6_setLimit ∈ wsL_law := bp_22 _ (List.mem_of_getElem? (i := 20) rfl)
theorem wd_22_21 : Cond.code yX6_setLimit cX6_setLimit 3 (some .int) ∈ wsL_law := bp_22 _ (List.mem_of_getElem? (i := 21) rfl)
theorem wd_22_22 : Cond.methodLink RL 100 yX6_setFan ∈ wsL_law := bp_22 _ (List.mem_of_getElem? (i := 22) rfl)
theorem wd_22_23 : Cond.instanceMethod yX6_setFan ∈ wsL_law := bp_22 _ (List.mem_of_getElem? (i := 23) rfl)
theorem wd_23_0 : Cond.selects RX6 yX6_setFan yX6_setFan ∈ wsL_law := bp_23 _ (List.mem_of_getElem? (i := 0) rfl)
theorem wd_23_1 : Cond.code yX6_setFan cX6_setFan 2 (some .int) ∈ wsL_law := bp_23 _ (List.mem_of_getElem? (i := 1) rfl)
theorem wd_23_2 : Cond.methodLink RL 123 yL_orders ∈ wsL_law := bp_23 _ (List.mem_of_getElem? (i := 2) rfl)
theorem wd_23_3 : Cond.static yL_orders ∈ wsL_law := bp_23 _ (List.mem_of_getElem? (i := 3) rfl)
theorem wd_23_4 : Cond.code yL_orders cL_orders 9 (some .boolean) ∈ wsL_law := bp_23 _ (List.mem_of_getElem? (i := 4) rfl)
theorem wd_23_5 : Cond.methodLink RL 82 yX6_stop ∈ wsL_law := bp_23 _ (List.mem_of_getElem? (i := 5) rfl)
theorem wd_23_6 : Cond.instanceMethod yX6_stop ∈ wsL_law := bp_23 _ (List.mem_of_getElem? (i := 6) rfl)
theorem wd_23_7 : Cond.selects RX6 yX6_stop yX6_stop ∈ wsL_law := bp_23 _ (List.mem_of_getElem? (i := 7) rfl)
theorem wd_23_8 : Cond.code yX6_stop cX6_stop 2 (some .int) ∈ wsL_law := bp_23 _ (List.mem_of_getElem? (i := 8) rfl)
theorem wd_23_9 : Cond.methodLink RL 88 yX6_losePhases ∈ wsL_law := bp_23 _ (List.mem_of_getElem? (i := 9) rfl)
theorem wd_23_10 : Cond.instanceMethod yX6_losePhases ∈ wsL_law := bp_23 _ (List.mem_of_getElem? (i := 10) rfl)
theorem wd_23_11 : Cond.selects RX6 yX6_losePhases yX6_losePhases ∈ wsL_law := bp_23 _ (List.mem_of_getElem? (i := 11) rfl)
theorem wd_23_12 : Cond.code yX6_losePhases cX6_losePhases 3 (some .int) ∈ wsL_law := bp_23 _ (List.mem_of_getElem? (i := 12) rfl)
theorem wd_23_13 : Cond.methodLink RL 91 yX6_reset ∈ wsL_law := bp_23 _ (List.mem_of_getElem? (i := 13) rfl)
theorem wd_23_14 : Cond.instanceMethod yX6_reset ∈ wsL_law := bp_23 _ (List.mem_of_getElem? (i := 14) rfl)
theorem wd_23_15 : Cond.selects RX6 yX6_reset yX6_reset ∈ wsL_law := bp_23 _ (List.mem_of_getElem? (i := 15) rfl)
theorem wd_23_16 : Cond.code yX6_reset cX6_reset 2 (some .int) ∈ wsL_law := bp_23 _ (List.mem_of_getElem? (i := 16) rfl)
theorem wd_23_17 : Cond.methodLink RL 126 yL_parts ∈ wsL_law := bp_23 _ (List.mem_of_getElem? (i := 17) rfl)
theorem wd_23_18 : Cond.static yL_parts ∈ wsL_law := bp_23 _ (List.mem_of_getElem? (i := 18) rfl)
theorem wd_23_19 : Cond.code yL_parts cL_parts 8 (some .boolean) ∈ wsL_law := bp_23 _ (List.mem_of_getElem? (i := 19) rfl)
theorem wd_23_20 : Cond.methodLink RL 68 yX6_keep ∈ wsL_law := bp_23 _ (List.mem_of_getElem? (i := 20) rfl)
theorem wd_23_21 : Cond.instanceMethod yX6_keep ∈ wsL_law := bp_23 _ (List.mem_of_getElem? (i := 21) rfl)
theorem wd_23_22 : Cond.selects RX6 yX6_keep yX6_keep ∈ wsL_law := bp_23 _ (List.mem_of_getElem? (i := 22) rfl)
theorem wd_23_23 : Cond.code yX6_keep cX6_keep 1 (some .int) ∈ wsL_law := bp_23 _ (List.mem_of_getElem? (i := 23) rfl)
theorem wd_24_0 : Cond.methodLink RL 130 yL_second ∈ wsL_law := bp_24 _ (List.mem_of_getElem? (i := 0) rfl)
theorem wd_24_1 : Cond.static yL_second ∈ wsL_law := bp_24 _ (List.mem_of_getElem? (i := 1) rfl)
theorem wd_24_2 : Cond.code yL_second cL_second 8 (some .boolean) ∈ wsL_law := bp_24 _ (List.mem_of_getElem? (i := 2) rfl)
theorem wd_24_3 : Cond.methodLink RL 51 yX6_whyNot ∈ wsL_law := bp_24 _ (List.mem_of_getElem? (i := 3) rfl)
theorem wd_24_4 : Cond.instanceMethod yX6_whyNot ∈ wsL_law := bp_24 _ (List.mem_of_getElem? (i := 4) rfl)
theorem wd_24_5 : Cond.selects RX6 yX6_whyNot yX6_whyNot ∈ wsL_law := bp_24 _ (List.mem_of_getElem? (i := 5) rfl)
theorem wd_24_6 : Cond.code yX6_whyNot cX6_whyNot 3 (some .int) ∈ wsL_law := bp_24 _ (List.mem_of_getElem? (i := 6) rfl)
theorem wd_24_7 : Cond.methodLink RL 61 yL_passedOver ∈ wsL_law := bp_24 _ (List.mem_of_getElem? (i := 7) rfl)
theorem wd_24_8 : Cond.static yL_passedOver ∈ wsL_law := bp_24 _ (List.mem_of_getElem? (i := 8) rfl)
theorem wd_24_9 : Cond.code yL_passedOver cL_passedOver 3 (some .int) ∈ wsL_law := bp_24 _ (List.mem_of_getElem? (i := 9) rfl)
theorem wd_24_10 : Cond.methodLink RL 133 yL_sound ∈ wsL_law := bp_24 _ (List.mem_of_getElem? (i := 10) rfl)
theorem wd_24_11 : Cond.static yL_sound ∈ wsL_law := bp_24 _ (List.mem_of_getElem? (i := 11) rfl)
theorem wd_24_12 : Cond.code yL_sound cL_sound 8 (some .boolean) ∈ wsL_law := bp_24 _ (List.mem_of_getElem? (i := 12) rfl)
theorem wd_24_13 : Cond.methodLink RL 39 yX6_startHeat ∈ wsL_law := bp_24 _ (List.mem_of_getElem? (i := 13) rfl)
theorem wd_24_14 : Cond.instanceMethod yX6_startHeat ∈ wsL_law := bp_24 _ (List.mem_of_getElem? (i := 14) rfl)
theorem wd_24_15 : Cond.selects RX6 yX6_startHeat yX6_startHeat ∈ wsL_law := bp_24 _ (List.mem_of_getElem? (i := 15) rfl)
theorem wd_24_16 : Cond.code yX6_startHeat cX6_startHeat 3 (some .int) ∈ wsL_law := bp_24 _ (List.mem_of_getElem? (i := 16) rfl)
theorem wd_24_17 : Cond.fieldLink RX6 200 "StarterBay$Motor" "heatToStart" "I" ∈ wsL_law := bp_24 _ (List.mem_of_getElem? (i := 17) rfl)
theorem wd_24_18 : Cond.methodLink RL 48 yL_heatOf ∈ wsL_law := bp_24 _ (List.mem_of_getElem? (i := 18) rfl)
theorem wd_24_19 : Cond.static yL_heatOf ∈ wsL_law := bp_24 _ (List.mem_of_getElem? (i := 19) rfl)
theorem wd_24_20 : Cond.code yL_heatOf cL_heatOf 6 (some .int) ∈ wsL_law := bp_24 _ (List.mem_of_getElem? (i := 20) rfl)
theorem wd_24_21 : Cond.methodLink RL 33 yL_peak ∈ wsL_law := bp_24 _ (List.mem_of_getElem? (i := 21) rfl)
theorem wd_24_22 : Cond.static yL_peak ∈ wsL_law := bp_24 _ (List.mem_of_getElem? (i := 22) rfl)
theorem wd_24_23 : Cond.code yL_peak cL_peak 2 (some .int) ∈ wsL_law := bp_24 _ (List.mem_of_getElem? (i := 23) rfl)
theorem wd_25_0 : Cond.methodLink RL 54 yL_why ∈ wsL_law := bp_25 _ (List.mem_of_getElem? (i := 0) rfl)
theorem wd_25_1 : Cond.static yL_why ∈ wsL_law := bp_25 _ (List.mem_of_getElem? (i := 1) rfl)
theorem wd_25_2 : Cond.code yL_why cL_why 5 (some .int) ∈ wsL_law := bp_25 _ (List.mem_of_getElem? (i := 2) rfl)
theorem wd_25_3 : Cond.methodLink RL 57 yL_lines ∈ wsL_law := bp_25 _ (List.mem_of_getElem? (i := 3) rfl)
theorem wd_25_4 : Cond.static yL_lines ∈ wsL_law := bp_25 _ (List.mem_of_getElem? (i := 4) rfl)
theorem wd_25_5 : Cond.code yL_lines cL_lines 8 (some .boolean) ∈ wsL_law := bp_25 _ (List.mem_of_getElem? (i := 5) rfl)
theorem wd_25_6 : Cond.methodLink RL 45 yL_urgency ∈ wsL_law := bp_25 _ (List.mem_of_getElem? (i := 6) rfl)
theorem wd_25_7 : Cond.static yL_urgency ∈ wsL_law := bp_25 _ (List.mem_of_getElem? (i := 7) rfl)
theorem wd_25_8 : Cond.code yL_urgency cL_urgency 2 (some .int) ∈ wsL_law := bp_25 _ (List.mem_of_getElem? (i := 8) rfl)
abbrev wz_X0_init : List Cond := .code yX0_init cX0_init 1 none :: wsL_law
abbrev wz_X0_copyFrom : List Cond := .code yX0_copyFrom cX0_copyFrom 2 none :: wsL_law
abbrev wz_J9_floorMod_7cf53 : List Cond := .code yJ9_floorMod_7cf53 cJ9_floorMod_7cf53 3 (some .int) :: wsL_law
abbrev wz_X0_add : List Cond := .code yX0_add cX0_add 5 none :: wsL_law
abbrev wz_X0_tell : List Cond := .code yX0_tell cX0_tell 4 (some .int) :: wsL_law
abbrev wz_X2_init : List Cond := .code yX2_init cX2_init 2 none :: wsL_law
abbrev wz_X4_init : List Cond := .code yX4_init cX4_init 1 none :: wsL_law
abbrev wz_X3_init : List Cond := .code yX3_init cX3_init 2 none :: wsL_law
abbrev wz_X1_init : List Cond := .code yX1_init cX1_init 2 none :: wsL_law
abbrev wz_X1_dropOldest : List Cond := .code yX1_dropOldest cX1_dropOldest 3 none :: wsL_law
abbrev wz_X2_copyFrom : List Cond := .code yX2_copyFrom cX2_copyFrom 2 none :: wsL_law
abbrev wz_X4_copyFrom : List Cond := .code yX4_copyFrom cX4_copyFrom 2 none :: wsL_law
abbrev wz_X3_copyFrom : List Cond := .code yX3_copyFrom cX3_copyFrom 3 none :: wsL_law
abbrev wz_X1_record : List Cond := .code yX1_record cX1_record 2 none :: wsL_law
abbrev wz_X1_takeBack : List Cond := .code yX1_takeBack cX1_takeBack 2 (some .boolean) :: wsL_law
abbrev wz_X6_rampCurrent : List Cond := .code yX6_rampCurrent cX6_rampCurrent 3 (some .int) :: wsL_law
abbrev wz_X6_heatOf : List Cond := .code yX6_heatOf cX6_heatOf 1 (some .int) :: wsL_law
abbrev wz_X6_heatOfStart : List Cond := .code yX6_heatOfStart cX6_heatOfStart 4 (some .int) :: wsL_law
abbrev wz_X2_begin : List Cond := .code yX2_begin cX2_begin 6 none :: wsL_law
abbrev wz_X2_turns : List Cond := .code yX2_turns cX2_turns 1 (some .boolean) :: wsL_law
abbrev wz_X2_peak : List Cond := .code yX2_peak cX2_peak 1 (some .int) :: wsL_law
abbrev wz_X2_credit : List Cond := .code yX2_credit cX2_credit 1 (some .int) :: wsL_law
abbrev wz_X2_draw : List Cond := .code yX2_draw cX2_draw 1 (some .int) :: wsL_law
abbrev wz_X2_change : List Cond := .code yX2_change cX2_change 3 (some .int) :: wsL_law
abbrev wz_X2_trip : List Cond := .code yX2_trip cX2_trip 2 (some .int) :: wsL_law
abbrev wz_X2_countSecond : List Cond := .code yX2_countSecond cX2_countSecond 1 none :: wsL_law
abbrev wz_X6_givenOff : List Cond := .code yX6_givenOff cX6_givenOff 4 (some .int) :: wsL_law
abbrev wz_X2_exchangeHeat : List Cond := .code yX2_exchangeHeat cX2_exchangeHeat 4 none :: wsL_law
abbrev wz_X2_endSecond : List Cond := .code yX2_endSecond cX2_endSecond 1 (some .int) :: wsL_law
abbrev wz_X3_find : List Cond := .code yX3_find cX3_find 2 (some (.object "StarterBay$Motor")) :: wsL_law
abbrev wz_X3_note : List Cond := .code yX3_note cX3_note 3 none :: wsL_law
abbrev wz_X3_urgency : List Cond := .code yX3_urgency cX3_urgency 2 (some .int) :: wsL_law
abbrev wz_X3_isAhead : List Cond := .code yX3_isAhead cX3_isAhead 7 (some .boolean) :: wsL_law
abbrev wz_X3_takenCurrent : List Cond := .code yX3_takenCurrent cX3_takenCurrent 4 (some .int) :: wsL_law
abbrev wz_X3_reasonAgainst : List Cond := .code yX3_reasonAgainst cX3_reasonAgainst 2 (some .int) :: wsL_law
abbrev wz_X3_motorsInMode : List Cond := .code yX3_motorsInMode cX3_motorsInMode 4 (some .int) :: wsL_law
abbrev wz_X3_sumOfAccount : List Cond := .code yX3_sumOfAccount cX3_sumOfAccount 4 (some .int) :: wsL_law
abbrev wz_X3_sumOfHeat : List Cond := .code yX3_sumOfHeat cX3_sumOfHeat 3 (some .int) :: wsL_law
abbrev wz_X3_sumOfDraws : List Cond := .code yX3_sumOfDraws cX3_sumOfDraws 3 (some .int) :: wsL_law
abbrev wz_X4_empty : List Cond := .code yX4_empty cX4_empty 1 none :: wsL_law
abbrev wz_X4_add : List Cond := .code yX4_add cX4_add 5 none :: wsL_law
abbrev wz_X4_left : List Cond := .code yX4_left cX4_left 1 (some .int) :: wsL_law
abbrev wz_X5_init : List Cond := .code yX5_init cX5_init 1 none :: wsL_law
abbrev wz_X5_partEnd : List Cond := .code yX5_partEnd cX5_partEnd 2 (some .int) :: wsL_law
abbrev wz_X6_isOutside : List Cond := .code yX6_isOutside cX6_isOutside 3 (some .boolean) :: wsL_law
abbrev wz_X5_readTime : List Cond := .code yX5_readTime cX5_readTime 5 (some .boolean) :: wsL_law
abbrev wz_X5_readBlank : List Cond := .code yX5_readBlank cX5_readBlank 1 (some .boolean) :: wsL_law
abbrev wz_X5_wordOf : List Cond := .code yX5_wordOf cX5_wordOf 1 (some (.object "java/lang/String")) :: wsL_law
abbrev wz_J0_coder_7d493 : List Cond := .code yJ0_coder_7d493 cJ0_coder_7d493 1 (some .byte) :: wsL_law
abbrev wz_J0_length_8abf5 : List Cond := .code yJ0_length_8abf5 cJ0_length_8abf5 1 (some .int) :: wsL_law
abbrev wz_J0_isLatin1_aae02 : List Cond := .code yJ0_isLatin1_aae02 cJ0_isLatin1_aae02 1 (some .boolean) :: wsL_law
abbrev wz_J3_checkIndex_8e157 : List Cond := .code yJ3_checkIndex_8e157 cJ3_checkIndex_8e157 3 (some .int) :: wsL_law
abbrev wz_J0_checkIndex_df160 : List Cond := .code yJ0_checkIndex_df160 cJ0_checkIndex_df160 2 none :: wsL_law
abbrev wz_J1_charAt_3b067 : List Cond := .code yJ1_charAt_3b067 cJ1_charAt_3b067 2 (some .char) :: wsL_law
abbrev wz_J2_length_9d52b : List Cond := .code yJ2_length_9d52b cJ2_length_9d52b 1 (some .int) :: wsL_law
abbrev wz_J2_checkIndex_2214a : List Cond := .code yJ2_checkIndex_2214a cJ2_checkIndex_2214a 2 none :: wsL_law
abbrev wz_J2_getChar_3b067 : List Cond := .code yJ2_getChar_3b067 cJ2_getChar_3b067 2 (some .char) :: wsL_law
abbrev wz_J2_charAt_3b067 : List Cond := .code yJ2_charAt_3b067 cJ2_charAt_3b067 2 (some .char) :: wsL_law
abbrev wz_J0_charAt_5068e : List Cond := .code yJ0_charAt_5068e cJ0_charAt_5068e 2 (some .char) :: wsL_law
abbrev wz_X5_isPart : List Cond := .code yX5_isPart cX5_isPart 4 (some .boolean) :: wsL_law
abbrev wz_X5_readOrder : List Cond := .code yX5_readOrder cX5_readOrder 3 (some .boolean) :: wsL_law
abbrev wz_X5_readDigit : List Cond := .code yX5_readDigit cX5_readDigit 4 (some .int) :: wsL_law
abbrev wz_X5_readNumbers : List Cond := .code yX5_readNumbers cX5_readNumbers 1 (some .boolean) :: wsL_law
abbrev wz_X5_readItem : List Cond := .code yX5_readItem cX5_readItem 1 (some .boolean) :: wsL_law
abbrev wz_X5_readInto : List Cond := .code yX5_readInto cX5_readInto 4 (some .boolean) :: wsL_law
abbrev wz_X6_init : List Cond := .code yX6_init cX6_init 1 none :: wsL_law
abbrev wz_X6_refuse : List Cond := .code yX6_refuse cX6_refuse 2 (some .int) :: wsL_law
abbrev wz_X6_addMotor : List Cond := .code yX6_addMotor cX6_addMotor 6 (some .int) :: wsL_law
abbrev wz_X6_setNeed : List Cond := .code yX6_setNeed cX6_setNeed 5 (some .int) :: wsL_law
abbrev wz_X6_setLimit : List Cond := .code yX6_setLimit cX6_setLimit 3 (some .int) :: wsL_law
abbrev wz_X6_checkLoss : List Cond := .code yX6_checkLoss cX6_checkLoss 3 (some .int) :: wsL_law
abbrev wz_X6_checkReset : List Cond := .code yX6_checkReset cX6_checkReset 2 (some .int) :: wsL_law
abbrev wz_X6_checkOrder : List Cond := .code yX6_checkOrder cX6_checkOrder 5 (some .int) :: wsL_law
abbrev wz_X6_carryOutLoss : List Cond := .code yX6_carryOutLoss cX6_carryOutLoss 4 (some .int) :: wsL_law
abbrev wz_X6_carryOut : List Cond := .code yX6_carryOut cX6_carryOut 5 (some .int) :: wsL_law
abbrev wz_X6_callOrder : List Cond := .code yX6_callOrder cX6_callOrder 5 (some .int) :: wsL_law
abbrev wz_X6_setFan : List Cond := .code yX6_setFan cX6_setFan 2 (some .int) :: wsL_law
abbrev wz_X6_fillLine : List Cond := .code yX6_fillLine cX6_fillLine 4 (some .int) :: wsL_law
abbrev wz_X6_placeInLine : List Cond := .code yX6_placeInLine cX6_placeInLine 4 (some .int) :: wsL_law
abbrev wz_X6_request : List Cond := .code yX6_request cX6_request 3 (some .int) :: wsL_law
abbrev wz_X6_stop : List Cond := .code yX6_stop cX6_stop 2 (some .int) :: wsL_law
abbrev wz_X6_losePhases : List Cond := .code yX6_losePhases cX6_losePhases 3 (some .int) :: wsL_law
abbrev wz_X6_reset : List Cond := .code yX6_reset cX6_reset 2 (some .int) :: wsL_law
abbrev wz_X6_carryOutItem : List Cond := .code yX6_carryOutItem cX6_carryOutItem 5 none :: wsL_law
abbrev wz_X6_carryOutDueItems : List Cond := .code yX6_carryOutDueItems cX6_carryOutDueItems 3 none :: wsL_law
abbrev wz_X6_passOver : List Cond := .code yX6_passOver cX6_passOver 3 none :: wsL_law
abbrev wz_X6_startFirstThatCan : List Cond := .code yX6_startFirstThatCan cX6_startFirstThatCan 4 (some .boolean) :: wsL_law
abbrev wz_X6_heatMotors : List Cond := .code yX6_heatMotors cX6_heatMotors 3 none :: wsL_law
abbrev wz_X6_pass : List Cond := .code yX6_pass cX6_pass 4 (some .int) :: wsL_law
abbrev wz_X6_readTimetable : List Cond := .code yX6_readTimetable cX6_readTimetable 1 (some .int) :: wsL_law
abbrev wz_X6_undo : List Cond := .code yX6_undo cX6_undo 1 (some .int) :: wsL_law
abbrev wz_X6_keep : List Cond := .code yX6_keep cX6_keep 1 (some .int) :: wsL_law
abbrev wz_X6_restore : List Cond := .code yX6_restore cX6_restore 1 (some .int) :: wsL_law
abbrev wz_X6_motor : List Cond := .code yX6_motor cX6_motor 4 (some .int) :: wsL_law
abbrev wz_X6_account : List Cond := .code yX6_account cX6_account 4 (some .int) :: wsL_law
abbrev wz_X6_queue : List Cond := .code yX6_queue cX6_queue 3 (some .int) :: wsL_law
abbrev wz_X6_whyNot : List Cond := .code yX6_whyNot cX6_whyNot 3 (some .int) :: wsL_law
abbrev wz_X6_event : List Cond := .code yX6_event cX6_event 3 (some .int) :: wsL_law
abbrev wz_X6_startHeat : List Cond := .code yX6_startHeat cX6_startHeat 3 (some .int) :: wsL_law
abbrev wz_X6_count : List Cond := .code yX6_count cX6_count 2 (some .int) :: wsL_law
abbrev wz_J9_max_7cf53 : List Cond := .code yJ9_max_7cf53 cJ9_max_7cf53 2 (some .int) :: wsL_law
abbrev wz_J9_min_7cf53 : List Cond := .code yJ9_min_7cf53 cJ9_min_7cf53 2 (some .int) :: wsL_law
abbrev wz_L_cell : List Cond := .code yL_cell cL_cell 2 (some .int) :: wsL_law
abbrev wz_L_low : List Cond := .code yL_low cL_low 2 (some .int) :: wsL_law
abbrev wz_L_digest : List Cond := .code yL_digest cL_digest 5 (some .long) :: wsL_law
abbrev wz_L_peak : List Cond := .code yL_peak cL_peak 2 (some .int) :: wsL_law
abbrev wz_L_heatOf : List Cond := .code yL_heatOf cL_heatOf 6 (some .int) :: wsL_law
abbrev wz_L_why : List Cond := .code yL_why cL_why 5 (some .int) :: wsL_law
abbrev wz_L_urgency : List Cond := .code yL_urgency cL_urgency 2 (some .int) :: wsL_law
abbrev wz_L_lines : List Cond := .code yL_lines cL_lines 8 (some .boolean) :: wsL_law
abbrev wz_L_sound : List Cond := .code yL_sound cL_sound 8 (some .boolean) :: wsL_law
abbrev wz_L_passedOver : List Cond := .code yL_passedOver cL_passedOver 3 (some .int) :: wsL_law
abbrev wz_L_second : List Cond := .code yL_second cL_second 8 (some .boolean) :: wsL_law
abbrev wz_L_parts : List Cond := .code yL_parts cL_parts 8 (some .boolean) :: wsL_law
abbrev wz_L_orders : List Cond := .code yL_orders cL_orders 9 (some .boolean) :: wsL_law
abbrev wz_L_sets : List Cond := .code yL_sets cL_sets 6 (some .boolean) :: wsL_law

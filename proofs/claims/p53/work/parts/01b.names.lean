/-! ===== BEGIN printed: names, fields, word lists, decode rows ===== -/
def RX0 : String := "GrandsireLoft$Belfry"
def TX0 : u_T := fun k => match k with
  | _ => ("GrandsireLoft$Belfry", "bells", "[LGrandsireLoft$Bell;", true)
def tyX0 : Nat → FieldType := fun k => match k with
  | _ => .array (.object "GrandsireLoft$Bell")
abbrev wsX00 : List Cond := u_ws RX0 TX0 1
theorem nmX0 : ∀ a, a < 1 → ∀ b, b < 1 → a ≠ b → (TX0 a).2.1 ≠ (TX0 b).2.1 := by decide +kernel
theorem tyX0_ok : ∀ k, k < 1 → parseFieldDescriptor (TX0 k).2.2.1 = some (tyX0 k) := by decide +kernel
abbrev cX0_init : ByteArray := prog_2_method_1_code
def yX0_init : MethodName := ⟨RX0, "<init>", "()V"⟩
abbrev cX0_bellsOut : ByteArray := prog_2_method_2_code
def yX0_bellsOut : MethodName := ⟨RX0, "bellsOut", "()I"⟩
abbrev cX0_noteWornOut : ByteArray := prog_2_method_3_code
def yX0_noteWornOut : MethodName := ⟨RX0, "noteWornOut", "()Z"⟩
abbrev cX0_forgetPulls : ByteArray := prog_2_method_4_code
def yX0_forgetPulls : MethodName := ⟨RX0, "forgetPulls", "()V"⟩
def RX1 : String := "GrandsireLoft$Bell"
def TX1 : u_T := fun k => match k with
  | 0 => ("GrandsireLoft$Bell", "takenOut", "Z", false)
  | 1 => ("GrandsireLoft$Bell", "latePulls", "I", false)
  | 2 => ("GrandsireLoft$Bell", "earlyPulls", "I", false)
  | 3 => ("GrandsireLoft$Bell", "errorSum", "I", false)
  | 4 => ("GrandsireLoft$Bell", "pulls", "I", false)
  | 5 => ("GrandsireLoft$Bell", "wearOf", "[I", true)
  | 6 => ("GrandsireLoft$Bell", "wornOut", "[Z", true)
  | _ => ("GrandsireLoft$Bell", "pullTimes", "[I", true)
def tyX1 : Nat → FieldType := fun k => match k with
  | 0 => .boolean
  | 1 => .int
  | 2 => .int
  | 3 => .int
  | 4 => .int
  | 5 => .array .int
  | 6 => .array .boolean
  | _ => .array .int
abbrev wsX10 : List Cond := u_ws RX1 TX1 8
theorem nmX1 : ∀ a, a < 8 → ∀ b, b < 8 → a ≠ b → (TX1 a).2.1 ≠ (TX1 b).2.1 := by decide +kernel
theorem tyX1_ok : ∀ k, k < 8 → parseFieldDescriptor (TX1 k).2.2.1 = some (tyX1 k) := by decide +kernel
abbrev cX1_init : ByteArray := prog_3_method_1_code
def yX1_init : MethodName := ⟨RX1, "<init>", "()V"⟩
abbrev cX1_isUsable : ByteArray := prog_3_method_2_code
def yX1_isUsable : MethodName := ⟨RX1, "isUsable", "()Z"⟩
abbrev cX1_renew : ByteArray := prog_3_method_3_code
def yX1_renew : MethodName := ⟨RX1, "renew", "(I)I"⟩
abbrev cX1_strike : ByteArray := prog_3_method_4_code
def yX1_strike : MethodName := ⟨RX1, "strike", "(I)V"⟩
abbrev cX1_noteWornOut : ByteArray := prog_3_method_5_code
def yX1_noteWornOut : MethodName := ⟨RX1, "noteWornOut", "()Z"⟩
abbrev cX1_hearPull : ByteArray := prog_3_method_6_code
def yX1_hearPull : MethodName := ⟨RX1, "hearPull", "(I)V"⟩
abbrev cX1_pullTime : ByteArray := prog_3_method_7_code
def yX1_pullTime : MethodName := ⟨RX1, "pullTime", "(I)I"⟩
abbrev cX1_hasRoomForError : ByteArray := prog_3_method_8_code
def yX1_hasRoomForError : MethodName := ⟨RX1, "hasRoomForError", "(I)Z"⟩
abbrev cX1_noteError : ByteArray := prog_3_method_9_code
def yX1_noteError : MethodName := ⟨RX1, "noteError", "(II)V"⟩
def RX2 : String := "GrandsireLoft$Composer"
def TX2 : u_T := fun k => match k with
  | 0 => ("GrandsireLoft$Composer", "prover", "LGrandsireLoft$Prover;", true)
  | _ => ("GrandsireLoft$Composer", "trial", "LGrandsireLoft$Touch;", false)
def tyX2 : Nat → FieldType := fun k => match k with
  | 0 => .object "GrandsireLoft$Prover"
  | _ => .object "GrandsireLoft$Touch"
abbrev wsX20 : List Cond := u_ws RX2 TX2 2
theorem nmX2 : ∀ a, a < 2 → ∀ b, b < 2 → a ≠ b → (TX2 a).2.1 ≠ (TX2 b).2.1 := by decide +kernel
theorem tyX2_ok : ∀ k, k < 2 → parseFieldDescriptor (TX2 k).2.2.1 = some (tyX2 k) := by decide +kernel
abbrev cX2_init : ByteArray := prog_4_method_1_code
def yX2_init : MethodName := ⟨RX2, "<init>", "(LGrandsireLoft$Prover;)V"⟩
abbrev cX2_soundTouch : ByteArray := prog_4_method_2_code
def yX2_soundTouch : MethodName := ⟨RX2, "soundTouch", "(LGrandsireLoft$Method;I)LGrandsireLoft$Touch;"⟩
abbrev cX2_handOutTrial : ByteArray := prog_4_method_3_code
def yX2_handOutTrial : MethodName := ⟨RX2, "handOutTrial", "()LGrandsireLoft$Touch;"⟩
abbrev cX2_callNext : ByteArray := prog_4_method_4_code
def yX2_callNext : MethodName := ⟨RX2, "callNext", "(LGrandsireLoft$Method;I)I"⟩
def RX3 : String := "GrandsireLoft$Day"
def TX3 : u_T := fun k => match k with
  | _ => ("GrandsireLoft$Day", "touchesInOrder", "Ljava/util/ArrayList;", true)
def tyX3 : Nat → FieldType := fun k => match k with
  | _ => .object "java/util/ArrayList"
abbrev wsX30 : List Cond := u_ws RX3 TX3 1
theorem nmX3 : ∀ a, a < 1 → ∀ b, b < 1 → a ≠ b → (TX3 a).2.1 ≠ (TX3 b).2.1 := by decide +kernel
theorem tyX3_ok : ∀ k, k < 1 → parseFieldDescriptor (TX3 k).2.2.1 = some (tyX3 k) := by decide +kernel
abbrev cX3_init : ByteArray := prog_5_method_1_code
def yX3_init : MethodName := ⟨RX3, "<init>", "()V"⟩
abbrev cX3_hasTouch : ByteArray := prog_5_method_2_code
def yX3_hasTouch : MethodName := ⟨RX3, "hasTouch", "(LGrandsireLoft$Touch;)Z"⟩
abbrev cX3_takesTouch : ByteArray := prog_5_method_3_code
def yX3_takesTouch : MethodName := ⟨RX3, "takesTouch", "(LGrandsireLoft$Touch;)Z"⟩
abbrev cX3_greatestStage : ByteArray := prog_5_method_4_code
def yX3_greatestStage : MethodName := ⟨RX3, "greatestStage", "()I"⟩
abbrev cX3_takeAway : ByteArray := prog_5_method_5_code
def yX3_takeAway : MethodName := ⟨RX3, "takeAway", "(LGrandsireLoft$Touch;)V"⟩
abbrev cX3_dropUnfit : ByteArray := prog_5_method_6_code
def yX3_dropUnfit : MethodName := ⟨RX3, "dropUnfit", "(I)I"⟩
def RX4 : String := "GrandsireLoft$Method"
def TX4 : u_T := fun k => match k with
  | 0 => ("GrandsireLoft$Method", "number", "I", true)
  | 1 => ("GrandsireLoft$Method", "stage", "I", true)
  | 2 => ("GrandsireLoft$Method", "length", "I", true)
  | 3 => ("GrandsireLoft$Method", "falseCount", "I", false)
  | 4 => ("GrandsireLoft$Method", "changes", "[I", true)
  | 5 => ("GrandsireLoft$Method", "lastChanges", "[I", true)
  | _ => ("GrandsireLoft$Method", "falseNumbers", "[I", true)
def tyX4 : Nat → FieldType := fun k => match k with
  | 0 => .int
  | 1 => .int
  | 2 => .int
  | 3 => .int
  | 4 => .array .int
  | 5 => .array .int
  | _ => .array .int
abbrev wsX40 : List Cond := u_ws RX4 TX4 7
theorem nmX4 : ∀ a, a < 7 → ∀ b, b < 7 → a ≠ b → (TX4 a).2.1 ≠ (TX4 b).2.1 := by decide +kernel
theorem tyX4_ok : ∀ k, k < 7 → parseFieldDescriptor (TX4 k).2.2.1 = some (tyX4 k) := by decide +kernel
abbrev cX4_init : ByteArray := prog_6_method_1_code
def yX4_init : MethodName := ⟨RX4, "<init>", "(II[II)V"⟩
abbrev cX4_changeOf : ByteArray := prog_6_method_2_code
def yX4_changeOf : MethodName := ⟨RX4, "changeOf", "(II)I"⟩
abbrev cX4_setLastChange : ByteArray := prog_6_method_3_code
def yX4_setLastChange : MethodName := ⟨RX4, "setLastChange", "(II)V"⟩
abbrev cX4_lastRow : ByteArray := prog_6_method_4_code
def yX4_lastRow : MethodName := ⟨RX4, "lastRow", "(II)I"⟩
abbrev cX4_leadsToRounds : ByteArray := prog_6_method_5_code
def yX4_leadsToRounds : MethodName := ⟨RX4, "leadsToRounds", "()I"⟩
abbrev cX4_nextUnlikeCall : ByteArray := prog_6_method_6_code
def yX4_nextUnlikeCall : MethodName := ⟨RX4, "nextUnlikeCall", "(I)I"⟩
abbrev cX4_isLikeLesserCall : ByteArray := prog_6_method_7_code
def yX4_isLikeLesserCall : MethodName := ⟨RX4, "isLikeLesserCall", "(I)Z"⟩
abbrev cX4_hasFalse : ByteArray := prog_6_method_8_code
def yX4_hasFalse : MethodName := ⟨RX4, "hasFalse", "(I)Z"⟩
abbrev cX4_gatherFalseRows : ByteArray := prog_6_method_9_code
def yX4_gatherFalseRows : MethodName := ⟨RX4, "gatherFalseRows", "()V"⟩
abbrev cX4_noteFalse : ByteArray := prog_6_method_10_code
def yX4_noteFalse : MethodName := ⟨RX4, "noteFalse", "(I)V"⟩
def RX5 : String := "GrandsireLoft$Prover"
def TX5 : u_T := fun k => match k with
  | _ => ("GrandsireLoft$Prover", "firstAt", "[I", true)
def tyX5 : Nat → FieldType := fun k => match k with
  | _ => .array .int
abbrev wsX50 : List Cond := u_ws RX5 TX5 1
theorem nmX5 : ∀ a, a < 1 → ∀ b, b < 1 → a ≠ b → (TX5 a).2.1 ≠ (TX5 b).2.1 := by decide +kernel
theorem tyX5_ok : ∀ k, k < 1 → parseFieldDescriptor (TX5 k).2.2.1 = some (tyX5 k) := by decide +kernel
abbrev cX5_init : ByteArray := prog_7_method_1_code
def yX5_init : MethodName := ⟨RX5, "<init>", "()V"⟩
abbrev cX5_isRepeat : ByteArray := prog_7_method_2_code
def yX5_isRepeat : MethodName := ⟨RX5, "isRepeat", "([III)Z"⟩
def RX6 : String := "GrandsireLoft$Ringing"
def TX6 : u_T := fun k => match k with
  | 0 => ("GrandsireLoft$Ringing", "touch", "LGrandsireLoft$Touch;", true)
  | 1 => ("GrandsireLoft$Ringing", "doneRows", "I", false)
  | 2 => ("GrandsireLoft$Ringing", "waited", "I", false)
  | 3 => ("GrandsireLoft$Ringing", "bells", "[LGrandsireLoft$Bell;", true)
  | 4 => ("GrandsireLoft$Ringing", "people", "I", true)
  | _ => ("GrandsireLoft$Ringing", "gap", "I", true)
def tyX6 : Nat → FieldType := fun k => match k with
  | 0 => .object "GrandsireLoft$Touch"
  | 1 => .int
  | 2 => .int
  | 3 => .array (.object "GrandsireLoft$Bell")
  | 4 => .int
  | _ => .int
abbrev wsX60 : List Cond := u_ws RX6 TX6 6
theorem nmX6 : ∀ a, a < 6 → ∀ b, b < 6 → a ≠ b → (TX6 a).2.1 ≠ (TX6 b).2.1 := by decide +kernel
theorem tyX6_ok : ∀ k, k < 6 → parseFieldDescriptor (TX6 k).2.2.1 = some (tyX6 k) := by decide +kernel
abbrev cX6_init : ByteArray := prog_8_method_1_code
def yX6_init : MethodName := ⟨RX6, "<init>", "(LGrandsireLoft$Touch;[LGrandsireLoft$Bell;II)V"⟩
abbrev cX6_isByPeople : ByteArray := prog_8_method_2_code
def yX6_isByPeople : MethodName := ⟨RX6, "isByPeople", "(I)Z"⟩
abbrev cX6_quarterGap : ByteArray := prog_8_method_3_code
def yX6_quarterGap : MethodName := ⟨RX6, "quarterGap", "()I"⟩
abbrev cX6_awaitsPull : ByteArray := prog_8_method_4_code
def yX6_awaitsPull : MethodName := ⟨RX6, "awaitsPull", "(I)Z"⟩
abbrev cX6_nextDue : ByteArray := prog_8_method_5_code
def yX6_nextDue : MethodName := ⟨RX6, "nextDue", "(I)I"⟩
abbrev cX6_dueAt : ByteArray := prog_8_method_6_code
def yX6_dueAt : MethodName := ⟨RX6, "dueAt", "(II)I"⟩
abbrev cX6_canWait : ByteArray := prog_8_method_7_code
def yX6_canWait : MethodName := ⟨RX6, "canWait", "(II)Z"⟩
abbrev cX6_waitFor : ByteArray := prog_8_method_8_code
def yX6_waitFor : MethodName := ⟨RX6, "waitFor", "(II)V"⟩
abbrev cX6_areAllRowsDone : ByteArray := prog_8_method_9_code
def yX6_areAllRowsDone : MethodName := ⟨RX6, "areAllRowsDone", "()Z"⟩
abbrev cX6_isNextRowReady : ByteArray := prog_8_method_10_code
def yX6_isNextRowReady : MethodName := ⟨RX6, "isNextRowReady", "()Z"⟩
abbrev cX6_doNextRow : ByteArray := prog_8_method_11_code
def yX6_doNextRow : MethodName := ⟨RX6, "doNextRow", "()Z"⟩
abbrev cX6_timeOfBlow : ByteArray := prog_8_method_12_code
def yX6_timeOfBlow : MethodName := ⟨RX6, "timeOfBlow", "(I)I"⟩
def RX7 : String := "GrandsireLoft$Rota"
def TX7 : u_T := fun k => match k with
  | 0 => ("GrandsireLoft$Rota", "sizes", "[I", true)
  | 1 => ("GrandsireLoft$Rota", "days", "[LGrandsireLoft$Day;", true)
  | 2 => ("GrandsireLoft$Rota", "thisDay", "I", false)
  | 3 => ("GrandsireLoft$Rota", "droppedCount", "I", false)
  | 4 => ("GrandsireLoft$Rota", "turn", "I", false)
  | _ => ("GrandsireLoft$Rota", "keptBand", "I", false)
def tyX7 : Nat → FieldType := fun k => match k with
  | 0 => .array .int
  | 1 => .array (.object "GrandsireLoft$Day")
  | 2 => .int
  | 3 => .int
  | 4 => .int
  | _ => .int
abbrev wsX70 : List Cond := u_ws RX7 TX7 6
theorem nmX7 : ∀ a, a < 6 → ∀ b, b < 6 → a ≠ b → (TX7 a).2.1 ≠ (TX7 b).2.1 := by decide +kernel
theorem tyX7_ok : ∀ k, k < 6 → parseFieldDescriptor (TX7 k).2.2.1 = some (tyX7 k) := by decide +kernel
abbrev cX7_init : ByteArray := prog_9_method_1_code
def yX7_init : MethodName := ⟨RX7, "<init>", "()V"⟩
abbrev cX7_bandFor : ByteArray := prog_9_method_2_code
def yX7_bandFor : MethodName := ⟨RX7, "bandFor", "(I)I"⟩
abbrev cX7_firstBand : ByteArray := prog_9_method_3_code
def yX7_firstBand : MethodName := ⟨RX7, "firstBand", "(II)I"⟩
abbrev cX7_turnBehind : ByteArray := prog_9_method_4_code
def yX7_turnBehind : MethodName := ⟨RX7, "turnBehind", "(II)I"⟩
abbrev cX7_canRingToday : ByteArray := prog_9_method_5_code
def yX7_canRingToday : MethodName := ⟨RX7, "canRingToday", "(LGrandsireLoft$Touch;)Z"⟩
abbrev cX7_keepBandOfToday : ByteArray := prog_9_method_6_code
def yX7_keepBandOfToday : MethodName := ⟨RX7, "keepBandOfToday", "()V"⟩
abbrev cX7_endDay : ByteArray := prog_9_method_7_code
def yX7_endDay : MethodName := ⟨RX7, "endDay", "()V"⟩
abbrev cX7_takeFromToday : ByteArray := prog_9_method_8_code
def yX7_takeFromToday : MethodName := ⟨RX7, "takeFromToday", "(LGrandsireLoft$Touch;)V"⟩
abbrev cX7_dropUnfit : ByteArray := prog_9_method_9_code
def yX7_dropUnfit : MethodName := ⟨RX7, "dropUnfit", "(I)I"⟩
def RX8 : String := "GrandsireLoft$Rows"
def TX8 : u_T := fun k => match k with
  | _ => ("", "", "", false)
def tyX8 : Nat → FieldType := fun k => match k with
  | _ => .int
abbrev wsX80 : List Cond := u_ws RX8 TX8 0
theorem nmX8 : ∀ a, a < 0 → ∀ b, b < 0 → a ≠ b → (TX8 a).2.1 ≠ (TX8 b).2.1 := by decide +kernel
theorem tyX8_ok : ∀ k, k < 0 → parseFieldDescriptor (TX8 k).2.2.1 = some (tyX8 k) := by decide +kernel
abbrev cX8_rounds : ByteArray := prog_10_method_2_code
def yX8_rounds : MethodName := ⟨RX8, "rounds", "(I)I"⟩
abbrev cX8_count : ByteArray := prog_10_method_3_code
def yX8_count : MethodName := ⟨RX8, "count", "(I)I"⟩
abbrev cX8_bellIn : ByteArray := prog_10_method_4_code
def yX8_bellIn : MethodName := ⟨RX8, "bellIn", "(II)I"⟩
abbrev cX8_placeOf : ByteArray := prog_10_method_5_code
def yX8_placeOf : MethodName := ⟨RX8, "placeOf", "(III)I"⟩
abbrev cX8_number : ByteArray := prog_10_method_6_code
def yX8_number : MethodName := ⟨RX8, "number", "(II)I"⟩
abbrev cX8_isMade : ByteArray := prog_10_method_7_code
def yX8_isMade : MethodName := ⟨RX8, "isMade", "(II)Z"⟩
abbrev cX8_isChange : ByteArray := prog_10_method_8_code
def yX8_isChange : MethodName := ⟨RX8, "isChange", "(II)Z"⟩
abbrev cX8_afterChange : ByteArray := prog_10_method_9_code
def yX8_afterChange : MethodName := ⟨RX8, "afterChange", "(III)I"⟩
abbrev cX8_swapped : ByteArray := prog_10_method_10_code
def yX8_swapped : MethodName := ⟨RX8, "swapped", "(II)I"⟩
abbrev cX8_originOf : ByteArray := prog_10_method_11_code
def yX8_originOf : MethodName := ⟨RX8, "originOf", "(III)I"⟩
def RX9 : String := "GrandsireLoft$Touch"
def TX9 : u_T := fun k => match k with
  | 0 => ("GrandsireLoft$Touch", "number", "I", false)
  | 1 => ("GrandsireLoft$Touch", "stage", "I", false)
  | 2 => ("GrandsireLoft$Touch", "rowCount", "I", false)
  | 3 => ("GrandsireLoft$Touch", "repeat", "I", false)
  | 4 => ("GrandsireLoft$Touch", "repeatLead", "I", false)
  | 5 => ("GrandsireLoft$Touch", "endsInRounds", "Z", false)
  | 6 => ("GrandsireLoft$Touch", "leadMethods", "Ljava/util/ArrayList;", true)
  | 7 => ("GrandsireLoft$Touch", "leadCalls", "[I", true)
  | _ => ("GrandsireLoft$Touch", "keptRows", "[I", true)
def tyX9 : Nat → FieldType := fun k => match k with
  | 0 => .int
  | 1 => .int
  | 2 => .int
  | 3 => .int
  | 4 => .int
  | 5 => .boolean
  | 6 => .object "java/util/ArrayList"
  | 7 => .array .int
  | _ => .array .int
abbrev wsX90 : List Cond := u_ws RX9 TX9 9
theorem nmX9 : ∀ a, a < 9 → ∀ b, b < 9 → a ≠ b → (TX9 a).2.1 ≠ (TX9 b).2.1 := by decide +kernel
theorem tyX9_ok : ∀ k, k < 9 → parseFieldDescriptor (TX9 k).2.2.1 = some (tyX9 k) := by decide +kernel
abbrev cX9_init : ByteArray := prog_11_method_1_code
def yX9_init : MethodName := ⟨RX9, "<init>", "()V"⟩
abbrev cX9_leadCount : ByteArray := prog_11_method_2_code
def yX9_leadCount : MethodName := ⟨RX9, "leadCount", "()I"⟩
abbrev cX9_takesLead : ByteArray := prog_11_method_3_code
def yX9_takesLead : MethodName := ⟨RX9, "takesLead", "(LGrandsireLoft$Method;)Z"⟩
abbrev cX9_addLead : ByteArray := prog_11_method_4_code
def yX9_addLead : MethodName := ⟨RX9, "addLead", "(LGrandsireLoft$Method;I)V"⟩
abbrev cX9_clear : ByteArray := prog_11_method_5_code
def yX9_clear : MethodName := ⟨RX9, "clear", "()V"⟩
abbrev cX9_writeFrom : ByteArray := prog_11_method_6_code
def yX9_writeFrom : MethodName := ⟨RX9, "writeFrom", "(ILGrandsireLoft$Prover;)V"⟩
abbrev cX9_writeLead : ByteArray := prog_11_method_7_code
def yX9_writeLead : MethodName := ⟨RX9, "writeLead", "(ILGrandsireLoft$Prover;)V"⟩
abbrev cX9_lastRow : ByteArray := prog_11_method_8_code
def yX9_lastRow : MethodName := ⟨RX9, "lastRow", "()I"⟩
abbrev cX9_rowAnew : ByteArray := prog_11_method_9_code
def yX9_rowAnew : MethodName := ⟨RX9, "rowAnew", "(I)I"⟩
abbrev cX9_isSound : ByteArray := prog_11_method_10_code
def yX9_isSound : MethodName := ⟨RX9, "isSound", "()Z"⟩
abbrev cX9_isFit : ByteArray := prog_11_method_11_code
def yX9_isFit : MethodName := ⟨RX9, "isFit", "(I)Z"⟩
def RX10 : String := "GrandsireLoft"
def TX10 : u_T := fun k => match k with
  | 0 => ("GrandsireLoft", "methodList", "Ljava/util/ArrayList;", true)
  | 1 => ("GrandsireLoft", "changeDraft", "[I", true)
  | 2 => ("GrandsireLoft", "changeCount", "I", false)
  | 3 => ("GrandsireLoft", "touchList", "Ljava/util/ArrayList;", true)
  | 4 => ("GrandsireLoft", "prover", "LGrandsireLoft$Prover;", true)
  | 5 => ("GrandsireLoft", "composer", "LGrandsireLoft$Composer;", true)
  | 6 => ("GrandsireLoft", "leadDraft", "LGrandsireLoft$Touch;", false)
  | 7 => ("GrandsireLoft", "belfry", "LGrandsireLoft$Belfry;", true)
  | 8 => ("GrandsireLoft", "bandRota", "LGrandsireLoft$Rota;", true)
  | 9 => ("GrandsireLoft", "ringing", "LGrandsireLoft$Ringing;", false)
  | 10 => ("GrandsireLoft", "patienceNow", "I", false)
  | 11 => ("GrandsireLoft", "wrongRows", "I", false)
  | 12 => ("GrandsireLoft", "rungCount", "I", false)
  | _ => ("GrandsireLoft", "latestTouch", "I", false)
def tyX10 : Nat → FieldType := fun k => match k with
  | 0 => .object "java/util/ArrayList"
  | 1 => .array .int
  | 2 => .int
  | 3 => .object "java/util/ArrayList"
  | 4 => .object "GrandsireLoft$Prover"
  | 5 => .object "GrandsireLoft$Composer"
  | 6 => .object "GrandsireLoft$Touch"
  | 7 => .object "GrandsireLoft$Belfry"
  | 8 => .object "GrandsireLoft$Rota"
  | 9 => .object "GrandsireLoft$Ringing"
  | 10 => .int
  | 11 => .int
  | 12 => .int
  | _ => .int
abbrev wsX100 : List Cond := u_ws RX10 TX10 14
theorem nmX10 : ∀ a, a < 14 → ∀ b, b < 14 → a ≠ b → (TX10 a).2.1 ≠ (TX10 b).2.1 := by decide +kernel
theorem tyX10_ok : ∀ k, k < 14 → parseFieldDescriptor (TX10 k).2.2.1 = some (tyX10 k) := by decide +kernel
abbrev cX10_init : ByteArray := prog_1_method_1_code
def yX10_init : MethodName := ⟨RX10, "<init>", "()V"⟩
abbrev cX10_change : ByteArray := prog_1_method_2_code
def yX10_change : MethodName := ⟨RX10, "change", "(I)I"⟩
abbrev cX10_dropChanges : ByteArray := prog_1_method_3_code
def yX10_dropChanges : MethodName := ⟨RX10, "dropChanges", "()I"⟩
abbrev cX10_method : ByteArray := prog_1_method_4_code
def yX10_method : MethodName := ⟨RX10, "method", "(I)I"⟩
abbrev cX10_setCall : ByteArray := prog_1_method_5_code
def yX10_setCall : MethodName := ⟨RX10, "setCall", "(III)I"⟩
abbrev cX10_stage : ByteArray := prog_1_method_6_code
def yX10_stage : MethodName := ⟨RX10, "stage", "(I)I"⟩
abbrev cX10_changeAt : ByteArray := prog_1_method_7_code
def yX10_changeAt : MethodName := ⟨RX10, "changeAt", "(III)I"⟩
abbrev cX10_head : ByteArray := prog_1_method_8_code
def yX10_head : MethodName := ⟨RX10, "head", "(II)I"⟩
abbrev cX10_course : ByteArray := prog_1_method_9_code
def yX10_course : MethodName := ⟨RX10, "course", "(I)I"⟩
abbrev cX10_isFalse : ByteArray := prog_1_method_10_code
def yX10_isFalse : MethodName := ⟨RX10, "isFalse", "(II)Z"⟩
abbrev cX10_falseRows : ByteArray := prog_1_method_11_code
def yX10_falseRows : MethodName := ⟨RX10, "falseRows", "(I)I"⟩
abbrev cX10_lead : ByteArray := prog_1_method_12_code
def yX10_lead : MethodName := ⟨RX10, "lead", "(II)I"⟩
abbrev cX10_dropLeads : ByteArray := prog_1_method_13_code
def yX10_dropLeads : MethodName := ⟨RX10, "dropLeads", "()I"⟩
abbrev cX10_touch : ByteArray := prog_1_method_14_code
def yX10_touch : MethodName := ⟨RX10, "touch", "()I"⟩
abbrev cX10_compose : ByteArray := prog_1_method_15_code
def yX10_compose : MethodName := ⟨RX10, "compose", "(II)I"⟩
abbrev cX10_touches : ByteArray := prog_1_method_16_code
def yX10_touches : MethodName := ⟨RX10, "touches", "()I"⟩
abbrev cX10_leads : ByteArray := prog_1_method_17_code
def yX10_leads : MethodName := ⟨RX10, "leads", "(I)I"⟩
abbrev cX10_leadAt : ByteArray := prog_1_method_18_code
def yX10_leadAt : MethodName := ⟨RX10, "leadAt", "(II)I"⟩
abbrev cX10_rows : ByteArray := prog_1_method_19_code
def yX10_rows : MethodName := ⟨RX10, "rows", "(I)I"⟩
abbrev cX10_rowAt : ByteArray := prog_1_method_20_code
def yX10_rowAt : MethodName := ⟨RX10, "rowAt", "(II)I"⟩
abbrev cX10_bellAt : ByteArray := prog_1_method_21_code
def yX10_bellAt : MethodName := ⟨RX10, "bellAt", "(III)I"⟩
abbrev cX10_isTrue : ByteArray := prog_1_method_22_code
def yX10_isTrue : MethodName := ⟨RX10, "isTrue", "(I)Z"⟩
abbrev cX10_comesRound : ByteArray := prog_1_method_23_code
def yX10_comesRound : MethodName := ⟨RX10, "comesRound", "(I)Z"⟩
abbrev cX10_firstRepeat : ByteArray := prog_1_method_24_code
def yX10_firstRepeat : MethodName := ⟨RX10, "firstRepeat", "(I)I"⟩
abbrev cX10_takeOut : ByteArray := prog_1_method_25_code
def yX10_takeOut : MethodName := ⟨RX10, "takeOut", "(I)I"⟩
abbrev cX10_bringIn : ByteArray := prog_1_method_26_code
def yX10_bringIn : MethodName := ⟨RX10, "bringIn", "(I)Z"⟩
abbrev cX10_mend : ByteArray := prog_1_method_27_code
def yX10_mend : MethodName := ⟨RX10, "mend", "(II)I"⟩
abbrev cX10_wear : ByteArray := prog_1_method_28_code
def yX10_wear : MethodName := ⟨RX10, "wear", "(II)I"⟩
abbrev cX10_isIn : ByteArray := prog_1_method_29_code
def yX10_isIn : MethodName := ⟨RX10, "isIn", "(I)Z"⟩
abbrev cX10_setBand : ByteArray := prog_1_method_30_code
def yX10_setBand : MethodName := ⟨RX10, "setBand", "(II)I"⟩
abbrev cX10_plan : ByteArray := prog_1_method_31_code
def yX10_plan : MethodName := ⟨RX10, "plan", "(II)I"⟩
abbrev cX10_planned : ByteArray := prog_1_method_32_code
def yX10_planned : MethodName := ⟨RX10, "planned", "(I)I"⟩
abbrev cX10_plannedAt : ByteArray := prog_1_method_33_code
def yX10_plannedAt : MethodName := ⟨RX10, "plannedAt", "(II)I"⟩
abbrev cX10_rota : ByteArray := prog_1_method_34_code
def yX10_rota : MethodName := ⟨RX10, "rota", "(I)I"⟩
abbrev cX10_pass : ByteArray := prog_1_method_35_code
def yX10_pass : MethodName := ⟨RX10, "pass", "()I"⟩
abbrev cX10_today : ByteArray := prog_1_method_36_code
def yX10_today : MethodName := ⟨RX10, "today", "()I"⟩
abbrev cX10_dropped : ByteArray := prog_1_method_37_code
def yX10_dropped : MethodName := ⟨RX10, "dropped", "()I"⟩
abbrev cX10_ring : ByteArray := prog_1_method_38_code
def yX10_ring : MethodName := ⟨RX10, "ring", "(III)I"⟩
abbrev cX10_stand : ByteArray := prog_1_method_39_code
def yX10_stand : MethodName := ⟨RX10, "stand", "()I"⟩
abbrev cX10_isRinging : ByteArray := prog_1_method_40_code
def yX10_isRinging : MethodName := ⟨RX10, "isRinging", "()Z"⟩
abbrev cX10_pull : ByteArray := prog_1_method_41_code
def yX10_pull : MethodName := ⟨RX10, "pull", "(II)I"⟩
abbrev cX10_due : ByteArray := prog_1_method_42_code
def yX10_due : MethodName := ⟨RX10, "due", "(I)I"⟩
abbrev cX10_setPatience : ByteArray := prog_1_method_43_code
def yX10_setPatience : MethodName := ⟨RX10, "setPatience", "(I)I"⟩
abbrev cX10_done : ByteArray := prog_1_method_44_code
def yX10_done : MethodName := ⟨RX10, "done", "()I"⟩
abbrev cX10_delay : ByteArray := prog_1_method_45_code
def yX10_delay : MethodName := ⟨RX10, "delay", "()I"⟩
abbrev cX10_late : ByteArray := prog_1_method_46_code
def yX10_late : MethodName := ⟨RX10, "late", "(I)I"⟩
abbrev cX10_early : ByteArray := prog_1_method_47_code
def yX10_early : MethodName := ⟨RX10, "early", "(I)I"⟩
abbrev cX10_errors : ByteArray := prog_1_method_48_code
def yX10_errors : MethodName := ⟨RX10, "errors", "(I)I"⟩
abbrev cX10_wrong : ByteArray := prog_1_method_49_code
def yX10_wrong : MethodName := ⟨RX10, "wrong", "()I"⟩
abbrev cX10_rung : ByteArray := prog_1_method_50_code
def yX10_rung : MethodName := ⟨RX10, "rung", "()I"⟩
abbrev cX10_latest : ByteArray := prog_1_method_51_code
def yX10_latest : MethodName := ⟨RX10, "latest", "()I"⟩
abbrev cX10_requireRange : ByteArray := prog_1_method_52_code
def yX10_requireRange : MethodName := ⟨RX10, "requireRange", "(III)V"⟩
abbrev cX10_requireIndex : ByteArray := prog_1_method_53_code
def yX10_requireIndex : MethodName := ⟨RX10, "requireIndex", "(II)V"⟩
abbrev cX10_requireSilence : ByteArray := prog_1_method_54_code
def yX10_requireSilence : MethodName := ⟨RX10, "requireSilence", "()V"⟩
abbrev cX10_requireRoomForTouch : ByteArray := prog_1_method_55_code
def yX10_requireRoomForTouch : MethodName := ⟨RX10, "requireRoomForTouch", "()V"⟩
abbrev cX10_methodAt : ByteArray := prog_1_method_56_code
def yX10_methodAt : MethodName := ⟨RX10, "methodAt", "(I)LGrandsireLoft$Method;"⟩
abbrev cX10_touchAt : ByteArray := prog_1_method_57_code
def yX10_touchAt : MethodName := ⟨RX10, "touchAt", "(I)LGrandsireLoft$Touch;"⟩
abbrev cX10_bellNumbered : ByteArray := prog_1_method_58_code
def yX10_bellNumbered : MethodName := ⟨RX10, "bellNumbered", "(I)LGrandsireLoft$Bell;"⟩
abbrev cX10_dayAt : ByteArray := prog_1_method_59_code
def yX10_dayAt : MethodName := ⟨RX10, "dayAt", "(I)LGrandsireLoft$Day;"⟩
abbrev cX10_ringingThatAwaits : ByteArray := prog_1_method_60_code
def yX10_ringingThatAwaits : MethodName := ⟨RX10, "ringingThatAwaits", "(I)LGrandsireLoft$Ringing;"⟩
abbrev cX10_isDraftOf : ByteArray := prog_1_method_61_code
def yX10_isDraftOf : MethodName := ⟨RX10, "isDraftOf", "(I)Z"⟩
abbrev cX10_keepTouch : ByteArray := prog_1_method_62_code
def yX10_keepTouch : MethodName := ⟨RX10, "keepTouch", "(LGrandsireLoft$Touch;)I"⟩
abbrev cX10_rewriteTouches : ByteArray := prog_1_method_63_code
def yX10_rewriteTouches : MethodName := ⟨RX10, "rewriteTouches", "()V"⟩
abbrev cX10_doReadyRows : ByteArray := prog_1_method_64_code
def yX10_doReadyRows : MethodName := ⟨RX10, "doReadyRows", "()V"⟩
abbrev cX10_countAsRung : ByteArray := prog_1_method_65_code
def yX10_countAsRung : MethodName := ⟨RX10, "countAsRung", "(LGrandsireLoft$Touch;)V"⟩
abbrev cX10_endRinging : ByteArray := prog_1_method_66_code
def yX10_endRinging : MethodName := ⟨RX10, "endRinging", "()V"⟩
def RX11 : String := "GrandsireLoftModel"
def TX11 : u_T := fun k => match k with
  | _ => ("", "", "", false)
def tyX11 : Nat → FieldType := fun k => match k with
  | _ => .int
abbrev wsX110 : List Cond := u_ws RX11 TX11 0
theorem nmX11 : ∀ a, a < 0 → ∀ b, b < 0 → a ≠ b → (TX11 a).2.1 ≠ (TX11 b).2.1 := by decide +kernel
theorem tyX11_ok : ∀ k, k < 0 → parseFieldDescriptor (TX11 k).2.2.1 = some (tyX11 k) := by decide +kernel
def RJx145de : String := "java/io/Serializable"
def TJx145de : u_T := fun k => match k with
  | _ => ("", "", "", false)
def tyJx145de : Nat → FieldType := fun k => match k with
  | _ => .int
abbrev wsJx145de0 : List Cond := u_ws RJx145de TJx145de 0
theorem nmJx145de : ∀ a, a < 0 → ∀ b, b < 0 → a ≠ b → (TJx145de a).2.1 ≠ (TJx145de b).2.1 := by decide +kernel
theorem tyJx145de_ok : ∀ k, k < 0 → parseFieldDescriptor (TJx145de k).2.2.1 = some (tyJx145de k) := by decide +kernel
def RJx8e188 : String := "java/lang/Cloneable"
def TJx8e188 : u_T := fun k => match k with
  | _ => ("", "", "", false)
def tyJx8e188 : Nat → FieldType := fun k => match k with
  | _ => .int
abbrev wsJx8e1880 : List Cond := u_ws RJx8e188 TJx8e188 0
theorem nmJx8e188 : ∀ a, a < 0 → ∀ b, b < 0 → a ≠ b → (TJx8e188 a).2.1 ≠ (TJx8e188 b).2.1 := by decide +kernel
theorem tyJx8e188_ok : ∀ k, k < 0 → parseFieldDescriptor (TJx8e188 k).2.2.1 = some (tyJx8e188 k) := by decide +kernel
def RJ6 : String := "java/lang/Integer"
def TJ6 : u_T := fun k => match k with
  | _ => ("", "", "", false)
def tyJ6 : Nat → FieldType := fun k => match k with
  | _ => .int
abbrev wsJ60 : List Cond := u_ws RJ6 TJ6 0
theorem nmJ6 : ∀ a, a < 0 → ∀ b, b < 0 → a ≠ b → (TJ6 a).2.1 ≠ (TJ6 b).2.1 := by decide +kernel
theorem tyJ6_ok : ∀ k, k < 0 → parseFieldDescriptor (TJ6 k).2.2.1 = some (tyJ6 k) := by decide +kernel
abbrev cJ6_bitCount_0f7a4 : ByteArray := prog_20_method_49_code
def yJ6_bitCount_0f7a4 : MethodName := ⟨RJ6, "bitCount", "(I)I"⟩
def RJxab1ab : String := "java/lang/Iterable"
def TJxab1ab : u_T := fun k => match k with
  | _ => ("", "", "", false)
def tyJxab1ab : Nat → FieldType := fun k => match k with
  | _ => .int
abbrev wsJxab1ab0 : List Cond := u_ws RJxab1ab TJxab1ab 0
theorem nmJxab1ab : ∀ a, a < 0 → ∀ b, b < 0 → a ≠ b → (TJxab1ab a).2.1 ≠ (TJxab1ab b).2.1 := by decide +kernel
theorem tyJxab1ab_ok : ∀ k, k < 0 → parseFieldDescriptor (TJxab1ab k).2.2.1 = some (tyJxab1ab k) := by decide +kernel
def RJ9 : String := "java/lang/Math"
def TJ9 : u_T := fun k => match k with
  | _ => ("", "", "", false)
def tyJ9 : Nat → FieldType := fun k => match k with
  | _ => .int
abbrev wsJ90 : List Cond := u_ws RJ9 TJ9 0
theorem nmJ9 : ∀ a, a < 0 → ∀ b, b < 0 → a ≠ b → (TJ9 a).2.1 ≠ (TJ9 b).2.1 := by decide +kernel
theorem tyJ9_ok : ∀ k, k < 0 → parseFieldDescriptor (TJ9 k).2.2.1 = some (tyJ9 k) := by decide +kernel
abbrev cJ9_max_7cf53 : ByteArray := prog_22_method_65_code
def yJ9_max_7cf53 : MethodName := ⟨RJ9, "max", "(II)I"⟩
abbrev cJ9_min_7cf53 : ByteArray := prog_22_method_69_code
def yJ9_min_7cf53 : MethodName := ⟨RJ9, "min", "(II)I"⟩
def RJ0 : String := "java/lang/String"
def TJ0 : u_T := fun k => match k with
  | _ => ("", "", "", false)
def tyJ0 : Nat → FieldType := fun k => match k with
  | _ => .int
abbrev wsJ00 : List Cond := u_ws RJ0 TJ0 0
theorem nmJ0 : ∀ a, a < 0 → ∀ b, b < 0 → a ≠ b → (TJ0 a).2.1 ≠ (TJ0 b).2.1 := by decide +kernel
theorem tyJ0_ok : ∀ k, k < 0 → parseFieldDescriptor (TJ0 k).2.2.1 = some (tyJ0 k) := by decide +kernel
def RJ10 : String := "java/lang/System"
def TJ10 : u_T := fun k => match k with
  | _ => ("", "", "", false)
def tyJ10 : Nat → FieldType := fun k => match k with
  | _ => .int
abbrev wsJ100 : List Cond := u_ws RJ10 TJ10 0
theorem nmJ10 : ∀ a, a < 0 → ∀ b, b < 0 → a ≠ b → (TJ10 a).2.1 ≠ (TJ10 b).2.1 := by decide +kernel
theorem tyJ10_ok : ∀ k, k < 0 → parseFieldDescriptor (TJ10 k).2.2.1 = some (tyJ10 k) := by decide +kernel
def RJxa1e45 : String := "java/util/AbstractCollection"
def TJxa1e45 : u_T := fun k => match k with
  | _ => ("", "", "", false)
def tyJxa1e45 : Nat → FieldType := fun k => match k with
  | _ => .int
abbrev wsJxa1e450 : List Cond := u_ws RJxa1e45 TJxa1e45 0
theorem nmJxa1e45 : ∀ a, a < 0 → ∀ b, b < 0 → a ≠ b → (TJxa1e45 a).2.1 ≠ (TJxa1e45 b).2.1 := by decide +kernel
theorem tyJxa1e45_ok : ∀ k, k < 0 → parseFieldDescriptor (TJxa1e45 k).2.2.1 = some (tyJxa1e45 k) := by decide +kernel
abbrev cJxa1e45_init_da8c8 : ByteArray := prog_27_method_1_code
def yJxa1e45_init_da8c8 : MethodName := ⟨RJxa1e45, "<init>", "()V"⟩
def RJxc12de : String := "java/util/AbstractList"
def TJxc12de : u_T := fun k => match k with
  | _ => ("", "", "", false)
def tyJxc12de : Nat → FieldType := fun k => match k with
  | _ => .int
abbrev wsJxc12de0 : List Cond := u_ws RJxc12de TJxc12de 0
theorem nmJxc12de : ∀ a, a < 0 → ∀ b, b < 0 → a ≠ b → (TJxc12de a).2.1 ≠ (TJxc12de b).2.1 := by decide +kernel
theorem tyJxc12de_ok : ∀ k, k < 0 → parseFieldDescriptor (TJxc12de k).2.2.1 = some (tyJxc12de k) := by decide +kernel
abbrev cJxc12de_init_da8c8 : ByteArray := prog_28_method_1_code
def yJxc12de_init_da8c8 : MethodName := ⟨RJxc12de, "<init>", "()V"⟩
def RJx4a65c : String := "java/util/ArrayList"
def TJx4a65c : u_T := fun k => match k with
  | 0 => ("java/util/AbstractList", "modCount", "I", false)
  | 1 => ("java/util/ArrayList", "elementData", "[Ljava/lang/Object;", false)
  | _ => ("java/util/ArrayList", "size", "I", false)
def tyJx4a65c : Nat → FieldType := fun k => match k with
  | 0 => .int
  | 1 => .array (.object "java/lang/Object")
  | _ => .int
abbrev wsJx4a65c0 : List Cond := u_ws RJx4a65c TJx4a65c 3
theorem nmJx4a65c : ∀ a, a < 3 → ∀ b, b < 3 → a ≠ b → (TJx4a65c a).2.1 ≠ (TJx4a65c b).2.1 := by decide +kernel
theorem tyJx4a65c_ok : ∀ k, k < 3 → parseFieldDescriptor (TJx4a65c k).2.2.1 = some (tyJx4a65c k) := by decide +kernel
abbrev cJx4a65c_init_da8c8 : ByteArray := prog_29_method_2_code
def yJx4a65c_init_da8c8 : MethodName := ⟨RJx4a65c, "<init>", "()V"⟩
abbrev cJx4a65c_grow_92f84 : ByteArray := prog_29_method_6_code
def yJx4a65c_grow_92f84 : MethodName := ⟨RJx4a65c, "grow", "(I)[Ljava/lang/Object;"⟩
abbrev cJx4a65c_grow_d5877 : ByteArray := prog_29_method_7_code
def yJx4a65c_grow_d5877 : MethodName := ⟨RJx4a65c, "grow", "()[Ljava/lang/Object;"⟩
abbrev cJx4a65c_size_8abf5 : ByteArray := prog_29_method_8_code
def yJx4a65c_size_8abf5 : MethodName := ⟨RJx4a65c, "size", "()I"⟩
abbrev cJx4a65c_isEmpty_aae02 : ByteArray := prog_29_method_9_code
def yJx4a65c_isEmpty_aae02 : MethodName := ⟨RJx4a65c, "isEmpty", "()Z"⟩
abbrev cJx4a65c_elementData_915e3 : ByteArray := prog_29_method_18_code
def yJx4a65c_elementData_915e3 : MethodName := ⟨RJx4a65c, "elementData", "(I)Ljava/lang/Object;"⟩
abbrev cJx4a65c_get_915e3 : ByteArray := prog_29_method_20_code
def yJx4a65c_get_915e3 : MethodName := ⟨RJx4a65c, "get", "(I)Ljava/lang/Object;"⟩
abbrev cJx4a65c_add_72be8 : ByteArray := prog_29_method_24_code
def yJx4a65c_add_72be8 : MethodName := ⟨RJx4a65c, "add", "(Ljava/lang/Object;[Ljava/lang/Object;I)V"⟩
abbrev cJx4a65c_add_9ea2d : ByteArray := prog_29_method_25_code
def yJx4a65c_add_9ea2d : MethodName := ⟨RJx4a65c, "add", "(Ljava/lang/Object;)Z"⟩
abbrev cJx4a65c_remove_915e3 : ByteArray := prog_29_method_29_code
def yJx4a65c_remove_915e3 : MethodName := ⟨RJx4a65c, "remove", "(I)Ljava/lang/Object;"⟩
abbrev cJx4a65c_fastRemove_b59b0 : ByteArray := prog_29_method_39_code
def yJx4a65c_fastRemove_b59b0 : MethodName := ⟨RJx4a65c, "fastRemove", "([Ljava/lang/Object;I)V"⟩
abbrev cJx4a65c_clear_da8c8 : ByteArray := prog_29_method_40_code
def yJx4a65c_clear_da8c8 : MethodName := ⟨RJx4a65c, "clear", "()V"⟩
def RJ7 : String := "java/util/Arrays"
def TJ7 : u_T := fun k => match k with
  | _ => ("", "", "", false)
def tyJ7 : Nat → FieldType := fun k => match k with
  | _ => .int
abbrev wsJ70 : List Cond := u_ws RJ7 TJ7 0
theorem nmJ7 : ∀ a, a < 0 → ∀ b, b < 0 → a ≠ b → (TJ7 a).2.1 ≠ (TJ7 b).2.1 := by decide +kernel
theorem tyJ7_ok : ∀ k, k < 0 → parseFieldDescriptor (TJ7 k).2.2.1 = some (tyJ7 k) := by decide +kernel
abbrev cJ7_copyOf_1904c : ByteArray := prog_30_method_119_code
def yJ7_copyOf_1904c : MethodName := ⟨RJ7, "copyOf", "([Ljava/lang/Object;I)[Ljava/lang/Object;"⟩
abbrev cJ7_copyOf_6403c : ByteArray := prog_30_method_120_code
def yJ7_copyOf_6403c : MethodName := ⟨RJ7, "copyOf", "([Ljava/lang/Object;ILjava/lang/Class;)[Ljava/lang/Object;"⟩
def RJx5ef63 : String := "java/util/Collection"
def TJx5ef63 : u_T := fun k => match k with
  | _ => ("", "", "", false)
def tyJx5ef63 : Nat → FieldType := fun k => match k with
  | _ => .int
abbrev wsJx5ef630 : List Cond := u_ws RJx5ef63 TJx5ef63 0
theorem nmJx5ef63 : ∀ a, a < 0 → ∀ b, b < 0 → a ≠ b → (TJx5ef63 a).2.1 ≠ (TJx5ef63 b).2.1 := by decide +kernel
theorem tyJx5ef63_ok : ∀ k, k < 0 → parseFieldDescriptor (TJx5ef63 k).2.2.1 = some (tyJx5ef63 k) := by decide +kernel
def RJxbd725 : String := "java/util/List"
def TJxbd725 : u_T := fun k => match k with
  | _ => ("", "", "", false)
def tyJxbd725 : Nat → FieldType := fun k => match k with
  | _ => .int
abbrev wsJxbd7250 : List Cond := u_ws RJxbd725 TJxbd725 0
theorem nmJxbd725 : ∀ a, a < 0 → ∀ b, b < 0 → a ≠ b → (TJxbd725 a).2.1 ≠ (TJxbd725 b).2.1 := by decide +kernel
theorem tyJxbd725_ok : ∀ k, k < 0 → parseFieldDescriptor (TJxbd725 k).2.2.1 = some (tyJxbd725 k) := by decide +kernel
def RJ15 : String := "java/util/Objects"
def TJ15 : u_T := fun k => match k with
  | _ => ("", "", "", false)
def tyJ15 : Nat → FieldType := fun k => match k with
  | _ => .int
abbrev wsJ150 : List Cond := u_ws RJ15 TJ15 0
theorem nmJ15 : ∀ a, a < 0 → ∀ b, b < 0 → a ≠ b → (TJ15 a).2.1 ≠ (TJ15 b).2.1 := by decide +kernel
theorem tyJ15_ok : ∀ k, k < 0 → parseFieldDescriptor (TJ15 k).2.2.1 = some (tyJ15 k) := by decide +kernel
abbrev cJ15_checkIndex_7cf53 : ByteArray := prog_33_method_17_code
def yJ15_checkIndex_7cf53 : MethodName := ⟨RJ15, "checkIndex", "(II)I"⟩
def RJxf0a74 : String := "java/util/RandomAccess"
def TJxf0a74 : u_T := fun k => match k with
  | _ => ("", "", "", false)
def tyJxf0a74 : Nat → FieldType := fun k => match k with
  | _ => .int
abbrev wsJxf0a740 : List Cond := u_ws RJxf0a74 TJxf0a74 0
theorem nmJxf0a74 : ∀ a, a < 0 → ∀ b, b < 0 → a ≠ b → (TJxf0a74 a).2.1 ≠ (TJxf0a74 b).2.1 := by decide +kernel
theorem tyJxf0a74_ok : ∀ k, k < 0 → parseFieldDescriptor (TJxf0a74 k).2.2.1 = some (tyJxf0a74 k) := by decide +kernel
def RJxa66e6 : String := "java/util/SequencedCollection"
def TJxa66e6 : u_T := fun k => match k with
  | _ => ("", "", "", false)
def tyJxa66e6 : Nat → FieldType := fun k => match k with
  | _ => .int
abbrev wsJxa66e60 : List Cond := u_ws RJxa66e6 TJxa66e6 0
theorem nmJxa66e6 : ∀ a, a < 0 → ∀ b, b < 0 → a ≠ b → (TJxa66e6 a).2.1 ≠ (TJxa66e6 b).2.1 := by decide +kernel
theorem tyJxa66e6_ok : ∀ k, k < 0 → parseFieldDescriptor (TJxa66e6 k).2.2.1 = some (tyJxa66e6 k) := by decide +kernel
def RJ8 : String := "jdk/internal/util/ArraysSupport"
def TJ8 : u_T := fun k => match k with
  | _ => ("", "", "", false)
def tyJ8 : Nat → FieldType := fun k => match k with
  | _ => .int
abbrev wsJ80 : List Cond := u_ws RJ8 TJ8 0
theorem nmJ8 : ∀ a, a < 0 → ∀ b, b < 0 → a ≠ b → (TJ8 a).2.1 ≠ (TJ8 b).2.1 := by decide +kernel
theorem tyJ8_ok : ∀ k, k < 0 → parseFieldDescriptor (TJ8 k).2.2.1 = some (tyJ8 k) := by decide +kernel
abbrev cJ8_newLength_cabcc : ByteArray := prog_36_method_27_code
def yJ8_newLength_cabcc : MethodName := ⟨RJ8, "newLength", "(III)I"⟩
abbrev cJ8_hugeLength_7cf53 : ByteArray := prog_36_method_28_code
def yJ8_hugeLength_7cf53 : MethodName := ⟨RJ8, "hugeLength", "(II)I"⟩
def RJ3 : String := "jdk/internal/util/Preconditions"
def TJ3 : u_T := fun k => match k with
  | _ => ("", "", "", false)
def tyJ3 : Nat → FieldType := fun k => match k with
  | _ => .int
abbrev wsJ30 : List Cond := u_ws RJ3 TJ3 0
theorem nmJ3 : ∀ a, a < 0 → ∀ b, b < 0 → a ≠ b → (TJ3 a).2.1 ≠ (TJ3 b).2.1 := by decide +kernel
theorem tyJ3_ok : ∀ k, k < 0 → parseFieldDescriptor (TJ3 k).2.2.1 = some (tyJ3 k) := by decide +kernel
abbrev cJ3_checkIndex_8e157 : ByteArray := prog_37_method_11_code
def yJ3_checkIndex_8e157 : MethodName := ⟨RJ3, "checkIndex", "(IILjava/util/function/BiFunction;)I"⟩
def RL : String := "GrandsireLoftLaw"
abbrev cL_cell : ByteArray := method_2_code
def yL_cell : MethodName := ⟨RL, "cell", "([II)I"⟩
abbrev cL_low : ByteArray := method_3_code
def yL_low : MethodName := ⟨RL, "low", "(II)I"⟩
abbrev cL_change : ByteArray := method_4_code
def yL_change : MethodName := ⟨RL, "change", "(LGrandsireLoft;I)I"⟩
abbrev cL_method : ByteArray := method_5_code
def yL_method : MethodName := ⟨RL, "method", "(LGrandsireLoft;I)I"⟩
abbrev cL_setCall : ByteArray := method_6_code
def yL_setCall : MethodName := ⟨RL, "setCall", "(LGrandsireLoft;III)I"⟩
abbrev cL_stage : ByteArray := method_7_code
def yL_stage : MethodName := ⟨RL, "stage", "(LGrandsireLoft;I)I"⟩
abbrev cL_changeAt : ByteArray := method_8_code
def yL_changeAt : MethodName := ⟨RL, "changeAt", "(LGrandsireLoft;III)I"⟩
abbrev cL_head : ByteArray := method_9_code
def yL_head : MethodName := ⟨RL, "head", "(LGrandsireLoft;II)I"⟩
abbrev cL_course : ByteArray := method_10_code
def yL_course : MethodName := ⟨RL, "course", "(LGrandsireLoft;I)I"⟩
abbrev cL_isFalse : ByteArray := method_11_code
def yL_isFalse : MethodName := ⟨RL, "isFalse", "(LGrandsireLoft;II)I"⟩
abbrev cL_falseRows : ByteArray := method_12_code
def yL_falseRows : MethodName := ⟨RL, "falseRows", "(LGrandsireLoft;I)I"⟩
abbrev cL_lead : ByteArray := method_13_code
def yL_lead : MethodName := ⟨RL, "lead", "(LGrandsireLoft;II)I"⟩
abbrev cL_touch : ByteArray := method_14_code
def yL_touch : MethodName := ⟨RL, "touch", "(LGrandsireLoft;)I"⟩
abbrev cL_compose : ByteArray := method_15_code
def yL_compose : MethodName := ⟨RL, "compose", "(LGrandsireLoft;II)I"⟩
abbrev cL_leads : ByteArray := method_16_code
def yL_leads : MethodName := ⟨RL, "leads", "(LGrandsireLoft;I)I"⟩
abbrev cL_leadAt : ByteArray := method_17_code
def yL_leadAt : MethodName := ⟨RL, "leadAt", "(LGrandsireLoft;II)I"⟩
abbrev cL_rows : ByteArray := method_18_code
def yL_rows : MethodName := ⟨RL, "rows", "(LGrandsireLoft;I)I"⟩
abbrev cL_rowAt : ByteArray := method_19_code
def yL_rowAt : MethodName := ⟨RL, "rowAt", "(LGrandsireLoft;II)I"⟩
abbrev cL_bellAt : ByteArray := method_20_code
def yL_bellAt : MethodName := ⟨RL, "bellAt", "(LGrandsireLoft;III)I"⟩
abbrev cL_isTrue : ByteArray := method_21_code
def yL_isTrue : MethodName := ⟨RL, "isTrue", "(LGrandsireLoft;I)I"⟩
abbrev cL_comesRound : ByteArray := method_22_code
def yL_comesRound : MethodName := ⟨RL, "comesRound", "(LGrandsireLoft;I)I"⟩
abbrev cL_firstRepeat : ByteArray := method_23_code
def yL_firstRepeat : MethodName := ⟨RL, "firstRepeat", "(LGrandsireLoft;I)I"⟩
abbrev cL_takeOut : ByteArray := method_24_code
def yL_takeOut : MethodName := ⟨RL, "takeOut", "(LGrandsireLoft;I)I"⟩
abbrev cL_bringIn : ByteArray := method_25_code
def yL_bringIn : MethodName := ⟨RL, "bringIn", "(LGrandsireLoft;I)I"⟩
abbrev cL_mend : ByteArray := method_26_code
def yL_mend : MethodName := ⟨RL, "mend", "(LGrandsireLoft;II)I"⟩
abbrev cL_wear : ByteArray := method_27_code
def yL_wear : MethodName := ⟨RL, "wear", "(LGrandsireLoft;II)I"⟩
abbrev cL_isIn : ByteArray := method_28_code
def yL_isIn : MethodName := ⟨RL, "isIn", "(LGrandsireLoft;I)I"⟩
abbrev cL_setBand : ByteArray := method_29_code
def yL_setBand : MethodName := ⟨RL, "setBand", "(LGrandsireLoft;II)I"⟩
abbrev cL_plan : ByteArray := method_30_code
def yL_plan : MethodName := ⟨RL, "plan", "(LGrandsireLoft;II)I"⟩
abbrev cL_planned : ByteArray := method_31_code
def yL_planned : MethodName := ⟨RL, "planned", "(LGrandsireLoft;I)I"⟩
abbrev cL_plannedAt : ByteArray := method_32_code
def yL_plannedAt : MethodName := ⟨RL, "plannedAt", "(LGrandsireLoft;II)I"⟩
abbrev cL_rota : ByteArray := method_33_code
def yL_rota : MethodName := ⟨RL, "rota", "(LGrandsireLoft;I)I"⟩
abbrev cL_pass : ByteArray := method_34_code
def yL_pass : MethodName := ⟨RL, "pass", "(LGrandsireLoft;)I"⟩
abbrev cL_ring : ByteArray := method_35_code
def yL_ring : MethodName := ⟨RL, "ring", "(LGrandsireLoft;III)I"⟩
abbrev cL_stand : ByteArray := method_36_code
def yL_stand : MethodName := ⟨RL, "stand", "(LGrandsireLoft;)I"⟩
abbrev cL_pull : ByteArray := method_37_code
def yL_pull : MethodName := ⟨RL, "pull", "(LGrandsireLoft;II)I"⟩
abbrev cL_due : ByteArray := method_38_code
def yL_due : MethodName := ⟨RL, "due", "(LGrandsireLoft;I)I"⟩
abbrev cL_setPatience : ByteArray := method_39_code
def yL_setPatience : MethodName := ⟨RL, "setPatience", "(LGrandsireLoft;I)I"⟩
abbrev cL_late : ByteArray := method_40_code
def yL_late : MethodName := ⟨RL, "late", "(LGrandsireLoft;I)I"⟩
abbrev cL_early : ByteArray := method_41_code
def yL_early : MethodName := ⟨RL, "early", "(LGrandsireLoft;I)I"⟩
abbrev cL_errors : ByteArray := method_42_code
def yL_errors : MethodName := ⟨RL, "errors", "(LGrandsireLoft;I)I"⟩
abbrev cL_isChange : ByteArray := method_43_code
def yL_isChange : MethodName := ⟨RL, "isChange", "(II)Z"⟩
abbrev cL_moved : ByteArray := method_44_code
def yL_moved : MethodName := ⟨RL, "moved", "(III)I"⟩
abbrev cL_changed : ByteArray := method_45_code
def yL_changed : MethodName := ⟨RL, "changed", "(III)I"⟩
abbrev cL_rounds : ByteArray := method_46_code
def yL_rounds : MethodName := ⟨RL, "rounds", "(I)I"⟩
abbrev cL_bell : ByteArray := method_47_code
def yL_bell : MethodName := ⟨RL, "bell", "(III)I"⟩
abbrev cL_number : ByteArray := method_48_code
def yL_number : MethodName := ⟨RL, "number", "(II)I"⟩
abbrev cL_stageOf : ByteArray := method_49_code
def yL_stageOf : MethodName := ⟨RL, "stageOf", "(J)I"⟩
abbrev cL_size : ByteArray := method_50_code
def yL_size : MethodName := ⟨RL, "size", "(J)I"⟩
abbrev cL_its : ByteArray := method_51_code
def yL_its : MethodName := ⟨RL, "its", "(JII)I"⟩
abbrev cL_behind : ByteArray := method_52_code
def yL_behind : MethodName := ⟨RL, "behind", "(IJI)I"⟩
abbrev cL_stageIn : ByteArray := method_53_code
def yL_stageIn : MethodName := ⟨RL, "stageIn", "([J[II)I"⟩
abbrev cL_lay : ByteArray := method_54_code
def yL_lay : MethodName := ⟨RL, "lay", "([JI[I)I"⟩
abbrev cL_repeat : ByteArray := method_55_code
def yL_repeat : MethodName := ⟨RL, "repeat", "([II)I"⟩
abbrev cL_isSound : ByteArray := method_56_code
def yL_isSound : MethodName := ⟨RL, "isSound", "([JI[I)Z"⟩
abbrev cL_areIn : ByteArray := method_57_code
def yL_areIn : MethodName := ⟨RL, "areIn", "([II)Z"⟩
abbrev cL_takePlan : ByteArray := method_58_code
def yL_takePlan : MethodName := ⟨RL, "takePlan", "([III)V"⟩
abbrev cL_drop : ByteArray := method_59_code
def yL_drop : MethodName := ⟨RL, "drop", "([J[I[I[I[I[I)I"⟩
abbrev cL_look : ByteArray := method_60_code
def yL_look : MethodName := ⟨RL, "look", "([J[I[I[I[I[I[I)V"⟩
abbrev cL_band : ByteArray := method_61_code
def yL_band : MethodName := ⟨RL, "band", "([J[I[I[I[II)I"⟩
abbrev cL_planAt : ByteArray := method_62_code
def yL_planAt : MethodName := ⟨RL, "planAt", "([III)I"⟩
abbrev cL_when : ByteArray := method_63_code
def yL_when : MethodName := ⟨RL, "when", "([JII)I"⟩
abbrev cL_isPulled : ByteArray := method_64_code
def yL_isPulled : MethodName := ⟨RL, "isPulled", "([II)Z"⟩
abbrev cL_goOn : ByteArray := method_65_code
def yL_goOn : MethodName := ⟨RL, "goOn", "([J[I[I[I[I[J[I[I)I"⟩
abbrev cL_methods : ByteArray := method_66_code
def yL_methods : MethodName := ⟨RL, "methods", "(LGrandsireLoft;III[J[I[I[I[I[I)Z"⟩
abbrev cL_bells : ByteArray := method_67_code
def yL_bells : MethodName := ⟨RL, "bells", "(LGrandsireLoft;III[J[I[I[I[I[I[I[I)Z"⟩
abbrev cL_place : ByteArray := method_68_code
def yL_place : MethodName := ⟨RL, "place", "(II)I"⟩
abbrev cL_rings : ByteArray := method_69_code
def yL_rings : MethodName := ⟨RL, "rings", "(LGrandsireLoft;III[J[I[I[I[I[I[I[I[J[I[I)Z"⟩
abbrev cL_falseMany : ByteArray := method_70_code
def yL_falseMany : MethodName := ⟨RL, "falseMany", "(J[I)I"⟩
abbrev cL_isTold : ByteArray := method_71_code
def yL_isTold : MethodName := ⟨RL, "isTold", "(LGrandsireLoft;II[J[I[I[I[I[I[I[I[I[I)Z"⟩
abbrev cL_law : ByteArray := code
def yL_law : MethodName := ⟨RL, "law", "([I)Z"⟩
abbrev vwCl : List vw_C := [(RJx4a65c, TJx4a65c, 3), (RX0, TX0, 1), (RX1, TX1, 8), (RX2, TX2, 2), (RX3, TX3, 1), (RX4, TX4, 7), (RX5, TX5, 1), (RX6, TX6, 6), (RX7, TX7, 6), (RX9, TX9, 9), (RX10, TX10, 14), (RX1, TX1, 8)]
def zW : List Cond := lw_tbl.filter goodWord
theorem zW_in {w : Cond} (i : Nat) (h : lw_tbl[i]? = some w) (hg : goodWord w = true) : w ∈ zW := List.mem_filter.mpr ⟨List.mem_of_getElem? h, hg⟩
theorem zW_ot {w : Cond} (h : w ∈ zW) : w ∈ lw_tbl := (List.mem_filter.mp h).1
theorem zW_good {w : Cond} (h : w ∈ zW) : goodWord w = true := (List.mem_filter.mp h).2
theorem zU_Jx4a65c : ∀ w ∈ u_ws RJx4a65c TJx4a65c 3, w ∈ zW := by decide +kernel
theorem zU_X0 : ∀ w ∈ u_ws RX0 TX0 1, w ∈ zW := by decide +kernel
theorem zU_X1 : ∀ w ∈ u_ws RX1 TX1 8, w ∈ zW := by decide +kernel
theorem zU_X2 : ∀ w ∈ u_ws RX2 TX2 2, w ∈ zW := by decide +kernel
theorem zU_X3 : ∀ w ∈ u_ws RX3 TX3 1, w ∈ zW := by decide +kernel
theorem zU_X4 : ∀ w ∈ u_ws RX4 TX4 7, w ∈ zW := by decide +kernel
theorem zU_X5 : ∀ w ∈ u_ws RX5 TX5 1, w ∈ zW := by decide +kernel
theorem zU_X6 : ∀ w ∈ u_ws RX6 TX6 6, w ∈ zW := by decide +kernel
theorem zU_X7 : ∀ w ∈ u_ws RX7 TX7 6, w ∈ zW := by decide +kernel
theorem zU_X9 : ∀ w ∈ u_ws RX9 TX9 9, w ∈ zW := by decide +kernel
theorem zU_X10 : ∀ w ∈ u_ws RX10 TX10 14, w ∈ zW := by decide +kernel

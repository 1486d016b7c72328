def RX0 : String := "WalkingLaw$Diary"
def TX0 : u_T := fun k => match k with
  | 0 => ("WalkingLaw$Diary", "members", "[I", true)
  | 1 => ("WalkingLaw$Diary", "parishes", "[I", true)
  | 2 => ("WalkingLaw$Diary", "hoursGone", "[I", true)
  | 3 => ("WalkingLaw$Diary", "lines", "I", false)
  | _ => ("WalkingLaw$Diary", "fitting", "[I", true)
def tyX0 : Nat → FieldType := fun k => match k with
  | 0 => .array .int
  | 1 => .array .int
  | 2 => .array .int
  | 3 => .int
  | _ => .array .int
abbrev wsX00 : List Cond := u_ws RX0 TX0 5
theorem nmX0 : ∀ a, a < 5 → ∀ b, b < 5 → a ≠ b → (TX0 a).2.1 ≠ (TX0 b).2.1 := by decide +kernel
theorem tyX0_ok : ∀ k, k < 5 → parseFieldDescriptor (TX0 k).2.2.1 = some (tyX0 k) := by decide +kernel
abbrev cX0_init : ByteArray := prog_2_method_1_code
def yX0_init : MethodName := ⟨RX0, "<init>", "()V"⟩
abbrev cX0_append : ByteArray := prog_2_method_2_code
def yX0_append : MethodName := ⟨RX0, "append", "(III)Z"⟩
abbrev cX0_falseLines : ByteArray := prog_2_method_3_code
def yX0_falseLines : MethodName := ⟨RX0, "falseLines", "(LWalkingLaw$Walk;)I"⟩
abbrev cX0_bestDelay : ByteArray := prog_2_method_4_code
def yX0_bestDelay : MethodName := ⟨RX0, "bestDelay", "(LWalkingLaw$Walk;)I"⟩
abbrev cX0_isSo : ByteArray := prog_2_method_5_code
def yX0_isSo : MethodName := ⟨RX0, "isSo", "(ILWalkingLaw$Walk;)Z"⟩
abbrev cX0_noteFitting : ByteArray := prog_2_method_6_code
def yX0_noteFitting : MethodName := ⟨RX0, "noteFitting", "(II)V"⟩
abbrev cX0_mostFitting : ByteArray := prog_2_method_7_code
def yX0_mostFitting : MethodName := ⟨RX0, "mostFitting", "()I"⟩
def RX1 : String := "WalkingLaw$Road"
def TX1 : u_T := fun k => match k with
  | 0 => ("WalkingLaw$Road", "parishes", "I", false)
  | 1 => ("WalkingLaw$Road", "lengths", "[I", true)
  | 2 => ("WalkingLaw$Road", "muddy", "[I", true)
  | 3 => ("WalkingLaw$Road", "beds", "[I", true)
  | 4 => ("WalkingLaw$Road", "firstMiles", "[I", true)
  | 5 => ("WalkingLaw$Road", "end", "I", false)
  | 6 => ("WalkingLaw$Road", "members", "I", false)
  | 7 => ("WalkingLaw$Road", "kinds", "[I", true)
  | 8 => ("WalkingLaw$Road", "paces", "[I", true)
  | 9 => ("WalkingLaw$Road", "minds", "[I", true)
  | 10 => ("WalkingLaw$Road", "ofKind", "[I", true)
  | 11 => ("WalkingLaw$Road", "quorum", "I", false)
  | _ => ("WalkingLaw$Road", "bills", "I", false)
def tyX1 : Nat → FieldType := fun k => match k with
  | 0 => .int
  | 1 => .array .int
  | 2 => .array .int
  | 3 => .array .int
  | 4 => .array .int
  | 5 => .int
  | 6 => .int
  | 7 => .array .int
  | 8 => .array .int
  | 9 => .array .int
  | 10 => .array .int
  | 11 => .int
  | _ => .int
abbrev wsX10 : List Cond := u_ws RX1 TX1 13
theorem nmX1 : ∀ a, a < 13 → ∀ b, b < 13 → a ≠ b → (TX1 a).2.1 ≠ (TX1 b).2.1 := by decide +kernel
theorem tyX1_ok : ∀ k, k < 13 → parseFieldDescriptor (TX1 k).2.2.1 = some (tyX1 k) := by decide +kernel
abbrev cX1_init : ByteArray := prog_3_method_1_code
def yX1_init : MethodName := ⟨RX1, "<init>", "()V"⟩
abbrev cX1_clear : ByteArray := prog_3_method_2_code
def yX1_clear : MethodName := ⟨RX1, "clear", "()V"⟩
abbrev cX1_addParish : ByteArray := prog_3_method_3_code
def yX1_addParish : MethodName := ⟨RX1, "addParish", "(III)Z"⟩
abbrev cX1_addMember : ByteArray := prog_3_method_4_code
def yX1_addMember : MethodName := ⟨RX1, "addMember", "(III)Z"⟩
abbrev cX1_setQuorum : ByteArray := prog_3_method_5_code
def yX1_setQuorum : MethodName := ⟨RX1, "setQuorum", "(I)Z"⟩
abbrev cX1_setBills : ByteArray := prog_3_method_6_code
def yX1_setBills : MethodName := ⟨RX1, "setBills", "(I)Z"⟩
abbrev cX1_parishAt : ByteArray := prog_3_method_7_code
def yX1_parishAt : MethodName := ⟨RX1, "parishAt", "(I)I"⟩
abbrev cX1_strideFrom : ByteArray := prog_3_method_8_code
def yX1_strideFrom : MethodName := ⟨RX1, "strideFrom", "(II)I"⟩
abbrev cX1_outspoken : ByteArray := prog_3_method_9_code
def yX1_outspoken : MethodName := ⟨RX1, "outspoken", "()I"⟩
abbrev cX1_paceOf : ByteArray := prog_3_method_10_code
def yX1_paceOf : MethodName := ⟨RX1, "paceOf", "(I)I"⟩
abbrev cX1_slowestOf : ByteArray := prog_3_method_11_code
def yX1_slowestOf : MethodName := ⟨RX1, "slowestOf", "(I)I"⟩
def RX2 : String := "WalkingLaw$Rows"
def TX2 : u_T := fun k => match k with
  | 0 => ("WalkingLaw$Rows", "passing", "[[I", true)
  | 1 => ("WalkingLaw$Rows", "row", "[I", true)
  | 2 => ("WalkingLaw$Rows", "best", "[I", true)
  | _ => ("WalkingLaw$Rows", "most", "I", false)
def tyX2 : Nat → FieldType := fun k => match k with
  | 0 => .array (.array .int)
  | 1 => .array .int
  | 2 => .array .int
  | _ => .int
abbrev wsX20 : List Cond := u_ws RX2 TX2 4
theorem nmX2 : ∀ a, a < 4 → ∀ b, b < 4 → a ≠ b → (TX2 a).2.1 ≠ (TX2 b).2.1 := by decide +kernel
theorem tyX2_ok : ∀ k, k < 4 → parseFieldDescriptor (TX2 k).2.2.1 = some (tyX2 k) := by decide +kernel
abbrev cX2_init : ByteArray := prog_4_method_1_code
def yX2_init : MethodName := ⟨RX2, "<init>", "()V"⟩
abbrev cX2_weigh : ByteArray := prog_4_method_2_code
def yX2_weigh : MethodName := ⟨RX2, "weigh", "(LWalkingLaw$Walk;)V"⟩
abbrev cX2_findPassing : ByteArray := prog_4_method_3_code
def yX2_findPassing : MethodName := ⟨RX2, "findPassing", "(LWalkingLaw$Walk;)V"⟩
abbrev cX2_notePassing : ByteArray := prog_4_method_4_code
def yX2_notePassing : MethodName := ⟨RX2, "notePassing", "(LWalkingLaw$Walk;I)V"⟩
abbrev cX2_setRow : ByteArray := prog_4_method_5_code
def yX2_setRow : MethodName := ⟨RX2, "setRow", "(II)Z"⟩
abbrev cX2_compare : ByteArray := prog_4_method_6_code
def yX2_compare : MethodName := ⟨RX2, "compare", "(II)V"⟩
def RX3 : String := "WalkingLaw$Text"
def TX3 : u_T := fun k => match k with
  | 0 => ("WalkingLaw$Text", "bytes", "[B", true)
  | 1 => ("WalkingLaw$Text", "numbers", "[I", true)
  | _ => ("WalkingLaw$Text", "length", "I", false)
def tyX3 : Nat → FieldType := fun k => match k with
  | 0 => .array .byte
  | 1 => .array .int
  | _ => .int
abbrev wsX30 : List Cond := u_ws RX3 TX3 3
theorem nmX3 : ∀ a, a < 3 → ∀ b, b < 3 → a ≠ b → (TX3 a).2.1 ≠ (TX3 b).2.1 := by decide +kernel
theorem tyX3_ok : ∀ k, k < 3 → parseFieldDescriptor (TX3 k).2.2.1 = some (tyX3 k) := by decide +kernel
abbrev cX3_init : ByteArray := prog_5_method_1_code
def yX3_init : MethodName := ⟨RX3, "<init>", "()V"⟩
abbrev cX3_append : ByteArray := prog_5_method_2_code
def yX3_append : MethodName := ⟨RX3, "append", "(IJ)Z"⟩
abbrev cX3_tell : ByteArray := prog_5_method_3_code
def yX3_tell : MethodName := ⟨RX3, "tell", "(LWalkingLaw$Road;)I"⟩
abbrev cX3_takeItem : ByteArray := prog_5_method_4_code
def yX3_takeItem : MethodName := ⟨RX3, "takeItem", "(ILWalkingLaw$Road;)I"⟩
abbrev cX3_numbersBehind : ByteArray := prog_5_method_5_code
def yX3_numbersBehind : MethodName := ⟨RX3, "numbersBehind", "(I)I"⟩
abbrev cX3_takeNumber : ByteArray := prog_5_method_6_code
def yX3_takeNumber : MethodName := ⟨RX3, "takeNumber", "(IIC)I"⟩
abbrev cX3_addItem : ByteArray := prog_5_method_7_code
def yX3_addItem : MethodName := ⟨RX3, "addItem", "(ILWalkingLaw$Road;)Z"⟩
abbrev cX3_isFigure : ByteArray := prog_5_method_8_code
def yX3_isFigure : MethodName := ⟨RX3, "isFigure", "(I)Z"⟩
abbrev cX3_byteAt : ByteArray := prog_5_method_9_code
def yX3_byteAt : MethodName := ⟨RX3, "byteAt", "(I)I"⟩
def RX4 : String := "WalkingLaw$Walk"
def TX4 : u_T := fun k => match k with
  | 0 => ("WalkingLaw$Walk", "road", "LWalkingLaw$Road;", false)
  | 1 => ("WalkingLaw$Walk", "miles", "[I", true)
  | 2 => ("WalkingLaw$Walk", "backers", "[I", true)
  | 3 => ("WalkingLaw$Walk", "passed", "[I", true)
  | 4 => ("WalkingLaw$Walk", "made", "[I", true)
  | _ => ("WalkingLaw$Walk", "hour", "I", false)
def tyX4 : Nat → FieldType := fun k => match k with
  | 0 => .object "WalkingLaw$Road"
  | 1 => .array .int
  | 2 => .array .int
  | 3 => .array .int
  | 4 => .array .int
  | _ => .int
abbrev wsX40 : List Cond := u_ws RX4 TX4 6
theorem nmX4 : ∀ a, a < 6 → ∀ b, b < 6 → a ≠ b → (TX4 a).2.1 ≠ (TX4 b).2.1 := by decide +kernel
theorem tyX4_ok : ∀ k, k < 6 → parseFieldDescriptor (TX4 k).2.2.1 = some (tyX4 k) := by decide +kernel
abbrev cX4_init : ByteArray := prog_6_method_1_code
def yX4_init : MethodName := ⟨RX4, "<init>", "(LWalkingLaw$Road;)V"⟩
abbrev cX4_begin : ByteArray := prog_6_method_2_code
def yX4_begin : MethodName := ⟨RX4, "begin", "(LWalkingLaw$Road;)V"⟩
abbrev cX4_become : ByteArray := prog_6_method_3_code
def yX4_become : MethodName := ⟨RX4, "become", "(LWalkingLaw$Walk;)V"⟩
abbrev cX4_setMind : ByteArray := prog_6_method_4_code
def yX4_setMind : MethodName := ⟨RX4, "setMind", "(II)V"⟩
abbrev cX4_mindOf : ByteArray := prog_6_method_5_code
def yX4_mindOf : MethodName := ⟨RX4, "mindOf", "(I)I"⟩
abbrev cX4_parishOf : ByteArray := prog_6_method_6_code
def yX4_parishOf : MethodName := ⟨RX4, "parishOf", "(I)I"⟩
abbrev cX4_thoseIn : ByteArray := prog_6_method_7_code
def yX4_thoseIn : MethodName := ⟨RX4, "thoseIn", "(I)I"⟩
abbrev cX4_arrived : ByteArray := prog_6_method_8_code
def yX4_arrived : MethodName := ⟨RX4, "arrived", "()I"⟩
abbrev cX4_goHours : ByteArray := prog_6_method_9_code
def yX4_goHours : MethodName := ⟨RX4, "goHours", "(I)V"⟩
abbrev cX4_goHour : ByteArray := prog_6_method_10_code
def yX4_goHour : MethodName := ⟨RX4, "goHour", "(I)V"⟩
abbrev cX4_clearInns : ByteArray := prog_6_method_11_code
def yX4_clearInns : MethodName := ⟨RX4, "clearInns", "()V"⟩
abbrev cX4_changeMinds : ByteArray := prog_6_method_12_code
def yX4_changeMinds : MethodName := ⟨RX4, "changeMinds", "()V"⟩
abbrev cX4_swayed : ByteArray := prog_6_method_13_code
def yX4_swayed : MethodName := ⟨RX4, "swayed", "(II)I"⟩
abbrev cX4_yesIn : ByteArray := prog_6_method_14_code
def yX4_yesIn : MethodName := ⟨RX4, "yesIn", "(II)I"⟩
abbrev cX4_noIn : ByteArray := prog_6_method_15_code
def yX4_noIn : MethodName := ⟨RX4, "noIn", "(II)I"⟩
abbrev cX4_passesIn : ByteArray := prog_6_method_16_code
def yX4_passesIn : MethodName := ⟨RX4, "passesIn", "(III)Z"⟩
abbrev cX4_yesOf : ByteArray := prog_6_method_17_code
def yX4_yesOf : MethodName := ⟨RX4, "yesOf", "(IIII)I"⟩
abbrev cX4_noOf : ByteArray := prog_6_method_18_code
def yX4_noOf : MethodName := ⟨RX4, "noOf", "(III)I"⟩
abbrev cX4_readOut : ByteArray := prog_6_method_19_code
def yX4_readOut : MethodName := ⟨RX4, "readOut", "(I)Z"⟩
abbrev cX4_readAllFor : ByteArray := prog_6_method_20_code
def yX4_readAllFor : MethodName := ⟨RX4, "readAllFor", "(I)V"⟩
abbrev cX4_isHeld : ByteArray := prog_6_method_21_code
def yX4_isHeld : MethodName := ⟨RX4, "isHeld", "(I)Z"⟩
abbrev cX4_allHeld : ByteArray := prog_6_method_22_code
def yX4_allHeld : MethodName := ⟨RX4, "allHeld", "()I"⟩
def RX5 : String := "WalkingLaw"
def TX5 : u_T := fun k => match k with
  | 0 => ("WalkingLaw", "text", "LWalkingLaw$Text;", true)
  | 1 => ("WalkingLaw", "road", "LWalkingLaw$Road;", false)
  | 2 => ("WalkingLaw", "draft", "LWalkingLaw$Road;", false)
  | 3 => ("WalkingLaw", "now", "LWalkingLaw$Walk;", true)
  | 4 => ("WalkingLaw", "trial", "LWalkingLaw$Walk;", true)
  | 5 => ("WalkingLaw", "kept", "[LWalkingLaw$Walk;", true)
  | 6 => ("WalkingLaw", "keptWalks", "I", false)
  | 7 => ("WalkingLaw", "notes", "LWalkingLaw$Diary;", true)
  | _ => ("WalkingLaw", "rows", "LWalkingLaw$Rows;", true)
def tyX5 : Nat → FieldType := fun k => match k with
  | 0 => .object "WalkingLaw$Text"
  | 1 => .object "WalkingLaw$Road"
  | 2 => .object "WalkingLaw$Road"
  | 3 => .object "WalkingLaw$Walk"
  | 4 => .object "WalkingLaw$Walk"
  | 5 => .array (.object "WalkingLaw$Walk")
  | 6 => .int
  | 7 => .object "WalkingLaw$Diary"
  | _ => .object "WalkingLaw$Rows"
abbrev wsX50 : List Cond := u_ws RX5 TX5 9
theorem nmX5 : ∀ a, a < 9 → ∀ b, b < 9 → a ≠ b → (TX5 a).2.1 ≠ (TX5 b).2.1 := by decide +kernel
theorem tyX5_ok : ∀ k, k < 9 → parseFieldDescriptor (TX5 k).2.2.1 = some (tyX5 k) := by decide +kernel
abbrev cX5_init : ByteArray := prog_1_method_1_code
def yX5_init : MethodName := ⟨RX5, "<init>", "()V"⟩
abbrev cX5_write : ByteArray := prog_1_method_2_code
def yX5_write : MethodName := ⟨RX5, "write", "(IJ)I"⟩
abbrev cX5_wipe : ByteArray := prog_1_method_3_code
def yX5_wipe : MethodName := ⟨RX5, "wipe", "()I"⟩
abbrev cX5_fault : ByteArray := prog_1_method_4_code
def yX5_fault : MethodName := ⟨RX5, "fault", "()I"⟩
abbrev cX5_lay : ByteArray := prog_1_method_5_code
def yX5_lay : MethodName := ⟨RX5, "lay", "()I"⟩
abbrev cX5_parish : ByteArray := prog_1_method_6_code
def yX5_parish : MethodName := ⟨RX5, "parish", "(II)I"⟩
abbrev cX5_member : ByteArray := prog_1_method_7_code
def yX5_member : MethodName := ⟨RX5, "member", "(II)I"⟩
abbrev cX5_hours : ByteArray := prog_1_method_8_code
def yX5_hours : MethodName := ⟨RX5, "hours", "(I)I"⟩
abbrev cX5_voices : ByteArray := prog_1_method_9_code
def yX5_voices : MethodName := ⟨RX5, "voices", "(III)I"⟩
abbrev cX5_read : ByteArray := prog_1_method_10_code
def yX5_read : MethodName := ⟨RX5, "read", "(I)I"⟩
abbrev cX5_bill : ByteArray := prog_1_method_11_code
def yX5_bill : MethodName := ⟨RX5, "bill", "(II)I"⟩
abbrev cX5_mile : ByteArray := prog_1_method_12_code
def yX5_mile : MethodName := ⟨RX5, "mile", "(II)I"⟩
abbrev cX5_who : ByteArray := prog_1_method_13_code
def yX5_who : MethodName := ⟨RX5, "who", "(II)I"⟩
abbrev cX5_arrives : ByteArray := prog_1_method_14_code
def yX5_arrives : MethodName := ⟨RX5, "arrives", "()I"⟩
abbrev cX5_would : ByteArray := prog_1_method_15_code
def yX5_would : MethodName := ⟨RX5, "would", "(I)I"⟩
abbrev cX5_order : ByteArray := prog_1_method_16_code
def yX5_order : MethodName := ⟨RX5, "order", "(I)I"⟩
abbrev cX5_back : ByteArray := prog_1_method_17_code
def yX5_back : MethodName := ⟨RX5, "back", "(I)I"⟩
abbrev cX5_parties : ByteArray := prog_1_method_18_code
def yX5_parties : MethodName := ⟨RX5, "parties", "(II)I"⟩
abbrev cX5_join : ByteArray := prog_1_method_19_code
def yX5_join : MethodName := ⟨RX5, "join", "(II)I"⟩
abbrev cX5_diary : ByteArray := prog_1_method_20_code
def yX5_diary : MethodName := ⟨RX5, "diary", "(III)I"⟩
abbrev cX5_noDiary : ByteArray := prog_1_method_21_code
def yX5_noDiary : MethodName := ⟨RX5, "noDiary", "()I"⟩
abbrev cX5_wrong : ByteArray := prog_1_method_22_code
def yX5_wrong : MethodName := ⟨RX5, "wrong", "()I"⟩
abbrev cX5_late : ByteArray := prog_1_method_23_code
def yX5_late : MethodName := ⟨RX5, "late", "()I"⟩
abbrev cX5_year : ByteArray := prog_1_method_24_code
def yX5_year : MethodName := ⟨RX5, "year", "(I)I"⟩
abbrev cX5_ten : ByteArray := prog_1_method_25_code
def yX5_ten : MethodName := ⟨RX5, "ten", "(II)I"⟩
abbrev cX5_keep : ByteArray := prog_1_method_26_code
def yX5_keep : MethodName := ⟨RX5, "keep", "()I"⟩
abbrev cX5_again : ByteArray := prog_1_method_27_code
def yX5_again : MethodName := ⟨RX5, "again", "()I"⟩
abbrev cX5_count : ByteArray := prog_1_method_28_code
def yX5_count : MethodName := ⟨RX5, "count", "(I)I"⟩
abbrev cX5_isParish : ByteArray := prog_1_method_29_code
def yX5_isParish : MethodName := ⟨RX5, "isParish", "(I)Z"⟩
abbrev cX5_isMember : ByteArray := prog_1_method_30_code
def yX5_isMember : MethodName := ⟨RX5, "isMember", "(I)Z"⟩
abbrev cX5_isBill : ByteArray := prog_1_method_31_code
def yX5_isBill : MethodName := ⟨RX5, "isBill", "(I)Z"⟩
abbrev cX5_isAhead : ByteArray := prog_1_method_32_code
def yX5_isAhead : MethodName := ⟨RX5, "isAhead", "(I)Z"⟩
abbrev cX5_isYear : ByteArray := prog_1_method_33_code
def yX5_isYear : MethodName := ⟨RX5, "isYear", "(I)Z"⟩
abbrev cX5_lookAhead : ByteArray := prog_1_method_34_code
def yX5_lookAhead : MethodName := ⟨RX5, "lookAhead", "(I)V"⟩
abbrev cX5_heldAhead : ByteArray := prog_1_method_35_code
def yX5_heldAhead : MethodName := ⟨RX5, "heldAhead", "(I)I"⟩
abbrev cX5_isParty : ByteArray := prog_1_method_36_code
def yX5_isParty : MethodName := ⟨RX5, "isParty", "(II)Z"⟩
abbrev cX5_heldInYear : ByteArray := prog_1_method_37_code
def yX5_heldInYear : MethodName := ⟨RX5, "heldInYear", "(I)I"⟩
abbrev cX5_drawnMind : ByteArray := prog_1_method_38_code
def yX5_drawnMind : MethodName := ⟨RX5, "drawnMind", "(II)I"⟩
abbrev cX5_lowestOf : ByteArray := prog_1_method_39_code
def yX5_lowestOf : MethodName := ⟨RX5, "lowestOf", "(I)I"⟩
def RX6 : String := "WalkingLawModel"
def TX6 : u_T := fun k => match k with
  | 0 => ("WalkingLawModel", "length", "I", false)
  | 1 => ("WalkingLawModel", "text", "[B", true)
  | 2 => ("WalkingLawModel", "at", "I", false)
  | 3 => ("WalkingLawModel", "told", "[I", true)
  | 4 => ("WalkingLawModel", "parishes", "[I", true)
  | 5 => ("WalkingLawModel", "parish", "[I", true)
  | 6 => ("WalkingLawModel", "members", "[I", true)
  | 7 => ("WalkingLawModel", "member", "[I", true)
  | 8 => ("WalkingLawModel", "slot", "[I", true)
  | 9 => ("WalkingLawModel", "kept", "I", false)
  | 10 => ("WalkingLawModel", "lines", "I", false)
  | 11 => ("WalkingLawModel", "line", "[I", true)
  | 12 => ("WalkingLawModel", "so", "[Z", true)
  | 13 => ("WalkingLawModel", "row", "[I", true)
  | 14 => ("WalkingLawModel", "best", "[I", true)
  | 15 => ("WalkingLawModel", "joined", "I", false)
  | 16 => ("WalkingLawModel", "got", "[I", true)
  | 17 => ("WalkingLawModel", "yeses", "I", false)
  | _ => ("WalkingLawModel", "noes", "I", false)
def tyX6 : Nat → FieldType := fun k => match k with
  | 0 => .int
  | 1 => .array .byte
  | 2 => .int
  | 3 => .array .int
  | 4 => .array .int
  | 5 => .array .int
  | 6 => .array .int
  | 7 => .array .int
  | 8 => .array .int
  | 9 => .int
  | 10 => .int
  | 11 => .array .int
  | 12 => .array .boolean
  | 13 => .array .int
  | 14 => .array .int
  | 15 => .int
  | 16 => .array .int
  | 17 => .int
  | _ => .int
abbrev wsX60 : List Cond := u_ws RX6 TX6 19
theorem nmX6 : ∀ a, a < 19 → ∀ b, b < 19 → a ≠ b → (TX6 a).2.1 ≠ (TX6 b).2.1 := by decide +kernel
theorem tyX6_ok : ∀ k, k < 19 → parseFieldDescriptor (TX6 k).2.2.1 = some (tyX6 k) := by decide +kernel
abbrev cX6_init : ByteArray := prog_8_method_1_code
def yX6_init : MethodName := ⟨RX6, "<init>", "()V"⟩
abbrev cX6_in : ByteArray := prog_8_method_2_code
def yX6_in : MethodName := ⟨RX6, "in", "(JJJ)Z"⟩
abbrev cX6_write : ByteArray := prog_8_method_3_code
def yX6_write : MethodName := ⟨RX6, "write", "(IJ)I"⟩
abbrev cX6_wipe : ByteArray := prog_8_method_4_code
def yX6_wipe : MethodName := ⟨RX6, "wipe", "()I"⟩
abbrev cX6_number : ByteArray := prog_8_method_5_code
def yX6_number : MethodName := ⟨RX6, "number", "()I"⟩
abbrev cX6_isIn : ByteArray := prog_8_method_6_code
def yX6_isIn : MethodName := ⟨RX6, "isIn", "(III)Z"⟩
abbrev cX6_isItem : ByteArray := prog_8_method_7_code
def yX6_isItem : MethodName := ⟨RX6, "isItem", "()Z"⟩
abbrev cX6_isGood : ByteArray := prog_8_method_8_code
def yX6_isGood : MethodName := ⟨RX6, "isGood", "(I)Z"⟩
abbrev cX6_begins : ByteArray := prog_8_method_9_code
def yX6_begins : MethodName := ⟨RX6, "begins", "()V"⟩
abbrev cX6_takes : ByteArray := prog_8_method_10_code
def yX6_takes : MethodName := ⟨RX6, "takes", "()V"⟩
abbrev cX6_laid : ByteArray := prog_8_method_11_code
def yX6_laid : MethodName := ⟨RX6, "laid", "(I)V"⟩
abbrev cX6_fault : ByteArray := prog_8_method_12_code
def yX6_fault : MethodName := ⟨RX6, "fault", "()I"⟩
abbrev cX6_lay : ByteArray := prog_8_method_13_code
def yX6_lay : MethodName := ⟨RX6, "lay", "()I"⟩
abbrev cX6_isParish : ByteArray := prog_8_method_14_code
def yX6_isParish : MethodName := ⟨RX6, "isParish", "(I)Z"⟩
abbrev cX6_isMember : ByteArray := prog_8_method_15_code
def yX6_isMember : MethodName := ⟨RX6, "isMember", "(I)Z"⟩
abbrev cX6_isBill : ByteArray := prog_8_method_16_code
def yX6_isBill : MethodName := ⟨RX6, "isBill", "(I)Z"⟩
abbrev cX6_begin : ByteArray := prog_8_method_17_code
def yX6_begin : MethodName := ⟨RX6, "begin", "(I)I"⟩
abbrev cX6_end : ByteArray := prog_8_method_18_code
def yX6_end : MethodName := ⟨RX6, "end", "()I"⟩
abbrev cX6_parishOf : ByteArray := prog_8_method_19_code
def yX6_parishOf : MethodName := ⟨RX6, "parishOf", "(I)I"⟩
abbrev cX6_there : ByteArray := prog_8_method_20_code
def yX6_there : MethodName := ⟨RX6, "there", "(II)I"⟩
abbrev cX6_many : ByteArray := prog_8_method_21_code
def yX6_many : MethodName := ⟨RX6, "many", "(I)I"⟩
abbrev cX6_parish : ByteArray := prog_8_method_22_code
def yX6_parish : MethodName := ⟨RX6, "parish", "(II)I"⟩
abbrev cX6_member : ByteArray := prog_8_method_23_code
def yX6_member : MethodName := ⟨RX6, "member", "(II)I"⟩
abbrev cX6_pace : ByteArray := prog_8_method_24_code
def yX6_pace : MethodName := ⟨RX6, "pace", "(II)I"⟩
abbrev cX6_hour : ByteArray := prog_8_method_25_code
def yX6_hour : MethodName := ⟨RX6, "hour", "(II)V"⟩
abbrev cX6_beds : ByteArray := prog_8_method_26_code
def yX6_beds : MethodName := ⟨RX6, "beds", "(I)V"⟩
abbrev cX6_minds : ByteArray := prog_8_method_27_code
def yX6_minds : MethodName := ⟨RX6, "minds", "(I)V"⟩
abbrev cX6_hours : ByteArray := prog_8_method_28_code
def yX6_hours : MethodName := ⟨RX6, "hours", "(I)I"⟩
abbrev cX6_atEnd : ByteArray := prog_8_method_29_code
def yX6_atEnd : MethodName := ⟨RX6, "atEnd", "(I)I"⟩
abbrev cX6_passes : ByteArray := prog_8_method_30_code
def yX6_passes : MethodName := ⟨RX6, "passes", "(IIII)Z"⟩
abbrev cX6_voices : ByteArray := prog_8_method_31_code
def yX6_voices : MethodName := ⟨RX6, "voices", "(III)I"⟩
abbrev cX6_isRead : ByteArray := prog_8_method_32_code
def yX6_isRead : MethodName := ⟨RX6, "isRead", "(II)Z"⟩
abbrev cX6_isHeld : ByteArray := prog_8_method_33_code
def yX6_isHeld : MethodName := ⟨RX6, "isHeld", "(II)Z"⟩
abbrev cX6_read : ByteArray := prog_8_method_34_code
def yX6_read : MethodName := ⟨RX6, "read", "(I)I"⟩
abbrev cX6_bill : ByteArray := prog_8_method_35_code
def yX6_bill : MethodName := ⟨RX6, "bill", "(II)I"⟩
abbrev cX6_copies : ByteArray := prog_8_method_36_code
def yX6_copies : MethodName := ⟨RX6, "copies", "(II)V"⟩
abbrev cX6_tries : ByteArray := prog_8_method_37_code
def yX6_tries : MethodName := ⟨RX6, "tries", "(I)V"⟩
abbrev cX6_isAhead : ByteArray := prog_8_method_38_code
def yX6_isAhead : MethodName := ⟨RX6, "isAhead", "(I)Z"⟩
abbrev cX6_mile : ByteArray := prog_8_method_39_code
def yX6_mile : MethodName := ⟨RX6, "mile", "(II)I"⟩
abbrev cX6_who : ByteArray := prog_8_method_40_code
def yX6_who : MethodName := ⟨RX6, "who", "(II)I"⟩
abbrev cX6_arrives : ByteArray := prog_8_method_41_code
def yX6_arrives : MethodName := ⟨RX6, "arrives", "()I"⟩
abbrev cX6_would : ByteArray := prog_8_method_42_code
def yX6_would : MethodName := ⟨RX6, "would", "(I)I"⟩
abbrev cX6_holds : ByteArray := prog_8_method_43_code
def yX6_holds : MethodName := ⟨RX6, "holds", "()I"⟩
abbrev cX6_order : ByteArray := prog_8_method_44_code
def yX6_order : MethodName := ⟨RX6, "order", "(I)I"⟩
abbrev cX6_held : ByteArray := prog_8_method_45_code
def yX6_held : MethodName := ⟨RX6, "held", "(I)I"⟩
abbrev cX6_readAll : ByteArray := prog_8_method_46_code
def yX6_readAll : MethodName := ⟨RX6, "readAll", "()I"⟩
abbrev cX6_back : ByteArray := prog_8_method_47_code
def yX6_back : MethodName := ⟨RX6, "back", "(I)I"⟩
abbrev cX6_paces : ByteArray := prog_8_method_48_code
def yX6_paces : MethodName := ⟨RX6, "paces", "(I)I"⟩
abbrev cX6_isParty : ByteArray := prog_8_method_49_code
def yX6_isParty : MethodName := ⟨RX6, "isParty", "(II)Z"⟩
abbrev cX6_parties : ByteArray := prog_8_method_50_code
def yX6_parties : MethodName := ⟨RX6, "parties", "(II)I"⟩
abbrev cX6_join : ByteArray := prog_8_method_51_code
def yX6_join : MethodName := ⟨RX6, "join", "(II)I"⟩
abbrev cX6_diary : ByteArray := prog_8_method_52_code
def yX6_diary : MethodName := ⟨RX6, "diary", "(III)I"⟩
abbrev cX6_noDiary : ByteArray := prog_8_method_53_code
def yX6_noDiary : MethodName := ⟨RX6, "noDiary", "()I"⟩
abbrev cX6_goes : ByteArray := prog_8_method_54_code
def yX6_goes : MethodName := ⟨RX6, "goes", "()V"⟩
abbrev cX6_wrong : ByteArray := prog_8_method_55_code
def yX6_wrong : MethodName := ⟨RX6, "wrong", "()I"⟩
abbrev cX6_right : ByteArray := prog_8_method_56_code
def yX6_right : MethodName := ⟨RX6, "right", "(I)I"⟩
abbrev cX6_late : ByteArray := prog_8_method_57_code
def yX6_late : MethodName := ⟨RX6, "late", "()I"⟩
abbrev cX6_yearOf : ByteArray := prog_8_method_58_code
def yX6_yearOf : MethodName := ⟨RX6, "yearOf", "(I)I"⟩
abbrev cX6_isSeed : ByteArray := prog_8_method_59_code
def yX6_isSeed : MethodName := ⟨RX6, "isSeed", "(I)Z"⟩
abbrev cX6_year : ByteArray := prog_8_method_60_code
def yX6_year : MethodName := ⟨RX6, "year", "(I)I"⟩
abbrev cX6_ten : ByteArray := prog_8_method_61_code
def yX6_ten : MethodName := ⟨RX6, "ten", "(II)I"⟩
abbrev cX6_keep : ByteArray := prog_8_method_62_code
def yX6_keep : MethodName := ⟨RX6, "keep", "()I"⟩
abbrev cX6_again : ByteArray := prog_8_method_63_code
def yX6_again : MethodName := ⟨RX6, "again", "()I"⟩
abbrev cX6_count : ByteArray := prog_8_method_64_code
def yX6_count : MethodName := ⟨RX6, "count", "(I)I"⟩
def RJ6 : String := "java/lang/Integer"
def TJ6 : u_T := fun k => match k with
  | _ => ("", "", "", false)
def tyJ6 : Nat → FieldType := fun k => match k with
  | _ => .int
abbrev wsJ60 : List Cond := u_ws RJ6 TJ6 0
theorem nmJ6 : ∀ a, a < 0 → ∀ b, b < 0 → a ≠ b → (TJ6 a).2.1 ≠ (TJ6 b).2.1 := by decide +kernel
theorem tyJ6_ok : ∀ k, k < 0 → parseFieldDescriptor (TJ6 k).2.2.1 = some (tyJ6 k) := by decide +kernel
abbrev cJ6_bitCount_0f7a4 : ByteArray := prog_9_method_49_code
def yJ6_bitCount_0f7a4 : MethodName := ⟨RJ6, "bitCount", "(I)I"⟩
def RJ9 : String := "java/lang/Math"
def TJ9 : u_T := fun k => match k with
  | _ => ("", "", "", false)
def tyJ9 : Nat → FieldType := fun k => match k with
  | _ => .int
abbrev wsJ90 : List Cond := u_ws RJ9 TJ9 0
theorem nmJ9 : ∀ a, a < 0 → ∀ b, b < 0 → a ≠ b → (TJ9 a).2.1 ≠ (TJ9 b).2.1 := by decide +kernel
theorem tyJ9_ok : ∀ k, k < 0 → parseFieldDescriptor (TJ9 k).2.2.1 = some (tyJ9 k) := by decide +kernel
abbrev cJ9_max_7cf53 : ByteArray := prog_10_method_65_code
def yJ9_max_7cf53 : MethodName := ⟨RJ9, "max", "(II)I"⟩
abbrev cJ9_min_7cf53 : ByteArray := prog_10_method_69_code
def yJ9_min_7cf53 : MethodName := ⟨RJ9, "min", "(II)I"⟩
def RL : String := "WalkingLawLaw"
abbrev cL_law : ByteArray := code
def yL_law : MethodName := ⟨RL, "law", "([I)Z"⟩

def xgd (w : Cond) : Bool := w.onTables && w.keeps
def xbig : List Cond := lw_tbl.filter xgd
def xnst : List Cond := [.fieldLinkNest "WalkingLaw" 71 "WalkingLaw$Text" "length" "I" "WalkingLaw",
  .fieldLinkNest "WalkingLaw$Rows" 39 "WalkingLaw$Road" "parishes" "I" "WalkingLaw",
  .fieldLinkNest "WalkingLaw" 78 "WalkingLaw$Road" "parishes" "I" "WalkingLaw",
  .fieldLinkNest "WalkingLaw$Walk" 55 "WalkingLaw$Road" "parishes" "I" "WalkingLaw",
  .fieldLinkNest "WalkingLaw" 94 "WalkingLaw$Road" "lengths" "[I" "WalkingLaw",
  .fieldLinkNest "WalkingLaw" 98 "WalkingLaw$Road" "muddy" "[I" "WalkingLaw",
  .fieldLinkNest "WalkingLaw" 101 "WalkingLaw$Road" "beds" "[I" "WalkingLaw",
  .fieldLinkNest "WalkingLaw$Walk" 88 "WalkingLaw$Road" "beds" "[I" "WalkingLaw",
  .fieldLinkNest "WalkingLaw$Walk" 52 "WalkingLaw$Road" "firstMiles" "[I" "WalkingLaw",
  .fieldLinkNest "WalkingLaw$Walk" 58 "WalkingLaw$Road" "end" "I" "WalkingLaw",
  .fieldLinkNest "WalkingLaw" 217 "WalkingLaw$Road" "end" "I" "WalkingLaw",
  .fieldLinkNest "WalkingLaw$Walk" 36 "WalkingLaw$Road" "members" "I" "WalkingLaw",
  .fieldLinkNest "WalkingLaw" 81 "WalkingLaw$Road" "members" "I" "WalkingLaw",
  .fieldLinkNest "WalkingLaw" 111 "WalkingLaw$Road" "kinds" "[I" "WalkingLaw",
  .fieldLinkNest "WalkingLaw" 114 "WalkingLaw$Road" "paces" "[I" "WalkingLaw",
  .fieldLinkNest "WalkingLaw$Walk" 41 "WalkingLaw$Road" "minds" "[I" "WalkingLaw",
  .fieldLinkNest "WalkingLaw$Walk" 115 "WalkingLaw$Road" "ofKind" "[I" "WalkingLaw",
  .fieldLinkNest "WalkingLaw$Walk" 108 "WalkingLaw$Road" "quorum" "I" "WalkingLaw",
  .fieldLinkNest "WalkingLaw" 220 "WalkingLaw$Road" "quorum" "I" "WalkingLaw",
  .fieldLinkNest "WalkingLaw$Rows" 33 "WalkingLaw$Road" "bills" "I" "WalkingLaw",
  .fieldLinkNest "WalkingLaw$Walk" 91 "WalkingLaw$Road" "bills" "I" "WalkingLaw",
  .fieldLinkNest "WalkingLaw" 214 "WalkingLaw$Road" "bills" "I" "WalkingLaw",
  .fieldLinkNest "WalkingLaw$Rows" 27 "WalkingLaw$Walk" "road" "LWalkingLaw$Road;" "WalkingLaw",
  .fieldLinkNest "WalkingLaw" 120 "WalkingLaw$Walk" "miles" "[I" "WalkingLaw",
  .fieldLinkNest "WalkingLaw$Rows" 53 "WalkingLaw$Walk" "passed" "[I" "WalkingLaw",
  .fieldLinkNest "WalkingLaw" 153 "WalkingLaw$Walk" "passed" "[I" "WalkingLaw",
  .fieldLinkNest "WalkingLaw" 159 "WalkingLaw$Walk" "made" "[I" "WalkingLaw",
  .fieldLinkNest "WalkingLaw" 126 "WalkingLaw$Walk" "hour" "I" "WalkingLaw",
  .fieldLinkNest "WalkingLaw" 87 "WalkingLaw$Diary" "lines" "I" "WalkingLaw",
  .fieldLinkNest "WalkingLaw" 178 "WalkingLaw$Rows" "best" "[I" "WalkingLaw",
  .fieldLinkNest "WalkingLaw" 175 "WalkingLaw$Rows" "most" "I" "WalkingLaw",
  .methodLinkNest "WalkingLaw" 9 ⟨"WalkingLaw$Text", "<init>", "()V"⟩ "WalkingLaw",
  .methodLinkNest "WalkingLaw" 55 ⟨"WalkingLaw$Diary", "<init>", "()V"⟩ "WalkingLaw",
  .methodLinkNest "WalkingLaw" 62 ⟨"WalkingLaw$Rows", "<init>", "()V"⟩ "WalkingLaw",
  .methodLinkNest "WalkingLaw$Walk" 97 ⟨"WalkingLaw", "lowestOf", "(I)I"⟩ "WalkingLaw"]
theorem xnst_ok : xnst.all (fun w => w.onTables) = true := by decide +kernel
theorem xnst_tbl : ∀ w ∈ xnst, w ∈ lw_tbl := by decide +kernel
theorem xb_m {w : Cond} (n : Nat) (h : lw_tbl[n]? = some w) (g : xgd w = true) : w ∈ xbig := List.mem_filter.mpr ⟨List.mem_of_getElem? h, g⟩

def RX0 : String := "LineGuild$Asking"
def TX0 : u_T := fun k => match k with
  | 0 => ("LineGuild$Asking", "ends", "LLineGuild$Ends;", true)
  | _ => ("LineGuild$Asking", "values", "[I", true)
def tyX0 : Nat → FieldType := fun k => match k with
  | 0 => .object "LineGuild$Ends"
  | _ => .array .int
abbrev wsX00 : List Cond := u_ws RX0 TX0 2
theorem nmX0 : ∀ a, a < 2 → ∀ b, b < 2 → a ≠ b → (TX0 a).2.1 ≠ (TX0 b).2.1 := by decide +kernel
theorem tyX0_ok : ∀ k, k < 2 → parseFieldDescriptor (TX0 k).2.2.1 = some (tyX0 k) := by decide +kernel
abbrev cX0_init : ByteArray := prog_2_method_1_code
def yX0_init : MethodName := ⟨RX0, "<init>", "(LLineGuild$Ends;)V"⟩
abbrev cX0_ofTeller : ByteArray := prog_2_method_2_code
def yX0_ofTeller : MethodName := ⟨RX0, "ofTeller", "(LLineGuild$Hall;LLineGuild$Law;II)I"⟩
abbrev cX0_ofListener : ByteArray := prog_2_method_3_code
def yX0_ofListener : MethodName := ⟨RX0, "ofListener", "(LLineGuild$Hall;LLineGuild$Law;III)I"⟩
abbrev cX0_ofEnd : ByteArray := prog_2_method_4_code
def yX0_ofEnd : MethodName := ⟨RX0, "ofEnd", "(LLineGuild$Hall;LLineGuild$Law;II)I"⟩
abbrev cX0_begin : ByteArray := prog_2_method_5_code
def yX0_begin : MethodName := ⟨RX0, "begin", "(LLineGuild$Hall;)V"⟩
abbrev cX0_putTeller : ByteArray := prog_2_method_6_code
def yX0_putTeller : MethodName := ⟨RX0, "putTeller", "(LLineGuild$Hall;I)V"⟩
def RX1 : String := "LineGuild$Course"
def TX1 : u_T := fun k => match k with
  | 0 => ("LineGuild$Course", "stories", "[LLineGuild$Story;", true)
  | 1 => ("LineGuild$Course", "ends", "LLineGuild$Ends;", true)
  | 2 => ("LineGuild$Course", "asking", "LLineGuild$Asking;", true)
  | 3 => ("LineGuild$Course", "hall", "LLineGuild$Hall;", false)
  | 4 => ("LineGuild$Course", "law", "LLineGuild$Law;", false)
  | 5 => ("LineGuild$Course", "night", "I", false)
  | 6 => ("LineGuild$Course", "pence", "I", false)
  | 7 => ("LineGuild$Course", "bought", "I", false)
  | 8 => ("LineGuild$Course", "forgedOnes", "I", false)
  | 9 => ("LineGuild$Course", "ill", "I", false)
  | 10 => ("LineGuild$Course", "gone", "I", false)
  | 11 => ("LineGuild$Course", "closed", "I", false)
  | 12 => ("LineGuild$Course", "given", "I", false)
  | 13 => ("LineGuild$Course", "firstIll", "I", false)
  | _ => ("LineGuild$Course", "firstIllIn", "I", false)
def tyX1 : Nat → FieldType := fun k => match k with
  | 0 => .array (.object "LineGuild$Story")
  | 1 => .object "LineGuild$Ends"
  | 2 => .object "LineGuild$Asking"
  | 3 => .object "LineGuild$Hall"
  | 4 => .object "LineGuild$Law"
  | 5 => .int
  | 6 => .int
  | 7 => .int
  | 8 => .int
  | 9 => .int
  | 10 => .int
  | 11 => .int
  | 12 => .int
  | 13 => .int
  | _ => .int
abbrev wsX10 : List Cond := u_ws RX1 TX1 15
theorem nmX1 : ∀ a, a < 15 → ∀ b, b < 15 → a ≠ b → (TX1 a).2.1 ≠ (TX1 b).2.1 := by decide +kernel
theorem tyX1_ok : ∀ k, k < 15 → parseFieldDescriptor (TX1 k).2.2.1 = some (tyX1 k) := by decide +kernel
abbrev cX1_init : ByteArray := prog_3_method_1_code
def yX1_init : MethodName := ⟨RX1, "<init>", "([LLineGuild$Story;LLineGuild$Ends;LLineGuild$Asking;LLineGuild$Hall;LLineGuild$Law;)V"⟩
abbrev cX1_run : ByteArray := prog_3_method_2_code
def yX1_run : MethodName := ⟨RX1, "run", "(LLineGuild$Hall;LLineGuild$Law;I)V"⟩
abbrev cX1_beginIn : ByteArray := prog_3_method_3_code
def yX1_beginIn : MethodName := ⟨RX1, "beginIn", "(LLineGuild$Hall;LLineGuild$Law;)V"⟩
abbrev cX1_result : ByteArray := prog_3_method_4_code
def yX1_result : MethodName := ⟨RX1, "result", "(I)I"⟩
abbrev cX1_visit : ByteArray := prog_3_method_5_code
def yX1_visit : MethodName := ⟨RX1, "visit", "(I)V"⟩
abbrev cX1_storyOf : ByteArray := prog_3_method_6_code
def yX1_storyOf : MethodName := ⟨RX1, "storyOf", "(I)LLineGuild$Story;"⟩
abbrev cX1_tellOn : ByteArray := prog_3_method_7_code
def yX1_tellOn : MethodName := ⟨RX1, "tellOn", "(ILLineGuild$Story;)V"⟩
abbrev cX1_buyOne : ByteArray := prog_3_method_8_code
def yX1_buyOne : MethodName := ⟨RX1, "buyOne", "(III)I"⟩
abbrev cX1_listen : ByteArray := prog_3_method_9_code
def yX1_listen : MethodName := ⟨RX1, "listen", "(II)V"⟩
abbrev cX1_tire : ByteArray := prog_3_method_10_code
def yX1_tire : MethodName := ⟨RX1, "tire", "(II)V"⟩
abbrev cX1_collect : ByteArray := prog_3_method_11_code
def yX1_collect : MethodName := ⟨RX1, "collect", "(I)V"⟩
def RX2 : String := "LineGuild$Ends"
def TX2 : u_T := fun k => match k with
  | 0 => ("LineGuild$Ends", "told", "I", false)
  | 1 => ("LineGuild$Ends", "threads", "[I", true)
  | 2 => ("LineGuild$Ends", "prices", "[I", true)
  | 3 => ("LineGuild$Ends", "days", "[I", true)
  | 4 => ("LineGuild$Ends", "asked", "[I", true)
  | 5 => ("LineGuild$Ends", "listed", "[I", true)
  | 6 => ("LineGuild$Ends", "sums", "[I", true)
  | 7 => ("LineGuild$Ends", "others", "[I", true)
  | 8 => ("LineGuild$Ends", "chosen", "I", false)
  | 9 => ("LineGuild$Ends", "chosenPence", "I", false)
  | 10 => ("LineGuild$Ends", "made", "I", false)
  | 11 => ("LineGuild$Ends", "madeDays", "I", false)
  | _ => ("LineGuild$Ends", "worth", "I", false)
def tyX2 : Nat → FieldType := fun k => match k with
  | 0 => .int
  | 1 => .array .int
  | 2 => .array .int
  | 3 => .array .int
  | 4 => .array .int
  | 5 => .array .int
  | 6 => .array .int
  | 7 => .array .int
  | 8 => .int
  | 9 => .int
  | 10 => .int
  | 11 => .int
  | _ => .int
abbrev wsX20 : List Cond := u_ws RX2 TX2 13
theorem nmX2 : ∀ a, a < 13 → ∀ b, b < 13 → a ≠ b → (TX2 a).2.1 ≠ (TX2 b).2.1 := by decide +kernel
theorem tyX2_ok : ∀ k, k < 13 → parseFieldDescriptor (TX2 k).2.2.1 = some (tyX2 k) := by decide +kernel
abbrev cX2_init : ByteArray := prog_4_method_1_code
def yX2_init : MethodName := ⟨RX2, "<init>", "()V"⟩
abbrev cX2_take : ByteArray := prog_4_method_2_code
def yX2_take : MethodName := ⟨RX2, "take", "(IIII)V"⟩
abbrev cX2_isTold : ByteArray := prog_4_method_3_code
def yX2_isTold : MethodName := ⟨RX2, "isTold", "(I)Z"⟩
abbrev cX2_chooseFor : ByteArray := prog_4_method_4_code
def yX2_chooseFor : MethodName := ⟨RX2, "chooseFor", "(ILLineGuild$Hall;LLineGuild$Law;LLineGuild$Asking;)Z"⟩
abbrev cX2_isCheaper : ByteArray := prog_4_method_5_code
def yX2_isCheaper : MethodName := ⟨RX2, "isCheaper", "(II)Z"⟩
abbrev cX2_endsOf : ByteArray := prog_4_method_6_code
def yX2_endsOf : MethodName := ⟨RX2, "endsOf", "(II)I"⟩
abbrev cX2_planWinter : ByteArray := prog_4_method_7_code
def yX2_planWinter : MethodName := ⟨RX2, "planWinter", "(I[I)V"⟩
abbrev cX2_leftOf : ByteArray := prog_4_method_8_code
def yX2_leftOf : MethodName := ⟨RX2, "leftOf", "(III)I"⟩
abbrev cX2_nextToSniff : ByteArray := prog_4_method_9_code
def yX2_nextToSniff : MethodName := ⟨RX2, "nextToSniff", "(I)I"⟩
def RX3 : String := "LineGuild$Fitting"
def TX3 : u_T := fun k => match k with
  | 0 => ("LineGuild$Fitting", "sets", "[I", true)
  | 1 => ("LineGuild$Fitting", "many", "I", false)
  | 2 => ("LineGuild$Fitting", "fewest", "[I", false)
  | 3 => ("LineGuild$Fitting", "fewestBehind", "[I", false)
  | 4 => ("LineGuild$Fitting", "outEarly", "[J", true)
  | 5 => ("LineGuild$Fitting", "outLate", "[J", true)
  | 6 => ("LineGuild$Fitting", "leftOut", "[I", true)
  | _ => ("LineGuild$Fitting", "leftOutCount", "I", false)
def tyX3 : Nat → FieldType := fun k => match k with
  | 0 => .array .int
  | 1 => .int
  | 2 => .array .int
  | 3 => .array .int
  | 4 => .array .long
  | 5 => .array .long
  | 6 => .array .int
  | _ => .int
abbrev wsX30 : List Cond := u_ws RX3 TX3 8
theorem nmX3 : ∀ a, a < 8 → ∀ b, b < 8 → a ≠ b → (TX3 a).2.1 ≠ (TX3 b).2.1 := by decide +kernel
theorem tyX3_ok : ∀ k, k < 8 → parseFieldDescriptor (TX3 k).2.2.1 = some (tyX3 k) := by decide +kernel
abbrev cX3_init : ByteArray := prog_5_method_1_code
def yX3_init : MethodName := ⟨RX3, "<init>", "()V"⟩
abbrev cX3_solve : ByteArray := prog_5_method_2_code
def yX3_solve : MethodName := ⟨RX3, "solve", "(LLineGuild$Story;I)V"⟩
abbrev cX3_threadsEver : ByteArray := prog_5_method_3_code
def yX3_threadsEver : MethodName := ⟨RX3, "threadsEver", "(LLineGuild$Story;)I"⟩
abbrev cX3_listSets : ByteArray := prog_5_method_4_code
def yX3_listSets : MethodName := ⟨RX3, "listSets", "(I)V"⟩
abbrev cX3_goBack : ByteArray := prog_5_method_5_code
def yX3_goBack : MethodName := ⟨RX3, "goBack", "(II)V"⟩
abbrev cX3_markLeftOut : ByteArray := prog_5_method_6_code
def yX3_markLeftOut : MethodName := ⟨RX3, "markLeftOut", "(II)V"⟩
abbrev cX3_isLeftOut : ByteArray := prog_5_method_7_code
def yX3_isLeftOut : MethodName := ⟨RX3, "isLeftOut", "(II)Z"⟩
def RX4 : String := "LineGuild$Hall"
def TX4 : u_T := fun k => match k with
  | 0 => ("LineGuild$Hall", "tellers", "I", false)
  | 1 => ("LineGuild$Hall", "storyOf", "[I", true)
  | 2 => ("LineGuild$Hall", "purse", "[I", true)
  | 3 => ("LineGuild$Hall", "turn", "[I", true)
  | 4 => ("LineGuild$Hall", "open", "[I", true)
  | 5 => ("LineGuild$Hall", "listeners", "I", false)
  | 6 => ("LineGuild$Hall", "tellerOf", "[I", true)
  | 7 => ("LineGuild$Hall", "age", "[I", true)
  | 8 => ("LineGuild$Hall", "tired", "[I", true)
  | 9 => ("LineGuild$Hall", "stock", "[I", true)
  | 10 => ("LineGuild$Hall", "evening", "I", false)
  | 11 => ("LineGuild$Hall", "ill", "I", false)
  | 12 => ("LineGuild$Hall", "told", "I", false)
  | _ => ("LineGuild$Hall", "x", "I", false)
def tyX4 : Nat → FieldType := fun k => match k with
  | 0 => .int
  | 1 => .array .int
  | 2 => .array .int
  | 3 => .array .int
  | 4 => .array .int
  | 5 => .int
  | 6 => .array .int
  | 7 => .array .int
  | 8 => .array .int
  | 9 => .array .int
  | 10 => .int
  | 11 => .int
  | 12 => .int
  | _ => .int
abbrev wsX40 : List Cond := u_ws RX4 TX4 14
theorem nmX4 : ∀ a, a < 14 → ∀ b, b < 14 → a ≠ b → (TX4 a).2.1 ≠ (TX4 b).2.1 := by decide +kernel
theorem tyX4_ok : ∀ k, k < 14 → parseFieldDescriptor (TX4 k).2.2.1 = some (tyX4 k) := by decide +kernel
abbrev cX4_init : ByteArray := prog_6_method_1_code
def yX4_init : MethodName := ⟨RX4, "<init>", "()V"⟩
abbrev cX4_takeFrom : ByteArray := prog_6_method_2_code
def yX4_takeFrom : MethodName := ⟨RX4, "takeFrom", "(LLineGuild$Hall;)V"⟩
abbrev cX4_takeTeller : ByteArray := prog_6_method_3_code
def yX4_takeTeller : MethodName := ⟨RX4, "takeTeller", "(III)V"⟩
abbrev cX4_takeListener : ByteArray := prog_6_method_4_code
def yX4_takeListener : MethodName := ⟨RX4, "takeListener", "(III)V"⟩
abbrev cX4_beginAnew : ByteArray := prog_6_method_5_code
def yX4_beginAnew : MethodName := ⟨RX4, "beginAnew", "(I)V"⟩
abbrev cX4_isBound : ByteArray := prog_6_method_6_code
def yX4_isBound : MethodName := ⟨RX4, "isBound", "(II)Z"⟩
abbrev cX4_boundTo : ByteArray := prog_6_method_7_code
def yX4_boundTo : MethodName := ⟨RX4, "boundTo", "(I)I"⟩
abbrev cX4_draw : ByteArray := prog_6_method_8_code
def yX4_draw : MethodName := ⟨RX4, "draw", "()I"⟩
def RX5 : String := "LineGuild$Law"
def TX5 : u_T := fun k => match k with
  | 0 => ("LineGuild$Law", "clauses", "I", false)
  | 1 => ("LineGuild$Law", "kinds", "[I", true)
  | 2 => ("LineGuild$Law", "starts", "[I", true)
  | 3 => ("LineGuild$Law", "middles", "[I", true)
  | 4 => ("LineGuild$Law", "stops", "[I", true)
  | 5 => ("LineGuild$Law", "size", "I", false)
  | 6 => ("LineGuild$Law", "steps", "[I", true)
  | 7 => ("LineGuild$Law", "stack", "[I", true)
  | _ => ("LineGuild$Law", "refused", "Z", false)
def tyX5 : Nat → FieldType := fun k => match k with
  | 0 => .int
  | 1 => .array .int
  | 2 => .array .int
  | 3 => .array .int
  | 4 => .array .int
  | 5 => .int
  | 6 => .array .int
  | 7 => .array .int
  | _ => .boolean
abbrev wsX50 : List Cond := u_ws RX5 TX5 9
theorem nmX5 : ∀ a, a < 9 → ∀ b, b < 9 → a ≠ b → (TX5 a).2.1 ≠ (TX5 b).2.1 := by decide +kernel
theorem tyX5_ok : ∀ k, k < 9 → parseFieldDescriptor (TX5 k).2.2.1 = some (tyX5 k) := by decide +kernel
abbrev cX5_init : ByteArray := prog_7_method_1_code
def yX5_init : MethodName := ⟨RX5, "<init>", "()V"⟩
abbrev cX5_clear : ByteArray := prog_7_method_2_code
def yX5_clear : MethodName := ⟨RX5, "clear", "()V"⟩
abbrev cX5_takeFrom : ByteArray := prog_7_method_3_code
def yX5_takeFrom : MethodName := ⟨RX5, "takeFrom", "(LLineGuild$Law;)V"⟩
abbrev cX5_addStep : ByteArray := prog_7_method_4_code
def yX5_addStep : MethodName := ⟨RX5, "addStep", "(II)V"⟩
abbrev cX5_leapHere : ByteArray := prog_7_method_5_code
def yX5_leapHere : MethodName := ⟨RX5, "leapHere", "(I)V"⟩
abbrev cX5_addClause : ByteArray := prog_7_method_6_code
def yX5_addClause : MethodName := ⟨RX5, "addClause", "(III)V"⟩
abbrev cX5_worthOf : ByteArray := prog_7_method_7_code
def yX5_worthOf : MethodName := ⟨RX5, "worthOf", "(I[I)I"⟩
abbrev cX5_reckon : ByteArray := prog_7_method_8_code
def yX5_reckon : MethodName := ⟨RX5, "reckon", "(II[I)I"⟩
abbrev cX5_joined : ByteArray := prog_7_method_9_code
def yX5_joined : MethodName := ⟨RX5, "joined", "(III)I"⟩
def RX6 : String := "LineGuild$LawReader"
def TX6 : u_T := fun k => match k with
  | 0 => ("LineGuild$LawReader", "draft", "LLineGuild$Law;", true)
  | 1 => ("LineGuild$LawReader", "text", "[I", false)
  | 2 => ("LineGuild$LawReader", "size", "I", false)
  | 3 => ("LineGuild$LawReader", "at", "I", false)
  | _ => ("LineGuild$LawReader", "fault", "I", false)
def tyX6 : Nat → FieldType := fun k => match k with
  | 0 => .object "LineGuild$Law"
  | 1 => .array .int
  | 2 => .int
  | 3 => .int
  | _ => .int
abbrev wsX60 : List Cond := u_ws RX6 TX6 5
theorem nmX6 : ∀ a, a < 5 → ∀ b, b < 5 → a ≠ b → (TX6 a).2.1 ≠ (TX6 b).2.1 := by decide +kernel
theorem tyX6_ok : ∀ k, k < 5 → parseFieldDescriptor (TX6 k).2.2.1 = some (tyX6 k) := by decide +kernel
abbrev cX6_init : ByteArray := prog_8_method_1_code
def yX6_init : MethodName := ⟨RX6, "<init>", "()V"⟩
abbrev cX6_read : ByteArray := prog_8_method_2_code
def yX6_read : MethodName := ⟨RX6, "read", "([II)I"⟩
abbrev cX6_readClause : ByteArray := prog_8_method_3_code
def yX6_readClause : MethodName := ⟨RX6, "readClause", "()V"⟩
abbrev cX6_readCondition : ByteArray := prog_8_method_4_code
def yX6_readCondition : MethodName := ⟨RX6, "readCondition", "(I)V"⟩
abbrev cX6_readPart : ByteArray := prog_8_method_5_code
def yX6_readPart : MethodName := ⟨RX6, "readPart", "(I)V"⟩
abbrev cX6_readTest : ByteArray := prog_8_method_6_code
def yX6_readTest : MethodName := ⟨RX6, "readTest", "(I)V"⟩
abbrev cX6_readSum : ByteArray := prog_8_method_7_code
def yX6_readSum : MethodName := ⟨RX6, "readSum", "(I)V"⟩
abbrev cX6_readProduct : ByteArray := prog_8_method_8_code
def yX6_readProduct : MethodName := ⟨RX6, "readProduct", "(I)V"⟩
abbrev cX6_readFactor : ByteArray := prog_8_method_9_code
def yX6_readFactor : MethodName := ⟨RX6, "readFactor", "(I)V"⟩
abbrev cX6_readNumber : ByteArray := prog_8_method_10_code
def yX6_readNumber : MethodName := ⟨RX6, "readNumber", "()V"⟩
abbrev cX6_isDigit : ByteArray := prog_8_method_11_code
def yX6_isDigit : MethodName := ⟨RX6, "isDigit", "()Z"⟩
abbrev cX6_openAt : ByteArray := prog_8_method_12_code
def yX6_openAt : MethodName := ⟨RX6, "openAt", "(I)V"⟩
abbrev cX6_take : ByteArray := prog_8_method_13_code
def yX6_take : MethodName := ⟨RX6, "take", "(I)V"⟩
abbrev cX6_sign : ByteArray := prog_8_method_14_code
def yX6_sign : MethodName := ⟨RX6, "sign", "()I"⟩
abbrev cX6_placeIn : ByteArray := prog_8_method_15_code
def yX6_placeIn : MethodName := ⟨RX6, "placeIn", "(Ljava/lang/String;)I"⟩
abbrev cX6_refuse : ByteArray := prog_8_method_16_code
def yX6_refuse : MethodName := ⟨RX6, "refuse", "(I)V"⟩
def RX7 : String := "LineGuild$Lending"
def TX7 : u_T := fun k => match k with
  | 0 => ("LineGuild$Lending", "from", "[I", true)
  | 1 => ("LineGuild$Lending", "to", "[I", true)
  | 2 => ("LineGuild$Lending", "when", "[I", true)
  | 3 => ("LineGuild$Lending", "taken", "[I", true)
  | 4 => ("LineGuild$Lending", "wanters", "I", false)
  | _ => ("LineGuild$Lending", "served", "I", false)
def tyX7 : Nat → FieldType := fun k => match k with
  | 0 => .array .int
  | 1 => .array .int
  | 2 => .array .int
  | 3 => .array .int
  | 4 => .int
  | _ => .int
abbrev wsX70 : List Cond := u_ws RX7 TX7 6
theorem nmX7 : ∀ a, a < 6 → ∀ b, b < 6 → a ≠ b → (TX7 a).2.1 ≠ (TX7 b).2.1 := by decide +kernel
theorem tyX7_ok : ∀ k, k < 6 → parseFieldDescriptor (TX7 k).2.2.1 = some (tyX7 k) := by decide +kernel
abbrev cX7_init : ByteArray := prog_9_method_1_code
def yX7_init : MethodName := ⟨RX7, "<init>", "()V"⟩
abbrev cX7_take : ByteArray := prog_9_method_2_code
def yX7_take : MethodName := ⟨RX7, "take", "([II)Z"⟩
abbrev cX7_solve : ByteArray := prog_9_method_3_code
def yX7_solve : MethodName := ⟨RX7, "solve", "()V"⟩
abbrev cX7_earliestFor : ByteArray := prog_9_method_4_code
def yX7_earliestFor : MethodName := ⟨RX7, "earliestFor", "(II)I"⟩
abbrev cX7_mostFrom : ByteArray := prog_9_method_5_code
def yX7_mostFrom : MethodName := ⟨RX7, "mostFrom", "(I)I"⟩
abbrev cX7_mostPressed : ByteArray := prog_9_method_6_code
def yX7_mostPressed : MethodName := ⟨RX7, "mostPressed", "(II)I"⟩
def RX8 : String := "LineGuild$Series"
def TX8 : u_T := fun k => match k with
  | 0 => ("LineGuild$Series", "row", "[I", true)
  | 1 => ("LineGuild$Series", "best", "[I", true)
  | 2 => ("LineGuild$Series", "mostOpen", "I", false)
  | _ => ("LineGuild$Series", "openAtEnd", "I", false)
def tyX8 : Nat → FieldType := fun k => match k with
  | 0 => .array .int
  | 1 => .array .int
  | 2 => .int
  | _ => .int
abbrev wsX80 : List Cond := u_ws RX8 TX8 4
theorem nmX8 : ∀ a, a < 4 → ∀ b, b < 4 → a ≠ b → (TX8 a).2.1 ≠ (TX8 b).2.1 := by decide +kernel
theorem tyX8_ok : ∀ k, k < 4 → parseFieldDescriptor (TX8 k).2.2.1 = some (tyX8 k) := by decide +kernel
abbrev cX8_init : ByteArray := prog_10_method_1_code
def yX8_init : MethodName := ⟨RX8, "<init>", "()V"⟩
abbrev cX8_solve : ByteArray := prog_10_method_2_code
def yX8_solve : MethodName := ⟨RX8, "solve", "([LLineGuild$Story;I)V"⟩
abbrev cX8_place : ByteArray := prog_10_method_3_code
def yX8_place : MethodName := ⟨RX8, "place", "([LLineGuild$Story;IIII)V"⟩
abbrev cX8_rate : ByteArray := prog_10_method_4_code
def yX8_rate : MethodName := ⟨RX8, "rate", "(II)V"⟩
def RX9 : String := "LineGuild$Story"
def TX9 : u_T := fun k => match k with
  | 0 => ("LineGuild$Story", "turns", "[I", true)
  | 1 => ("LineGuild$Story", "size", "I", false)
  | 2 => ("LineGuild$Story", "atEnd", "I", false)
  | 3 => ("LineGuild$Story", "most", "I", false)
  | _ => ("LineGuild$Story", "comes", "I", false)
def tyX9 : Nat → FieldType := fun k => match k with
  | 0 => .array .int
  | 1 => .int
  | 2 => .int
  | 3 => .int
  | _ => .int
abbrev wsX90 : List Cond := u_ws RX9 TX9 5
theorem nmX9 : ∀ a, a < 5 → ∀ b, b < 5 → a ≠ b → (TX9 a).2.1 ≠ (TX9 b).2.1 := by decide +kernel
theorem tyX9_ok : ∀ k, k < 5 → parseFieldDescriptor (TX9 k).2.2.1 = some (tyX9 k) := by decide +kernel
abbrev cX9_init : ByteArray := prog_11_method_1_code
def yX9_init : MethodName := ⟨RX9, "<init>", "()V"⟩
abbrev cX9_take : ByteArray := prog_11_method_2_code
def yX9_take : MethodName := ⟨RX9, "take", "([II)V"⟩
abbrev cX9_openBehind : ByteArray := prog_11_method_3_code
def yX9_openBehind : MethodName := ⟨RX9, "openBehind", "(III)I"⟩
abbrev cX9_yawnsLike : ByteArray := prog_11_method_4_code
def yX9_yawnsLike : MethodName := ⟨RX9, "yawnsLike", "([IIII)Z"⟩
abbrev cX9_behindTurn : ByteArray := prog_11_method_5_code
def yX9_behindTurn : MethodName := ⟨RX9, "behindTurn", "(II)I"⟩
abbrev cX9_isClosing : ByteArray := prog_11_method_6_code
def yX9_isClosing : MethodName := ⟨RX9, "isClosing", "(I)Z"⟩
abbrev cX9_namedBy : ByteArray := prog_11_method_7_code
def yX9_namedBy : MethodName := ⟨RX9, "namedBy", "(I)I"⟩
def RX10 : String := "LineGuild$StoryReader"
def TX10 : u_T := fun k => match k with
  | 0 => ("LineGuild$StoryReader", "turns", "[I", true)
  | 1 => ("LineGuild$StoryReader", "written", "I", false)
  | 2 => ("LineGuild$StoryReader", "text", "[I", false)
  | 3 => ("LineGuild$StoryReader", "size", "I", false)
  | 4 => ("LineGuild$StoryReader", "at", "I", false)
  | _ => ("LineGuild$StoryReader", "fault", "I", false)
def tyX10 : Nat → FieldType := fun k => match k with
  | 0 => .array .int
  | 1 => .int
  | 2 => .array .int
  | 3 => .int
  | 4 => .int
  | _ => .int
abbrev wsX100 : List Cond := u_ws RX10 TX10 6
theorem nmX10 : ∀ a, a < 6 → ∀ b, b < 6 → a ≠ b → (TX10 a).2.1 ≠ (TX10 b).2.1 := by decide +kernel
theorem tyX10_ok : ∀ k, k < 6 → parseFieldDescriptor (TX10 k).2.2.1 = some (tyX10 k) := by decide +kernel
abbrev cX10_init : ByteArray := prog_12_method_1_code
def yX10_init : MethodName := ⟨RX10, "<init>", "()V"⟩
abbrev cX10_read : ByteArray := prog_12_method_2_code
def yX10_read : MethodName := ⟨RX10, "read", "([II)I"⟩
abbrev cX10_readTurns : ByteArray := prog_12_method_3_code
def yX10_readTurns : MethodName := ⟨RX10, "readTurns", "(I)V"⟩
abbrev cX10_readTurn : ByteArray := prog_12_method_4_code
def yX10_readTurn : MethodName := ⟨RX10, "readTurn", "(I)V"⟩
abbrev cX10_readGroup : ByteArray := prog_12_method_5_code
def yX10_readGroup : MethodName := ⟨RX10, "readGroup", "(I)V"⟩
abbrev cX10_readLetter : ByteArray := prog_12_method_6_code
def yX10_readLetter : MethodName := ⟨RX10, "readLetter", "()V"⟩
abbrev cX10_repeat : ByteArray := prog_12_method_7_code
def yX10_repeat : MethodName := ⟨RX10, "repeat", "(II)V"⟩
abbrev cX10_sign : ByteArray := prog_12_method_8_code
def yX10_sign : MethodName := ⟨RX10, "sign", "()I"⟩
abbrev cX10_refuse : ByteArray := prog_12_method_9_code
def yX10_refuse : MethodName := ⟨RX10, "refuse", "(II)V"⟩
def RX11 : String := "LineGuild"
def TX11 : u_T := fun k => match k with
  | 0 => ("LineGuild", "tape", "[I", true)
  | 1 => ("LineGuild", "tapeSize", "I", false)
  | 2 => ("LineGuild", "stories", "[LLineGuild$Story;", true)
  | 3 => ("LineGuild", "storyReader", "LLineGuild$StoryReader;", true)
  | 4 => ("LineGuild", "law", "LLineGuild$Law;", true)
  | 5 => ("LineGuild", "copied", "LLineGuild$Law;", true)
  | 6 => ("LineGuild", "lawReader", "LLineGuild$LawReader;", true)
  | 7 => ("LineGuild", "ends", "LLineGuild$Ends;", true)
  | 8 => ("LineGuild", "hall", "LLineGuild$Hall;", true)
  | 9 => ("LineGuild", "kept", "LLineGuild$Hall;", true)
  | 10 => ("LineGuild", "trial", "LLineGuild$Hall;", true)
  | 11 => ("LineGuild", "hasKept", "Z", false)
  | 12 => ("LineGuild", "asking", "LLineGuild$Asking;", true)
  | 13 => ("LineGuild", "course", "LLineGuild$Course;", true)
  | 14 => ("LineGuild", "fit", "LLineGuild$Fitting;", true)
  | 15 => ("LineGuild", "serial", "LLineGuild$Series;", true)
  | _ => ("LineGuild", "lending", "LLineGuild$Lending;", true)
def tyX11 : Nat → FieldType := fun k => match k with
  | 0 => .array .int
  | 1 => .int
  | 2 => .array (.object "LineGuild$Story")
  | 3 => .object "LineGuild$StoryReader"
  | 4 => .object "LineGuild$Law"
  | 5 => .object "LineGuild$Law"
  | 6 => .object "LineGuild$LawReader"
  | 7 => .object "LineGuild$Ends"
  | 8 => .object "LineGuild$Hall"
  | 9 => .object "LineGuild$Hall"
  | 10 => .object "LineGuild$Hall"
  | 11 => .boolean
  | 12 => .object "LineGuild$Asking"
  | 13 => .object "LineGuild$Course"
  | 14 => .object "LineGuild$Fitting"
  | 15 => .object "LineGuild$Series"
  | _ => .object "LineGuild$Lending"
abbrev wsX110 : List Cond := u_ws RX11 TX11 17
theorem nmX11 : ∀ a, a < 17 → ∀ b, b < 17 → a ≠ b → (TX11 a).2.1 ≠ (TX11 b).2.1 := by decide +kernel
theorem tyX11_ok : ∀ k, k < 17 → parseFieldDescriptor (TX11 k).2.2.1 = some (tyX11 k) := by decide +kernel
abbrev cX11_init : ByteArray := prog_1_method_1_code
def yX11_init : MethodName := ⟨RX11, "<init>", "()V"⟩
abbrev cX11_feed : ByteArray := prog_1_method_2_code
def yX11_feed : MethodName := ⟨RX11, "feed", "(IIIII)I"⟩
abbrev cX11_story : ByteArray := prog_1_method_3_code
def yX11_story : MethodName := ⟨RX11, "story", "(II)I"⟩
abbrev cX11_law : ByteArray := prog_1_method_4_code
def yX11_law : MethodName := ⟨RX11, "law", "(I)I"⟩
abbrev cX11_end : ByteArray := prog_1_method_5_code
def yX11_end : MethodName := ⟨RX11, "end", "(IIIII)Z"⟩
abbrev cX11_teller : ByteArray := prog_1_method_6_code
def yX11_teller : MethodName := ⟨RX11, "teller", "(III)Z"⟩
abbrev cX11_listener : ByteArray := prog_1_method_7_code
def yX11_listener : MethodName := ⟨RX11, "listener", "(III)Z"⟩
abbrev cX11_evenings : ByteArray := prog_1_method_8_code
def yX11_evenings : MethodName := ⟨RX11, "evenings", "(I)I"⟩
abbrev cX11_tried : ByteArray := prog_1_method_9_code
def yX11_tried : MethodName := ⟨RX11, "tried", "(II)I"⟩
abbrev cX11_other : ByteArray := prog_1_method_10_code
def yX11_other : MethodName := ⟨RX11, "other", "(II)I"⟩
abbrev cX11_copy : ByteArray := prog_1_method_11_code
def yX11_copy : MethodName := ⟨RX11, "copy", "()I"⟩
abbrev cX11_first : ByteArray := prog_1_method_12_code
def yX11_first : MethodName := ⟨RX11, "first", "(II)I"⟩
abbrev cX11_storyIs : ByteArray := prog_1_method_13_code
def yX11_storyIs : MethodName := ⟨RX11, "storyIs", "(II)I"⟩
abbrev cX11_open : ByteArray := prog_1_method_14_code
def yX11_open : MethodName := ⟨RX11, "open", "(III)I"⟩
abbrev cX11_endIs : ByteArray := prog_1_method_15_code
def yX11_endIs : MethodName := ⟨RX11, "endIs", "(II)I"⟩
abbrev cX11_tellerIs : ByteArray := prog_1_method_16_code
def yX11_tellerIs : MethodName := ⟨RX11, "tellerIs", "(II)I"⟩
abbrev cX11_listenerIs : ByteArray := prog_1_method_17_code
def yX11_listenerIs : MethodName := ⟨RX11, "listenerIs", "(II)I"⟩
abbrev cX11_cheapest : ByteArray := prog_1_method_18_code
def yX11_cheapest : MethodName := ⟨RX11, "cheapest", "(II)I"⟩
abbrev cX11_buys : ByteArray := prog_1_method_19_code
def yX11_buys : MethodName := ⟨RX11, "buys", "(II)I"⟩
abbrev cX11_fitting : ByteArray := prog_1_method_20_code
def yX11_fitting : MethodName := ⟨RX11, "fitting", "(III)I"⟩
abbrev cX11_wouldDo : ByteArray := prog_1_method_21_code
def yX11_wouldDo : MethodName := ⟨RX11, "wouldDo", "(III)I"⟩
abbrev cX11_series : ByteArray := prog_1_method_22_code
def yX11_series : MethodName := ⟨RX11, "series", "(II)I"⟩
abbrev cX11_knots : ByteArray := prog_1_method_23_code
def yX11_knots : MethodName := ⟨RX11, "knots", "()I"⟩
abbrev cX11_winter : ByteArray := prog_1_method_24_code
def yX11_winter : MethodName := ⟨RX11, "winter", "(III)I"⟩
abbrev cX11_lent : ByteArray := prog_1_method_25_code
def yX11_lent : MethodName := ⟨RX11, "lent", "(II)I"⟩
abbrev cX11_forged : ByteArray := prog_1_method_26_code
def yX11_forged : MethodName := ⟨RX11, "forged", "(IIII)I"⟩
abbrev cX11_yawns : ByteArray := prog_1_method_27_code
def yX11_yawns : MethodName := ⟨RX11, "yawns", "(III)I"⟩
abbrev cX11_book : ByteArray := prog_1_method_28_code
def yX11_book : MethodName := ⟨RX11, "book", "(III)I"⟩
abbrev cX11_seed : ByteArray := prog_1_method_29_code
def yX11_seed : MethodName := ⟨RX11, "seed", "(I)Z"⟩
abbrev cX11_keep : ByteArray := prog_1_method_30_code
def yX11_keep : MethodName := ⟨RX11, "keep", "()I"⟩
abbrev cX11_undo : ByteArray := prog_1_method_31_code
def yX11_undo : MethodName := ⟨RX11, "undo", "()Z"⟩
abbrev cX11_check : ByteArray := prog_1_method_32_code
def yX11_check : MethodName := ⟨RX11, "check", "(I)I"⟩
abbrev cX11_count : ByteArray := prog_1_method_33_code
def yX11_count : MethodName := ⟨RX11, "count", "(I)I"⟩
abbrev cX11_putOnTape : ByteArray := prog_1_method_34_code
def yX11_putOnTape : MethodName := ⟨RX11, "putOnTape", "(I)V"⟩
abbrev cX11_tapeGives : ByteArray := prog_1_method_35_code
def yX11_tapeGives : MethodName := ⟨RX11, "tapeGives", "(III)Z"⟩
abbrev cX11_tapeIsWithin : ByteArray := prog_1_method_36_code
def yX11_tapeIsWithin : MethodName := ⟨RX11, "tapeIsWithin", "(II)Z"⟩
abbrev cX11_storyAt : ByteArray := prog_1_method_37_code
def yX11_storyAt : MethodName := ⟨RX11, "storyAt", "(I)LLineGuild$Story;"⟩
abbrev cX11_toldStory : ByteArray := prog_1_method_38_code
def yX11_toldStory : MethodName := ⟨RX11, "toldStory", "(I)LLineGuild$Story;"⟩
abbrev cX11_toldStories : ByteArray := prog_1_method_39_code
def yX11_toldStories : MethodName := ⟨RX11, "toldStories", "()I"⟩
abbrev cX11_areTold : ByteArray := prog_1_method_40_code
def yX11_areTold : MethodName := ⟨RX11, "areTold", "(I)Z"⟩
abbrev cX11_knotOf : ByteArray := prog_1_method_41_code
def yX11_knotOf : MethodName := ⟨RX11, "knotOf", "(I)I"⟩
abbrev cX11_threadsOf : ByteArray := prog_1_method_42_code
def yX11_threadsOf : MethodName := ⟨RX11, "threadsOf", "(I)I"⟩
abbrev cX11_turnsOf : ByteArray := prog_1_method_43_code
def yX11_turnsOf : MethodName := ⟨RX11, "turnsOf", "(I)I"⟩
abbrev cX11_volumesCutAt : ByteArray := prog_1_method_44_code
def yX11_volumesCutAt : MethodName := ⟨RX11, "volumesCutAt", "(III)I"⟩
abbrev cX11_thickestCutAt : ByteArray := prog_1_method_45_code
def yX11_thickestCutAt : MethodName := ⟨RX11, "thickestCutAt", "(III)I"⟩
abbrev cX11_canBeTried : ByteArray := prog_1_method_46_code
def yX11_canBeTried : MethodName := ⟨RX11, "canBeTried", "(I)Z"⟩
abbrev cX11_isWithin : ByteArray := prog_1_method_47_code
def yX11_isWithin : MethodName := ⟨RX11, "isWithin", "(III)Z"⟩
abbrev cX11_has : ByteArray := prog_1_method_48_code
def yX11_has : MethodName := ⟨RX11, "has", "(II)Z"⟩
def RX12 : String := "LineGuildModel"
def TX12 : u_T := fun k => match k with
  | 0 => ("LineGuildModel", "tape", "[B", true)
  | 1 => ("LineGuildModel", "taped", "I", false)
  | 2 => ("LineGuildModel", "luck", "I", false)
  | 3 => ("LineGuildModel", "place", "I", false)
  | 4 => ("LineGuildModel", "end", "I", false)
  | 5 => ("LineGuildModel", "bad", "I", false)
  | 6 => ("LineGuildModel", "clauses", "I", false)
  | 7 => ("LineGuildModel", "codes", "I", false)
  | 8 => ("LineGuildModel", "open", "I", false)
  | 9 => ("LineGuildModel", "stacked", "I", false)
  | 10 => ("LineGuildModel", "isStory", "[Z", true)
  | 11 => ("LineGuildModel", "storyMany", "[I", true)
  | 12 => ("LineGuildModel", "turnsOf", "[I", true)
  | 13 => ("LineGuildModel", "newTurns", "[I", true)
  | 14 => ("LineGuildModel", "newMany", "I", false)
  | 15 => ("LineGuildModel", "openMany", "I", false)
  | 16 => ("LineGuildModel", "isBegun", "Z", false)
  | 17 => ("LineGuildModel", "openFrom", "[I", true)
  | 18 => ("LineGuildModel", "openTimes", "[I", true)
  | 19 => ("LineGuildModel", "openPlace", "[I", true)
  | 20 => ("LineGuildModel", "clauseLetter", "[I", true)
  | 21 => ("LineGuildModel", "sumFrom", "[I", true)
  | 22 => ("LineGuildModel", "codeFrom", "[I", true)
  | 23 => ("LineGuildModel", "codeTo", "[I", true)
  | 24 => ("LineGuildModel", "code", "[I", true)
  | 25 => ("LineGuildModel", "codeArg", "[I", true)
  | 26 => ("LineGuildModel", "clauseMany", "[I", true)
  | 27 => ("LineGuildModel", "lawNow", "I", false)
  | 28 => ("LineGuildModel", "codeMany", "I", false)
  | 29 => ("LineGuildModel", "newLetter", "[I", true)
  | 30 => ("LineGuildModel", "newSum", "[I", true)
  | 31 => ("LineGuildModel", "newFrom", "[I", true)
  | 32 => ("LineGuildModel", "newTo", "[I", true)
  | 33 => ("LineGuildModel", "newCode", "[I", true)
  | 34 => ("LineGuildModel", "newArg", "[I", true)
  | 35 => ("LineGuildModel", "isOver", "Z", false)
  | 36 => ("LineGuildModel", "isBehind", "Z", false)
  | 37 => ("LineGuildModel", "stack", "[I", true)
  | 38 => ("LineGuildModel", "asTeller", "I", false)
  | 39 => ("LineGuildModel", "asTurn", "I", false)
  | 40 => ("LineGuildModel", "asPurse", "I", false)
  | 41 => ("LineGuildModel", "asOpen", "I", false)
  | 42 => ("LineGuildModel", "asListener", "I", false)
  | 43 => ("LineGuildModel", "asAge", "I", false)
  | 44 => ("LineGuildModel", "asTired", "I", false)
  | 45 => ("LineGuildModel", "asEnd", "I", false)
  | 46 => ("LineGuildModel", "asPrice", "I", false)
  | 47 => ("LineGuildModel", "asStock", "I", false)
  | 48 => ("LineGuildModel", "asCloses", "I", false)
  | 49 => ("LineGuildModel", "worths", "[I", true)
  | 50 => ("LineGuildModel", "isRefused", "[Z", true)
  | 51 => ("LineGuildModel", "isEnd", "[Z", true)
  | 52 => ("LineGuildModel", "closes", "[I", true)
  | 53 => ("LineGuildModel", "prices", "[I", true)
  | 54 => ("LineGuildModel", "stocks", "[I", true)
  | 55 => ("LineGuildModel", "making", "[I", true)
  | 56 => ("LineGuildModel", "isTeller", "[Z", true)
  | 57 => ("LineGuildModel", "storyOf", "[I", true)
  | 58 => ("LineGuildModel", "purses", "[I", true)
  | 59 => ("LineGuildModel", "turnOf", "[I", true)
  | 60 => ("LineGuildModel", "openOf", "[I", true)
  | 61 => ("LineGuildModel", "isListener", "[Z", true)
  | 62 => ("LineGuildModel", "boundTo", "[I", true)
  | 63 => ("LineGuildModel", "ages", "[I", true)
  | 64 => ("LineGuildModel", "tired", "[I", true)
  | 65 => ("LineGuildModel", "evening", "I", false)
  | 66 => ("LineGuildModel", "illMany", "I", false)
  | 67 => ("LineGuildModel", "toldMany", "I", false)
  | 68 => ("LineGuildModel", "costs", "[I", true)
  | 69 => ("LineGuildModel", "bestSet", "I", false)
  | 70 => ("LineGuildModel", "bestCost", "I", false)
  | 71 => ("LineGuildModel", "paid", "I", false)
  | 72 => ("LineGuildModel", "boughtMany", "I", false)
  | 73 => ("LineGuildModel", "forgedMany", "I", false)
  | 74 => ("LineGuildModel", "illThen", "I", false)
  | 75 => ("LineGuildModel", "wentMany", "I", false)
  | 76 => ("LineGuildModel", "toldThen", "I", false)
  | 77 => ("LineGuildModel", "given", "I", false)
  | 78 => ("LineGuildModel", "firstWho", "I", false)
  | 79 => ("LineGuildModel", "firstWhen", "I", false)
  | 80 => ("LineGuildModel", "owed", "[I", true)
  | 81 => ("LineGuildModel", "asideTeller", "[Z", true)
  | 82 => ("LineGuildModel", "asideStory", "[I", true)
  | 83 => ("LineGuildModel", "asidePurse", "[I", true)
  | 84 => ("LineGuildModel", "asideTurn", "[I", true)
  | 85 => ("LineGuildModel", "asideOpen", "[I", true)
  | 86 => ("LineGuildModel", "asideListener", "[Z", true)
  | 87 => ("LineGuildModel", "asideBound", "[I", true)
  | 88 => ("LineGuildModel", "asideAge", "[I", true)
  | 89 => ("LineGuildModel", "asideTired", "[I", true)
  | 90 => ("LineGuildModel", "asideStock", "[I", true)
  | 91 => ("LineGuildModel", "asideEvening", "[I", true)
  | 92 => ("LineGuildModel", "asideIll", "[I", true)
  | 93 => ("LineGuildModel", "asideTold", "[I", true)
  | 94 => ("LineGuildModel", "asideLuck", "[I", true)
  | 95 => ("LineGuildModel", "isKept", "Z", false)
  | 96 => ("LineGuildModel", "leftOut", "[I", true)
  | 97 => ("LineGuildModel", "some", "[I", true)
  | 98 => ("LineGuildModel", "rowNow", "[I", true)
  | 99 => ("LineGuildModel", "bestRow", "[I", true)
  | _ => ("LineGuildModel", "isTaken", "[Z", true)
def tyX12 : Nat → FieldType := fun k => match k with
  | 0 => .array .byte
  | 1 => .int
  | 2 => .int
  | 3 => .int
  | 4 => .int
  | 5 => .int
  | 6 => .int
  | 7 => .int
  | 8 => .int
  | 9 => .int
  | 10 => .array .boolean
  | 11 => .array .int
  | 12 => .array .int
  | 13 => .array .int
  | 14 => .int
  | 15 => .int
  | 16 => .boolean
  | 17 => .array .int
  | 18 => .array .int
  | 19 => .array .int
  | 20 => .array .int
  | 21 => .array .int
  | 22 => .array .int
  | 23 => .array .int
  | 24 => .array .int
  | 25 => .array .int
  | 26 => .array .int
  | 27 => .int
  | 28 => .int
  | 29 => .array .int
  | 30 => .array .int
  | 31 => .array .int
  | 32 => .array .int
  | 33 => .array .int
  | 34 => .array .int
  | 35 => .boolean
  | 36 => .boolean
  | 37 => .array .int
  | 38 => .int
  | 39 => .int
  | 40 => .int
  | 41 => .int
  | 42 => .int
  | 43 => .int
  | 44 => .int
  | 45 => .int
  | 46 => .int
  | 47 => .int
  | 48 => .int
  | 49 => .array .int
  | 50 => .array .boolean
  | 51 => .array .boolean
  | 52 => .array .int
  | 53 => .array .int
  | 54 => .array .int
  | 55 => .array .int
  | 56 => .array .boolean
  | 57 => .array .int
  | 58 => .array .int
  | 59 => .array .int
  | 60 => .array .int
  | 61 => .array .boolean
  | 62 => .array .int
  | 63 => .array .int
  | 64 => .array .int
  | 65 => .int
  | 66 => .int
  | 67 => .int
  | 68 => .array .int
  | 69 => .int
  | 70 => .int
  | 71 => .int
  | 72 => .int
  | 73 => .int
  | 74 => .int
  | 75 => .int
  | 76 => .int
  | 77 => .int
  | 78 => .int
  | 79 => .int
  | 80 => .array .int
  | 81 => .array .boolean
  | 82 => .array .int
  | 83 => .array .int
  | 84 => .array .int
  | 85 => .array .int
  | 86 => .array .boolean
  | 87 => .array .int
  | 88 => .array .int
  | 89 => .array .int
  | 90 => .array .int
  | 91 => .array .int
  | 92 => .array .int
  | 93 => .array .int
  | 94 => .array .int
  | 95 => .boolean
  | 96 => .array .int
  | 97 => .array .int
  | 98 => .array .int
  | 99 => .array .int
  | _ => .array .boolean
abbrev wsX120 : List Cond := u_ws RX12 TX12 101
theorem nmX12 : ∀ a, a < 101 → ∀ b, b < 101 → a ≠ b → (TX12 a).2.1 ≠ (TX12 b).2.1 := by decide +kernel
theorem tyX12_ok : ∀ k, k < 101 → parseFieldDescriptor (TX12 k).2.2.1 = some (tyX12 k) := by decide +kernel
abbrev cX12_init : ByteArray := prog_14_method_1_code
def yX12_init : MethodName := ⟨RX12, "<init>", "()V"⟩
abbrev cX12_lies : ByteArray := prog_14_method_2_code
def yX12_lies : MethodName := ⟨RX12, "lies", "(JJJ)Z"⟩
abbrev cX12_has : ByteArray := prog_14_method_3_code
def yX12_has : MethodName := ⟨RX12, "has", "(II)Z"⟩
abbrev cX12_sizeOf : ByteArray := prog_14_method_4_code
def yX12_sizeOf : MethodName := ⟨RX12, "sizeOf", "(I)I"⟩
abbrev cX12_lowestOf : ByteArray := prog_14_method_5_code
def yX12_lowestOf : MethodName := ⟨RX12, "lowestOf", "(I)I"⟩
abbrev cX12_held : ByteArray := prog_14_method_6_code
def yX12_held : MethodName := ⟨RX12, "held", "(II)I"⟩
abbrev cX12_push : ByteArray := prog_14_method_7_code
def yX12_push : MethodName := ⟨RX12, "push", "(I)V"⟩
abbrev cX12_feed : ByteArray := prog_14_method_8_code
def yX12_feed : MethodName := ⟨RX12, "feed", "(IIIII)I"⟩
abbrev cX12_byteAt : ByteArray := prog_14_method_9_code
def yX12_byteAt : MethodName := ⟨RX12, "byteAt", "(I)I"⟩
abbrev cX12_here : ByteArray := prog_14_method_10_code
def yX12_here : MethodName := ⟨RX12, "here", "()I"⟩
abbrev cX12_wrongs : ByteArray := prog_14_method_11_code
def yX12_wrongs : MethodName := ⟨RX12, "wrongs", "(II)V"⟩
abbrev cX12_isGood : ByteArray := prog_14_method_12_code
def yX12_isGood : MethodName := ⟨RX12, "isGood", "()Z"⟩
abbrev cX12_seesDigit : ByteArray := prog_14_method_13_code
def yX12_seesDigit : MethodName := ⟨RX12, "seesDigit", "()Z"⟩
abbrev cX12_begins : ByteArray := prog_14_method_14_code
def yX12_begins : MethodName := ⟨RX12, "begins", "(I)V"⟩
abbrev cX12_repeats : ByteArray := prog_14_method_15_code
def yX12_repeats : MethodName := ⟨RX12, "repeats", "(III)V"⟩
abbrev cX12_timesTold : ByteArray := prog_14_method_16_code
def yX12_timesTold : MethodName := ⟨RX12, "timesTold", "()I"⟩
abbrev cX12_turnBy : ByteArray := prog_14_method_17_code
def yX12_turnBy : MethodName := ⟨RX12, "turnBy", "(I)I"⟩
abbrev cX12_turnTold : ByteArray := prog_14_method_18_code
def yX12_turnTold : MethodName := ⟨RX12, "turnTold", "()V"⟩
abbrev cX12_isTold : ByteArray := prog_14_method_19_code
def yX12_isTold : MethodName := ⟨RX12, "isTold", "(I)Z"⟩
abbrev cX12_story : ByteArray := prog_14_method_20_code
def yX12_story : MethodName := ⟨RX12, "story", "(II)I"⟩
abbrev cX12_turned : ByteArray := prog_14_method_21_code
def yX12_turned : MethodName := ⟨RX12, "turned", "(II)I"⟩
abbrev cX12_openBehind : ByteArray := prog_14_method_22_code
def yX12_openBehind : MethodName := ⟨RX12, "openBehind", "(III)I"⟩
abbrev cX12_open : ByteArray := prog_14_method_23_code
def yX12_open : MethodName := ⟨RX12, "open", "(III)I"⟩
abbrev cX12_mostOpen : ByteArray := prog_14_method_24_code
def yX12_mostOpen : MethodName := ⟨RX12, "mostOpen", "(I)I"⟩
abbrev cX12_threadsOf : ByteArray := prog_14_method_25_code
def yX12_threadsOf : MethodName := ⟨RX12, "threadsOf", "(I)I"⟩
abbrev cX12_knotOf : ByteArray := prog_14_method_26_code
def yX12_knotOf : MethodName := ⟨RX12, "knotOf", "(I)I"⟩
abbrev cX12_storyIs : ByteArray := prog_14_method_27_code
def yX12_storyIs : MethodName := ⟨RX12, "storyIs", "(II)I"⟩
abbrev cX12_knots : ByteArray := prog_14_method_28_code
def yX12_knots : MethodName := ⟨RX12, "knots", "()I"⟩
abbrev cX12_emit : ByteArray := prog_14_method_29_code
def yX12_emit : MethodName := ⟨RX12, "emit", "(II)V"⟩
abbrev cX12_top : ByteArray := prog_14_method_30_code
def yX12_top : MethodName := ⟨RX12, "top", "()I"⟩
abbrev cX12_puts : ByteArray := prog_14_method_31_code
def yX12_puts : MethodName := ⟨RX12, "puts", "(I)V"⟩
abbrev cX12_opens : ByteArray := prog_14_method_32_code
def yX12_opens : MethodName := ⟨RX12, "opens", "()V"⟩
abbrev cX12_reads : ByteArray := prog_14_method_33_code
def yX12_reads : MethodName := ⟨RX12, "reads", "()I"⟩
abbrev cX12_isTimes : ByteArray := prog_14_method_34_code
def yX12_isTimes : MethodName := ⟨RX12, "isTimes", "(I)Z"⟩
abbrev cX12_isPlus : ByteArray := prog_14_method_35_code
def yX12_isPlus : MethodName := ⟨RX12, "isPlus", "(I)Z"⟩
abbrev cX12_isCompared : ByteArray := prog_14_method_36_code
def yX12_isCompared : MethodName := ⟨RX12, "isCompared", "(I)Z"⟩
abbrev cX12_isValue : ByteArray := prog_14_method_37_code
def yX12_isValue : MethodName := ⟨RX12, "isValue", "(I)Z"⟩
abbrev cX12_sums : ByteArray := prog_14_method_38_code
def yX12_sums : MethodName := ⟨RX12, "sums", "(Z)V"⟩
abbrev cX12_joins : ByteArray := prog_14_method_39_code
def yX12_joins : MethodName := ⟨RX12, "joins", "(Z)V"⟩
abbrev cX12_ends : ByteArray := prog_14_method_40_code
def yX12_ends : MethodName := ⟨RX12, "ends", "()V"⟩
abbrev cX12_factor : ByteArray := prog_14_method_41_code
def yX12_factor : MethodName := ⟨RX12, "factor", "()V"⟩
abbrev cX12_stays : ByteArray := prog_14_method_42_code
def yX12_stays : MethodName := ⟨RX12, "stays", "()Z"⟩
abbrev cX12_value : ByteArray := prog_14_method_43_code
def yX12_value : MethodName := ⟨RX12, "value", "()V"⟩
abbrev cX12_pieceOfC : ByteArray := prog_14_method_44_code
def yX12_pieceOfC : MethodName := ⟨RX12, "pieceOfC", "()V"⟩
abbrev cX12_goesBehind : ByteArray := prog_14_method_45_code
def yX12_goesBehind : MethodName := ⟨RX12, "goesBehind", "()Z"⟩
abbrev cX12_condition : ByteArray := prog_14_method_46_code
def yX12_condition : MethodName := ⟨RX12, "condition", "()V"⟩
abbrev cX12_isClause : ByteArray := prog_14_method_47_code
def yX12_isClause : MethodName := ⟨RX12, "isClause", "(I)Z"⟩
abbrev cX12_clause : ByteArray := prog_14_method_48_code
def yX12_clause : MethodName := ⟨RX12, "clause", "()V"⟩
abbrev cX12_law : ByteArray := prog_14_method_49_code
def yX12_law : MethodName := ⟨RX12, "law", "(I)I"⟩
abbrev cX12_copy : ByteArray := prog_14_method_50_code
def yX12_copy : MethodName := ⟨RX12, "copy", "()I"⟩
abbrev cX12_valueOf : ByteArray := prog_14_method_51_code
def yX12_valueOf : MethodName := ⟨RX12, "valueOf", "(I)I"⟩
abbrev cX12_worked : ByteArray := prog_14_method_52_code
def yX12_worked : MethodName := ⟨RX12, "worked", "(III)I"⟩
abbrev cX12_does : ByteArray := prog_14_method_53_code
def yX12_does : MethodName := ⟨RX12, "does", "(II)V"⟩
abbrev cX12_works : ByteArray := prog_14_method_54_code
def yX12_works : MethodName := ⟨RX12, "works", "(II)V"⟩
abbrev cX12_isSo : ByteArray := prog_14_method_55_code
def yX12_isSo : MethodName := ⟨RX12, "isSo", "(I)Z"⟩
abbrev cX12_tells : ByteArray := prog_14_method_56_code
def yX12_tells : MethodName := ⟨RX12, "tells", "(II)I"⟩
abbrev cX12_goesAway : ByteArray := prog_14_method_57_code
def yX12_goesAway : MethodName := ⟨RX12, "goesAway", "()Z"⟩
abbrev cX12_tellerStands : ByteArray := prog_14_method_58_code
def yX12_tellerStands : MethodName := ⟨RX12, "tellerStands", "(I)V"⟩
abbrev cX12_listenerStands : ByteArray := prog_14_method_59_code
def yX12_listenerStands : MethodName := ⟨RX12, "listenerStands", "(I)V"⟩
abbrev cX12_endStands : ByteArray := prog_14_method_60_code
def yX12_endStands : MethodName := ⟨RX12, "endStands", "(I)V"⟩
abbrev cX12_speedOf : ByteArray := prog_14_method_61_code
def yX12_speedOf : MethodName := ⟨RX12, "speedOf", "(I)I"⟩
abbrev cX12_costOf : ByteArray := prog_14_method_62_code
def yX12_costOf : MethodName := ⟨RX12, "costOf", "(I)I"⟩
abbrev cX12_forgingOf : ByteArray := prog_14_method_63_code
def yX12_forgingOf : MethodName := ⟨RX12, "forgingOf", "(I)I"⟩
abbrev cX12_isThere : ByteArray := prog_14_method_64_code
def yX12_isThere : MethodName := ⟨RX12, "isThere", "(I)Z"⟩
abbrev cX12_isTelling : ByteArray := prog_14_method_65_code
def yX12_isTelling : MethodName := ⟨RX12, "isTelling", "(I)Z"⟩
abbrev cX12_isListening : ByteArray := prog_14_method_66_code
def yX12_isListening : MethodName := ⟨RX12, "isListening", "(I)Z"⟩
abbrev cX12_end : ByteArray := prog_14_method_67_code
def yX12_end : MethodName := ⟨RX12, "end", "(IIIII)Z"⟩
abbrev cX12_teller : ByteArray := prog_14_method_68_code
def yX12_teller : MethodName := ⟨RX12, "teller", "(III)Z"⟩
abbrev cX12_listener : ByteArray := prog_14_method_69_code
def yX12_listener : MethodName := ⟨RX12, "listener", "(III)Z"⟩
abbrev cX12_laysCheapest : ByteArray := prog_14_method_70_code
def yX12_laysCheapest : MethodName := ⟨RX12, "laysCheapest", "(I)Z"⟩
abbrev cX12_cheapest : ByteArray := prog_14_method_71_code
def yX12_cheapest : MethodName := ⟨RX12, "cheapest", "(II)I"⟩
abbrev cX12_draw : ByteArray := prog_14_method_72_code
def yX12_draw : MethodName := ⟨RX12, "draw", "()I"⟩
abbrev cX12_buying : ByteArray := prog_14_method_73_code
def yX12_buying : MethodName := ⟨RX12, "buying", "(III)I"⟩
abbrev cX12_buys : ByteArray := prog_14_method_74_code
def yX12_buys : MethodName := ⟨RX12, "buys", "(II)I"⟩
abbrev cX12_isAtEnd : ByteArray := prog_14_method_75_code
def yX12_isAtEnd : MethodName := ⟨RX12, "isAtEnd", "(I)Z"⟩
abbrev cX12_goesOn : ByteArray := prog_14_method_76_code
def yX12_goesOn : MethodName := ⟨RX12, "goesOn", "(I)V"⟩
abbrev cX12_buysAll : ByteArray := prog_14_method_77_code
def yX12_buysAll : MethodName := ⟨RX12, "buysAll", "(I)V"⟩
abbrev cX12_listens : ByteArray := prog_14_method_78_code
def yX12_listens : MethodName := ⟨RX12, "listens", "(II)V"⟩
abbrev cX12_isBound : ByteArray := prog_14_method_79_code
def yX12_isBound : MethodName := ⟨RX12, "isBound", "(II)Z"⟩
abbrev cX12_closesStory : ByteArray := prog_14_method_80_code
def yX12_closesStory : MethodName := ⟨RX12, "closesStory", "(I)V"⟩
abbrev cX12_go : ByteArray := prog_14_method_81_code
def yX12_go : MethodName := ⟨RX12, "go", "(I)V"⟩
abbrev cX12_evenings : ByteArray := prog_14_method_82_code
def yX12_evenings : MethodName := ⟨RX12, "evenings", "(I)I"⟩
abbrev cX12_laysAside : ByteArray := prog_14_method_83_code
def yX12_laysAside : MethodName := ⟨RX12, "laysAside", "(I)V"⟩
abbrev cX12_bringsBack : ByteArray := prog_14_method_84_code
def yX12_bringsBack : MethodName := ⟨RX12, "bringsBack", "(I)V"⟩
abbrev cX12_triedBy : ByteArray := prog_14_method_85_code
def yX12_triedBy : MethodName := ⟨RX12, "triedBy", "(III)I"⟩
abbrev cX12_tried : ByteArray := prog_14_method_86_code
def yX12_tried : MethodName := ⟨RX12, "tried", "(II)I"⟩
abbrev cX12_other : ByteArray := prog_14_method_87_code
def yX12_other : MethodName := ⟨RX12, "other", "(II)I"⟩
abbrev cX12_first : ByteArray := prog_14_method_88_code
def yX12_first : MethodName := ⟨RX12, "first", "(II)I"⟩
abbrev cX12_endIs : ByteArray := prog_14_method_89_code
def yX12_endIs : MethodName := ⟨RX12, "endIs", "(II)I"⟩
abbrev cX12_boundSet : ByteArray := prog_14_method_90_code
def yX12_boundSet : MethodName := ⟨RX12, "boundSet", "(I)I"⟩
abbrev cX12_tellerIs : ByteArray := prog_14_method_91_code
def yX12_tellerIs : MethodName := ⟨RX12, "tellerIs", "(II)I"⟩
abbrev cX12_listenerIs : ByteArray := prog_14_method_92_code
def yX12_listenerIs : MethodName := ⟨RX12, "listenerIs", "(II)I"⟩
abbrev cX12_laysLeftOut : ByteArray := prog_14_method_93_code
def yX12_laysLeftOut : MethodName := ⟨RX12, "laysLeftOut", "(II)V"⟩
abbrev cX12_fitting : ByteArray := prog_14_method_94_code
def yX12_fitting : MethodName := ⟨RX12, "fitting", "(III)I"⟩
abbrev cX12_wouldDo : ByteArray := prog_14_method_95_code
def yX12_wouldDo : MethodName := ⟨RX12, "wouldDo", "(III)I"⟩
abbrev cX12_takesSome : ByteArray := prog_14_method_96_code
def yX12_takesSome : MethodName := ⟨RX12, "takesSome", "(I)I"⟩
abbrev cX12_areStories : ByteArray := prog_14_method_97_code
def yX12_areStories : MethodName := ⟨RX12, "areStories", "(III)Z"⟩
abbrev cX12_powerOf : ByteArray := prog_14_method_98_code
def yX12_powerOf : MethodName := ⟨RX12, "powerOf", "(II)I"⟩
abbrev cX12_opensRow : ByteArray := prog_14_method_99_code
def yX12_opensRow : MethodName := ⟨RX12, "opensRow", "(III)V"⟩
abbrev cX12_isOrder : ByteArray := prog_14_method_100_code
def yX12_isOrder : MethodName := ⟨RX12, "isOrder", "(I)Z"⟩
abbrev cX12_opennessOf : ByteArray := prog_14_method_101_code
def yX12_opennessOf : MethodName := ⟨RX12, "opennessOf", "(I)I"⟩
abbrev cX12_series : ByteArray := prog_14_method_102_code
def yX12_series : MethodName := ⟨RX12, "series", "(II)I"⟩
abbrev cX12_pagesOf : ByteArray := prog_14_method_103_code
def yX12_pagesOf : MethodName := ⟨RX12, "pagesOf", "(II)I"⟩
abbrev cX12_higher : ByteArray := prog_14_method_104_code
def yX12_higher : MethodName := ⟨RX12, "higher", "(II)I"⟩
abbrev cX12_book : ByteArray := prog_14_method_105_code
def yX12_book : MethodName := ⟨RX12, "book", "(III)I"⟩
abbrev cX12_winter : ByteArray := prog_14_method_106_code
def yX12_winter : MethodName := ⟨RX12, "winter", "(III)I"⟩
abbrev cX12_canHave : ByteArray := prog_14_method_107_code
def yX12_canHave : MethodName := ⟨RX12, "canHave", "(II)I"⟩
abbrev cX12_nightFor : ByteArray := prog_14_method_108_code
def yX12_nightFor : MethodName := ⟨RX12, "nightFor", "(II)I"⟩
abbrev cX12_lent : ByteArray := prog_14_method_109_code
def yX12_lent : MethodName := ⟨RX12, "lent", "(II)I"⟩
abbrev cX12_leftBy : ByteArray := prog_14_method_110_code
def yX12_leftBy : MethodName := ⟨RX12, "leftBy", "(III)I"⟩
abbrev cX12_nextThread : ByteArray := prog_14_method_111_code
def yX12_nextThread : MethodName := ⟨RX12, "nextThread", "(II)I"⟩
abbrev cX12_forged : ByteArray := prog_14_method_112_code
def yX12_forged : MethodName := ⟨RX12, "forged", "(IIII)I"⟩
abbrev cX12_isYawned : ByteArray := prog_14_method_113_code
def yX12_isYawned : MethodName := ⟨RX12, "isYawned", "(IIII)Z"⟩
abbrev cX12_yawns : ByteArray := prog_14_method_114_code
def yX12_yawns : MethodName := ⟨RX12, "yawns", "(III)I"⟩
abbrev cX12_seed : ByteArray := prog_14_method_115_code
def yX12_seed : MethodName := ⟨RX12, "seed", "(I)Z"⟩
abbrev cX12_keep : ByteArray := prog_14_method_116_code
def yX12_keep : MethodName := ⟨RX12, "keep", "()I"⟩
abbrev cX12_undo : ByteArray := prog_14_method_117_code
def yX12_undo : MethodName := ⟨RX12, "undo", "()Z"⟩
abbrev cX12_check : ByteArray := prog_14_method_118_code
def yX12_check : MethodName := ⟨RX12, "check", "(I)I"⟩
abbrev cX12_isToldOf : ByteArray := prog_14_method_119_code
def yX12_isToldOf : MethodName := ⟨RX12, "isToldOf", "(II)Z"⟩
abbrev cX12_toldOf : ByteArray := prog_14_method_120_code
def yX12_toldOf : MethodName := ⟨RX12, "toldOf", "(I)I"⟩
abbrev cX12_count : ByteArray := prog_14_method_121_code
def yX12_count : MethodName := ⟨RX12, "count", "(I)I"⟩
def RJx145de : String := "java/io/Serializable"
def TJx145de : u_T := fun k => match k with
  | _ => ("", "", "", false)
def tyJx145de : Nat → FieldType := fun k => match k with
  | _ => .int
abbrev wsJx145de0 : List Cond := u_ws RJx145de TJx145de 0
theorem nmJx145de : ∀ a, a < 0 → ∀ b, b < 0 → a ≠ b → (TJx145de a).2.1 ≠ (TJx145de b).2.1 := by decide +kernel
theorem tyJx145de_ok : ∀ k, k < 0 → parseFieldDescriptor (TJx145de k).2.2.1 = some (tyJx145de k) := by decide +kernel
def RJx9f9b0 : String := "java/lang/CharSequence"
def TJx9f9b0 : u_T := fun k => match k with
  | _ => ("", "", "", false)
def tyJx9f9b0 : Nat → FieldType := fun k => match k with
  | _ => .int
abbrev wsJx9f9b00 : List Cond := u_ws RJx9f9b0 TJx9f9b0 0
theorem nmJx9f9b0 : ∀ a, a < 0 → ∀ b, b < 0 → a ≠ b → (TJx9f9b0 a).2.1 ≠ (TJx9f9b0 b).2.1 := by decide +kernel
theorem tyJx9f9b0_ok : ∀ k, k < 0 → parseFieldDescriptor (TJx9f9b0 k).2.2.1 = some (tyJx9f9b0 k) := by decide +kernel
def RJ11 : String := "java/lang/Character"
def TJ11 : u_T := fun k => match k with
  | _ => ("", "", "", false)
def tyJ11 : Nat → FieldType := fun k => match k with
  | _ => .int
abbrev wsJ110 : List Cond := u_ws RJ11 TJ11 0
theorem nmJ11 : ∀ a, a < 0 → ∀ b, b < 0 → a ≠ b → (TJ11 a).2.1 ≠ (TJ11 b).2.1 := by decide +kernel
theorem tyJ11_ok : ∀ k, k < 0 → parseFieldDescriptor (TJ11 k).2.2.1 = some (tyJ11 k) := by decide +kernel
abbrev cJ11_isValidCodePoint_9a6ad : ByteArray := prog_15_method_11_code
def yJ11_isValidCodePoint_9a6ad : MethodName := ⟨RJ11, "isValidCodePoint", "(I)Z"⟩
abbrev cJ11_highSurrogate_5068e : ByteArray := prog_15_method_28_code
def yJ11_highSurrogate_5068e : MethodName := ⟨RJ11, "highSurrogate", "(I)C"⟩
abbrev cJ11_lowSurrogate_5068e : ByteArray := prog_15_method_29_code
def yJ11_lowSurrogate_5068e : MethodName := ⟨RJ11, "lowSurrogate", "(I)C"⟩
def RJxb160c : String := "java/lang/Comparable"
def TJxb160c : u_T := fun k => match k with
  | _ => ("", "", "", false)
def tyJxb160c : Nat → FieldType := fun k => match k with
  | _ => .int
abbrev wsJxb160c0 : List Cond := u_ws RJxb160c TJxb160c 0
theorem nmJxb160c : ∀ a, a < 0 → ∀ b, b < 0 → a ≠ b → (TJxb160c a).2.1 ≠ (TJxb160c b).2.1 := by decide +kernel
theorem tyJxb160c_ok : ∀ k, k < 0 → parseFieldDescriptor (TJxb160c k).2.2.1 = some (tyJxb160c k) := by decide +kernel
def RJ6 : String := "java/lang/Integer"
def TJ6 : u_T := fun k => match k with
  | _ => ("", "", "", false)
def tyJ6 : Nat → FieldType := fun k => match k with
  | _ => .int
abbrev wsJ60 : List Cond := u_ws RJ6 TJ6 0
theorem nmJ6 : ∀ a, a < 0 → ∀ b, b < 0 → a ≠ b → (TJ6 a).2.1 ≠ (TJ6 b).2.1 := by decide +kernel
theorem tyJ6_ok : ∀ k, k < 0 → parseFieldDescriptor (TJ6 k).2.2.1 = some (tyJ6 k) := by decide +kernel
abbrev cJ6_bitCount_0f7a4 : ByteArray := prog_16_method_49_code
def yJ6_bitCount_0f7a4 : MethodName := ⟨RJ6, "bitCount", "(I)I"⟩
def RJ9 : String := "java/lang/Math"
def TJ9 : u_T := fun k => match k with
  | _ => ("", "", "", false)
def tyJ9 : Nat → FieldType := fun k => match k with
  | _ => .int
abbrev wsJ90 : List Cond := u_ws RJ9 TJ9 0
theorem nmJ9 : ∀ a, a < 0 → ∀ b, b < 0 → a ≠ b → (TJ9 a).2.1 ≠ (TJ9 b).2.1 := by decide +kernel
theorem tyJ9_ok : ∀ k, k < 0 → parseFieldDescriptor (TJ9 k).2.2.1 = some (tyJ9 k) := by decide +kernel
abbrev cJ9_max_7cf53 : ByteArray := prog_17_method_65_code
def yJ9_max_7cf53 : MethodName := ⟨RJ9, "max", "(II)I"⟩
abbrev cJ9_min_7cf53 : ByteArray := prog_17_method_69_code
def yJ9_min_7cf53 : MethodName := ⟨RJ9, "min", "(II)I"⟩
def RJ0 : String := "java/lang/String"
def TJ0 : u_T := fun k => match k with
  | _ => ("", "", "", false)
def tyJ0 : Nat → FieldType := fun k => match k with
  | _ => .int
abbrev wsJ00 : List Cond := u_ws RJ0 TJ0 0
theorem nmJ0 : ∀ a, a < 0 → ∀ b, b < 0 → a ≠ b → (TJ0 a).2.1 ≠ (TJ0 b).2.1 := by decide +kernel
theorem tyJ0_ok : ∀ k, k < 0 → parseFieldDescriptor (TJ0 k).2.2.1 = some (tyJ0 k) := by decide +kernel
abbrev cJ0_length_8abf5 : ByteArray := prog_18_method_54_code
def yJ0_length_8abf5 : MethodName := ⟨RJ0, "length", "()I"⟩
abbrev cJ0_indexOf_0f7a4 : ByteArray := prog_18_method_79_code
def yJ0_indexOf_0f7a4 : MethodName := ⟨RJ0, "indexOf", "(I)I"⟩
abbrev cJ0_indexOf_7cf53 : ByteArray := prog_18_method_80_code
def yJ0_indexOf_7cf53 : MethodName := ⟨RJ0, "indexOf", "(II)I"⟩
abbrev cJ0_coder_7d493 : ByteArray := prog_18_method_152_code
def yJ0_coder_7d493 : MethodName := ⟨RJ0, "coder", "()B"⟩
abbrev cJ0_isLatin1_aae02 : ByteArray := prog_18_method_154_code
def yJ0_isLatin1_aae02 : MethodName := ⟨RJ0, "isLatin1", "()Z"⟩
abbrev cJ0_checkBoundsBeginEnd_23922 : ByteArray := prog_18_method_158_code
def yJ0_checkBoundsBeginEnd_23922 : MethodName := ⟨RJ0, "checkBoundsBeginEnd", "(III)V"⟩
def RJ1 : String := "java/lang/StringLatin1"
def TJ1 : u_T := fun k => match k with
  | _ => ("", "", "", false)
def tyJ1 : Nat → FieldType := fun k => match k with
  | _ => .int
abbrev wsJ10 : List Cond := u_ws RJ1 TJ1 0
theorem nmJ1 : ∀ a, a < 0 → ∀ b, b < 0 → a ≠ b → (TJ1 a).2.1 ≠ (TJ1 b).2.1 := by decide +kernel
theorem tyJ1_ok : ∀ k, k < 0 → parseFieldDescriptor (TJ1 k).2.2.1 = some (tyJ1 k) := by decide +kernel
abbrev cJ1_canEncode_9a6ad : ByteArray := prog_19_method_4_code
def yJ1_canEncode_9a6ad : MethodName := ⟨RJ1, "canEncode", "(I)Z"⟩
abbrev cJ1_indexOf_4cfef : ByteArray := prog_19_method_22_code
def yJ1_indexOf_4cfef : MethodName := ⟨RJ1, "indexOf", "([BIII)I"⟩
abbrev cJ1_indexOfChar_4cfef : ByteArray := prog_19_method_23_code
def yJ1_indexOfChar_4cfef : MethodName := ⟨RJ1, "indexOfChar", "([BIII)I"⟩
def RJ2 : String := "java/lang/StringUTF16"
def TJ2 : u_T := fun k => match k with
  | _ => ("", "", "", false)
def tyJ2 : Nat → FieldType := fun k => match k with
  | _ => .int
abbrev wsJ20 : List Cond := u_ws RJ2 TJ2 0
theorem nmJ2 : ∀ a, a < 0 → ∀ b, b < 0 → a ≠ b → (TJ2 a).2.1 ≠ (TJ2 b).2.1 := by decide +kernel
theorem tyJ2_ok : ∀ k, k < 0 → parseFieldDescriptor (TJ2 k).2.2.1 = some (tyJ2 k) := by decide +kernel
abbrev cJ2_getChar_3b067 : ByteArray := prog_20_method_5_code
def yJ2_getChar_3b067 : MethodName := ⟨RJ2, "getChar", "([BI)C"⟩
abbrev cJ2_length_9d52b : ByteArray := prog_20_method_6_code
def yJ2_length_9d52b : MethodName := ⟨RJ2, "length", "([B)I"⟩
abbrev cJ2_indexOf_4cfef : ByteArray := prog_20_method_40_code
def yJ2_indexOf_4cfef : MethodName := ⟨RJ2, "indexOf", "([BIII)I"⟩
abbrev cJ2_indexOfChar_4cfef : ByteArray := prog_20_method_47_code
def yJ2_indexOfChar_4cfef : MethodName := ⟨RJ2, "indexOfChar", "([BIII)I"⟩
abbrev cJ2_indexOfCharUnsafe_4cfef : ByteArray := prog_20_method_48_code
def yJ2_indexOfCharUnsafe_4cfef : MethodName := ⟨RJ2, "indexOfCharUnsafe", "([BIII)I"⟩
abbrev cJ2_indexOfSupplementary_4cfef : ByteArray := prog_20_method_49_code
def yJ2_indexOfSupplementary_4cfef : MethodName := ⟨RJ2, "indexOfSupplementary", "([BIII)I"⟩
abbrev cJ2_checkBoundsBeginEnd_d044e : ByteArray := prog_20_method_93_code
def yJ2_checkBoundsBeginEnd_d044e : MethodName := ⟨RJ2, "checkBoundsBeginEnd", "(II[B)V"⟩
def RJ10 : String := "java/lang/System"
def TJ10 : u_T := fun k => match k with
  | _ => ("", "", "", false)
def tyJ10 : Nat → FieldType := fun k => match k with
  | _ => .int
abbrev wsJ100 : List Cond := u_ws RJ10 TJ10 0
theorem nmJ10 : ∀ a, a < 0 → ∀ b, b < 0 → a ≠ b → (TJ10 a).2.1 ≠ (TJ10 b).2.1 := by decide +kernel
theorem tyJ10_ok : ∀ k, k < 0 → parseFieldDescriptor (TJ10 k).2.2.1 = some (tyJ10 k) := by decide +kernel
def RJxfd54e : String := "java/lang/constant/Constable"
def TJxfd54e : u_T := fun k => match k with
  | _ => ("", "", "", false)
def tyJxfd54e : Nat → FieldType := fun k => match k with
  | _ => .int
abbrev wsJxfd54e0 : List Cond := u_ws RJxfd54e TJxfd54e 0
theorem nmJxfd54e : ∀ a, a < 0 → ∀ b, b < 0 → a ≠ b → (TJxfd54e a).2.1 ≠ (TJxfd54e b).2.1 := by decide +kernel
theorem tyJxfd54e_ok : ∀ k, k < 0 → parseFieldDescriptor (TJxfd54e k).2.2.1 = some (tyJxfd54e k) := by decide +kernel
def RJx3cf43 : String := "java/lang/constant/ConstantDesc"
def TJx3cf43 : u_T := fun k => match k with
  | _ => ("", "", "", false)
def tyJx3cf43 : Nat → FieldType := fun k => match k with
  | _ => .int
abbrev wsJx3cf430 : List Cond := u_ws RJx3cf43 TJx3cf43 0
theorem nmJx3cf43 : ∀ a, a < 0 → ∀ b, b < 0 → a ≠ b → (TJx3cf43 a).2.1 ≠ (TJx3cf43 b).2.1 := by decide +kernel
theorem tyJx3cf43_ok : ∀ k, k < 0 → parseFieldDescriptor (TJx3cf43 k).2.2.1 = some (tyJx3cf43 k) := by decide +kernel
def RJ7 : String := "java/util/Arrays"
def TJ7 : u_T := fun k => match k with
  | _ => ("", "", "", false)
def tyJ7 : Nat → FieldType := fun k => match k with
  | _ => .int
abbrev wsJ70 : List Cond := u_ws RJ7 TJ7 0
theorem nmJ7 : ∀ a, a < 0 → ∀ b, b < 0 → a ≠ b → (TJ7 a).2.1 ≠ (TJ7 b).2.1 := by decide +kernel
theorem tyJ7_ok : ∀ k, k < 0 → parseFieldDescriptor (TJ7 k).2.2.1 = some (tyJ7 k) := by decide +kernel
abbrev cJ7_fill_53178 : ByteArray := prog_22_method_103_code
def yJ7_fill_53178 : MethodName := ⟨RJ7, "fill", "([II)V"⟩
def RJ3 : String := "jdk/internal/util/Preconditions"
def TJ3 : u_T := fun k => match k with
  | _ => ("", "", "", false)
def tyJ3 : Nat → FieldType := fun k => match k with
  | _ => .int
abbrev wsJ30 : List Cond := u_ws RJ3 TJ3 0
theorem nmJ3 : ∀ a, a < 0 → ∀ b, b < 0 → a ≠ b → (TJ3 a).2.1 ≠ (TJ3 b).2.1 := by decide +kernel
theorem tyJ3_ok : ∀ k, k < 0 → parseFieldDescriptor (TJ3 k).2.2.1 = some (tyJ3 k) := by decide +kernel
abbrev cJ3_checkFromToIndex_8c36e : ByteArray := prog_23_method_12_code
def yJ3_checkFromToIndex_8c36e : MethodName := ⟨RJ3, "checkFromToIndex", "(IIILjava/util/function/BiFunction;)I"⟩
def RL : String := "LineGuildLaw"
abbrev cL_law : ByteArray := code
def yL_law : MethodName := ⟨RL, "law", "([I)Z"⟩
abbrev vwCl : List vw_C := [(RX0, TX0, 2), (RX1, TX1, 15), (RX2, TX2, 13), (RX3, TX3, 8), (RX4, TX4, 14), (RX5, TX5, 9), (RX6, TX6, 5), (RX7, TX7, 6), (RX8, TX8, 4), (RX9, TX9, 5), (RX10, TX10, 6), (RX11, TX11, 17), (RX12, TX12, 101)]
theorem x_tb {w : Cond} (i : Nat) (h : tables_1[i]? = some w) : w ∈ lw_tbl := List.mem_append_right _ (List.mem_of_getElem? h)
theorem x_tb1 {w : Cond} (i : Nat) (h : tables_1_1[i]? = some w) : w ∈ lw_tbl := List.mem_append_right _ (List.mem_append_left _ (List.mem_of_getElem? h))
theorem x_tb2 {w : Cond} (i : Nat) (h : tables_1_2[i]? = some w) : w ∈ lw_tbl := List.mem_append_right _ (List.mem_append_right _ (List.mem_append_left _ (List.mem_of_getElem? h)))
theorem x_tb3 {w : Cond} (i : Nat) (h : tables_1_3[i]? = some w) : w ∈ lw_tbl := List.mem_append_right _ (List.mem_append_right _ (List.mem_append_right _ (List.mem_append_left _ (List.mem_of_getElem? h))))
theorem x_tb4 {w : Cond} (i : Nat) (h : tables_1_4[i]? = some w) : w ∈ lw_tbl := List.mem_append_right _ (List.mem_append_right _ (List.mem_append_right _ (List.mem_append_right _ (List.mem_append_left _ (List.mem_of_getElem? h)))))
theorem x_tb5 {w : Cond} (i : Nat) (h : tables_1_5[i]? = some w) : w ∈ lw_tbl := List.mem_append_right _ (List.mem_append_right _ (List.mem_append_right _ (List.mem_append_right _ (List.mem_append_right _ (List.mem_append_left _ (List.mem_of_getElem? h))))))
theorem x_tb6 {w : Cond} (i : Nat) (h : tables_1_6[i]? = some w) : w ∈ lw_tbl := List.mem_append_right _ (List.mem_append_right _ (List.mem_append_right _ (List.mem_append_right _ (List.mem_append_right _ (List.mem_append_right _ (List.mem_append_left _ (List.mem_of_getElem? h)))))))
theorem x_tb7 {w : Cond} (i : Nat) (h : tables_1_7[i]? = some w) : w ∈ lw_tbl := List.mem_append_right _ (List.mem_append_right _ (List.mem_append_right _ (List.mem_append_right _ (List.mem_append_right _ (List.mem_append_right _ (List.mem_append_right _ (List.mem_append_left _ (List.mem_of_getElem? h))))))))
theorem x_tb8 {w : Cond} (i : Nat) (h : tables_1_8[i]? = some w) : w ∈ lw_tbl := List.mem_append_right _ (List.mem_append_right _ (List.mem_append_right _ (List.mem_append_right _ (List.mem_append_right _ (List.mem_append_right _ (List.mem_append_right _ (List.mem_append_right _ (List.mem_append_left _ (List.mem_of_getElem? h)))))))))
theorem x_tb9 {w : Cond} (i : Nat) (h : tables_1_9[i]? = some w) : w ∈ lw_tbl := List.mem_append_right _ (List.mem_append_right _ (List.mem_append_right _ (List.mem_append_right _ (List.mem_append_right _ (List.mem_append_right _ (List.mem_append_right _ (List.mem_append_right _ (List.mem_append_right _ (List.mem_of_getElem? h)))))))))
theorem x_sub {ws : List Cond} (ps : List Nat) (hp : ws = ps.filterMap (fun i => tables_1[i]?)) : ∀ w ∈ ws, w ∈ lw_tbl := fun w h => by
  rw [hp] at h
  obtain ⟨i, -, hi⟩ := List.mem_filterMap.mp h
  exact x_tb i hi
theorem wz_L : Cond.initialized RL ∈ lw_tbl := x_tb1 0 rfl
theorem wz_X11 : Cond.initialized RX11 ∈ lw_tbl := x_tb1 1 rfl
theorem wz_X10 : Cond.initialized RX10 ∈ lw_tbl := x_tb1 2 rfl
theorem wz_X5 : Cond.initialized RX5 ∈ lw_tbl := x_tb1 3 rfl
theorem wz_X6 : Cond.initialized RX6 ∈ lw_tbl := x_tb1 4 rfl
theorem wz_X2 : Cond.initialized RX2 ∈ lw_tbl := x_tb1 5 rfl
theorem wz_X4 : Cond.initialized RX4 ∈ lw_tbl := x_tb1 6 rfl
theorem wz_X0 : Cond.initialized RX0 ∈ lw_tbl := x_tb1 7 rfl
theorem wz_X1 : Cond.initialized RX1 ∈ lw_tbl := x_tb1 8 rfl
theorem wz_X3 : Cond.initialized RX3 ∈ lw_tbl := x_tb1 9 rfl
theorem wz_X8 : Cond.initialized RX8 ∈ lw_tbl := x_tb1 10 rfl
theorem wz_X7 : Cond.initialized RX7 ∈ lw_tbl := x_tb1 11 rfl
theorem wz_X9 : Cond.initialized RX9 ∈ lw_tbl := x_tb1 12 rfl
theorem wz_X12 : Cond.initialized RX12 ∈ lw_tbl := x_tb1 13 rfl
theorem wz_J9 : Cond.initialized RJ9 ∈ lw_tbl := x_tb1 14 rfl
theorem wz_J0 : Cond.initialized RJ0 ∈ lw_tbl := x_tb1 15 rfl
theorem wz_J1 : Cond.initialized RJ1 ∈ lw_tbl := x_tb1 16 rfl
theorem wz_J2 : Cond.initialized RJ2 ∈ lw_tbl := x_tb1 17 rfl
theorem wz_J3 : Cond.initialized RJ3 ∈ lw_tbl := x_tb1 18 rfl
theorem wz_J11 : Cond.initialized RJ11 ∈ lw_tbl := x_tb1 19 rfl
theorem wz_J10 : Cond.initialized RJ10 ∈ lw_tbl := x_tb1 20 rfl
theorem wz_J6 : Cond.initialized RJ6 ∈ lw_tbl := x_tb1 21 rfl
theorem wz_J7 : Cond.initialized RJ7 ∈ lw_tbl := x_tb1 22 rfl
theorem wk_L_7 : Cond.classLink RL 7 "LineGuild" ∈ lw_tbl := x_tb1 23 rfl
theorem wn_X11 : Cond.instantiable RX11 17 ∈ lw_tbl := x_tb1 24 rfl
theorem wm_L_9 : Cond.methodLink RL 9 yX11_init ∈ lw_tbl := x_tb1 25 rfl
theorem wi_X11_init : Cond.instanceMethod yX11_init ∈ lw_tbl := x_tb1 26 rfl
theorem wc_X11_init : Cond.code yX11_init cX11_init 2 (Option.none : Option Jvm.ClassFile.FieldType) ∈ lw_tbl := x_tb1 27 rfl
theorem wm_X11_1 : Cond.methodLink RX11 1 ({ cls := "java/lang/Object", name := "<init>", desc := "()V" } : Jvm.MethodName) ∈ lw_tbl := x_tb1 28 rfl
theorem wk_X11_17 : Cond.classLink RX11 17 "LineGuild$Story" ∈ lw_tbl := x_tb1 31 rfl
theorem wk_X11_23 : Cond.classLink RX11 23 "LineGuild$StoryReader" ∈ lw_tbl := x_tb1 33 rfl
theorem wn_X10 : Cond.instantiable RX10 6 ∈ lw_tbl := x_tb1 34 rfl
theorem wmn_X11_25 : Cond.methodLinkNest RX11 25 yX10_init "LineGuild" ∈ lw_tbl := x_tb1 35 rfl
theorem wi_X10_init : Cond.instanceMethod yX10_init ∈ lw_tbl := x_tb1 36 rfl
theorem wc_X10_init : Cond.code yX10_init cX10_init 1 (Option.none : Option Jvm.ClassFile.FieldType) ∈ lw_tbl := x_tb1 37 rfl
theorem wm_X10_3 : Cond.methodLink RX10 3 ({ cls := "java/lang/Object", name := "<init>", desc := "()V" } : Jvm.MethodName) ∈ lw_tbl := x_tb1 38 rfl
theorem wf_X10_9 : Cond.fieldLink RX10 9 "LineGuild$StoryReader" "turns" "[I" ∈ lw_tbl := x_tb1 39 rfl
theorem wfn_X11_127 : Cond.fieldLinkNest RX11 127 "LineGuild$StoryReader" "turns" "[I" "LineGuild" ∈ lw_tbl := x_tb1 40 rfl
theorem wf_X10_15 : Cond.fieldLink RX10 15 "LineGuild$StoryReader" "written" "I" ∈ lw_tbl := x_tb1 41 rfl
theorem wf_X10_19 : Cond.fieldLink RX10 19 "LineGuild$StoryReader" "text" "[I" ∈ lw_tbl := x_tb1 42 rfl
theorem wf_X10_22 : Cond.fieldLink RX10 22 "LineGuild$StoryReader" "size" "I" ∈ lw_tbl := x_tb1 43 rfl
theorem wf_X10_25 : Cond.fieldLink RX10 25 "LineGuild$StoryReader" "at" "I" ∈ lw_tbl := x_tb1 44 rfl
theorem wf_X10_28 : Cond.fieldLink RX10 28 "LineGuild$StoryReader" "fault" "I" ∈ lw_tbl := x_tb1 45 rfl
theorem wa_int : Cond.arrayClass Jvm.ClassFile.FieldType.int ∈ lw_tbl := x_tb1 59 rfl
theorem wk_X11_30 : Cond.classLink RX11 30 "LineGuild$Law" ∈ lw_tbl := x_tb1 60 rfl
theorem wn_X5 : Cond.instantiable RX5 9 ∈ lw_tbl := x_tb1 61 rfl
theorem wmn_X11_32 : Cond.methodLinkNest RX11 32 yX5_init "LineGuild" ∈ lw_tbl := x_tb1 62 rfl
theorem wi_X5_init : Cond.instanceMethod yX5_init ∈ lw_tbl := x_tb1 63 rfl
theorem wc_X5_init : Cond.code yX5_init cX5_init 1 (Option.none : Option Jvm.ClassFile.FieldType) ∈ lw_tbl := x_tb1 64 rfl
theorem wm_X5_3 : Cond.methodLink RX5 3 ({ cls := "java/lang/Object", name := "<init>", desc := "()V" } : Jvm.MethodName) ∈ lw_tbl := x_tb1 65 rfl
theorem wf_X5_9 : Cond.fieldLink RX5 9 "LineGuild$Law" "clauses" "I" ∈ lw_tbl := x_tb1 66 rfl
theorem wfn_X6_48 : Cond.fieldLinkNest RX6 48 "LineGuild$Law" "clauses" "I" "LineGuild" ∈ lw_tbl := x_tb1 67 rfl
theorem wfn_X11_189 : Cond.fieldLinkNest RX11 189 "LineGuild$Law" "clauses" "I" "LineGuild" ∈ lw_tbl := x_tb1 68 rfl
theorem wf_X5_15 : Cond.fieldLink RX5 15 "LineGuild$Law" "kinds" "[I" ∈ lw_tbl := x_tb1 69 rfl
theorem wf_X5_19 : Cond.fieldLink RX5 19 "LineGuild$Law" "starts" "[I" ∈ lw_tbl := x_tb1 70 rfl
theorem wf_X5_22 : Cond.fieldLink RX5 22 "LineGuild$Law" "middles" "[I" ∈ lw_tbl := x_tb1 71 rfl
theorem wf_X5_25 : Cond.fieldLink RX5 25 "LineGuild$Law" "stops" "[I" ∈ lw_tbl := x_tb1 72 rfl
theorem wf_X5_28 : Cond.fieldLink RX5 28 "LineGuild$Law" "size" "I" ∈ lw_tbl := x_tb1 73 rfl
theorem wfn_X6_60 : Cond.fieldLinkNest RX6 60 "LineGuild$Law" "size" "I" "LineGuild" ∈ lw_tbl := x_tb1 74 rfl
theorem wf_X5_31 : Cond.fieldLink RX5 31 "LineGuild$Law" "steps" "[I" ∈ lw_tbl := x_tb1 75 rfl
theorem wf_X5_34 : Cond.fieldLink RX5 34 "LineGuild$Law" "stack" "[I" ∈ lw_tbl := x_tb1 76 rfl
theorem wf_X5_37 : Cond.fieldLink RX5 37 "LineGuild$Law" "refused" "Z" ∈ lw_tbl := x_tb1 77 rfl
theorem wk_X11_40 : Cond.classLink RX11 40 "LineGuild$LawReader" ∈ lw_tbl := x_tb1 97 rfl
theorem wn_X6 : Cond.instantiable RX6 5 ∈ lw_tbl := x_tb1 98 rfl
theorem wmn_X11_42 : Cond.methodLinkNest RX11 42 yX6_init "LineGuild" ∈ lw_tbl := x_tb1 99 rfl
theorem wi_X6_init : Cond.instanceMethod yX6_init ∈ lw_tbl := x_tb1 100 rfl
theorem wc_X6_init : Cond.code yX6_init cX6_init 1 (Option.none : Option Jvm.ClassFile.FieldType) ∈ lw_tbl := x_tb1 101 rfl
theorem wm_X6_3 : Cond.methodLink RX6 3 ({ cls := "java/lang/Object", name := "<init>", desc := "()V" } : Jvm.MethodName) ∈ lw_tbl := x_tb1 102 rfl
theorem wk_X6_9 : Cond.classLink RX6 9 "LineGuild$Law" ∈ lw_tbl := x_tb1 103 rfl
theorem wmn_X6_11 : Cond.methodLinkNest RX6 11 yX5_init "LineGuild" ∈ lw_tbl := x_tb1 104 rfl
theorem wf_X6_12 : Cond.fieldLink RX6 12 "LineGuild$LawReader" "draft" "LLineGuild$Law;" ∈ lw_tbl := x_tb1 105 rfl
theorem wfn_X11_138 : Cond.fieldLinkNest RX11 138 "LineGuild$LawReader" "draft" "LLineGuild$Law;" "LineGuild" ∈ lw_tbl := x_tb1 106 rfl
theorem wf_X6_18 : Cond.fieldLink RX6 18 "LineGuild$LawReader" "text" "[I" ∈ lw_tbl := x_tb1 107 rfl
theorem wf_X6_22 : Cond.fieldLink RX6 22 "LineGuild$LawReader" "size" "I" ∈ lw_tbl := x_tb1 108 rfl
theorem wf_X6_26 : Cond.fieldLink RX6 26 "LineGuild$LawReader" "at" "I" ∈ lw_tbl := x_tb1 109 rfl
theorem wf_X6_29 : Cond.fieldLink RX6 29 "LineGuild$LawReader" "fault" "I" ∈ lw_tbl := x_tb1 110 rfl
theorem wk_X11_47 : Cond.classLink RX11 47 "LineGuild$Ends" ∈ lw_tbl := x_tb1 122 rfl
theorem wn_X2 : Cond.instantiable RX2 13 ∈ lw_tbl := x_tb1 123 rfl
theorem wmn_X11_49 : Cond.methodLinkNest RX11 49 yX2_init "LineGuild" ∈ lw_tbl := x_tb1 124 rfl
theorem wi_X2_init : Cond.instanceMethod yX2_init ∈ lw_tbl := x_tb1 125 rfl
theorem wc_X2_init : Cond.code yX2_init cX2_init 1 (Option.none : Option Jvm.ClassFile.FieldType) ∈ lw_tbl := x_tb1 126 rfl
theorem wm_X2_3 : Cond.methodLink RX2 3 ({ cls := "java/lang/Object", name := "<init>", desc := "()V" } : Jvm.MethodName) ∈ lw_tbl := x_tb1 127 rfl
theorem wf_X2_9 : Cond.fieldLink RX2 9 "LineGuild$Ends" "told" "I" ∈ lw_tbl := x_tb1 128 rfl
theorem wfn_X11_314 : Cond.fieldLinkNest RX11 314 "LineGuild$Ends" "told" "I" "LineGuild" ∈ lw_tbl := x_tb1 129 rfl
theorem wf_X2_15 : Cond.fieldLink RX2 15 "LineGuild$Ends" "threads" "[I" ∈ lw_tbl := x_tb1 130 rfl
theorem wfn_X0_47 : Cond.fieldLinkNest RX0 47 "LineGuild$Ends" "threads" "[I" "LineGuild" ∈ lw_tbl := x_tb1 131 rfl
theorem wfn_X1_166 : Cond.fieldLinkNest RX1 166 "LineGuild$Ends" "threads" "[I" "LineGuild" ∈ lw_tbl := x_tb1 132 rfl
theorem wfn_X11_220 : Cond.fieldLinkNest RX11 220 "LineGuild$Ends" "threads" "[I" "LineGuild" ∈ lw_tbl := x_tb1 133 rfl
theorem wf_X2_19 : Cond.fieldLink RX2 19 "LineGuild$Ends" "prices" "[I" ∈ lw_tbl := x_tb1 134 rfl
theorem wfn_X0_39 : Cond.fieldLinkNest RX0 39 "LineGuild$Ends" "prices" "[I" "LineGuild" ∈ lw_tbl := x_tb1 135 rfl
theorem wfn_X11_223 : Cond.fieldLinkNest RX11 223 "LineGuild$Ends" "prices" "[I" "LineGuild" ∈ lw_tbl := x_tb1 136 rfl
theorem wf_X2_22 : Cond.fieldLink RX2 22 "LineGuild$Ends" "days" "[I" ∈ lw_tbl := x_tb1 137 rfl
theorem wfn_X11_226 : Cond.fieldLinkNest RX11 226 "LineGuild$Ends" "days" "[I" "LineGuild" ∈ lw_tbl := x_tb1 138 rfl
theorem wf_X2_25 : Cond.fieldLink RX2 25 "LineGuild$Ends" "asked" "[I" ∈ lw_tbl := x_tb1 139 rfl
theorem wfn_X1_124 : Cond.fieldLinkNest RX1 124 "LineGuild$Ends" "asked" "[I" "LineGuild" ∈ lw_tbl := x_tb1 140 rfl
theorem wf_X2_28 : Cond.fieldLink RX2 28 "LineGuild$Ends" "listed" "[I" ∈ lw_tbl := x_tb1 141 rfl
theorem wf_X2_31 : Cond.fieldLink RX2 31 "LineGuild$Ends" "sums" "[I" ∈ lw_tbl := x_tb1 142 rfl
theorem wf_X2_34 : Cond.fieldLink RX2 34 "LineGuild$Ends" "others" "[I" ∈ lw_tbl := x_tb1 143 rfl
theorem wf_X2_37 : Cond.fieldLink RX2 37 "LineGuild$Ends" "chosen" "I" ∈ lw_tbl := x_tb1 144 rfl
theorem wfn_X1_121 : Cond.fieldLinkNest RX1 121 "LineGuild$Ends" "chosen" "I" "LineGuild" ∈ lw_tbl := x_tb1 145 rfl
theorem wfn_X11_270 : Cond.fieldLinkNest RX11 270 "LineGuild$Ends" "chosen" "I" "LineGuild" ∈ lw_tbl := x_tb1 146 rfl
theorem wf_X2_40 : Cond.fieldLink RX2 40 "LineGuild$Ends" "chosenPence" "I" ∈ lw_tbl := x_tb1 147 rfl
theorem wfn_X1_118 : Cond.fieldLinkNest RX1 118 "LineGuild$Ends" "chosenPence" "I" "LineGuild" ∈ lw_tbl := x_tb1 148 rfl
theorem wfn_X11_267 : Cond.fieldLinkNest RX11 267 "LineGuild$Ends" "chosenPence" "I" "LineGuild" ∈ lw_tbl := x_tb1 149 rfl
theorem wf_X2_43 : Cond.fieldLink RX2 43 "LineGuild$Ends" "made" "I" ∈ lw_tbl := x_tb1 150 rfl
theorem wfn_X11_327 : Cond.fieldLinkNest RX11 327 "LineGuild$Ends" "made" "I" "LineGuild" ∈ lw_tbl := x_tb1 151 rfl
theorem wf_X2_46 : Cond.fieldLink RX2 46 "LineGuild$Ends" "madeDays" "I" ∈ lw_tbl := x_tb1 152 rfl
theorem wfn_X11_330 : Cond.fieldLinkNest RX11 330 "LineGuild$Ends" "madeDays" "I" "LineGuild" ∈ lw_tbl := x_tb1 153 rfl
theorem wf_X2_49 : Cond.fieldLink RX2 49 "LineGuild$Ends" "worth" "I" ∈ lw_tbl := x_tb1 154 rfl
theorem wfn_X11_324 : Cond.fieldLinkNest RX11 324 "LineGuild$Ends" "worth" "I" "LineGuild" ∈ lw_tbl := x_tb1 155 rfl
theorem wk_X11_54 : Cond.classLink RX11 54 "LineGuild$Hall" ∈ lw_tbl := x_tb1 183 rfl
theorem wn_X4 : Cond.instantiable RX4 14 ∈ lw_tbl := x_tb1 184 rfl
theorem wmn_X11_56 : Cond.methodLinkNest RX11 56 yX4_init "LineGuild" ∈ lw_tbl := x_tb1 185 rfl
theorem wi_X4_init : Cond.instanceMethod yX4_init ∈ lw_tbl := x_tb1 186 rfl
theorem wc_X4_init : Cond.code yX4_init cX4_init 1 (Option.none : Option Jvm.ClassFile.FieldType) ∈ lw_tbl := x_tb1 187 rfl
theorem wm_X4_3 : Cond.methodLink RX4 3 ({ cls := "java/lang/Object", name := "<init>", desc := "()V" } : Jvm.MethodName) ∈ lw_tbl := x_tb1 188 rfl
theorem wf_X4_9 : Cond.fieldLink RX4 9 "LineGuild$Hall" "tellers" "I" ∈ lw_tbl := x_tb1 189 rfl
theorem wfn_X1_71 : Cond.fieldLinkNest RX1 71 "LineGuild$Hall" "tellers" "I" "LineGuild" ∈ lw_tbl := x_tb1 190 rfl
theorem wfn_X11_161 : Cond.fieldLinkNest RX11 161 "LineGuild$Hall" "tellers" "I" "LineGuild" ∈ lw_tbl := x_tb1 191 rfl
theorem wf_X4_15 : Cond.fieldLink RX4 15 "LineGuild$Hall" "storyOf" "[I" ∈ lw_tbl := x_tb1 192 rfl
theorem wfn_X1_141 : Cond.fieldLinkNest RX1 141 "LineGuild$Hall" "storyOf" "[I" "LineGuild" ∈ lw_tbl := x_tb1 193 rfl
theorem wfn_X11_233 : Cond.fieldLinkNest RX11 233 "LineGuild$Hall" "storyOf" "[I" "LineGuild" ∈ lw_tbl := x_tb1 194 rfl
theorem wf_X4_19 : Cond.fieldLink RX4 19 "LineGuild$Hall" "purse" "[I" ∈ lw_tbl := x_tb1 195 rfl
theorem wfn_X1_86 : Cond.fieldLinkNest RX1 86 "LineGuild$Hall" "purse" "[I" "LineGuild" ∈ lw_tbl := x_tb1 196 rfl
theorem wfn_X0_69 : Cond.fieldLinkNest RX0 69 "LineGuild$Hall" "purse" "[I" "LineGuild" ∈ lw_tbl := x_tb1 197 rfl
theorem wfn_X11_236 : Cond.fieldLinkNest RX11 236 "LineGuild$Hall" "purse" "[I" "LineGuild" ∈ lw_tbl := x_tb1 198 rfl
theorem wf_X4_22 : Cond.fieldLink RX4 22 "LineGuild$Hall" "turn" "[I" ∈ lw_tbl := x_tb1 199 rfl
theorem wfn_X1_104 : Cond.fieldLinkNest RX1 104 "LineGuild$Hall" "turn" "[I" "LineGuild" ∈ lw_tbl := x_tb1 200 rfl
theorem wfn_X0_66 : Cond.fieldLinkNest RX0 66 "LineGuild$Hall" "turn" "[I" "LineGuild" ∈ lw_tbl := x_tb1 201 rfl
theorem wfn_X11_239 : Cond.fieldLinkNest RX11 239 "LineGuild$Hall" "turn" "[I" "LineGuild" ∈ lw_tbl := x_tb1 202 rfl
theorem wf_X4_25 : Cond.fieldLink RX4 25 "LineGuild$Hall" "open" "[I" ∈ lw_tbl := x_tb1 203 rfl
theorem wfn_X1_90 : Cond.fieldLinkNest RX1 90 "LineGuild$Hall" "open" "[I" "LineGuild" ∈ lw_tbl := x_tb1 204 rfl
theorem wfn_X0_72 : Cond.fieldLinkNest RX0 72 "LineGuild$Hall" "open" "[I" "LineGuild" ∈ lw_tbl := x_tb1 205 rfl
theorem wfn_X11_242 : Cond.fieldLinkNest RX11 242 "LineGuild$Hall" "open" "[I" "LineGuild" ∈ lw_tbl := x_tb1 206 rfl
theorem wf_X4_28 : Cond.fieldLink RX4 28 "LineGuild$Hall" "listeners" "I" ∈ lw_tbl := x_tb1 207 rfl
theorem wfn_X11_251 : Cond.fieldLinkNest RX11 251 "LineGuild$Hall" "listeners" "I" "LineGuild" ∈ lw_tbl := x_tb1 208 rfl
theorem wf_X4_31 : Cond.fieldLink RX4 31 "LineGuild$Hall" "tellerOf" "[I" ∈ lw_tbl := x_tb1 209 rfl
theorem wfn_X1_183 : Cond.fieldLinkNest RX1 183 "LineGuild$Hall" "tellerOf" "[I" "LineGuild" ∈ lw_tbl := x_tb1 210 rfl
theorem wfn_X11_254 : Cond.fieldLinkNest RX11 254 "LineGuild$Hall" "tellerOf" "[I" "LineGuild" ∈ lw_tbl := x_tb1 211 rfl
theorem wf_X4_34 : Cond.fieldLink RX4 34 "LineGuild$Hall" "age" "[I" ∈ lw_tbl := x_tb1 212 rfl
theorem wfn_X0_31 : Cond.fieldLinkNest RX0 31 "LineGuild$Hall" "age" "[I" "LineGuild" ∈ lw_tbl := x_tb1 213 rfl
theorem wfn_X11_257 : Cond.fieldLinkNest RX11 257 "LineGuild$Hall" "age" "[I" "LineGuild" ∈ lw_tbl := x_tb1 214 rfl
theorem wf_X4_37 : Cond.fieldLink RX4 37 "LineGuild$Hall" "tired" "[I" ∈ lw_tbl := x_tb1 215 rfl
theorem wfn_X0_36 : Cond.fieldLinkNest RX0 36 "LineGuild$Hall" "tired" "[I" "LineGuild" ∈ lw_tbl := x_tb1 216 rfl
theorem wfn_X1_93 : Cond.fieldLinkNest RX1 93 "LineGuild$Hall" "tired" "[I" "LineGuild" ∈ lw_tbl := x_tb1 217 rfl
theorem wfn_X11_260 : Cond.fieldLinkNest RX11 260 "LineGuild$Hall" "tired" "[I" "LineGuild" ∈ lw_tbl := x_tb1 218 rfl
theorem wf_X4_40 : Cond.fieldLink RX4 40 "LineGuild$Hall" "stock" "[I" ∈ lw_tbl := x_tb1 219 rfl
theorem wfn_X2_60 : Cond.fieldLinkNest RX2 60 "LineGuild$Hall" "stock" "[I" "LineGuild" ∈ lw_tbl := x_tb1 220 rfl
theorem wfn_X0_44 : Cond.fieldLinkNest RX0 44 "LineGuild$Hall" "stock" "[I" "LineGuild" ∈ lw_tbl := x_tb1 221 rfl
theorem wfn_X11_151 : Cond.fieldLinkNest RX11 151 "LineGuild$Hall" "stock" "[I" "LineGuild" ∈ lw_tbl := x_tb1 222 rfl
theorem wfn_X1_163 : Cond.fieldLinkNest RX1 163 "LineGuild$Hall" "stock" "[I" "LineGuild" ∈ lw_tbl := x_tb1 223 rfl
theorem wf_X4_43 : Cond.fieldLink RX4 43 "LineGuild$Hall" "evening" "I" ∈ lw_tbl := x_tb1 224 rfl
theorem wfn_X1_66 : Cond.fieldLinkNest RX1 66 "LineGuild$Hall" "evening" "I" "LineGuild" ∈ lw_tbl := x_tb1 225 rfl
theorem wfn_X0_62 : Cond.fieldLinkNest RX0 62 "LineGuild$Hall" "evening" "I" "LineGuild" ∈ lw_tbl := x_tb1 226 rfl
theorem wfn_X11_370 : Cond.fieldLinkNest RX11 370 "LineGuild$Hall" "evening" "I" "LineGuild" ∈ lw_tbl := x_tb1 227 rfl
theorem wf_X4_46 : Cond.fieldLink RX4 46 "LineGuild$Hall" "ill" "I" ∈ lw_tbl := x_tb1 228 rfl
theorem wfn_X1_186 : Cond.fieldLinkNest RX1 186 "LineGuild$Hall" "ill" "I" "LineGuild" ∈ lw_tbl := x_tb1 229 rfl
theorem wfn_X11_373 : Cond.fieldLinkNest RX11 373 "LineGuild$Hall" "ill" "I" "LineGuild" ∈ lw_tbl := x_tb1 230 rfl
theorem wf_X4_49 : Cond.fieldLink RX4 49 "LineGuild$Hall" "told" "I" ∈ lw_tbl := x_tb1 231 rfl
theorem wfn_X1_187 : Cond.fieldLinkNest RX1 187 "LineGuild$Hall" "told" "I" "LineGuild" ∈ lw_tbl := x_tb1 232 rfl
theorem wfn_X11_376 : Cond.fieldLinkNest RX11 376 "LineGuild$Hall" "told" "I" "LineGuild" ∈ lw_tbl := x_tb1 233 rfl
theorem wf_X4_52 : Cond.fieldLink RX4 52 "LineGuild$Hall" "x" "I" ∈ lw_tbl := x_tb1 234 rfl
theorem wfn_X11_367 : Cond.fieldLinkNest RX11 367 "LineGuild$Hall" "x" "I" "LineGuild" ∈ lw_tbl := x_tb1 235 rfl
theorem wk_X11_71 : Cond.classLink RX11 71 "LineGuild$Asking" ∈ lw_tbl := x_tb2 25 rfl
theorem wn_X0 : Cond.instantiable RX0 2 ∈ lw_tbl := x_tb2 26 rfl
theorem wmn_X11_73 : Cond.methodLinkNest RX11 73 yX0_init "LineGuild" ∈ lw_tbl := x_tb2 27 rfl
theorem wi_X0_init : Cond.instanceMethod yX0_init ∈ lw_tbl := x_tb2 28 rfl
theorem wc_X0_init : Cond.code yX0_init cX0_init 2 (Option.none : Option Jvm.ClassFile.FieldType) ∈ lw_tbl := x_tb2 29 rfl
theorem wm_X0_1 : Cond.methodLink RX0 1 ({ cls := "java/lang/Object", name := "<init>", desc := "()V" } : Jvm.MethodName) ∈ lw_tbl := x_tb2 30 rfl
theorem wf_X0_13 : Cond.fieldLink RX0 13 "LineGuild$Asking" "ends" "LLineGuild$Ends;" ∈ lw_tbl := x_tb2 31 rfl
theorem wf_X0_7 : Cond.fieldLink RX0 7 "LineGuild$Asking" "values" "[I" ∈ lw_tbl := x_tb2 32 rfl
theorem wk_X11_80 : Cond.classLink RX11 80 "LineGuild$Course" ∈ lw_tbl := x_tb2 38 rfl
theorem wn_X1 : Cond.instantiable RX1 15 ∈ lw_tbl := x_tb2 39 rfl
theorem wmn_X11_82 : Cond.methodLinkNest RX11 82 yX1_init "LineGuild" ∈ lw_tbl := x_tb2 40 rfl
theorem wi_X1_init : Cond.instanceMethod yX1_init ∈ lw_tbl := x_tb2 41 rfl
theorem wc_X1_init : Cond.code yX1_init cX1_init 6 (Option.none : Option Jvm.ClassFile.FieldType) ∈ lw_tbl := x_tb2 42 rfl
theorem wm_X1_3 : Cond.methodLink RX1 3 ({ cls := "java/lang/Object", name := "<init>", desc := "()V" } : Jvm.MethodName) ∈ lw_tbl := x_tb2 43 rfl
theorem wf_X1_42 : Cond.fieldLink RX1 42 "LineGuild$Course" "stories" "[LLineGuild$Story;" ∈ lw_tbl := x_tb2 44 rfl
theorem wf_X1_46 : Cond.fieldLink RX1 46 "LineGuild$Course" "ends" "LLineGuild$Ends;" ∈ lw_tbl := x_tb2 45 rfl
theorem wf_X1_50 : Cond.fieldLink RX1 50 "LineGuild$Course" "asking" "LLineGuild$Asking;" ∈ lw_tbl := x_tb2 46 rfl
theorem wf_X1_54 : Cond.fieldLink RX1 54 "LineGuild$Course" "hall" "LLineGuild$Hall;" ∈ lw_tbl := x_tb2 47 rfl
theorem wf_X1_58 : Cond.fieldLink RX1 58 "LineGuild$Course" "law" "LLineGuild$Law;" ∈ lw_tbl := x_tb2 48 rfl
theorem wf_X1_9 : Cond.fieldLink RX1 9 "LineGuild$Course" "night" "I" ∈ lw_tbl := x_tb2 49 rfl
theorem wf_X1_15 : Cond.fieldLink RX1 15 "LineGuild$Course" "pence" "I" ∈ lw_tbl := x_tb2 50 rfl
theorem wfn_X11_175 : Cond.fieldLinkNest RX11 175 "LineGuild$Course" "pence" "I" "LineGuild" ∈ lw_tbl := x_tb2 51 rfl
theorem wf_X1_18 : Cond.fieldLink RX1 18 "LineGuild$Course" "bought" "I" ∈ lw_tbl := x_tb2 52 rfl
theorem wf_X1_21 : Cond.fieldLink RX1 21 "LineGuild$Course" "forgedOnes" "I" ∈ lw_tbl := x_tb2 53 rfl
theorem wf_X1_24 : Cond.fieldLink RX1 24 "LineGuild$Course" "ill" "I" ∈ lw_tbl := x_tb2 54 rfl
theorem wf_X1_27 : Cond.fieldLink RX1 27 "LineGuild$Course" "gone" "I" ∈ lw_tbl := x_tb2 55 rfl
theorem wf_X1_30 : Cond.fieldLink RX1 30 "LineGuild$Course" "closed" "I" ∈ lw_tbl := x_tb2 56 rfl
theorem wf_X1_33 : Cond.fieldLink RX1 33 "LineGuild$Course" "given" "I" ∈ lw_tbl := x_tb2 57 rfl
theorem wf_X1_36 : Cond.fieldLink RX1 36 "LineGuild$Course" "firstIll" "I" ∈ lw_tbl := x_tb2 58 rfl
theorem wfn_X11_192 : Cond.fieldLinkNest RX11 192 "LineGuild$Course" "firstIll" "I" "LineGuild" ∈ lw_tbl := x_tb2 59 rfl
theorem wf_X1_39 : Cond.fieldLink RX1 39 "LineGuild$Course" "firstIllIn" "I" ∈ lw_tbl := x_tb2 60 rfl
theorem wfn_X11_195 : Cond.fieldLinkNest RX11 195 "LineGuild$Course" "firstIllIn" "I" "LineGuild" ∈ lw_tbl := x_tb2 61 rfl
theorem wk_X11_89 : Cond.classLink RX11 89 "LineGuild$Fitting" ∈ lw_tbl := x_tb2 93 rfl
theorem wn_X3 : Cond.instantiable RX3 8 ∈ lw_tbl := x_tb2 94 rfl
theorem wmn_X11_91 : Cond.methodLinkNest RX11 91 yX3_init "LineGuild" ∈ lw_tbl := x_tb2 95 rfl
theorem wi_X3_init : Cond.instanceMethod yX3_init ∈ lw_tbl := x_tb2 96 rfl
theorem wc_X3_init : Cond.code yX3_init cX3_init 1 (Option.none : Option Jvm.ClassFile.FieldType) ∈ lw_tbl := x_tb2 97 rfl
theorem wm_X3_3 : Cond.methodLink RX3 3 ({ cls := "java/lang/Object", name := "<init>", desc := "()V" } : Jvm.MethodName) ∈ lw_tbl := x_tb2 98 rfl
theorem wf_X3_9 : Cond.fieldLink RX3 9 "LineGuild$Fitting" "sets" "[I" ∈ lw_tbl := x_tb2 99 rfl
theorem wf_X3_15 : Cond.fieldLink RX3 15 "LineGuild$Fitting" "many" "I" ∈ lw_tbl := x_tb2 100 rfl
theorem wf_X3_19 : Cond.fieldLink RX3 19 "LineGuild$Fitting" "fewest" "[I" ∈ lw_tbl := x_tb2 101 rfl
theorem wf_X3_22 : Cond.fieldLink RX3 22 "LineGuild$Fitting" "fewestBehind" "[I" ∈ lw_tbl := x_tb2 102 rfl
theorem wf_X3_25 : Cond.fieldLink RX3 25 "LineGuild$Fitting" "outEarly" "[J" ∈ lw_tbl := x_tb2 103 rfl
theorem wf_X3_29 : Cond.fieldLink RX3 29 "LineGuild$Fitting" "outLate" "[J" ∈ lw_tbl := x_tb2 104 rfl
theorem wf_X3_32 : Cond.fieldLink RX3 32 "LineGuild$Fitting" "leftOut" "[I" ∈ lw_tbl := x_tb2 105 rfl
theorem wfn_X11_287 : Cond.fieldLinkNest RX11 287 "LineGuild$Fitting" "leftOut" "[I" "LineGuild" ∈ lw_tbl := x_tb2 106 rfl
theorem wf_X3_35 : Cond.fieldLink RX3 35 "LineGuild$Fitting" "leftOutCount" "I" ∈ lw_tbl := x_tb2 107 rfl
theorem wfn_X11_284 : Cond.fieldLinkNest RX11 284 "LineGuild$Fitting" "leftOutCount" "I" "LineGuild" ∈ lw_tbl := x_tb2 108 rfl
theorem wa_long : Cond.arrayClass Jvm.ClassFile.FieldType.long ∈ lw_tbl := x_tb2 126 rfl
theorem wk_X11_96 : Cond.classLink RX11 96 "LineGuild$Series" ∈ lw_tbl := x_tb2 127 rfl
theorem wn_X8 : Cond.instantiable RX8 4 ∈ lw_tbl := x_tb2 128 rfl
theorem wmn_X11_98 : Cond.methodLinkNest RX11 98 yX8_init "LineGuild" ∈ lw_tbl := x_tb2 129 rfl
theorem wi_X8_init : Cond.instanceMethod yX8_init ∈ lw_tbl := x_tb2 130 rfl
theorem wc_X8_init : Cond.code yX8_init cX8_init 1 (Option.none : Option Jvm.ClassFile.FieldType) ∈ lw_tbl := x_tb2 131 rfl
theorem wm_X8_3 : Cond.methodLink RX8 3 ({ cls := "java/lang/Object", name := "<init>", desc := "()V" } : Jvm.MethodName) ∈ lw_tbl := x_tb2 132 rfl
theorem wf_X8_9 : Cond.fieldLink RX8 9 "LineGuild$Series" "row" "[I" ∈ lw_tbl := x_tb2 133 rfl
theorem wf_X8_15 : Cond.fieldLink RX8 15 "LineGuild$Series" "best" "[I" ∈ lw_tbl := x_tb2 134 rfl
theorem wfn_X11_301 : Cond.fieldLinkNest RX11 301 "LineGuild$Series" "best" "[I" "LineGuild" ∈ lw_tbl := x_tb2 135 rfl
theorem wf_X8_18 : Cond.fieldLink RX8 18 "LineGuild$Series" "mostOpen" "I" ∈ lw_tbl := x_tb2 136 rfl
theorem wfn_X11_304 : Cond.fieldLinkNest RX11 304 "LineGuild$Series" "mostOpen" "I" "LineGuild" ∈ lw_tbl := x_tb2 137 rfl
theorem wf_X8_22 : Cond.fieldLink RX8 22 "LineGuild$Series" "openAtEnd" "I" ∈ lw_tbl := x_tb2 138 rfl
theorem wfn_X11_307 : Cond.fieldLinkNest RX11 307 "LineGuild$Series" "openAtEnd" "I" "LineGuild" ∈ lw_tbl := x_tb2 139 rfl
theorem wk_X11_103 : Cond.classLink RX11 103 "LineGuild$Lending" ∈ lw_tbl := x_tb2 149 rfl
theorem wn_X7 : Cond.instantiable RX7 6 ∈ lw_tbl := x_tb2 150 rfl
theorem wmn_X11_105 : Cond.methodLinkNest RX11 105 yX7_init "LineGuild" ∈ lw_tbl := x_tb2 151 rfl
theorem wi_X7_init : Cond.instanceMethod yX7_init ∈ lw_tbl := x_tb2 152 rfl
theorem wc_X7_init : Cond.code yX7_init cX7_init 1 (Option.none : Option Jvm.ClassFile.FieldType) ∈ lw_tbl := x_tb2 153 rfl
theorem wm_X7_3 : Cond.methodLink RX7 3 ({ cls := "java/lang/Object", name := "<init>", desc := "()V" } : Jvm.MethodName) ∈ lw_tbl := x_tb2 154 rfl
theorem wf_X7_9 : Cond.fieldLink RX7 9 "LineGuild$Lending" "from" "[I" ∈ lw_tbl := x_tb2 155 rfl
theorem wf_X7_15 : Cond.fieldLink RX7 15 "LineGuild$Lending" "to" "[I" ∈ lw_tbl := x_tb2 156 rfl
theorem wf_X7_18 : Cond.fieldLink RX7 18 "LineGuild$Lending" "when" "[I" ∈ lw_tbl := x_tb2 157 rfl
theorem wfn_X11_338 : Cond.fieldLinkNest RX11 338 "LineGuild$Lending" "when" "[I" "LineGuild" ∈ lw_tbl := x_tb2 158 rfl
theorem wf_X7_21 : Cond.fieldLink RX7 21 "LineGuild$Lending" "taken" "[I" ∈ lw_tbl := x_tb2 159 rfl
theorem wf_X7_24 : Cond.fieldLink RX7 24 "LineGuild$Lending" "wanters" "I" ∈ lw_tbl := x_tb2 160 rfl
theorem wf_X7_28 : Cond.fieldLink RX7 28 "LineGuild$Lending" "served" "I" ∈ lw_tbl := x_tb2 161 rfl
theorem wfn_X11_341 : Cond.fieldLinkNest RX11 341 "LineGuild$Lending" "served" "I" "LineGuild" ∈ lw_tbl := x_tb2 162 rfl
theorem wn_X9 : Cond.instantiable RX9 5 ∈ lw_tbl := x_tb2 176 rfl
theorem wmn_X11_110 : Cond.methodLinkNest RX11 110 yX9_init "LineGuild" ∈ lw_tbl := x_tb2 177 rfl
theorem wi_X9_init : Cond.instanceMethod yX9_init ∈ lw_tbl := x_tb2 178 rfl
theorem wc_X9_init : Cond.code yX9_init cX9_init 1 (Option.none : Option Jvm.ClassFile.FieldType) ∈ lw_tbl := x_tb2 179 rfl
theorem wm_X9_3 : Cond.methodLink RX9 3 ({ cls := "java/lang/Object", name := "<init>", desc := "()V" } : Jvm.MethodName) ∈ lw_tbl := x_tb2 180 rfl
theorem wf_X9_9 : Cond.fieldLink RX9 9 "LineGuild$Story" "turns" "[I" ∈ lw_tbl := x_tb2 181 rfl
theorem wfn_X3_57 : Cond.fieldLinkNest RX3 57 "LineGuild$Story" "turns" "[I" "LineGuild" ∈ lw_tbl := x_tb2 182 rfl
theorem wfn_X8_42 : Cond.fieldLinkNest RX8 42 "LineGuild$Story" "turns" "[I" "LineGuild" ∈ lw_tbl := x_tb2 183 rfl
theorem wf_X9_15 : Cond.fieldLink RX9 15 "LineGuild$Story" "size" "I" ∈ lw_tbl := x_tb2 184 rfl
theorem wfn_X3_52 : Cond.fieldLinkNest RX3 52 "LineGuild$Story" "size" "I" "LineGuild" ∈ lw_tbl := x_tb2 185 rfl
theorem wfn_X8_37 : Cond.fieldLinkNest RX8 37 "LineGuild$Story" "size" "I" "LineGuild" ∈ lw_tbl := x_tb2 186 rfl
theorem wfn_X1_107 : Cond.fieldLinkNest RX1 107 "LineGuild$Story" "size" "I" "LineGuild" ∈ lw_tbl := x_tb2 187 rfl
theorem wfn_X11_198 : Cond.fieldLinkNest RX11 198 "LineGuild$Story" "size" "I" "LineGuild" ∈ lw_tbl := x_tb2 188 rfl
theorem wf_X9_19 : Cond.fieldLink RX9 19 "LineGuild$Story" "atEnd" "I" ∈ lw_tbl := x_tb2 189 rfl
theorem wfn_X11_201 : Cond.fieldLinkNest RX11 201 "LineGuild$Story" "atEnd" "I" "LineGuild" ∈ lw_tbl := x_tb2 190 rfl
theorem wf_X9_22 : Cond.fieldLink RX9 22 "LineGuild$Story" "most" "I" ∈ lw_tbl := x_tb2 191 rfl
theorem wfn_X11_204 : Cond.fieldLinkNest RX11 204 "LineGuild$Story" "most" "I" "LineGuild" ∈ lw_tbl := x_tb2 192 rfl
theorem wf_X9_25 : Cond.fieldLink RX9 25 "LineGuild$Story" "comes" "I" ∈ lw_tbl := x_tb2 193 rfl
theorem wfn_X11_207 : Cond.fieldLinkNest RX11 207 "LineGuild$Story" "comes" "I" "LineGuild" ∈ lw_tbl := x_tb2 194 rfl
theorem wf_X11_9 : Cond.fieldLink RX11 9 "LineGuild" "tape" "[I" ∈ lw_tbl := x_tb2 206 rfl
theorem wf_X11_13 : Cond.fieldLink RX11 13 "LineGuild" "tapeSize" "I" ∈ lw_tbl := x_tb2 207 rfl
theorem wf_X11_19 : Cond.fieldLink RX11 19 "LineGuild" "stories" "[LLineGuild$Story;" ∈ lw_tbl := x_tb2 208 rfl
theorem wf_X11_26 : Cond.fieldLink RX11 26 "LineGuild" "storyReader" "LLineGuild$StoryReader;" ∈ lw_tbl := x_tb2 209 rfl
theorem wf_X11_33 : Cond.fieldLink RX11 33 "LineGuild" "law" "LLineGuild$Law;" ∈ lw_tbl := x_tb2 210 rfl
theorem wf_X11_37 : Cond.fieldLink RX11 37 "LineGuild" "copied" "LLineGuild$Law;" ∈ lw_tbl := x_tb2 211 rfl
theorem wf_X11_43 : Cond.fieldLink RX11 43 "LineGuild" "lawReader" "LLineGuild$LawReader;" ∈ lw_tbl := x_tb2 212 rfl
theorem wf_X11_50 : Cond.fieldLink RX11 50 "LineGuild" "ends" "LLineGuild$Ends;" ∈ lw_tbl := x_tb2 213 rfl
theorem wf_X11_57 : Cond.fieldLink RX11 57 "LineGuild" "hall" "LLineGuild$Hall;" ∈ lw_tbl := x_tb2 214 rfl
theorem wf_X11_61 : Cond.fieldLink RX11 61 "LineGuild" "kept" "LLineGuild$Hall;" ∈ lw_tbl := x_tb2 215 rfl
theorem wf_X11_64 : Cond.fieldLink RX11 64 "LineGuild" "trial" "LLineGuild$Hall;" ∈ lw_tbl := x_tb2 216 rfl
theorem wf_X11_67 : Cond.fieldLink RX11 67 "LineGuild" "hasKept" "Z" ∈ lw_tbl := x_tb2 217 rfl
theorem wf_X11_76 : Cond.fieldLink RX11 76 "LineGuild" "asking" "LLineGuild$Asking;" ∈ lw_tbl := x_tb2 218 rfl
theorem wf_X11_85 : Cond.fieldLink RX11 85 "LineGuild" "course" "LLineGuild$Course;" ∈ lw_tbl := x_tb2 219 rfl
theorem wf_X11_92 : Cond.fieldLink RX11 92 "LineGuild" "fit" "LLineGuild$Fitting;" ∈ lw_tbl := x_tb2 220 rfl
theorem wf_X11_99 : Cond.fieldLink RX11 99 "LineGuild" "serial" "LLineGuild$Series;" ∈ lw_tbl := x_tb2 221 rfl
theorem wf_X11_106 : Cond.fieldLink RX11 106 "LineGuild" "lending" "LLineGuild$Lending;" ∈ lw_tbl := x_tb2 222 rfl
theorem wm_L_13 : Cond.methodLink RL 13 yX11_feed ∈ lw_tbl := x_tb3 18 rfl
theorem wi_X11_feed : Cond.instanceMethod yX11_feed ∈ lw_tbl := x_tb3 19 rfl
theorem wv_X11_feed : Cond.selects RX11 yX11_feed yX11_feed ∈ lw_tbl := x_tb3 20 rfl
theorem wc_X11_feed : Cond.code yX11_feed cX11_feed 6 (Option.some Jvm.ClassFile.FieldType.int) ∈ lw_tbl := x_tb3 21 rfl
theorem wm_X11_111 : Cond.methodLink RX11 111 yX11_putOnTape ∈ lw_tbl := x_tb3 22 rfl
theorem wi_X11_putOnTape : Cond.instanceMethod yX11_putOnTape ∈ lw_tbl := x_tb3 24 rfl
theorem wc_X11_putOnTape : Cond.code yX11_putOnTape cX11_putOnTape 3 (Option.none : Option Jvm.ClassFile.FieldType) ∈ lw_tbl := x_tb3 25 rfl
theorem wm_L_18 : Cond.methodLink RL 18 yX11_story ∈ lw_tbl := x_tb3 26 rfl
theorem wi_X11_story : Cond.instanceMethod yX11_story ∈ lw_tbl := x_tb3 27 rfl
theorem wv_X11_story : Cond.selects RX11 yX11_story yX11_story ∈ lw_tbl := x_tb3 28 rfl
theorem wc_X11_story : Cond.code yX11_story cX11_story 5 (Option.some Jvm.ClassFile.FieldType.int) ∈ lw_tbl := x_tb3 29 rfl
theorem wm_X11_115 : Cond.methodLink RX11 115 yX11_storyAt ∈ lw_tbl := x_tb3 30 rfl
theorem wi_X11_storyAt : Cond.instanceMethod yX11_storyAt ∈ lw_tbl := x_tb3 32 rfl
theorem wc_X11_storyAt : Cond.code yX11_storyAt cX11_storyAt 2 (Option.some (Jvm.ClassFile.FieldType.object "LineGuild$Story")) ∈ lw_tbl := x_tb3 33 rfl
theorem wm_X11_145 : Cond.methodLink RX11 145 yX11_isWithin ∈ lw_tbl := x_tb3 34 rfl
theorem wsm_X11_isWithin : Cond.static yX11_isWithin ∈ lw_tbl := x_tb3 35 rfl
theorem wc_X11_isWithin : Cond.code yX11_isWithin cX11_isWithin 3 (Option.some Jvm.ClassFile.FieldType.boolean) ∈ lw_tbl := x_tb3 36 rfl
theorem wm_X11_119 : Cond.methodLink RX11 119 yX11_tapeGives ∈ lw_tbl := x_tb3 37 rfl
theorem wi_X11_tapeGives : Cond.instanceMethod yX11_tapeGives ∈ lw_tbl := x_tb3 39 rfl
theorem wc_X11_tapeGives : Cond.code yX11_tapeGives cX11_tapeGives 4 (Option.some Jvm.ClassFile.FieldType.boolean) ∈ lw_tbl := x_tb3 40 rfl
theorem wmn_X11_123 : Cond.methodLinkNest RX11 123 yX10_read "LineGuild" ∈ lw_tbl := x_tb3 41 rfl
theorem wi_X10_read : Cond.instanceMethod yX10_read ∈ lw_tbl := x_tb3 43 rfl
theorem wc_X10_read : Cond.code yX10_read cX10_read 3 (Option.some Jvm.ClassFile.FieldType.int) ∈ lw_tbl := x_tb3 44 rfl
theorem wm_X10_31 : Cond.methodLink RX10 31 yJ9_min_7cf53 ∈ lw_tbl := x_tb3 45 rfl
theorem wsm_J9_min_7cf53 : Cond.static yJ9_min_7cf53 ∈ lw_tbl := x_tb3 46 rfl
theorem wc_J9_min_7cf53 : Cond.code yJ9_min_7cf53 cJ9_min_7cf53 2 (Option.some Jvm.ClassFile.FieldType.int) ∈ lw_tbl := x_tb3 47 rfl
theorem wm_X10_37 : Cond.methodLink RX10 37 yX10_readTurns ∈ lw_tbl := x_tb3 48 rfl
theorem wi_X10_readTurns : Cond.instanceMethod yX10_readTurns ∈ lw_tbl := x_tb3 50 rfl
theorem wc_X10_readTurns : Cond.code yX10_readTurns cX10_readTurns 5 (Option.none : Option Jvm.ClassFile.FieldType) ∈ lw_tbl := x_tb3 51 rfl
theorem wm_X10_41 : Cond.methodLink RX10 41 yX10_readTurn ∈ lw_tbl := x_tb3 52 rfl
theorem wi_X10_readTurn : Cond.instanceMethod yX10_readTurn ∈ lw_tbl := x_tb3 54 rfl
theorem wc_X10_readTurn : Cond.code yX10_readTurn cX10_readTurn 5 (Option.none : Option Jvm.ClassFile.FieldType) ∈ lw_tbl := x_tb3 55 rfl
theorem wm_X10_44 : Cond.methodLink RX10 44 yX10_sign ∈ lw_tbl := x_tb3 56 rfl
theorem wi_X10_sign : Cond.instanceMethod yX10_sign ∈ lw_tbl := x_tb3 58 rfl
theorem wc_X10_sign : Cond.code yX10_sign cX10_sign 1 (Option.some Jvm.ClassFile.FieldType.int) ∈ lw_tbl := x_tb3 59 rfl
theorem wm_X10_48 : Cond.methodLink RX10 48 yX10_readGroup ∈ lw_tbl := x_tb3 60 rfl
theorem wi_X10_readGroup : Cond.instanceMethod yX10_readGroup ∈ lw_tbl := x_tb3 62 rfl
theorem wc_X10_readGroup : Cond.code yX10_readGroup cX10_readGroup 2 (Option.none : Option Jvm.ClassFile.FieldType) ∈ lw_tbl := x_tb3 63 rfl
theorem wm_X10_54 : Cond.methodLink RX10 54 yX10_refuse ∈ lw_tbl := x_tb3 64 rfl
theorem wi_X10_refuse : Cond.instanceMethod yX10_refuse ∈ lw_tbl := x_tb3 66 rfl
theorem wc_X10_refuse : Cond.code yX10_refuse cX10_refuse 3 (Option.none : Option Jvm.ClassFile.FieldType) ∈ lw_tbl := x_tb3 67 rfl
theorem wm_X10_51 : Cond.methodLink RX10 51 yX10_readLetter ∈ lw_tbl := x_tb3 68 rfl
theorem wi_X10_readLetter : Cond.instanceMethod yX10_readLetter ∈ lw_tbl := x_tb3 70 rfl
theorem wc_X10_readLetter : Cond.code yX10_readLetter cX10_readLetter 2 (Option.none : Option Jvm.ClassFile.FieldType) ∈ lw_tbl := x_tb3 71 rfl
theorem wst_X10_63 : Cond.stringRef RX10 63 "abcdefghijABCDEFGHIJ*." ∈ lw_tbl := x_tb3 72 rfl
theorem wm_X10_65 : Cond.methodLink RX10 65 yJ0_indexOf_0f7a4 ∈ lw_tbl := x_tb3 73 rfl
theorem wi_J0_indexOf_0f7a4 : Cond.instanceMethod yJ0_indexOf_0f7a4 ∈ lw_tbl := x_tb3 74 rfl
theorem wv_J0_indexOf_0f7a4 : Cond.selects RJ0 yJ0_indexOf_0f7a4 yJ0_indexOf_0f7a4 ∈ lw_tbl := x_tb3 75 rfl
theorem wc_J0_indexOf_0f7a4 : Cond.code yJ0_indexOf_0f7a4 cJ0_indexOf_0f7a4 2 (Option.some Jvm.ClassFile.FieldType.int) ∈ lw_tbl := x_tb3 76 rfl
theorem wm_J0_633 : Cond.methodLink RJ0 633 yJ0_indexOf_7cf53 ∈ lw_tbl := x_tb3 77 rfl
theorem wi_J0_indexOf_7cf53 : Cond.instanceMethod yJ0_indexOf_7cf53 ∈ lw_tbl := x_tb3 78 rfl
theorem wv_J0_indexOf_7cf53 : Cond.selects RJ0 yJ0_indexOf_7cf53 yJ0_indexOf_7cf53 ∈ lw_tbl := x_tb3 79 rfl
theorem wc_J0_indexOf_7cf53 : Cond.code yJ0_indexOf_7cf53 cJ0_indexOf_7cf53 3 (Option.some Jvm.ClassFile.FieldType.int) ∈ lw_tbl := x_tb3 80 rfl
theorem wm_J0_492 : Cond.methodLink RJ0 492 yJ0_isLatin1_aae02 ∈ lw_tbl := x_tb3 81 rfl
theorem wi_J0_isLatin1_aae02 : Cond.instanceMethod yJ0_isLatin1_aae02 ∈ lw_tbl := x_tb3 82 rfl
theorem wv_J0_isLatin1_aae02 : Cond.selects RJ0 yJ0_isLatin1_aae02 yJ0_isLatin1_aae02 ∈ lw_tbl := x_tb3 83 rfl
theorem wc_J0_isLatin1_aae02 : Cond.code yJ0_isLatin1_aae02 cJ0_isLatin1_aae02 1 (Option.some Jvm.ClassFile.FieldType.boolean) ∈ lw_tbl := x_tb3 84 rfl
theorem wf_J0_38 : Cond.fieldLink RJ0 38 "java/lang/String" "COMPACT_STRINGS" "Z" ∈ lw_tbl := x_tb3 85 rfl
theorem wm_J0_505 : Cond.methodLink RJ0 505 yJ0_length_8abf5 ∈ lw_tbl := x_tb3 87 rfl
theorem wi_J0_length_8abf5 : Cond.instanceMethod yJ0_length_8abf5 ∈ lw_tbl := x_tb3 88 rfl
theorem wv_J0_length_8abf5 : Cond.selects RJ0 yJ0_length_8abf5 yJ0_length_8abf5 ∈ lw_tbl := x_tb3 89 rfl
theorem wc_J0_length_8abf5 : Cond.code yJ0_length_8abf5 cJ0_length_8abf5 1 (Option.some Jvm.ClassFile.FieldType.int) ∈ lw_tbl := x_tb3 90 rfl
theorem wm_J0_335 : Cond.methodLink RJ0 335 yJ0_coder_7d493 ∈ lw_tbl := x_tb3 91 rfl
theorem wi_J0_coder_7d493 : Cond.instanceMethod yJ0_coder_7d493 ∈ lw_tbl := x_tb3 92 rfl
theorem wv_J0_coder_7d493 : Cond.selects RJ0 yJ0_coder_7d493 yJ0_coder_7d493 ∈ lw_tbl := x_tb3 93 rfl
theorem wc_J0_coder_7d493 : Cond.code yJ0_coder_7d493 cJ0_coder_7d493 1 (Option.some Jvm.ClassFile.FieldType.byte) ∈ lw_tbl := x_tb3 94 rfl
theorem wm_J0_637 : Cond.methodLink RJ0 637 yJ1_indexOf_4cfef ∈ lw_tbl := x_tb3 95 rfl
theorem wsm_J1_indexOf_4cfef : Cond.static yJ1_indexOf_4cfef ∈ lw_tbl := x_tb3 96 rfl
theorem wc_J1_indexOf_4cfef : Cond.code yJ1_indexOf_4cfef cJ1_indexOf_4cfef 4 (Option.some Jvm.ClassFile.FieldType.int) ∈ lw_tbl := x_tb3 97 rfl
theorem wm_J1_88 : Cond.methodLink RJ1 88 yJ1_canEncode_9a6ad ∈ lw_tbl := x_tb3 98 rfl
theorem wsm_J1_canEncode_9a6ad : Cond.static yJ1_canEncode_9a6ad ∈ lw_tbl := x_tb3 99 rfl
theorem wc_J1_canEncode_9a6ad : Cond.code yJ1_canEncode_9a6ad cJ1_canEncode_9a6ad 1 (Option.some Jvm.ClassFile.FieldType.boolean) ∈ lw_tbl := x_tb3 100 rfl
theorem wm_J1_92 : Cond.methodLink RJ1 92 yJ9_max_7cf53 ∈ lw_tbl := x_tb3 101 rfl
theorem wsm_J9_max_7cf53 : Cond.static yJ9_max_7cf53 ∈ lw_tbl := x_tb3 102 rfl
theorem wc_J9_max_7cf53 : Cond.code yJ9_max_7cf53 cJ9_max_7cf53 2 (Option.some Jvm.ClassFile.FieldType.int) ∈ lw_tbl := x_tb3 103 rfl
theorem wm_J1_38 : Cond.methodLink RJ1 38 yJ9_min_7cf53 ∈ lw_tbl := x_tb3 104 rfl
theorem wm_J1_95 : Cond.methodLink RJ1 95 yJ1_indexOfChar_4cfef ∈ lw_tbl := x_tb3 105 rfl
theorem wsm_J1_indexOfChar_4cfef : Cond.static yJ1_indexOfChar_4cfef ∈ lw_tbl := x_tb3 106 rfl
theorem wc_J1_indexOfChar_4cfef : Cond.code yJ1_indexOfChar_4cfef cJ1_indexOfChar_4cfef 6 (Option.some Jvm.ClassFile.FieldType.int) ∈ lw_tbl := x_tb3 107 rfl
theorem wm_J0_640 : Cond.methodLink RJ0 640 yJ2_indexOf_4cfef ∈ lw_tbl := x_tb3 108 rfl
theorem wsm_J2_indexOf_4cfef : Cond.static yJ2_indexOf_4cfef ∈ lw_tbl := x_tb3 109 rfl
theorem wc_J2_indexOf_4cfef : Cond.code yJ2_indexOf_4cfef cJ2_indexOf_4cfef 4 (Option.some Jvm.ClassFile.FieldType.int) ∈ lw_tbl := x_tb3 110 rfl
theorem wm_J2_224 : Cond.methodLink RJ2 224 yJ9_max_7cf53 ∈ lw_tbl := x_tb3 111 rfl
theorem wm_J2_183 : Cond.methodLink RJ2 183 yJ9_min_7cf53 ∈ lw_tbl := x_tb3 112 rfl
theorem wco_J2_227 : Cond.constant RJ2 227 (65536 : Int32) ∈ lw_tbl := x_tb3 113 rfl
theorem wm_J2_228 : Cond.methodLink RJ2 228 yJ2_indexOfChar_4cfef ∈ lw_tbl := x_tb3 114 rfl
theorem wsm_J2_indexOfChar_4cfef : Cond.static yJ2_indexOfChar_4cfef ∈ lw_tbl := x_tb3 115 rfl
theorem wc_J2_indexOfChar_4cfef : Cond.code yJ2_indexOfChar_4cfef cJ2_indexOfChar_4cfef 4 (Option.some Jvm.ClassFile.FieldType.int) ∈ lw_tbl := x_tb3 116 rfl
theorem wm_J2_96 : Cond.methodLink RJ2 96 yJ2_checkBoundsBeginEnd_d044e ∈ lw_tbl := x_tb3 117 rfl
theorem wsm_J2_checkBoundsBeginEnd_d044e : Cond.static yJ2_checkBoundsBeginEnd_d044e ∈ lw_tbl := x_tb3 118 rfl
theorem wc_J2_checkBoundsBeginEnd_d044e : Cond.code yJ2_checkBoundsBeginEnd_d044e cJ2_checkBoundsBeginEnd_d044e 3 (Option.none : Option Jvm.ClassFile.FieldType) ∈ lw_tbl := x_tb3 119 rfl
theorem wm_J2_48 : Cond.methodLink RJ2 48 yJ2_length_9d52b ∈ lw_tbl := x_tb3 120 rfl
theorem wsm_J2_length_9d52b : Cond.static yJ2_length_9d52b ∈ lw_tbl := x_tb3 121 rfl
theorem wc_J2_length_9d52b : Cond.code yJ2_length_9d52b cJ2_length_9d52b 1 (Option.some Jvm.ClassFile.FieldType.int) ∈ lw_tbl := x_tb3 122 rfl
theorem wm_J2_241 : Cond.methodLink RJ2 241 yJ0_checkBoundsBeginEnd_23922 ∈ lw_tbl := x_tb3 123 rfl
theorem wsm_J0_checkBoundsBeginEnd_23922 : Cond.static yJ0_checkBoundsBeginEnd_23922 ∈ lw_tbl := x_tb3 124 rfl
theorem wc_J0_checkBoundsBeginEnd_23922 : Cond.code yJ0_checkBoundsBeginEnd_23922 cJ0_checkBoundsBeginEnd_23922 3 (Option.none : Option Jvm.ClassFile.FieldType) ∈ lw_tbl := x_tb3 125 rfl
theorem wf_J0_1053 : Cond.fieldLink RJ0 1053 "jdk/internal/util/Preconditions" "SIOOBE_FORMATTER" "Ljava/util/function/BiFunction;" ∈ lw_tbl := x_tb3 126 rfl
theorem wm_J0_1062 : Cond.methodLink RJ0 1062 yJ3_checkFromToIndex_8c36e ∈ lw_tbl := x_tb3 128 rfl
theorem wsm_J3_checkFromToIndex_8c36e : Cond.static yJ3_checkFromToIndex_8c36e ∈ lw_tbl := x_tb3 129 rfl
theorem wc_J3_checkFromToIndex_8c36e : Cond.code yJ3_checkFromToIndex_8c36e cJ3_checkFromToIndex_8c36e 4 (Option.some Jvm.ClassFile.FieldType.int) ∈ lw_tbl := x_tb3 130 rfl
theorem wm_J2_244 : Cond.methodLink RJ2 244 yJ2_indexOfCharUnsafe_4cfef ∈ lw_tbl := x_tb3 131 rfl
theorem wsm_J2_indexOfCharUnsafe_4cfef : Cond.static yJ2_indexOfCharUnsafe_4cfef ∈ lw_tbl := x_tb3 132 rfl
theorem wc_J2_indexOfCharUnsafe_4cfef : Cond.code yJ2_indexOfCharUnsafe_4cfef cJ2_indexOfCharUnsafe_4cfef 5 (Option.some Jvm.ClassFile.FieldType.int) ∈ lw_tbl := x_tb3 133 rfl
theorem wm_J2_71 : Cond.methodLink RJ2 71 yJ2_getChar_3b067 ∈ lw_tbl := x_tb3 134 rfl
theorem wsm_J2_getChar_3b067 : Cond.static yJ2_getChar_3b067 ∈ lw_tbl := x_tb3 135 rfl
theorem wc_J2_getChar_3b067 : Cond.code yJ2_getChar_3b067 cJ2_getChar_3b067 2 (Option.some Jvm.ClassFile.FieldType.char) ∈ lw_tbl := x_tb3 136 rfl
theorem wf_J2_44 : Cond.fieldLink RJ2 44 "java/lang/StringUTF16" "$assertionsDisabled" "Z" ∈ lw_tbl := x_tb3 137 rfl
theorem wf_J2_59 : Cond.fieldLink RJ2 59 "java/lang/StringUTF16" "HI_BYTE_SHIFT" "I" ∈ lw_tbl := x_tb3 139 rfl
theorem wf_J2_63 : Cond.fieldLink RJ2 63 "java/lang/StringUTF16" "LO_BYTE_SHIFT" "I" ∈ lw_tbl := x_tb3 141 rfl
theorem wm_J2_232 : Cond.methodLink RJ2 232 yJ2_indexOfSupplementary_4cfef ∈ lw_tbl := x_tb3 143 rfl
theorem wsm_J2_indexOfSupplementary_4cfef : Cond.static yJ2_indexOfSupplementary_4cfef ∈ lw_tbl := x_tb3 144 rfl
theorem wc_J2_indexOfSupplementary_4cfef : Cond.code yJ2_indexOfSupplementary_4cfef cJ2_indexOfSupplementary_4cfef 7 (Option.some Jvm.ClassFile.FieldType.int) ∈ lw_tbl := x_tb3 145 rfl
theorem wm_J2_164 : Cond.methodLink RJ2 164 yJ11_isValidCodePoint_9a6ad ∈ lw_tbl := x_tb3 146 rfl
theorem wsm_J11_isValidCodePoint_9a6ad : Cond.static yJ11_isValidCodePoint_9a6ad ∈ lw_tbl := x_tb3 147 rfl
theorem wc_J11_isValidCodePoint_9a6ad : Cond.code yJ11_isValidCodePoint_9a6ad cJ11_isValidCodePoint_9a6ad 2 (Option.some Jvm.ClassFile.FieldType.boolean) ∈ lw_tbl := x_tb3 148 rfl
theorem wm_J2_157 : Cond.methodLink RJ2 157 yJ11_highSurrogate_5068e ∈ lw_tbl := x_tb3 149 rfl
theorem wsm_J11_highSurrogate_5068e : Cond.static yJ11_highSurrogate_5068e ∈ lw_tbl := x_tb3 150 rfl
theorem wc_J11_highSurrogate_5068e : Cond.code yJ11_highSurrogate_5068e cJ11_highSurrogate_5068e 1 (Option.some Jvm.ClassFile.FieldType.char) ∈ lw_tbl := x_tb3 151 rfl
theorem wco_J11_110 : Cond.constant RJ11 110 (55232 : Int32) ∈ lw_tbl := x_tb3 152 rfl
theorem wm_J2_161 : Cond.methodLink RJ2 161 yJ11_lowSurrogate_5068e ∈ lw_tbl := x_tb3 153 rfl
theorem wsm_J11_lowSurrogate_5068e : Cond.static yJ11_lowSurrogate_5068e ∈ lw_tbl := x_tb3 154 rfl
theorem wc_J11_lowSurrogate_5068e : Cond.code yJ11_lowSurrogate_5068e cJ11_lowSurrogate_5068e 1 (Option.some Jvm.ClassFile.FieldType.char) ∈ lw_tbl := x_tb3 155 rfl
theorem wco_J11_76 : Cond.constant RJ11 76 (56320 : Int32) ∈ lw_tbl := x_tb3 156 rfl
theorem wm_X10_58 : Cond.methodLink RX10 58 yX10_repeat ∈ lw_tbl := x_tb3 157 rfl
theorem wi_X10_repeat : Cond.instanceMethod yX10_repeat ∈ lw_tbl := x_tb3 159 rfl
theorem wc_X10_repeat : Cond.code yX10_repeat cX10_repeat 6 (Option.none : Option Jvm.ClassFile.FieldType) ∈ lw_tbl := x_tb3 160 rfl
theorem wmn_X11_130 : Cond.methodLinkNest RX11 130 yX9_take "LineGuild" ∈ lw_tbl := x_tb3 161 rfl
theorem wi_X9_take : Cond.instanceMethod yX9_take ∈ lw_tbl := x_tb3 163 rfl
theorem wc_X9_take : Cond.code yX9_take cX9_take 5 (Option.none : Option Jvm.ClassFile.FieldType) ∈ lw_tbl := x_tb3 164 rfl
theorem wm_X9_28 : Cond.methodLink RX9 28 yJ9_min_7cf53 ∈ lw_tbl := x_tb3 165 rfl
theorem wm_X9_34 : Cond.methodLink RX9 34 yJ9_max_7cf53 ∈ lw_tbl := x_tb3 166 rfl
theorem wm_X9_37 : Cond.methodLink RX9 37 ({ cls := "java/lang/System", name := "arraycopy", desc := "(Ljava/lang/Object;ILjava/lang/Object;II)V" } : Jvm.MethodName) ∈ lw_tbl := x_tb3 167 rfl
theorem wm_X9_43 : Cond.methodLink RX9 43 yX9_behindTurn ∈ lw_tbl := x_tb3 170 rfl
theorem wsm_X9_behindTurn : Cond.static yX9_behindTurn ∈ lw_tbl := x_tb3 171 rfl
theorem wc_X9_behindTurn : Cond.code yX9_behindTurn cX9_behindTurn 3 (Option.some Jvm.ClassFile.FieldType.int) ∈ lw_tbl := x_tb3 172 rfl
theorem wm_X9_55 : Cond.methodLink RX9 55 yX9_isClosing ∈ lw_tbl := x_tb3 173 rfl
theorem wsm_X9_isClosing : Cond.static yX9_isClosing ∈ lw_tbl := x_tb3 174 rfl
theorem wc_X9_isClosing : Cond.code yX9_isClosing cX9_isClosing 1 (Option.some Jvm.ClassFile.FieldType.boolean) ∈ lw_tbl := x_tb3 175 rfl
theorem wm_X9_46 : Cond.methodLink RX9 46 yX9_namedBy ∈ lw_tbl := x_tb3 176 rfl
theorem wsm_X9_namedBy : Cond.static yX9_namedBy ∈ lw_tbl := x_tb3 177 rfl
theorem wc_X9_namedBy : Cond.code yX9_namedBy cX9_namedBy 1 (Option.some Jvm.ClassFile.FieldType.int) ∈ lw_tbl := x_tb3 178 rfl
theorem wm_X9_50 : Cond.methodLink RX9 50 yJ6_bitCount_0f7a4 ∈ lw_tbl := x_tb3 179 rfl
theorem wsm_J6_bitCount_0f7a4 : Cond.static yJ6_bitCount_0f7a4 ∈ lw_tbl := x_tb3 180 rfl
theorem wc_J6_bitCount_0f7a4 : Cond.code yJ6_bitCount_0f7a4 cJ6_bitCount_0f7a4 1 (Option.some Jvm.ClassFile.FieldType.int) ∈ lw_tbl := x_tb3 181 rfl
theorem wco_J6_265 : Cond.constant RJ6 265 (1431655765 : Int32) ∈ lw_tbl := x_tb3 182 rfl
theorem wco_J6_266 : Cond.constant RJ6 266 (858993459 : Int32) ∈ lw_tbl := x_tb3 183 rfl
theorem wco_J6_267 : Cond.constant RJ6 267 (252645135 : Int32) ∈ lw_tbl := x_tb3 184 rfl
theorem wmn_X11_134 : Cond.methodLinkNest RX11 134 yX4_beginAnew "LineGuild" ∈ lw_tbl := x_tb3 185 rfl
theorem wi_X4_beginAnew : Cond.instanceMethod yX4_beginAnew ∈ lw_tbl := x_tb3 187 rfl
theorem wc_X4_beginAnew : Cond.code yX4_beginAnew cX4_beginAnew 3 (Option.none : Option Jvm.ClassFile.FieldType) ∈ lw_tbl := x_tb3 188 rfl
theorem wmn_X4_61 : Cond.methodLinkNest RX4 61 yX11_has "LineGuild" ∈ lw_tbl := x_tb3 189 rfl
theorem wsm_X11_has : Cond.static yX11_has ∈ lw_tbl := x_tb3 190 rfl
theorem wc_X11_has : Cond.code yX11_has cX11_has 2 (Option.some Jvm.ClassFile.FieldType.boolean) ∈ lw_tbl := x_tb3 191 rfl
theorem wa_byte : Cond.arrayClass Jvm.ClassFile.FieldType.byte ∈ lw_tbl := x_tb3 192 rfl
theorem wm_L_23 : Cond.methodLink RL 23 yX11_law ∈ lw_tbl := x_tb3 193 rfl
theorem wi_X11_law : Cond.instanceMethod yX11_law ∈ lw_tbl := x_tb3 194 rfl
theorem wv_X11_law : Cond.selects RX11 yX11_law yX11_law ∈ lw_tbl := x_tb3 195 rfl
theorem wc_X11_law : Cond.code yX11_law cX11_law 3 (Option.some Jvm.ClassFile.FieldType.int) ∈ lw_tbl := x_tb3 196 rfl
theorem wmn_X11_137 : Cond.methodLinkNest RX11 137 yX6_read "LineGuild" ∈ lw_tbl := x_tb3 197 rfl
theorem wi_X6_read : Cond.instanceMethod yX6_read ∈ lw_tbl := x_tb3 199 rfl
theorem wc_X6_read : Cond.code yX6_read cX6_read 4 (Option.some Jvm.ClassFile.FieldType.int) ∈ lw_tbl := x_tb3 200 rfl
theorem wm_X6_32 : Cond.methodLink RX6 32 yJ9_min_7cf53 ∈ lw_tbl := x_tb3 201 rfl
theorem wmn_X6_38 : Cond.methodLinkNest RX6 38 yX5_clear "LineGuild" ∈ lw_tbl := x_tb3 202 rfl
theorem wi_X5_clear : Cond.instanceMethod yX5_clear ∈ lw_tbl := x_tb3 204 rfl
theorem wc_X5_clear : Cond.code yX5_clear cX5_clear 1 (Option.none : Option Jvm.ClassFile.FieldType) ∈ lw_tbl := x_tb3 205 rfl
theorem wm_X6_41 : Cond.methodLink RX6 41 yX6_readClause ∈ lw_tbl := x_tb3 206 rfl
theorem wi_X6_readClause : Cond.instanceMethod yX6_readClause ∈ lw_tbl := x_tb3 208 rfl
theorem wc_X6_readClause : Cond.code yX6_readClause cX6_readClause 4 (Option.none : Option Jvm.ClassFile.FieldType) ∈ lw_tbl := x_tb3 209 rfl
theorem wst_X6_51 : Cond.stringRef RX6 51 "nptsfgx" ∈ lw_tbl := x_tb3 210 rfl
theorem wm_X6_53 : Cond.methodLink RX6 53 yX6_placeIn ∈ lw_tbl := x_tb3 211 rfl
theorem wi_X6_placeIn : Cond.instanceMethod yX6_placeIn ∈ lw_tbl := x_tb3 213 rfl
theorem wc_X6_placeIn : Cond.code yX6_placeIn cX6_placeIn 2 (Option.some Jvm.ClassFile.FieldType.int) ∈ lw_tbl := x_tb3 214 rfl
theorem wm_X6_74 : Cond.methodLink RX6 74 yX6_sign ∈ lw_tbl := x_tb3 215 rfl
theorem wi_X6_sign : Cond.instanceMethod yX6_sign ∈ lw_tbl := x_tb3 217 rfl
theorem wc_X6_sign : Cond.code yX6_sign cX6_sign 1 (Option.some Jvm.ClassFile.FieldType.int) ∈ lw_tbl := x_tb3 218 rfl
theorem wm_X6_116 : Cond.methodLink RX6 116 yJ0_indexOf_0f7a4 ∈ lw_tbl := x_tb3 219 rfl
theorem wm_X6_57 : Cond.methodLink RX6 57 yX6_refuse ∈ lw_tbl := x_tb3 220 rfl
theorem wi_X6_refuse : Cond.instanceMethod yX6_refuse ∈ lw_tbl := x_tb3 222 rfl
theorem wc_X6_refuse : Cond.code yX6_refuse cX6_refuse 2 (Option.none : Option Jvm.ClassFile.FieldType) ∈ lw_tbl := x_tb3 223 rfl
theorem wm_X6_61 : Cond.methodLink RX6 61 yX6_readSum ∈ lw_tbl := x_tb3 224 rfl
theorem wi_X6_readSum : Cond.instanceMethod yX6_readSum ∈ lw_tbl := x_tb3 226 rfl
theorem wc_X6_readSum : Cond.code yX6_readSum cX6_readSum 4 (Option.none : Option Jvm.ClassFile.FieldType) ∈ lw_tbl := x_tb3 227 rfl
theorem wm_X6_95 : Cond.methodLink RX6 95 yX6_readProduct ∈ lw_tbl := x_tb3 228 rfl
theorem wi_X6_readProduct : Cond.instanceMethod yX6_readProduct ∈ lw_tbl := x_tb3 230 rfl
theorem wc_X6_readProduct : Cond.code yX6_readProduct cX6_readProduct 4 (Option.none : Option Jvm.ClassFile.FieldType) ∈ lw_tbl := x_tb3 231 rfl
theorem wm_X6_100 : Cond.methodLink RX6 100 yX6_readFactor ∈ lw_tbl := x_tb3 232 rfl
theorem wi_X6_readFactor : Cond.instanceMethod yX6_readFactor ∈ lw_tbl := x_tb3 234 rfl
theorem wc_X6_readFactor : Cond.code yX6_readFactor cX6_readFactor 3 (Option.none : Option Jvm.ClassFile.FieldType) ∈ lw_tbl := x_tb3 235 rfl
theorem wst_X6_107 : Cond.stringRef RX6 107 "kumolareczhv" ∈ lw_tbl := x_tb3 236 rfl
theorem wm_X6_88 : Cond.methodLink RX6 88 yX6_openAt ∈ lw_tbl := x_tb3 237 rfl
theorem wi_X6_openAt : Cond.instanceMethod yX6_openAt ∈ lw_tbl := x_tb3 239 rfl
theorem wc_X6_openAt : Cond.code yX6_openAt cX6_openAt 2 (Option.none : Option Jvm.ClassFile.FieldType) ∈ lw_tbl := x_tb4 0 rfl
theorem wm_X6_44 : Cond.methodLink RX6 44 yX6_take ∈ lw_tbl := x_tb4 1 rfl
theorem wi_X6_take : Cond.instanceMethod yX6_take ∈ lw_tbl := x_tb4 3 rfl
theorem wc_X6_take : Cond.code yX6_take cX6_take 2 (Option.none : Option Jvm.ClassFile.FieldType) ∈ lw_tbl := x_tb4 4 rfl
theorem wmn_X6_78 : Cond.methodLinkNest RX6 78 yX5_addStep "LineGuild" ∈ lw_tbl := x_tb4 5 rfl
theorem wi_X5_addStep : Cond.instanceMethod yX5_addStep ∈ lw_tbl := x_tb4 7 rfl
theorem wc_X5_addStep : Cond.code yX5_addStep cX5_addStep 3 (Option.none : Option Jvm.ClassFile.FieldType) ∈ lw_tbl := x_tb4 8 rfl
theorem wm_X6_109 : Cond.methodLink RX6 109 yX6_readNumber ∈ lw_tbl := x_tb4 9 rfl
theorem wi_X6_readNumber : Cond.instanceMethod yX6_readNumber ∈ lw_tbl := x_tb4 11 rfl
theorem wc_X6_readNumber : Cond.code yX6_readNumber cX6_readNumber 3 (Option.none : Option Jvm.ClassFile.FieldType) ∈ lw_tbl := x_tb4 12 rfl
theorem wm_X6_112 : Cond.methodLink RX6 112 yX6_isDigit ∈ lw_tbl := x_tb4 13 rfl
theorem wi_X6_isDigit : Cond.instanceMethod yX6_isDigit ∈ lw_tbl := x_tb4 15 rfl
theorem wc_X6_isDigit : Cond.code yX6_isDigit cX6_isDigit 1 (Option.some Jvm.ClassFile.FieldType.boolean) ∈ lw_tbl := x_tb4 16 rfl
theorem wst_X6_103 : Cond.stringRef RX6 103 "*/%" ∈ lw_tbl := x_tb4 17 rfl
theorem wst_X6_93 : Cond.stringRef RX6 93 "+-*/%<>=" ∈ lw_tbl := x_tb4 18 rfl
theorem wst_X6_98 : Cond.stringRef RX6 98 "+-" ∈ lw_tbl := x_tb4 19 rfl
theorem wm_X6_64 : Cond.methodLink RX6 64 yX6_readCondition ∈ lw_tbl := x_tb4 20 rfl
theorem wi_X6_readCondition : Cond.instanceMethod yX6_readCondition ∈ lw_tbl := x_tb4 22 rfl
theorem wc_X6_readCondition : Cond.code yX6_readCondition cX6_readCondition 4 (Option.none : Option Jvm.ClassFile.FieldType) ∈ lw_tbl := x_tb4 23 rfl
theorem wm_X6_71 : Cond.methodLink RX6 71 yX6_readPart ∈ lw_tbl := x_tb4 24 rfl
theorem wi_X6_readPart : Cond.instanceMethod yX6_readPart ∈ lw_tbl := x_tb4 26 rfl
theorem wc_X6_readPart : Cond.code yX6_readPart cX6_readPart 4 (Option.none : Option Jvm.ClassFile.FieldType) ∈ lw_tbl := x_tb4 27 rfl
theorem wm_X6_85 : Cond.methodLink RX6 85 yX6_readTest ∈ lw_tbl := x_tb4 28 rfl
theorem wi_X6_readTest : Cond.instanceMethod yX6_readTest ∈ lw_tbl := x_tb4 30 rfl
theorem wc_X6_readTest : Cond.code yX6_readTest cX6_readTest 3 (Option.none : Option Jvm.ClassFile.FieldType) ∈ lw_tbl := x_tb4 31 rfl
theorem wst_X6_91 : Cond.stringRef RX6 91 "<>=" ∈ lw_tbl := x_tb4 32 rfl
theorem wmn_X6_82 : Cond.methodLinkNest RX6 82 yX5_leapHere "LineGuild" ∈ lw_tbl := x_tb4 33 rfl
theorem wi_X5_leapHere : Cond.instanceMethod yX5_leapHere ∈ lw_tbl := x_tb4 35 rfl
theorem wc_X5_leapHere : Cond.code yX5_leapHere cX5_leapHere 2 (Option.none : Option Jvm.ClassFile.FieldType) ∈ lw_tbl := x_tb4 36 rfl
theorem wmn_X6_67 : Cond.methodLinkNest RX6 67 yX5_addClause "LineGuild" ∈ lw_tbl := x_tb4 37 rfl
theorem wi_X5_addClause : Cond.instanceMethod yX5_addClause ∈ lw_tbl := x_tb4 39 rfl
theorem wc_X5_addClause : Cond.code yX5_addClause cX5_addClause 4 (Option.none : Option Jvm.ClassFile.FieldType) ∈ lw_tbl := x_tb4 40 rfl
theorem wmn_X11_141 : Cond.methodLinkNest RX11 141 yX5_takeFrom "LineGuild" ∈ lw_tbl := x_tb4 41 rfl
theorem wi_X5_takeFrom : Cond.instanceMethod yX5_takeFrom ∈ lw_tbl := x_tb4 43 rfl
theorem wc_X5_takeFrom : Cond.code yX5_takeFrom cX5_takeFrom 2 (Option.none : Option Jvm.ClassFile.FieldType) ∈ lw_tbl := x_tb4 44 rfl
theorem wm_X5_41 : Cond.methodLink RX5 41 ({ cls := "java/lang/System", name := "arraycopy", desc := "(Ljava/lang/Object;ILjava/lang/Object;II)V" } : Jvm.MethodName) ∈ lw_tbl := x_tb4 45 rfl
theorem wm_L_28 : Cond.methodLink RL 28 yX11_end ∈ lw_tbl := x_tb4 46 rfl
theorem wi_X11_end : Cond.instanceMethod yX11_end ∈ lw_tbl := x_tb4 47 rfl
theorem wv_X11_end : Cond.selects RX11 yX11_end yX11_end ∈ lw_tbl := x_tb4 48 rfl
theorem wc_X11_end : Cond.code yX11_end cX11_end 7 (Option.some Jvm.ClassFile.FieldType.boolean) ∈ lw_tbl := x_tb4 49 rfl
theorem wmn_X11_148 : Cond.methodLinkNest RX11 148 yX2_take "LineGuild" ∈ lw_tbl := x_tb4 50 rfl
theorem wi_X2_take : Cond.instanceMethod yX2_take ∈ lw_tbl := x_tb4 52 rfl
theorem wc_X2_take : Cond.code yX2_take cX2_take 5 (Option.none : Option Jvm.ClassFile.FieldType) ∈ lw_tbl := x_tb4 53 rfl
theorem wm_L_33 : Cond.methodLink RL 33 yX11_teller ∈ lw_tbl := x_tb4 54 rfl
theorem wi_X11_teller : Cond.instanceMethod yX11_teller ∈ lw_tbl := x_tb4 55 rfl
theorem wv_X11_teller : Cond.selects RX11 yX11_teller yX11_teller ∈ lw_tbl := x_tb4 56 rfl
theorem wc_X11_teller : Cond.code yX11_teller cX11_teller 5 (Option.some Jvm.ClassFile.FieldType.boolean) ∈ lw_tbl := x_tb4 57 rfl
theorem wm_X11_154 : Cond.methodLink RX11 154 yX11_toldStory ∈ lw_tbl := x_tb4 58 rfl
theorem wi_X11_toldStory : Cond.instanceMethod yX11_toldStory ∈ lw_tbl := x_tb4 60 rfl
theorem wc_X11_toldStory : Cond.code yX11_toldStory cX11_toldStory 3 (Option.some (Jvm.ClassFile.FieldType.object "LineGuild$Story")) ∈ lw_tbl := x_tb4 61 rfl
theorem wmn_X11_157 : Cond.methodLinkNest RX11 157 yX4_takeTeller "LineGuild" ∈ lw_tbl := x_tb4 62 rfl
theorem wi_X4_takeTeller : Cond.instanceMethod yX4_takeTeller ∈ lw_tbl := x_tb4 64 rfl
theorem wc_X4_takeTeller : Cond.code yX4_takeTeller cX4_takeTeller 4 (Option.none : Option Jvm.ClassFile.FieldType) ∈ lw_tbl := x_tb4 65 rfl
theorem wm_L_38 : Cond.methodLink RL 38 yX11_listener ∈ lw_tbl := x_tb4 66 rfl
theorem wi_X11_listener : Cond.instanceMethod yX11_listener ∈ lw_tbl := x_tb4 67 rfl
theorem wv_X11_listener : Cond.selects RX11 yX11_listener yX11_listener ∈ lw_tbl := x_tb4 68 rfl
theorem wc_X11_listener : Cond.code yX11_listener cX11_listener 5 (Option.some Jvm.ClassFile.FieldType.boolean) ∈ lw_tbl := x_tb4 69 rfl
theorem wm_X11_164 : Cond.methodLink RX11 164 yX11_has ∈ lw_tbl := x_tb4 70 rfl
theorem wmn_X11_168 : Cond.methodLinkNest RX11 168 yX4_takeListener "LineGuild" ∈ lw_tbl := x_tb4 71 rfl
theorem wi_X4_takeListener : Cond.instanceMethod yX4_takeListener ∈ lw_tbl := x_tb4 73 rfl
theorem wc_X4_takeListener : Cond.code yX4_takeListener cX4_takeListener 4 (Option.none : Option Jvm.ClassFile.FieldType) ∈ lw_tbl := x_tb4 74 rfl
theorem wm_L_42 : Cond.methodLink RL 42 yX11_evenings ∈ lw_tbl := x_tb4 75 rfl
theorem wi_X11_evenings : Cond.instanceMethod yX11_evenings ∈ lw_tbl := x_tb4 76 rfl
theorem wv_X11_evenings : Cond.selects RX11 yX11_evenings yX11_evenings ∈ lw_tbl := x_tb4 77 rfl
theorem wc_X11_evenings : Cond.code yX11_evenings cX11_evenings 2 (Option.some Jvm.ClassFile.FieldType.int) ∈ lw_tbl := x_tb4 78 rfl
theorem wmn_X11_171 : Cond.methodLinkNest RX11 171 yX1_run "LineGuild" ∈ lw_tbl := x_tb4 79 rfl
theorem wi_X1_run : Cond.instanceMethod yX1_run ∈ lw_tbl := x_tb4 81 rfl
theorem wc_X1_run : Cond.code yX1_run cX1_run 6 (Option.none : Option Jvm.ClassFile.FieldType) ∈ lw_tbl := x_tb4 82 rfl
theorem wm_X1_62 : Cond.methodLink RX1 62 yX1_beginIn ∈ lw_tbl := x_tb4 83 rfl
theorem wi_X1_beginIn : Cond.instanceMethod yX1_beginIn ∈ lw_tbl := x_tb4 85 rfl
theorem wc_X1_beginIn : Cond.code yX1_beginIn cX1_beginIn 3 (Option.none : Option Jvm.ClassFile.FieldType) ∈ lw_tbl := x_tb4 86 rfl
theorem wmn_X1_74 : Cond.methodLinkNest RX1 74 yX11_has "LineGuild" ∈ lw_tbl := x_tb4 87 rfl
theorem wm_X1_78 : Cond.methodLink RX1 78 yX1_visit ∈ lw_tbl := x_tb4 88 rfl
theorem wi_X1_visit : Cond.instanceMethod yX1_visit ∈ lw_tbl := x_tb4 90 rfl
theorem wc_X1_visit : Cond.code yX1_visit cX1_visit 6 (Option.none : Option Jvm.ClassFile.FieldType) ∈ lw_tbl := x_tb4 91 rfl
theorem wm_X1_96 : Cond.methodLink RX1 96 yX1_storyOf ∈ lw_tbl := x_tb4 92 rfl
theorem wi_X1_storyOf : Cond.instanceMethod yX1_storyOf ∈ lw_tbl := x_tb4 94 rfl
theorem wc_X1_storyOf : Cond.code yX1_storyOf cX1_storyOf 3 (Option.some (Jvm.ClassFile.FieldType.object "LineGuild$Story")) ∈ lw_tbl := x_tb4 95 rfl
theorem wm_X1_100 : Cond.methodLink RX1 100 yX1_tellOn ∈ lw_tbl := x_tb4 96 rfl
theorem wi_X1_tellOn : Cond.instanceMethod yX1_tellOn ∈ lw_tbl := x_tb4 98 rfl
theorem wc_X1_tellOn : Cond.code yX1_tellOn cX1_tellOn 5 (Option.none : Option Jvm.ClassFile.FieldType) ∈ lw_tbl := x_tb4 99 rfl
theorem wmn_X1_145 : Cond.methodLinkNest RX1 145 yX0_ofTeller "LineGuild" ∈ lw_tbl := x_tb4 100 rfl
theorem wi_X0_ofTeller : Cond.instanceMethod yX0_ofTeller ∈ lw_tbl := x_tb4 102 rfl
theorem wc_X0_ofTeller : Cond.code yX0_ofTeller cX0_ofTeller 5 (Option.some Jvm.ClassFile.FieldType.int) ∈ lw_tbl := x_tb4 103 rfl
theorem wm_X0_17 : Cond.methodLink RX0 17 yX0_begin ∈ lw_tbl := x_tb4 104 rfl
theorem wi_X0_begin : Cond.instanceMethod yX0_begin ∈ lw_tbl := x_tb4 106 rfl
theorem wc_X0_begin : Cond.code yX0_begin cX0_begin 2 (Option.none : Option Jvm.ClassFile.FieldType) ∈ lw_tbl := x_tb4 107 rfl
theorem wm_X0_56 : Cond.methodLink RX0 56 yJ7_fill_53178 ∈ lw_tbl := x_tb4 108 rfl
theorem wsm_J7_fill_53178 : Cond.static yJ7_fill_53178 ∈ lw_tbl := x_tb4 109 rfl
theorem wc_J7_fill_53178 : Cond.code yJ7_fill_53178 cJ7_fill_53178 4 (Option.none : Option Jvm.ClassFile.FieldType) ∈ lw_tbl := x_tb4 110 rfl
theorem wm_X0_21 : Cond.methodLink RX0 21 yX0_putTeller ∈ lw_tbl := x_tb4 111 rfl
theorem wi_X0_putTeller : Cond.instanceMethod yX0_putTeller ∈ lw_tbl := x_tb4 113 rfl
theorem wc_X0_putTeller : Cond.code yX0_putTeller cX0_putTeller 3 (Option.none : Option Jvm.ClassFile.FieldType) ∈ lw_tbl := x_tb4 114 rfl
theorem wm_X0_50 : Cond.methodLink RX0 50 yJ6_bitCount_0f7a4 ∈ lw_tbl := x_tb4 115 rfl
theorem wmn_X0_25 : Cond.methodLinkNest RX0 25 yX5_worthOf "LineGuild" ∈ lw_tbl := x_tb4 116 rfl
theorem wi_X5_worthOf : Cond.instanceMethod yX5_worthOf ∈ lw_tbl := x_tb4 118 rfl
theorem wc_X5_worthOf : Cond.code yX5_worthOf cX5_worthOf 6 (Option.some Jvm.ClassFile.FieldType.int) ∈ lw_tbl := x_tb4 119 rfl
theorem wm_X5_47 : Cond.methodLink RX5 47 yX5_reckon ∈ lw_tbl := x_tb4 120 rfl
theorem wi_X5_reckon : Cond.instanceMethod yX5_reckon ∈ lw_tbl := x_tb4 122 rfl
theorem wc_X5_reckon : Cond.code yX5_reckon cX5_reckon 8 (Option.some Jvm.ClassFile.FieldType.int) ∈ lw_tbl := x_tb4 123 rfl
theorem wm_X5_60 : Cond.methodLink RX5 60 yJ9_max_7cf53 ∈ lw_tbl := x_tb4 124 rfl
theorem wm_X5_63 : Cond.methodLink RX5 63 yX5_joined ∈ lw_tbl := x_tb4 125 rfl
theorem wi_X5_joined : Cond.instanceMethod yX5_joined ∈ lw_tbl := x_tb4 127 rfl
theorem wc_X5_joined : Cond.code yX5_joined cX5_joined 5 (Option.some Jvm.ClassFile.FieldType.int) ∈ lw_tbl := x_tb4 128 rfl
theorem wf_X5_51 : Cond.fieldLink RX5 51 "LineGuild$Law" "BOUNDS" "[I" ∈ lw_tbl := x_tb4 129 rfl
theorem wm_X5_54 : Cond.methodLink RX5 54 yJ9_min_7cf53 ∈ lw_tbl := x_tb4 131 rfl
theorem wm_X1_151 : Cond.methodLink RX1 151 yJ9_min_7cf53 ∈ lw_tbl := x_tb4 132 rfl
theorem wmn_X1_157 : Cond.methodLinkNest RX1 157 yX9_openBehind "LineGuild" ∈ lw_tbl := x_tb4 133 rfl
theorem wi_X9_openBehind : Cond.instanceMethod yX9_openBehind ∈ lw_tbl := x_tb4 135 rfl
theorem wc_X9_openBehind : Cond.code yX9_openBehind cX9_openBehind 6 (Option.some Jvm.ClassFile.FieldType.int) ∈ lw_tbl := x_tb4 136 rfl
theorem wmn_X1_112 : Cond.methodLinkNest RX1 112 yX2_chooseFor "LineGuild" ∈ lw_tbl := x_tb4 137 rfl
theorem wi_X2_chooseFor : Cond.instanceMethod yX2_chooseFor ∈ lw_tbl := x_tb4 139 rfl
theorem wc_X2_chooseFor : Cond.code yX2_chooseFor cX2_chooseFor 11 (Option.some Jvm.ClassFile.FieldType.boolean) ∈ lw_tbl := x_tb4 140 rfl
theorem wmn_X2_56 : Cond.methodLinkNest RX2 56 yX11_has "LineGuild" ∈ lw_tbl := x_tb4 141 rfl
theorem wmn_X2_67 : Cond.methodLinkNest RX2 67 yX0_ofEnd "LineGuild" ∈ lw_tbl := x_tb4 142 rfl
theorem wi_X0_ofEnd : Cond.instanceMethod yX0_ofEnd ∈ lw_tbl := x_tb4 144 rfl
theorem wc_X0_ofEnd : Cond.code yX0_ofEnd cX0_ofEnd 5 (Option.some Jvm.ClassFile.FieldType.int) ∈ lw_tbl := x_tb4 145 rfl
theorem wm_X2_73 : Cond.methodLink RX2 73 yX2_isCheaper ∈ lw_tbl := x_tb4 146 rfl
theorem wi_X2_isCheaper : Cond.instanceMethod yX2_isCheaper ∈ lw_tbl := x_tb4 148 rfl
theorem wc_X2_isCheaper : Cond.code yX2_isCheaper cX2_isCheaper 4 (Option.some Jvm.ClassFile.FieldType.boolean) ∈ lw_tbl := x_tb4 149 rfl
theorem wm_X2_80 : Cond.methodLink RX2 80 yJ6_bitCount_0f7a4 ∈ lw_tbl := x_tb4 150 rfl
theorem wm_X2_76 : Cond.methodLink RX2 76 yX2_endsOf ∈ lw_tbl := x_tb4 151 rfl
theorem wi_X2_endsOf : Cond.instanceMethod yX2_endsOf ∈ lw_tbl := x_tb4 153 rfl
theorem wc_X2_endsOf : Cond.code yX2_endsOf cX2_endsOf 5 (Option.some Jvm.ClassFile.FieldType.int) ∈ lw_tbl := x_tb4 154 rfl
theorem wm_X1_127 : Cond.methodLink RX1 127 yX1_buyOne ∈ lw_tbl := x_tb4 155 rfl
theorem wi_X1_buyOne : Cond.instanceMethod yX1_buyOne ∈ lw_tbl := x_tb4 157 rfl
theorem wc_X1_buyOne : Cond.code yX1_buyOne cX1_buyOne 7 (Option.some Jvm.ClassFile.FieldType.int) ∈ lw_tbl := x_tb4 158 rfl
theorem wmn_X1_160 : Cond.methodLinkNest RX1 160 yX0_ofEnd "LineGuild" ∈ lw_tbl := x_tb4 159 rfl
theorem wmn_X1_169 : Cond.methodLinkNest RX1 169 yX4_draw "LineGuild" ∈ lw_tbl := x_tb4 160 rfl
theorem wi_X4_draw : Cond.instanceMethod yX4_draw ∈ lw_tbl := x_tb4 162 rfl
theorem wc_X4_draw : Cond.code yX4_draw cX4_draw 1 (Option.some Jvm.ClassFile.FieldType.int) ∈ lw_tbl := x_tb4 163 rfl
theorem wco_X4_68 : Cond.constant RX4 68 (65535 : Int32) ∈ lw_tbl := x_tb4 164 rfl
theorem wmn_X1_131 : Cond.methodLinkNest RX1 131 yX4_isBound "LineGuild" ∈ lw_tbl := x_tb4 165 rfl
theorem wi_X4_isBound : Cond.instanceMethod yX4_isBound ∈ lw_tbl := x_tb4 167 rfl
theorem wc_X4_isBound : Cond.code yX4_isBound cX4_isBound 3 (Option.some Jvm.ClassFile.FieldType.boolean) ∈ lw_tbl := x_tb4 168 rfl
theorem wm_X1_134 : Cond.methodLink RX1 134 yX1_listen ∈ lw_tbl := x_tb4 169 rfl
theorem wi_X1_listen : Cond.instanceMethod yX1_listen ∈ lw_tbl := x_tb4 171 rfl
theorem wc_X1_listen : Cond.code yX1_listen cX1_listen 4 (Option.none : Option Jvm.ClassFile.FieldType) ∈ lw_tbl := x_tb4 172 rfl
theorem wmn_X1_173 : Cond.methodLinkNest RX1 173 yX0_ofListener "LineGuild" ∈ lw_tbl := x_tb4 173 rfl
theorem wi_X0_ofListener : Cond.instanceMethod yX0_ofListener ∈ lw_tbl := x_tb4 175 rfl
theorem wc_X0_ofListener : Cond.code yX0_ofListener cX0_ofListener 6 (Option.some Jvm.ClassFile.FieldType.int) ∈ lw_tbl := x_tb4 176 rfl
theorem wm_X1_177 : Cond.methodLink RX1 177 yX1_tire ∈ lw_tbl := x_tb4 177 rfl
theorem wi_X1_tire : Cond.instanceMethod yX1_tire ∈ lw_tbl := x_tb4 179 rfl
theorem wc_X1_tire : Cond.code yX1_tire cX1_tire 4 (Option.none : Option Jvm.ClassFile.FieldType) ∈ lw_tbl := x_tb4 180 rfl
theorem wm_X1_180 : Cond.methodLink RX1 180 yJ9_max_7cf53 ∈ lw_tbl := x_tb4 181 rfl
theorem wm_X1_138 : Cond.methodLink RX1 138 yX1_collect ∈ lw_tbl := x_tb4 182 rfl
theorem wi_X1_collect : Cond.instanceMethod yX1_collect ∈ lw_tbl := x_tb4 184 rfl
theorem wc_X1_collect : Cond.code yX1_collect cX1_collect 5 (Option.none : Option Jvm.ClassFile.FieldType) ∈ lw_tbl := x_tb4 185 rfl
theorem wm_L_46 : Cond.methodLink RL 46 yX11_tried ∈ lw_tbl := x_tb4 186 rfl
theorem wi_X11_tried : Cond.instanceMethod yX11_tried ∈ lw_tbl := x_tb4 187 rfl
theorem wv_X11_tried : Cond.selects RX11 yX11_tried yX11_tried ∈ lw_tbl := x_tb4 188 rfl
theorem wc_X11_tried : Cond.code yX11_tried cX11_tried 3 (Option.some Jvm.ClassFile.FieldType.int) ∈ lw_tbl := x_tb4 189 rfl
theorem wm_X11_178 : Cond.methodLink RX11 178 yX11_canBeTried ∈ lw_tbl := x_tb4 190 rfl
theorem wi_X11_canBeTried : Cond.instanceMethod yX11_canBeTried ∈ lw_tbl := x_tb4 192 rfl
theorem wc_X11_canBeTried : Cond.code yX11_canBeTried cX11_canBeTried 2 (Option.some Jvm.ClassFile.FieldType.boolean) ∈ lw_tbl := x_tb4 193 rfl
theorem wmn_X11_182 : Cond.methodLinkNest RX11 182 yX4_takeFrom "LineGuild" ∈ lw_tbl := x_tb4 194 rfl
theorem wi_X4_takeFrom : Cond.instanceMethod yX4_takeFrom ∈ lw_tbl := x_tb4 196 rfl
theorem wc_X4_takeFrom : Cond.code yX4_takeFrom cX4_takeFrom 2 (Option.none : Option Jvm.ClassFile.FieldType) ∈ lw_tbl := x_tb4 197 rfl
theorem wm_X4_55 : Cond.methodLink RX4 55 ({ cls := "java/lang/System", name := "arraycopy", desc := "(Ljava/lang/Object;ILjava/lang/Object;II)V" } : Jvm.MethodName) ∈ lw_tbl := x_tb4 198 rfl
theorem wmn_X11_185 : Cond.methodLinkNest RX11 185 yX1_result "LineGuild" ∈ lw_tbl := x_tb4 199 rfl
theorem wi_X1_result : Cond.instanceMethod yX1_result ∈ lw_tbl := x_tb4 201 rfl
theorem wc_X1_result : Cond.code yX1_result cX1_result 2 (Option.some Jvm.ClassFile.FieldType.int) ∈ lw_tbl := x_tb4 202 rfl
theorem wmn_X1_82 : Cond.methodLinkNest RX1 82 yX11_isWithin "LineGuild" ∈ lw_tbl := x_tb4 203 rfl
theorem wm_L_50 : Cond.methodLink RL 50 yX11_other ∈ lw_tbl := x_tb4 204 rfl
theorem wi_X11_other : Cond.instanceMethod yX11_other ∈ lw_tbl := x_tb4 205 rfl
theorem wv_X11_other : Cond.selects RX11 yX11_other yX11_other ∈ lw_tbl := x_tb4 206 rfl
theorem wc_X11_other : Cond.code yX11_other cX11_other 3 (Option.some Jvm.ClassFile.FieldType.int) ∈ lw_tbl := x_tb4 207 rfl
theorem wm_L_54 : Cond.methodLink RL 54 yX11_copy ∈ lw_tbl := x_tb4 208 rfl
theorem wi_X11_copy : Cond.instanceMethod yX11_copy ∈ lw_tbl := x_tb4 209 rfl
theorem wv_X11_copy : Cond.selects RX11 yX11_copy yX11_copy ∈ lw_tbl := x_tb4 210 rfl
theorem wc_X11_copy : Cond.code yX11_copy cX11_copy 1 (Option.some Jvm.ClassFile.FieldType.int) ∈ lw_tbl := x_tb4 211 rfl
theorem wm_L_59 : Cond.methodLink RL 59 yX11_first ∈ lw_tbl := x_tb4 212 rfl
theorem wi_X11_first : Cond.instanceMethod yX11_first ∈ lw_tbl := x_tb4 213 rfl
theorem wv_X11_first : Cond.selects RX11 yX11_first yX11_first ∈ lw_tbl := x_tb4 214 rfl
theorem wc_X11_first : Cond.code yX11_first cX11_first 3 (Option.some Jvm.ClassFile.FieldType.int) ∈ lw_tbl := x_tb4 215 rfl
theorem wm_L_63 : Cond.methodLink RL 63 yX11_storyIs ∈ lw_tbl := x_tb4 216 rfl
theorem wi_X11_storyIs : Cond.instanceMethod yX11_storyIs ∈ lw_tbl := x_tb4 217 rfl
theorem wv_X11_storyIs : Cond.selects RX11 yX11_storyIs yX11_storyIs ∈ lw_tbl := x_tb4 218 rfl
theorem wc_X11_storyIs : Cond.code yX11_storyIs cX11_storyIs 4 (Option.some Jvm.ClassFile.FieldType.int) ∈ lw_tbl := x_tb4 219 rfl
theorem wm_X11_210 : Cond.methodLink RX11 210 yX11_knotOf ∈ lw_tbl := x_tb4 220 rfl
theorem wi_X11_knotOf : Cond.instanceMethod yX11_knotOf ∈ lw_tbl := x_tb4 222 rfl
theorem wc_X11_knotOf : Cond.code yX11_knotOf cX11_knotOf 7 (Option.some Jvm.ClassFile.FieldType.int) ∈ lw_tbl := x_tb4 223 rfl
theorem wm_X11_377 : Cond.methodLink RX11 377 yX11_threadsOf ∈ lw_tbl := x_tb4 224 rfl
theorem wi_X11_threadsOf : Cond.instanceMethod yX11_threadsOf ∈ lw_tbl := x_tb4 226 rfl
theorem wc_X11_threadsOf : Cond.code yX11_threadsOf cX11_threadsOf 5 (Option.some Jvm.ClassFile.FieldType.int) ∈ lw_tbl := x_tb4 227 rfl
theorem wm_L_67 : Cond.methodLink RL 67 yX11_open ∈ lw_tbl := x_tb4 228 rfl
theorem wi_X11_open : Cond.instanceMethod yX11_open ∈ lw_tbl := x_tb4 229 rfl
theorem wv_X11_open : Cond.selects RX11 yX11_open yX11_open ∈ lw_tbl := x_tb4 230 rfl
theorem wc_X11_open : Cond.code yX11_open cX11_open 5 (Option.some Jvm.ClassFile.FieldType.int) ∈ lw_tbl := x_tb4 231 rfl
theorem wmn_X11_213 : Cond.methodLinkNest RX11 213 yX9_openBehind "LineGuild" ∈ lw_tbl := x_tb4 232 rfl
theorem wm_L_72 : Cond.methodLink RL 72 yX11_endIs ∈ lw_tbl := x_tb4 233 rfl
theorem wi_X11_endIs : Cond.instanceMethod yX11_endIs ∈ lw_tbl := x_tb4 234 rfl
theorem wv_X11_endIs : Cond.selects RX11 yX11_endIs yX11_endIs ∈ lw_tbl := x_tb4 235 rfl
theorem wc_X11_endIs : Cond.code yX11_endIs cX11_endIs 3 (Option.some Jvm.ClassFile.FieldType.int) ∈ lw_tbl := x_tb4 236 rfl
theorem wmn_X11_217 : Cond.methodLinkNest RX11 217 yX2_isTold "LineGuild" ∈ lw_tbl := x_tb4 237 rfl
theorem wi_X2_isTold : Cond.instanceMethod yX2_isTold ∈ lw_tbl := x_tb4 239 rfl
theorem wc_X2_isTold : Cond.code yX2_isTold cX2_isTold 2 (Option.some Jvm.ClassFile.FieldType.boolean) ∈ lw_tbl := x_tb5 0 rfl
theorem wmn_X2_52 : Cond.methodLinkNest RX2 52 yX11_isWithin "LineGuild" ∈ lw_tbl := x_tb5 1 rfl
theorem wmn_X11_229 : Cond.methodLinkNest RX11 229 yX0_ofEnd "LineGuild" ∈ lw_tbl := x_tb5 2 rfl
theorem wm_L_76 : Cond.methodLink RL 76 yX11_tellerIs ∈ lw_tbl := x_tb5 3 rfl
theorem wi_X11_tellerIs : Cond.instanceMethod yX11_tellerIs ∈ lw_tbl := x_tb5 4 rfl
theorem wv_X11_tellerIs : Cond.selects RX11 yX11_tellerIs yX11_tellerIs ∈ lw_tbl := x_tb5 5 rfl
theorem wc_X11_tellerIs : Cond.code yX11_tellerIs cX11_tellerIs 3 (Option.some Jvm.ClassFile.FieldType.int) ∈ lw_tbl := x_tb5 6 rfl
theorem wmn_X11_245 : Cond.methodLinkNest RX11 245 yX4_boundTo "LineGuild" ∈ lw_tbl := x_tb5 7 rfl
theorem wi_X4_boundTo : Cond.instanceMethod yX4_boundTo ∈ lw_tbl := x_tb5 9 rfl
theorem wc_X4_boundTo : Cond.code yX4_boundTo cX4_boundTo 4 (Option.some Jvm.ClassFile.FieldType.int) ∈ lw_tbl := x_tb5 10 rfl
theorem wm_X4_65 : Cond.methodLink RX4 65 yX4_isBound ∈ lw_tbl := x_tb5 11 rfl
theorem wmn_X11_248 : Cond.methodLinkNest RX11 248 yX0_ofTeller "LineGuild" ∈ lw_tbl := x_tb5 12 rfl
theorem wm_L_80 : Cond.methodLink RL 80 yX11_listenerIs ∈ lw_tbl := x_tb5 13 rfl
theorem wi_X11_listenerIs : Cond.instanceMethod yX11_listenerIs ∈ lw_tbl := x_tb5 14 rfl
theorem wv_X11_listenerIs : Cond.selects RX11 yX11_listenerIs yX11_listenerIs ∈ lw_tbl := x_tb5 15 rfl
theorem wc_X11_listenerIs : Cond.code yX11_listenerIs cX11_listenerIs 3 (Option.some Jvm.ClassFile.FieldType.int) ∈ lw_tbl := x_tb5 16 rfl
theorem wm_L_84 : Cond.methodLink RL 84 yX11_cheapest ∈ lw_tbl := x_tb5 17 rfl
theorem wi_X11_cheapest : Cond.instanceMethod yX11_cheapest ∈ lw_tbl := x_tb5 18 rfl
theorem wv_X11_cheapest : Cond.selects RX11 yX11_cheapest yX11_cheapest ∈ lw_tbl := x_tb5 19 rfl
theorem wc_X11_cheapest : Cond.code yX11_cheapest cX11_cheapest 3 (Option.some Jvm.ClassFile.FieldType.int) ∈ lw_tbl := x_tb5 20 rfl
theorem wmn_X11_263 : Cond.methodLinkNest RX11 263 yX2_chooseFor "LineGuild" ∈ lw_tbl := x_tb5 21 rfl
theorem wm_L_88 : Cond.methodLink RL 88 yX11_buys ∈ lw_tbl := x_tb5 22 rfl
theorem wi_X11_buys : Cond.instanceMethod yX11_buys ∈ lw_tbl := x_tb5 23 rfl
theorem wv_X11_buys : Cond.selects RX11 yX11_buys yX11_buys ∈ lw_tbl := x_tb5 24 rfl
theorem wc_X11_buys : Cond.code yX11_buys cX11_buys 4 (Option.some Jvm.ClassFile.FieldType.int) ∈ lw_tbl := x_tb5 25 rfl
theorem wmn_X11_273 : Cond.methodLinkNest RX11 273 yX1_beginIn "LineGuild" ∈ lw_tbl := x_tb5 26 rfl
theorem wmn_X11_277 : Cond.methodLinkNest RX11 277 yX1_buyOne "LineGuild" ∈ lw_tbl := x_tb5 27 rfl
theorem wm_L_92 : Cond.methodLink RL 92 yX11_fitting ∈ lw_tbl := x_tb5 28 rfl
theorem wi_X11_fitting : Cond.instanceMethod yX11_fitting ∈ lw_tbl := x_tb5 29 rfl
theorem wv_X11_fitting : Cond.selects RX11 yX11_fitting yX11_fitting ∈ lw_tbl := x_tb5 30 rfl
theorem wc_X11_fitting : Cond.code yX11_fitting cX11_fitting 5 (Option.some Jvm.ClassFile.FieldType.int) ∈ lw_tbl := x_tb5 31 rfl
theorem wmn_X11_280 : Cond.methodLinkNest RX11 280 yX3_solve "LineGuild" ∈ lw_tbl := x_tb5 32 rfl
theorem wi_X3_solve : Cond.instanceMethod yX3_solve ∈ lw_tbl := x_tb5 34 rfl
theorem wc_X3_solve : Cond.code yX3_solve cX3_solve 5 (Option.none : Option Jvm.ClassFile.FieldType) ∈ lw_tbl := x_tb5 35 rfl
theorem wm_X3_38 : Cond.methodLink RX3 38 yX3_threadsEver ∈ lw_tbl := x_tb5 36 rfl
theorem wsm_X3_threadsEver : Cond.static yX3_threadsEver ∈ lw_tbl := x_tb5 37 rfl
theorem wc_X3_threadsEver : Cond.code yX3_threadsEver cX3_threadsEver 3 (Option.some Jvm.ClassFile.FieldType.int) ∈ lw_tbl := x_tb5 38 rfl
theorem wmn_X3_72 : Cond.methodLinkNest RX3 72 yX9_isClosing "LineGuild" ∈ lw_tbl := x_tb5 39 rfl
theorem wmn_X3_76 : Cond.methodLinkNest RX3 76 yX9_namedBy "LineGuild" ∈ lw_tbl := x_tb5 40 rfl
theorem wmn_X3_68 : Cond.methodLinkNest RX3 68 yX9_behindTurn "LineGuild" ∈ lw_tbl := x_tb5 41 rfl
theorem wm_X3_42 : Cond.methodLink RX3 42 yX3_listSets ∈ lw_tbl := x_tb5 42 rfl
theorem wi_X3_listSets : Cond.instanceMethod yX3_listSets ∈ lw_tbl := x_tb5 44 rfl
theorem wc_X3_listSets : Cond.code yX3_listSets cX3_listSets 3 (Option.none : Option Jvm.ClassFile.FieldType) ∈ lw_tbl := x_tb5 45 rfl
theorem wm_X3_46 : Cond.methodLink RX3 46 yJ7_fill_53178 ∈ lw_tbl := x_tb5 46 rfl
theorem wm_X3_60 : Cond.methodLink RX3 60 yX3_goBack ∈ lw_tbl := x_tb5 47 rfl
theorem wi_X3_goBack : Cond.instanceMethod yX3_goBack ∈ lw_tbl := x_tb5 49 rfl
theorem wc_X3_goBack : Cond.code yX3_goBack cX3_goBack 8 (Option.none : Option Jvm.ClassFile.FieldType) ∈ lw_tbl := x_tb5 50 rfl
theorem wm_X3_80 : Cond.methodLink RX3 80 yJ9_min_7cf53 ∈ lw_tbl := x_tb5 51 rfl
theorem wm_X3_85 : Cond.methodLink RX3 85 yX3_markLeftOut ∈ lw_tbl := x_tb5 52 rfl
theorem wi_X3_markLeftOut : Cond.instanceMethod yX3_markLeftOut ∈ lw_tbl := x_tb5 54 rfl
theorem wc_X3_markLeftOut : Cond.code yX3_markLeftOut cX3_markLeftOut 3 (Option.none : Option Jvm.ClassFile.FieldType) ∈ lw_tbl := x_tb5 55 rfl
theorem wm_X3_64 : Cond.methodLink RX3 64 yX3_isLeftOut ∈ lw_tbl := x_tb5 56 rfl
theorem wi_X3_isLeftOut : Cond.instanceMethod yX3_isLeftOut ∈ lw_tbl := x_tb5 58 rfl
theorem wc_X3_isLeftOut : Cond.code yX3_isLeftOut cX3_isLeftOut 5 (Option.some Jvm.ClassFile.FieldType.boolean) ∈ lw_tbl := x_tb5 59 rfl
theorem wm_L_96 : Cond.methodLink RL 96 yX11_wouldDo ∈ lw_tbl := x_tb5 60 rfl
theorem wi_X11_wouldDo : Cond.instanceMethod yX11_wouldDo ∈ lw_tbl := x_tb5 61 rfl
theorem wv_X11_wouldDo : Cond.selects RX11 yX11_wouldDo yX11_wouldDo ∈ lw_tbl := x_tb5 62 rfl
theorem wc_X11_wouldDo : Cond.code yX11_wouldDo cX11_wouldDo 10 (Option.some Jvm.ClassFile.FieldType.int) ∈ lw_tbl := x_tb5 63 rfl
theorem wm_L_100 : Cond.methodLink RL 100 yX11_series ∈ lw_tbl := x_tb5 64 rfl
theorem wi_X11_series : Cond.instanceMethod yX11_series ∈ lw_tbl := x_tb5 65 rfl
theorem wv_X11_series : Cond.selects RX11 yX11_series yX11_series ∈ lw_tbl := x_tb5 66 rfl
theorem wc_X11_series : Cond.code yX11_series cX11_series 5 (Option.some Jvm.ClassFile.FieldType.int) ∈ lw_tbl := x_tb5 67 rfl
theorem wm_X11_290 : Cond.methodLink RX11 290 yJ6_bitCount_0f7a4 ∈ lw_tbl := x_tb5 68 rfl
theorem wm_X11_295 : Cond.methodLink RX11 295 yX11_areTold ∈ lw_tbl := x_tb5 69 rfl
theorem wi_X11_areTold : Cond.instanceMethod yX11_areTold ∈ lw_tbl := x_tb5 71 rfl
theorem wc_X11_areTold : Cond.code yX11_areTold cX11_areTold 2 (Option.some Jvm.ClassFile.FieldType.boolean) ∈ lw_tbl := x_tb5 72 rfl
theorem wm_X11_310 : Cond.methodLink RX11 310 yX11_toldStories ∈ lw_tbl := x_tb5 73 rfl
theorem wi_X11_toldStories : Cond.instanceMethod yX11_toldStories ∈ lw_tbl := x_tb5 75 rfl
theorem wc_X11_toldStories : Cond.code yX11_toldStories cX11_toldStories 3 (Option.some Jvm.ClassFile.FieldType.int) ∈ lw_tbl := x_tb5 76 rfl
theorem wmn_X11_298 : Cond.methodLinkNest RX11 298 yX8_solve "LineGuild" ∈ lw_tbl := x_tb5 77 rfl
theorem wi_X8_solve : Cond.instanceMethod yX8_solve ∈ lw_tbl := x_tb5 79 rfl
theorem wc_X8_solve : Cond.code yX8_solve cX8_solve 3 (Option.none : Option Jvm.ClassFile.FieldType) ∈ lw_tbl := x_tb5 80 rfl
theorem wm_X8_25 : Cond.methodLink RX8 25 yX8_place ∈ lw_tbl := x_tb5 81 rfl
theorem wi_X8_place : Cond.instanceMethod yX8_place ∈ lw_tbl := x_tb5 83 rfl
theorem wc_X8_place : Cond.code yX8_place cX8_place 11 (Option.none : Option Jvm.ClassFile.FieldType) ∈ lw_tbl := x_tb5 84 rfl
theorem wm_X8_29 : Cond.methodLink RX8 29 yX8_rate ∈ lw_tbl := x_tb5 85 rfl
theorem wi_X8_rate : Cond.instanceMethod yX8_rate ∈ lw_tbl := x_tb5 87 rfl
theorem wc_X8_rate : Cond.code yX8_rate cX8_rate 4 (Option.none : Option Jvm.ClassFile.FieldType) ∈ lw_tbl := x_tb5 88 rfl
theorem wm_X8_49 : Cond.methodLink RX8 49 yJ6_bitCount_0f7a4 ∈ lw_tbl := x_tb5 89 rfl
theorem wm_X8_60 : Cond.methodLink RX8 60 ({ cls := "java/lang/System", name := "arraycopy", desc := "(Ljava/lang/Object;ILjava/lang/Object;II)V" } : Jvm.MethodName) ∈ lw_tbl := x_tb5 90 rfl
theorem wmn_X8_33 : Cond.methodLinkNest RX8 33 yX11_has "LineGuild" ∈ lw_tbl := x_tb5 91 rfl
theorem wmn_X8_45 : Cond.methodLinkNest RX8 45 yX9_behindTurn "LineGuild" ∈ lw_tbl := x_tb5 92 rfl
theorem wm_X8_55 : Cond.methodLink RX8 55 yJ9_max_7cf53 ∈ lw_tbl := x_tb5 93 rfl
theorem wm_L_104 : Cond.methodLink RL 104 yX11_knots ∈ lw_tbl := x_tb5 94 rfl
theorem wi_X11_knots : Cond.instanceMethod yX11_knots ∈ lw_tbl := x_tb5 95 rfl
theorem wv_X11_knots : Cond.selects RX11 yX11_knots yX11_knots ∈ lw_tbl := x_tb5 96 rfl
theorem wc_X11_knots : Cond.code yX11_knots cX11_knots 4 (Option.some Jvm.ClassFile.FieldType.int) ∈ lw_tbl := x_tb5 97 rfl
theorem wm_L_108 : Cond.methodLink RL 108 yX11_winter ∈ lw_tbl := x_tb5 98 rfl
theorem wi_X11_winter : Cond.instanceMethod yX11_winter ∈ lw_tbl := x_tb5 99 rfl
theorem wv_X11_winter : Cond.selects RX11 yX11_winter yX11_winter ∈ lw_tbl := x_tb5 100 rfl
theorem wc_X11_winter : Cond.code yX11_winter cX11_winter 5 (Option.some Jvm.ClassFile.FieldType.int) ∈ lw_tbl := x_tb5 101 rfl
theorem wm_X11_317 : Cond.methodLink RX11 317 yX11_tapeIsWithin ∈ lw_tbl := x_tb5 102 rfl
theorem wi_X11_tapeIsWithin : Cond.instanceMethod yX11_tapeIsWithin ∈ lw_tbl := x_tb5 104 rfl
theorem wc_X11_tapeIsWithin : Cond.code yX11_tapeIsWithin cX11_tapeIsWithin 4 (Option.some Jvm.ClassFile.FieldType.boolean) ∈ lw_tbl := x_tb5 105 rfl
theorem wmn_X11_320 : Cond.methodLinkNest RX11 320 yX2_planWinter "LineGuild" ∈ lw_tbl := x_tb5 106 rfl
theorem wi_X2_planWinter : Cond.instanceMethod yX2_planWinter ∈ lw_tbl := x_tb5 108 rfl
theorem wc_X2_planWinter : Cond.code yX2_planWinter cX2_planWinter 10 (Option.none : Option Jvm.ClassFile.FieldType) ∈ lw_tbl := x_tb5 109 rfl
theorem wm_L_112 : Cond.methodLink RL 112 yX11_lent ∈ lw_tbl := x_tb5 110 rfl
theorem wi_X11_lent : Cond.instanceMethod yX11_lent ∈ lw_tbl := x_tb5 111 rfl
theorem wv_X11_lent : Cond.selects RX11 yX11_lent yX11_lent ∈ lw_tbl := x_tb5 112 rfl
theorem wc_X11_lent : Cond.code yX11_lent cX11_lent 4 (Option.some Jvm.ClassFile.FieldType.int) ∈ lw_tbl := x_tb5 113 rfl
theorem wmn_X11_333 : Cond.methodLinkNest RX11 333 yX7_take "LineGuild" ∈ lw_tbl := x_tb5 114 rfl
theorem wi_X7_take : Cond.instanceMethod yX7_take ∈ lw_tbl := x_tb5 116 rfl
theorem wc_X7_take : Cond.code yX7_take cX7_take 4 (Option.some Jvm.ClassFile.FieldType.boolean) ∈ lw_tbl := x_tb5 117 rfl
theorem wm_X7_31 : Cond.methodLink RX7 31 yJ9_min_7cf53 ∈ lw_tbl := x_tb5 118 rfl
theorem wmn_X11_336 : Cond.methodLinkNest RX11 336 yX7_solve "LineGuild" ∈ lw_tbl := x_tb5 119 rfl
theorem wi_X7_solve : Cond.instanceMethod yX7_solve ∈ lw_tbl := x_tb5 121 rfl
theorem wc_X7_solve : Cond.code yX7_solve cX7_solve 3 (Option.none : Option Jvm.ClassFile.FieldType) ∈ lw_tbl := x_tb5 122 rfl
theorem wm_X7_37 : Cond.methodLink RX7 37 yJ7_fill_53178 ∈ lw_tbl := x_tb5 123 rfl
theorem wm_X7_43 : Cond.methodLink RX7 43 yX7_mostFrom ∈ lw_tbl := x_tb5 124 rfl
theorem wi_X7_mostFrom : Cond.instanceMethod yX7_mostFrom ∈ lw_tbl := x_tb5 126 rfl
theorem wc_X7_mostFrom : Cond.code yX7_mostFrom cX7_mostFrom 6 (Option.some Jvm.ClassFile.FieldType.int) ∈ lw_tbl := x_tb5 127 rfl
theorem wm_X7_50 : Cond.methodLink RX7 50 yX7_mostPressed ∈ lw_tbl := x_tb5 128 rfl
theorem wi_X7_mostPressed : Cond.instanceMethod yX7_mostPressed ∈ lw_tbl := x_tb5 130 rfl
theorem wc_X7_mostPressed : Cond.code yX7_mostPressed cX7_mostPressed 6 (Option.some Jvm.ClassFile.FieldType.int) ∈ lw_tbl := x_tb5 131 rfl
theorem wmn_X7_53 : Cond.methodLinkNest RX7 53 yX11_has "LineGuild" ∈ lw_tbl := x_tb5 132 rfl
theorem wm_X7_47 : Cond.methodLink RX7 47 yX7_earliestFor ∈ lw_tbl := x_tb5 133 rfl
theorem wi_X7_earliestFor : Cond.instanceMethod yX7_earliestFor ∈ lw_tbl := x_tb5 135 rfl
theorem wc_X7_earliestFor : Cond.code yX7_earliestFor cX7_earliestFor 4 (Option.some Jvm.ClassFile.FieldType.int) ∈ lw_tbl := x_tb5 136 rfl
theorem wm_L_116 : Cond.methodLink RL 116 yX11_forged ∈ lw_tbl := x_tb5 137 rfl
theorem wi_X11_forged : Cond.instanceMethod yX11_forged ∈ lw_tbl := x_tb5 138 rfl
theorem wv_X11_forged : Cond.selects RX11 yX11_forged yX11_forged ∈ lw_tbl := x_tb5 139 rfl
theorem wc_X11_forged : Cond.code yX11_forged cX11_forged 7 (Option.some Jvm.ClassFile.FieldType.int) ∈ lw_tbl := x_tb5 140 rfl
theorem wmn_X11_344 : Cond.methodLinkNest RX11 344 yX2_leftOf "LineGuild" ∈ lw_tbl := x_tb5 141 rfl
theorem wi_X2_leftOf : Cond.instanceMethod yX2_leftOf ∈ lw_tbl := x_tb5 143 rfl
theorem wc_X2_leftOf : Cond.code yX2_leftOf cX2_leftOf 8 (Option.some Jvm.ClassFile.FieldType.int) ∈ lw_tbl := x_tb5 144 rfl
theorem wmn_X11_347 : Cond.methodLinkNest RX11 347 yX2_nextToSniff "LineGuild" ∈ lw_tbl := x_tb5 145 rfl
theorem wi_X2_nextToSniff : Cond.instanceMethod yX2_nextToSniff ∈ lw_tbl := x_tb5 147 rfl
theorem wc_X2_nextToSniff : Cond.code yX2_nextToSniff cX2_nextToSniff 8 (Option.some Jvm.ClassFile.FieldType.int) ∈ lw_tbl := x_tb5 148 rfl
theorem wm_X2_86 : Cond.methodLink RX2 86 yX2_leftOf ∈ lw_tbl := x_tb5 149 rfl
theorem wm_X2_90 : Cond.methodLink RX2 90 yJ9_max_7cf53 ∈ lw_tbl := x_tb5 150 rfl
theorem wm_L_121 : Cond.methodLink RL 121 yX11_yawns ∈ lw_tbl := x_tb5 151 rfl
theorem wi_X11_yawns : Cond.instanceMethod yX11_yawns ∈ lw_tbl := x_tb5 152 rfl
theorem wv_X11_yawns : Cond.selects RX11 yX11_yawns yX11_yawns ∈ lw_tbl := x_tb5 153 rfl
theorem wc_X11_yawns : Cond.code yX11_yawns cX11_yawns 9 (Option.some Jvm.ClassFile.FieldType.int) ∈ lw_tbl := x_tb5 154 rfl
theorem wmn_X11_350 : Cond.methodLinkNest RX11 350 yX9_yawnsLike "LineGuild" ∈ lw_tbl := x_tb5 155 rfl
theorem wi_X9_yawnsLike : Cond.instanceMethod yX9_yawnsLike ∈ lw_tbl := x_tb5 157 rfl
theorem wc_X9_yawnsLike : Cond.code yX9_yawnsLike cX9_yawnsLike 8 (Option.some Jvm.ClassFile.FieldType.boolean) ∈ lw_tbl := x_tb5 158 rfl
theorem wm_L_125 : Cond.methodLink RL 125 yX11_book ∈ lw_tbl := x_tb5 159 rfl
theorem wi_X11_book : Cond.instanceMethod yX11_book ∈ lw_tbl := x_tb5 160 rfl
theorem wv_X11_book : Cond.selects RX11 yX11_book yX11_book ∈ lw_tbl := x_tb5 161 rfl
theorem wc_X11_book : Cond.code yX11_book cX11_book 13 (Option.some Jvm.ClassFile.FieldType.int) ∈ lw_tbl := x_tb5 162 rfl
theorem wm_X11_354 : Cond.methodLink RX11 354 yJ9_min_7cf53 ∈ lw_tbl := x_tb5 163 rfl
theorem wm_X11_360 : Cond.methodLink RX11 360 yX11_volumesCutAt ∈ lw_tbl := x_tb5 164 rfl
theorem wsm_X11_volumesCutAt : Cond.static yX11_volumesCutAt ∈ lw_tbl := x_tb5 165 rfl
theorem wc_X11_volumesCutAt : Cond.code yX11_volumesCutAt cX11_volumesCutAt 6 (Option.some Jvm.ClassFile.FieldType.int) ∈ lw_tbl := x_tb5 166 rfl
theorem wm_X11_363 : Cond.methodLink RX11 363 yX11_thickestCutAt ∈ lw_tbl := x_tb5 167 rfl
theorem wi_X11_thickestCutAt : Cond.instanceMethod yX11_thickestCutAt ∈ lw_tbl := x_tb5 169 rfl
theorem wc_X11_thickestCutAt : Cond.code yX11_thickestCutAt cX11_thickestCutAt 9 (Option.some Jvm.ClassFile.FieldType.int) ∈ lw_tbl := x_tb5 170 rfl
theorem wm_X11_380 : Cond.methodLink RX11 380 yX11_turnsOf ∈ lw_tbl := x_tb5 171 rfl
theorem wi_X11_turnsOf : Cond.instanceMethod yX11_turnsOf ∈ lw_tbl := x_tb5 173 rfl
theorem wc_X11_turnsOf : Cond.code yX11_turnsOf cX11_turnsOf 5 (Option.some Jvm.ClassFile.FieldType.int) ∈ lw_tbl := x_tb5 174 rfl
theorem wm_X11_383 : Cond.methodLink RX11 383 yJ9_max_7cf53 ∈ lw_tbl := x_tb5 175 rfl
theorem wm_L_129 : Cond.methodLink RL 129 yX11_seed ∈ lw_tbl := x_tb5 176 rfl
theorem wi_X11_seed : Cond.instanceMethod yX11_seed ∈ lw_tbl := x_tb5 177 rfl
theorem wv_X11_seed : Cond.selects RX11 yX11_seed yX11_seed ∈ lw_tbl := x_tb5 178 rfl
theorem wc_X11_seed : Cond.code yX11_seed cX11_seed 3 (Option.some Jvm.ClassFile.FieldType.boolean) ∈ lw_tbl := x_tb5 179 rfl
theorem wco_X11_366 : Cond.constant RX11 366 (65535 : Int32) ∈ lw_tbl := x_tb5 180 rfl
theorem wm_L_134 : Cond.methodLink RL 134 yX11_keep ∈ lw_tbl := x_tb5 181 rfl
theorem wi_X11_keep : Cond.instanceMethod yX11_keep ∈ lw_tbl := x_tb5 182 rfl
theorem wv_X11_keep : Cond.selects RX11 yX11_keep yX11_keep ∈ lw_tbl := x_tb5 183 rfl
theorem wc_X11_keep : Cond.code yX11_keep cX11_keep 1 (Option.some Jvm.ClassFile.FieldType.int) ∈ lw_tbl := x_tb5 184 rfl
theorem wm_L_138 : Cond.methodLink RL 138 yX11_undo ∈ lw_tbl := x_tb5 185 rfl
theorem wi_X11_undo : Cond.instanceMethod yX11_undo ∈ lw_tbl := x_tb5 186 rfl
theorem wv_X11_undo : Cond.selects RX11 yX11_undo yX11_undo ∈ lw_tbl := x_tb5 187 rfl
theorem wc_X11_undo : Cond.code yX11_undo cX11_undo 3 (Option.some Jvm.ClassFile.FieldType.boolean) ∈ lw_tbl := x_tb5 188 rfl
theorem wm_L_143 : Cond.methodLink RL 143 yX11_check ∈ lw_tbl := x_tb5 189 rfl
theorem wi_X11_check : Cond.instanceMethod yX11_check ∈ lw_tbl := x_tb5 190 rfl
theorem wv_X11_check : Cond.selects RX11 yX11_check yX11_check ∈ lw_tbl := x_tb5 191 rfl
theorem wc_X11_check : Cond.code yX11_check cX11_check 3 (Option.some Jvm.ClassFile.FieldType.int) ∈ lw_tbl := x_tb5 192 rfl
theorem wm_L_147 : Cond.methodLink RL 147 yX11_count ∈ lw_tbl := x_tb5 193 rfl
theorem wi_X11_count : Cond.instanceMethod yX11_count ∈ lw_tbl := x_tb5 194 rfl
theorem wv_X11_count : Cond.selects RX11 yX11_count yX11_count ∈ lw_tbl := x_tb5 195 rfl
theorem wc_X11_count : Cond.code yX11_count cX11_count 2 (Option.some Jvm.ClassFile.FieldType.int) ∈ lw_tbl := x_tb5 196 rfl
theorem wk_L_10 : Cond.classLink RL 10 "LineGuildModel" ∈ lw_tbl := x_tb5 197 rfl
theorem wn_X12 : Cond.instantiable RX12 101 ∈ lw_tbl := x_tb5 198 rfl
theorem wm_L_12 : Cond.methodLink RL 12 yX12_init ∈ lw_tbl := x_tb5 199 rfl
theorem wi_X12_init : Cond.instanceMethod yX12_init ∈ lw_tbl := x_tb5 200 rfl
theorem wc_X12_init : Cond.code yX12_init cX12_init 1 (Option.none : Option Jvm.ClassFile.FieldType) ∈ lw_tbl := x_tb5 201 rfl
theorem wm_X12_1 : Cond.methodLink RX12 1 ({ cls := "java/lang/Object", name := "<init>", desc := "()V" } : Jvm.MethodName) ∈ lw_tbl := x_tb5 202 rfl
theorem wco_X12_178 : Cond.constant RX12 178 (74752 : Int32) ∈ lw_tbl := x_tb5 203 rfl
theorem wf_X12_7 : Cond.fieldLink RX12 7 "LineGuildModel" "tape" "[B" ∈ lw_tbl := x_tb5 204 rfl
theorem wf_X12_198 : Cond.fieldLink RX12 198 "LineGuildModel" "taped" "I" ∈ lw_tbl := x_tb5 205 rfl
theorem wf_X12_13 : Cond.fieldLink RX12 13 "LineGuildModel" "luck" "I" ∈ lw_tbl := x_tb5 206 rfl
theorem wf_X12_205 : Cond.fieldLink RX12 205 "LineGuildModel" "place" "I" ∈ lw_tbl := x_tb5 207 rfl
theorem wf_X12_208 : Cond.fieldLink RX12 208 "LineGuildModel" "end" "I" ∈ lw_tbl := x_tb5 208 rfl
theorem wf_X12_211 : Cond.fieldLink RX12 211 "LineGuildModel" "bad" "I" ∈ lw_tbl := x_tb5 209 rfl
theorem wf_X12_377 : Cond.fieldLink RX12 377 "LineGuildModel" "clauses" "I" ∈ lw_tbl := x_tb5 210 rfl
theorem wf_X12_304 : Cond.fieldLink RX12 304 "LineGuildModel" "codes" "I" ∈ lw_tbl := x_tb5 211 rfl
theorem wf_X12_310 : Cond.fieldLink RX12 310 "LineGuildModel" "open" "I" ∈ lw_tbl := x_tb5 212 rfl
theorem wf_X12_307 : Cond.fieldLink RX12 307 "LineGuildModel" "stacked" "I" ∈ lw_tbl := x_tb5 213 rfl
theorem wf_X12_17 : Cond.fieldLink RX12 17 "LineGuildModel" "isStory" "[Z" ∈ lw_tbl := x_tb5 214 rfl
theorem wf_X12_21 : Cond.fieldLink RX12 21 "LineGuildModel" "storyMany" "[I" ∈ lw_tbl := x_tb5 215 rfl
theorem wf_X12_25 : Cond.fieldLink RX12 25 "LineGuildModel" "turnsOf" "[I" ∈ lw_tbl := x_tb5 216 rfl
theorem wf_X12_28 : Cond.fieldLink RX12 28 "LineGuildModel" "newTurns" "[I" ∈ lw_tbl := x_tb5 217 rfl
theorem wf_X12_226 : Cond.fieldLink RX12 226 "LineGuildModel" "newMany" "I" ∈ lw_tbl := x_tb5 218 rfl
theorem wf_X12_247 : Cond.fieldLink RX12 247 "LineGuildModel" "openMany" "I" ∈ lw_tbl := x_tb5 219 rfl
theorem wf_X12_250 : Cond.fieldLink RX12 250 "LineGuildModel" "isBegun" "Z" ∈ lw_tbl := x_tb5 220 rfl
theorem wf_X12_31 : Cond.fieldLink RX12 31 "LineGuildModel" "openFrom" "[I" ∈ lw_tbl := x_tb5 221 rfl
theorem wf_X12_34 : Cond.fieldLink RX12 34 "LineGuildModel" "openTimes" "[I" ∈ lw_tbl := x_tb5 222 rfl
theorem wf_X12_37 : Cond.fieldLink RX12 37 "LineGuildModel" "openPlace" "[I" ∈ lw_tbl := x_tb5 223 rfl
theorem wf_X12_40 : Cond.fieldLink RX12 40 "LineGuildModel" "clauseLetter" "[I" ∈ lw_tbl := x_tb5 224 rfl
theorem wf_X12_43 : Cond.fieldLink RX12 43 "LineGuildModel" "sumFrom" "[I" ∈ lw_tbl := x_tb5 225 rfl
theorem wf_X12_46 : Cond.fieldLink RX12 46 "LineGuildModel" "codeFrom" "[I" ∈ lw_tbl := x_tb5 226 rfl
theorem wf_X12_49 : Cond.fieldLink RX12 49 "LineGuildModel" "codeTo" "[I" ∈ lw_tbl := x_tb5 227 rfl
theorem wf_X12_52 : Cond.fieldLink RX12 52 "LineGuildModel" "code" "[I" ∈ lw_tbl := x_tb5 228 rfl
theorem wf_X12_55 : Cond.fieldLink RX12 55 "LineGuildModel" "codeArg" "[I" ∈ lw_tbl := x_tb5 229 rfl
theorem wf_X12_58 : Cond.fieldLink RX12 58 "LineGuildModel" "clauseMany" "[I" ∈ lw_tbl := x_tb5 230 rfl
theorem wf_X12_439 : Cond.fieldLink RX12 439 "LineGuildModel" "lawNow" "I" ∈ lw_tbl := x_tb5 231 rfl
theorem wf_X12_388 : Cond.fieldLink RX12 388 "LineGuildModel" "codeMany" "I" ∈ lw_tbl := x_tb5 232 rfl
theorem wf_X12_61 : Cond.fieldLink RX12 61 "LineGuildModel" "newLetter" "[I" ∈ lw_tbl := x_tb5 233 rfl
theorem wf_X12_64 : Cond.fieldLink RX12 64 "LineGuildModel" "newSum" "[I" ∈ lw_tbl := x_tb5 234 rfl
theorem wf_X12_67 : Cond.fieldLink RX12 67 "LineGuildModel" "newFrom" "[I" ∈ lw_tbl := x_tb5 235 rfl
theorem wf_X12_70 : Cond.fieldLink RX12 70 "LineGuildModel" "newTo" "[I" ∈ lw_tbl := x_tb5 236 rfl
theorem wf_X12_73 : Cond.fieldLink RX12 73 "LineGuildModel" "newCode" "[I" ∈ lw_tbl := x_tb5 237 rfl
theorem wf_X12_76 : Cond.fieldLink RX12 76 "LineGuildModel" "newArg" "[I" ∈ lw_tbl := x_tb5 238 rfl
theorem wf_X12_365 : Cond.fieldLink RX12 365 "LineGuildModel" "isOver" "Z" ∈ lw_tbl := x_tb5 239 rfl
theorem wf_X12_344 : Cond.fieldLink RX12 344 "LineGuildModel" "isBehind" "Z" ∈ lw_tbl := x_tb6 0 rfl
theorem wf_X12_79 : Cond.fieldLink RX12 79 "LineGuildModel" "stack" "[I" ∈ lw_tbl := x_tb6 1 rfl
theorem wf_X12_391 : Cond.fieldLink RX12 391 "LineGuildModel" "asTeller" "I" ∈ lw_tbl := x_tb6 2 rfl
theorem wf_X12_394 : Cond.fieldLink RX12 394 "LineGuildModel" "asTurn" "I" ∈ lw_tbl := x_tb6 3 rfl
theorem wf_X12_397 : Cond.fieldLink RX12 397 "LineGuildModel" "asPurse" "I" ∈ lw_tbl := x_tb6 4 rfl
theorem wf_X12_400 : Cond.fieldLink RX12 400 "LineGuildModel" "asOpen" "I" ∈ lw_tbl := x_tb6 5 rfl
theorem wf_X12_403 : Cond.fieldLink RX12 403 "LineGuildModel" "asListener" "I" ∈ lw_tbl := x_tb6 6 rfl
theorem wf_X12_406 : Cond.fieldLink RX12 406 "LineGuildModel" "asAge" "I" ∈ lw_tbl := x_tb6 7 rfl
theorem wf_X12_409 : Cond.fieldLink RX12 409 "LineGuildModel" "asTired" "I" ∈ lw_tbl := x_tb6 8 rfl
theorem wf_X12_412 : Cond.fieldLink RX12 412 "LineGuildModel" "asEnd" "I" ∈ lw_tbl := x_tb6 9 rfl
theorem wf_X12_415 : Cond.fieldLink RX12 415 "LineGuildModel" "asPrice" "I" ∈ lw_tbl := x_tb6 10 rfl
theorem wf_X12_418 : Cond.fieldLink RX12 418 "LineGuildModel" "asStock" "I" ∈ lw_tbl := x_tb6 11 rfl
theorem wf_X12_421 : Cond.fieldLink RX12 421 "LineGuildModel" "asCloses" "I" ∈ lw_tbl := x_tb6 12 rfl
theorem wf_X12_82 : Cond.fieldLink RX12 82 "LineGuildModel" "worths" "[I" ∈ lw_tbl := x_tb6 13 rfl
theorem wf_X12_85 : Cond.fieldLink RX12 85 "LineGuildModel" "isRefused" "[Z" ∈ lw_tbl := x_tb6 14 rfl
theorem wf_X12_88 : Cond.fieldLink RX12 88 "LineGuildModel" "isEnd" "[Z" ∈ lw_tbl := x_tb6 15 rfl
theorem wf_X12_91 : Cond.fieldLink RX12 91 "LineGuildModel" "closes" "[I" ∈ lw_tbl := x_tb6 16 rfl
theorem wf_X12_94 : Cond.fieldLink RX12 94 "LineGuildModel" "prices" "[I" ∈ lw_tbl := x_tb6 17 rfl
theorem wf_X12_97 : Cond.fieldLink RX12 97 "LineGuildModel" "stocks" "[I" ∈ lw_tbl := x_tb6 18 rfl
theorem wf_X12_100 : Cond.fieldLink RX12 100 "LineGuildModel" "making" "[I" ∈ lw_tbl := x_tb6 19 rfl
theorem wf_X12_103 : Cond.fieldLink RX12 103 "LineGuildModel" "isTeller" "[Z" ∈ lw_tbl := x_tb6 20 rfl
theorem wf_X12_106 : Cond.fieldLink RX12 106 "LineGuildModel" "storyOf" "[I" ∈ lw_tbl := x_tb6 21 rfl
theorem wf_X12_109 : Cond.fieldLink RX12 109 "LineGuildModel" "purses" "[I" ∈ lw_tbl := x_tb6 22 rfl
theorem wf_X12_112 : Cond.fieldLink RX12 112 "LineGuildModel" "turnOf" "[I" ∈ lw_tbl := x_tb6 23 rfl
theorem wf_X12_115 : Cond.fieldLink RX12 115 "LineGuildModel" "openOf" "[I" ∈ lw_tbl := x_tb6 24 rfl
theorem wf_X12_118 : Cond.fieldLink RX12 118 "LineGuildModel" "isListener" "[Z" ∈ lw_tbl := x_tb6 25 rfl
theorem wf_X12_121 : Cond.fieldLink RX12 121 "LineGuildModel" "boundTo" "[I" ∈ lw_tbl := x_tb6 26 rfl
theorem wf_X12_124 : Cond.fieldLink RX12 124 "LineGuildModel" "ages" "[I" ∈ lw_tbl := x_tb6 27 rfl
theorem wf_X12_127 : Cond.fieldLink RX12 127 "LineGuildModel" "tired" "[I" ∈ lw_tbl := x_tb6 28 rfl
theorem wf_X12_424 : Cond.fieldLink RX12 424 "LineGuildModel" "evening" "I" ∈ lw_tbl := x_tb6 29 rfl
theorem wf_X12_514 : Cond.fieldLink RX12 514 "LineGuildModel" "illMany" "I" ∈ lw_tbl := x_tb6 30 rfl
theorem wf_X12_538 : Cond.fieldLink RX12 538 "LineGuildModel" "toldMany" "I" ∈ lw_tbl := x_tb6 31 rfl
theorem wf_X12_130 : Cond.fieldLink RX12 130 "LineGuildModel" "costs" "[I" ∈ lw_tbl := x_tb6 32 rfl
theorem wf_X12_473 : Cond.fieldLink RX12 473 "LineGuildModel" "bestSet" "I" ∈ lw_tbl := x_tb6 33 rfl
theorem wf_X12_477 : Cond.fieldLink RX12 477 "LineGuildModel" "bestCost" "I" ∈ lw_tbl := x_tb6 34 rfl
theorem wf_X12_487 : Cond.fieldLink RX12 487 "LineGuildModel" "paid" "I" ∈ lw_tbl := x_tb6 35 rfl
theorem wf_X12_490 : Cond.fieldLink RX12 490 "LineGuildModel" "boughtMany" "I" ∈ lw_tbl := x_tb6 36 rfl
theorem wf_X12_496 : Cond.fieldLink RX12 496 "LineGuildModel" "forgedMany" "I" ∈ lw_tbl := x_tb6 37 rfl
theorem wf_X12_517 : Cond.fieldLink RX12 517 "LineGuildModel" "illThen" "I" ∈ lw_tbl := x_tb6 38 rfl
theorem wf_X12_529 : Cond.fieldLink RX12 529 "LineGuildModel" "wentMany" "I" ∈ lw_tbl := x_tb6 39 rfl
theorem wf_X12_541 : Cond.fieldLink RX12 541 "LineGuildModel" "toldThen" "I" ∈ lw_tbl := x_tb6 40 rfl
theorem wf_X12_535 : Cond.fieldLink RX12 535 "LineGuildModel" "given" "I" ∈ lw_tbl := x_tb6 41 rfl
theorem wf_X12_520 : Cond.fieldLink RX12 520 "LineGuildModel" "firstWho" "I" ∈ lw_tbl := x_tb6 42 rfl
theorem wf_X12_523 : Cond.fieldLink RX12 523 "LineGuildModel" "firstWhen" "I" ∈ lw_tbl := x_tb6 43 rfl
theorem wf_X12_133 : Cond.fieldLink RX12 133 "LineGuildModel" "owed" "[I" ∈ lw_tbl := x_tb6 44 rfl
theorem wf_X12_136 : Cond.fieldLink RX12 136 "LineGuildModel" "asideTeller" "[Z" ∈ lw_tbl := x_tb6 45 rfl
theorem wf_X12_139 : Cond.fieldLink RX12 139 "LineGuildModel" "asideStory" "[I" ∈ lw_tbl := x_tb6 46 rfl
theorem wf_X12_142 : Cond.fieldLink RX12 142 "LineGuildModel" "asidePurse" "[I" ∈ lw_tbl := x_tb6 47 rfl
theorem wf_X12_145 : Cond.fieldLink RX12 145 "LineGuildModel" "asideTurn" "[I" ∈ lw_tbl := x_tb6 48 rfl
theorem wf_X12_148 : Cond.fieldLink RX12 148 "LineGuildModel" "asideOpen" "[I" ∈ lw_tbl := x_tb6 49 rfl
theorem wf_X12_151 : Cond.fieldLink RX12 151 "LineGuildModel" "asideListener" "[Z" ∈ lw_tbl := x_tb6 50 rfl
theorem wf_X12_154 : Cond.fieldLink RX12 154 "LineGuildModel" "asideBound" "[I" ∈ lw_tbl := x_tb6 51 rfl
theorem wf_X12_157 : Cond.fieldLink RX12 157 "LineGuildModel" "asideAge" "[I" ∈ lw_tbl := x_tb6 52 rfl
theorem wf_X12_160 : Cond.fieldLink RX12 160 "LineGuildModel" "asideTired" "[I" ∈ lw_tbl := x_tb6 53 rfl
theorem wf_X12_163 : Cond.fieldLink RX12 163 "LineGuildModel" "asideStock" "[I" ∈ lw_tbl := x_tb6 54 rfl
theorem wf_X12_166 : Cond.fieldLink RX12 166 "LineGuildModel" "asideEvening" "[I" ∈ lw_tbl := x_tb6 55 rfl
theorem wf_X12_169 : Cond.fieldLink RX12 169 "LineGuildModel" "asideIll" "[I" ∈ lw_tbl := x_tb6 56 rfl
theorem wf_X12_172 : Cond.fieldLink RX12 172 "LineGuildModel" "asideTold" "[I" ∈ lw_tbl := x_tb6 57 rfl
theorem wf_X12_175 : Cond.fieldLink RX12 175 "LineGuildModel" "asideLuck" "[I" ∈ lw_tbl := x_tb6 58 rfl
theorem wf_X12_639 : Cond.fieldLink RX12 639 "LineGuildModel" "isKept" "Z" ∈ lw_tbl := x_tb6 59 rfl
theorem wf_X12_179 : Cond.fieldLink RX12 179 "LineGuildModel" "leftOut" "[I" ∈ lw_tbl := x_tb6 60 rfl
theorem wf_X12_182 : Cond.fieldLink RX12 182 "LineGuildModel" "some" "[I" ∈ lw_tbl := x_tb6 61 rfl
theorem wf_X12_185 : Cond.fieldLink RX12 185 "LineGuildModel" "rowNow" "[I" ∈ lw_tbl := x_tb6 62 rfl
theorem wf_X12_188 : Cond.fieldLink RX12 188 "LineGuildModel" "bestRow" "[I" ∈ lw_tbl := x_tb6 63 rfl
theorem wf_X12_191 : Cond.fieldLink RX12 191 "LineGuildModel" "isTaken" "[Z" ∈ lw_tbl := x_tb6 64 rfl
theorem wa_boolean : Cond.arrayClass Jvm.ClassFile.FieldType.boolean ∈ lw_tbl := x_tb7 28 rfl
theorem wm_L_17 : Cond.methodLink RL 17 yX12_feed ∈ lw_tbl := x_tb7 29 rfl
theorem wi_X12_feed : Cond.instanceMethod yX12_feed ∈ lw_tbl := x_tb7 30 rfl
theorem wv_X12_feed : Cond.selects RX12 yX12_feed yX12_feed ∈ lw_tbl := x_tb7 31 rfl
theorem wc_X12_feed : Cond.code yX12_feed cX12_feed 6 (Option.some Jvm.ClassFile.FieldType.int) ∈ lw_tbl := x_tb7 32 rfl
theorem wm_X12_201 : Cond.methodLink RX12 201 yX12_push ∈ lw_tbl := x_tb7 33 rfl
theorem wi_X12_push : Cond.instanceMethod yX12_push ∈ lw_tbl := x_tb7 35 rfl
theorem wc_X12_push : Cond.code yX12_push cX12_push 3 (Option.none : Option Jvm.ClassFile.FieldType) ∈ lw_tbl := x_tb7 36 rfl
theorem wm_L_22 : Cond.methodLink RL 22 yX12_story ∈ lw_tbl := x_tb7 37 rfl
theorem wi_X12_story : Cond.instanceMethod yX12_story ∈ lw_tbl := x_tb7 38 rfl
theorem wv_X12_story : Cond.selects RX12 yX12_story yX12_story ∈ lw_tbl := x_tb7 39 rfl
theorem wc_X12_story : Cond.code yX12_story cX12_story 4 (Option.some Jvm.ClassFile.FieldType.int) ∈ lw_tbl := x_tb7 40 rfl
theorem wcl_X12_265 : Cond.constantLong RX12 265 (5 : Int64) ∈ lw_tbl := x_tb7 41 rfl
theorem wm_X12_222 : Cond.methodLink RX12 222 yX12_lies ∈ lw_tbl := x_tb7 42 rfl
theorem wsm_X12_lies : Cond.static yX12_lies ∈ lw_tbl := x_tb7 43 rfl
theorem wc_X12_lies : Cond.code yX12_lies cX12_lies 6 (Option.some Jvm.ClassFile.FieldType.boolean) ∈ lw_tbl := x_tb7 44 rfl
theorem wcl_X12_267 : Cond.constantLong RX12 267 (80 : Int64) ∈ lw_tbl := x_tb7 45 rfl
theorem wm_X12_269 : Cond.methodLink RX12 269 yX12_begins ∈ lw_tbl := x_tb7 46 rfl
theorem wi_X12_begins : Cond.instanceMethod yX12_begins ∈ lw_tbl := x_tb7 48 rfl
theorem wc_X12_begins : Cond.code yX12_begins cX12_begins 2 (Option.none : Option Jvm.ClassFile.FieldType) ∈ lw_tbl := x_tb7 49 rfl
theorem wm_X12_233 : Cond.methodLink RX12 233 yX12_isGood ∈ lw_tbl := x_tb7 50 rfl
theorem wi_X12_isGood : Cond.instanceMethod yX12_isGood ∈ lw_tbl := x_tb7 52 rfl
theorem wc_X12_isGood : Cond.code yX12_isGood cX12_isGood 1 (Option.some Jvm.ClassFile.FieldType.boolean) ∈ lw_tbl := x_tb7 53 rfl
theorem wm_X12_272 : Cond.methodLink RX12 272 yX12_turnTold ∈ lw_tbl := x_tb7 54 rfl
theorem wi_X12_turnTold : Cond.instanceMethod yX12_turnTold ∈ lw_tbl := x_tb7 56 rfl
theorem wc_X12_turnTold : Cond.code yX12_turnTold cX12_turnTold 4 (Option.none : Option Jvm.ClassFile.FieldType) ∈ lw_tbl := x_tb7 57 rfl
theorem wm_X12_214 : Cond.methodLink RX12 214 yX12_here ∈ lw_tbl := x_tb7 58 rfl
theorem wi_X12_here : Cond.instanceMethod yX12_here ∈ lw_tbl := x_tb7 60 rfl
theorem wc_X12_here : Cond.code yX12_here cX12_here 1 (Option.some Jvm.ClassFile.FieldType.int) ∈ lw_tbl := x_tb7 61 rfl
theorem wm_X12_254 : Cond.methodLink RX12 254 yX12_repeats ∈ lw_tbl := x_tb7 62 rfl
theorem wi_X12_repeats : Cond.instanceMethod yX12_repeats ∈ lw_tbl := x_tb7 64 rfl
theorem wc_X12_repeats : Cond.code yX12_repeats cX12_repeats 6 (Option.none : Option Jvm.ClassFile.FieldType) ∈ lw_tbl := x_tb7 65 rfl
theorem wm_X12_229 : Cond.methodLink RX12 229 yX12_wrongs ∈ lw_tbl := x_tb7 66 rfl
theorem wi_X12_wrongs : Cond.instanceMethod yX12_wrongs ∈ lw_tbl := x_tb7 68 rfl
theorem wc_X12_wrongs : Cond.code yX12_wrongs cX12_wrongs 3 (Option.none : Option Jvm.ClassFile.FieldType) ∈ lw_tbl := x_tb7 69 rfl
theorem wm_X12_258 : Cond.methodLink RX12 258 yX12_timesTold ∈ lw_tbl := x_tb7 70 rfl
theorem wi_X12_timesTold : Cond.instanceMethod yX12_timesTold ∈ lw_tbl := x_tb7 72 rfl
theorem wc_X12_timesTold : Cond.code yX12_timesTold cX12_timesTold 1 (Option.some Jvm.ClassFile.FieldType.int) ∈ lw_tbl := x_tb7 73 rfl
theorem wcl_X12_237 : Cond.constantLong RX12 237 (50 : Int64) ∈ lw_tbl := x_tb7 74 rfl
theorem wcl_X12_220 : Cond.constantLong RX12 220 (57 : Int64) ∈ lw_tbl := x_tb7 75 rfl
theorem wm_X12_261 : Cond.methodLink RX12 261 yX12_turnBy ∈ lw_tbl := x_tb7 76 rfl
theorem wsm_X12_turnBy : Cond.static yX12_turnBy ∈ lw_tbl := x_tb7 77 rfl
theorem wc_X12_turnBy : Cond.code yX12_turnBy cX12_turnBy 1 (Option.some Jvm.ClassFile.FieldType.int) ∈ lw_tbl := x_tb7 78 rfl
theorem wcl_X12_239 : Cond.constantLong RX12 239 (97 : Int64) ∈ lw_tbl := x_tb7 79 rfl
theorem wcl_X12_241 : Cond.constantLong RX12 241 (106 : Int64) ∈ lw_tbl := x_tb7 80 rfl
theorem wcl_X12_243 : Cond.constantLong RX12 243 (65 : Int64) ∈ lw_tbl := x_tb7 81 rfl
theorem wcl_X12_245 : Cond.constantLong RX12 245 (74 : Int64) ∈ lw_tbl := x_tb7 82 rfl
theorem wm_L_71 : Cond.methodLink RL 71 yX12_open ∈ lw_tbl := x_tb7 83 rfl
theorem wi_X12_open : Cond.instanceMethod yX12_open ∈ lw_tbl := x_tb7 84 rfl
theorem wv_X12_open : Cond.selects RX12 yX12_open yX12_open ∈ lw_tbl := x_tb7 85 rfl
theorem wc_X12_open : Cond.code yX12_open cX12_open 4 (Option.some Jvm.ClassFile.FieldType.int) ∈ lw_tbl := x_tb7 86 rfl
theorem wm_X12_279 : Cond.methodLink RX12 279 yX12_isTold ∈ lw_tbl := x_tb7 87 rfl
theorem wi_X12_isTold : Cond.instanceMethod yX12_isTold ∈ lw_tbl := x_tb7 89 rfl
theorem wc_X12_isTold : Cond.code yX12_isTold cX12_isTold 2 (Option.some Jvm.ClassFile.FieldType.boolean) ∈ lw_tbl := x_tb7 90 rfl
theorem wcl_X12_283 : Cond.constantLong RX12 283 (1023 : Int64) ∈ lw_tbl := x_tb7 91 rfl
theorem wm_X12_285 : Cond.methodLink RX12 285 yX12_openBehind ∈ lw_tbl := x_tb7 92 rfl
theorem wi_X12_openBehind : Cond.instanceMethod yX12_openBehind ∈ lw_tbl := x_tb7 94 rfl
theorem wc_X12_openBehind : Cond.code yX12_openBehind cX12_openBehind 6 (Option.some Jvm.ClassFile.FieldType.int) ∈ lw_tbl := x_tb7 95 rfl
theorem wm_X12_275 : Cond.methodLink RX12 275 yX12_turned ∈ lw_tbl := x_tb7 96 rfl
theorem wsm_X12_turned : Cond.static yX12_turned ∈ lw_tbl := x_tb7 97 rfl
theorem wc_X12_turned : Cond.code yX12_turned cX12_turned 2 (Option.some Jvm.ClassFile.FieldType.int) ∈ lw_tbl := x_tb7 98 rfl
theorem wm_L_66 : Cond.methodLink RL 66 yX12_storyIs ∈ lw_tbl := x_tb7 99 rfl
theorem wi_X12_storyIs : Cond.instanceMethod yX12_storyIs ∈ lw_tbl := x_tb7 100 rfl
theorem wv_X12_storyIs : Cond.selects RX12 yX12_storyIs yX12_storyIs ∈ lw_tbl := x_tb7 101 rfl
theorem wc_X12_storyIs : Cond.code yX12_storyIs cX12_storyIs 3 (Option.some Jvm.ClassFile.FieldType.int) ∈ lw_tbl := x_tb7 102 rfl
theorem wm_X12_295 : Cond.methodLink RX12 295 yX12_mostOpen ∈ lw_tbl := x_tb7 103 rfl
theorem wi_X12_mostOpen : Cond.instanceMethod yX12_mostOpen ∈ lw_tbl := x_tb7 105 rfl
theorem wc_X12_mostOpen : Cond.code yX12_mostOpen cX12_mostOpen 5 (Option.some Jvm.ClassFile.FieldType.int) ∈ lw_tbl := x_tb7 106 rfl
theorem wm_X12_289 : Cond.methodLink RX12 289 yX12_sizeOf ∈ lw_tbl := x_tb7 107 rfl
theorem wsm_X12_sizeOf : Cond.static yX12_sizeOf ∈ lw_tbl := x_tb7 108 rfl
theorem wc_X12_sizeOf : Cond.code yX12_sizeOf cX12_sizeOf 3 (Option.some Jvm.ClassFile.FieldType.int) ∈ lw_tbl := x_tb7 109 rfl
theorem wm_X12_292 : Cond.methodLink RX12 292 yX12_threadsOf ∈ lw_tbl := x_tb7 110 rfl
theorem wi_X12_threadsOf : Cond.instanceMethod yX12_threadsOf ∈ lw_tbl := x_tb7 112 rfl
theorem wc_X12_threadsOf : Cond.code yX12_threadsOf cX12_threadsOf 7 (Option.some Jvm.ClassFile.FieldType.int) ∈ lw_tbl := x_tb7 113 rfl
theorem wm_X12_298 : Cond.methodLink RX12 298 yX12_knotOf ∈ lw_tbl := x_tb7 114 rfl
theorem wi_X12_knotOf : Cond.instanceMethod yX12_knotOf ∈ lw_tbl := x_tb7 116 rfl
theorem wc_X12_knotOf : Cond.code yX12_knotOf cX12_knotOf 6 (Option.some Jvm.ClassFile.FieldType.int) ∈ lw_tbl := x_tb7 117 rfl
theorem wm_X12_194 : Cond.methodLink RX12 194 yX12_has ∈ lw_tbl := x_tb7 118 rfl
theorem wsm_X12_has : Cond.static yX12_has ∈ lw_tbl := x_tb7 119 rfl
theorem wc_X12_has : Cond.code yX12_has cX12_has 2 (Option.some Jvm.ClassFile.FieldType.boolean) ∈ lw_tbl := x_tb7 120 rfl
theorem wm_L_107 : Cond.methodLink RL 107 yX12_knots ∈ lw_tbl := x_tb7 121 rfl
theorem wi_X12_knots : Cond.instanceMethod yX12_knots ∈ lw_tbl := x_tb7 122 rfl
theorem wv_X12_knots : Cond.selects RX12 yX12_knots yX12_knots ∈ lw_tbl := x_tb7 123 rfl
theorem wc_X12_knots : Cond.code yX12_knots cX12_knots 3 (Option.some Jvm.ClassFile.FieldType.int) ∈ lw_tbl := x_tb7 124 rfl
theorem wm_X12_301 : Cond.methodLink RX12 301 yX12_lowestOf ∈ lw_tbl := x_tb7 125 rfl
theorem wsm_X12_lowestOf : Cond.static yX12_lowestOf ∈ lw_tbl := x_tb7 126 rfl
theorem wc_X12_lowestOf : Cond.code yX12_lowestOf cX12_lowestOf 2 (Option.some Jvm.ClassFile.FieldType.int) ∈ lw_tbl := x_tb7 127 rfl
theorem wm_L_27 : Cond.methodLink RL 27 yX12_law ∈ lw_tbl := x_tb7 128 rfl
theorem wi_X12_law : Cond.instanceMethod yX12_law ∈ lw_tbl := x_tb7 129 rfl
theorem wv_X12_law : Cond.selects RX12 yX12_law yX12_law ∈ lw_tbl := x_tb7 130 rfl
theorem wc_X12_law : Cond.code yX12_law cX12_law 4 (Option.some Jvm.ClassFile.FieldType.int) ∈ lw_tbl := x_tb7 131 rfl
theorem wcl_X12_383 : Cond.constantLong RX12 383 (240 : Int64) ∈ lw_tbl := x_tb7 132 rfl
theorem wm_X12_385 : Cond.methodLink RX12 385 yX12_clause ∈ lw_tbl := x_tb7 133 rfl
theorem wi_X12_clause : Cond.instanceMethod yX12_clause ∈ lw_tbl := x_tb7 135 rfl
theorem wc_X12_clause : Cond.code yX12_clause cX12_clause 2 (Option.none : Option Jvm.ClassFile.FieldType) ∈ lw_tbl := x_tb7 136 rfl
theorem wm_X12_374 : Cond.methodLink RX12 374 yX12_isClause ∈ lw_tbl := x_tb7 137 rfl
theorem wsm_X12_isClause : Cond.static yX12_isClause ∈ lw_tbl := x_tb7 138 rfl
theorem wc_X12_isClause : Cond.code yX12_isClause cX12_isClause 1 (Option.some Jvm.ClassFile.FieldType.boolean) ∈ lw_tbl := x_tb7 139 rfl
theorem wm_X12_353 : Cond.methodLink RX12 353 yX12_value ∈ lw_tbl := x_tb7 140 rfl
theorem wi_X12_value : Cond.instanceMethod yX12_value ∈ lw_tbl := x_tb7 142 rfl
theorem wc_X12_value : Cond.code yX12_value cX12_value 2 (Option.none : Option Jvm.ClassFile.FieldType) ∈ lw_tbl := x_tb7 143 rfl
theorem wm_X12_347 : Cond.methodLink RX12 347 yX12_factor ∈ lw_tbl := x_tb7 144 rfl
theorem wi_X12_factor : Cond.instanceMethod yX12_factor ∈ lw_tbl := x_tb7 146 rfl
theorem wc_X12_factor : Cond.code yX12_factor cX12_factor 1 (Option.none : Option Jvm.ClassFile.FieldType) ∈ lw_tbl := x_tb7 147 rfl
theorem wm_X12_331 : Cond.methodLink RX12 331 yX12_opens ∈ lw_tbl := x_tb7 148 rfl
theorem wi_X12_opens : Cond.instanceMethod yX12_opens ∈ lw_tbl := x_tb7 150 rfl
theorem wc_X12_opens : Cond.code yX12_opens cX12_opens 1 (Option.none : Option Jvm.ClassFile.FieldType) ∈ lw_tbl := x_tb7 151 rfl
theorem wm_X12_313 : Cond.methodLink RX12 313 yX12_puts ∈ lw_tbl := x_tb7 152 rfl
theorem wi_X12_puts : Cond.instanceMethod yX12_puts ∈ lw_tbl := x_tb7 154 rfl
theorem wc_X12_puts : Cond.code yX12_puts cX12_puts 2 (Option.none : Option Jvm.ClassFile.FieldType) ∈ lw_tbl := x_tb7 155 rfl
theorem wm_X12_316 : Cond.methodLink RX12 316 yX12_seesDigit ∈ lw_tbl := x_tb7 156 rfl
theorem wi_X12_seesDigit : Cond.instanceMethod yX12_seesDigit ∈ lw_tbl := x_tb7 158 rfl
theorem wc_X12_seesDigit : Cond.code yX12_seesDigit cX12_seesDigit 1 (Option.some Jvm.ClassFile.FieldType.boolean) ∈ lw_tbl := x_tb7 159 rfl
theorem wcl_X12_218 : Cond.constantLong RX12 218 (48 : Int64) ∈ lw_tbl := x_tb7 160 rfl
theorem wm_X12_334 : Cond.methodLink RX12 334 yX12_reads ∈ lw_tbl := x_tb7 161 rfl
theorem wi_X12_reads : Cond.instanceMethod yX12_reads ∈ lw_tbl := x_tb7 163 rfl
theorem wc_X12_reads : Cond.code yX12_reads cX12_reads 3 (Option.some Jvm.ClassFile.FieldType.int) ∈ lw_tbl := x_tb7 164 rfl
theorem wm_X12_328 : Cond.methodLink RX12 328 yX12_emit ∈ lw_tbl := x_tb7 165 rfl
theorem wi_X12_emit : Cond.instanceMethod yX12_emit ∈ lw_tbl := x_tb7 167 rfl
theorem wc_X12_emit : Cond.code yX12_emit cX12_emit 3 (Option.none : Option Jvm.ClassFile.FieldType) ∈ lw_tbl := x_tb7 168 rfl
theorem wm_X12_337 : Cond.methodLink RX12 337 yX12_isValue ∈ lw_tbl := x_tb7 169 rfl
theorem wsm_X12_isValue : Cond.static yX12_isValue ∈ lw_tbl := x_tb7 170 rfl
theorem wc_X12_isValue : Cond.code yX12_isValue cX12_isValue 1 (Option.some Jvm.ClassFile.FieldType.boolean) ∈ lw_tbl := x_tb7 171 rfl
theorem wm_X12_350 : Cond.methodLink RX12 350 yX12_stays ∈ lw_tbl := x_tb7 172 rfl
theorem wi_X12_stays : Cond.instanceMethod yX12_stays ∈ lw_tbl := x_tb7 174 rfl
theorem wc_X12_stays : Cond.code yX12_stays cX12_stays 2 (Option.some Jvm.ClassFile.FieldType.boolean) ∈ lw_tbl := x_tb7 175 rfl
theorem wm_X12_322 : Cond.methodLink RX12 322 yX12_isTimes ∈ lw_tbl := x_tb7 176 rfl
theorem wsm_X12_isTimes : Cond.static yX12_isTimes ∈ lw_tbl := x_tb7 177 rfl
theorem wc_X12_isTimes : Cond.code yX12_isTimes cX12_isTimes 1 (Option.some Jvm.ClassFile.FieldType.boolean) ∈ lw_tbl := x_tb7 178 rfl
theorem wm_X12_325 : Cond.methodLink RX12 325 yX12_isPlus ∈ lw_tbl := x_tb7 179 rfl
theorem wsm_X12_isPlus : Cond.static yX12_isPlus ∈ lw_tbl := x_tb7 180 rfl
theorem wc_X12_isPlus : Cond.code yX12_isPlus cX12_isPlus 1 (Option.some Jvm.ClassFile.FieldType.boolean) ∈ lw_tbl := x_tb7 181 rfl
theorem wm_X12_340 : Cond.methodLink RX12 340 yX12_sums ∈ lw_tbl := x_tb7 182 rfl
theorem wi_X12_sums : Cond.instanceMethod yX12_sums ∈ lw_tbl := x_tb7 184 rfl
theorem wc_X12_sums : Cond.code yX12_sums cX12_sums 2 (Option.none : Option Jvm.ClassFile.FieldType) ∈ lw_tbl := x_tb7 185 rfl
theorem wm_X12_319 : Cond.methodLink RX12 319 yX12_top ∈ lw_tbl := x_tb7 186 rfl
theorem wi_X12_top : Cond.instanceMethod yX12_top ∈ lw_tbl := x_tb7 188 rfl
theorem wc_X12_top : Cond.code yX12_top cX12_top 1 (Option.some Jvm.ClassFile.FieldType.int) ∈ lw_tbl := x_tb7 189 rfl
theorem wm_X12_380 : Cond.methodLink RX12 380 yX12_condition ∈ lw_tbl := x_tb7 190 rfl
theorem wi_X12_condition : Cond.instanceMethod yX12_condition ∈ lw_tbl := x_tb7 192 rfl
theorem wc_X12_condition : Cond.code yX12_condition cX12_condition 2 (Option.none : Option Jvm.ClassFile.FieldType) ∈ lw_tbl := x_tb7 193 rfl
theorem wm_X12_368 : Cond.methodLink RX12 368 yX12_pieceOfC ∈ lw_tbl := x_tb7 194 rfl
theorem wi_X12_pieceOfC : Cond.instanceMethod yX12_pieceOfC ∈ lw_tbl := x_tb7 196 rfl
theorem wc_X12_pieceOfC : Cond.code yX12_pieceOfC cX12_pieceOfC 2 (Option.none : Option Jvm.ClassFile.FieldType) ∈ lw_tbl := x_tb7 197 rfl
theorem wm_X12_356 : Cond.methodLink RX12 356 yX12_isCompared ∈ lw_tbl := x_tb7 198 rfl
theorem wsm_X12_isCompared : Cond.static yX12_isCompared ∈ lw_tbl := x_tb7 199 rfl
theorem wc_X12_isCompared : Cond.code yX12_isCompared cX12_isCompared 1 (Option.some Jvm.ClassFile.FieldType.boolean) ∈ lw_tbl := x_tb7 200 rfl
theorem wm_X12_359 : Cond.methodLink RX12 359 yX12_ends ∈ lw_tbl := x_tb7 201 rfl
theorem wi_X12_ends : Cond.instanceMethod yX12_ends ∈ lw_tbl := x_tb7 203 rfl
theorem wc_X12_ends : Cond.code yX12_ends cX12_ends 1 (Option.none : Option Jvm.ClassFile.FieldType) ∈ lw_tbl := x_tb7 204 rfl
theorem wm_X12_371 : Cond.methodLink RX12 371 yX12_goesBehind ∈ lw_tbl := x_tb7 205 rfl
theorem wi_X12_goesBehind : Cond.instanceMethod yX12_goesBehind ∈ lw_tbl := x_tb7 207 rfl
theorem wc_X12_goesBehind : Cond.code yX12_goesBehind cX12_goesBehind 2 (Option.some Jvm.ClassFile.FieldType.boolean) ∈ lw_tbl := x_tb7 208 rfl
theorem wm_X12_362 : Cond.methodLink RX12 362 yX12_joins ∈ lw_tbl := x_tb7 209 rfl
theorem wi_X12_joins : Cond.instanceMethod yX12_joins ∈ lw_tbl := x_tb7 211 rfl
theorem wc_X12_joins : Cond.code yX12_joins cX12_joins 2 (Option.none : Option Jvm.ClassFile.FieldType) ∈ lw_tbl := x_tb7 212 rfl
theorem wm_L_58 : Cond.methodLink RL 58 yX12_copy ∈ lw_tbl := x_tb7 213 rfl
theorem wi_X12_copy : Cond.instanceMethod yX12_copy ∈ lw_tbl := x_tb7 214 rfl
theorem wv_X12_copy : Cond.selects RX12 yX12_copy yX12_copy ∈ lw_tbl := x_tb7 215 rfl
theorem wc_X12_copy : Cond.code yX12_copy cX12_copy 2 (Option.some Jvm.ClassFile.FieldType.int) ∈ lw_tbl := x_tb7 216 rfl
theorem wm_L_32 : Cond.methodLink RL 32 yX12_end ∈ lw_tbl := x_tb7 217 rfl
theorem wi_X12_end : Cond.instanceMethod yX12_end ∈ lw_tbl := x_tb7 218 rfl
theorem wv_X12_end : Cond.selects RX12 yX12_end yX12_end ∈ lw_tbl := x_tb7 219 rfl
theorem wc_X12_end : Cond.code yX12_end cX12_end 6 (Option.some Jvm.ClassFile.FieldType.boolean) ∈ lw_tbl := x_tb7 220 rfl
theorem wcl_X12_457 : Cond.constantLong RX12 457 (9 : Int64) ∈ lw_tbl := x_tb7 221 rfl
theorem wcl_X12_461 : Cond.constantLong RX12 461 (99 : Int64) ∈ lw_tbl := x_tb7 222 rfl
theorem wcl_X12_463 : Cond.constantLong RX12 463 (30 : Int64) ∈ lw_tbl := x_tb7 223 rfl
theorem wm_L_37 : Cond.methodLink RL 37 yX12_teller ∈ lw_tbl := x_tb7 224 rfl
theorem wi_X12_teller : Cond.instanceMethod yX12_teller ∈ lw_tbl := x_tb7 225 rfl
theorem wv_X12_teller : Cond.selects RX12 yX12_teller yX12_teller ∈ lw_tbl := x_tb7 226 rfl
theorem wc_X12_teller : Cond.code yX12_teller cX12_teller 4 (Option.some Jvm.ClassFile.FieldType.boolean) ∈ lw_tbl := x_tb7 227 rfl
theorem wcl_X12_459 : Cond.constantLong RX12 459 (3 : Int64) ∈ lw_tbl := x_tb7 228 rfl
theorem wcl_X12_465 : Cond.constantLong RX12 465 (9999 : Int64) ∈ lw_tbl := x_tb7 229 rfl
theorem wm_L_41 : Cond.methodLink RL 41 yX12_listener ∈ lw_tbl := x_tb7 230 rfl
theorem wi_X12_listener : Cond.instanceMethod yX12_listener ∈ lw_tbl := x_tb7 231 rfl
theorem wv_X12_listener : Cond.selects RX12 yX12_listener yX12_listener ∈ lw_tbl := x_tb7 232 rfl
theorem wc_X12_listener : Cond.code yX12_listener cX12_listener 4 (Option.some Jvm.ClassFile.FieldType.boolean) ∈ lw_tbl := x_tb7 233 rfl
theorem wm_X12_467 : Cond.methodLink RX12 467 yX12_isTelling ∈ lw_tbl := x_tb7 234 rfl
theorem wi_X12_isTelling : Cond.instanceMethod yX12_isTelling ∈ lw_tbl := x_tb7 236 rfl
theorem wc_X12_isTelling : Cond.code yX12_isTelling cX12_isTelling 2 (Option.some Jvm.ClassFile.FieldType.boolean) ∈ lw_tbl := x_tb7 237 rfl
theorem wm_L_87 : Cond.methodLink RL 87 yX12_cheapest ∈ lw_tbl := x_tb7 238 rfl
theorem wi_X12_cheapest : Cond.instanceMethod yX12_cheapest ∈ lw_tbl := x_tb7 239 rfl
theorem wv_X12_cheapest : Cond.selects RX12 yX12_cheapest yX12_cheapest ∈ lw_tbl := x_tb8 0 rfl
theorem wc_X12_cheapest : Cond.code yX12_cheapest cX12_cheapest 3 (Option.some Jvm.ClassFile.FieldType.int) ∈ lw_tbl := x_tb8 1 rfl
theorem wm_X12_480 : Cond.methodLink RX12 480 yX12_laysCheapest ∈ lw_tbl := x_tb8 2 rfl
theorem wi_X12_laysCheapest : Cond.instanceMethod yX12_laysCheapest ∈ lw_tbl := x_tb8 4 rfl
theorem wc_X12_laysCheapest : Cond.code yX12_laysCheapest cX12_laysCheapest 7 (Option.some Jvm.ClassFile.FieldType.boolean) ∈ lw_tbl := x_tb8 5 rfl
theorem wm_X12_470 : Cond.methodLink RX12 470 yX12_costOf ∈ lw_tbl := x_tb8 6 rfl
theorem wi_X12_costOf : Cond.instanceMethod yX12_costOf ∈ lw_tbl := x_tb8 8 rfl
theorem wc_X12_costOf : Cond.code yX12_costOf cX12_costOf 2 (Option.some Jvm.ClassFile.FieldType.int) ∈ lw_tbl := x_tb8 9 rfl
theorem wm_X12_454 : Cond.methodLink RX12 454 yX12_endStands ∈ lw_tbl := x_tb8 10 rfl
theorem wi_X12_endStands : Cond.instanceMethod yX12_endStands ∈ lw_tbl := x_tb8 12 rfl
theorem wc_X12_endStands : Cond.code yX12_endStands cX12_endStands 2 (Option.none : Option Jvm.ClassFile.FieldType) ∈ lw_tbl := x_tb8 13 rfl
theorem wm_X12_451 : Cond.methodLink RX12 451 yX12_tells ∈ lw_tbl := x_tb8 14 rfl
theorem wi_X12_tells : Cond.instanceMethod yX12_tells ∈ lw_tbl := x_tb8 16 rfl
theorem wc_X12_tells : Cond.code yX12_tells cX12_tells 5 (Option.some Jvm.ClassFile.FieldType.int) ∈ lw_tbl := x_tb8 17 rfl
theorem wm_X12_442 : Cond.methodLink RX12 442 yX12_isSo ∈ lw_tbl := x_tb8 18 rfl
theorem wi_X12_isSo : Cond.instanceMethod yX12_isSo ∈ lw_tbl := x_tb8 20 rfl
theorem wc_X12_isSo : Cond.code yX12_isSo cX12_isSo 2 (Option.some Jvm.ClassFile.FieldType.boolean) ∈ lw_tbl := x_tb8 21 rfl
theorem wm_X12_436 : Cond.methodLink RX12 436 yX12_works ∈ lw_tbl := x_tb8 22 rfl
theorem wi_X12_works : Cond.instanceMethod yX12_works ∈ lw_tbl := x_tb8 24 rfl
theorem wc_X12_works : Cond.code yX12_works cX12_works 5 (Option.none : Option Jvm.ClassFile.FieldType) ∈ lw_tbl := x_tb8 25 rfl
theorem wm_X12_430 : Cond.methodLink RX12 430 yX12_does ∈ lw_tbl := x_tb8 26 rfl
theorem wi_X12_does : Cond.instanceMethod yX12_does ∈ lw_tbl := x_tb8 28 rfl
theorem wc_X12_does : Cond.code yX12_does cX12_does 4 (Option.none : Option Jvm.ClassFile.FieldType) ∈ lw_tbl := x_tb8 29 rfl
theorem wm_X12_427 : Cond.methodLink RX12 427 yX12_worked ∈ lw_tbl := x_tb8 30 rfl
theorem wsm_X12_worked : Cond.static yX12_worked ∈ lw_tbl := x_tb8 31 rfl
theorem wc_X12_worked : Cond.code yX12_worked cX12_worked 3 (Option.some Jvm.ClassFile.FieldType.int) ∈ lw_tbl := x_tb8 32 rfl
theorem wm_X12_433 : Cond.methodLink RX12 433 yX12_valueOf ∈ lw_tbl := x_tb8 33 rfl
theorem wi_X12_valueOf : Cond.instanceMethod yX12_valueOf ∈ lw_tbl := x_tb8 35 rfl
theorem wc_X12_valueOf : Cond.code yX12_valueOf cX12_valueOf 2 (Option.some Jvm.ClassFile.FieldType.int) ∈ lw_tbl := x_tb8 36 rfl
theorem wm_X12_445 : Cond.methodLink RX12 445 yX12_held ∈ lw_tbl := x_tb8 37 rfl
theorem wsm_X12_held : Cond.static yX12_held ∈ lw_tbl := x_tb8 38 rfl
theorem wc_X12_held : Cond.code yX12_held cX12_held 2 (Option.some Jvm.ClassFile.FieldType.int) ∈ lw_tbl := x_tb8 39 rfl
theorem wco_X12_476 : Cond.constant RX12 476 (1000000000 : Int32) ∈ lw_tbl := x_tb8 40 rfl
theorem wm_L_91 : Cond.methodLink RL 91 yX12_buys ∈ lw_tbl := x_tb8 41 rfl
theorem wi_X12_buys : Cond.instanceMethod yX12_buys ∈ lw_tbl := x_tb8 42 rfl
theorem wv_X12_buys : Cond.selects RX12 yX12_buys yX12_buys ∈ lw_tbl := x_tb8 43 rfl
theorem wc_X12_buys : Cond.code yX12_buys cX12_buys 4 (Option.some Jvm.ClassFile.FieldType.int) ∈ lw_tbl := x_tb8 44 rfl
theorem wm_X12_499 : Cond.methodLink RX12 499 yX12_isThere ∈ lw_tbl := x_tb8 45 rfl
theorem wi_X12_isThere : Cond.instanceMethod yX12_isThere ∈ lw_tbl := x_tb8 47 rfl
theorem wc_X12_isThere : Cond.code yX12_isThere cX12_isThere 2 (Option.some Jvm.ClassFile.FieldType.boolean) ∈ lw_tbl := x_tb8 48 rfl
theorem wm_X12_502 : Cond.methodLink RX12 502 yX12_buying ∈ lw_tbl := x_tb8 49 rfl
theorem wi_X12_buying : Cond.instanceMethod yX12_buying ∈ lw_tbl := x_tb8 51 rfl
theorem wc_X12_buying : Cond.code yX12_buying cX12_buying 7 (Option.some Jvm.ClassFile.FieldType.int) ∈ lw_tbl := x_tb8 52 rfl
theorem wm_X12_484 : Cond.methodLink RX12 484 yX12_forgingOf ∈ lw_tbl := x_tb8 53 rfl
theorem wi_X12_forgingOf : Cond.instanceMethod yX12_forgingOf ∈ lw_tbl := x_tb8 55 rfl
theorem wc_X12_forgingOf : Cond.code yX12_forgingOf cX12_forgingOf 2 (Option.some Jvm.ClassFile.FieldType.int) ∈ lw_tbl := x_tb8 56 rfl
theorem wm_X12_493 : Cond.methodLink RX12 493 yX12_draw ∈ lw_tbl := x_tb8 57 rfl
theorem wi_X12_draw : Cond.instanceMethod yX12_draw ∈ lw_tbl := x_tb8 59 rfl
theorem wc_X12_draw : Cond.code yX12_draw cX12_draw 1 (Option.some Jvm.ClassFile.FieldType.int) ∈ lw_tbl := x_tb8 60 rfl
theorem wco_X12_483 : Cond.constant RX12 483 (65536 : Int32) ∈ lw_tbl := x_tb8 61 rfl
theorem wm_L_45 : Cond.methodLink RL 45 yX12_evenings ∈ lw_tbl := x_tb8 62 rfl
theorem wi_X12_evenings : Cond.instanceMethod yX12_evenings ∈ lw_tbl := x_tb8 63 rfl
theorem wv_X12_evenings : Cond.selects RX12 yX12_evenings yX12_evenings ∈ lw_tbl := x_tb8 64 rfl
theorem wc_X12_evenings : Cond.code yX12_evenings cX12_evenings 2 (Option.some Jvm.ClassFile.FieldType.int) ∈ lw_tbl := x_tb8 65 rfl
theorem wcl_X12_556 : Cond.constantLong RX12 556 (60 : Int64) ∈ lw_tbl := x_tb8 66 rfl
theorem wm_X12_558 : Cond.methodLink RX12 558 yX12_go ∈ lw_tbl := x_tb8 67 rfl
theorem wi_X12_go : Cond.instanceMethod yX12_go ∈ lw_tbl := x_tb8 69 rfl
theorem wc_X12_go : Cond.code yX12_go cX12_go 5 (Option.none : Option Jvm.ClassFile.FieldType) ∈ lw_tbl := x_tb8 70 rfl
theorem wm_X12_544 : Cond.methodLink RX12 544 yX12_goesOn ∈ lw_tbl := x_tb8 71 rfl
theorem wi_X12_goesOn : Cond.instanceMethod yX12_goesOn ∈ lw_tbl := x_tb8 73 rfl
theorem wc_X12_goesOn : Cond.code yX12_goesOn cX12_goesOn 3 (Option.none : Option Jvm.ClassFile.FieldType) ∈ lw_tbl := x_tb8 74 rfl
theorem wm_X12_505 : Cond.methodLink RX12 505 yX12_speedOf ∈ lw_tbl := x_tb8 75 rfl
theorem wi_X12_speedOf : Cond.instanceMethod yX12_speedOf ∈ lw_tbl := x_tb8 77 rfl
theorem wc_X12_speedOf : Cond.code yX12_speedOf cX12_speedOf 2 (Option.some Jvm.ClassFile.FieldType.int) ∈ lw_tbl := x_tb8 78 rfl
theorem wm_X12_448 : Cond.methodLink RX12 448 yX12_tellerStands ∈ lw_tbl := x_tb8 79 rfl
theorem wi_X12_tellerStands : Cond.instanceMethod yX12_tellerStands ∈ lw_tbl := x_tb8 81 rfl
theorem wc_X12_tellerStands : Cond.code yX12_tellerStands cX12_tellerStands 2 (Option.none : Option Jvm.ClassFile.FieldType) ∈ lw_tbl := x_tb8 82 rfl
theorem wm_X12_508 : Cond.methodLink RX12 508 yX12_isAtEnd ∈ lw_tbl := x_tb8 83 rfl
theorem wi_X12_isAtEnd : Cond.instanceMethod yX12_isAtEnd ∈ lw_tbl := x_tb8 85 rfl
theorem wc_X12_isAtEnd : Cond.code yX12_isAtEnd cX12_isAtEnd 2 (Option.some Jvm.ClassFile.FieldType.boolean) ∈ lw_tbl := x_tb8 86 rfl
theorem wm_X12_547 : Cond.methodLink RX12 547 yX12_buysAll ∈ lw_tbl := x_tb8 87 rfl
theorem wi_X12_buysAll : Cond.instanceMethod yX12_buysAll ∈ lw_tbl := x_tb8 89 rfl
theorem wc_X12_buysAll : Cond.code yX12_buysAll cX12_buysAll 5 (Option.none : Option Jvm.ClassFile.FieldType) ∈ lw_tbl := x_tb8 90 rfl
theorem wm_X12_532 : Cond.methodLink RX12 532 yX12_isBound ∈ lw_tbl := x_tb8 91 rfl
theorem wi_X12_isBound : Cond.instanceMethod yX12_isBound ∈ lw_tbl := x_tb8 93 rfl
theorem wc_X12_isBound : Cond.code yX12_isBound cX12_isBound 3 (Option.some Jvm.ClassFile.FieldType.boolean) ∈ lw_tbl := x_tb8 94 rfl
theorem wm_X12_550 : Cond.methodLink RX12 550 yX12_listens ∈ lw_tbl := x_tb8 95 rfl
theorem wi_X12_listens : Cond.instanceMethod yX12_listens ∈ lw_tbl := x_tb8 97 rfl
theorem wc_X12_listens : Cond.code yX12_listens cX12_listens 4 (Option.none : Option Jvm.ClassFile.FieldType) ∈ lw_tbl := x_tb8 98 rfl
theorem wm_X12_511 : Cond.methodLink RX12 511 yX12_listenerStands ∈ lw_tbl := x_tb8 99 rfl
theorem wi_X12_listenerStands : Cond.instanceMethod yX12_listenerStands ∈ lw_tbl := x_tb8 101 rfl
theorem wc_X12_listenerStands : Cond.code yX12_listenerStands cX12_listenerStands 2 (Option.none : Option Jvm.ClassFile.FieldType) ∈ lw_tbl := x_tb8 102 rfl
theorem wm_X12_526 : Cond.methodLink RX12 526 yX12_goesAway ∈ lw_tbl := x_tb8 103 rfl
theorem wi_X12_goesAway : Cond.instanceMethod yX12_goesAway ∈ lw_tbl := x_tb8 105 rfl
theorem wc_X12_goesAway : Cond.code yX12_goesAway cX12_goesAway 3 (Option.some Jvm.ClassFile.FieldType.boolean) ∈ lw_tbl := x_tb8 106 rfl
theorem wm_X12_553 : Cond.methodLink RX12 553 yX12_closesStory ∈ lw_tbl := x_tb8 107 rfl
theorem wi_X12_closesStory : Cond.instanceMethod yX12_closesStory ∈ lw_tbl := x_tb8 109 rfl
theorem wc_X12_closesStory : Cond.code yX12_closesStory cX12_closesStory 4 (Option.none : Option Jvm.ClassFile.FieldType) ∈ lw_tbl := x_tb8 110 rfl
theorem wm_L_49 : Cond.methodLink RL 49 yX12_tried ∈ lw_tbl := x_tb8 111 rfl
theorem wi_X12_tried : Cond.instanceMethod yX12_tried ∈ lw_tbl := x_tb8 112 rfl
theorem wv_X12_tried : Cond.selects RX12 yX12_tried yX12_tried ∈ lw_tbl := x_tb8 113 rfl
theorem wc_X12_tried : Cond.code yX12_tried cX12_tried 3 (Option.some Jvm.ClassFile.FieldType.int) ∈ lw_tbl := x_tb8 114 rfl
theorem wm_X12_572 : Cond.methodLink RX12 572 yX12_triedBy ∈ lw_tbl := x_tb8 115 rfl
theorem wi_X12_triedBy : Cond.instanceMethod yX12_triedBy ∈ lw_tbl := x_tb8 117 rfl
theorem wc_X12_triedBy : Cond.code yX12_triedBy cX12_triedBy 5 (Option.some Jvm.ClassFile.FieldType.int) ∈ lw_tbl := x_tb8 118 rfl
theorem wcl_X12_561 : Cond.constantLong RX12 561 (6 : Int64) ∈ lw_tbl := x_tb8 119 rfl
theorem wm_X12_563 : Cond.methodLink RX12 563 yX12_isListening ∈ lw_tbl := x_tb8 120 rfl
theorem wi_X12_isListening : Cond.instanceMethod yX12_isListening ∈ lw_tbl := x_tb8 122 rfl
theorem wc_X12_isListening : Cond.code yX12_isListening cX12_isListening 2 (Option.some Jvm.ClassFile.FieldType.boolean) ∈ lw_tbl := x_tb8 123 rfl
theorem wm_X12_566 : Cond.methodLink RX12 566 yX12_laysAside ∈ lw_tbl := x_tb8 124 rfl
theorem wi_X12_laysAside : Cond.instanceMethod yX12_laysAside ∈ lw_tbl := x_tb8 126 rfl
theorem wc_X12_laysAside : Cond.code yX12_laysAside cX12_laysAside 4 (Option.none : Option Jvm.ClassFile.FieldType) ∈ lw_tbl := x_tb8 127 rfl
theorem wm_X12_569 : Cond.methodLink RX12 569 yX12_bringsBack ∈ lw_tbl := x_tb8 128 rfl
theorem wi_X12_bringsBack : Cond.instanceMethod yX12_bringsBack ∈ lw_tbl := x_tb8 130 rfl
theorem wc_X12_bringsBack : Cond.code yX12_bringsBack cX12_bringsBack 4 (Option.none : Option Jvm.ClassFile.FieldType) ∈ lw_tbl := x_tb8 131 rfl
theorem wm_L_53 : Cond.methodLink RL 53 yX12_other ∈ lw_tbl := x_tb8 132 rfl
theorem wi_X12_other : Cond.instanceMethod yX12_other ∈ lw_tbl := x_tb8 133 rfl
theorem wv_X12_other : Cond.selects RX12 yX12_other yX12_other ∈ lw_tbl := x_tb8 134 rfl
theorem wc_X12_other : Cond.code yX12_other cX12_other 3 (Option.some Jvm.ClassFile.FieldType.int) ∈ lw_tbl := x_tb8 135 rfl
theorem wm_L_62 : Cond.methodLink RL 62 yX12_first ∈ lw_tbl := x_tb8 136 rfl
theorem wi_X12_first : Cond.instanceMethod yX12_first ∈ lw_tbl := x_tb8 137 rfl
theorem wv_X12_first : Cond.selects RX12 yX12_first yX12_first ∈ lw_tbl := x_tb8 138 rfl
theorem wc_X12_first : Cond.code yX12_first cX12_first 3 (Option.some Jvm.ClassFile.FieldType.int) ∈ lw_tbl := x_tb8 139 rfl
theorem wm_L_75 : Cond.methodLink RL 75 yX12_endIs ∈ lw_tbl := x_tb8 140 rfl
theorem wi_X12_endIs : Cond.instanceMethod yX12_endIs ∈ lw_tbl := x_tb8 141 rfl
theorem wv_X12_endIs : Cond.selects RX12 yX12_endIs yX12_endIs ∈ lw_tbl := x_tb8 142 rfl
theorem wc_X12_endIs : Cond.code yX12_endIs cX12_endIs 3 (Option.some Jvm.ClassFile.FieldType.int) ∈ lw_tbl := x_tb8 143 rfl
theorem wm_L_79 : Cond.methodLink RL 79 yX12_tellerIs ∈ lw_tbl := x_tb8 144 rfl
theorem wi_X12_tellerIs : Cond.instanceMethod yX12_tellerIs ∈ lw_tbl := x_tb8 145 rfl
theorem wv_X12_tellerIs : Cond.selects RX12 yX12_tellerIs yX12_tellerIs ∈ lw_tbl := x_tb8 146 rfl
theorem wc_X12_tellerIs : Cond.code yX12_tellerIs cX12_tellerIs 3 (Option.some Jvm.ClassFile.FieldType.int) ∈ lw_tbl := x_tb8 147 rfl
theorem wm_X12_575 : Cond.methodLink RX12 575 yX12_boundSet ∈ lw_tbl := x_tb8 148 rfl
theorem wi_X12_boundSet : Cond.instanceMethod yX12_boundSet ∈ lw_tbl := x_tb8 150 rfl
theorem wc_X12_boundSet : Cond.code yX12_boundSet cX12_boundSet 4 (Option.some Jvm.ClassFile.FieldType.int) ∈ lw_tbl := x_tb8 151 rfl
theorem wm_L_83 : Cond.methodLink RL 83 yX12_listenerIs ∈ lw_tbl := x_tb8 152 rfl
theorem wi_X12_listenerIs : Cond.instanceMethod yX12_listenerIs ∈ lw_tbl := x_tb8 153 rfl
theorem wv_X12_listenerIs : Cond.selects RX12 yX12_listenerIs yX12_listenerIs ∈ lw_tbl := x_tb8 154 rfl
theorem wc_X12_listenerIs : Cond.code yX12_listenerIs cX12_listenerIs 3 (Option.some Jvm.ClassFile.FieldType.int) ∈ lw_tbl := x_tb8 155 rfl
theorem wcl_X12_578 : Cond.constantLong RX12 578 (2 : Int64) ∈ lw_tbl := x_tb8 156 rfl
theorem wm_L_95 : Cond.methodLink RL 95 yX12_fitting ∈ lw_tbl := x_tb8 157 rfl
theorem wi_X12_fitting : Cond.instanceMethod yX12_fitting ∈ lw_tbl := x_tb8 158 rfl
theorem wv_X12_fitting : Cond.selects RX12 yX12_fitting yX12_fitting ∈ lw_tbl := x_tb8 159 rfl
theorem wc_X12_fitting : Cond.code yX12_fitting cX12_fitting 7 (Option.some Jvm.ClassFile.FieldType.int) ∈ lw_tbl := x_tb8 160 rfl
theorem wm_X12_580 : Cond.methodLink RX12 580 yX12_laysLeftOut ∈ lw_tbl := x_tb8 161 rfl
theorem wi_X12_laysLeftOut : Cond.instanceMethod yX12_laysLeftOut ∈ lw_tbl := x_tb8 163 rfl
theorem wc_X12_laysLeftOut : Cond.code yX12_laysLeftOut cX12_laysLeftOut 8 (Option.none : Option Jvm.ClassFile.FieldType) ∈ lw_tbl := x_tb8 164 rfl
theorem wm_L_99 : Cond.methodLink RL 99 yX12_wouldDo ∈ lw_tbl := x_tb8 165 rfl
theorem wi_X12_wouldDo : Cond.instanceMethod yX12_wouldDo ∈ lw_tbl := x_tb8 166 rfl
theorem wv_X12_wouldDo : Cond.selects RX12 yX12_wouldDo yX12_wouldDo ∈ lw_tbl := x_tb8 167 rfl
theorem wc_X12_wouldDo : Cond.code yX12_wouldDo cX12_wouldDo 9 (Option.some Jvm.ClassFile.FieldType.int) ∈ lw_tbl := x_tb8 168 rfl
theorem wm_L_103 : Cond.methodLink RL 103 yX12_series ∈ lw_tbl := x_tb8 169 rfl
theorem wi_X12_series : Cond.instanceMethod yX12_series ∈ lw_tbl := x_tb8 170 rfl
theorem wv_X12_series : Cond.selects RX12 yX12_series yX12_series ∈ lw_tbl := x_tb8 171 rfl
theorem wc_X12_series : Cond.code yX12_series cX12_series 7 (Option.some Jvm.ClassFile.FieldType.int) ∈ lw_tbl := x_tb8 172 rfl
theorem wm_X12_585 : Cond.methodLink RX12 585 yX12_areStories ∈ lw_tbl := x_tb8 173 rfl
theorem wi_X12_areStories : Cond.instanceMethod yX12_areStories ∈ lw_tbl := x_tb8 175 rfl
theorem wc_X12_areStories : Cond.code yX12_areStories cX12_areStories 5 (Option.some Jvm.ClassFile.FieldType.boolean) ∈ lw_tbl := x_tb8 176 rfl
theorem wcl_X12_583 : Cond.constantLong RX12 583 (63 : Int64) ∈ lw_tbl := x_tb8 177 rfl
theorem wm_X12_589 : Cond.methodLink RX12 589 yX12_takesSome ∈ lw_tbl := x_tb8 178 rfl
theorem wi_X12_takesSome : Cond.instanceMethod yX12_takesSome ∈ lw_tbl := x_tb8 180 rfl
theorem wc_X12_takesSome : Cond.code yX12_takesSome cX12_takesSome 4 (Option.some Jvm.ClassFile.FieldType.int) ∈ lw_tbl := x_tb8 181 rfl
theorem wm_X12_592 : Cond.methodLink RX12 592 yX12_powerOf ∈ lw_tbl := x_tb8 182 rfl
theorem wsm_X12_powerOf : Cond.static yX12_powerOf ∈ lw_tbl := x_tb8 183 rfl
theorem wc_X12_powerOf : Cond.code yX12_powerOf cX12_powerOf 4 (Option.some Jvm.ClassFile.FieldType.int) ∈ lw_tbl := x_tb8 184 rfl
theorem wm_X12_595 : Cond.methodLink RX12 595 yX12_opensRow ∈ lw_tbl := x_tb8 185 rfl
theorem wi_X12_opensRow : Cond.instanceMethod yX12_opensRow ∈ lw_tbl := x_tb8 187 rfl
theorem wc_X12_opensRow : Cond.code yX12_opensRow cX12_opensRow 6 (Option.none : Option Jvm.ClassFile.FieldType) ∈ lw_tbl := x_tb8 188 rfl
theorem wm_X12_598 : Cond.methodLink RX12 598 yX12_isOrder ∈ lw_tbl := x_tb8 189 rfl
theorem wi_X12_isOrder : Cond.instanceMethod yX12_isOrder ∈ lw_tbl := x_tb8 191 rfl
theorem wc_X12_isOrder : Cond.code yX12_isOrder cX12_isOrder 4 (Option.some Jvm.ClassFile.FieldType.boolean) ∈ lw_tbl := x_tb8 192 rfl
theorem wm_X12_601 : Cond.methodLink RX12 601 yX12_opennessOf ∈ lw_tbl := x_tb8 193 rfl
theorem wi_X12_opennessOf : Cond.instanceMethod yX12_opennessOf ∈ lw_tbl := x_tb8 195 rfl
theorem wc_X12_opennessOf : Cond.code yX12_opennessOf cX12_opennessOf 7 (Option.some Jvm.ClassFile.FieldType.int) ∈ lw_tbl := x_tb8 196 rfl
theorem wm_L_128 : Cond.methodLink RL 128 yX12_book ∈ lw_tbl := x_tb8 197 rfl
theorem wi_X12_book : Cond.instanceMethod yX12_book ∈ lw_tbl := x_tb8 198 rfl
theorem wv_X12_book : Cond.selects RX12 yX12_book yX12_book ∈ lw_tbl := x_tb8 199 rfl
theorem wc_X12_book : Cond.code yX12_book cX12_book 12 (Option.some Jvm.ClassFile.FieldType.int) ∈ lw_tbl := x_tb8 200 rfl
theorem wm_X12_604 : Cond.methodLink RX12 604 yX12_pagesOf ∈ lw_tbl := x_tb8 201 rfl
theorem wi_X12_pagesOf : Cond.instanceMethod yX12_pagesOf ∈ lw_tbl := x_tb8 203 rfl
theorem wc_X12_pagesOf : Cond.code yX12_pagesOf cX12_pagesOf 5 (Option.some Jvm.ClassFile.FieldType.int) ∈ lw_tbl := x_tb8 204 rfl
theorem wm_X12_607 : Cond.methodLink RX12 607 yX12_higher ∈ lw_tbl := x_tb8 205 rfl
theorem wsm_X12_higher : Cond.static yX12_higher ∈ lw_tbl := x_tb8 206 rfl
theorem wc_X12_higher : Cond.code yX12_higher cX12_higher 2 (Option.some Jvm.ClassFile.FieldType.int) ∈ lw_tbl := x_tb8 207 rfl
theorem wm_L_111 : Cond.methodLink RL 111 yX12_winter ∈ lw_tbl := x_tb8 208 rfl
theorem wi_X12_winter : Cond.instanceMethod yX12_winter ∈ lw_tbl := x_tb8 209 rfl
theorem wv_X12_winter : Cond.selects RX12 yX12_winter yX12_winter ∈ lw_tbl := x_tb8 210 rfl
theorem wc_X12_winter : Cond.code yX12_winter cX12_winter 14 (Option.some Jvm.ClassFile.FieldType.int) ∈ lw_tbl := x_tb8 211 rfl
theorem wcl_X12_610 : Cond.constantLong RX12 610 (300 : Int64) ∈ lw_tbl := x_tb8 212 rfl
theorem wm_X12_612 : Cond.methodLink RX12 612 yX12_byteAt ∈ lw_tbl := x_tb8 213 rfl
theorem wi_X12_byteAt : Cond.instanceMethod yX12_byteAt ∈ lw_tbl := x_tb8 215 rfl
theorem wc_X12_byteAt : Cond.code yX12_byteAt cX12_byteAt 2 (Option.some Jvm.ClassFile.FieldType.int) ∈ lw_tbl := x_tb8 216 rfl
theorem wm_L_115 : Cond.methodLink RL 115 yX12_lent ∈ lw_tbl := x_tb8 217 rfl
theorem wi_X12_lent : Cond.instanceMethod yX12_lent ∈ lw_tbl := x_tb8 218 rfl
theorem wv_X12_lent : Cond.selects RX12 yX12_lent yX12_lent ∈ lw_tbl := x_tb8 219 rfl
theorem wc_X12_lent : Cond.code yX12_lent cX12_lent 5 (Option.some Jvm.ClassFile.FieldType.int) ∈ lw_tbl := x_tb8 220 rfl
theorem wcl_X12_618 : Cond.constantLong RX12 618 (8 : Int64) ∈ lw_tbl := x_tb8 221 rfl
theorem wm_X12_615 : Cond.methodLink RX12 615 yX12_canHave ∈ lw_tbl := x_tb8 222 rfl
theorem wi_X12_canHave : Cond.instanceMethod yX12_canHave ∈ lw_tbl := x_tb8 224 rfl
theorem wc_X12_canHave : Cond.code yX12_canHave cX12_canHave 8 (Option.some Jvm.ClassFile.FieldType.int) ∈ lw_tbl := x_tb8 225 rfl
theorem wm_X12_620 : Cond.methodLink RX12 620 yX12_nightFor ∈ lw_tbl := x_tb8 226 rfl
theorem wi_X12_nightFor : Cond.instanceMethod yX12_nightFor ∈ lw_tbl := x_tb8 228 rfl
theorem wc_X12_nightFor : Cond.code yX12_nightFor cX12_nightFor 5 (Option.some Jvm.ClassFile.FieldType.int) ∈ lw_tbl := x_tb8 229 rfl
theorem wm_L_120 : Cond.methodLink RL 120 yX12_forged ∈ lw_tbl := x_tb8 230 rfl
theorem wi_X12_forged : Cond.instanceMethod yX12_forged ∈ lw_tbl := x_tb8 231 rfl
theorem wv_X12_forged : Cond.selects RX12 yX12_forged yX12_forged ∈ lw_tbl := x_tb8 232 rfl
theorem wc_X12_forged : Cond.code yX12_forged cX12_forged 6 (Option.some Jvm.ClassFile.FieldType.int) ∈ lw_tbl := x_tb8 233 rfl
theorem wcl_X12_623 : Cond.constantLong RX12 623 (-1 : Int64) ∈ lw_tbl := x_tb8 234 rfl
theorem wm_X12_625 : Cond.methodLink RX12 625 yX12_leftBy ∈ lw_tbl := x_tb8 235 rfl
theorem wi_X12_leftBy : Cond.instanceMethod yX12_leftBy ∈ lw_tbl := x_tb8 237 rfl
theorem wc_X12_leftBy : Cond.code yX12_leftBy cX12_leftBy 7 (Option.some Jvm.ClassFile.FieldType.int) ∈ lw_tbl := x_tb8 238 rfl
theorem wm_X12_628 : Cond.methodLink RX12 628 yX12_nextThread ∈ lw_tbl := x_tb8 239 rfl
theorem wi_X12_nextThread : Cond.instanceMethod yX12_nextThread ∈ lw_tbl := x_tb9 1 rfl
theorem wc_X12_nextThread : Cond.code yX12_nextThread cX12_nextThread 8 (Option.some Jvm.ClassFile.FieldType.int) ∈ lw_tbl := x_tb9 2 rfl
theorem wm_L_124 : Cond.methodLink RL 124 yX12_yawns ∈ lw_tbl := x_tb9 3 rfl
theorem wi_X12_yawns : Cond.instanceMethod yX12_yawns ∈ lw_tbl := x_tb9 4 rfl
theorem wv_X12_yawns : Cond.selects RX12 yX12_yawns yX12_yawns ∈ lw_tbl := x_tb9 5 rfl
theorem wc_X12_yawns : Cond.code yX12_yawns cX12_yawns 8 (Option.some Jvm.ClassFile.FieldType.int) ∈ lw_tbl := x_tb9 6 rfl
theorem wcl_X12_631 : Cond.constantLong RX12 631 (20 : Int64) ∈ lw_tbl := x_tb9 7 rfl
theorem wm_X12_633 : Cond.methodLink RX12 633 yX12_isYawned ∈ lw_tbl := x_tb9 8 rfl
theorem wi_X12_isYawned : Cond.instanceMethod yX12_isYawned ∈ lw_tbl := x_tb9 10 rfl
theorem wc_X12_isYawned : Cond.code yX12_isYawned cX12_isYawned 8 (Option.some Jvm.ClassFile.FieldType.boolean) ∈ lw_tbl := x_tb9 11 rfl
theorem wm_L_133 : Cond.methodLink RL 133 yX12_seed ∈ lw_tbl := x_tb9 12 rfl
theorem wi_X12_seed : Cond.instanceMethod yX12_seed ∈ lw_tbl := x_tb9 13 rfl
theorem wv_X12_seed : Cond.selects RX12 yX12_seed yX12_seed ∈ lw_tbl := x_tb9 14 rfl
theorem wc_X12_seed : Cond.code yX12_seed cX12_seed 2 (Option.some Jvm.ClassFile.FieldType.boolean) ∈ lw_tbl := x_tb9 15 rfl
theorem wcl_X12_637 : Cond.constantLong RX12 637 (65535 : Int64) ∈ lw_tbl := x_tb9 16 rfl
theorem wm_L_137 : Cond.methodLink RL 137 yX12_keep ∈ lw_tbl := x_tb9 17 rfl
theorem wi_X12_keep : Cond.instanceMethod yX12_keep ∈ lw_tbl := x_tb9 18 rfl
theorem wv_X12_keep : Cond.selects RX12 yX12_keep yX12_keep ∈ lw_tbl := x_tb9 19 rfl
theorem wc_X12_keep : Cond.code yX12_keep cX12_keep 1 (Option.some Jvm.ClassFile.FieldType.int) ∈ lw_tbl := x_tb9 20 rfl
theorem wm_L_142 : Cond.methodLink RL 142 yX12_undo ∈ lw_tbl := x_tb9 21 rfl
theorem wi_X12_undo : Cond.instanceMethod yX12_undo ∈ lw_tbl := x_tb9 22 rfl
theorem wv_X12_undo : Cond.selects RX12 yX12_undo yX12_undo ∈ lw_tbl := x_tb9 23 rfl
theorem wc_X12_undo : Cond.code yX12_undo cX12_undo 1 (Option.some Jvm.ClassFile.FieldType.boolean) ∈ lw_tbl := x_tb9 24 rfl
theorem wm_L_146 : Cond.methodLink RL 146 yX12_check ∈ lw_tbl := x_tb9 25 rfl
theorem wi_X12_check : Cond.instanceMethod yX12_check ∈ lw_tbl := x_tb9 26 rfl
theorem wv_X12_check : Cond.selects RX12 yX12_check yX12_check ∈ lw_tbl := x_tb9 27 rfl
theorem wc_X12_check : Cond.code yX12_check cX12_check 3 (Option.some Jvm.ClassFile.FieldType.int) ∈ lw_tbl := x_tb9 28 rfl
theorem wcl_X12_642 : Cond.constantLong RX12 642 (10 : Int64) ∈ lw_tbl := x_tb9 29 rfl
theorem wm_L_150 : Cond.methodLink RL 150 yX12_count ∈ lw_tbl := x_tb9 30 rfl
theorem wi_X12_count : Cond.instanceMethod yX12_count ∈ lw_tbl := x_tb9 31 rfl
theorem wv_X12_count : Cond.selects RX12 yX12_count yX12_count ∈ lw_tbl := x_tb9 32 rfl
theorem wc_X12_count : Cond.code yX12_count cX12_count 2 (Option.some Jvm.ClassFile.FieldType.int) ∈ lw_tbl := x_tb9 33 rfl
theorem wm_X12_647 : Cond.methodLink RX12 647 yX12_toldOf ∈ lw_tbl := x_tb9 34 rfl
theorem wi_X12_toldOf : Cond.instanceMethod yX12_toldOf ∈ lw_tbl := x_tb9 36 rfl
theorem wc_X12_toldOf : Cond.code yX12_toldOf cX12_toldOf 4 (Option.some Jvm.ClassFile.FieldType.int) ∈ lw_tbl := x_tb9 37 rfl
theorem wm_X12_644 : Cond.methodLink RX12 644 yX12_isToldOf ∈ lw_tbl := x_tb9 38 rfl
theorem wi_X12_isToldOf : Cond.instanceMethod yX12_isToldOf ∈ lw_tbl := x_tb9 40 rfl
theorem wc_X12_isToldOf : Cond.code yX12_isToldOf cX12_isToldOf 3 (Option.some Jvm.ClassFile.FieldType.boolean) ∈ lw_tbl := x_tb9 41 rfl
theorem wf_J0_15 : Cond.fieldLink RJ0 15 "java/lang/String" "coder" "B" ∈ lw_tbl := x_tb9 42 rfl
theorem wf_J0_9 : Cond.fieldLink RJ0 9 "java/lang/String" "value" "[B" ∈ lw_tbl := x_tb9 43 rfl
theorem wv_X11_putOnTape : Cond.selects RX11 yX11_putOnTape yX11_putOnTape ∈ lw_tbl := List.mem_append_left _ (List.mem_of_getElem? (i := 0) (by decide +kernel))
theorem wv_X11_storyAt : Cond.selects RX11 yX11_storyAt yX11_storyAt ∈ lw_tbl := List.mem_append_left _ (List.mem_of_getElem? (i := 1) (by decide +kernel))
theorem wv_X11_tapeGives : Cond.selects RX11 yX11_tapeGives yX11_tapeGives ∈ lw_tbl := List.mem_append_left _ (List.mem_of_getElem? (i := 2) (by decide +kernel))
theorem wv_X10_read : Cond.selects RX10 yX10_read yX10_read ∈ lw_tbl := List.mem_append_left _ (List.mem_of_getElem? (i := 3) (by decide +kernel))
theorem wv_X10_readTurns : Cond.selects RX10 yX10_readTurns yX10_readTurns ∈ lw_tbl := List.mem_append_left _ (List.mem_of_getElem? (i := 4) (by decide +kernel))
theorem wv_X10_readTurn : Cond.selects RX10 yX10_readTurn yX10_readTurn ∈ lw_tbl := List.mem_append_left _ (List.mem_of_getElem? (i := 5) (by decide +kernel))
theorem wv_X10_sign : Cond.selects RX10 yX10_sign yX10_sign ∈ lw_tbl := List.mem_append_left _ (List.mem_of_getElem? (i := 6) (by decide +kernel))
theorem wv_X10_readGroup : Cond.selects RX10 yX10_readGroup yX10_readGroup ∈ lw_tbl := List.mem_append_left _ (List.mem_of_getElem? (i := 7) (by decide +kernel))
theorem wv_X10_refuse : Cond.selects RX10 yX10_refuse yX10_refuse ∈ lw_tbl := List.mem_append_left _ (List.mem_of_getElem? (i := 8) (by decide +kernel))
theorem wv_X10_readLetter : Cond.selects RX10 yX10_readLetter yX10_readLetter ∈ lw_tbl := List.mem_append_left _ (List.mem_of_getElem? (i := 9) (by decide +kernel))
theorem wv_X10_repeat : Cond.selects RX10 yX10_repeat yX10_repeat ∈ lw_tbl := List.mem_append_left _ (List.mem_of_getElem? (i := 10) (by decide +kernel))
theorem wv_X9_take : Cond.selects RX9 yX9_take yX9_take ∈ lw_tbl := List.mem_append_left _ (List.mem_of_getElem? (i := 11) (by decide +kernel))
theorem wv_X4_beginAnew : Cond.selects RX4 yX4_beginAnew yX4_beginAnew ∈ lw_tbl := List.mem_append_left _ (List.mem_of_getElem? (i := 12) (by decide +kernel))
theorem wv_X6_read : Cond.selects RX6 yX6_read yX6_read ∈ lw_tbl := List.mem_append_left _ (List.mem_of_getElem? (i := 13) (by decide +kernel))
theorem wv_X5_clear : Cond.selects RX5 yX5_clear yX5_clear ∈ lw_tbl := List.mem_append_left _ (List.mem_of_getElem? (i := 14) (by decide +kernel))
theorem wv_X6_readClause : Cond.selects RX6 yX6_readClause yX6_readClause ∈ lw_tbl := List.mem_append_left _ (List.mem_of_getElem? (i := 15) (by decide +kernel))
theorem wv_X6_placeIn : Cond.selects RX6 yX6_placeIn yX6_placeIn ∈ lw_tbl := List.mem_append_left _ (List.mem_of_getElem? (i := 16) (by decide +kernel))
theorem wv_X6_sign : Cond.selects RX6 yX6_sign yX6_sign ∈ lw_tbl := List.mem_append_left _ (List.mem_of_getElem? (i := 17) (by decide +kernel))
theorem wv_X6_refuse : Cond.selects RX6 yX6_refuse yX6_refuse ∈ lw_tbl := List.mem_append_left _ (List.mem_of_getElem? (i := 18) (by decide +kernel))
theorem wv_X6_readSum : Cond.selects RX6 yX6_readSum yX6_readSum ∈ lw_tbl := List.mem_append_left _ (List.mem_of_getElem? (i := 19) (by decide +kernel))
theorem wv_X6_readProduct : Cond.selects RX6 yX6_readProduct yX6_readProduct ∈ lw_tbl := List.mem_append_left _ (List.mem_of_getElem? (i := 20) (by decide +kernel))
theorem wv_X6_readFactor : Cond.selects RX6 yX6_readFactor yX6_readFactor ∈ lw_tbl := List.mem_append_left _ (List.mem_of_getElem? (i := 21) (by decide +kernel))
theorem wv_X6_openAt : Cond.selects RX6 yX6_openAt yX6_openAt ∈ lw_tbl := List.mem_append_left _ (List.mem_of_getElem? (i := 22) (by decide +kernel))
theorem wv_X6_take : Cond.selects RX6 yX6_take yX6_take ∈ lw_tbl := List.mem_append_left _ (List.mem_of_getElem? (i := 23) (by decide +kernel))
theorem wv_X5_addStep : Cond.selects RX5 yX5_addStep yX5_addStep ∈ lw_tbl := List.mem_append_left _ (List.mem_of_getElem? (i := 24) (by decide +kernel))
theorem wv_X6_readNumber : Cond.selects RX6 yX6_readNumber yX6_readNumber ∈ lw_tbl := List.mem_append_left _ (List.mem_of_getElem? (i := 25) (by decide +kernel))
theorem wv_X6_isDigit : Cond.selects RX6 yX6_isDigit yX6_isDigit ∈ lw_tbl := List.mem_append_left _ (List.mem_of_getElem? (i := 26) (by decide +kernel))
theorem wv_X6_readCondition : Cond.selects RX6 yX6_readCondition yX6_readCondition ∈ lw_tbl := List.mem_append_left _ (List.mem_of_getElem? (i := 27) (by decide +kernel))
theorem wv_X6_readPart : Cond.selects RX6 yX6_readPart yX6_readPart ∈ lw_tbl := List.mem_append_left _ (List.mem_of_getElem? (i := 28) (by decide +kernel))
theorem wv_X6_readTest : Cond.selects RX6 yX6_readTest yX6_readTest ∈ lw_tbl := List.mem_append_left _ (List.mem_of_getElem? (i := 29) (by decide +kernel))
theorem wv_X5_leapHere : Cond.selects RX5 yX5_leapHere yX5_leapHere ∈ lw_tbl := List.mem_append_left _ (List.mem_of_getElem? (i := 30) (by decide +kernel))
theorem wv_X5_addClause : Cond.selects RX5 yX5_addClause yX5_addClause ∈ lw_tbl := List.mem_append_left _ (List.mem_of_getElem? (i := 31) (by decide +kernel))
theorem wv_X5_takeFrom : Cond.selects RX5 yX5_takeFrom yX5_takeFrom ∈ lw_tbl := List.mem_append_left _ (List.mem_of_getElem? (i := 32) (by decide +kernel))
theorem wv_X2_take : Cond.selects RX2 yX2_take yX2_take ∈ lw_tbl := List.mem_append_left _ (List.mem_of_getElem? (i := 33) (by decide +kernel))
theorem wv_X11_toldStory : Cond.selects RX11 yX11_toldStory yX11_toldStory ∈ lw_tbl := List.mem_append_left _ (List.mem_of_getElem? (i := 34) (by decide +kernel))
theorem wv_X4_takeTeller : Cond.selects RX4 yX4_takeTeller yX4_takeTeller ∈ lw_tbl := List.mem_append_left _ (List.mem_of_getElem? (i := 35) (by decide +kernel))
theorem wv_X4_takeListener : Cond.selects RX4 yX4_takeListener yX4_takeListener ∈ lw_tbl := List.mem_append_left _ (List.mem_of_getElem? (i := 36) (by decide +kernel))
theorem wv_X1_run : Cond.selects RX1 yX1_run yX1_run ∈ lw_tbl := List.mem_append_left _ (List.mem_of_getElem? (i := 37) (by decide +kernel))
theorem wv_X1_beginIn : Cond.selects RX1 yX1_beginIn yX1_beginIn ∈ lw_tbl := List.mem_append_left _ (List.mem_of_getElem? (i := 38) (by decide +kernel))
theorem wv_X1_visit : Cond.selects RX1 yX1_visit yX1_visit ∈ lw_tbl := List.mem_append_left _ (List.mem_of_getElem? (i := 39) (by decide +kernel))
theorem wv_X1_storyOf : Cond.selects RX1 yX1_storyOf yX1_storyOf ∈ lw_tbl := List.mem_append_left _ (List.mem_of_getElem? (i := 40) (by decide +kernel))
theorem wv_X1_tellOn : Cond.selects RX1 yX1_tellOn yX1_tellOn ∈ lw_tbl := List.mem_append_left _ (List.mem_of_getElem? (i := 41) (by decide +kernel))
theorem wv_X0_ofTeller : Cond.selects RX0 yX0_ofTeller yX0_ofTeller ∈ lw_tbl := List.mem_append_left _ (List.mem_of_getElem? (i := 42) (by decide +kernel))
theorem wv_X0_begin : Cond.selects RX0 yX0_begin yX0_begin ∈ lw_tbl := List.mem_append_left _ (List.mem_of_getElem? (i := 43) (by decide +kernel))
theorem wv_X0_putTeller : Cond.selects RX0 yX0_putTeller yX0_putTeller ∈ lw_tbl := List.mem_append_left _ (List.mem_of_getElem? (i := 44) (by decide +kernel))
theorem wv_X5_worthOf : Cond.selects RX5 yX5_worthOf yX5_worthOf ∈ lw_tbl := List.mem_append_left _ (List.mem_of_getElem? (i := 45) (by decide +kernel))
theorem wv_X5_reckon : Cond.selects RX5 yX5_reckon yX5_reckon ∈ lw_tbl := List.mem_append_left _ (List.mem_of_getElem? (i := 46) (by decide +kernel))
theorem wv_X5_joined : Cond.selects RX5 yX5_joined yX5_joined ∈ lw_tbl := List.mem_append_left _ (List.mem_of_getElem? (i := 47) (by decide +kernel))
theorem wv_X9_openBehind : Cond.selects RX9 yX9_openBehind yX9_openBehind ∈ lw_tbl := List.mem_append_left _ (List.mem_of_getElem? (i := 48) (by decide +kernel))
theorem wv_X2_chooseFor : Cond.selects RX2 yX2_chooseFor yX2_chooseFor ∈ lw_tbl := List.mem_append_left _ (List.mem_of_getElem? (i := 49) (by decide +kernel))
theorem wv_X0_ofEnd : Cond.selects RX0 yX0_ofEnd yX0_ofEnd ∈ lw_tbl := List.mem_append_left _ (List.mem_of_getElem? (i := 50) (by decide +kernel))
theorem wv_X2_isCheaper : Cond.selects RX2 yX2_isCheaper yX2_isCheaper ∈ lw_tbl := List.mem_append_left _ (List.mem_of_getElem? (i := 51) (by decide +kernel))
theorem wv_X2_endsOf : Cond.selects RX2 yX2_endsOf yX2_endsOf ∈ lw_tbl := List.mem_append_left _ (List.mem_of_getElem? (i := 52) (by decide +kernel))
theorem wv_X1_buyOne : Cond.selects RX1 yX1_buyOne yX1_buyOne ∈ lw_tbl := List.mem_append_left _ (List.mem_of_getElem? (i := 53) (by decide +kernel))
theorem wv_X4_draw : Cond.selects RX4 yX4_draw yX4_draw ∈ lw_tbl := List.mem_append_left _ (List.mem_of_getElem? (i := 54) (by decide +kernel))
theorem wv_X4_isBound : Cond.selects RX4 yX4_isBound yX4_isBound ∈ lw_tbl := List.mem_append_left _ (List.mem_of_getElem? (i := 55) (by decide +kernel))
theorem wv_X1_listen : Cond.selects RX1 yX1_listen yX1_listen ∈ lw_tbl := List.mem_append_left _ (List.mem_of_getElem? (i := 56) (by decide +kernel))
theorem wv_X0_ofListener : Cond.selects RX0 yX0_ofListener yX0_ofListener ∈ lw_tbl := List.mem_append_left _ (List.mem_of_getElem? (i := 57) (by decide +kernel))
theorem wv_X1_tire : Cond.selects RX1 yX1_tire yX1_tire ∈ lw_tbl := List.mem_append_left _ (List.mem_of_getElem? (i := 58) (by decide +kernel))
theorem wv_X1_collect : Cond.selects RX1 yX1_collect yX1_collect ∈ lw_tbl := List.mem_append_left _ (List.mem_of_getElem? (i := 59) (by decide +kernel))
theorem wv_X11_canBeTried : Cond.selects RX11 yX11_canBeTried yX11_canBeTried ∈ lw_tbl := List.mem_append_left _ (List.mem_of_getElem? (i := 60) (by decide +kernel))
theorem wv_X4_takeFrom : Cond.selects RX4 yX4_takeFrom yX4_takeFrom ∈ lw_tbl := List.mem_append_left _ (List.mem_of_getElem? (i := 61) (by decide +kernel))
theorem wv_X1_result : Cond.selects RX1 yX1_result yX1_result ∈ lw_tbl := List.mem_append_left _ (List.mem_of_getElem? (i := 62) (by decide +kernel))
theorem wv_X11_knotOf : Cond.selects RX11 yX11_knotOf yX11_knotOf ∈ lw_tbl := List.mem_append_left _ (List.mem_of_getElem? (i := 63) (by decide +kernel))
theorem wv_X11_threadsOf : Cond.selects RX11 yX11_threadsOf yX11_threadsOf ∈ lw_tbl := List.mem_append_left _ (List.mem_of_getElem? (i := 64) (by decide +kernel))
theorem wv_X2_isTold : Cond.selects RX2 yX2_isTold yX2_isTold ∈ lw_tbl := List.mem_append_left _ (List.mem_of_getElem? (i := 65) (by decide +kernel))
theorem wv_X4_boundTo : Cond.selects RX4 yX4_boundTo yX4_boundTo ∈ lw_tbl := List.mem_append_left _ (List.mem_of_getElem? (i := 66) (by decide +kernel))
theorem wv_X3_solve : Cond.selects RX3 yX3_solve yX3_solve ∈ lw_tbl := List.mem_append_left _ (List.mem_of_getElem? (i := 67) (by decide +kernel))
theorem wv_X3_listSets : Cond.selects RX3 yX3_listSets yX3_listSets ∈ lw_tbl := List.mem_append_left _ (List.mem_of_getElem? (i := 68) (by decide +kernel))
theorem wv_X3_goBack : Cond.selects RX3 yX3_goBack yX3_goBack ∈ lw_tbl := List.mem_append_left _ (List.mem_of_getElem? (i := 69) (by decide +kernel))
theorem wv_X3_markLeftOut : Cond.selects RX3 yX3_markLeftOut yX3_markLeftOut ∈ lw_tbl := List.mem_append_left _ (List.mem_of_getElem? (i := 70) (by decide +kernel))
theorem wv_X3_isLeftOut : Cond.selects RX3 yX3_isLeftOut yX3_isLeftOut ∈ lw_tbl := List.mem_append_left _ (List.mem_of_getElem? (i := 71) (by decide +kernel))
theorem wv_X11_areTold : Cond.selects RX11 yX11_areTold yX11_areTold ∈ lw_tbl := List.mem_append_left _ (List.mem_of_getElem? (i := 72) (by decide +kernel))
theorem wv_X11_toldStories : Cond.selects RX11 yX11_toldStories yX11_toldStories ∈ lw_tbl := List.mem_append_left _ (List.mem_of_getElem? (i := 73) (by decide +kernel))
theorem wv_X8_solve : Cond.selects RX8 yX8_solve yX8_solve ∈ lw_tbl := List.mem_append_left _ (List.mem_of_getElem? (i := 74) (by decide +kernel))
theorem wv_X8_place : Cond.selects RX8 yX8_place yX8_place ∈ lw_tbl := List.mem_append_left _ (List.mem_of_getElem? (i := 75) (by decide +kernel))
theorem wv_X8_rate : Cond.selects RX8 yX8_rate yX8_rate ∈ lw_tbl := List.mem_append_left _ (List.mem_of_getElem? (i := 76) (by decide +kernel))
theorem wv_X11_tapeIsWithin : Cond.selects RX11 yX11_tapeIsWithin yX11_tapeIsWithin ∈ lw_tbl := List.mem_append_left _ (List.mem_of_getElem? (i := 77) (by decide +kernel))
theorem wv_X2_planWinter : Cond.selects RX2 yX2_planWinter yX2_planWinter ∈ lw_tbl := List.mem_append_left _ (List.mem_of_getElem? (i := 78) (by decide +kernel))
theorem wv_X7_take : Cond.selects RX7 yX7_take yX7_take ∈ lw_tbl := List.mem_append_left _ (List.mem_of_getElem? (i := 79) (by decide +kernel))
theorem wv_X7_solve : Cond.selects RX7 yX7_solve yX7_solve ∈ lw_tbl := List.mem_append_left _ (List.mem_of_getElem? (i := 80) (by decide +kernel))
theorem wv_X7_mostFrom : Cond.selects RX7 yX7_mostFrom yX7_mostFrom ∈ lw_tbl := List.mem_append_left _ (List.mem_of_getElem? (i := 81) (by decide +kernel))
theorem wv_X7_mostPressed : Cond.selects RX7 yX7_mostPressed yX7_mostPressed ∈ lw_tbl := List.mem_append_left _ (List.mem_of_getElem? (i := 82) (by decide +kernel))
theorem wv_X7_earliestFor : Cond.selects RX7 yX7_earliestFor yX7_earliestFor ∈ lw_tbl := List.mem_append_left _ (List.mem_of_getElem? (i := 83) (by decide +kernel))
theorem wv_X2_leftOf : Cond.selects RX2 yX2_leftOf yX2_leftOf ∈ lw_tbl := List.mem_append_left _ (List.mem_of_getElem? (i := 84) (by decide +kernel))
theorem wv_X2_nextToSniff : Cond.selects RX2 yX2_nextToSniff yX2_nextToSniff ∈ lw_tbl := List.mem_append_left _ (List.mem_of_getElem? (i := 85) (by decide +kernel))
theorem wv_X9_yawnsLike : Cond.selects RX9 yX9_yawnsLike yX9_yawnsLike ∈ lw_tbl := List.mem_append_left _ (List.mem_of_getElem? (i := 86) (by decide +kernel))
theorem wv_X11_thickestCutAt : Cond.selects RX11 yX11_thickestCutAt yX11_thickestCutAt ∈ lw_tbl := List.mem_append_left _ (List.mem_of_getElem? (i := 87) (by decide +kernel))
theorem wv_X11_turnsOf : Cond.selects RX11 yX11_turnsOf yX11_turnsOf ∈ lw_tbl := List.mem_append_left _ (List.mem_of_getElem? (i := 88) (by decide +kernel))
theorem wv_X12_push : Cond.selects RX12 yX12_push yX12_push ∈ lw_tbl := List.mem_append_left _ (List.mem_of_getElem? (i := 89) (by decide +kernel))
theorem wv_X12_begins : Cond.selects RX12 yX12_begins yX12_begins ∈ lw_tbl := List.mem_append_left _ (List.mem_of_getElem? (i := 90) (by decide +kernel))
theorem wv_X12_isGood : Cond.selects RX12 yX12_isGood yX12_isGood ∈ lw_tbl := List.mem_append_left _ (List.mem_of_getElem? (i := 91) (by decide +kernel))
theorem wv_X12_turnTold : Cond.selects RX12 yX12_turnTold yX12_turnTold ∈ lw_tbl := List.mem_append_left _ (List.mem_of_getElem? (i := 92) (by decide +kernel))
theorem wv_X12_here : Cond.selects RX12 yX12_here yX12_here ∈ lw_tbl := List.mem_append_left _ (List.mem_of_getElem? (i := 93) (by decide +kernel))
theorem wv_X12_repeats : Cond.selects RX12 yX12_repeats yX12_repeats ∈ lw_tbl := List.mem_append_left _ (List.mem_of_getElem? (i := 94) (by decide +kernel))
theorem wv_X12_wrongs : Cond.selects RX12 yX12_wrongs yX12_wrongs ∈ lw_tbl := List.mem_append_left _ (List.mem_of_getElem? (i := 95) (by decide +kernel))
theorem wv_X12_timesTold : Cond.selects RX12 yX12_timesTold yX12_timesTold ∈ lw_tbl := List.mem_append_left _ (List.mem_of_getElem? (i := 96) (by decide +kernel))
theorem wv_X12_isTold : Cond.selects RX12 yX12_isTold yX12_isTold ∈ lw_tbl := List.mem_append_left _ (List.mem_of_getElem? (i := 97) (by decide +kernel))
theorem wv_X12_openBehind : Cond.selects RX12 yX12_openBehind yX12_openBehind ∈ lw_tbl := List.mem_append_left _ (List.mem_of_getElem? (i := 98) (by decide +kernel))
theorem wv_X12_mostOpen : Cond.selects RX12 yX12_mostOpen yX12_mostOpen ∈ lw_tbl := List.mem_append_left _ (List.mem_of_getElem? (i := 99) (by decide +kernel))
theorem wv_X12_threadsOf : Cond.selects RX12 yX12_threadsOf yX12_threadsOf ∈ lw_tbl := List.mem_append_left _ (List.mem_of_getElem? (i := 100) (by decide +kernel))
theorem wv_X12_knotOf : Cond.selects RX12 yX12_knotOf yX12_knotOf ∈ lw_tbl := List.mem_append_left _ (List.mem_of_getElem? (i := 101) (by decide +kernel))
theorem wv_X12_clause : Cond.selects RX12 yX12_clause yX12_clause ∈ lw_tbl := List.mem_append_left _ (List.mem_of_getElem? (i := 102) (by decide +kernel))
theorem wv_X12_value : Cond.selects RX12 yX12_value yX12_value ∈ lw_tbl := List.mem_append_left _ (List.mem_of_getElem? (i := 103) (by decide +kernel))
theorem wv_X12_factor : Cond.selects RX12 yX12_factor yX12_factor ∈ lw_tbl := List.mem_append_left _ (List.mem_of_getElem? (i := 104) (by decide +kernel))
theorem wv_X12_opens : Cond.selects RX12 yX12_opens yX12_opens ∈ lw_tbl := List.mem_append_left _ (List.mem_of_getElem? (i := 105) (by decide +kernel))
theorem wv_X12_puts : Cond.selects RX12 yX12_puts yX12_puts ∈ lw_tbl := List.mem_append_left _ (List.mem_of_getElem? (i := 106) (by decide +kernel))
theorem wv_X12_seesDigit : Cond.selects RX12 yX12_seesDigit yX12_seesDigit ∈ lw_tbl := List.mem_append_left _ (List.mem_of_getElem? (i := 107) (by decide +kernel))
theorem wv_X12_reads : Cond.selects RX12 yX12_reads yX12_reads ∈ lw_tbl := List.mem_append_left _ (List.mem_of_getElem? (i := 108) (by decide +kernel))
theorem wv_X12_emit : Cond.selects RX12 yX12_emit yX12_emit ∈ lw_tbl := List.mem_append_left _ (List.mem_of_getElem? (i := 109) (by decide +kernel))
theorem wv_X12_stays : Cond.selects RX12 yX12_stays yX12_stays ∈ lw_tbl := List.mem_append_left _ (List.mem_of_getElem? (i := 110) (by decide +kernel))
theorem wv_X12_sums : Cond.selects RX12 yX12_sums yX12_sums ∈ lw_tbl := List.mem_append_left _ (List.mem_of_getElem? (i := 111) (by decide +kernel))
theorem wv_X12_top : Cond.selects RX12 yX12_top yX12_top ∈ lw_tbl := List.mem_append_left _ (List.mem_of_getElem? (i := 112) (by decide +kernel))
theorem wv_X12_condition : Cond.selects RX12 yX12_condition yX12_condition ∈ lw_tbl := List.mem_append_left _ (List.mem_of_getElem? (i := 113) (by decide +kernel))
theorem wv_X12_pieceOfC : Cond.selects RX12 yX12_pieceOfC yX12_pieceOfC ∈ lw_tbl := List.mem_append_left _ (List.mem_of_getElem? (i := 114) (by decide +kernel))
theorem wv_X12_ends : Cond.selects RX12 yX12_ends yX12_ends ∈ lw_tbl := List.mem_append_left _ (List.mem_of_getElem? (i := 115) (by decide +kernel))
theorem wv_X12_goesBehind : Cond.selects RX12 yX12_goesBehind yX12_goesBehind ∈ lw_tbl := List.mem_append_left _ (List.mem_of_getElem? (i := 116) (by decide +kernel))
theorem wv_X12_joins : Cond.selects RX12 yX12_joins yX12_joins ∈ lw_tbl := List.mem_append_left _ (List.mem_of_getElem? (i := 117) (by decide +kernel))
theorem wv_X12_isTelling : Cond.selects RX12 yX12_isTelling yX12_isTelling ∈ lw_tbl := List.mem_append_left _ (List.mem_of_getElem? (i := 118) (by decide +kernel))
theorem wv_X12_laysCheapest : Cond.selects RX12 yX12_laysCheapest yX12_laysCheapest ∈ lw_tbl := List.mem_append_left _ (List.mem_of_getElem? (i := 119) (by decide +kernel))
theorem wv_X12_costOf : Cond.selects RX12 yX12_costOf yX12_costOf ∈ lw_tbl := List.mem_append_left _ (List.mem_of_getElem? (i := 120) (by decide +kernel))
theorem wv_X12_endStands : Cond.selects RX12 yX12_endStands yX12_endStands ∈ lw_tbl := List.mem_append_left _ (List.mem_of_getElem? (i := 121) (by decide +kernel))
theorem wv_X12_tells : Cond.selects RX12 yX12_tells yX12_tells ∈ lw_tbl := List.mem_append_left _ (List.mem_of_getElem? (i := 122) (by decide +kernel))
theorem wv_X12_isSo : Cond.selects RX12 yX12_isSo yX12_isSo ∈ lw_tbl := List.mem_append_left _ (List.mem_of_getElem? (i := 123) (by decide +kernel))
theorem wv_X12_works : Cond.selects RX12 yX12_works yX12_works ∈ lw_tbl := List.mem_append_left _ (List.mem_of_getElem? (i := 124) (by decide +kernel))
theorem wv_X12_does : Cond.selects RX12 yX12_does yX12_does ∈ lw_tbl := List.mem_append_left _ (List.mem_of_getElem? (i := 125) (by decide +kernel))
theorem wv_X12_valueOf : Cond.selects RX12 yX12_valueOf yX12_valueOf ∈ lw_tbl := List.mem_append_left _ (List.mem_of_getElem? (i := 126) (by decide +kernel))
theorem wv_X12_isThere : Cond.selects RX12 yX12_isThere yX12_isThere ∈ lw_tbl := List.mem_append_left _ (List.mem_of_getElem? (i := 127) (by decide +kernel))
theorem wv_X12_buying : Cond.selects RX12 yX12_buying yX12_buying ∈ lw_tbl := List.mem_append_left _ (List.mem_of_getElem? (i := 128) (by decide +kernel))
theorem wv_X12_forgingOf : Cond.selects RX12 yX12_forgingOf yX12_forgingOf ∈ lw_tbl := List.mem_append_left _ (List.mem_of_getElem? (i := 129) (by decide +kernel))
theorem wv_X12_draw : Cond.selects RX12 yX12_draw yX12_draw ∈ lw_tbl := List.mem_append_left _ (List.mem_of_getElem? (i := 130) (by decide +kernel))
theorem wv_X12_go : Cond.selects RX12 yX12_go yX12_go ∈ lw_tbl := List.mem_append_left _ (List.mem_of_getElem? (i := 131) (by decide +kernel))
theorem wv_X12_goesOn : Cond.selects RX12 yX12_goesOn yX12_goesOn ∈ lw_tbl := List.mem_append_left _ (List.mem_of_getElem? (i := 132) (by decide +kernel))
theorem wv_X12_speedOf : Cond.selects RX12 yX12_speedOf yX12_speedOf ∈ lw_tbl := List.mem_append_left _ (List.mem_of_getElem? (i := 133) (by decide +kernel))
theorem wv_X12_tellerStands : Cond.selects RX12 yX12_tellerStands yX12_tellerStands ∈ lw_tbl := List.mem_append_left _ (List.mem_of_getElem? (i := 134) (by decide +kernel))
theorem wv_X12_isAtEnd : Cond.selects RX12 yX12_isAtEnd yX12_isAtEnd ∈ lw_tbl := List.mem_append_left _ (List.mem_of_getElem? (i := 135) (by decide +kernel))
theorem wv_X12_buysAll : Cond.selects RX12 yX12_buysAll yX12_buysAll ∈ lw_tbl := List.mem_append_left _ (List.mem_of_getElem? (i := 136) (by decide +kernel))
theorem wv_X12_isBound : Cond.selects RX12 yX12_isBound yX12_isBound ∈ lw_tbl := List.mem_append_left _ (List.mem_of_getElem? (i := 137) (by decide +kernel))
theorem wv_X12_listens : Cond.selects RX12 yX12_listens yX12_listens ∈ lw_tbl := List.mem_append_left _ (List.mem_of_getElem? (i := 138) (by decide +kernel))
theorem wv_X12_listenerStands : Cond.selects RX12 yX12_listenerStands yX12_listenerStands ∈ lw_tbl := List.mem_append_left _ (List.mem_of_getElem? (i := 139) (by decide +kernel))
theorem wv_X12_goesAway : Cond.selects RX12 yX12_goesAway yX12_goesAway ∈ lw_tbl := List.mem_append_left _ (List.mem_of_getElem? (i := 140) (by decide +kernel))
theorem wv_X12_closesStory : Cond.selects RX12 yX12_closesStory yX12_closesStory ∈ lw_tbl := List.mem_append_left _ (List.mem_of_getElem? (i := 141) (by decide +kernel))
theorem wv_X12_triedBy : Cond.selects RX12 yX12_triedBy yX12_triedBy ∈ lw_tbl := List.mem_append_left _ (List.mem_of_getElem? (i := 142) (by decide +kernel))
theorem wv_X12_isListening : Cond.selects RX12 yX12_isListening yX12_isListening ∈ lw_tbl := List.mem_append_left _ (List.mem_of_getElem? (i := 143) (by decide +kernel))
theorem wv_X12_laysAside : Cond.selects RX12 yX12_laysAside yX12_laysAside ∈ lw_tbl := List.mem_append_left _ (List.mem_of_getElem? (i := 144) (by decide +kernel))
theorem wv_X12_bringsBack : Cond.selects RX12 yX12_bringsBack yX12_bringsBack ∈ lw_tbl := List.mem_append_left _ (List.mem_of_getElem? (i := 145) (by decide +kernel))
theorem wv_X12_boundSet : Cond.selects RX12 yX12_boundSet yX12_boundSet ∈ lw_tbl := List.mem_append_left _ (List.mem_of_getElem? (i := 146) (by decide +kernel))
theorem wv_X12_laysLeftOut : Cond.selects RX12 yX12_laysLeftOut yX12_laysLeftOut ∈ lw_tbl := List.mem_append_left _ (List.mem_of_getElem? (i := 147) (by decide +kernel))
theorem wv_X12_areStories : Cond.selects RX12 yX12_areStories yX12_areStories ∈ lw_tbl := List.mem_append_left _ (List.mem_of_getElem? (i := 148) (by decide +kernel))
theorem wv_X12_takesSome : Cond.selects RX12 yX12_takesSome yX12_takesSome ∈ lw_tbl := List.mem_append_left _ (List.mem_of_getElem? (i := 149) (by decide +kernel))
theorem wv_X12_opensRow : Cond.selects RX12 yX12_opensRow yX12_opensRow ∈ lw_tbl := List.mem_append_left _ (List.mem_of_getElem? (i := 150) (by decide +kernel))
theorem wv_X12_isOrder : Cond.selects RX12 yX12_isOrder yX12_isOrder ∈ lw_tbl := List.mem_append_left _ (List.mem_of_getElem? (i := 151) (by decide +kernel))
theorem wv_X12_opennessOf : Cond.selects RX12 yX12_opennessOf yX12_opennessOf ∈ lw_tbl := List.mem_append_left _ (List.mem_of_getElem? (i := 152) (by decide +kernel))
theorem wv_X12_pagesOf : Cond.selects RX12 yX12_pagesOf yX12_pagesOf ∈ lw_tbl := List.mem_append_left _ (List.mem_of_getElem? (i := 153) (by decide +kernel))
theorem wv_X12_byteAt : Cond.selects RX12 yX12_byteAt yX12_byteAt ∈ lw_tbl := List.mem_append_left _ (List.mem_of_getElem? (i := 154) (by decide +kernel))
theorem wv_X12_canHave : Cond.selects RX12 yX12_canHave yX12_canHave ∈ lw_tbl := List.mem_append_left _ (List.mem_of_getElem? (i := 155) (by decide +kernel))
theorem wv_X12_nightFor : Cond.selects RX12 yX12_nightFor yX12_nightFor ∈ lw_tbl := List.mem_append_left _ (List.mem_of_getElem? (i := 156) (by decide +kernel))
theorem wv_X12_leftBy : Cond.selects RX12 yX12_leftBy yX12_leftBy ∈ lw_tbl := List.mem_append_left _ (List.mem_of_getElem? (i := 157) (by decide +kernel))
theorem wv_X12_nextThread : Cond.selects RX12 yX12_nextThread yX12_nextThread ∈ lw_tbl := List.mem_append_left _ (List.mem_of_getElem? (i := 158) (by decide +kernel))
theorem wv_X12_isYawned : Cond.selects RX12 yX12_isYawned yX12_isYawned ∈ lw_tbl := List.mem_append_left _ (List.mem_of_getElem? (i := 159) (by decide +kernel))
theorem wv_X12_toldOf : Cond.selects RX12 yX12_toldOf yX12_toldOf ∈ lw_tbl := List.mem_append_left _ (List.mem_of_getElem? (i := 160) (by decide +kernel))
theorem wv_X12_isToldOf : Cond.selects RX12 yX12_isToldOf yX12_isToldOf ∈ lw_tbl := List.mem_append_left _ (List.mem_of_getElem? (i := 161) (by decide +kernel))
theorem inX0 : ∀ w ∈ wsX00, w ∈ lw_tbl := x_sub [273, 275] (by decide +kernel)
theorem inX1 : ∀ w ∈ wsX10, w ∈ lw_tbl := x_sub [302, 304, 306, 308, 310, 312, 314, 316, 318, 320, 322, 324, 326, 328, 330] (by decide +kernel)
theorem inX2 : ∀ w ∈ wsX20, w ∈ lw_tbl := x_sub [156, 158, 160, 162, 164, 166, 168, 170, 172, 174, 176, 178, 180] (by decide +kernel)
theorem inX3 : ∀ w ∈ wsX30, w ∈ lw_tbl := x_sub [349, 351, 353, 355, 357, 359, 361, 363] (by decide +kernel)
theorem inX4 : ∀ w ∈ wsX40, w ∈ lw_tbl := x_sub [236, 238, 240, 242, 244, 246, 248, 250, 252, 254, 256, 258, 260, 262] (by decide +kernel)
theorem inX5 : ∀ w ∈ wsX50, w ∈ lw_tbl := x_sub [78, 80, 82, 84, 86, 88, 90, 92, 94] (by decide +kernel)
theorem inX6 : ∀ w ∈ wsX60, w ∈ lw_tbl := x_sub [111, 113, 115, 117, 119] (by decide +kernel)
theorem inX7 : ∀ w ∈ wsX70, w ∈ lw_tbl := x_sub [403, 405, 407, 409, 411, 413] (by decide +kernel)
theorem inX8 : ∀ w ∈ wsX80, w ∈ lw_tbl := x_sub [380, 382, 384, 386] (by decide +kernel)
theorem inX9 : ∀ w ∈ wsX90, w ∈ lw_tbl := x_sub [435, 437, 439, 441, 443] (by decide +kernel)
theorem inX10 : ∀ w ∈ wsX100, w ∈ lw_tbl := x_sub [46, 48, 50, 52, 54, 56] (by decide +kernel)
theorem inX11 : ∀ w ∈ wsX110, w ∈ lw_tbl := x_sub [463, 465, 467, 469, 471, 473, 475, 477, 479, 481, 483, 485, 487, 489, 491, 493, 495] (by decide +kernel)
theorem inX12 : ∀ w ∈ wsX120, w ∈ lw_tbl := x_sub [1265, 1267, 1269, 1271, 1273, 1275, 1277, 1279, 1281, 1283, 1285, 1287, 1289, 1291, 1293, 1295, 1297, 1299, 1301, 1303, 1305, 1307, 1309, 1311, 1313, 1315, 1317, 1319, 1321, 1323, 1325, 1327, 1329, 1331, 1333, 1335, 1337, 1339, 1341, 1343, 1345, 1347, 1349, 1351, 1353, 1355, 1357, 1359, 1361, 1363, 1365, 1367, 1369, 1371, 1373, 1375, 1377, 1379, 1381, 1383, 1385, 1387, 1389, 1391, 1393, 1395, 1397, 1399, 1401, 1403, 1405, 1407, 1409, 1411, 1413, 1415, 1417, 1419, 1421, 1423, 1425, 1427, 1429, 1431, 1433, 1435, 1437, 1439, 1441, 1443, 1445, 1447, 1449, 1451, 1453, 1455, 1457, 1459, 1461, 1463, 1465] (by decide +kernel)

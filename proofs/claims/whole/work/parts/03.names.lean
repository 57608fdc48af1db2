-- printed by wip/whole/gen.py: classes, fields, methods of the claim and what the pools say
def RX0 : String := "SheepdogTrial$Course"
def TX0 : u_T := fun k => match k with
  | 0 => ("SheepdogTrial$Course", "startX", "I", false)
  | 1 => ("SheepdogTrial$Course", "startY", "I", false)
  | 2 => ("SheepdogTrial$Course", "tolerance", "I", false)
  | 3 => ("SheepdogTrial$Course", "timeLimit", "I", false)
  | 4 => ("SheepdogTrial$Course", "legCount", "I", false)
  | 5 => ("SheepdogTrial$Course", "legEndX", "[I", true)
  | 6 => ("SheepdogTrial$Course", "legEndY", "[I", true)
  | 7 => ("SheepdogTrial$Course", "legPoints", "[I", true)
  | 8 => ("SheepdogTrial$Course", "gateCount", "I", false)
  | 9 => ("SheepdogTrial$Course", "gateLeg", "[I", true)
  | 10 => ("SheepdogTrial$Course", "gateX1", "[I", true)
  | 11 => ("SheepdogTrial$Course", "gateY1", "[I", true)
  | 12 => ("SheepdogTrial$Course", "gateX2", "[I", true)
  | _ => ("SheepdogTrial$Course", "gateY2", "[I", true)
def tyX0 : Nat → FieldType := fun k => match k with
  | 0 => .int
  | 1 => .int
  | 2 => .int
  | 3 => .int
  | 4 => .int
  | 5 => .array .int
  | 6 => .array .int
  | 7 => .array .int
  | 8 => .int
  | 9 => .array .int
  | 10 => .array .int
  | 11 => .array .int
  | 12 => .array .int
  | _ => .array .int
abbrev wsX00 : List Cond := u_ws RX0 TX0 14
theorem nmX0 : ∀ a, a < 14 → ∀ b, b < 14 → a ≠ b → (TX0 a).2.1 ≠ (TX0 b).2.1 := by decide +kernel
theorem tyX0_ok : ∀ k, k < 14 → parseFieldDescriptor (TX0 k).2.2.1 = some (tyX0 k) := by decide +kernel
def RX1 : String := "SheepdogTrial$History"
def TX1 : u_T := fun k => match k with
  | 0 => ("SheepdogTrial$History", "states", "[LSheepdogTrial$State;", true)
  | 1 => ("SheepdogTrial$History", "next", "I", false)
  | _ => ("SheepdogTrial$History", "count", "I", false)
def tyX1 : Nat → FieldType := fun k => match k with
  | 0 => .array (.object "SheepdogTrial$State")
  | 1 => .int
  | _ => .int
abbrev wsX10 : List Cond := u_ws RX1 TX1 3
theorem nmX1 : ∀ a, a < 3 → ∀ b, b < 3 → a ≠ b → (TX1 a).2.1 ≠ (TX1 b).2.1 := by decide +kernel
theorem tyX1_ok : ∀ k, k < 3 → parseFieldDescriptor (TX1 k).2.2.1 = some (tyX1 k) := by decide +kernel
def RX2 : String := "SheepdogTrial$Line"
def TX2 : u_T := fun k => match k with
  | 0 => ("SheepdogTrial$Line", "signs", "[C", true)
  | _ => ("SheepdogTrial$Line", "length", "I", false)
def tyX2 : Nat → FieldType := fun k => match k with
  | 0 => .array .char
  | _ => .int
abbrev wsX20 : List Cond := u_ws RX2 TX2 2
theorem nmX2 : ∀ a, a < 2 → ∀ b, b < 2 → a ≠ b → (TX2 a).2.1 ≠ (TX2 b).2.1 := by decide +kernel
theorem tyX2_ok : ∀ k, k < 2 → parseFieldDescriptor (TX2 k).2.2.1 = some (tyX2 k) := by decide +kernel
def RX3 : String := "SheepdogTrial$Program"
def TX3 : u_T := fun k => match k with
  | 0 => ("SheepdogTrial$Program", "text", "[C", true)
  | 1 => ("SheepdogTrial$Program", "length", "I", false)
  | 2 => ("SheepdogTrial$Program", "commandCount", "I", false)
  | 3 => ("SheepdogTrial$Program", "kinds", "[I", true)
  | 4 => ("SheepdogTrial$Program", "arguments", "[I", true)
  | _ => ("SheepdogTrial$Program", "reached", "I", false)
def tyX3 : Nat → FieldType := fun k => match k with
  | 0 => .array .char
  | 1 => .int
  | 2 => .int
  | 3 => .array .int
  | 4 => .array .int
  | _ => .int
abbrev wsX30 : List Cond := u_ws RX3 TX3 6
theorem nmX3 : ∀ a, a < 6 → ∀ b, b < 6 → a ≠ b → (TX3 a).2.1 ≠ (TX3 b).2.1 := by decide +kernel
theorem tyX3_ok : ∀ k, k < 6 → parseFieldDescriptor (TX3 k).2.2.1 = some (tyX3 k) := by decide +kernel
def RX4 : String := "SheepdogTrial$Run"
def TX4 : u_T := fun k => match k with
  | 0 => ("SheepdogTrial$Run", "seconds", "I", false)
  | 1 => ("SheepdogTrial$Run", "complete", "Z", false)
  | 2 => ("SheepdogTrial$Run", "legCount", "I", false)
  | 3 => ("SheepdogTrial$Run", "points", "[I", true)
  | 4 => ("SheepdogTrial$Run", "passedGates", "I", false)
  | 5 => ("SheepdogTrial$Run", "lostOffLine", "I", false)
  | 6 => ("SheepdogTrial$Run", "lostAtGates", "I", false)
  | 7 => ("SheepdogTrial$Run", "lostByFaults", "I", false)
  | _ => ("SheepdogTrial$Run", "lostOverTime", "I", false)
def tyX4 : Nat → FieldType := fun k => match k with
  | 0 => .int
  | 1 => .boolean
  | 2 => .int
  | 3 => .array .int
  | 4 => .int
  | 5 => .int
  | 6 => .int
  | 7 => .int
  | _ => .int
abbrev wsX40 : List Cond := u_ws RX4 TX4 9
theorem nmX4 : ∀ a, a < 9 → ∀ b, b < 9 → a ≠ b → (TX4 a).2.1 ≠ (TX4 b).2.1 := by decide +kernel
theorem tyX4_ok : ∀ k, k < 9 → parseFieldDescriptor (TX4 k).2.2.1 = some (tyX4 k) := by decide +kernel
def RX5 : String := "SheepdogTrial$State"
def TX5 : u_T := fun k => match k with
  | 0 => ("SheepdogTrial$State", "course", "LSheepdogTrial$Course;", true)
  | 1 => ("SheepdogTrial$State", "runs", "[LSheepdogTrial$Run;", true)
  | 2 => ("SheepdogTrial$State", "runCount", "I", false)
  | 3 => ("SheepdogTrial$State", "running", "Z", false)
  | 4 => ("SheepdogTrial$State", "presentLeg", "I", false)
  | 5 => ("SheepdogTrial$State", "flockX", "I", false)
  | _ => ("SheepdogTrial$State", "flockY", "I", false)
def tyX5 : Nat → FieldType := fun k => match k with
  | 0 => .object "SheepdogTrial$Course"
  | 1 => .array (.object "SheepdogTrial$Run")
  | 2 => .int
  | 3 => .boolean
  | 4 => .int
  | 5 => .int
  | _ => .int
abbrev wsX50 : List Cond := u_ws RX5 TX5 7
theorem nmX5 : ∀ a, a < 7 → ∀ b, b < 7 → a ≠ b → (TX5 a).2.1 ≠ (TX5 b).2.1 := by decide +kernel
theorem tyX5_ok : ∀ k, k < 7 → parseFieldDescriptor (TX5 k).2.2.1 = some (tyX5 k) := by decide +kernel
def RX6 : String := "SheepdogTrial"
def TX6 : u_T := fun k => match k with
  | 0 => ("SheepdogTrial", "now", "LSheepdogTrial$State;", true)
  | 1 => ("SheepdogTrial", "draft", "LSheepdogTrial$State;", true)
  | 2 => ("SheepdogTrial", "saved", "LSheepdogTrial$State;", true)
  | 3 => ("SheepdogTrial", "hasSaved", "Z", false)
  | 4 => ("SheepdogTrial", "history", "LSheepdogTrial$History;", true)
  | 5 => ("SheepdogTrial", "ranking", "[I", true)
  | 6 => ("SheepdogTrial", "line", "LSheepdogTrial$Line;", true)
  | 7 => ("SheepdogTrial", "program", "LSheepdogTrial$Program;", true)
  | 8 => ("SheepdogTrial", "errorPosition", "I", false)
  | _ => ("SheepdogTrial", "failedCommand", "I", false)
def tyX6 : Nat → FieldType := fun k => match k with
  | 0 => .object "SheepdogTrial$State"
  | 1 => .object "SheepdogTrial$State"
  | 2 => .object "SheepdogTrial$State"
  | 3 => .boolean
  | 4 => .object "SheepdogTrial$History"
  | 5 => .array .int
  | 6 => .object "SheepdogTrial$Line"
  | 7 => .object "SheepdogTrial$Program"
  | 8 => .int
  | _ => .int
abbrev wsX60 : List Cond := u_ws RX6 TX6 10
theorem nmX6 : ∀ a, a < 10 → ∀ b, b < 10 → a ≠ b → (TX6 a).2.1 ≠ (TX6 b).2.1 := by decide +kernel
theorem tyX6_ok : ∀ k, k < 10 → parseFieldDescriptor (TX6 k).2.2.1 = some (tyX6 k) := by decide +kernel
def RX7 : String := "SheepdogTrialModel"
def TX7 : u_T := fun k => match k with
  | 0 => ("SheepdogTrialModel", "m", "[I", true)
  | 1 => ("SheepdogTrialModel", "aside", "[I", true)
  | 2 => ("SheepdogTrialModel", "thought", "[I", true)
  | 3 => ("SheepdogTrialModel", "saved", "[I", true)
  | 4 => ("SheepdogTrialModel", "isSaved", "Z", false)
  | 5 => ("SheepdogTrialModel", "past", "[I", true)
  | 6 => ("SheepdogTrialModel", "changes", "I", false)
  | 7 => ("SheepdogTrialModel", "errorAt", "I", false)
  | 8 => ("SheepdogTrialModel", "failed", "I", false)
  | 9 => ("SheepdogTrialModel", "thrown", "I", false)
  | 10 => ("SheepdogTrialModel", "program", "[I", true)
  | 11 => ("SheepdogTrialModel", "programMany", "I", false)
  | 12 => ("SheepdogTrialModel", "line", "[I", true)
  | 13 => ("SheepdogTrialModel", "lineMany", "I", false)
  | 14 => ("SheepdogTrialModel", "letters", "[C", true)
  | 15 => ("SheepdogTrialModel", "begins0", "[I", true)
  | 16 => ("SheepdogTrialModel", "commands", "[I", true)
  | 17 => ("SheepdogTrialModel", "commandMany", "I", false)
  | 18 => ("SheepdogTrialModel", "place0", "I", false)
  | 19 => ("SheepdogTrialModel", "size0", "I", false)
  | _ => ("SheepdogTrialModel", "isWrong", "Z", false)
def tyX7 : Nat → FieldType := fun k => match k with
  | 0 => .array .int
  | 1 => .array .int
  | 2 => .array .int
  | 3 => .array .int
  | 4 => .boolean
  | 5 => .array .int
  | 6 => .int
  | 7 => .int
  | 8 => .int
  | 9 => .int
  | 10 => .array .int
  | 11 => .int
  | 12 => .array .int
  | 13 => .int
  | 14 => .array .char
  | 15 => .array .int
  | 16 => .array .int
  | 17 => .int
  | 18 => .int
  | 19 => .int
  | _ => .boolean
abbrev wsX70 : List Cond := u_ws RX7 TX7 21
theorem nmX7 : ∀ a, a < 21 → ∀ b, b < 21 → a ≠ b → (TX7 a).2.1 ≠ (TX7 b).2.1 := by decide +kernel
theorem tyX7_ok : ∀ k, k < 21 → parseFieldDescriptor (TX7 k).2.2.1 = some (tyX7 k) := by decide +kernel
def RL : String := "SheepdogTrialLaw"
def aRn (o : Nat) : String := match o with
  | 0 => RX0
  | 1 => RX1
  | 2 => RX2
  | 3 => RX3
  | 4 => RX4
  | 5 => RX5
  | 6 => RX6
  | 7 => RX7
  | _ => RL
def aTX (o : Nat) : u_T := match o with
  | 0 => TX0
  | 1 => TX1
  | 2 => TX2
  | 3 => TX3
  | 4 => TX4
  | 5 => TX5
  | 6 => TX6
  | _ => TX7
def aTy (o : Nat) : Nat → FieldType := match o with
  | 0 => tyX0
  | 1 => tyX1
  | 2 => tyX2
  | 3 => tyX3
  | 4 => tyX4
  | 5 => tyX5
  | 6 => tyX6
  | _ => tyX7
/-- the kinds of a class's fields: 0 an int, 1 a boolean, 2 a thing -/
def aFl (o : Nat) : List Nat := match o with
  | 0 => [0, 0, 0, 0, 0, 2, 2, 2, 0, 2, 2, 2, 2, 2]
  | 1 => [2, 0, 0]
  | 2 => [2, 0]
  | 3 => [2, 0, 0, 2, 2, 0]
  | 4 => [0, 1, 0, 2, 0, 0, 0, 0, 0]
  | 5 => [2, 2, 0, 1, 0, 0, 0]
  | 6 => [2, 2, 2, 1, 2, 2, 2, 2, 0, 0]
  | _ => [2, 2, 2, 2, 1, 2, 0, 0, 0, 0, 2, 0, 2, 0, 2, 2, 2, 0, 0, 0, 1]
abbrev aCl : List vw_C := [(RX0, TX0, 14), (RX1, TX1, 3), (RX2, TX2, 2), (RX3, TX3, 6), (RX4, TX4, 9), (RX5, TX5, 7), (RX6, TX6, 10), (RX7, TX7, 21)]
abbrev cX0_init : ByteArray := prog_2_method_1_code
def yX0_init : MethodName := ⟨RX0, "<init>", "()V"⟩
abbrev nX0_init : Nat := 0
abbrev cX0_copyFrom : ByteArray := prog_2_method_2_code
def yX0_copyFrom : MethodName := ⟨RX0, "copyFrom", "(LSheepdogTrial$Course;)V"⟩
abbrev nX0_copyFrom : Nat := 1
abbrev cX0_hasLeg : ByteArray := prog_2_method_3_code
def yX0_hasLeg : MethodName := ⟨RX0, "hasLeg", "(I)Z"⟩
abbrev nX0_hasLeg : Nat := 2
abbrev cX0_sumOfPoints : ByteArray := prog_2_method_4_code
def yX0_sumOfPoints : MethodName := ⟨RX0, "sumOfPoints", "()I"⟩
abbrev nX0_sumOfPoints : Nat := 3
abbrev cX0_legBeginX : ByteArray := prog_2_method_5_code
def yX0_legBeginX : MethodName := ⟨RX0, "legBeginX", "(I)I"⟩
abbrev nX0_legBeginX : Nat := 4
abbrev cX0_legBeginY : ByteArray := prog_2_method_6_code
def yX0_legBeginY : MethodName := ⟨RX0, "legBeginY", "(I)I"⟩
abbrev nX0_legBeginY : Nat := 5
abbrev cX0_gateMeetsItsLeg : ByteArray := prog_2_method_7_code
def yX0_gateMeetsItsLeg : MethodName := ⟨RX0, "gateMeetsItsLeg", "(I)Z"⟩
abbrev nX0_gateMeetsItsLeg : Nat := 6
abbrev cX0_gateMeets : ByteArray := prog_2_method_8_code
def yX0_gateMeets : MethodName := ⟨RX0, "gateMeets", "(IIIII)Z"⟩
abbrev nX0_gateMeets : Nat := 7
abbrev cX0_side : ByteArray := prog_2_method_9_code
def yX0_side : MethodName := ⟨RX0, "side", "(IIIIII)I"⟩
abbrev nX0_side : Nat := 8
abbrev cX0_isOffLeg : ByteArray := prog_2_method_10_code
def yX0_isOffLeg : MethodName := ⟨RX0, "isOffLeg", "(III)Z"⟩
abbrev nX0_isOffLeg : Nat := 9
abbrev cX0_isNearEnd : ByteArray := prog_2_method_11_code
def yX0_isNearEnd : MethodName := ⟨RX0, "isNearEnd", "(III)Z"⟩
abbrev nX0_isNearEnd : Nat := 10
abbrev cX0_squareOfDistance : ByteArray := prog_2_method_12_code
def yX0_squareOfDistance : MethodName := ⟨RX0, "squareOfDistance", "(IIII)I"⟩
abbrev nX0_squareOfDistance : Nat := 11
abbrev cX1_init : ByteArray := prog_3_method_1_code
def yX1_init : MethodName := ⟨RX1, "<init>", "()V"⟩
abbrev nX1_init : Nat := 12
abbrev cX1_push : ByteArray := prog_3_method_2_code
def yX1_push : MethodName := ⟨RX1, "push", "(LSheepdogTrial$State;)V"⟩
abbrev nX1_push : Nat := 13
abbrev cX1_popInto : ByteArray := prog_3_method_3_code
def yX1_popInto : MethodName := ⟨RX1, "popInto", "(LSheepdogTrial$State;)V"⟩
abbrev nX1_popInto : Nat := 14
abbrev cX1_clear : ByteArray := prog_3_method_4_code
def yX1_clear : MethodName := ⟨RX1, "clear", "()V"⟩
abbrev nX1_clear : Nat := 15
abbrev cX2_init : ByteArray := prog_4_method_1_code
def yX2_init : MethodName := ⟨RX2, "<init>", "()V"⟩
abbrev nX2_init : Nat := 16
abbrev cX2_clear : ByteArray := prog_4_method_2_code
def yX2_clear : MethodName := ⟨RX2, "clear", "()V"⟩
abbrev nX2_clear : Nat := 17
abbrev cX2_put : ByteArray := prog_4_method_3_code
def yX2_put : MethodName := ⟨RX2, "put", "(C)V"⟩
abbrev nX2_put : Nat := 18
abbrev cX2_putNumber : ByteArray := prog_4_method_4_code
def yX2_putNumber : MethodName := ⟨RX2, "putNumber", "(I)V"⟩
abbrev nX2_putNumber : Nat := 19
abbrev cX2_putDigit : ByteArray := prog_4_method_5_code
def yX2_putDigit : MethodName := ⟨RX2, "putDigit", "(I)V"⟩
abbrev nX2_putDigit : Nat := 20
abbrev cX3_init : ByteArray := prog_5_method_1_code
def yX3_init : MethodName := ⟨RX3, "<init>", "()V"⟩
abbrev nX3_init : Nat := 21
abbrev cX3_append : ByteArray := prog_5_method_2_code
def yX3_append : MethodName := ⟨RX3, "append", "(C)V"⟩
abbrev nX3_append : Nat := 22
abbrev cX3_clear : ByteArray := prog_5_method_3_code
def yX3_clear : MethodName := ⟨RX3, "clear", "()V"⟩
abbrev nX3_clear : Nat := 23
abbrev cX3_parse : ByteArray := prog_5_method_4_code
def yX3_parse : MethodName := ⟨RX3, "parse", "()I"⟩
abbrev nX3_parse : Nat := 24
abbrev cX3_parseCommand : ByteArray := prog_5_method_5_code
def yX3_parseCommand : MethodName := ⟨RX3, "parseCommand", "(I)Z"⟩
abbrev nX3_parseCommand : Nat := 25
abbrev cX3_patternOf : ByteArray := prog_5_method_6_code
def yX3_patternOf : MethodName := ⟨RX3, "patternOf", "(I)Ljava/lang/String;"⟩
abbrev nX3_patternOf : Nat := 26
abbrev cX3_matches : ByteArray := prog_5_method_7_code
def yX3_matches : MethodName := ⟨RX3, "matches", "(Ljava/lang/String;I)Z"⟩
abbrev nX3_matches : Nat := 27
abbrev cX3_skipDigits : ByteArray := prog_5_method_8_code
def yX3_skipDigits : MethodName := ⟨RX3, "skipDigits", "(I)V"⟩
abbrev nX3_skipDigits : Nat := 28
abbrev cX3_valueOfDigits : ByteArray := prog_5_method_9_code
def yX3_valueOfDigits : MethodName := ⟨RX3, "valueOfDigits", "(II)I"⟩
abbrev nX3_valueOfDigits : Nat := 29
abbrev cX3_performOn : ByteArray := prog_5_method_10_code
def yX3_performOn : MethodName := ⟨RX3, "performOn", "(LSheepdogTrial$State;)I"⟩
abbrev nX3_performOn : Nat := 30
abbrev cX3_perform : ByteArray := prog_5_method_11_code
def yX3_perform : MethodName := ⟨RX3, "perform", "(LSheepdogTrial$State;I)I"⟩
abbrev nX3_perform : Nat := 31
abbrev cX4_init : ByteArray := prog_6_method_1_code
def yX4_init : MethodName := ⟨RX4, "<init>", "()V"⟩
abbrev nX4_init : Nat := 32
abbrev cX4_copyFrom : ByteArray := prog_6_method_2_code
def yX4_copyFrom : MethodName := ⟨RX4, "copyFrom", "(LSheepdogTrial$Run;)V"⟩
abbrev nX4_copyFrom : Nat := 33
abbrev cX4_begin : ByteArray := prog_6_method_3_code
def yX4_begin : MethodName := ⟨RX4, "begin", "(LSheepdogTrial$Course;)V"⟩
abbrev nX4_begin : Nat := 34
abbrev cX4_isGatePassed : ByteArray := prog_6_method_4_code
def yX4_isGatePassed : MethodName := ⟨RX4, "isGatePassed", "(I)Z"⟩
abbrev nX4_isGatePassed : Nat := 35
abbrev cX4_passGate : ByteArray := prog_6_method_5_code
def yX4_passGate : MethodName := ⟨RX4, "passGate", "(I)V"⟩
abbrev nX4_passGate : Nat := 36
abbrev cX4_deduct : ByteArray := prog_6_method_6_code
def yX4_deduct : MethodName := ⟨RX4, "deduct", "(II)I"⟩
abbrev nX4_deduct : Nat := 37
abbrev cX4_deductFrom : ByteArray := prog_6_method_7_code
def yX4_deductFrom : MethodName := ⟨RX4, "deductFrom", "(I)I"⟩
abbrev nX4_deductFrom : Nat := 38
abbrev cX4_sumOfPoints : ByteArray := prog_6_method_8_code
def yX4_sumOfPoints : MethodName := ⟨RX4, "sumOfPoints", "()I"⟩
abbrev nX4_sumOfPoints : Nat := 39
abbrev cX4_sumOfLosses : ByteArray := prog_6_method_9_code
def yX4_sumOfLosses : MethodName := ⟨RX4, "sumOfLosses", "()I"⟩
abbrev nX4_sumOfLosses : Nat := 40
abbrev cX4_compareForRank : ByteArray := prog_6_method_10_code
def yX4_compareForRank : MethodName := ⟨RX4, "compareForRank", "(LSheepdogTrial$Run;)I"⟩
abbrev nX4_compareForRank : Nat := 41
abbrev cX5_init : ByteArray := prog_7_method_1_code
def yX5_init : MethodName := ⟨RX5, "<init>", "()V"⟩
abbrev nX5_init : Nat := 42
abbrev cX5_copyFrom : ByteArray := prog_7_method_2_code
def yX5_copyFrom : MethodName := ⟨RX5, "copyFrom", "(LSheepdogTrial$State;)V"⟩
abbrev nX5_copyFrom : Nat := 43
abbrev cX5_placeStart : ByteArray := prog_7_method_3_code
def yX5_placeStart : MethodName := ⟨RX5, "placeStart", "(II)I"⟩
abbrev nX5_placeStart : Nat := 44
abbrev cX5_appendLeg : ByteArray := prog_7_method_4_code
def yX5_appendLeg : MethodName := ⟨RX5, "appendLeg", "(III)I"⟩
abbrev nX5_appendLeg : Nat := 45
abbrev cX5_appendGate : ByteArray := prog_7_method_5_code
def yX5_appendGate : MethodName := ⟨RX5, "appendGate", "(IIIII)I"⟩
abbrev nX5_appendGate : Nat := 46
abbrev cX5_changeTolerance : ByteArray := prog_7_method_6_code
def yX5_changeTolerance : MethodName := ⟨RX5, "changeTolerance", "(I)I"⟩
abbrev nX5_changeTolerance : Nat := 47
abbrev cX5_changeTimeLimit : ByteArray := prog_7_method_7_code
def yX5_changeTimeLimit : MethodName := ⟨RX5, "changeTimeLimit", "(I)I"⟩
abbrev nX5_changeTimeLimit : Nat := 48
abbrev cX5_beginRun : ByteArray := prog_7_method_8_code
def yX5_beginRun : MethodName := ⟨RX5, "beginRun", "()I"⟩
abbrev nX5_beginRun : Nat := 49
abbrev cX5_makeStep : ByteArray := prog_7_method_9_code
def yX5_makeStep : MethodName := ⟨RX5, "makeStep", "(III)I"⟩
abbrev nX5_makeStep : Nat := 50
abbrev cX5_deductFault : ByteArray := prog_7_method_10_code
def yX5_deductFault : MethodName := ⟨RX5, "deductFault", "(I)I"⟩
abbrev nX5_deductFault : Nat := 51
abbrev cX5_giveUpRun : ByteArray := prog_7_method_11_code
def yX5_giveUpRun : MethodName := ⟨RX5, "giveUpRun", "()I"⟩
abbrev nX5_giveUpRun : Nat := 52
abbrev cX5_passGates : ByteArray := prog_7_method_12_code
def yX5_passGates : MethodName := ⟨RX5, "passGates", "(II)I"⟩
abbrev nX5_passGates : Nat := 53
abbrev cX5_firstOpenGate : ByteArray := prog_7_method_13_code
def yX5_firstOpenGate : MethodName := ⟨RX5, "firstOpenGate", "()I"⟩
abbrev nX5_firstOpenGate : Nat := 54
abbrev cX5_endOverTime : ByteArray := prog_7_method_14_code
def yX5_endOverTime : MethodName := ⟨RX5, "endOverTime", "(LSheepdogTrial$Run;)I"⟩
abbrev nX5_endOverTime : Nat := 55
abbrev cX5_leaveLine : ByteArray := prog_7_method_15_code
def yX5_leaveLine : MethodName := ⟨RX5, "leaveLine", "(LSheepdogTrial$Run;)I"⟩
abbrev nX5_leaveLine : Nat := 56
abbrev cX5_completeLeg : ByteArray := prog_7_method_16_code
def yX5_completeLeg : MethodName := ⟨RX5, "completeLeg", "(LSheepdogTrial$Run;)I"⟩
abbrev nX5_completeLeg : Nat := 57
abbrev cX5_countOpenGates : ByteArray := prog_7_method_17_code
def yX5_countOpenGates : MethodName := ⟨RX5, "countOpenGates", "(LSheepdogTrial$Run;)I"⟩
abbrev nX5_countOpenGates : Nat := 58
abbrev cX5_runGoingOn : ByteArray := prog_7_method_18_code
def yX5_runGoingOn : MethodName := ⟨RX5, "runGoingOn", "()LSheepdogTrial$Run;"⟩
abbrev nX5_runGoingOn : Nat := 59
abbrev cX5_isGoingOn : ByteArray := prog_7_method_19_code
def yX5_isGoingOn : MethodName := ⟨RX5, "isGoingOn", "(I)Z"⟩
abbrev nX5_isGoingOn : Nat := 60
abbrev cX5_isRankedBefore : ByteArray := prog_7_method_20_code
def yX5_isRankedBefore : MethodName := ⟨RX5, "isRankedBefore", "(II)Z"⟩
abbrev nX5_isRankedBefore : Nat := 61
abbrev cX5_countRunsBefore : ByteArray := prog_7_method_21_code
def yX5_countRunsBefore : MethodName := ⟨RX5, "countRunsBefore", "(I)I"⟩
abbrev nX5_countRunsBefore : Nat := 62
abbrev cX5_sortRuns : ByteArray := prog_7_method_22_code
def yX5_sortRuns : MethodName := ⟨RX5, "sortRuns", "([I)V"⟩
abbrev nX5_sortRuns : Nat := 63
abbrev cX5_bestRunOn : ByteArray := prog_7_method_23_code
def yX5_bestRunOn : MethodName := ⟨RX5, "bestRunOn", "(I)I"⟩
abbrev nX5_bestRunOn : Nat := 64
abbrev cX5_sumOfScores : ByteArray := prog_7_method_24_code
def yX5_sumOfScores : MethodName := ⟨RX5, "sumOfScores", "()I"⟩
abbrev nX5_sumOfScores : Nat := 65
abbrev cX5_countRunsThrough : ByteArray := prog_7_method_25_code
def yX5_countRunsThrough : MethodName := ⟨RX5, "countRunsThrough", "(I)I"⟩
abbrev nX5_countRunsThrough : Nat := 66
abbrev cX5_isSound : ByteArray := prog_7_method_26_code
def yX5_isSound : MethodName := ⟨RX5, "isSound", "(I)Z"⟩
abbrev nX5_isSound : Nat := 67
abbrev cX6_init : ByteArray := prog_1_method_1_code
def yX6_init : MethodName := ⟨RX6, "<init>", "()V"⟩
abbrev nX6_init : Nat := 68
abbrev cX6_setStart : ByteArray := prog_1_method_2_code
def yX6_setStart : MethodName := ⟨RX6, "setStart", "(II)I"⟩
abbrev nX6_setStart : Nat := 69
abbrev cX6_addLeg : ByteArray := prog_1_method_3_code
def yX6_addLeg : MethodName := ⟨RX6, "addLeg", "(III)I"⟩
abbrev nX6_addLeg : Nat := 70
abbrev cX6_addGate : ByteArray := prog_1_method_4_code
def yX6_addGate : MethodName := ⟨RX6, "addGate", "(IIIII)I"⟩
abbrev nX6_addGate : Nat := 71
abbrev cX6_setTolerance : ByteArray := prog_1_method_5_code
def yX6_setTolerance : MethodName := ⟨RX6, "setTolerance", "(I)I"⟩
abbrev nX6_setTolerance : Nat := 72
abbrev cX6_setTimeLimit : ByteArray := prog_1_method_6_code
def yX6_setTimeLimit : MethodName := ⟨RX6, "setTimeLimit", "(I)I"⟩
abbrev nX6_setTimeLimit : Nat := 73
abbrev cX6_startRun : ByteArray := prog_1_method_7_code
def yX6_startRun : MethodName := ⟨RX6, "startRun", "()I"⟩
abbrev nX6_startRun : Nat := 74
abbrev cX6_walk : ByteArray := prog_1_method_8_code
def yX6_walk : MethodName := ⟨RX6, "walk", "(III)I"⟩
abbrev nX6_walk : Nat := 75
abbrev cX6_fault : ByteArray := prog_1_method_9_code
def yX6_fault : MethodName := ⟨RX6, "fault", "(I)I"⟩
abbrev nX6_fault : Nat := 76
abbrev cX6_retire : ByteArray := prog_1_method_10_code
def yX6_retire : MethodName := ⟨RX6, "retire", "()I"⟩
abbrev nX6_retire : Nat := 77
abbrev cX6_legs : ByteArray := prog_1_method_11_code
def yX6_legs : MethodName := ⟨RX6, "legs", "()I"⟩
abbrev nX6_legs : Nat := 78
abbrev cX6_legPoints : ByteArray := prog_1_method_12_code
def yX6_legPoints : MethodName := ⟨RX6, "legPoints", "(I)I"⟩
abbrev nX6_legPoints : Nat := 79
abbrev cX6_totalPoints : ByteArray := prog_1_method_13_code
def yX6_totalPoints : MethodName := ⟨RX6, "totalPoints", "()I"⟩
abbrev nX6_totalPoints : Nat := 80
abbrev cX6_gates : ByteArray := prog_1_method_14_code
def yX6_gates : MethodName := ⟨RX6, "gates", "()I"⟩
abbrev nX6_gates : Nat := 81
abbrev cX6_legOf : ByteArray := prog_1_method_15_code
def yX6_legOf : MethodName := ⟨RX6, "legOf", "(I)I"⟩
abbrev nX6_legOf : Nat := 82
abbrev cX6_isOnLine : ByteArray := prog_1_method_16_code
def yX6_isOnLine : MethodName := ⟨RX6, "isOnLine", "(I)Z"⟩
abbrev nX6_isOnLine : Nat := 83
abbrev cX6_tolerance : ByteArray := prog_1_method_17_code
def yX6_tolerance : MethodName := ⟨RX6, "tolerance", "()I"⟩
abbrev nX6_tolerance : Nat := 84
abbrev cX6_timeLimit : ByteArray := prog_1_method_18_code
def yX6_timeLimit : MethodName := ⟨RX6, "timeLimit", "()I"⟩
abbrev nX6_timeLimit : Nat := 85
abbrev cX6_isRunning : ByteArray := prog_1_method_19_code
def yX6_isRunning : MethodName := ⟨RX6, "isRunning", "()Z"⟩
abbrev nX6_isRunning : Nat := 86
abbrev cX6_presentLeg : ByteArray := prog_1_method_20_code
def yX6_presentLeg : MethodName := ⟨RX6, "presentLeg", "()I"⟩
abbrev nX6_presentLeg : Nat := 87
abbrev cX6_flockX : ByteArray := prog_1_method_21_code
def yX6_flockX : MethodName := ⟨RX6, "flockX", "()I"⟩
abbrev nX6_flockX : Nat := 88
abbrev cX6_flockY : ByteArray := prog_1_method_22_code
def yX6_flockY : MethodName := ⟨RX6, "flockY", "()I"⟩
abbrev nX6_flockY : Nat := 89
abbrev cX6_nextGate : ByteArray := prog_1_method_23_code
def yX6_nextGate : MethodName := ⟨RX6, "nextGate", "()I"⟩
abbrev nX6_nextGate : Nat := 90
abbrev cX6_gatesPassedTo : ByteArray := prog_1_method_24_code
def yX6_gatesPassedTo : MethodName := ⟨RX6, "gatesPassedTo", "(II)I"⟩
abbrev nX6_gatesPassedTo : Nat := 91
abbrev cX6_isOffLine : ByteArray := prog_1_method_25_code
def yX6_isOffLine : MethodName := ⟨RX6, "isOffLine", "(II)Z"⟩
abbrev nX6_isOffLine : Nat := 92
abbrev cX6_lossOfStep : ByteArray := prog_1_method_26_code
def yX6_lossOfStep : MethodName := ⟨RX6, "lossOfStep", "(III)I"⟩
abbrev nX6_lossOfStep : Nat := 93
abbrev cX6_runs : ByteArray := prog_1_method_27_code
def yX6_runs : MethodName := ⟨RX6, "runs", "()I"⟩
abbrev nX6_runs : Nat := 94
abbrev cX6_isComplete : ByteArray := prog_1_method_28_code
def yX6_isComplete : MethodName := ⟨RX6, "isComplete", "(I)Z"⟩
abbrev nX6_isComplete : Nat := 95
abbrev cX6_time : ByteArray := prog_1_method_29_code
def yX6_time : MethodName := ⟨RX6, "time", "(I)I"⟩
abbrev nX6_time : Nat := 96
abbrev cX6_hasPassed : ByteArray := prog_1_method_30_code
def yX6_hasPassed : MethodName := ⟨RX6, "hasPassed", "(II)Z"⟩
abbrev nX6_hasPassed : Nat := 97
abbrev cX6_pointsOn : ByteArray := prog_1_method_31_code
def yX6_pointsOn : MethodName := ⟨RX6, "pointsOn", "(II)I"⟩
abbrev nX6_pointsOn : Nat := 98
abbrev cX6_score : ByteArray := prog_1_method_32_code
def yX6_score : MethodName := ⟨RX6, "score", "(I)I"⟩
abbrev nX6_score : Nat := 99
abbrev cX6_scoreByLosses : ByteArray := prog_1_method_33_code
def yX6_scoreByLosses : MethodName := ⟨RX6, "scoreByLosses", "(I)I"⟩
abbrev nX6_scoreByLosses : Nat := 100
abbrev cX6_lineLoss : ByteArray := prog_1_method_34_code
def yX6_lineLoss : MethodName := ⟨RX6, "lineLoss", "(I)I"⟩
abbrev nX6_lineLoss : Nat := 101
abbrev cX6_gateLoss : ByteArray := prog_1_method_35_code
def yX6_gateLoss : MethodName := ⟨RX6, "gateLoss", "(I)I"⟩
abbrev nX6_gateLoss : Nat := 102
abbrev cX6_faultLoss : ByteArray := prog_1_method_36_code
def yX6_faultLoss : MethodName := ⟨RX6, "faultLoss", "(I)I"⟩
abbrev nX6_faultLoss : Nat := 103
abbrev cX6_timeLoss : ByteArray := prog_1_method_37_code
def yX6_timeLoss : MethodName := ⟨RX6, "timeLoss", "(I)I"⟩
abbrev nX6_timeLoss : Nat := 104
abbrev cX6_runAt : ByteArray := prog_1_method_38_code
def yX6_runAt : MethodName := ⟨RX6, "runAt", "(I)I"⟩
abbrev nX6_runAt : Nat := 105
abbrev cX6_rankOf : ByteArray := prog_1_method_39_code
def yX6_rankOf : MethodName := ⟨RX6, "rankOf", "(I)I"⟩
abbrev nX6_rankOf : Nat := 106
abbrev cX6_bestOn : ByteArray := prog_1_method_40_code
def yX6_bestOn : MethodName := ⟨RX6, "bestOn", "(I)I"⟩
abbrev nX6_bestOn : Nat := 107
abbrev cX6_meanScore : ByteArray := prog_1_method_41_code
def yX6_meanScore : MethodName := ⟨RX6, "meanScore", "()D"⟩
abbrev nX6_meanScore : Nat := 108
abbrev cX6_passRate : ByteArray := prog_1_method_42_code
def yX6_passRate : MethodName := ⟨RX6, "passRate", "(I)F"⟩
abbrev nX6_passRate : Nat := 109
abbrev cX6_isConsistent : ByteArray := prog_1_method_43_code
def yX6_isConsistent : MethodName := ⟨RX6, "isConsistent", "()Z"⟩
abbrev nX6_isConsistent : Nat := 110
abbrev cX6_writeRun : ByteArray := prog_1_method_44_code
def yX6_writeRun : MethodName := ⟨RX6, "writeRun", "(I)I"⟩
abbrev nX6_writeRun : Nat := 111
abbrev cX6_writeRanking : ByteArray := prog_1_method_45_code
def yX6_writeRanking : MethodName := ⟨RX6, "writeRanking", "()I"⟩
abbrev nX6_writeRanking : Nat := 112
abbrev cX6_charAt : ByteArray := prog_1_method_46_code
def yX6_charAt : MethodName := ⟨RX6, "charAt", "(I)C"⟩
abbrev nX6_charAt : Nat := 113
abbrev cX6_type : ByteArray := prog_1_method_47_code
def yX6_type : MethodName := ⟨RX6, "type", "(C)I"⟩
abbrev nX6_type : Nat := 114
abbrev cX6_execute : ByteArray := prog_1_method_48_code
def yX6_execute : MethodName := ⟨RX6, "execute", "()I"⟩
abbrev nX6_execute : Nat := 115
abbrev cX6_errorPosition : ByteArray := prog_1_method_49_code
def yX6_errorPosition : MethodName := ⟨RX6, "errorPosition", "()I"⟩
abbrev nX6_errorPosition : Nat := 116
abbrev cX6_failedCommand : ByteArray := prog_1_method_50_code
def yX6_failedCommand : MethodName := ⟨RX6, "failedCommand", "()I"⟩
abbrev nX6_failedCommand : Nat := 117
abbrev cX6_undo : ByteArray := prog_1_method_51_code
def yX6_undo : MethodName := ⟨RX6, "undo", "()I"⟩
abbrev nX6_undo : Nat := 118
abbrev cX6_save : ByteArray := prog_1_method_52_code
def yX6_save : MethodName := ⟨RX6, "save", "()I"⟩
abbrev nX6_save : Nat := 119
abbrev cX6_restore : ByteArray := prog_1_method_53_code
def yX6_restore : MethodName := ⟨RX6, "restore", "()I"⟩
abbrev nX6_restore : Nat := 120
abbrev cX6_freshDraft : ByteArray := prog_1_method_54_code
def yX6_freshDraft : MethodName := ⟨RX6, "freshDraft", "()LSheepdogTrial$State;"⟩
abbrev nX6_freshDraft : Nat := 121
abbrev cX6_settle : ByteArray := prog_1_method_55_code
def yX6_settle : MethodName := ⟨RX6, "settle", "(I)I"⟩
abbrev nX6_settle : Nat := 122
abbrev cX6_accepted : ByteArray := prog_1_method_56_code
def yX6_accepted : MethodName := ⟨RX6, "accepted", "(I)I"⟩
abbrev nX6_accepted : Nat := 123
abbrev cX6_requireLeg : ByteArray := prog_1_method_57_code
def yX6_requireLeg : MethodName := ⟨RX6, "requireLeg", "(I)V"⟩
abbrev nX6_requireLeg : Nat := 124
abbrev cX6_requireGate : ByteArray := prog_1_method_58_code
def yX6_requireGate : MethodName := ⟨RX6, "requireGate", "(I)V"⟩
abbrev nX6_requireGate : Nat := 125
abbrev cX6_requireRun : ByteArray := prog_1_method_59_code
def yX6_requireRun : MethodName := ⟨RX6, "requireRun", "(I)V"⟩
abbrev nX6_requireRun : Nat := 126
abbrev cX6_runNumbered : ByteArray := prog_1_method_60_code
def yX6_runNumbered : MethodName := ⟨RX6, "runNumbered", "(I)LSheepdogTrial$Run;"⟩
abbrev nX6_runNumbered : Nat := 127
abbrev cX6_requireRunning : ByteArray := prog_1_method_61_code
def yX6_requireRunning : MethodName := ⟨RX6, "requireRunning", "()V"⟩
abbrev nX6_requireRunning : Nat := 128
abbrev cX6_requirePoint : ByteArray := prog_1_method_62_code
def yX6_requirePoint : MethodName := ⟨RX6, "requirePoint", "(II)V"⟩
abbrev nX6_requirePoint : Nat := 129
abbrev cX6_isPoint : ByteArray := prog_1_method_63_code
def yX6_isPoint : MethodName := ⟨RX6, "isPoint", "(II)Z"⟩
abbrev nX6_isPoint : Nat := 130
abbrev cX6_isWithin : ByteArray := prog_1_method_64_code
def yX6_isWithin : MethodName := ⟨RX6, "isWithin", "(III)Z"⟩
abbrev nX6_isWithin : Nat := 131
abbrev cX7_init : ByteArray := prog_9_method_1_code
def yX7_init : MethodName := ⟨RX7, "<init>", "()V"⟩
abbrev nX7_init : Nat := 132
abbrev cX7_thrown : ByteArray := prog_9_method_2_code
def yX7_thrown : MethodName := ⟨RX7, "thrown", "()I"⟩
abbrev nX7_thrown : Nat := 133
abbrev cX7_throwing : ByteArray := prog_9_method_3_code
def yX7_throwing : MethodName := ⟨RX7, "throwing", "(I)I"⟩
abbrev nX7_throwing : Nat := 134
abbrev cX7_in : ByteArray := prog_9_method_4_code
def yX7_in : MethodName := ⟨RX7, "in", "(JJJ)Z"⟩
abbrev nX7_in : Nat := 135
abbrev cX7_isPoint : ByteArray := prog_9_method_5_code
def yX7_isPoint : MethodName := ⟨RX7, "isPoint", "(II)Z"⟩
abbrev nX7_isPoint : Nat := 136
abbrev cX7_starts : ByteArray := prog_9_method_6_code
def yX7_starts : MethodName := ⟨RX7, "starts", "()V"⟩
abbrev nX7_starts : Nat := 137
abbrev cX7_changed : ByteArray := prog_9_method_7_code
def yX7_changed : MethodName := ⟨RX7, "changed", "(I)I"⟩
abbrev nX7_changed : Nat := 138
abbrev cX7_legAt : ByteArray := prog_9_method_8_code
def yX7_legAt : MethodName := ⟨RX7, "legAt", "(I)I"⟩
abbrev nX7_legAt : Nat := 139
abbrev cX7_gateAt : ByteArray := prog_9_method_9_code
def yX7_gateAt : MethodName := ⟨RX7, "gateAt", "(I)I"⟩
abbrev nX7_gateAt : Nat := 140
abbrev cX7_runAtPlace : ByteArray := prog_9_method_10_code
def yX7_runAtPlace : MethodName := ⟨RX7, "runAtPlace", "(I)I"⟩
abbrev nX7_runAtPlace : Nat := 141
abbrev cX7_isLeg : ByteArray := prog_9_method_11_code
def yX7_isLeg : MethodName := ⟨RX7, "isLeg", "(I)Z"⟩
abbrev nX7_isLeg : Nat := 142
abbrev cX7_isGate : ByteArray := prog_9_method_12_code
def yX7_isGate : MethodName := ⟨RX7, "isGate", "(I)Z"⟩
abbrev nX7_isGate : Nat := 143
abbrev cX7_isRun : ByteArray := prog_9_method_13_code
def yX7_isRun : MethodName := ⟨RX7, "isRun", "(I)Z"⟩
abbrev nX7_isRun : Nat := 144
abbrev cX7_beginOf : ByteArray := prog_9_method_14_code
def yX7_beginOf : MethodName := ⟨RX7, "beginOf", "(I)I"⟩
abbrev nX7_beginOf : Nat := 145
abbrev cX7_side : ByteArray := prog_9_method_15_code
def yX7_side : MethodName := ⟨RX7, "side", "(IIIIII)I"⟩
abbrev nX7_side : Nat := 146
abbrev cX7_isBetween : ByteArray := prog_9_method_16_code
def yX7_isBetween : MethodName := ⟨RX7, "isBetween", "(III)Z"⟩
abbrev nX7_isBetween : Nat := 147
abbrev cX7_isOn : ByteArray := prog_9_method_17_code
def yX7_isOn : MethodName := ⟨RX7, "isOn", "(IIIIII)Z"⟩
abbrev nX7_isOn : Nat := 148
abbrev cX7_meets : ByteArray := prog_9_method_18_code
def yX7_meets : MethodName := ⟨RX7, "meets", "(IIIII)Z"⟩
abbrev nX7_meets : Nat := 149
abbrev cX7_squareOf : ByteArray := prog_9_method_19_code
def yX7_squareOf : MethodName := ⟨RX7, "squareOf", "(II)I"⟩
abbrev nX7_squareOf : Nat := 150
abbrev cX7_isFar : ByteArray := prog_9_method_20_code
def yX7_isFar : MethodName := ⟨RX7, "isFar", "(II)Z"⟩
abbrev nX7_isFar : Nat := 151
abbrev cX7_isFixed : ByteArray := prog_9_method_21_code
def yX7_isFixed : MethodName := ⟨RX7, "isFixed", "()Z"⟩
abbrev nX7_isFixed : Nat := 152
abbrev cX7_startIt : ByteArray := prog_9_method_22_code
def yX7_startIt : MethodName := ⟨RX7, "startIt", "(II)I"⟩
abbrev nX7_startIt : Nat := 153
abbrev cX7_setStart : ByteArray := prog_9_method_23_code
def yX7_setStart : MethodName := ⟨RX7, "setStart", "(II)I"⟩
abbrev nX7_setStart : Nat := 154
abbrev cX7_legIt : ByteArray := prog_9_method_24_code
def yX7_legIt : MethodName := ⟨RX7, "legIt", "(III)I"⟩
abbrev nX7_legIt : Nat := 155
abbrev cX7_addLeg : ByteArray := prog_9_method_25_code
def yX7_addLeg : MethodName := ⟨RX7, "addLeg", "(III)I"⟩
abbrev nX7_addLeg : Nat := 156
abbrev cX7_gateIt : ByteArray := prog_9_method_26_code
def yX7_gateIt : MethodName := ⟨RX7, "gateIt", "(IIIII)I"⟩
abbrev nX7_gateIt : Nat := 157
abbrev cX7_addGate : ByteArray := prog_9_method_27_code
def yX7_addGate : MethodName := ⟨RX7, "addGate", "(IIIII)I"⟩
abbrev nX7_addGate : Nat := 158
abbrev cX7_setsIt : ByteArray := prog_9_method_28_code
def yX7_setsIt : MethodName := ⟨RX7, "setsIt", "(IIII)I"⟩
abbrev nX7_setsIt : Nat := 159
abbrev cX7_setTolerance : ByteArray := prog_9_method_29_code
def yX7_setTolerance : MethodName := ⟨RX7, "setTolerance", "(I)I"⟩
abbrev nX7_setTolerance : Nat := 160
abbrev cX7_setTimeLimit : ByteArray := prog_9_method_30_code
def yX7_setTimeLimit : MethodName := ⟨RX7, "setTimeLimit", "(I)I"⟩
abbrev nX7_setTimeLimit : Nat := 161
abbrev cX7_runIt : ByteArray := prog_9_method_31_code
def yX7_runIt : MethodName := ⟨RX7, "runIt", "()I"⟩
abbrev nX7_runIt : Nat := 162
abbrev cX7_startRun : ByteArray := prog_9_method_32_code
def yX7_startRun : MethodName := ⟨RX7, "startRun", "()I"⟩
abbrev nX7_startRun : Nat := 163
abbrev cX7_loses : ByteArray := prog_9_method_33_code
def yX7_loses : MethodName := ⟨RX7, "loses", "(III)I"⟩
abbrev nX7_loses : Nat := 164
abbrev cX7_losesRest : ByteArray := prog_9_method_34_code
def yX7_losesRest : MethodName := ⟨RX7, "losesRest", "(I)I"⟩
abbrev nX7_losesRest : Nat := 165
abbrev cX7_isPassed : ByteArray := prog_9_method_35_code
def yX7_isPassed : MethodName := ⟨RX7, "isPassed", "(I)Z"⟩
abbrev nX7_isPassed : Nat := 166
abbrev cX7_gatesTo : ByteArray := prog_9_method_36_code
def yX7_gatesTo : MethodName := ⟨RX7, "gatesTo", "(II)I"⟩
abbrev nX7_gatesTo : Nat := 167
abbrev cX7_endsRun : ByteArray := prog_9_method_37_code
def yX7_endsRun : MethodName := ⟨RX7, "endsRun", "()V"⟩
abbrev nX7_endsRun : Nat := 168
abbrev cX7_completesLeg : ByteArray := prog_9_method_38_code
def yX7_completesLeg : MethodName := ⟨RX7, "completesLeg", "()I"⟩
abbrev nX7_completesLeg : Nat := 169
abbrev cX7_walkIt : ByteArray := prog_9_method_39_code
def yX7_walkIt : MethodName := ⟨RX7, "walkIt", "(III)I"⟩
abbrev nX7_walkIt : Nat := 170
abbrev cX7_walk : ByteArray := prog_9_method_40_code
def yX7_walk : MethodName := ⟨RX7, "walk", "(III)I"⟩
abbrev nX7_walk : Nat := 171
abbrev cX7_faultIt : ByteArray := prog_9_method_41_code
def yX7_faultIt : MethodName := ⟨RX7, "faultIt", "(I)I"⟩
abbrev nX7_faultIt : Nat := 172
abbrev cX7_fault : ByteArray := prog_9_method_42_code
def yX7_fault : MethodName := ⟨RX7, "fault", "(I)I"⟩
abbrev nX7_fault : Nat := 173
abbrev cX7_retireIt : ByteArray := prog_9_method_43_code
def yX7_retireIt : MethodName := ⟨RX7, "retireIt", "()I"⟩
abbrev nX7_retireIt : Nat := 174
abbrev cX7_retire : ByteArray := prog_9_method_44_code
def yX7_retire : MethodName := ⟨RX7, "retire", "()I"⟩
abbrev nX7_retire : Nat := 175
abbrev cX7_total : ByteArray := prog_9_method_45_code
def yX7_total : MethodName := ⟨RX7, "total", "(I)I"⟩
abbrev nX7_total : Nat := 176
abbrev cX7_legs : ByteArray := prog_9_method_46_code
def yX7_legs : MethodName := ⟨RX7, "legs", "()I"⟩
abbrev nX7_legs : Nat := 177
abbrev cX7_legPoints : ByteArray := prog_9_method_47_code
def yX7_legPoints : MethodName := ⟨RX7, "legPoints", "(I)I"⟩
abbrev nX7_legPoints : Nat := 178
abbrev cX7_totalPoints : ByteArray := prog_9_method_48_code
def yX7_totalPoints : MethodName := ⟨RX7, "totalPoints", "()I"⟩
abbrev nX7_totalPoints : Nat := 179
abbrev cX7_gates : ByteArray := prog_9_method_49_code
def yX7_gates : MethodName := ⟨RX7, "gates", "()I"⟩
abbrev nX7_gates : Nat := 180
abbrev cX7_legOf : ByteArray := prog_9_method_50_code
def yX7_legOf : MethodName := ⟨RX7, "legOf", "(I)I"⟩
abbrev nX7_legOf : Nat := 181
abbrev cX7_isOnLine : ByteArray := prog_9_method_51_code
def yX7_isOnLine : MethodName := ⟨RX7, "isOnLine", "(I)Z"⟩
abbrev nX7_isOnLine : Nat := 182
abbrev cX7_tolerance : ByteArray := prog_9_method_52_code
def yX7_tolerance : MethodName := ⟨RX7, "tolerance", "()I"⟩
abbrev nX7_tolerance : Nat := 183
abbrev cX7_timeLimit : ByteArray := prog_9_method_53_code
def yX7_timeLimit : MethodName := ⟨RX7, "timeLimit", "()I"⟩
abbrev nX7_timeLimit : Nat := 184
abbrev cX7_isRunning : ByteArray := prog_9_method_54_code
def yX7_isRunning : MethodName := ⟨RX7, "isRunning", "()Z"⟩
abbrev nX7_isRunning : Nat := 185
abbrev cX7_ofGoing : ByteArray := prog_9_method_55_code
def yX7_ofGoing : MethodName := ⟨RX7, "ofGoing", "(I)I"⟩
abbrev nX7_ofGoing : Nat := 186
abbrev cX7_presentLeg : ByteArray := prog_9_method_56_code
def yX7_presentLeg : MethodName := ⟨RX7, "presentLeg", "()I"⟩
abbrev nX7_presentLeg : Nat := 187
abbrev cX7_flockX : ByteArray := prog_9_method_57_code
def yX7_flockX : MethodName := ⟨RX7, "flockX", "()I"⟩
abbrev nX7_flockX : Nat := 188
abbrev cX7_flockY : ByteArray := prog_9_method_58_code
def yX7_flockY : MethodName := ⟨RX7, "flockY", "()I"⟩
abbrev nX7_flockY : Nat := 189
abbrev cX7_nextGate : ByteArray := prog_9_method_59_code
def yX7_nextGate : MethodName := ⟨RX7, "nextGate", "()I"⟩
abbrev nX7_nextGate : Nat := 190
abbrev cX7_asks : ByteArray := prog_9_method_60_code
def yX7_asks : MethodName := ⟨RX7, "asks", "(II)Z"⟩
abbrev nX7_asks : Nat := 191
abbrev cX7_gatesPassedTo : ByteArray := prog_9_method_61_code
def yX7_gatesPassedTo : MethodName := ⟨RX7, "gatesPassedTo", "(II)I"⟩
abbrev nX7_gatesPassedTo : Nat := 192
abbrev cX7_isOffLine : ByteArray := prog_9_method_62_code
def yX7_isOffLine : MethodName := ⟨RX7, "isOffLine", "(II)Z"⟩
abbrev nX7_isOffLine : Nat := 193
abbrev cX7_lossOfStep : ByteArray := prog_9_method_63_code
def yX7_lossOfStep : MethodName := ⟨RX7, "lossOfStep", "(III)I"⟩
abbrev nX7_lossOfStep : Nat := 194
abbrev cX7_runs : ByteArray := prog_9_method_64_code
def yX7_runs : MethodName := ⟨RX7, "runs", "()I"⟩
abbrev nX7_runs : Nat := 195
abbrev cX7_ofRun : ByteArray := prog_9_method_65_code
def yX7_ofRun : MethodName := ⟨RX7, "ofRun", "(II)I"⟩
abbrev nX7_ofRun : Nat := 196
abbrev cX7_isComplete : ByteArray := prog_9_method_66_code
def yX7_isComplete : MethodName := ⟨RX7, "isComplete", "(I)Z"⟩
abbrev nX7_isComplete : Nat := 197
abbrev cX7_time : ByteArray := prog_9_method_67_code
def yX7_time : MethodName := ⟨RX7, "time", "(I)I"⟩
abbrev nX7_time : Nat := 198
abbrev cX7_hasRunPassed : ByteArray := prog_9_method_68_code
def yX7_hasRunPassed : MethodName := ⟨RX7, "hasRunPassed", "(II)Z"⟩
abbrev nX7_hasRunPassed : Nat := 199
abbrev cX7_hasPassed : ByteArray := prog_9_method_69_code
def yX7_hasPassed : MethodName := ⟨RX7, "hasPassed", "(II)Z"⟩
abbrev nX7_hasPassed : Nat := 200
abbrev cX7_pointsOn : ByteArray := prog_9_method_70_code
def yX7_pointsOn : MethodName := ⟨RX7, "pointsOn", "(II)I"⟩
abbrev nX7_pointsOn : Nat := 201
abbrev cX7_scoreOf : ByteArray := prog_9_method_71_code
def yX7_scoreOf : MethodName := ⟨RX7, "scoreOf", "(I)I"⟩
abbrev nX7_scoreOf : Nat := 202
abbrev cX7_score : ByteArray := prog_9_method_72_code
def yX7_score : MethodName := ⟨RX7, "score", "(I)I"⟩
abbrev nX7_score : Nat := 203
abbrev cX7_scoreByLosses : ByteArray := prog_9_method_73_code
def yX7_scoreByLosses : MethodName := ⟨RX7, "scoreByLosses", "(I)I"⟩
abbrev nX7_scoreByLosses : Nat := 204
abbrev cX7_lineLoss : ByteArray := prog_9_method_74_code
def yX7_lineLoss : MethodName := ⟨RX7, "lineLoss", "(I)I"⟩
abbrev nX7_lineLoss : Nat := 205
abbrev cX7_gateLoss : ByteArray := prog_9_method_75_code
def yX7_gateLoss : MethodName := ⟨RX7, "gateLoss", "(I)I"⟩
abbrev nX7_gateLoss : Nat := 206
abbrev cX7_faultLoss : ByteArray := prog_9_method_76_code
def yX7_faultLoss : MethodName := ⟨RX7, "faultLoss", "(I)I"⟩
abbrev nX7_faultLoss : Nat := 207
abbrev cX7_timeLoss : ByteArray := prog_9_method_77_code
def yX7_timeLoss : MethodName := ⟨RX7, "timeLoss", "(I)I"⟩
abbrev nX7_timeLoss : Nat := 208
abbrev cX7_isAhead : ByteArray := prog_9_method_78_code
def yX7_isAhead : MethodName := ⟨RX7, "isAhead", "(II)Z"⟩
abbrev nX7_isAhead : Nat := 209
abbrev cX7_rankOfRun : ByteArray := prog_9_method_79_code
def yX7_rankOfRun : MethodName := ⟨RX7, "rankOfRun", "(I)I"⟩
abbrev nX7_rankOfRun : Nat := 210
abbrev cX7_runRanked : ByteArray := prog_9_method_80_code
def yX7_runRanked : MethodName := ⟨RX7, "runRanked", "(I)I"⟩
abbrev nX7_runRanked : Nat := 211
abbrev cX7_runAt : ByteArray := prog_9_method_81_code
def yX7_runAt : MethodName := ⟨RX7, "runAt", "(I)I"⟩
abbrev nX7_runAt : Nat := 212
abbrev cX7_rankOf : ByteArray := prog_9_method_82_code
def yX7_rankOf : MethodName := ⟨RX7, "rankOf", "(I)I"⟩
abbrev nX7_rankOf : Nat := 213
abbrev cX7_bestOn : ByteArray := prog_9_method_83_code
def yX7_bestOn : MethodName := ⟨RX7, "bestOn", "(I)I"⟩
abbrev nX7_bestOn : Nat := 214
abbrev cX7_meanScore : ByteArray := prog_9_method_84_code
def yX7_meanScore : MethodName := ⟨RX7, "meanScore", "()D"⟩
abbrev nX7_meanScore : Nat := 215
abbrev cX7_passRate : ByteArray := prog_9_method_85_code
def yX7_passRate : MethodName := ⟨RX7, "passRate", "(I)F"⟩
abbrev nX7_passRate : Nat := 216
abbrev cX7_isConsistent : ByteArray := prog_9_method_86_code
def yX7_isConsistent : MethodName := ⟨RX7, "isConsistent", "()Z"⟩
abbrev nX7_isConsistent : Nat := 217
abbrev cX7_sign : ByteArray := prog_9_method_87_code
def yX7_sign : MethodName := ⟨RX7, "sign", "(I)V"⟩
abbrev nX7_sign : Nat := 218
abbrev cX7_writesNumber : ByteArray := prog_9_method_88_code
def yX7_writesNumber : MethodName := ⟨RX7, "writesNumber", "(I)V"⟩
abbrev nX7_writesNumber : Nat := 219
abbrev cX7_writeRun : ByteArray := prog_9_method_89_code
def yX7_writeRun : MethodName := ⟨RX7, "writeRun", "(I)I"⟩
abbrev nX7_writeRun : Nat := 220
abbrev cX7_writeRanking : ByteArray := prog_9_method_90_code
def yX7_writeRanking : MethodName := ⟨RX7, "writeRanking", "()I"⟩
abbrev nX7_writeRanking : Nat := 221
abbrev cX7_charAt : ByteArray := prog_9_method_91_code
def yX7_charAt : MethodName := ⟨RX7, "charAt", "(I)C"⟩
abbrev nX7_charAt : Nat := 222
abbrev cX7_type : ByteArray := prog_9_method_92_code
def yX7_type : MethodName := ⟨RX7, "type", "(C)I"⟩
abbrev nX7_type : Nat := 223
abbrev cX7_here : ByteArray := prog_9_method_93_code
def yX7_here : MethodName := ⟨RX7, "here", "()I"⟩
abbrev nX7_here : Nat := 224
abbrev cX7_expects : ByteArray := prog_9_method_94_code
def yX7_expects : MethodName := ⟨RX7, "expects", "(I)V"⟩
abbrev nX7_expects : Nat := 225
abbrev cX7_digit : ByteArray := prog_9_method_95_code
def yX7_digit : MethodName := ⟨RX7, "digit", "()I"⟩
abbrev nX7_digit : Nat := 226
abbrev cX7_number : ByteArray := prog_9_method_96_code
def yX7_number : MethodName := ⟨RX7, "number", "()I"⟩
abbrev nX7_number : Nat := 227
abbrev cX7_numberBehind : ByteArray := prog_9_method_97_code
def yX7_numberBehind : MethodName := ⟨RX7, "numberBehind", "(I)I"⟩
abbrev nX7_numberBehind : Nat := 228
abbrev cX7_likeness : ByteArray := prog_9_method_98_code
def yX7_likeness : MethodName := ⟨RX7, "likeness", "(I)I"⟩
abbrev nX7_likeness : Nat := 229
abbrev cX7_readArguments : ByteArray := prog_9_method_99_code
def yX7_readArguments : MethodName := ⟨RX7, "readArguments", "(II)V"⟩
abbrev nX7_readArguments : Nat := 230
abbrev cX7_readCommand : ByteArray := prog_9_method_100_code
def yX7_readCommand : MethodName := ⟨RX7, "readCommand", "()V"⟩
abbrev nX7_readCommand : Nat := 231
abbrev cX7_does : ByteArray := prog_9_method_101_code
def yX7_does : MethodName := ⟨RX7, "does", "(I)V"⟩
abbrev nX7_does : Nat := 232
abbrev cX7_execute : ByteArray := prog_9_method_102_code
def yX7_execute : MethodName := ⟨RX7, "execute", "()I"⟩
abbrev nX7_execute : Nat := 233
abbrev cX7_errorPosition : ByteArray := prog_9_method_103_code
def yX7_errorPosition : MethodName := ⟨RX7, "errorPosition", "()I"⟩
abbrev nX7_errorPosition : Nat := 234
abbrev cX7_failedCommand : ByteArray := prog_9_method_104_code
def yX7_failedCommand : MethodName := ⟨RX7, "failedCommand", "()I"⟩
abbrev nX7_failedCommand : Nat := 235
abbrev cX7_undo : ByteArray := prog_9_method_105_code
def yX7_undo : MethodName := ⟨RX7, "undo", "()I"⟩
abbrev nX7_undo : Nat := 236
abbrev cX7_save : ByteArray := prog_9_method_106_code
def yX7_save : MethodName := ⟨RX7, "save", "()I"⟩
abbrev nX7_save : Nat := 237
abbrev cX7_restore : ByteArray := prog_9_method_107_code
def yX7_restore : MethodName := ⟨RX7, "restore", "()I"⟩
abbrev nX7_restore : Nat := 238
abbrev cL_setStart : ByteArray := method_3_code
def yL_setStart : MethodName := ⟨RL, "setStart", "(LSheepdogTrial;II[J)I"⟩
abbrev nL_setStart : Nat := 239
abbrev cL_addLeg : ByteArray := method_4_code
def yL_addLeg : MethodName := ⟨RL, "addLeg", "(LSheepdogTrial;III[J)I"⟩
abbrev nL_addLeg : Nat := 240
abbrev cL_addGate : ByteArray := method_5_code
def yL_addGate : MethodName := ⟨RL, "addGate", "(LSheepdogTrial;IIIII[J)I"⟩
abbrev nL_addGate : Nat := 241
abbrev cL_setTolerance : ByteArray := method_6_code
def yL_setTolerance : MethodName := ⟨RL, "setTolerance", "(LSheepdogTrial;I[J)I"⟩
abbrev nL_setTolerance : Nat := 242
abbrev cL_setTimeLimit : ByteArray := method_7_code
def yL_setTimeLimit : MethodName := ⟨RL, "setTimeLimit", "(LSheepdogTrial;I[J)I"⟩
abbrev nL_setTimeLimit : Nat := 243
abbrev cL_startRun : ByteArray := method_8_code
def yL_startRun : MethodName := ⟨RL, "startRun", "(LSheepdogTrial;[J)I"⟩
abbrev nL_startRun : Nat := 244
abbrev cL_walk : ByteArray := method_9_code
def yL_walk : MethodName := ⟨RL, "walk", "(LSheepdogTrial;III[J)I"⟩
abbrev nL_walk : Nat := 245
abbrev cL_fault : ByteArray := method_10_code
def yL_fault : MethodName := ⟨RL, "fault", "(LSheepdogTrial;I[J)I"⟩
abbrev nL_fault : Nat := 246
abbrev cL_retire : ByteArray := method_11_code
def yL_retire : MethodName := ⟨RL, "retire", "(LSheepdogTrial;[J)I"⟩
abbrev nL_retire : Nat := 247
abbrev cL_legPoints : ByteArray := method_12_code
def yL_legPoints : MethodName := ⟨RL, "legPoints", "(LSheepdogTrial;I[J)I"⟩
abbrev nL_legPoints : Nat := 248
abbrev cL_legOf : ByteArray := method_13_code
def yL_legOf : MethodName := ⟨RL, "legOf", "(LSheepdogTrial;I[J)I"⟩
abbrev nL_legOf : Nat := 249
abbrev cL_isOnLine : ByteArray := method_14_code
def yL_isOnLine : MethodName := ⟨RL, "isOnLine", "(LSheepdogTrial;I[J)I"⟩
abbrev nL_isOnLine : Nat := 250
abbrev cL_presentLeg : ByteArray := method_15_code
def yL_presentLeg : MethodName := ⟨RL, "presentLeg", "(LSheepdogTrial;[J)I"⟩
abbrev nL_presentLeg : Nat := 251
abbrev cL_flockX : ByteArray := method_16_code
def yL_flockX : MethodName := ⟨RL, "flockX", "(LSheepdogTrial;[J)I"⟩
abbrev nL_flockX : Nat := 252
abbrev cL_flockY : ByteArray := method_17_code
def yL_flockY : MethodName := ⟨RL, "flockY", "(LSheepdogTrial;[J)I"⟩
abbrev nL_flockY : Nat := 253
abbrev cL_nextGate : ByteArray := method_18_code
def yL_nextGate : MethodName := ⟨RL, "nextGate", "(LSheepdogTrial;[J)I"⟩
abbrev nL_nextGate : Nat := 254
abbrev cL_gatesPassedTo : ByteArray := method_19_code
def yL_gatesPassedTo : MethodName := ⟨RL, "gatesPassedTo", "(LSheepdogTrial;II[J)I"⟩
abbrev nL_gatesPassedTo : Nat := 255
abbrev cL_isOffLine : ByteArray := method_20_code
def yL_isOffLine : MethodName := ⟨RL, "isOffLine", "(LSheepdogTrial;II[J)I"⟩
abbrev nL_isOffLine : Nat := 256
abbrev cL_lossOfStep : ByteArray := method_21_code
def yL_lossOfStep : MethodName := ⟨RL, "lossOfStep", "(LSheepdogTrial;III[J)I"⟩
abbrev nL_lossOfStep : Nat := 257
abbrev cL_isComplete : ByteArray := method_22_code
def yL_isComplete : MethodName := ⟨RL, "isComplete", "(LSheepdogTrial;I[J)I"⟩
abbrev nL_isComplete : Nat := 258
abbrev cL_time : ByteArray := method_23_code
def yL_time : MethodName := ⟨RL, "time", "(LSheepdogTrial;I[J)I"⟩
abbrev nL_time : Nat := 259
abbrev cL_hasPassed : ByteArray := method_24_code
def yL_hasPassed : MethodName := ⟨RL, "hasPassed", "(LSheepdogTrial;II[J)I"⟩
abbrev nL_hasPassed : Nat := 260
abbrev cL_pointsOn : ByteArray := method_25_code
def yL_pointsOn : MethodName := ⟨RL, "pointsOn", "(LSheepdogTrial;II[J)I"⟩
abbrev nL_pointsOn : Nat := 261
abbrev cL_score : ByteArray := method_26_code
def yL_score : MethodName := ⟨RL, "score", "(LSheepdogTrial;I[J)I"⟩
abbrev nL_score : Nat := 262
abbrev cL_scoreByLosses : ByteArray := method_27_code
def yL_scoreByLosses : MethodName := ⟨RL, "scoreByLosses", "(LSheepdogTrial;I[J)I"⟩
abbrev nL_scoreByLosses : Nat := 263
abbrev cL_lineLoss : ByteArray := method_28_code
def yL_lineLoss : MethodName := ⟨RL, "lineLoss", "(LSheepdogTrial;I[J)I"⟩
abbrev nL_lineLoss : Nat := 264
abbrev cL_gateLoss : ByteArray := method_29_code
def yL_gateLoss : MethodName := ⟨RL, "gateLoss", "(LSheepdogTrial;I[J)I"⟩
abbrev nL_gateLoss : Nat := 265
abbrev cL_faultLoss : ByteArray := method_30_code
def yL_faultLoss : MethodName := ⟨RL, "faultLoss", "(LSheepdogTrial;I[J)I"⟩
abbrev nL_faultLoss : Nat := 266
abbrev cL_timeLoss : ByteArray := method_31_code
def yL_timeLoss : MethodName := ⟨RL, "timeLoss", "(LSheepdogTrial;I[J)I"⟩
abbrev nL_timeLoss : Nat := 267
abbrev cL_runAt : ByteArray := method_32_code
def yL_runAt : MethodName := ⟨RL, "runAt", "(LSheepdogTrial;I[J)I"⟩
abbrev nL_runAt : Nat := 268
abbrev cL_rankOf : ByteArray := method_33_code
def yL_rankOf : MethodName := ⟨RL, "rankOf", "(LSheepdogTrial;I[J)I"⟩
abbrev nL_rankOf : Nat := 269
abbrev cL_bestOn : ByteArray := method_34_code
def yL_bestOn : MethodName := ⟨RL, "bestOn", "(LSheepdogTrial;I[J)I"⟩
abbrev nL_bestOn : Nat := 270
abbrev cL_meanScore : ByteArray := method_35_code
def yL_meanScore : MethodName := ⟨RL, "meanScore", "(LSheepdogTrial;[D)I"⟩
abbrev nL_meanScore : Nat := 271
abbrev cL_passRate : ByteArray := method_36_code
def yL_passRate : MethodName := ⟨RL, "passRate", "(LSheepdogTrial;I[D)I"⟩
abbrev nL_passRate : Nat := 272
abbrev cL_writeRun : ByteArray := method_37_code
def yL_writeRun : MethodName := ⟨RL, "writeRun", "(LSheepdogTrial;I[J)I"⟩
abbrev nL_writeRun : Nat := 273
abbrev cL_charAt : ByteArray := method_38_code
def yL_charAt : MethodName := ⟨RL, "charAt", "(LSheepdogTrial;I[J)I"⟩
abbrev nL_charAt : Nat := 274
abbrev cL_type : ByteArray := method_39_code
def yL_type : MethodName := ⟨RL, "type", "(LSheepdogTrial;C[J)I"⟩
abbrev nL_type : Nat := 275
abbrev cL_execute : ByteArray := method_40_code
def yL_execute : MethodName := ⟨RL, "execute", "(LSheepdogTrial;[J)I"⟩
abbrev nL_execute : Nat := 276
abbrev cL_errorPosition : ByteArray := method_41_code
def yL_errorPosition : MethodName := ⟨RL, "errorPosition", "(LSheepdogTrial;[J)I"⟩
abbrev nL_errorPosition : Nat := 277
abbrev cL_failedCommand : ByteArray := method_42_code
def yL_failedCommand : MethodName := ⟨RL, "failedCommand", "(LSheepdogTrial;[J)I"⟩
abbrev nL_failedCommand : Nat := 278
abbrev cL_undo : ByteArray := method_43_code
def yL_undo : MethodName := ⟨RL, "undo", "(LSheepdogTrial;[J)I"⟩
abbrev nL_undo : Nat := 279
abbrev cL_restore : ByteArray := method_44_code
def yL_restore : MethodName := ⟨RL, "restore", "(LSheepdogTrial;[J)I"⟩
abbrev nL_restore : Nat := 280
abbrev cL_law : ByteArray := code
def yL_law : MethodName := ⟨RL, "law", "([I)Z"⟩
abbrev nL_law : Nat := 281
def aMt0 : List (MethodName × ByteArray × Nat × Option FieldType × List (Nat × Nat × Nat × Nat)) := [(yX0_init, cX0_init, 1, none, []), (yX0_copyFrom, cX0_copyFrom, 2, none, []), (yX0_hasLeg, cX0_hasLeg, 2, (some FieldType.boolean), []), (yX0_sumOfPoints, cX0_sumOfPoints, 3, (some FieldType.int), []), (yX0_legBeginX, cX0_legBeginX, 2, (some FieldType.int), []), (yX0_legBeginY, cX0_legBeginY, 2, (some FieldType.int), []), (yX0_gateMeetsItsLeg, cX0_gateMeetsItsLeg, 3, (some FieldType.boolean), []), (yX0_gateMeets, cX0_gateMeets, 14, (some FieldType.boolean), []), (yX0_side, cX0_side, 6, (some FieldType.int), []), (yX0_isOffLeg, cX0_isOffLeg, 11, (some FieldType.boolean), []), (yX0_isNearEnd, cX0_isNearEnd, 4, (some FieldType.boolean), []), (yX0_squareOfDistance, cX0_squareOfDistance, 4, (some FieldType.int), []), (yX1_init, cX1_init, 2, none, []), (yX1_push, cX1_push, 2, none, []), (yX1_popInto, cX1_popInto, 2, none, []), (yX1_clear, cX1_clear, 1, none, []), (yX2_init, cX2_init, 1, none, []), (yX2_clear, cX2_clear, 1, none, []), (yX2_put, cX2_put, 2, none, []), (yX2_putNumber, cX2_putNumber, 2, none, []), (yX2_putDigit, cX2_putDigit, 2, none, []), (yX3_init, cX3_init, 1, none, []), (yX3_append, cX3_append, 2, none, []), (yX3_clear, cX3_clear, 1, none, []), (yX3_parse, cX3_parse, 2, (some FieldType.int), []), (yX3_parseCommand, cX3_parseCommand, 4, (some FieldType.boolean), []), (yX3_patternOf, cX3_patternOf, 1, (some (FieldType.object "java/lang/String")), []), (yX3_matches, cX3_matches, 7, (some FieldType.boolean), []), (yX3_skipDigits, cX3_skipDigits, 3, none, []), (yX3_valueOfDigits, cX3_valueOfDigits, 5, (some FieldType.int), []), (yX3_performOn, cX3_performOn, 3, (some FieldType.int), []), (yX3_perform, cX3_perform, 7, (some FieldType.int), []), (yX4_init, cX4_init, 1, none, []), (yX4_copyFrom, cX4_copyFrom, 2, none, []), (yX4_begin, cX4_begin, 2, none, []), (yX4_isGatePassed, cX4_isGatePassed, 2, (some FieldType.boolean), []), (yX4_passGate, cX4_passGate, 2, none, []), (yX4_deduct, cX4_deduct, 4, (some FieldType.int), []), (yX4_deductFrom, cX4_deductFrom, 4, (some FieldType.int), []), (yX4_sumOfPoints, cX4_sumOfPoints, 3, (some FieldType.int), [])]
def aMt1 : List (MethodName × ByteArray × Nat × Option FieldType × List (Nat × Nat × Nat × Nat)) := [(yX4_sumOfLosses, cX4_sumOfLosses, 1, (some FieldType.int), []), (yX4_compareForRank, cX4_compareForRank, 4, (some FieldType.int), []), (yX5_init, cX5_init, 2, none, []), (yX5_copyFrom, cX5_copyFrom, 3, none, []), (yX5_placeStart, cX5_placeStart, 3, (some FieldType.int), []), (yX5_appendLeg, cX5_appendLeg, 5, (some FieldType.int), []), (yX5_appendGate, cX5_appendGate, 7, (some FieldType.int), []), (yX5_changeTolerance, cX5_changeTolerance, 3, (some FieldType.int), []), (yX5_changeTimeLimit, cX5_changeTimeLimit, 3, (some FieldType.int), []), (yX5_beginRun, cX5_beginRun, 2, (some FieldType.int), []), (yX5_makeStep, cX5_makeStep, 6, (some FieldType.int), []), (yX5_deductFault, cX5_deductFault, 4, (some FieldType.int), []), (yX5_giveUpRun, cX5_giveUpRun, 3, (some FieldType.int), []), (yX5_passGates, cX5_passGates, 6, (some FieldType.int), []), (yX5_firstOpenGate, cX5_firstOpenGate, 3, (some FieldType.int), []), (yX5_endOverTime, cX5_endOverTime, 3, (some FieldType.int), []), (yX5_leaveLine, cX5_leaveLine, 3, (some FieldType.int), []), (yX5_completeLeg, cX5_completeLeg, 3, (some FieldType.int), []), (yX5_countOpenGates, cX5_countOpenGates, 4, (some FieldType.int), []), (yX5_runGoingOn, cX5_runGoingOn, 1, (some (FieldType.object "SheepdogTrial$Run")), []), (yX5_isGoingOn, cX5_isGoingOn, 2, (some FieldType.boolean), []), (yX5_isRankedBefore, cX5_isRankedBefore, 4, (some FieldType.boolean), []), (yX5_countRunsBefore, cX5_countRunsBefore, 4, (some FieldType.int), []), (yX5_sortRuns, cX5_sortRuns, 4, none, []), (yX5_bestRunOn, cX5_bestRunOn, 4, (some FieldType.int), []), (yX5_sumOfScores, cX5_sumOfScores, 3, (some FieldType.int), []), (yX5_countRunsThrough, cX5_countRunsThrough, 4, (some FieldType.int), []), (yX5_isSound, cX5_isSound, 4, (some FieldType.boolean), []), (yX6_init, cX6_init, 1, none, []), (yX6_setStart, cX6_setStart, 3, (some FieldType.int), []), (yX6_addLeg, cX6_addLeg, 4, (some FieldType.int), []), (yX6_addGate, cX6_addGate, 6, (some FieldType.int), []), (yX6_setTolerance, cX6_setTolerance, 2, (some FieldType.int), []), (yX6_setTimeLimit, cX6_setTimeLimit, 2, (some FieldType.int), []), (yX6_startRun, cX6_startRun, 1, (some FieldType.int), []), (yX6_walk, cX6_walk, 4, (some FieldType.int), []), (yX6_fault, cX6_fault, 2, (some FieldType.int), []), (yX6_retire, cX6_retire, 1, (some FieldType.int), []), (yX6_legs, cX6_legs, 1, (some FieldType.int), []), (yX6_legPoints, cX6_legPoints, 2, (some FieldType.int), [])]
def aMt2 : List (MethodName × ByteArray × Nat × Option FieldType × List (Nat × Nat × Nat × Nat)) := [(yX6_totalPoints, cX6_totalPoints, 1, (some FieldType.int), []), (yX6_gates, cX6_gates, 1, (some FieldType.int), []), (yX6_legOf, cX6_legOf, 2, (some FieldType.int), []), (yX6_isOnLine, cX6_isOnLine, 2, (some FieldType.boolean), []), (yX6_tolerance, cX6_tolerance, 1, (some FieldType.int), []), (yX6_timeLimit, cX6_timeLimit, 1, (some FieldType.int), []), (yX6_isRunning, cX6_isRunning, 1, (some FieldType.boolean), []), (yX6_presentLeg, cX6_presentLeg, 1, (some FieldType.int), []), (yX6_flockX, cX6_flockX, 1, (some FieldType.int), []), (yX6_flockY, cX6_flockY, 1, (some FieldType.int), []), (yX6_nextGate, cX6_nextGate, 2, (some FieldType.int), []), (yX6_gatesPassedTo, cX6_gatesPassedTo, 3, (some FieldType.int), []), (yX6_isOffLine, cX6_isOffLine, 3, (some FieldType.boolean), []), (yX6_lossOfStep, cX6_lossOfStep, 4, (some FieldType.int), []), (yX6_runs, cX6_runs, 1, (some FieldType.int), []), (yX6_isComplete, cX6_isComplete, 2, (some FieldType.boolean), []), (yX6_time, cX6_time, 2, (some FieldType.int), []), (yX6_hasPassed, cX6_hasPassed, 4, (some FieldType.boolean), []), (yX6_pointsOn, cX6_pointsOn, 4, (some FieldType.int), []), (yX6_score, cX6_score, 2, (some FieldType.int), []), (yX6_scoreByLosses, cX6_scoreByLosses, 2, (some FieldType.int), []), (yX6_lineLoss, cX6_lineLoss, 2, (some FieldType.int), []), (yX6_gateLoss, cX6_gateLoss, 2, (some FieldType.int), []), (yX6_faultLoss, cX6_faultLoss, 2, (some FieldType.int), []), (yX6_timeLoss, cX6_timeLoss, 2, (some FieldType.int), []), (yX6_runAt, cX6_runAt, 2, (some FieldType.int), []), (yX6_rankOf, cX6_rankOf, 2, (some FieldType.int), []), (yX6_bestOn, cX6_bestOn, 2, (some FieldType.int), []), (yX6_meanScore, cX6_meanScore, 2, (some FieldType.double), []), (yX6_passRate, cX6_passRate, 3, (some FieldType.float), []), (yX6_isConsistent, cX6_isConsistent, 2, (some FieldType.boolean), []), (yX6_writeRun, cX6_writeRun, 4, (some FieldType.int), []), (yX6_writeRanking, cX6_writeRanking, 3, (some FieldType.int), []), (yX6_charAt, cX6_charAt, 2, (some FieldType.char), []), (yX6_type, cX6_type, 2, (some FieldType.int), []), (yX6_execute, cX6_execute, 3, (some FieldType.int), []), (yX6_errorPosition, cX6_errorPosition, 1, (some FieldType.int), []), (yX6_failedCommand, cX6_failedCommand, 1, (some FieldType.int), []), (yX6_undo, cX6_undo, 1, (some FieldType.int), []), (yX6_save, cX6_save, 1, (some FieldType.int), [])]
def aMt3 : List (MethodName × ByteArray × Nat × Option FieldType × List (Nat × Nat × Nat × Nat)) := [(yX6_restore, cX6_restore, 1, (some FieldType.int), []), (yX6_freshDraft, cX6_freshDraft, 1, (some (FieldType.object "SheepdogTrial$State")), []), (yX6_settle, cX6_settle, 2, (some FieldType.int), []), (yX6_accepted, cX6_accepted, 1, (some FieldType.int), []), (yX6_requireLeg, cX6_requireLeg, 2, none, []), (yX6_requireGate, cX6_requireGate, 2, none, []), (yX6_requireRun, cX6_requireRun, 2, none, []), (yX6_runNumbered, cX6_runNumbered, 2, (some (FieldType.object "SheepdogTrial$Run")), []), (yX6_requireRunning, cX6_requireRunning, 1, none, []), (yX6_requirePoint, cX6_requirePoint, 2, none, []), (yX6_isPoint, cX6_isPoint, 2, (some FieldType.boolean), []), (yX6_isWithin, cX6_isWithin, 3, (some FieldType.boolean), []), (yX7_init, cX7_init, 1, none, []), (yX7_thrown, cX7_thrown, 1, (some FieldType.int), []), (yX7_throwing, cX7_throwing, 2, (some FieldType.int), []), (yX7_in, cX7_in, 6, (some FieldType.boolean), []), (yX7_isPoint, cX7_isPoint, 2, (some FieldType.boolean), []), (yX7_starts, cX7_starts, 2, none, []), (yX7_changed, cX7_changed, 3, (some FieldType.int), []), (yX7_legAt, cX7_legAt, 1, (some FieldType.int), []), (yX7_gateAt, cX7_gateAt, 1, (some FieldType.int), []), (yX7_runAtPlace, cX7_runAtPlace, 1, (some FieldType.int), []), (yX7_isLeg, cX7_isLeg, 2, (some FieldType.boolean), []), (yX7_isGate, cX7_isGate, 2, (some FieldType.boolean), []), (yX7_isRun, cX7_isRun, 2, (some FieldType.boolean), []), (yX7_beginOf, cX7_beginOf, 1, (some FieldType.int), []), (yX7_side, cX7_side, 7, (some FieldType.int), []), (yX7_isBetween, cX7_isBetween, 3, (some FieldType.boolean), []), (yX7_isOn, cX7_isOn, 6, (some FieldType.boolean), []), (yX7_meets, cX7_meets, 14, (some FieldType.boolean), []), (yX7_squareOf, cX7_squareOf, 2, (some FieldType.int), []), (yX7_isFar, cX7_isFar, 14, (some FieldType.boolean), []), (yX7_isFixed, cX7_isFixed, 1, (some FieldType.boolean), []), (yX7_startIt, cX7_startIt, 3, (some FieldType.int), []), (yX7_setStart, cX7_setStart, 3, (some FieldType.int), []), (yX7_legIt, cX7_legIt, 5, (some FieldType.int), []), (yX7_addLeg, cX7_addLeg, 4, (some FieldType.int), []), (yX7_gateIt, cX7_gateIt, 7, (some FieldType.int), []), (yX7_addGate, cX7_addGate, 6, (some FieldType.int), []), (yX7_setsIt, cX7_setsIt, 6, (some FieldType.int), [])]
def aMt4 : List (MethodName × ByteArray × Nat × Option FieldType × List (Nat × Nat × Nat × Nat)) := [(yX7_setTolerance, cX7_setTolerance, 2, (some FieldType.int), []), (yX7_setTimeLimit, cX7_setTimeLimit, 2, (some FieldType.int), []), (yX7_runIt, cX7_runIt, 3, (some FieldType.int), []), (yX7_startRun, cX7_startRun, 1, (some FieldType.int), []), (yX7_loses, cX7_loses, 6, (some FieldType.int), []), (yX7_losesRest, cX7_losesRest, 4, (some FieldType.int), []), (yX7_isPassed, cX7_isPassed, 2, (some FieldType.boolean), []), (yX7_gatesTo, cX7_gatesTo, 6, (some FieldType.int), []), (yX7_endsRun, cX7_endsRun, 1, none, []), (yX7_completesLeg, cX7_completesLeg, 3, (some FieldType.int), []), (yX7_walkIt, cX7_walkIt, 7, (some FieldType.int), []), (yX7_walk, cX7_walk, 4, (some FieldType.int), []), (yX7_faultIt, cX7_faultIt, 2, (some FieldType.int), []), (yX7_fault, cX7_fault, 2, (some FieldType.int), []), (yX7_retireIt, cX7_retireIt, 2, (some FieldType.int), []), (yX7_retire, cX7_retire, 1, (some FieldType.int), []), (yX7_total, cX7_total, 2, (some FieldType.int), []), (yX7_legs, cX7_legs, 1, (some FieldType.int), []), (yX7_legPoints, cX7_legPoints, 2, (some FieldType.int), []), (yX7_totalPoints, cX7_totalPoints, 3, (some FieldType.int), []), (yX7_gates, cX7_gates, 1, (some FieldType.int), []), (yX7_legOf, cX7_legOf, 2, (some FieldType.int), []), (yX7_isOnLine, cX7_isOnLine, 4, (some FieldType.boolean), []), (yX7_tolerance, cX7_tolerance, 1, (some FieldType.int), []), (yX7_timeLimit, cX7_timeLimit, 1, (some FieldType.int), []), (yX7_isRunning, cX7_isRunning, 1, (some FieldType.boolean), []), (yX7_ofGoing, cX7_ofGoing, 2, (some FieldType.int), []), (yX7_presentLeg, cX7_presentLeg, 1, (some FieldType.int), []), (yX7_flockX, cX7_flockX, 1, (some FieldType.int), []), (yX7_flockY, cX7_flockY, 1, (some FieldType.int), []), (yX7_nextGate, cX7_nextGate, 2, (some FieldType.int), []), (yX7_asks, cX7_asks, 3, (some FieldType.boolean), []), (yX7_gatesPassedTo, cX7_gatesPassedTo, 6, (some FieldType.int), []), (yX7_isOffLine, cX7_isOffLine, 3, (some FieldType.boolean), []), (yX7_lossOfStep, cX7_lossOfStep, 6, (some FieldType.int), []), (yX7_runs, cX7_runs, 1, (some FieldType.int), []), (yX7_ofRun, cX7_ofRun, 3, (some FieldType.int), []), (yX7_isComplete, cX7_isComplete, 2, (some FieldType.boolean), []), (yX7_time, cX7_time, 2, (some FieldType.int), []), (yX7_hasRunPassed, cX7_hasRunPassed, 3, (some FieldType.boolean), [])]
def aMt5 : List (MethodName × ByteArray × Nat × Option FieldType × List (Nat × Nat × Nat × Nat)) := [(yX7_hasPassed, cX7_hasPassed, 3, (some FieldType.boolean), []), (yX7_pointsOn, cX7_pointsOn, 3, (some FieldType.int), []), (yX7_scoreOf, cX7_scoreOf, 4, (some FieldType.int), []), (yX7_score, cX7_score, 2, (some FieldType.int), []), (yX7_scoreByLosses, cX7_scoreByLosses, 2, (some FieldType.int), []), (yX7_lineLoss, cX7_lineLoss, 2, (some FieldType.int), []), (yX7_gateLoss, cX7_gateLoss, 2, (some FieldType.int), []), (yX7_faultLoss, cX7_faultLoss, 2, (some FieldType.int), []), (yX7_timeLoss, cX7_timeLoss, 2, (some FieldType.int), []), (yX7_isAhead, cX7_isAhead, 5, (some FieldType.boolean), []), (yX7_rankOfRun, cX7_rankOfRun, 4, (some FieldType.int), []), (yX7_runRanked, cX7_runRanked, 3, (some FieldType.int), []), (yX7_runAt, cX7_runAt, 3, (some FieldType.int), []), (yX7_rankOf, cX7_rankOf, 2, (some FieldType.int), []), (yX7_bestOn, cX7_bestOn, 4, (some FieldType.int), []), (yX7_meanScore, cX7_meanScore, 3, (some FieldType.double), []), (yX7_passRate, cX7_passRate, 4, (some FieldType.float), []), (yX7_isConsistent, cX7_isConsistent, 1, (some FieldType.boolean), []), (yX7_sign, cX7_sign, 2, none, []), (yX7_writesNumber, cX7_writesNumber, 3, none, []), (yX7_writeRun, cX7_writeRun, 3, (some FieldType.int), []), (yX7_writeRanking, cX7_writeRanking, 2, (some FieldType.int), []), (yX7_charAt, cX7_charAt, 2, (some FieldType.char), []), (yX7_type, cX7_type, 2, (some FieldType.int), []), (yX7_here, cX7_here, 1, (some FieldType.int), []), (yX7_expects, cX7_expects, 2, none, []), (yX7_digit, cX7_digit, 2, (some FieldType.int), []), (yX7_number, cX7_number, 3, (some FieldType.int), []), (yX7_numberBehind, cX7_numberBehind, 2, (some FieldType.int), []), (yX7_likeness, cX7_likeness, 4, (some FieldType.int), []), (yX7_readArguments, cX7_readArguments, 3, none, []), (yX7_readCommand, cX7_readCommand, 4, none, []), (yX7_does, cX7_does, 5, none, []), (yX7_execute, cX7_execute, 4, (some FieldType.int), []), (yX7_errorPosition, cX7_errorPosition, 1, (some FieldType.int), []), (yX7_failedCommand, cX7_failedCommand, 1, (some FieldType.int), []), (yX7_undo, cX7_undo, 2, (some FieldType.int), []), (yX7_save, cX7_save, 2, (some FieldType.int), []), (yX7_restore, cX7_restore, 2, (some FieldType.int), []), (yL_setStart, cL_setStart, 5, (some FieldType.int), [(0, 10, 13, 13), (0, 10, 17, 15)])]
def aMt6 : List (MethodName × ByteArray × Nat × Option FieldType × List (Nat × Nat × Nat × Nat)) := [(yL_addLeg, cL_addLeg, 6, (some FieldType.int), [(0, 12, 15, 13), (0, 12, 19, 15)]), (yL_addGate, cL_addGate, 8, (some FieldType.int), [(0, 16, 19, 25), (0, 16, 23, 13), (0, 16, 27, 15)]), (yL_setTolerance, cL_setTolerance, 4, (some FieldType.int), [(0, 9, 12, 13), (0, 9, 15, 15)]), (yL_setTimeLimit, cL_setTimeLimit, 4, (some FieldType.int), [(0, 9, 12, 13), (0, 9, 15, 15)]), (yL_startRun, cL_startRun, 3, (some FieldType.int), [(0, 8, 11, 15)]), (yL_walk, cL_walk, 6, (some FieldType.int), [(0, 12, 15, 13), (0, 12, 19, 15)]), (yL_fault, cL_fault, 4, (some FieldType.int), [(0, 9, 12, 13), (0, 9, 15, 15)]), (yL_retire, cL_retire, 3, (some FieldType.int), [(0, 8, 11, 15)]), (yL_legPoints, cL_legPoints, 4, (some FieldType.int), [(0, 9, 12, 25)]), (yL_legOf, cL_legOf, 4, (some FieldType.int), [(0, 9, 12, 25)]), (yL_isOnLine, cL_isOnLine, 4, (some FieldType.int), [(0, 16, 19, 25)]), (yL_presentLeg, cL_presentLeg, 3, (some FieldType.int), [(0, 8, 11, 15)]), (yL_flockX, cL_flockX, 3, (some FieldType.int), [(0, 8, 11, 15)]), (yL_flockY, cL_flockY, 3, (some FieldType.int), [(0, 8, 11, 15)]), (yL_nextGate, cL_nextGate, 3, (some FieldType.int), [(0, 8, 11, 15), (0, 8, 14, 69)]), (yL_gatesPassedTo, cL_gatesPassedTo, 5, (some FieldType.int), [(0, 10, 13, 13), (0, 10, 17, 15)]), (yL_isOffLine, cL_isOffLine, 5, (some FieldType.int), [(0, 17, 20, 13), (0, 17, 24, 15)]), (yL_lossOfStep, cL_lossOfStep, 6, (some FieldType.int), [(0, 12, 15, 13), (0, 12, 19, 15)]), (yL_isComplete, cL_isComplete, 4, (some FieldType.int), [(0, 16, 19, 25)]), (yL_time, cL_time, 4, (some FieldType.int), [(0, 9, 12, 25)]), (yL_hasPassed, cL_hasPassed, 5, (some FieldType.int), [(0, 17, 20, 25)]), (yL_pointsOn, cL_pointsOn, 5, (some FieldType.int), [(0, 10, 13, 25)]), (yL_score, cL_score, 4, (some FieldType.int), [(0, 9, 12, 25)]), (yL_scoreByLosses, cL_scoreByLosses, 4, (some FieldType.int), [(0, 9, 12, 25)]), (yL_lineLoss, cL_lineLoss, 4, (some FieldType.int), [(0, 9, 12, 25)]), (yL_gateLoss, cL_gateLoss, 4, (some FieldType.int), [(0, 9, 12, 25)]), (yL_faultLoss, cL_faultLoss, 4, (some FieldType.int), [(0, 9, 12, 25)]), (yL_timeLoss, cL_timeLoss, 4, (some FieldType.int), [(0, 9, 12, 25)]), (yL_runAt, cL_runAt, 4, (some FieldType.int), [(0, 9, 12, 69)]), (yL_rankOf, cL_rankOf, 4, (some FieldType.int), [(0, 9, 12, 25)]), (yL_bestOn, cL_bestOn, 4, (some FieldType.int), [(0, 9, 12, 25), (0, 9, 15, 69)]), (yL_meanScore, cL_meanScore, 3, (some FieldType.int), [(0, 7, 10, 124)]), (yL_passRate, cL_passRate, 4, (some FieldType.int), [(0, 9, 12, 25), (0, 9, 15, 124)]), (yL_writeRun, cL_writeRun, 4, (some FieldType.int), [(0, 9, 12, 25)]), (yL_charAt, cL_charAt, 4, (some FieldType.int), [(0, 9, 12, 25)]), (yL_type, cL_type, 4, (some FieldType.int), [(0, 9, 12, 15)]), (yL_execute, cL_execute, 3, (some FieldType.int), [(0, 8, 11, 13), (0, 8, 14, 144)]), (yL_errorPosition, cL_errorPosition, 3, (some FieldType.int), [(0, 8, 11, 69)]), (yL_failedCommand, cL_failedCommand, 3, (some FieldType.int), [(0, 8, 11, 69)]), (yL_undo, cL_undo, 3, (some FieldType.int), [(0, 8, 11, 15)])]
def aMt7 : List (MethodName × ByteArray × Nat × Option FieldType × List (Nat × Nat × Nat × Nat)) := [(yL_restore, cL_restore, 3, (some FieldType.int), [(0, 8, 11, 15)]), (yL_law, cL_law, 9, (some FieldType.boolean), [])]
/-- a method by its number: name, code, room for locals, answer, handlers -/
def aMs : List (MethodName × ByteArray × Nat × Option FieldType × List (Nat × Nat × Nat × Nat)) := aMt0 ++ (aMt1 ++ (aMt2 ++ (aMt3 ++ (aMt4 ++ (aMt5 ++ (aMt6 ++ (aMt7)))))))
def aMt (y : Nat) : MethodName × ByteArray × Nat × Option FieldType × List (Nat × Nat × Nat × Nat) := aMs.getD y (yL_law, cL_law, 9, none, [])
/-- a word that stays true as the machine warms up -/
def aWarm (w : Cond) : Bool := goodWord w || match w with
  | .castable .. => true
  | .declares .. => true
  | .methodLinkNest .. => true
  | _ => false
def aIn (w : Cond) : Bool := decide (w ∈ lw_tbl) && aWarm w
abbrev aEx : List String := ["java/lang/IllegalArgumentException", "java/lang/IllegalStateException", "java/lang/IndexOutOfBoundsException", "java/util/NoSuchElementException", "java/lang/ArithmeticException", "java/lang/UnsupportedOperationException"]
/-- fields by the pools: class, place in its pool; class of the field, its place -/
def aPfs : List (Nat × Nat × Nat × Nat) := [(0, 9, 0, 0), (0, 15, 0, 1), (0, 18, 0, 2), (0, 21, 0, 3), (0, 24, 0, 4), (0, 27, 0, 5), (0, 31, 0, 6), (0, 34, 0, 7), (0, 37, 0, 8), (0, 40, 0, 9), (0, 43, 0, 10), (0, 46, 0, 11), (0, 49, 0, 12), (0, 52, 0, 13), (1, 11, 1, 0), (1, 17, 1, 1), (1, 21, 1, 2), (2, 9, 2, 0), (2, 13, 2, 1), (3, 11, 3, 0), (3, 15, 3, 1), (3, 19, 3, 2), (3, 22, 3, 3), (3, 26, 3, 4), (3, 29, 3, 5), (4, 9, 4, 0), (4, 15, 4, 1), (4, 19, 4, 2), (4, 22, 4, 3), (4, 26, 4, 4), (4, 29, 4, 5), (4, 32, 4, 6), (4, 35, 4, 7), (4, 38, 4, 8), (4, 47, 0, 4), (4, 50, 0, 7), (5, 12, 5, 0), (5, 20, 5, 1), (5, 24, 5, 2), (5, 28, 5, 3), (5, 32, 5, 4), (5, 35, 5, 5), (5, 38, 5, 6), (5, 53, 0, 0), (5, 56, 0, 1), (5, 59, 0, 4), (5, 66, 0, 5), (5, 70, 0, 6), (5, 73, 0, 7), (5, 80, 0, 8), (5, 83, 0, 9), (5, 86, 0, 10), (5, 89, 0, 11), (5, 92, 0, 12), (5, 95, 0, 13), (5, 98, 0, 2), (5, 101, 0, 3), (5, 111, 4, 0), (5, 134, 4, 7), (5, 156, 4, 8), (5, 162, 4, 5), (5, 168, 4, 6), (5, 171, 4, 1), (5, 185, 4, 3), (6, 10, 6, 0), (6, 16, 6, 1), (6, 19, 6, 2), (6, 22, 6, 3), (6, 29, 6, 4), (6, 33, 6, 5), (6, 40, 6, 6), (6, 47, 6, 7), (6, 51, 6, 8), (6, 55, 6, 9), (6, 97, 5, 0), (6, 101, 0, 4), (6, 110, 0, 7), (6, 116, 0, 8), (6, 122, 0, 9), (6, 129, 0, 2), (6, 132, 0, 3), (6, 135, 5, 3), (6, 141, 5, 4), (6, 144, 5, 5), (6, 147, 5, 6), (6, 174, 5, 2), (6, 181, 4, 1), (6, 186, 4, 0), (6, 192, 4, 3), (6, 199, 4, 5), (6, 202, 4, 6), (6, 205, 4, 7), (6, 208, 4, 8), (6, 246, 4, 2), (6, 254, 2, 1), (6, 257, 5, 1), (6, 266, 2, 0), (6, 270, 3, 1), (6, 297, 3, 2), (6, 304, 1, 2), (7, 9, 7, 0), (7, 13, 7, 1), (7, 16, 7, 2), (7, 19, 7, 3), (7, 22, 7, 5), (7, 25, 7, 7), (7, 29, 7, 8), (7, 32, 7, 10), (7, 35, 7, 12), (7, 38, 7, 14), (7, 42, 7, 15), (7, 45, 7, 16), (7, 48, 7, 9), (7, 57, 7, 6), (7, 213, 7, 13), (7, 223, 7, 11), (7, 226, 7, 18), (7, 229, 7, 19), (7, 232, 7, 20), (7, 255, 7, 17), (7, 271, 7, 4)]
def aPfW (q : Nat × Nat × Nat × Nat) : Cond := .fieldLink (aRn q.1) q.2.1 (aTX q.2.2.1 q.2.2.2).1 (aTX q.2.2.1 q.2.2.2).2.1 (aTX q.2.2.1 q.2.2.2).2.2.1
set_option maxRecDepth 100000 in
theorem aPfs_at : aPfs.map aPfW = [108, 110, 112, 115, 118, 122, 124, 126, 130, 133, 136, 138, 140, 142, 262, 263, 264, 279, 281, 295, 296, 298, 300, 301, 302, 181, 184, 187, 189, 192, 193, 196, 199, 202, 119, 127, 224, 226, 228, 230, 232, 234, 236, 109, 111, 120, 123, 125, 128, 131, 134, 137, 139, 141, 143, 113, 116, 182, 200, 203, 194, 197, 185, 190, 316, 317, 318, 319, 320, 321, 322, 323, 324, 325, 225, 121, 129, 132, 135, 114, 117, 231, 233, 235, 237, 229, 186, 183, 191, 195, 198, 201, 204, 188, 282, 227, 280, 297, 299, 265, 1260, 1261, 1262, 1263, 1265, 1267, 1268, 1270, 1272, 1274, 1275, 1276, 1269, 1266, 1273, 1271, 1278, 1279, 1280, 1277, 1264].filterMap (fun i => lw_tbl[i]?) := rfl
set_option maxRecDepth 100000 in
theorem aPfs_ok : aPfs.all (fun q => aWarm (aPfW q) && decide (q.2.2.2 < (aFl q.2.2.1).length) && decide (q.2.2.1 < 8)) = true := by decide +kernel
def aWd (y : Nat) : Cond := match (aMt y).2.2.2.2 with
  | [] => .code (aMt y).1 (aMt y).2.1 (aMt y).2.2.1 (aMt y).2.2.2.1
  | h => .codeWith (aMt y).1 (aMt y).2.1 (aMt y).2.2.1 (aMt y).2.2.2.1 h
def aObjW : List Cond := [.instanceMethod objectInit, .code objectInit ⟨#[0xb1]⟩ 1 none]
def aPmW (q : Nat × Nat × Nat × Nat) : List Cond :=
  let o := aRn q.1; let i := q.2.1; let y := q.2.2.2; let m := (aMt y).1
  match q.2.2.1 with
  | 0 => [.methodLink o i m, .instanceMethod m, .selects m.cls m m, .initialized m.cls, aWd y]
  | 1 => [.methodLink o i m, .static m, .initialized m.cls, aWd y]
  | 2 => [.methodLink o i objectInit, .instanceMethod objectInit, .code objectInit ⟨#[0xb1]⟩ 1 none]
  | 3 => [.methodLink o i m, .instanceMethod m, .initialized m.cls, aWd y]
  | 4 => [.methodLinkNest o i m "SheepdogTrial", .instanceMethod m, .initialized m.cls, aWd y]
  | 5 => [.methodLinkNest o i m "SheepdogTrial", .static m, .initialized m.cls, aWd y]
  | 6 => [.methodLink o i Lib.Math.max.name, .static Lib.Math.max.name, .initialized "java/lang/Math", .code Lib.Math.max.name Lib.Math.max.code 2 (some .int)]
  | 7 => [.methodLink o i Lib.Math.min.name, .static Lib.Math.min.name, .initialized "java/lang/Math", .code Lib.Math.min.name Lib.Math.min.code 2 (some .int)]
  | 8 => [.methodLink o i arraycopyName, .native arraycopyName, .static arraycopyName, .initialized "java/lang/System"]
  | _ => []
def aPmT (q : Nat × Nat × Nat × Nat) : Bool :=
  let y := q.2.2.2; let m := (aMt y).1
  match q.2.2.1 with
  | 0 | 1 | 3 | 4 | 5 => decide (m.cls ≠ "java/lang/invoke/MethodHandle") && decide (m.cls ≠ "java/lang/invoke/VarHandle") && plainName m.cls && decide ((aMt y).2.2.1 ≤ 40) && decide (q.2.2.1 = 1 → m.cls = aRn q.1) && decide (q.2.2.1 = 3 ∨ q.2.2.1 = 4 → m.name = "<init>" ∧ (aMt y).2.2.2.1 = none)
  | _ => true
def aPms0 : List (Nat × Nat × Nat × Nat) := [(0, 3, 2, 0), (0, 55, 8, 0), (0, 61, 0, 4), (0, 65, 0, 5), (0, 68, 0, 7), (0, 72, 6, 0), (0, 78, 7, 0), (0, 81, 1, 8), (0, 85, 1, 11), (1, 3, 2, 0), (1, 24, 3, 42), (1, 25, 0, 43), (1, 29, 7, 0), (2, 1, 2, 0), (2, 17, 0, 20), (2, 21, 0, 18), (3, 5, 2, 0), (3, 32, 0, 25), (3, 36, 1, 26), (3, 40, 0, 27), (3, 44, 6, 0), (3, 68, 9, 0), (3, 73, 10, 0), (3, 77, 0, 28), (3, 81, 0, 29), (3, 84, 7, 0), (3, 87, 5, 131), (3, 91, 0, 31), (3, 95, 0, 44), (3, 100, 0, 45)]
set_option maxRecDepth 100000 in
theorem aPms_at0 : aPms0.flatMap aPmW = [107, 94, 95, 451, 453, 452, 72, 750, 751, 752, 66, 753, 754, 755, 756, 66, 757, 831, 730, 731, 66, 732, 733, 702, 79, 703, 734, 599, 79, 600, 735, 736, 66, 737, 758, 759, 66, 760, 258, 94, 95, 261, 99, 65, 100, 597, 444, 445, 65, 446, 598, 599, 79, 600, 278, 94, 95, 433, 435, 1, 69, 436, 437, 426, 427, 69, 428, 294, 94, 95, 1097, 1099, 15, 70, 1100, 1101, 1102, 70, 1103, 1113, 1115, 16, 70, 1116, 1175, 702, 79, 703, 1165, 1167, 17, 70, 1168, 1171, 1173, 18, 70, 1174, 1169, 599, 79, 600, 1170, 480, 64, 481, 1185, 1187, 19, 70, 1188, 1189, 473, 474, 65, 475, 1190, 609, 610, 65, 611].filterMap (fun i => lw_tbl[i]?) := rfl
set_option maxRecDepth 100000 in
theorem aPms_ok0 : aPms0.all (fun q => (aPmW q).all aWarm && aPmT q) = true := by decide +kernel
def aPms1 : List (Nat × Nat × Nat × Nat) := [(3, 104, 0, 46), (3, 108, 0, 48), (3, 112, 0, 47), (3, 115, 0, 49), (3, 118, 0, 50), (3, 121, 0, 51), (3, 124, 0, 52), (4, 3, 2, 0), (4, 41, 8, 0), (4, 53, 7, 0), (4, 59, 0, 37), (4, 62, 0, 39), (5, 3, 2, 0), (5, 11, 4, 0), (5, 41, 4, 32), (5, 42, 0, 1), (5, 46, 0, 33), (5, 49, 5, 130), (5, 62, 5, 131), (5, 76, 0, 2), (5, 104, 0, 34), (5, 107, 0, 59), (5, 114, 0, 55), (5, 118, 0, 53), (5, 122, 0, 56), (5, 125, 0, 10), (5, 128, 0, 57), (5, 131, 0, 37), (5, 137, 0, 38), (5, 141, 0, 54)]
set_option maxRecDepth 100000 in
theorem aPms_at1 : aPms1.flatMap aPmW = [1191, 642, 643, 65, 644, 1192, 668, 669, 65, 670, 1193, 657, 658, 65, 659, 1194, 679, 680, 65, 681, 1195, 694, 695, 65, 696, 1196, 782, 783, 65, 784, 1197, 793, 794, 65, 795, 180, 94, 95, 458, 453, 452, 72, 716, 599, 79, 600, 712, 713, 714, 67, 715, 395, 396, 397, 67, 398, 101, 94, 95, 104, 105, 66, 106, 177, 178, 67, 179, 447, 448, 449, 66, 450, 454, 455, 456, 67, 457, 476, 477, 64, 478, 612, 480, 64, 481, 645, 646, 647, 66, 648, 682, 683, 684, 67, 685, 697, 699, 5, 65, 700, 704, 706, 6, 65, 707, 717, 718, 719, 65, 720, 742, 744, 7, 65, 745, 762, 763, 764, 66, 765, 766, 768, 8, 65, 769, 761, 713, 714, 67, 715, 708, 709, 710, 67, 711, 721, 722, 723, 65, 724].filterMap (fun i => lw_tbl[i]?) := rfl
set_option maxRecDepth 100000 in
theorem aPms_ok1 : aPms1.all (fun q => (aPmW q).all aWarm && aPmT q) = true := by decide +kernel
def aPms2 : List (Nat × Nat × Nat × Nat) := [(5, 145, 0, 7), (5, 149, 0, 36), (5, 153, 0, 35), (5, 159, 0, 9), (5, 165, 0, 58), (5, 174, 6, 0), (5, 179, 0, 41), (5, 182, 0, 61), (5, 188, 0, 39), (5, 191, 0, 3), (5, 192, 0, 40), (5, 195, 0, 60), (6, 1, 2, 0), (6, 9, 3, 42), (6, 28, 3, 12), (6, 39, 4, 16), (6, 46, 4, 21), (6, 58, 0, 121), (6, 62, 0, 44), (6, 66, 0, 122), (6, 70, 0, 45), (6, 74, 0, 46), (6, 78, 0, 47), (6, 81, 0, 48), (6, 84, 0, 49), (6, 88, 0, 50), (6, 91, 0, 51), (6, 94, 0, 52), (6, 106, 0, 124), (6, 113, 0, 3)]
set_option maxRecDepth 100000 in
theorem aPms_at2 : aPms2.flatMap aPmW = [729, 730, 731, 66, 732, 738, 739, 740, 67, 741, 725, 726, 727, 67, 728, 746, 747, 748, 66, 749, 770, 772, 9, 65, 773, 701, 702, 79, 703, 391, 392, 393, 67, 394, 387, 389, 0, 65, 390, 407, 396, 397, 67, 398, 408, 356, 357, 66, 358, 409, 410, 411, 67, 412, 413, 414, 415, 65, 416, 93, 94, 95, 98, 99, 65, 100, 255, 256, 68, 257, 275, 276, 69, 277, 291, 292, 70, 293, 468, 470, 2, 64, 471, 472, 473, 474, 65, 475, 482, 484, 3, 64, 485, 608, 609, 610, 65, 611, 641, 642, 643, 65, 644, 656, 657, 658, 65, 659, 667, 668, 669, 65, 670, 678, 679, 680, 65, 681, 693, 694, 695, 65, 696, 781, 782, 783, 65, 784, 792, 793, 794, 65, 795, 803, 805, 10, 64, 806, 355, 356, 357, 66, 358].filterMap (fun i => lw_tbl[i]?) := rfl
set_option maxRecDepth 100000 in
theorem aPms_ok2 : aPms2.all (fun q => (aPmW q).all aWarm && aPmT q) = true := by decide +kernel
def aPms3 : List (Nat × Nat × Nat × Nat) := [(6, 119, 0, 125), (6, 125, 0, 6), (6, 138, 0, 128), (6, 150, 0, 54), (6, 160, 1, 129), (6, 164, 0, 53), (6, 167, 0, 9), (6, 171, 1, 123), (6, 177, 0, 127), (6, 189, 0, 35), (6, 195, 0, 39), (6, 196, 0, 40), (6, 213, 0, 63), (6, 217, 0, 126), (6, 220, 0, 62), (6, 225, 0, 64), (6, 231, 0, 65), (6, 234, 0, 66), (6, 237, 0, 67), (6, 240, 0, 17), (6, 243, 0, 19), (6, 247, 0, 18), (6, 251, 0, 60), (6, 276, 0, 22), (6, 279, 0, 24), (6, 282, 0, 23), (6, 288, 0, 30), (6, 309, 0, 14), (6, 313, 0, 43), (6, 318, 0, 15)]
set_option maxRecDepth 100000 in
theorem aPms_at3 : aPms3.flatMap aPmW = [815, 817, 11, 64, 818, 827, 828, 829, 66, 830, 839, 841, 12, 64, 842, 866, 722, 723, 65, 724, 890, 891, 64, 892, 895, 718, 719, 65, 720, 903, 747, 748, 66, 749, 486, 487, 64, 488, 918, 920, 13, 64, 921, 941, 726, 727, 67, 728, 438, 396, 397, 67, 398, 963, 410, 411, 67, 412, 383, 384, 385, 65, 386, 922, 924, 14, 64, 925, 399, 400, 401, 65, 402, 1015, 1016, 1017, 65, 1018, 1042, 1043, 1044, 65, 1045, 1053, 1054, 1055, 65, 1056, 403, 404, 405, 65, 406, 421, 422, 423, 69, 424, 429, 430, 431, 69, 432, 425, 426, 427, 69, 428, 1064, 414, 415, 65, 416, 1081, 1082, 1083, 70, 1084, 1093, 1094, 1095, 70, 1096, 1176, 1177, 1178, 70, 1179, 1181, 1182, 1183, 70, 1184, 1238, 1239, 1240, 68, 1241, 443, 444, 445, 65, 446, 1250, 1251, 1252, 68, 1253].filterMap (fun i => lw_tbl[i]?) := rfl
set_option maxRecDepth 100000 in
theorem aPms_ok3 : aPms3.all (fun q => (aPmW q).all aWarm && aPmT q) = true := by decide +kernel
def aPms4 : List (Nat × Nat × Nat × Nat) := [(6, 319, 0, 13), (6, 328, 0, 2), (6, 337, 1, 130), (6, 343, 1, 131), (7, 1, 2, 0), (7, 53, 1, 135), (7, 60, 1, 139), (7, 64, 7, 0), (7, 70, 6, 0), (7, 73, 1, 146), (7, 77, 1, 147), (7, 81, 1, 140), (7, 84, 1, 148), (7, 88, 1, 145), (7, 91, 1, 150), (7, 94, 1, 136), (7, 98, 0, 134), (7, 101, 0, 152), (7, 105, 0, 137), (7, 108, 0, 153), (7, 111, 0, 138), (7, 116, 0, 155), (7, 120, 0, 142), (7, 124, 0, 157), (7, 128, 0, 159), (7, 132, 1, 141), (7, 135, 0, 162), (7, 139, 0, 164), (7, 142, 0, 166), (7, 145, 0, 149)]
set_option maxRecDepth 100000 in
theorem aPms_at4 : aPms4.flatMap aPmW = [593, 594, 595, 68, 596, 807, 646, 647, 66, 648, 893, 477, 64, 478, 479, 480, 64, 481, 1259, 94, 95, 1344, 1345, 71, 1346, 1368, 1369, 71, 1370, 1426, 599, 79, 600, 1452, 702, 79, 703, 1443, 1444, 71, 1445, 1449, 1450, 71, 1451, 1383, 1384, 71, 1385, 1446, 1447, 71, 1448, 1457, 1458, 71, 1459, 1460, 1461, 71, 1462, 1340, 1341, 71, 1342, 1347, 1349, 22, 71, 1350, 1351, 1353, 23, 71, 1354, 1332, 1334, 20, 71, 1335, 1336, 1338, 21, 71, 1339, 1355, 1357, 24, 71, 1358, 1363, 1365, 25, 71, 1366, 1379, 1381, 27, 71, 1382, 1375, 1377, 26, 71, 1378, 1390, 1392, 28, 71, 1393, 1406, 1407, 71, 1408, 1402, 1404, 29, 71, 1405, 1422, 1424, 32, 71, 1425, 1435, 1437, 35, 71, 1438, 1439, 1441, 36, 71, 1442].filterMap (fun i => lw_tbl[i]?) := rfl
set_option maxRecDepth 100000 in
theorem aPms_ok4 : aPms4.all (fun q => (aPmW q).all aWarm && aPmT q) = true := by decide +kernel
def aPms5 : List (Nat × Nat × Nat × Nat) := [(7, 149, 0, 168), (7, 154, 0, 165), (7, 157, 0, 167), (7, 160, 0, 151), (7, 163, 0, 169), (7, 166, 0, 170), (7, 171, 0, 172), (7, 174, 0, 174), (7, 177, 0, 176), (7, 180, 0, 143), (7, 183, 0, 186), (7, 186, 0, 191), (7, 189, 0, 144), (7, 192, 0, 196), (7, 195, 0, 199), (7, 198, 0, 202), (7, 201, 0, 203), (7, 204, 0, 209), (7, 207, 0, 210), (7, 210, 0, 211), (7, 216, 0, 218), (7, 220, 0, 219), (7, 236, 0, 224), (7, 243, 0, 226), (7, 246, 0, 225), (7, 249, 0, 227), (7, 252, 0, 228), (7, 258, 0, 229), (7, 261, 0, 230), (7, 265, 0, 231)]
set_option maxRecDepth 100000 in
theorem aPms_at5 : aPms5.flatMap aPmW = [1427, 1429, 33, 71, 1430, 1418, 1420, 31, 71, 1421, 1431, 1433, 34, 71, 1434, 1453, 1455, 37, 71, 1456, 1463, 1465, 38, 71, 1466, 1413, 1415, 30, 71, 1416, 1471, 1473, 39, 71, 1474, 1480, 1482, 40, 71, 1483, 1488, 1490, 41, 71, 1491, 1508, 1510, 42, 71, 1511, 1532, 1534, 43, 71, 1535, 1552, 1554, 44, 71, 1555, 1576, 1578, 46, 71, 1579, 1572, 1574, 45, 71, 1575, 1588, 1590, 47, 71, 1591, 1600, 1602, 48, 71, 1603, 1608, 1597, 1598, 71, 1599, 1637, 1639, 51, 71, 1640, 1633, 1635, 50, 71, 1636, 1629, 1631, 49, 71, 1632, 1669, 1671, 53, 71, 1672, 1665, 1667, 52, 71, 1668, 1709, 1711, 59, 71, 1712, 1705, 1707, 58, 71, 1708, 1719, 1721, 61, 71, 1722, 1701, 1703, 57, 71, 1704, 1715, 1717, 60, 71, 1718, 1693, 1695, 55, 71, 1696, 1697, 1699, 56, 71, 1700, 1689, 1691, 54, 71, 1692].filterMap (fun i => lw_tbl[i]?) := rfl
set_option maxRecDepth 100000 in
theorem aPms_ok5 : aPms5.all (fun q => (aPmW q).all aWarm && aPmT q) = true := by decide +kernel
def aPms6 : List (Nat × Nat × Nat × Nat) := [(7, 268, 0, 232), (8, 7, 0, 69), (8, 17, 0, 70), (8, 21, 0, 71), (8, 27, 0, 72), (8, 31, 0, 73), (8, 34, 0, 74), (8, 38, 0, 75), (8, 41, 0, 76), (8, 44, 0, 77), (8, 47, 0, 79), (8, 50, 0, 82), (8, 53, 0, 83), (8, 57, 0, 87), (8, 60, 0, 88), (8, 63, 0, 89), (8, 66, 0, 90), (8, 71, 0, 91), (8, 74, 0, 92), (8, 78, 0, 93), (8, 81, 0, 95), (8, 84, 0, 96), (8, 87, 0, 97), (8, 90, 0, 98), (8, 93, 0, 99), (8, 96, 0, 100), (8, 99, 0, 101), (8, 102, 0, 102), (8, 105, 0, 103), (8, 108, 0, 104)]
set_option maxRecDepth 100000 in
theorem aPms_at6 : aPms6.flatMap aPmW = [1723, 1725, 62, 71, 1726, 464, 465, 466, 64, 467, 604, 605, 606, 64, 607, 637, 638, 639, 64, 640, 652, 653, 654, 64, 655, 663, 664, 665, 64, 666, 674, 675, 676, 64, 677, 689, 690, 691, 64, 692, 777, 778, 779, 64, 780, 788, 789, 790, 64, 791, 799, 800, 801, 64, 802, 811, 812, 813, 64, 814, 823, 824, 825, 64, 826, 835, 836, 837, 64, 838, 847, 848, 849, 64, 850, 854, 855, 856, 64, 857, 862, 863, 864, 64, 865, 886, 887, 888, 64, 889, 899, 900, 901, 64, 902, 907, 908, 909, 64, 910, 914, 915, 916, 64, 917, 930, 931, 932, 64, 933, 937, 938, 939, 64, 940, 945, 946, 947, 64, 948, 952, 953, 954, 64, 955, 959, 960, 961, 64, 962, 967, 968, 969, 64, 970, 974, 975, 976, 64, 977, 981, 982, 983, 64, 984, 988, 989, 990, 64, 991].filterMap (fun i => lw_tbl[i]?) := rfl
set_option maxRecDepth 100000 in
theorem aPms_ok6 : aPms6.all (fun q => (aPmW q).all aWarm && aPmT q) = true := by decide +kernel
def aPms7 : List (Nat × Nat × Nat × Nat) := [(8, 111, 0, 105), (8, 114, 0, 106), (8, 117, 0, 107), (8, 120, 0, 108), (8, 126, 0, 109), (8, 130, 0, 111), (8, 133, 0, 113), (8, 137, 0, 114), (8, 141, 0, 115), (8, 146, 0, 116), (8, 149, 0, 117), (8, 152, 0, 118), (8, 155, 0, 120), (8, 158, 3, 68), (8, 161, 3, 132), (8, 162, 1, 239), (8, 167, 0, 154), (8, 168, 0, 133), (8, 171, 1, 240), (8, 174, 0, 156), (8, 175, 1, 241), (8, 178, 0, 158), (8, 179, 1, 242), (8, 182, 0, 160), (8, 183, 1, 243), (8, 185, 0, 161), (8, 186, 1, 244), (8, 189, 0, 163), (8, 190, 1, 245), (8, 192, 0, 171)]
set_option maxRecDepth 100000 in
theorem aPms_at7 : aPms7.flatMap aPmW = [995, 996, 997, 64, 998, 1003, 1004, 1005, 64, 1006, 1010, 1011, 1012, 64, 1013, 1036, 1037, 1038, 64, 1039, 1049, 1050, 1051, 64, 1052, 1060, 1061, 1062, 64, 1063, 1068, 1069, 1070, 64, 1071, 1076, 1077, 1078, 64, 1079, 1089, 1090, 1091, 64, 1092, 1217, 1218, 1219, 64, 1220, 1225, 1226, 1227, 64, 1228, 1233, 1234, 1235, 64, 1236, 1245, 1246, 1247, 64, 1248, 90, 91, 64, 92, 1256, 1257, 71, 1258, 459, 460, 63, 461, 1328, 1329, 1330, 71, 1331, 1324, 1325, 1326, 71, 1327, 601, 602, 63, 603, 1359, 1360, 1361, 71, 1362, 613, 614, 63, 615, 1371, 1372, 1373, 71, 1374, 649, 650, 63, 651, 1386, 1387, 1388, 71, 1389, 660, 661, 63, 662, 1394, 1395, 1396, 71, 1397, 671, 672, 63, 673, 1398, 1399, 1400, 71, 1401, 686, 687, 63, 688, 1409, 1410, 1411, 71, 1412].filterMap (fun i => lw_tbl[i]?) := rfl
set_option maxRecDepth 100000 in
theorem aPms_ok7 : aPms7.all (fun q => (aPmW q).all aWarm && aPmT q) = true := by decide +kernel
def aPms8 : List (Nat × Nat × Nat × Nat) := [(8, 193, 1, 246), (8, 195, 0, 173), (8, 196, 1, 247), (8, 198, 0, 175), (8, 199, 0, 78), (8, 202, 0, 177), (8, 203, 1, 248), (8, 205, 0, 178), (8, 206, 0, 80), (8, 209, 0, 179), (8, 210, 0, 81), (8, 213, 0, 180), (8, 214, 1, 249), (8, 216, 0, 181), (8, 217, 1, 250), (8, 219, 0, 182), (8, 220, 0, 84), (8, 223, 0, 183), (8, 224, 0, 85), (8, 227, 0, 184), (8, 228, 0, 86), (8, 232, 0, 185), (8, 233, 1, 251), (8, 235, 0, 187), (8, 236, 1, 252), (8, 238, 0, 188), (8, 239, 1, 253), (8, 241, 0, 189), (8, 242, 1, 254), (8, 244, 0, 190)]
set_option maxRecDepth 100000 in
theorem aPms_at8 : aPms8.flatMap aPmW = [774, 775, 63, 776, 1467, 1468, 1469, 71, 1470, 785, 786, 63, 787, 1476, 1477, 1478, 71, 1479, 347, 348, 349, 64, 350, 1484, 1485, 1486, 71, 1487, 796, 797, 63, 798, 1492, 1493, 1494, 71, 1495, 351, 352, 353, 64, 354, 1496, 1497, 1498, 71, 1499, 359, 360, 361, 64, 362, 1500, 1501, 1502, 71, 1503, 808, 809, 63, 810, 1504, 1505, 1506, 71, 1507, 820, 821, 63, 822, 1512, 1513, 1514, 71, 1515, 363, 364, 365, 64, 366, 1516, 1517, 1518, 71, 1519, 367, 368, 369, 64, 370, 1520, 1521, 1522, 71, 1523, 371, 372, 373, 64, 374, 1524, 1525, 1526, 71, 1527, 832, 833, 63, 834, 1528, 1529, 1530, 71, 1531, 844, 845, 63, 846, 1536, 1537, 1538, 71, 1539, 851, 852, 63, 853, 1540, 1541, 1542, 71, 1543, 858, 859, 63, 860, 1544, 1545, 1546, 71, 1547].filterMap (fun i => lw_tbl[i]?) := rfl
set_option maxRecDepth 100000 in
theorem aPms_ok8 : aPms8.all (fun q => (aPmW q).all aWarm && aPmT q) = true := by decide +kernel
def aPms9 : List (Nat × Nat × Nat × Nat) := [(8, 245, 1, 255), (8, 247, 0, 192), (8, 248, 1, 256), (8, 250, 0, 193), (8, 251, 1, 257), (8, 253, 0, 194), (8, 254, 0, 94), (8, 257, 0, 195), (8, 258, 1, 258), (8, 260, 0, 197), (8, 261, 1, 259), (8, 263, 0, 198), (8, 264, 1, 260), (8, 266, 0, 200), (8, 267, 1, 261), (8, 269, 0, 201), (8, 270, 1, 262), (8, 272, 0, 203), (8, 273, 1, 263), (8, 275, 0, 204), (8, 276, 1, 264), (8, 278, 0, 205), (8, 279, 1, 265), (8, 281, 0, 206), (8, 282, 1, 266), (8, 284, 0, 207), (8, 285, 1, 267), (8, 287, 0, 208), (8, 288, 1, 268), (8, 290, 0, 212)]
set_option maxRecDepth 100000 in
theorem aPms_at9 : aPms9.flatMap aPmW = [883, 884, 63, 885, 1548, 1549, 1550, 71, 1551, 896, 897, 63, 898, 1556, 1557, 1558, 71, 1559, 904, 905, 63, 906, 1560, 1561, 1562, 71, 1563, 375, 376, 377, 64, 378, 1564, 1565, 1566, 71, 1567, 911, 912, 63, 913, 1568, 1569, 1570, 71, 1571, 927, 928, 63, 929, 1580, 1581, 1582, 71, 1583, 934, 935, 63, 936, 1584, 1585, 1586, 71, 1587, 942, 943, 63, 944, 1592, 1593, 1594, 71, 1595, 949, 950, 63, 951, 1596, 1597, 1598, 71, 1599, 956, 957, 63, 958, 1604, 1605, 1606, 71, 1607, 964, 965, 63, 966, 1609, 1610, 1611, 71, 1612, 971, 972, 63, 973, 1613, 1614, 1615, 71, 1616, 978, 979, 63, 980, 1617, 1618, 1619, 71, 1620, 985, 986, 63, 987, 1621, 1622, 1623, 71, 1624, 992, 993, 63, 994, 1625, 1626, 1627, 71, 1628].filterMap (fun i => lw_tbl[i]?) := rfl
set_option maxRecDepth 100000 in
theorem aPms_ok9 : aPms9.all (fun q => (aPmW q).all aWarm && aPmT q) = true := by decide +kernel
def aPms10 : List (Nat × Nat × Nat × Nat) := [(8, 291, 1, 269), (8, 293, 0, 213), (8, 294, 1, 270), (8, 296, 0, 214), (8, 297, 1, 271), (8, 300, 0, 215), (8, 301, 1, 272), (8, 304, 0, 216), (8, 305, 0, 110), (8, 308, 0, 217), (8, 309, 1, 273), (8, 311, 0, 220), (8, 312, 0, 112), (8, 315, 0, 221), (8, 316, 1, 274), (8, 318, 0, 222), (8, 319, 1, 275), (8, 322, 0, 223), (8, 323, 1, 276), (8, 325, 0, 233), (8, 326, 1, 277), (8, 328, 0, 234), (8, 329, 1, 278), (8, 331, 0, 235), (8, 332, 1, 279), (8, 334, 0, 236), (8, 335, 0, 119), (8, 338, 0, 237), (8, 339, 1, 280), (8, 341, 0, 238)]
set_option maxRecDepth 100000 in
theorem aPms_at10 : aPms10.flatMap aPmW = [1000, 1001, 63, 1002, 1641, 1642, 1643, 71, 1644, 1007, 1008, 63, 1009, 1645, 1646, 1647, 71, 1648, 1019, 1020, 63, 1021, 1649, 1650, 1651, 71, 1652, 1046, 1047, 63, 1048, 1653, 1654, 1655, 71, 1656, 379, 380, 381, 64, 382, 1657, 1658, 1659, 71, 1660, 1057, 1058, 63, 1059, 1661, 1662, 1663, 71, 1664, 417, 418, 419, 64, 420, 1673, 1674, 1675, 71, 1676, 1065, 1066, 63, 1067, 1677, 1678, 1679, 71, 1680, 1073, 1074, 63, 1075, 1681, 1682, 1683, 71, 1684, 1085, 1086, 63, 1087, 1685, 1686, 1687, 71, 1688, 1214, 1215, 63, 1216, 1727, 1728, 1729, 71, 1730, 1222, 1223, 63, 1224, 1731, 1732, 1733, 71, 1734, 1230, 1231, 63, 1232, 1735, 1736, 1737, 71, 1738, 439, 440, 441, 64, 442, 1739, 1740, 1741, 71, 1742, 1242, 1243, 63, 1244, 1743, 1744, 1745, 71, 1746].filterMap (fun i => lw_tbl[i]?) := rfl
set_option maxRecDepth 100000 in
theorem aPms_ok10 : aPms10.all (fun q => (aPmW q).all aWarm && aPmT q) = true := by decide +kernel
def aPms : List (Nat × Nat × Nat × Nat) := aPms0 ++ (aPms1 ++ (aPms2 ++ (aPms3 ++ (aPms4 ++ (aPms5 ++ (aPms6 ++ (aPms7 ++ (aPms8 ++ (aPms9 ++ (aPms10))))))))))
theorem aPms_in : ∀ q ∈ aPms, (∀ w ∈ aPmW q, w ∈ lw_tbl ∧ aWarm w = true) ∧ aPmT q = true := by
  have key : ∀ (l : List (Nat × Nat × Nat × Nat)) (ps : List Nat), l.flatMap aPmW = ps.filterMap (fun i => lw_tbl[i]?) → l.all (fun q => (aPmW q).all aWarm && aPmT q) = true → ∀ q ∈ l, (∀ w ∈ aPmW q, w ∈ lw_tbl ∧ aWarm w = true) ∧ aPmT q = true := by
    intro l ps h1 h2 q hq
    have h3 := List.all_eq_true.mp h2 q hq
    rw [Bool.and_eq_true] at h3
    refine ⟨fun w hw => ⟨?_, List.all_eq_true.mp h3.1 w hw⟩, h3.2⟩
    have h4 : w ∈ l.flatMap aPmW := List.mem_flatMap.mpr ⟨q, hq, hw⟩
    rw [h1] at h4
    obtain ⟨i, -, hi⟩ := List.mem_filterMap.mp h4
    exact List.mem_of_getElem? hi
  unfold aPms
  simp only [List.forall_mem_append]
  exact ⟨key _ _ aPms_at0 aPms_ok0, ⟨key _ _ aPms_at1 aPms_ok1, ⟨key _ _ aPms_at2 aPms_ok2, ⟨key _ _ aPms_at3 aPms_ok3, ⟨key _ _ aPms_at4 aPms_ok4, ⟨key _ _ aPms_at5 aPms_ok5, ⟨key _ _ aPms_at6 aPms_ok6, ⟨key _ _ aPms_at7 aPms_ok7, ⟨key _ _ aPms_at8 aPms_ok8, ⟨key _ _ aPms_at9 aPms_ok9, key _ _ aPms_at10 aPms_ok10⟩⟩⟩⟩⟩⟩⟩⟩⟩⟩
/-- classes by the pools -/
def aPcs : List (Nat × Nat × Nat) := [(1, 9, 5), (5, 9, 0), (5, 18, 4), (6, 7, 5), (6, 26, 1), (6, 37, 2), (6, 44, 3), (8, 8, 6), (8, 159, 7)]
set_option maxRecDepth 100000 in
theorem aPcs_ok : aPcs.all (fun q => aIn (.classLink (aRn q.1) q.2.1 (aRn q.2.2)) && aIn (.instantiable (aRn q.2.2) (aFl q.2.2).length) && aIn (.initialized (aRn q.2.2))) = true := by decide +kernel
/-- the throws: class, which exception, its text, places in the pool of the exception, the text, the constructor; the length of the text's row -/
def aThs : List (Nat × Nat × String × Nat × Nat × Nat × Nat) := [(6, 3, "every gate of the present leg is passed", 153, 155, 157, 2), (6, 3, "there is no such rank", 153, 211, 157, 2), (6, 3, "there are no runs", 153, 223, 157, 2), (6, 4, "there are no runs", 228, 223, 230, 2), (6, 4, "there are no runs", 228, 223, 230, 2), (6, 2, "the output line has no such index", 261, 263, 265, 3), (6, 1, "the program buffer is full", 271, 273, 275, 3), (6, 0, "the text is not a program", 283, 285, 287, 3), (6, 5, "a command failed", 292, 294, 296, 3), (6, 3, "every text was a program", 153, 300, 157, 3), (6, 3, "no command failed", 153, 302, 157, 3), (6, 1, "no change can be undone", 271, 307, 275, 3), (6, 1, "no state was saved", 271, 316, 275, 3), (6, 2, "there is no such leg", 261, 322, 265, 3), (6, 0, "an argument is out of range", 283, 324, 287, 3), (6, 1, "the state of the trial forbids this", 271, 326, 275, 3), (6, 2, "there is no such leg", 261, 322, 265, 3), (6, 2, "there is no such gate", 261, 331, 265, 3), (6, 2, "there is no such run", 261, 333, 265, 3), (6, 1, "no run is going on", 271, 335, 275, 3), (6, 0, "a coordinate is out of range", 283, 341, 287, 3)]
abbrev aUp : List String := ["java/lang/RuntimeException", "java/lang/Exception"]
def aThW (q : Nat × Nat × String × Nat × Nat × Nat × Nat) : List Cond := let o := aRn q.1; let x := aEx.getD q.2.1 ""
  Cond.classLink o q.2.2.2.1 x :: Cond.initialized x :: vx_atS o q.2.2.2.2.2.1 x aUp
set_option maxRecDepth 100000 in
theorem aTh4_at : aThW (6, 4, "", 228, 0, 230, 0) = [1040, 83, 73, 511, 520, 528, 531, 533, 512, 513, 94, 95, 514, 519, 529, 549, 501, 550, 503, 551, 505, 515, 517, 507, 545, 546, 548, 507, 1024, 1025, 1026, 539, 493, 539, 540, 541, 542, 495, 542, 543, 544, 545, 497, 1041, 1023, 1034, 1035, 522, 1029, 1030, 1032, 1028, 510, 509, 1027].filterMap (fun i => lw_tbl[i]?) := by decide +kernel
set_option maxRecDepth 100000 in
theorem aTh4_ok : (aThW (6, 4, "", 228, 0, 230, 0)).all (fun w => aWarm w && vx_ot w) = true := by decide +kernel
set_option maxRecDepth 100000 in
theorem aTh2_at : aThW (6, 2, "", 261, 0, 265, 0) = [489, 76, 73, 511, 520, 528, 531, 533, 512, 513, 94, 95, 514, 519, 529, 549, 501, 550, 503, 551, 505, 515, 517, 507, 545, 546, 548, 507, 536, 537, 538, 539, 493, 539, 540, 541, 542, 495, 542, 543, 544, 545, 497, 535, 490, 491, 498, 499, 500, 502, 504, 506, 510, 509, 508].filterMap (fun i => lw_tbl[i]?) := by decide +kernel
set_option maxRecDepth 100000 in
theorem aTh2_ok : (aThW (6, 2, "", 261, 0, 265, 0)).all (fun w => aWarm w && vx_ot w) = true := by decide +kernel
set_option maxRecDepth 100000 in
theorem aTh1_at : aThW (6, 1, "", 271, 0, 275, 0) = [577, 78, 73, 511, 520, 528, 531, 533, 512, 513, 94, 95, 514, 519, 529, 549, 501, 550, 503, 551, 505, 515, 517, 507, 545, 546, 548, 507, 588, 589, 590, 539, 493, 539, 540, 541, 542, 495, 542, 543, 544, 545, 497, 587, 578, 579, 580, 525, 581, 582, 583, 584, 510, 509, 585].filterMap (fun i => lw_tbl[i]?) := by decide +kernel
set_option maxRecDepth 100000 in
theorem aTh1_ok : (aThW (6, 1, "", 271, 0, 275, 0)).all (fun w => aWarm w && vx_ot w) = true := by decide +kernel
set_option maxRecDepth 100000 in
theorem aTh0_at : aThW (6, 0, "", 283, 0, 287, 0) = [561, 77, 73, 511, 520, 528, 531, 533, 512, 513, 94, 95, 514, 519, 529, 549, 501, 550, 503, 551, 505, 515, 517, 507, 545, 546, 548, 507, 572, 573, 574, 539, 493, 539, 540, 541, 542, 495, 542, 543, 544, 545, 497, 571, 562, 563, 564, 524, 565, 566, 567, 568, 510, 509, 569].filterMap (fun i => lw_tbl[i]?) := by decide +kernel
set_option maxRecDepth 100000 in
theorem aTh0_ok : (aThW (6, 0, "", 283, 0, 287, 0)).all (fun w => aWarm w && vx_ot w) = true := by decide +kernel
set_option maxRecDepth 100000 in
theorem aTh5_at : aThW (6, 5, "", 292, 0, 296, 0) = [1198, 87, 73, 511, 520, 528, 531, 533, 512, 513, 94, 95, 514, 519, 529, 549, 501, 550, 503, 551, 505, 515, 517, 507, 545, 546, 548, 507, 1209, 1210, 1211, 539, 493, 539, 540, 541, 542, 495, 542, 543, 544, 545, 497, 1208, 1199, 1200, 1201, 526, 1202, 1203, 1204, 1205, 510, 509, 1206].filterMap (fun i => lw_tbl[i]?) := by decide +kernel
set_option maxRecDepth 100000 in
theorem aTh5_ok : (aThW (6, 5, "", 292, 0, 296, 0)).all (fun w => aWarm w && vx_ot w) = true := by decide +kernel
theorem aUp_ok : ∀ n ∈ aUp, Bundle.fit n = true := by decide +kernel
set_option maxRecDepth 100000 in
theorem aTh_str : aThs.all (fun q => decide (Cond.stringRef (aRn q.1) q.2.2.2.2.1 q.2.2.1 ∈ lw_tbl)) = true := by decide +kernel
/-- the texts that a walk may hold: place in the pool of Program, the text -/
def aPts : List (Nat × String) := [(50, "start #,#"), (52, "leg #,#=#"), (54, "gate ? #,#-#,#"), (56, "limit #"), (58, "width #"), (60, "run"), (62, "walk #,#+#"), (64, "fault ?"), (66, "retire")]
/-- the long constants: class, place, number -/
def aLcs : List (Nat × Nat × Int) := [(7, 51, 99), (7, 114, 30), (7, 152, 999), (7, 169, 9), (7, 239, 48), (7, 241, 57)]
set_option maxRecDepth 100000 in
theorem aLcs_ok : aLcs.all (fun q => aIn (.constantLong (aRn q.1) q.2.1 (Int64.ofInt q.2.2))) = true := by decide +kernel
set_option maxRecDepth 100000 in
theorem aInX0_at : wsX00 = [144, 146, 148, 150, 152, 154, 156, 158, 160, 162, 164, 166, 168, 170].filterMap (fun i => lw_tbl[i]?) := rfl
theorem aInX0_ok : wsX00.all aWarm = true := by decide +kernel
set_option maxRecDepth 100000 in
theorem aInX1_at : wsX10 = [266, 268, 270].filterMap (fun i => lw_tbl[i]?) := rfl
theorem aInX1_ok : wsX10.all aWarm = true := by decide +kernel
set_option maxRecDepth 100000 in
theorem aInX2_at : wsX20 = [283, 285].filterMap (fun i => lw_tbl[i]?) := rfl
theorem aInX2_ok : wsX20.all aWarm = true := by decide +kernel
set_option maxRecDepth 100000 in
theorem aInX3_at : wsX30 = [303, 305, 307, 309, 311, 313].filterMap (fun i => lw_tbl[i]?) := rfl
theorem aInX3_ok : wsX30.all aWarm = true := by decide +kernel
set_option maxRecDepth 100000 in
theorem aInX4_at : wsX40 = [205, 207, 209, 211, 213, 215, 217, 219, 221].filterMap (fun i => lw_tbl[i]?) := rfl
theorem aInX4_ok : wsX40.all aWarm = true := by decide +kernel
set_option maxRecDepth 100000 in
theorem aInX5_at : wsX50 = [238, 240, 242, 244, 246, 248, 250].filterMap (fun i => lw_tbl[i]?) := rfl
theorem aInX5_ok : wsX50.all aWarm = true := by decide +kernel
set_option maxRecDepth 100000 in
theorem aInX6_at : wsX60 = [326, 328, 330, 332, 334, 336, 338, 340, 342, 344].filterMap (fun i => lw_tbl[i]?) := rfl
theorem aInX6_ok : wsX60.all aWarm = true := by decide +kernel
set_option maxRecDepth 100000 in
theorem aInX7_at : wsX70 = [1281, 1283, 1285, 1287, 1289, 1291, 1293, 1295, 1297, 1299, 1301, 1303, 1305, 1307, 1309, 1311, 1313, 1315, 1317, 1319, 1321].filterMap (fun i => lw_tbl[i]?) := rfl
theorem aInX7_ok : wsX70.all aWarm = true := by decide +kernel

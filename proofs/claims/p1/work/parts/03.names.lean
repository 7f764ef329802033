/-! ===== BEGIN printed: names, fields, word lists, decode rows ===== -/
def RX0 : String := "AnswerFold$Answers"
def TX0 : u_T := fun k => match k with
  | 0 => ("AnswerFold$Answers", "sets", "[I", true)
  | 1 => ("AnswerFold$Answers", "costs", "[J", true)
  | 2 => ("AnswerFold$Answers", "count", "I", false)
  | _ => ("AnswerFold$Answers", "isKept", "Z", false)
def tyX0 : Nat → FieldType := fun k => match k with
  | 0 => .array .int
  | 1 => .array .long
  | 2 => .int
  | _ => .boolean
abbrev wsX00 : List Cond := u_ws RX0 TX0 4
theorem nmX0 : ∀ a, a < 4 → ∀ b, b < 4 → a ≠ b → (TX0 a).2.1 ≠ (TX0 b).2.1 := by decide +kernel
theorem tyX0_ok : ∀ k, k < 4 → parseFieldDescriptor (TX0 k).2.2.1 = some (tyX0 k) := by decide +kernel
abbrev cX0_init : ByteArray := prog_2_method_1_code
def yX0_init : MethodName := ⟨RX0, "<init>", "()V"⟩
abbrev cX0_insert : ByteArray := prog_2_method_2_code
def yX0_insert : MethodName := ⟨RX0, "insert", "(IJJJ)Z"⟩
abbrev cX0_isDearer : ByteArray := prog_2_method_3_code
def yX0_isDearer : MethodName := ⟨RX0, "isDearer", "(IJJJ)Z"⟩
abbrev cX0_copy : ByteArray := prog_2_method_4_code
def yX0_copy : MethodName := ⟨RX0, "copy", "(II)V"⟩
abbrev cX0_setAt : ByteArray := prog_2_method_5_code
def yX0_setAt : MethodName := ⟨RX0, "setAt", "(I)I"⟩
abbrev cX0_costAt : ByteArray := prog_2_method_6_code
def yX0_costAt : MethodName := ⟨RX0, "costAt", "(II)J"⟩
abbrev cX0_countBest : ByteArray := prog_2_method_7_code
def yX0_countBest : MethodName := ⟨RX0, "countBest", "()I"⟩
abbrev cX0_countDifferent : ByteArray := prog_2_method_8_code
def yX0_countDifferent : MethodName := ⟨RX0, "countDifferent", "(I)I"⟩
def RX1 : String := "AnswerFold$AtomSet"
def TX1 : u_T := fun k => match k with
  | _ => ("AnswerFold$AtomSet", "words", "[J", true)
def tyX1 : Nat → FieldType := fun k => match k with
  | _ => .array .long
abbrev wsX10 : List Cond := u_ws RX1 TX1 1
theorem nmX1 : ∀ a, a < 1 → ∀ b, b < 1 → a ≠ b → (TX1 a).2.1 ≠ (TX1 b).2.1 := by decide +kernel
theorem tyX1_ok : ∀ k, k < 1 → parseFieldDescriptor (TX1 k).2.2.1 = some (tyX1 k) := by decide +kernel
abbrev cX1_init : ByteArray := prog_3_method_1_code
def yX1_init : MethodName := ⟨RX1, "<init>", "()V"⟩
abbrev cX1_contains : ByteArray := prog_3_method_2_code
def yX1_contains : MethodName := ⟨RX1, "contains", "(I)Z"⟩
abbrev cX1_add : ByteArray := prog_3_method_3_code
def yX1_add : MethodName := ⟨RX1, "add", "(I)Z"⟩
abbrev cX1_remove : ByteArray := prog_3_method_4_code
def yX1_remove : MethodName := ⟨RX1, "remove", "(I)V"⟩
abbrev cX1_countOf : ByteArray := prog_3_method_5_code
def yX1_countOf : MethodName := ⟨RX1, "countOf", "(I)I"⟩
abbrev cX1_count : ByteArray := prog_3_method_6_code
def yX1_count : MethodName := ⟨RX1, "count", "()I"⟩
abbrev cX1_clear : ByteArray := prog_3_method_7_code
def yX1_clear : MethodName := ⟨RX1, "clear", "()V"⟩
def RX2 : String := "AnswerFold$Binding"
def TX2 : u_T := fun k => match k with
  | 0 => ("AnswerFold$Binding", "first", "I", false)
  | 1 => ("AnswerFold$Binding", "second", "I", false)
  | 2 => ("AnswerFold$Binding", "third", "I", false)
  | _ => ("AnswerFold$Binding", "parameter", "I", false)
def tyX2 : Nat → FieldType := fun k => match k with
  | 0 => .int
  | 1 => .int
  | 2 => .int
  | _ => .int
abbrev wsX20 : List Cond := u_ws RX2 TX2 4
theorem nmX2 : ∀ a, a < 4 → ∀ b, b < 4 → a ≠ b → (TX2 a).2.1 ≠ (TX2 b).2.1 := by decide +kernel
theorem tyX2_ok : ∀ k, k < 4 → parseFieldDescriptor (TX2 k).2.2.1 = some (tyX2 k) := by decide +kernel
abbrev cX2_init : ByteArray := prog_4_method_1_code
def yX2_init : MethodName := ⟨RX2, "<init>", "()V"⟩
abbrev cX2_valueOf : ByteArray := prog_4_method_2_code
def yX2_valueOf : MethodName := ⟨RX2, "valueOf", "(II)I"⟩
abbrev cX2_atomOf : ByteArray := prog_4_method_3_code
def yX2_atomOf : MethodName := ⟨RX2, "atomOf", "(LAnswerFold$Literal;)I"⟩
abbrev cX2_testHolds : ByteArray := prog_4_method_4_code
def yX2_testHolds : MethodName := ⟨RX2, "testHolds", "(LAnswerFold$Literal;)Z"⟩
abbrev cX2_packed : ByteArray := prog_4_method_5_code
def yX2_packed : MethodName := ⟨RX2, "packed", "()I"⟩
abbrev cX2_unpack : ByteArray := prog_4_method_6_code
def yX2_unpack : MethodName := ⟨RX2, "unpack", "(I)V"⟩
def RX3 : String := "AnswerFold$Grounding"
def TX3 : u_T := fun k => match k with
  | 0 => ("AnswerFold$Grounding", "program", "LAnswerFold$Program;", true)
  | 1 => ("AnswerFold$Grounding", "binding", "LAnswerFold$Binding;", true)
  | 2 => ("AnswerFold$Grounding", "sure", "LAnswerFold$AtomSet;", true)
  | 3 => ("AnswerFold$Grounding", "possible", "LAnswerFold$AtomSet;", true)
  | 4 => ("AnswerFold$Grounding", "heads", "[I", true)
  | 5 => ("AnswerFold$Grounding", "headCount", "I", false)
  | 6 => ("AnswerFold$Grounding", "keptRule", "[I", true)
  | 7 => ("AnswerFold$Grounding", "keptValues", "[I", true)
  | 8 => ("AnswerFold$Grounding", "keptByRule", "[I", true)
  | 9 => ("AnswerFold$Grounding", "keptCount", "I", false)
  | 10 => ("AnswerFold$Grounding", "openAtoms", "[I", true)
  | 11 => ("AnswerFold$Grounding", "openNumbers", "[I", true)
  | 12 => ("AnswerFold$Grounding", "openCount", "I", false)
  | 13 => ("AnswerFold$Grounding", "isCurrent", "Z", false)
  | 14 => ("AnswerFold$Grounding", "purpose", "I", false)
  | _ => ("AnswerFold$Grounding", "grown", "I", false)
def tyX3 : Nat → FieldType := fun k => match k with
  | 0 => .object "AnswerFold$Program"
  | 1 => .object "AnswerFold$Binding"
  | 2 => .object "AnswerFold$AtomSet"
  | 3 => .object "AnswerFold$AtomSet"
  | 4 => .array .int
  | 5 => .int
  | 6 => .array .int
  | 7 => .array .int
  | 8 => .array .int
  | 9 => .int
  | 10 => .array .int
  | 11 => .array .int
  | 12 => .int
  | 13 => .boolean
  | 14 => .int
  | _ => .int
abbrev wsX30 : List Cond := u_ws RX3 TX3 16
theorem nmX3 : ∀ a, a < 16 → ∀ b, b < 16 → a ≠ b → (TX3 a).2.1 ≠ (TX3 b).2.1 := by decide +kernel
theorem tyX3_ok : ∀ k, k < 16 → parseFieldDescriptor (TX3 k).2.2.1 = some (tyX3 k) := by decide +kernel
abbrev cX3_init : ByteArray := prog_5_method_1_code
def yX3_init : MethodName := ⟨RX3, "<init>", "(LAnswerFold$Program;)V"⟩
abbrev cX3_refresh : ByteArray := prog_5_method_2_code
def yX3_refresh : MethodName := ⟨RX3, "refresh", "()V"⟩
abbrev cX3_beginWithExternals : ByteArray := prog_5_method_3_code
def yX3_beginWithExternals : MethodName := ⟨RX3, "beginWithExternals", "()V"⟩
abbrev cX3_spread : ByteArray := prog_5_method_4_code
def yX3_spread : MethodName := ⟨RX3, "spread", "()V"⟩
abbrev cX3_rulesNeeding : ByteArray := prog_5_method_5_code
def yX3_rulesNeeding : MethodName := ⟨RX3, "rulesNeeding", "(I)I"⟩
abbrev cX3_keepInstances : ByteArray := prog_5_method_6_code
def yX3_keepInstances : MethodName := ⟨RX3, "keepInstances", "()V"⟩
abbrev cX3_eachInstance : ByteArray := prog_5_method_7_code
def yX3_eachInstance : MethodName := ⟨RX3, "eachInstance", "(LAnswerFold$Rule;II)V"⟩
abbrev cX3_mayHold : ByteArray := prog_5_method_8_code
def yX3_mayHold : MethodName := ⟨RX3, "mayHold", "(LAnswerFold$Rule;I)Z"⟩
abbrev cX3_mayHoldOne : ByteArray := prog_5_method_9_code
def yX3_mayHoldOne : MethodName := ⟨RX3, "mayHoldOne", "(LAnswerFold$Literal;)Z"⟩
abbrev cX3_takeInstance : ByteArray := prog_5_method_10_code
def yX3_takeInstance : MethodName := ⟨RX3, "takeInstance", "(LAnswerFold$Rule;I)V"⟩
abbrev cX3_keep : ByteArray := prog_5_method_11_code
def yX3_keep : MethodName := ⟨RX3, "keep", "(II)V"⟩
abbrev cX3_listHeads : ByteArray := prog_5_method_12_code
def yX3_listHeads : MethodName := ⟨RX3, "listHeads", "(LAnswerFold$Rule;)Z"⟩
abbrev cX3_listHead : ByteArray := prog_5_method_13_code
def yX3_listHead : MethodName := ⟨RX3, "listHead", "(I)V"⟩
abbrev cX3_headAtomAt : ByteArray := prog_5_method_14_code
def yX3_headAtomAt : MethodName := ⟨RX3, "headAtomAt", "(I)I"⟩
abbrev cX3_numberOpenAtoms : ByteArray := prog_5_method_15_code
def yX3_numberOpenAtoms : MethodName := ⟨RX3, "numberOpenAtoms", "()V"⟩
abbrev cX3_openNumberOf : ByteArray := prog_5_method_16_code
def yX3_openNumberOf : MethodName := ⟨RX3, "openNumberOf", "(I)I"⟩
abbrev cX3_openAtomAt : ByteArray := prog_5_method_17_code
def yX3_openAtomAt : MethodName := ⟨RX3, "openAtomAt", "(I)I"⟩
abbrev cX3_keptOf : ByteArray := prog_5_method_18_code
def yX3_keptOf : MethodName := ⟨RX3, "keptOf", "(I)I"⟩
abbrev cX3_keptRuleAt : ByteArray := prog_5_method_19_code
def yX3_keptRuleAt : MethodName := ⟨RX3, "keptRuleAt", "(I)I"⟩
abbrev cX3_bindKept : ByteArray := prog_5_method_20_code
def yX3_bindKept : MethodName := ⟨RX3, "bindKept", "(I)LAnswerFold$Rule;"⟩
def RX4 : String := "AnswerFold$Literal"
def TX4 : u_T := fun k => match k with
  | 0 => ("AnswerFold$Literal", "kind", "C", true)
  | 1 => ("AnswerFold$Literal", "predicate", "I", true)
  | 2 => ("AnswerFold$Literal", "bound", "I", true)
  | 3 => ("AnswerFold$Literal", "firstSlot", "I", true)
  | 4 => ("AnswerFold$Literal", "firstShift", "I", true)
  | 5 => ("AnswerFold$Literal", "secondSlot", "I", true)
  | 6 => ("AnswerFold$Literal", "secondShift", "I", true)
  | _ => ("AnswerFold$Literal", "depth", "I", true)
def tyX4 : Nat → FieldType := fun k => match k with
  | 0 => .char
  | 1 => .int
  | 2 => .int
  | 3 => .int
  | 4 => .int
  | 5 => .int
  | 6 => .int
  | _ => .int
abbrev wsX40 : List Cond := u_ws RX4 TX4 8
theorem nmX4 : ∀ a, a < 8 → ∀ b, b < 8 → a ≠ b → (TX4 a).2.1 ≠ (TX4 b).2.1 := by decide +kernel
theorem tyX4_ok : ∀ k, k < 8 → parseFieldDescriptor (TX4 k).2.2.1 = some (tyX4 k) := by decide +kernel
abbrev cX4_init : ByteArray := prog_6_method_1_code
def yX4_init : MethodName := ⟨RX4, "<init>", "(CIIII)V"⟩
abbrev cX4_slotOf : ByteArray := prog_6_method_2_code
def yX4_slotOf : MethodName := ⟨RX4, "slotOf", "(I)I"⟩
abbrev cX4_shiftOf : ByteArray := prog_6_method_3_code
def yX4_shiftOf : MethodName := ⟨RX4, "shiftOf", "(I)I"⟩
abbrev cX4_names : ByteArray := prog_6_method_4_code
def yX4_names : MethodName := ⟨RX4, "names", "(I)Z"⟩
abbrev cX4_isCount : ByteArray := prog_6_method_5_code
def yX4_isCount : MethodName := ⟨RX4, "isCount", "()Z"⟩
def RX5 : String := "AnswerFold$LoopFinder"
def TX5 : u_T := fun k => match k with
  | 0 => ("AnswerFold$LoopFinder", "grounding", "LAnswerFold$Grounding;", true)
  | _ => ("AnswerFold$LoopFinder", "rows", "[J", true)
def tyX5 : Nat → FieldType := fun k => match k with
  | 0 => .object "AnswerFold$Grounding"
  | _ => .array .long
abbrev wsX50 : List Cond := u_ws RX5 TX5 2
theorem nmX5 : ∀ a, a < 2 → ∀ b, b < 2 → a ≠ b → (TX5 a).2.1 ≠ (TX5 b).2.1 := by decide +kernel
theorem tyX5_ok : ∀ k, k < 2 → parseFieldDescriptor (TX5 k).2.2.1 = some (tyX5 k) := by decide +kernel
abbrev cX5_init : ByteArray := prog_7_method_1_code
def yX5_init : MethodName := ⟨RX5, "<init>", "(LAnswerFold$Grounding;)V"⟩
abbrev cX5_countLoops : ByteArray := prog_7_method_2_code
def yX5_countLoops : MethodName := ⟨RX5, "countLoops", "()I"⟩
abbrev cX5_clearRows : ByteArray := prog_7_method_3_code
def yX5_clearRows : MethodName := ⟨RX5, "clearRows", "(I)V"⟩
abbrev cX5_noteInstance : ByteArray := prog_7_method_4_code
def yX5_noteInstance : MethodName := ⟨RX5, "noteInstance", "(I)V"⟩
abbrev cX5_noteLead : ByteArray := prog_7_method_5_code
def yX5_noteLead : MethodName := ⟨RX5, "noteLead", "(II)V"⟩
abbrev cX5_leads : ByteArray := prog_7_method_6_code
def yX5_leads : MethodName := ⟨RX5, "leads", "(II)Z"⟩
abbrev cX5_joinRow : ByteArray := prog_7_method_7_code
def yX5_joinRow : MethodName := ⟨RX5, "joinRow", "(II)V"⟩
abbrev cX5_isFirstOfLoop : ByteArray := prog_7_method_8_code
def yX5_isFirstOfLoop : MethodName := ⟨RX5, "isFirstOfLoop", "(I)Z"⟩
def RX6 : String := "AnswerFold$Program"
def TX6 : u_T := fun k => match k with
  | 0 => ("AnswerFold$Program", "places", "[I", true)
  | 1 => ("AnswerFold$Program", "predicateCount", "I", false)
  | 2 => ("AnswerFold$Program", "rules", "[LAnswerFold$Rule;", true)
  | 3 => ("AnswerFold$Program", "ruleCount", "I", false)
  | 4 => ("AnswerFold$Program", "timePart", "[I", true)
  | 5 => ("AnswerFold$Program", "timeParameter", "[I", true)
  | 6 => ("AnswerFold$Program", "timeCount", "I", false)
  | 7 => ("AnswerFold$Program", "externalAtom", "[I", true)
  | 8 => ("AnswerFold$Program", "externalState", "[C", true)
  | _ => ("AnswerFold$Program", "externalCount", "I", false)
def tyX6 : Nat → FieldType := fun k => match k with
  | 0 => .array .int
  | 1 => .int
  | 2 => .array (.object "AnswerFold$Rule")
  | 3 => .int
  | 4 => .array .int
  | 5 => .array .int
  | 6 => .int
  | 7 => .array .int
  | 8 => .array .char
  | _ => .int
abbrev wsX60 : List Cond := u_ws RX6 TX6 10
theorem nmX6 : ∀ a, a < 10 → ∀ b, b < 10 → a ≠ b → (TX6 a).2.1 ≠ (TX6 b).2.1 := by decide +kernel
theorem tyX6_ok : ∀ k, k < 10 → parseFieldDescriptor (TX6 k).2.2.1 = some (tyX6 k) := by decide +kernel
abbrev cX6_init : ByteArray := prog_8_method_1_code
def yX6_init : MethodName := ⟨RX6, "<init>", "()V"⟩
abbrev cX6_hasPredicate : ByteArray := prog_8_method_2_code
def yX6_hasPredicate : MethodName := ⟨RX6, "hasPredicate", "(I)Z"⟩
abbrev cX6_placesOf : ByteArray := prog_8_method_3_code
def yX6_placesOf : MethodName := ⟨RX6, "placesOf", "(I)I"⟩
abbrev cX6_tellPredicate : ByteArray := prog_8_method_4_code
def yX6_tellPredicate : MethodName := ⟨RX6, "tellPredicate", "(I)I"⟩
abbrev cX6_ruleAt : ByteArray := prog_8_method_5_code
def yX6_ruleAt : MethodName := ⟨RX6, "ruleAt", "(I)LAnswerFold$Rule;"⟩
abbrev cX6_tellRule : ByteArray := prog_8_method_6_code
def yX6_tellRule : MethodName := ⟨RX6, "tellRule", "(LAnswerFold$Rule;)I"⟩
abbrev cX6_tellTime : ByteArray := prog_8_method_7_code
def yX6_tellTime : MethodName := ⟨RX6, "tellTime", "(II)V"⟩
abbrev cX6_groundedByCalls : ByteArray := prog_8_method_8_code
def yX6_groundedByCalls : MethodName := ⟨RX6, "groundedByCalls", "()I"⟩
abbrev cX6_isGrounded : ByteArray := prog_8_method_9_code
def yX6_isGrounded : MethodName := ⟨RX6, "isGrounded", "(II)Z"⟩
abbrev cX6_parameterAt : ByteArray := prog_8_method_10_code
def yX6_parameterAt : MethodName := ⟨RX6, "parameterAt", "(II)I"⟩
abbrev cX6_tellExternal : ByteArray := prog_8_method_11_code
def yX6_tellExternal : MethodName := ⟨RX6, "tellExternal", "(I)I"⟩
abbrev cX6_externalAtom : ByteArray := prog_8_method_12_code
def yX6_externalAtom : MethodName := ⟨RX6, "externalAtom", "(I)I"⟩
abbrev cX6_externalState : ByteArray := prog_8_method_13_code
def yX6_externalState : MethodName := ⟨RX6, "externalState", "(I)C"⟩
abbrev cX6_turnExternal : ByteArray := prog_8_method_14_code
def yX6_turnExternal : MethodName := ⟨RX6, "turnExternal", "(IC)V"⟩
abbrev cX6_externalOf : ByteArray := prog_8_method_15_code
def yX6_externalOf : MethodName := ⟨RX6, "externalOf", "(I)I"⟩
def RX7 : String := "AnswerFold$Rows"
def TX7 : u_T := fun k => match k with
  | 0 => ("AnswerFold$Rows", "rules", "[I", true)
  | 1 => ("AnswerFold$Rows", "needs", "[I", true)
  | 2 => ("AnswerFold$Rows", "bars", "[I", true)
  | 3 => ("AnswerFold$Rows", "heads", "[I", true)
  | 4 => ("AnswerFold$Rows", "lows", "[I", true)
  | 5 => ("AnswerFold$Rows", "highs", "[I", true)
  | _ => ("AnswerFold$Rows", "count", "I", false)
def tyX7 : Nat → FieldType := fun k => match k with
  | 0 => .array .int
  | 1 => .array .int
  | 2 => .array .int
  | 3 => .array .int
  | 4 => .array .int
  | 5 => .array .int
  | _ => .int
abbrev wsX70 : List Cond := u_ws RX7 TX7 7
theorem nmX7 : ∀ a, a < 7 → ∀ b, b < 7 → a ≠ b → (TX7 a).2.1 ≠ (TX7 b).2.1 := by decide +kernel
theorem tyX7_ok : ∀ k, k < 7 → parseFieldDescriptor (TX7 k).2.2.1 = some (tyX7 k) := by decide +kernel
abbrev cX7_init : ByteArray := prog_9_method_1_code
def yX7_init : MethodName := ⟨RX7, "<init>", "()V"⟩
abbrev cX7_add : ByteArray := prog_9_method_2_code
def yX7_add : MethodName := ⟨RX7, "add", "(III)V"⟩
abbrev cX7_boundLast : ByteArray := prog_9_method_3_code
def yX7_boundLast : MethodName := ⟨RX7, "boundLast", "(III)V"⟩
abbrev cX7_ruleAt : ByteArray := prog_9_method_4_code
def yX7_ruleAt : MethodName := ⟨RX7, "ruleAt", "(I)I"⟩
abbrev cX7_headsAt : ByteArray := prog_9_method_5_code
def yX7_headsAt : MethodName := ⟨RX7, "headsAt", "(I)I"⟩
abbrev cX7_bodyHolds : ByteArray := prog_9_method_6_code
def yX7_bodyHolds : MethodName := ⟨RX7, "bodyHolds", "(III)Z"⟩
abbrev cX7_isBroken : ByteArray := prog_9_method_7_code
def yX7_isBroken : MethodName := ⟨RX7, "isBroken", "(III)Z"⟩
def RX8 : String := "AnswerFold$Rule"
def TX8 : u_T := fun k => match k with
  | 0 => ("AnswerFold$Rule", "kind", "C", true)
  | 1 => ("AnswerFold$Rule", "part", "I", true)
  | 2 => ("AnswerFold$Rule", "lower", "I", false)
  | 3 => ("AnswerFold$Rule", "upper", "I", false)
  | 4 => ("AnswerFold$Rule", "span", "I", false)
  | 5 => ("AnswerFold$Rule", "weight", "I", false)
  | 6 => ("AnswerFold$Rule", "level", "I", false)
  | 7 => ("AnswerFold$Rule", "heads", "[LAnswerFold$Literal;", true)
  | 8 => ("AnswerFold$Rule", "headCount", "I", false)
  | 9 => ("AnswerFold$Rule", "conditions", "[LAnswerFold$Literal;", true)
  | _ => ("AnswerFold$Rule", "conditionCount", "I", false)
def tyX8 : Nat → FieldType := fun k => match k with
  | 0 => .char
  | 1 => .int
  | 2 => .int
  | 3 => .int
  | 4 => .int
  | 5 => .int
  | 6 => .int
  | 7 => .array (.object "AnswerFold$Literal")
  | 8 => .int
  | 9 => .array (.object "AnswerFold$Literal")
  | _ => .int
abbrev wsX80 : List Cond := u_ws RX8 TX8 11
theorem nmX8 : ∀ a, a < 11 → ∀ b, b < 11 → a ≠ b → (TX8 a).2.1 ≠ (TX8 b).2.1 := by decide +kernel
theorem tyX8_ok : ∀ k, k < 11 → parseFieldDescriptor (TX8 k).2.2.1 = some (tyX8 k) := by decide +kernel
abbrev cX8_init : ByteArray := prog_10_method_1_code
def yX8_init : MethodName := ⟨RX8, "<init>", "(CI)V"⟩
abbrev cX8_hasSpan : ByteArray := prog_10_method_2_code
def yX8_hasSpan : MethodName := ⟨RX8, "hasSpan", "()Z"⟩
abbrev cX8_tellHead : ByteArray := prog_10_method_3_code
def yX8_tellHead : MethodName := ⟨RX8, "tellHead", "(LAnswerFold$Literal;)I"⟩
abbrev cX8_tellCondition : ByteArray := prog_10_method_4_code
def yX8_tellCondition : MethodName := ⟨RX8, "tellCondition", "(LAnswerFold$Literal;)I"⟩
abbrev cX8_headAt : ByteArray := prog_10_method_5_code
def yX8_headAt : MethodName := ⟨RX8, "headAt", "(I)LAnswerFold$Literal;"⟩
abbrev cX8_conditionAt : ByteArray := prog_10_method_6_code
def yX8_conditionAt : MethodName := ⟨RX8, "conditionAt", "(I)LAnswerFold$Literal;"⟩
abbrev cX8_valuesFor : ByteArray := prog_10_method_7_code
def yX8_valuesFor : MethodName := ⟨RX8, "valuesFor", "(I)I"⟩
abbrev cX8_isDefinite : ByteArray := prog_10_method_8_code
def yX8_isDefinite : MethodName := ⟨RX8, "isDefinite", "()Z"⟩
abbrev cX8_hasCounts : ByteArray := prog_10_method_9_code
def yX8_hasCounts : MethodName := ⟨RX8, "hasCounts", "()Z"⟩
abbrev cX8_neededPredicates : ByteArray := prog_10_method_10_code
def yX8_neededPredicates : MethodName := ⟨RX8, "neededPredicates", "()I"⟩
def RX9 : String := "AnswerFold$Solver"
def TX9 : u_T := fun k => match k with
  | 0 => ("AnswerFold$Solver", "program", "LAnswerFold$Program;", true)
  | 1 => ("AnswerFold$Solver", "grounding", "LAnswerFold$Grounding;", true)
  | 2 => ("AnswerFold$Solver", "checks", "LAnswerFold$Rows;", true)
  | 3 => ("AnswerFold$Solver", "weaks", "LAnswerFold$Rows;", true)
  | 4 => ("AnswerFold$Solver", "active", "[I", true)
  | 5 => ("AnswerFold$Solver", "activeCount", "I", false)
  | 6 => ("AnswerFold$Solver", "openBits", "[I", true)
  | 7 => ("AnswerFold$Solver", "sureCounts", "[I", true)
  | 8 => ("AnswerFold$Solver", "branches", "[I", true)
  | 9 => ("AnswerFold$Solver", "choices", "I", false)
  | 10 => ("AnswerFold$Solver", "counting", "I", false)
  | 11 => ("AnswerFold$Solver", "freeBits", "I", false)
  | 12 => ("AnswerFold$Solver", "mustHave", "I", false)
  | 13 => ("AnswerFold$Solver", "mustLack", "I", false)
  | 14 => ("AnswerFold$Solver", "isHopeless", "Z", false)
  | 15 => ("AnswerFold$Solver", "lastBroken", "I", false)
  | _ => ("AnswerFold$Solver", "isCompiled", "Z", false)
def tyX9 : Nat → FieldType := fun k => match k with
  | 0 => .object "AnswerFold$Program"
  | 1 => .object "AnswerFold$Grounding"
  | 2 => .object "AnswerFold$Rows"
  | 3 => .object "AnswerFold$Rows"
  | 4 => .array .int
  | 5 => .int
  | 6 => .array .int
  | 7 => .array .int
  | 8 => .array .int
  | 9 => .int
  | 10 => .int
  | 11 => .int
  | 12 => .int
  | 13 => .int
  | 14 => .boolean
  | 15 => .int
  | _ => .boolean
abbrev wsX90 : List Cond := u_ws RX9 TX9 17
theorem nmX9 : ∀ a, a < 17 → ∀ b, b < 17 → a ≠ b → (TX9 a).2.1 ≠ (TX9 b).2.1 := by decide +kernel
theorem tyX9_ok : ∀ k, k < 17 → parseFieldDescriptor (TX9 k).2.2.1 = some (tyX9 k) := by decide +kernel
abbrev cX9_init : ByteArray := prog_11_method_1_code
def yX9_init : MethodName := ⟨RX9, "<init>", "(LAnswerFold$Program;LAnswerFold$Grounding;)V"⟩
abbrev cX9_prepare : ByteArray := prog_11_method_2_code
def yX9_prepare : MethodName := ⟨RX9, "prepare", "(LAnswerFold$AtomSet;LAnswerFold$AtomSet;)V"⟩
abbrev cX9_compile : ByteArray := prog_11_method_3_code
def yX9_compile : MethodName := ⟨RX9, "compile", "()V"⟩
abbrev cX9_noteRules : ByteArray := prog_11_method_4_code
def yX9_noteRules : MethodName := ⟨RX9, "noteRules", "()V"⟩
abbrev cX9_compileInstance : ByteArray := prog_11_method_5_code
def yX9_compileInstance : MethodName := ⟨RX9, "compileInstance", "(I)V"⟩
abbrev cX9_compileHeads : ByteArray := prog_11_method_6_code
def yX9_compileHeads : MethodName := ⟨RX9, "compileHeads", "(LAnswerFold$Rule;III)V"⟩
abbrev cX9_fitAssumptions : ByteArray := prog_11_method_7_code
def yX9_fitAssumptions : MethodName := ⟨RX9, "fitAssumptions", "(LAnswerFold$AtomSet;LAnswerFold$AtomSet;)V"⟩
abbrev cX9_bitOf : ByteArray := prog_11_method_8_code
def yX9_bitOf : MethodName := ⟨RX9, "bitOf", "(I)I"⟩
abbrev cX9_isIn : ByteArray := prog_11_method_9_code
def yX9_isIn : MethodName := ⟨RX9, "isIn", "(II)Z"⟩
abbrev cX9_sizeOf : ByteArray := prog_11_method_10_code
def yX9_sizeOf : MethodName := ⟨RX9, "sizeOf", "(I)I"⟩
abbrev cX9_openBitsOf : ByteArray := prog_11_method_11_code
def yX9_openBitsOf : MethodName := ⟨RX9, "openBitsOf", "(I)I"⟩
abbrev cX9_fullSet : ByteArray := prog_11_method_12_code
def yX9_fullSet : MethodName := ⟨RX9, "fullSet", "()I"⟩
abbrev cX9_findAnswers : ByteArray := prog_11_method_13_code
def yX9_findAnswers : MethodName := ⟨RX9, "findAnswers", "(LAnswerFold$Answers;)Z"⟩
abbrev cX9_countByAll : ByteArray := prog_11_method_14_code
def yX9_countByAll : MethodName := ⟨RX9, "countByAll", "()I"⟩
abbrev cX9_fits : ByteArray := prog_11_method_15_code
def yX9_fits : MethodName := ⟨RX9, "fits", "(I)Z"⟩
abbrev cX9_isModel : ByteArray := prog_11_method_16_code
def yX9_isModel : MethodName := ⟨RX9, "isModel", "(I)Z"⟩
abbrev cX9_countsHeld : ByteArray := prog_11_method_17_code
def yX9_countsHeld : MethodName := ⟨RX9, "countsHeld", "(I)I"⟩
abbrev cX9_countsHold : ByteArray := prog_11_method_18_code
def yX9_countsHold : MethodName := ⟨RX9, "countsHold", "(LAnswerFold$Rule;I)Z"⟩
abbrev cX9_countHolds : ByteArray := prog_11_method_19_code
def yX9_countHolds : MethodName := ⟨RX9, "countHolds", "(LAnswerFold$Literal;I)Z"⟩
abbrev cX9_hasSmaller : ByteArray := prog_11_method_20_code
def yX9_hasSmaller : MethodName := ⟨RX9, "hasSmaller", "(I)Z"⟩
abbrev cX9_listActive : ByteArray := prog_11_method_21_code
def yX9_listActive : MethodName := ⟨RX9, "listActive", "(I)V"⟩
abbrev cX9_isChoice : ByteArray := prog_11_method_22_code
def yX9_isChoice : MethodName := ⟨RX9, "isChoice", "(I)Z"⟩
abbrev cX9_grow : ByteArray := prog_11_method_23_code
def yX9_grow : MethodName := ⟨RX9, "grow", "(II)I"⟩
abbrev cX9_headsToSplit : ByteArray := prog_11_method_24_code
def yX9_headsToSplit : MethodName := ⟨RX9, "headsToSplit", "(II)I"⟩
abbrev cX9_hasSmallerByAll : ByteArray := prog_11_method_25_code
def yX9_hasSmallerByAll : MethodName := ⟨RX9, "hasSmallerByAll", "(I)Z"⟩
abbrev cX9_doesFor : ByteArray := prog_11_method_26_code
def yX9_doesFor : MethodName := ⟨RX9, "doesFor", "(II)Z"⟩
abbrev cX9_costOf : ByteArray := prog_11_method_27_code
def yX9_costOf : MethodName := ⟨RX9, "costOf", "(II)J"⟩
abbrev cX9_reasonFor : ByteArray := prog_11_method_28_code
def yX9_reasonFor : MethodName := ⟨RX9, "reasonFor", "(II)I"⟩
abbrev cX9_bodyHolds : ByteArray := prog_11_method_29_code
def yX9_bodyHolds : MethodName := ⟨RX9, "bodyHolds", "(LAnswerFold$Rule;I)Z"⟩
abbrev cX9_conditionHolds : ByteArray := prog_11_method_30_code
def yX9_conditionHolds : MethodName := ⟨RX9, "conditionHolds", "(LAnswerFold$Literal;I)Z"⟩
abbrev cX9_gives : ByteArray := prog_11_method_31_code
def yX9_gives : MethodName := ⟨RX9, "gives", "(LAnswerFold$Rule;II)Z"⟩
def RX10 : String := "AnswerFold"
def TX10 : u_T := fun k => match k with
  | 0 => ("AnswerFold", "program", "LAnswerFold$Program;", true)
  | 1 => ("AnswerFold", "grounding", "LAnswerFold$Grounding;", true)
  | 2 => ("AnswerFold", "solver", "LAnswerFold$Solver;", true)
  | 3 => ("AnswerFold", "loopFinder", "LAnswerFold$LoopFinder;", true)
  | 4 => ("AnswerFold", "assumedIn", "LAnswerFold$AtomSet;", true)
  | 5 => ("AnswerFold", "assumedOut", "LAnswerFold$AtomSet;", true)
  | _ => ("AnswerFold", "answers", "LAnswerFold$Answers;", true)
def tyX10 : Nat → FieldType := fun k => match k with
  | 0 => .object "AnswerFold$Program"
  | 1 => .object "AnswerFold$Grounding"
  | 2 => .object "AnswerFold$Solver"
  | 3 => .object "AnswerFold$LoopFinder"
  | 4 => .object "AnswerFold$AtomSet"
  | 5 => .object "AnswerFold$AtomSet"
  | _ => .object "AnswerFold$Answers"
abbrev wsX100 : List Cond := u_ws RX10 TX10 7
theorem nmX10 : ∀ a, a < 7 → ∀ b, b < 7 → a ≠ b → (TX10 a).2.1 ≠ (TX10 b).2.1 := by decide +kernel
theorem tyX10_ok : ∀ k, k < 7 → parseFieldDescriptor (TX10 k).2.2.1 = some (tyX10 k) := by decide +kernel
abbrev cX10_init : ByteArray := prog_1_method_1_code
def yX10_init : MethodName := ⟨RX10, "<init>", "()V"⟩
abbrev cX10_addPredicate : ByteArray := prog_1_method_2_code
def yX10_addPredicate : MethodName := ⟨RX10, "addPredicate", "(I)I"⟩
abbrev cX10_addDisjunction : ByteArray := prog_1_method_3_code
def yX10_addDisjunction : MethodName := ⟨RX10, "addDisjunction", "(I)I"⟩
abbrev cX10_addChoice : ByteArray := prog_1_method_4_code
def yX10_addChoice : MethodName := ⟨RX10, "addChoice", "(IIII)I"⟩
abbrev cX10_addWeak : ByteArray := prog_1_method_5_code
def yX10_addWeak : MethodName := ⟨RX10, "addWeak", "(III)I"⟩
abbrev cX10_addHead : ByteArray := prog_1_method_6_code
def yX10_addHead : MethodName := ⟨RX10, "addHead", "(IIII)I"⟩
abbrev cX10_addAtom : ByteArray := prog_1_method_7_code
def yX10_addAtom : MethodName := ⟨RX10, "addAtom", "(IZIII)I"⟩
abbrev cX10_addTest : ByteArray := prog_1_method_8_code
def yX10_addTest : MethodName := ⟨RX10, "addTest", "(ICII)I"⟩
abbrev cX10_addCount : ByteArray := prog_1_method_9_code
def yX10_addCount : MethodName := ⟨RX10, "addCount", "(ICII)I"⟩
abbrev cX10_ground : ByteArray := prog_1_method_10_code
def yX10_ground : MethodName := ⟨RX10, "ground", "(II)I"⟩
abbrev cX10_addExternal : ByteArray := prog_1_method_11_code
def yX10_addExternal : MethodName := ⟨RX10, "addExternal", "(III)I"⟩
abbrev cX10_setExternal : ByteArray := prog_1_method_12_code
def yX10_setExternal : MethodName := ⟨RX10, "setExternal", "(IC)C"⟩
abbrev cX10_assume : ByteArray := prog_1_method_13_code
def yX10_assume : MethodName := ⟨RX10, "assume", "(IIIZ)I"⟩
abbrev cX10_dropAssumptions : ByteArray := prog_1_method_14_code
def yX10_dropAssumptions : MethodName := ⟨RX10, "dropAssumptions", "()I"⟩
abbrev cX10_state : ByteArray := prog_1_method_15_code
def yX10_state : MethodName := ⟨RX10, "state", "(III)C"⟩
abbrev cX10_open : ByteArray := prog_1_method_16_code
def yX10_open : MethodName := ⟨RX10, "open", "()I"⟩
abbrev cX10_instances : ByteArray := prog_1_method_17_code
def yX10_instances : MethodName := ⟨RX10, "instances", "(I)I"⟩
abbrev cX10_loops : ByteArray := prog_1_method_18_code
def yX10_loops : MethodName := ⟨RX10, "loops", "()I"⟩
abbrev cX10_walk : ByteArray := prog_1_method_19_code
def yX10_walk : MethodName := ⟨RX10, "walk", "()I"⟩
abbrev cX10_walkByAll : ByteArray := prog_1_method_20_code
def yX10_walkByAll : MethodName := ⟨RX10, "walkByAll", "()I"⟩
abbrev cX10_has : ByteArray := prog_1_method_21_code
def yX10_has : MethodName := ⟨RX10, "has", "(IIII)Z"⟩
abbrev cX10_size : ByteArray := prog_1_method_22_code
def yX10_size : MethodName := ⟨RX10, "size", "(I)I"⟩
abbrev cX10_cost : ByteArray := prog_1_method_23_code
def yX10_cost : MethodName := ⟨RX10, "cost", "(II)J"⟩
abbrev cX10_best : ByteArray := prog_1_method_24_code
def yX10_best : MethodName := ⟨RX10, "best", "()I"⟩
abbrev cX10_projected : ByteArray := prog_1_method_25_code
def yX10_projected : MethodName := ⟨RX10, "projected", "(I)I"⟩
abbrev cX10_holds : ByteArray := prog_1_method_26_code
def yX10_holds : MethodName := ⟨RX10, "holds", "(III)C"⟩
abbrev cX10_reason : ByteArray := prog_1_method_27_code
def yX10_reason : MethodName := ⟨RX10, "reason", "(IIII)I"⟩
abbrev cX10_share : ByteArray := prog_1_method_28_code
def yX10_share : MethodName := ⟨RX10, "share", "(III)F"⟩
abbrev cX10_commonest : ByteArray := prog_1_method_29_code
def yX10_commonest : MethodName := ⟨RX10, "commonest", "()I"⟩
abbrev cX10_meanSize : ByteArray := prog_1_method_30_code
def yX10_meanSize : MethodName := ⟨RX10, "meanSize", "()D"⟩
abbrev cX10_forgetGrounding : ByteArray := prog_1_method_31_code
def yX10_forgetGrounding : MethodName := ⟨RX10, "forgetGrounding", "()V"⟩
abbrev cX10_checkPart : ByteArray := prog_1_method_32_code
def yX10_checkPart : MethodName := ⟨RX10, "checkPart", "(I)V"⟩
abbrev cX10_checkLevel : ByteArray := prog_1_method_33_code
def yX10_checkLevel : MethodName := ⟨RX10, "checkLevel", "(I)V"⟩
abbrev cX10_checkRoomForRule : ByteArray := prog_1_method_34_code
def yX10_checkRoomForRule : MethodName := ⟨RX10, "checkRoomForRule", "()V"⟩
abbrev cX10_checkRoomForCondition : ByteArray := prog_1_method_35_code
def yX10_checkRoomForCondition : MethodName := ⟨RX10, "checkRoomForCondition", "(LAnswerFold$Rule;)V"⟩
abbrev cX10_checkWalk : ByteArray := prog_1_method_36_code
def yX10_checkWalk : MethodName := ⟨RX10, "checkWalk", "()V"⟩
abbrev cX10_checkedAnswer : ByteArray := prog_1_method_37_code
def yX10_checkedAnswer : MethodName := ⟨RX10, "checkedAnswer", "(I)I"⟩
abbrev cX10_checkedAtom : ByteArray := prog_1_method_38_code
def yX10_checkedAtom : MethodName := ⟨RX10, "checkedAtom", "(III)I"⟩
abbrev cX10_answersWith : ByteArray := prog_1_method_39_code
def yX10_answersWith : MethodName := ⟨RX10, "answersWith", "(I)I"⟩
abbrev cX10_isValue : ByteArray := prog_1_method_40_code
def yX10_isValue : MethodName := ⟨RX10, "isValue", "(I)Z"⟩
abbrev cX10_isTerm : ByteArray := prog_1_method_41_code
def yX10_isTerm : MethodName := ⟨RX10, "isTerm", "(I)Z"⟩
abbrev cX10_isBodyTerm : ByteArray := prog_1_method_42_code
def yX10_isBodyTerm : MethodName := ⟨RX10, "isBodyTerm", "(LAnswerFold$Rule;I)Z"⟩
abbrev cX10_atomLiteral : ByteArray := prog_1_method_43_code
def yX10_atomLiteral : MethodName := ⟨RX10, "atomLiteral", "(CIIII)LAnswerFold$Literal;"⟩
def RX11 : String := "AnswerFoldModel$Answer"
def TX11 : u_T := fun k => match k with
  | 0 => ("AnswerFoldModel$Answer", "set", "I", true)
  | _ => ("AnswerFoldModel$Answer", "cost", "[J", true)
def tyX11 : Nat → FieldType := fun k => match k with
  | 0 => .int
  | _ => .array .long
abbrev wsX110 : List Cond := u_ws RX11 TX11 2
theorem nmX11 : ∀ a, a < 2 → ∀ b, b < 2 → a ≠ b → (TX11 a).2.1 ≠ (TX11 b).2.1 := by decide +kernel
theorem tyX11_ok : ∀ k, k < 2 → parseFieldDescriptor (TX11 k).2.2.1 = some (tyX11 k) := by decide +kernel
abbrev cX11_init : ByteArray := prog_14_method_1_code
def yX11_init : MethodName := ⟨RX11, "<init>", "(I)V"⟩
abbrev cX11_isAhead : ByteArray := prog_14_method_2_code
def yX11_isAhead : MethodName := ⟨RX11, "isAhead", "(LAnswerFoldModel$Answer;)Z"⟩
def RX12 : String := "AnswerFoldModel$Condition"
def TX12 : u_T := fun k => match k with
  | 0 => ("AnswerFoldModel$Condition", "kind", "C", true)
  | 1 => ("AnswerFoldModel$Condition", "predicate", "I", true)
  | 2 => ("AnswerFoldModel$Condition", "first", "I", true)
  | _ => ("AnswerFoldModel$Condition", "second", "I", true)
def tyX12 : Nat → FieldType := fun k => match k with
  | 0 => .char
  | 1 => .int
  | 2 => .int
  | _ => .int
abbrev wsX120 : List Cond := u_ws RX12 TX12 4
theorem nmX12 : ∀ a, a < 4 → ∀ b, b < 4 → a ≠ b → (TX12 a).2.1 ≠ (TX12 b).2.1 := by decide +kernel
theorem tyX12_ok : ∀ k, k < 4 → parseFieldDescriptor (TX12 k).2.2.1 = some (tyX12 k) := by decide +kernel
abbrev cX12_init : ByteArray := prog_15_method_1_code
def yX12_init : MethodName := ⟨RX12, "<init>", "(CIII)V"⟩
def RX13 : String := "AnswerFoldModel$Deed"
def TX13 : u_T := fun k => match k with
  | _ => ("", "", "", false)
def tyX13 : Nat → FieldType := fun k => match k with
  | _ => .int
abbrev wsX130 : List Cond := u_ws RX13 TX13 0
theorem nmX13 : ∀ a, a < 0 → ∀ b, b < 0 → a ≠ b → (TX13 a).2.1 ≠ (TX13 b).2.1 := by decide +kernel
theorem tyX13_ok : ∀ k, k < 0 → parseFieldDescriptor (TX13 k).2.2.1 = some (tyX13 k) := by decide +kernel
def RX14 : String := "AnswerFoldModel$Instance"
def TX14 : u_T := fun k => match k with
  | 0 => ("AnswerFoldModel$Instance", "rule", "I", false)
  | 1 => ("AnswerFoldModel$Instance", "heads", "[I", false)
  | 2 => ("AnswerFoldModel$Instance", "trueOnes", "[I", true)
  | 3 => ("AnswerFoldModel$Instance", "needs", "I", false)
  | 4 => ("AnswerFoldModel$Instance", "bars", "I", false)
  | 5 => ("AnswerFoldModel$Instance", "headBits", "I", false)
  | 6 => ("AnswerFoldModel$Instance", "sureHeads", "I", false)
  | _ => ("AnswerFoldModel$Instance", "counts", "Ljava/util/ArrayList;", true)
def tyX14 : Nat → FieldType := fun k => match k with
  | 0 => .int
  | 1 => .array .int
  | 2 => .array .int
  | 3 => .int
  | 4 => .int
  | 5 => .int
  | 6 => .int
  | _ => .object "java/util/ArrayList"
abbrev wsX140 : List Cond := u_ws RX14 TX14 8
theorem nmX14 : ∀ a, a < 8 → ∀ b, b < 8 → a ≠ b → (TX14 a).2.1 ≠ (TX14 b).2.1 := by decide +kernel
theorem tyX14_ok : ∀ k, k < 8 → parseFieldDescriptor (TX14 k).2.2.1 = some (tyX14 k) := by decide +kernel
abbrev cX14_init : ByteArray := prog_17_method_1_code
def yX14_init : MethodName := ⟨RX14, "<init>", "()V"⟩
abbrev cX14_isHeldBy : ByteArray := prog_17_method_2_code
def yX14_isHeldBy : MethodName := ⟨RX14, "isHeldBy", "(I)Z"⟩
def RX15 : String := "AnswerFoldModel$Rule"
def TX15 : u_T := fun k => match k with
  | 0 => ("AnswerFoldModel$Rule", "kind", "C", true)
  | 1 => ("AnswerFoldModel$Rule", "part", "I", true)
  | 2 => ("AnswerFoldModel$Rule", "lower", "I", false)
  | 3 => ("AnswerFoldModel$Rule", "upper", "I", false)
  | 4 => ("AnswerFoldModel$Rule", "span", "I", false)
  | 5 => ("AnswerFoldModel$Rule", "weight", "I", false)
  | 6 => ("AnswerFoldModel$Rule", "level", "I", false)
  | 7 => ("AnswerFoldModel$Rule", "heads", "Ljava/util/ArrayList;", true)
  | _ => ("AnswerFoldModel$Rule", "body", "Ljava/util/ArrayList;", true)
def tyX15 : Nat → FieldType := fun k => match k with
  | 0 => .char
  | 1 => .int
  | 2 => .int
  | 3 => .int
  | 4 => .int
  | 5 => .int
  | 6 => .int
  | 7 => .object "java/util/ArrayList"
  | _ => .object "java/util/ArrayList"
abbrev wsX150 : List Cond := u_ws RX15 TX15 9
theorem nmX15 : ∀ a, a < 9 → ∀ b, b < 9 → a ≠ b → (TX15 a).2.1 ≠ (TX15 b).2.1 := by decide +kernel
theorem tyX15_ok : ∀ k, k < 9 → parseFieldDescriptor (TX15 k).2.2.1 = some (tyX15 k) := by decide +kernel
abbrev cX15_init : ByteArray := prog_18_method_1_code
def yX15_init : MethodName := ⟨RX15, "<init>", "(CI)V"⟩
def RX16 : String := "AnswerFoldModel"
def TX16 : u_T := fun k => match k with
  | 0 => ("AnswerFoldModel", "thrown", "I", false)
  | 1 => ("AnswerFoldModel", "predicates", "I", false)
  | 2 => ("AnswerFoldModel", "places", "[I", true)
  | 3 => ("AnswerFoldModel", "rules", "Ljava/util/ArrayList;", true)
  | 4 => ("AnswerFoldModel", "grounded", "Ljava/util/ArrayList;", true)
  | 5 => ("AnswerFoldModel", "externals", "I", false)
  | 6 => ("AnswerFoldModel", "external", "[I", true)
  | 7 => ("AnswerFoldModel", "externalState", "[C", true)
  | 8 => ("AnswerFoldModel", "assumed", "[I", true)
  | 9 => ("AnswerFoldModel", "isGround", "Z", false)
  | 10 => ("AnswerFoldModel", "sure", "[Z", true)
  | 11 => ("AnswerFoldModel", "possible", "[Z", true)
  | 12 => ("AnswerFoldModel", "keptOf", "[I", true)
  | 13 => ("AnswerFoldModel", "keptAll", "I", false)
  | 14 => ("AnswerFoldModel", "kept", "Ljava/util/ArrayList;", true)
  | 15 => ("AnswerFoldModel", "openMany", "I", false)
  | 16 => ("AnswerFoldModel", "open", "[I", true)
  | 17 => ("AnswerFoldModel", "bitOf", "[I", true)
  | 18 => ("AnswerFoldModel", "heads", "[I", true)
  | 19 => ("AnswerFoldModel", "headMany", "I", false)
  | 20 => ("AnswerFoldModel", "leads", "[Z", true)
  | 21 => ("AnswerFoldModel", "must", "I", false)
  | 22 => ("AnswerFoldModel", "mustNot", "I", false)
  | 23 => ("AnswerFoldModel", "isWalked", "Z", false)
  | 24 => ("AnswerFoldModel", "answers", "Ljava/util/ArrayList;", true)
  | _ => ("AnswerFoldModel", "value", "[I", true)
def tyX16 : Nat → FieldType := fun k => match k with
  | 0 => .int
  | 1 => .int
  | 2 => .array .int
  | 3 => .object "java/util/ArrayList"
  | 4 => .object "java/util/ArrayList"
  | 5 => .int
  | 6 => .array .int
  | 7 => .array .char
  | 8 => .array .int
  | 9 => .boolean
  | 10 => .array .boolean
  | 11 => .array .boolean
  | 12 => .array .int
  | 13 => .int
  | 14 => .object "java/util/ArrayList"
  | 15 => .int
  | 16 => .array .int
  | 17 => .array .int
  | 18 => .array .int
  | 19 => .int
  | 20 => .array .boolean
  | 21 => .int
  | 22 => .int
  | 23 => .boolean
  | 24 => .object "java/util/ArrayList"
  | _ => .array .int
abbrev wsX160 : List Cond := u_ws RX16 TX16 26
theorem nmX16 : ∀ a, a < 26 → ∀ b, b < 26 → a ≠ b → (TX16 a).2.1 ≠ (TX16 b).2.1 := by decide +kernel
theorem tyX16_ok : ∀ k, k < 26 → parseFieldDescriptor (TX16 k).2.2.1 = some (tyX16 k) := by decide +kernel
abbrev cX16_init : ByteArray := prog_13_method_1_code
def yX16_init : MethodName := ⟨RX16, "<init>", "()V"⟩
abbrev cX16_thrown : ByteArray := prog_13_method_2_code
def yX16_thrown : MethodName := ⟨RX16, "thrown", "()I"⟩
abbrev cX16_in : ByteArray := prog_13_method_3_code
def yX16_in : MethodName := ⟨RX16, "in", "(III)Z"⟩
abbrev cX16_fails : ByteArray := prog_13_method_4_code
def yX16_fails : MethodName := ⟨RX16, "fails", "(ZI)Z"⟩
abbrev cX16_noPredicate : ByteArray := prog_13_method_5_code
def yX16_noPredicate : MethodName := ⟨RX16, "noPredicate", "(I)Z"⟩
abbrev cX16_noRule : ByteArray := prog_13_method_6_code
def yX16_noRule : MethodName := ⟨RX16, "noRule", "(I)Z"⟩
abbrev cX16_isOut : ByteArray := prog_13_method_7_code
def yX16_isOut : MethodName := ⟨RX16, "isOut", "(III)Z"⟩
abbrev cX16_atom : ByteArray := prog_13_method_8_code
def yX16_atom : MethodName := ⟨RX16, "atom", "(III)I"⟩
abbrev cX16_change : ByteArray := prog_13_method_9_code
def yX16_change : MethodName := ⟨RX16, "change", "()V"⟩
abbrev cX16_isTerm : ByteArray := prog_13_method_10_code
def yX16_isTerm : MethodName := ⟨RX16, "isTerm", "(I)Z"⟩
abbrev cX16_variableOf : ByteArray := prog_13_method_11_code
def yX16_variableOf : MethodName := ⟨RX16, "variableOf", "(I)I"⟩
abbrev cX16_addPredicate : ByteArray := prog_13_method_12_code
def yX16_addPredicate : MethodName := ⟨RX16, "addPredicate", "(I)I"⟩
abbrev cX16_add : ByteArray := prog_13_method_13_code
def yX16_add : MethodName := ⟨RX16, "add", "(LAnswerFoldModel$Rule;)I"⟩
abbrev cX16_addDisjunction : ByteArray := prog_13_method_14_code
def yX16_addDisjunction : MethodName := ⟨RX16, "addDisjunction", "(I)I"⟩
abbrev cX16_addChoice : ByteArray := prog_13_method_15_code
def yX16_addChoice : MethodName := ⟨RX16, "addChoice", "(IIII)I"⟩
abbrev cX16_addWeak : ByteArray := prog_13_method_16_code
def yX16_addWeak : MethodName := ⟨RX16, "addWeak", "(III)I"⟩
abbrev cX16_noTerms : ByteArray := prog_13_method_17_code
def yX16_noTerms : MethodName := ⟨RX16, "noTerms", "(III)Z"⟩
abbrev cX16_addHead : ByteArray := prog_13_method_18_code
def yX16_addHead : MethodName := ⟨RX16, "addHead", "(IIII)I"⟩
abbrev cX16_isFull : ByteArray := prog_13_method_19_code
def yX16_isFull : MethodName := ⟨RX16, "isFull", "(I)Z"⟩
abbrev cX16_addTo : ByteArray := prog_13_method_20_code
def yX16_addTo : MethodName := ⟨RX16, "addTo", "(ILAnswerFoldModel$Condition;)I"⟩
abbrev cX16_isLocal : ByteArray := prog_13_method_21_code
def yX16_isLocal : MethodName := ⟨RX16, "isLocal", "(II)Z"⟩
abbrev cX16_addAtom : ByteArray := prog_13_method_22_code
def yX16_addAtom : MethodName := ⟨RX16, "addAtom", "(IZIII)I"⟩
abbrev cX16_addTest : ByteArray := prog_13_method_23_code
def yX16_addTest : MethodName := ⟨RX16, "addTest", "(ICII)I"⟩
abbrev cX16_addCount : ByteArray := prog_13_method_24_code
def yX16_addCount : MethodName := ⟨RX16, "addCount", "(ICII)I"⟩
abbrev cX16_ground : ByteArray := prog_13_method_25_code
def yX16_ground : MethodName := ⟨RX16, "ground", "(II)I"⟩
abbrev cX16_externalOf : ByteArray := prog_13_method_26_code
def yX16_externalOf : MethodName := ⟨RX16, "externalOf", "(I)I"⟩
abbrev cX16_addExternal : ByteArray := prog_13_method_27_code
def yX16_addExternal : MethodName := ⟨RX16, "addExternal", "(III)I"⟩
abbrev cX16_setExternal : ByteArray := prog_13_method_28_code
def yX16_setExternal : MethodName := ⟨RX16, "setExternal", "(IC)C"⟩
abbrev cX16_assumptions : ByteArray := prog_13_method_29_code
def yX16_assumptions : MethodName := ⟨RX16, "assumptions", "()I"⟩
abbrev cX16_assume : ByteArray := prog_13_method_30_code
def yX16_assume : MethodName := ⟨RX16, "assume", "(IIIZ)I"⟩
abbrev cX16_dropAssumptions : ByteArray := prog_13_method_31_code
def yX16_dropAssumptions : MethodName := ⟨RX16, "dropAssumptions", "()I"⟩
abbrev cX16_termValue : ByteArray := prog_13_method_32_code
def yX16_termValue : MethodName := ⟨RX16, "termValue", "(II)I"⟩
abbrev cX16_atomOf : ByteArray := prog_13_method_33_code
def yX16_atomOf : MethodName := ⟨RX16, "atomOf", "(LAnswerFoldModel$Condition;I)I"⟩
abbrev cX16_bits : ByteArray := prog_13_method_34_code
def yX16_bits : MethodName := ⟨RX16, "bits", "(LAnswerFoldModel$Condition;)I"⟩
abbrev cX16_variablesOf : ByteArray := prog_13_method_35_code
def yX16_variablesOf : MethodName := ⟨RX16, "variablesOf", "(LAnswerFoldModel$Rule;)I"⟩
abbrev cX16_holds : ByteArray := prog_13_method_36_code
def yX16_holds : MethodName := ⟨RX16, "holds", "(LAnswerFoldModel$Condition;I)Z"⟩
abbrev cX16_isOpenBody : ByteArray := prog_13_method_37_code
def yX16_isOpenBody : MethodName := ⟨RX16, "isOpenBody", "(LAnswerFoldModel$Rule;IZ)Z"⟩
abbrev cX16_isHead : ByteArray := prog_13_method_38_code
def yX16_isHead : MethodName := ⟨RX16, "isHead", "(I)Z"⟩
abbrev cX16_findHeads : ByteArray := prog_13_method_39_code
def yX16_findHeads : MethodName := ⟨RX16, "findHeads", "(LAnswerFoldModel$Rule;I)Z"⟩
abbrev cX16_goThrough : ByteArray := prog_13_method_40_code
def yX16_goThrough : MethodName := ⟨RX16, "goThrough", "(IILAnswerFoldModel$Deed;)Z"⟩
abbrev cX16_goThroughAll : ByteArray := prog_13_method_41_code
def yX16_goThroughAll : MethodName := ⟨RX16, "goThroughAll", "(LAnswerFoldModel$Deed;)Z"⟩
abbrev cX16_keep : ByteArray := prog_13_method_42_code
def yX16_keep : MethodName := ⟨RX16, "keep", "(II)V"⟩
abbrev cX16_countOf : ByteArray := prog_13_method_43_code
def yX16_countOf : MethodName := ⟨RX16, "countOf", "(LAnswerFoldModel$Condition;)[I"⟩
abbrev cX16_groundAll : ByteArray := prog_13_method_44_code
def yX16_groundAll : MethodName := ⟨RX16, "groundAll", "()V"⟩
abbrev cX16_state : ByteArray := prog_13_method_45_code
def yX16_state : MethodName := ⟨RX16, "state", "(III)C"⟩
abbrev cX16_open : ByteArray := prog_13_method_46_code
def yX16_open : MethodName := ⟨RX16, "open", "()I"⟩
abbrev cX16_instances : ByteArray := prog_13_method_47_code
def yX16_instances : MethodName := ⟨RX16, "instances", "(I)I"⟩
abbrev cX16_findLeads : ByteArray := prog_13_method_48_code
def yX16_findLeads : MethodName := ⟨RX16, "findLeads", "()V"⟩
abbrev cX16_loops : ByteArray := prog_13_method_49_code
def yX16_loops : MethodName := ⟨RX16, "loops", "()I"⟩
abbrev cX16_findAssumed : ByteArray := prog_13_method_50_code
def yX16_findAssumed : MethodName := ⟨RX16, "findAssumed", "()Z"⟩
abbrev cX16_fits : ByteArray := prog_13_method_51_code
def yX16_fits : MethodName := ⟨RX16, "fits", "(I)Z"⟩
abbrev cX16_isClosed : ByteArray := prog_13_method_52_code
def yX16_isClosed : MethodName := ⟨RX16, "isClosed", "(I)Z"⟩
abbrev cX16_isEnough : ByteArray := prog_13_method_53_code
def yX16_isEnough : MethodName := ⟨RX16, "isEnough", "(II)Z"⟩
abbrev cX16_freeOnes : ByteArray := prog_13_method_54_code
def yX16_freeOnes : MethodName := ⟨RX16, "freeOnes", "()I"⟩
abbrev cX16_isAnswer : ByteArray := prog_13_method_55_code
def yX16_isAnswer : MethodName := ⟨RX16, "isAnswer", "(I)Z"⟩
abbrev cX16_made : ByteArray := prog_13_method_56_code
def yX16_made : MethodName := ⟨RX16, "made", "(I)LAnswerFoldModel$Answer;"⟩
abbrev cX16_walk : ByteArray := prog_13_method_57_code
def yX16_walk : MethodName := ⟨RX16, "walk", "()I"⟩
abbrev cX16_walkByAll : ByteArray := prog_13_method_58_code
def yX16_walkByAll : MethodName := ⟨RX16, "walkByAll", "()I"⟩
abbrev cX16_noAnswer : ByteArray := prog_13_method_59_code
def yX16_noAnswer : MethodName := ⟨RX16, "noAnswer", "(I)Z"⟩
abbrev cX16_has : ByteArray := prog_13_method_60_code
def yX16_has : MethodName := ⟨RX16, "has", "(II)Z"⟩
abbrev cX16_has_ : ByteArray := prog_13_method_61_code
def yX16_has_ : MethodName := ⟨RX16, "has", "(IIII)Z"⟩
abbrev cX16_sureOnes : ByteArray := prog_13_method_62_code
def yX16_sureOnes : MethodName := ⟨RX16, "sureOnes", "()I"⟩
abbrev cX16_size : ByteArray := prog_13_method_63_code
def yX16_size : MethodName := ⟨RX16, "size", "(I)I"⟩
abbrev cX16_cost : ByteArray := prog_13_method_64_code
def yX16_cost : MethodName := ⟨RX16, "cost", "(II)J"⟩
abbrev cX16_best : ByteArray := prog_13_method_65_code
def yX16_best : MethodName := ⟨RX16, "best", "()I"⟩
abbrev cX16_projected : ByteArray := prog_13_method_66_code
def yX16_projected : MethodName := ⟨RX16, "projected", "(I)I"⟩
abbrev cX16_manyWith : ByteArray := prog_13_method_67_code
def yX16_manyWith : MethodName := ⟨RX16, "manyWith", "(I)I"⟩
abbrev cX16_holds_ : ByteArray := prog_13_method_68_code
def yX16_holds_ : MethodName := ⟨RX16, "holds", "(III)C"⟩
abbrev cX16_isReason : ByteArray := prog_13_method_69_code
def yX16_isReason : MethodName := ⟨RX16, "isReason", "(LAnswerFoldModel$Instance;II)Z"⟩
abbrev cX16_reason : ByteArray := prog_13_method_70_code
def yX16_reason : MethodName := ⟨RX16, "reason", "(IIII)I"⟩
abbrev cX16_share : ByteArray := prog_13_method_71_code
def yX16_share : MethodName := ⟨RX16, "share", "(III)F"⟩
abbrev cX16_commonest : ByteArray := prog_13_method_72_code
def yX16_commonest : MethodName := ⟨RX16, "commonest", "()I"⟩
abbrev cX16_meanSize : ByteArray := prog_13_method_73_code
def yX16_meanSize : MethodName := ⟨RX16, "meanSize", "()D"⟩
def RJx145de : String := "java/io/Serializable"
def TJx145de : u_T := fun k => match k with
  | _ => ("", "", "", false)
def tyJx145de : Nat → FieldType := fun k => match k with
  | _ => .int
abbrev wsJx145de0 : List Cond := u_ws RJx145de TJx145de 0
theorem nmJx145de : ∀ a, a < 0 → ∀ b, b < 0 → a ≠ b → (TJx145de a).2.1 ≠ (TJx145de b).2.1 := by decide +kernel
theorem tyJx145de_ok : ∀ k, k < 0 → parseFieldDescriptor (TJx145de k).2.2.1 = some (tyJx145de k) := by decide +kernel
def RJ5 : String := "java/lang/AbstractStringBuilder"
def TJ5 : u_T := fun k => match k with
  | _ => ("", "", "", false)
def tyJ5 : Nat → FieldType := fun k => match k with
  | _ => .int
abbrev wsJ50 : List Cond := u_ws RJ5 TJ5 0
theorem nmJ5 : ∀ a, a < 0 → ∀ b, b < 0 → a ≠ b → (TJ5 a).2.1 ≠ (TJ5 b).2.1 := by decide +kernel
theorem tyJ5_ok : ∀ k, k < 0 → parseFieldDescriptor (TJ5 k).2.2.1 = some (tyJ5 k) := by decide +kernel
abbrev cJ5_init_d00df : ByteArray := prog_20_method_2_code
def yJ5_init_d00df : MethodName := ⟨RJ5, "<init>", "(I)V"⟩
abbrev cJ5_length_8abf5 : ByteArray := prog_20_method_6_code
def yJ5_length_8abf5 : MethodName := ⟨RJ5, "length", "()I"⟩
abbrev cJ5_ensureCapacityInternal_d00df : ByteArray := prog_20_method_9_code
def yJ5_ensureCapacityInternal_d00df : MethodName := ⟨RJ5, "ensureCapacityInternal", "(I)V"⟩
abbrev cJ5_newCapacity_0f7a4 : ByteArray := prog_20_method_10_code
def yJ5_newCapacity_0f7a4 : MethodName := ⟨RJ5, "newCapacity", "(I)I"⟩
abbrev cJ5_inflate_da8c8 : ByteArray := prog_20_method_11_code
def yJ5_inflate_da8c8 : MethodName := ⟨RJ5, "inflate", "()V"⟩
abbrev cJ5_append_cf1ce : ByteArray := prog_20_method_22_code
def yJ5_append_cf1ce : MethodName := ⟨RJ5, "append", "(Ljava/lang/String;)Ljava/lang/AbstractStringBuilder;"⟩
abbrev cJ5_appendNull_278bc : ByteArray := prog_20_method_26_code
def yJ5_appendNull_278bc : MethodName := ⟨RJ5, "appendNull", "()Ljava/lang/AbstractStringBuilder;"⟩
abbrev cJ5_append_c97b9 : ByteArray := prog_20_method_32_code
def yJ5_append_c97b9 : MethodName := ⟨RJ5, "append", "(I)Ljava/lang/AbstractStringBuilder;"⟩
abbrev cJ5_getValue_6d5f1 : ByteArray := prog_20_method_64_code
def yJ5_getValue_6d5f1 : MethodName := ⟨RJ5, "getValue", "()[B"⟩
abbrev cJ5_isLatin1_aae02 : ByteArray := prog_20_method_68_code
def yJ5_isLatin1_aae02 : MethodName := ⟨RJ5, "isLatin1", "()Z"⟩
abbrev cJ5_inflateIfNeededFor_a7421 : ByteArray := prog_20_method_71_code
def yJ5_inflateIfNeededFor_a7421 : MethodName := ⟨RJ5, "inflateIfNeededFor", "(Ljava/lang/String;)V"⟩
abbrev cJ5_putStringAt_47b60 : ByteArray := prog_20_method_73_code
def yJ5_putStringAt_47b60 : MethodName := ⟨RJ5, "putStringAt", "(ILjava/lang/String;)V"⟩
def RJx2cfe8 : String := "java/lang/Appendable"
def TJx2cfe8 : u_T := fun k => match k with
  | _ => ("", "", "", false)
def tyJx2cfe8 : Nat → FieldType := fun k => match k with
  | _ => .int
abbrev wsJx2cfe80 : List Cond := u_ws RJx2cfe8 TJx2cfe8 0
theorem nmJx2cfe8 : ∀ a, a < 0 → ∀ b, b < 0 → a ≠ b → (TJx2cfe8 a).2.1 ≠ (TJx2cfe8 b).2.1 := by decide +kernel
theorem tyJx2cfe8_ok : ∀ k, k < 0 → parseFieldDescriptor (TJx2cfe8 k).2.2.1 = some (tyJx2cfe8 k) := by decide +kernel
def RJx00060 : String := "java/lang/ArrayIndexOutOfBoundsException"
def TJx00060 : u_T := fun k => match k with
  | 0 => ("java/lang/Throwable", "backtrace", "Ljava/lang/Object;", false)
  | 1 => ("java/lang/Throwable", "detailMessage", "Ljava/lang/String;", false)
  | 2 => ("java/lang/Throwable", "cause", "Ljava/lang/Throwable;", false)
  | 3 => ("java/lang/Throwable", "stackTrace", "[Ljava/lang/StackTraceElement;", false)
  | 4 => ("java/lang/Throwable", "depth", "I", false)
  | _ => ("java/lang/Throwable", "suppressedExceptions", "Ljava/util/List;", false)
def tyJx00060 : Nat → FieldType := fun k => match k with
  | 0 => .object "java/lang/Object"
  | 1 => .object "java/lang/String"
  | 2 => .object "java/lang/Throwable"
  | 3 => .array (.object "java/lang/StackTraceElement")
  | 4 => .int
  | _ => .object "java/util/List"
abbrev wsJx000600 : List Cond := u_ws RJx00060 TJx00060 6
theorem nmJx00060 : ∀ a, a < 6 → ∀ b, b < 6 → a ≠ b → (TJx00060 a).2.1 ≠ (TJx00060 b).2.1 := by decide +kernel
theorem tyJx00060_ok : ∀ k, k < 6 → parseFieldDescriptor (TJx00060 k).2.2.1 = some (tyJx00060 k) := by decide +kernel
abbrev cJx00060_init_a7421 : ByteArray := prog_23_method_2_code
def yJx00060_init_a7421 : MethodName := ⟨RJx00060, "<init>", "(Ljava/lang/String;)V"⟩
def RJx9f9b0 : String := "java/lang/CharSequence"
def TJx9f9b0 : u_T := fun k => match k with
  | _ => ("", "", "", false)
def tyJx9f9b0 : Nat → FieldType := fun k => match k with
  | _ => .int
abbrev wsJx9f9b00 : List Cond := u_ws RJx9f9b0 TJx9f9b0 0
theorem nmJx9f9b0 : ∀ a, a < 0 → ∀ b, b < 0 → a ≠ b → (TJx9f9b0 a).2.1 ≠ (TJx9f9b0 b).2.1 := by decide +kernel
theorem tyJx9f9b0_ok : ∀ k, k < 0 → parseFieldDescriptor (TJx9f9b0 k).2.2.1 = some (tyJx9f9b0 k) := by decide +kernel
def RJx8e188 : String := "java/lang/Cloneable"
def TJx8e188 : u_T := fun k => match k with
  | _ => ("", "", "", false)
def tyJx8e188 : Nat → FieldType := fun k => match k with
  | _ => .int
abbrev wsJx8e1880 : List Cond := u_ws RJx8e188 TJx8e188 0
theorem nmJx8e188 : ∀ a, a < 0 → ∀ b, b < 0 → a ≠ b → (TJx8e188 a).2.1 ≠ (TJx8e188 b).2.1 := by decide +kernel
theorem tyJx8e188_ok : ∀ k, k < 0 → parseFieldDescriptor (TJx8e188 k).2.2.1 = some (tyJx8e188 k) := by decide +kernel
def RJxb160c : String := "java/lang/Comparable"
def TJxb160c : u_T := fun k => match k with
  | _ => ("", "", "", false)
def tyJxb160c : Nat → FieldType := fun k => match k with
  | _ => .int
abbrev wsJxb160c0 : List Cond := u_ws RJxb160c TJxb160c 0
theorem nmJxb160c : ∀ a, a < 0 → ∀ b, b < 0 → a ≠ b → (TJxb160c a).2.1 ≠ (TJxb160c b).2.1 := by decide +kernel
theorem tyJxb160c_ok : ∀ k, k < 0 → parseFieldDescriptor (TJxb160c k).2.2.1 = some (tyJxb160c k) := by decide +kernel
def RJx29ce0 : String := "java/lang/Enum"
def TJx29ce0 : u_T := fun k => match k with
  | _ => ("", "", "", false)
def tyJx29ce0 : Nat → FieldType := fun k => match k with
  | _ => .int
abbrev wsJx29ce00 : List Cond := u_ws RJx29ce0 TJx29ce0 0
theorem nmJx29ce0 : ∀ a, a < 0 → ∀ b, b < 0 → a ≠ b → (TJx29ce0 a).2.1 ≠ (TJx29ce0 b).2.1 := by decide +kernel
theorem tyJx29ce0_ok : ∀ k, k < 0 → parseFieldDescriptor (TJx29ce0 k).2.2.1 = some (tyJx29ce0 k) := by decide +kernel
def RJ6 : String := "java/lang/Integer"
def TJ6 : u_T := fun k => match k with
  | _ => ("", "", "", false)
def tyJ6 : Nat → FieldType := fun k => match k with
  | _ => .int
abbrev wsJ60 : List Cond := u_ws RJ6 TJ6 0
theorem nmJ6 : ∀ a, a < 0 → ∀ b, b < 0 → a ≠ b → (TJ6 a).2.1 ≠ (TJ6 b).2.1 := by decide +kernel
theorem tyJ6_ok : ∀ k, k < 0 → parseFieldDescriptor (TJ6 k).2.2.1 = some (tyJ6 k) := by decide +kernel
abbrev cJ6_getChars_ba4f3 : ByteArray := prog_32_method_12_code
def yJ6_getChars_ba4f3 : MethodName := ⟨RJ6, "getChars", "(II[B)I"⟩
abbrev cJ6_stringSize_0f7a4 : ByteArray := prog_32_method_13_code
def yJ6_stringSize_0f7a4 : MethodName := ⟨RJ6, "stringSize", "(I)I"⟩
abbrev cJ6_bitCount_0f7a4 : ByteArray := prog_32_method_49_code
def yJ6_bitCount_0f7a4 : MethodName := ⟨RJ6, "bitCount", "(I)I"⟩
def RJxab1ab : String := "java/lang/Iterable"
def TJxab1ab : u_T := fun k => match k with
  | _ => ("", "", "", false)
def tyJxab1ab : Nat → FieldType := fun k => match k with
  | _ => .int
abbrev wsJxab1ab0 : List Cond := u_ws RJxab1ab TJxab1ab 0
theorem nmJxab1ab : ∀ a, a < 0 → ∀ b, b < 0 → a ≠ b → (TJxab1ab a).2.1 ≠ (TJxab1ab b).2.1 := by decide +kernel
theorem tyJxab1ab_ok : ∀ k, k < 0 → parseFieldDescriptor (TJxab1ab k).2.2.1 = some (tyJxab1ab k) := by decide +kernel
def RJ13 : String := "java/lang/Long"
def TJ13 : u_T := fun k => match k with
  | _ => ("", "", "", false)
def tyJ13 : Nat → FieldType := fun k => match k with
  | _ => .int
abbrev wsJ130 : List Cond := u_ws RJ13 TJ13 0
theorem nmJ13 : ∀ a, a < 0 → ∀ b, b < 0 → a ≠ b → (TJ13 a).2.1 ≠ (TJ13 b).2.1 := by decide +kernel
theorem tyJ13_ok : ∀ k, k < 0 → parseFieldDescriptor (TJ13 k).2.2.1 = some (tyJ13 k) := by decide +kernel
abbrev cJ13_bitCount_95d88 : ByteArray := prog_34_method_50_code
def yJ13_bitCount_95d88 : MethodName := ⟨RJ13, "bitCount", "(J)I"⟩
def RJ9 : String := "java/lang/Math"
def TJ9 : u_T := fun k => match k with
  | _ => ("", "", "", false)
def tyJ9 : Nat → FieldType := fun k => match k with
  | _ => .int
abbrev wsJ90 : List Cond := u_ws RJ9 TJ9 0
theorem nmJ9 : ∀ a, a < 0 → ∀ b, b < 0 → a ≠ b → (TJ9 a).2.1 ≠ (TJ9 b).2.1 := by decide +kernel
theorem tyJ9_ok : ∀ k, k < 0 → parseFieldDescriptor (TJ9 k).2.2.1 = some (tyJ9 k) := by decide +kernel
abbrev cJ9_max_7cf53 : ByteArray := prog_35_method_65_code
def yJ9_max_7cf53 : MethodName := ⟨RJ9, "max", "(II)I"⟩
abbrev cJ9_min_7cf53 : ByteArray := prog_35_method_69_code
def yJ9_min_7cf53 : MethodName := ⟨RJ9, "min", "(II)I"⟩
def RJxd2413 : String := "java/lang/Number"
def TJxd2413 : u_T := fun k => match k with
  | _ => ("", "", "", false)
def tyJxd2413 : Nat → FieldType := fun k => match k with
  | _ => .int
abbrev wsJxd24130 : List Cond := u_ws RJxd2413 TJxd2413 0
theorem nmJxd2413 : ∀ a, a < 0 → ∀ b, b < 0 → a ≠ b → (TJxd2413 a).2.1 ≠ (TJxd2413 b).2.1 := by decide +kernel
theorem tyJxd2413_ok : ∀ k, k < 0 → parseFieldDescriptor (TJxd2413 k).2.2.1 = some (tyJxd2413 k) := by decide +kernel
def RJ0 : String := "java/lang/String"
def TJ0 : u_T := fun k => match k with
  | 0 => ("java/lang/String", "value", "[B", true)
  | 1 => ("java/lang/String", "coder", "B", true)
  | 2 => ("java/lang/String", "hash", "I", false)
  | _ => ("java/lang/String", "hashIsZero", "Z", false)
def tyJ0 : Nat → FieldType := fun k => match k with
  | 0 => .array .byte
  | 1 => .byte
  | 2 => .int
  | _ => .boolean
abbrev wsJ00 : List Cond := u_ws RJ0 TJ0 4
theorem nmJ0 : ∀ a, a < 4 → ∀ b, b < 4 → a ≠ b → (TJ0 a).2.1 ≠ (TJ0 b).2.1 := by decide +kernel
theorem tyJ0_ok : ∀ k, k < 4 → parseFieldDescriptor (TJ0 k).2.2.1 = some (tyJ0 k) := by decide +kernel
abbrev cJ0_init_81219 : ByteArray := prog_38_method_53_code
def yJ0_init_81219 : MethodName := ⟨RJ0, "<init>", "(Ljava/lang/StringBuilder;)V"⟩
abbrev cJ0_length_8abf5 : ByteArray := prog_38_method_54_code
def yJ0_length_8abf5 : MethodName := ⟨RJ0, "length", "()I"⟩
abbrev cJ0_getBytes_840e7 : ByteArray := prog_38_method_147_code
def yJ0_getBytes_840e7 : MethodName := ⟨RJ0, "getBytes", "([BIB)V"⟩
abbrev cJ0_init_db425 : ByteArray := prog_38_method_150_code
def yJ0_init_db425 : MethodName := ⟨RJ0, "<init>", "(Ljava/lang/AbstractStringBuilder;Ljava/lang/Void;)V"⟩
abbrev cJ0_coder_7d493 : ByteArray := prog_38_method_152_code
def yJ0_coder_7d493 : MethodName := ⟨RJ0, "coder", "()B"⟩
abbrev cJ0_checkBoundsOffCount_cabcc : ByteArray := prog_38_method_157_code
def yJ0_checkBoundsOffCount_cabcc : MethodName := ⟨RJ0, "checkBoundsOffCount", "(III)I"⟩
abbrev cJ0_checkBoundsBeginEnd_23922 : ByteArray := prog_38_method_158_code
def yJ0_checkBoundsBeginEnd_23922 : MethodName := ⟨RJ0, "checkBoundsBeginEnd", "(III)V"⟩
def RJ4 : String := "java/lang/StringBuilder"
def TJ4 : u_T := fun k => match k with
  | 0 => ("java/lang/AbstractStringBuilder", "value", "[B", false)
  | 1 => ("java/lang/AbstractStringBuilder", "coder", "B", false)
  | 2 => ("java/lang/AbstractStringBuilder", "maybeLatin1", "Z", false)
  | _ => ("java/lang/AbstractStringBuilder", "count", "I", false)
def tyJ4 : Nat → FieldType := fun k => match k with
  | 0 => .array .byte
  | 1 => .byte
  | 2 => .boolean
  | _ => .int
abbrev wsJ40 : List Cond := u_ws RJ4 TJ4 4
theorem nmJ4 : ∀ a, a < 4 → ∀ b, b < 4 → a ≠ b → (TJ4 a).2.1 ≠ (TJ4 b).2.1 := by decide +kernel
theorem tyJ4_ok : ∀ k, k < 4 → parseFieldDescriptor (TJ4 k).2.2.1 = some (tyJ4 k) := by decide +kernel
abbrev cJ4_init_da8c8 : ByteArray := prog_39_method_1_code
def yJ4_init_da8c8 : MethodName := ⟨RJ4, "<init>", "()V"⟩
abbrev cJ4_append_15ec4 : ByteArray := prog_39_method_7_code
def yJ4_append_15ec4 : MethodName := ⟨RJ4, "append", "(Ljava/lang/String;)Ljava/lang/StringBuilder;"⟩
abbrev cJ4_append_bf812 : ByteArray := prog_39_method_15_code
def yJ4_append_bf812 : MethodName := ⟨RJ4, "append", "(I)Ljava/lang/StringBuilder;"⟩
abbrev cJ4_toString_0e30d : ByteArray := prog_39_method_42_code
def yJ4_toString_0e30d : MethodName := ⟨RJ4, "toString", "()Ljava/lang/String;"⟩
abbrev cJ4_length_8abf5 : ByteArray := prog_39_method_93_code
def yJ4_length_8abf5 : MethodName := ⟨RJ4, "length", "()I"⟩
def RJ1 : String := "java/lang/StringLatin1"
def TJ1 : u_T := fun k => match k with
  | _ => ("", "", "", false)
def tyJ1 : Nat → FieldType := fun k => match k with
  | _ => .int
abbrev wsJ10 : List Cond := u_ws RJ1 TJ1 0
theorem nmJ1 : ∀ a, a < 0 → ∀ b, b < 0 → a ≠ b → (TJ1 a).2.1 ≠ (TJ1 b).2.1 := by decide +kernel
theorem tyJ1_ok : ∀ k, k < 0 → parseFieldDescriptor (TJ1 k).2.2.1 = some (tyJ1 k) := by decide +kernel
abbrev cJ1_inflate_0e8fd : ByteArray := prog_40_method_50_code
def yJ1_inflate_0e8fd : MethodName := ⟨RJ1, "inflate", "([BI[BII)V"⟩
def RJ2 : String := "java/lang/StringUTF16"
def TJ2 : u_T := fun k => match k with
  | _ => ("", "", "", false)
def tyJ2 : Nat → FieldType := fun k => match k with
  | _ => .int
abbrev wsJ20 : List Cond := u_ws RJ2 TJ2 0
theorem nmJ2 : ∀ a, a < 0 → ∀ b, b < 0 → a ≠ b → (TJ2 a).2.1 ≠ (TJ2 b).2.1 := by decide +kernel
theorem tyJ2_ok : ∀ k, k < 0 → parseFieldDescriptor (TJ2 k).2.2.1 = some (tyJ2 k) := by decide +kernel
abbrev cJ2_newBytesFor_77867 : ByteArray := prog_41_method_2_code
def yJ2_newBytesFor_77867 : MethodName := ⟨RJ2, "newBytesFor", "(I)[B"⟩
abbrev cJ2_newBytesLength_0f7a4 : ByteArray := prog_41_method_3_code
def yJ2_newBytesLength_0f7a4 : MethodName := ⟨RJ2, "newBytesLength", "(I)I"⟩
abbrev cJ2_putChar_b72d1 : ByteArray := prog_41_method_4_code
def yJ2_putChar_b72d1 : MethodName := ⟨RJ2, "putChar", "([BII)V"⟩
abbrev cJ2_getChar_3b067 : ByteArray := prog_41_method_5_code
def yJ2_getChar_3b067 : MethodName := ⟨RJ2, "getChar", "([BI)C"⟩
abbrev cJ2_length_9d52b : ByteArray := prog_41_method_6_code
def yJ2_length_9d52b : MethodName := ⟨RJ2, "length", "([B)I"⟩
abbrev cJ2_coderFromArrayLen_85cad : ByteArray := prog_41_method_15_code
def yJ2_coderFromArrayLen_85cad : MethodName := ⟨RJ2, "coderFromArrayLen", "([BI)B"⟩
abbrev cJ2_compress_39247 : ByteArray := prog_41_method_17_code
def yJ2_compress_39247 : MethodName := ⟨RJ2, "compress", "([BII)[B"⟩
abbrev cJ2_compress_5af95 : ByteArray := prog_41_method_22_code
def yJ2_compress_5af95 : MethodName := ⟨RJ2, "compress", "([BI[BII)I"⟩
abbrev cJ2_getChars_46870 : ByteArray := prog_41_method_77_code
def yJ2_getChars_46870 : MethodName := ⟨RJ2, "getChars", "(III[B)I"⟩
abbrev cJ2_putCharsAt_cd4e5 : ByteArray := prog_41_method_81_code
def yJ2_putCharsAt_cd4e5 : MethodName := ⟨RJ2, "putCharsAt", "([BICCCC)I"⟩
abbrev cJ2_inflate_0e8fd : ByteArray := prog_41_method_86_code
def yJ2_inflate_0e8fd : MethodName := ⟨RJ2, "inflate", "([BI[BII)V"⟩
abbrev cJ2_getChars_ba4f3 : ByteArray := prog_41_method_89_code
def yJ2_getChars_ba4f3 : MethodName := ⟨RJ2, "getChars", "(II[B)I"⟩
abbrev cJ2_checkBoundsBeginEnd_d044e : ByteArray := prog_41_method_93_code
def yJ2_checkBoundsBeginEnd_d044e : MethodName := ⟨RJ2, "checkBoundsBeginEnd", "(II[B)V"⟩
abbrev cJ2_checkBoundsOffCount_d044e : ByteArray := prog_41_method_94_code
def yJ2_checkBoundsOffCount_d044e : MethodName := ⟨RJ2, "checkBoundsOffCount", "(II[B)V"⟩
def RJ10 : String := "java/lang/System"
def TJ10 : u_T := fun k => match k with
  | _ => ("", "", "", false)
def tyJ10 : Nat → FieldType := fun k => match k with
  | _ => .int
abbrev wsJ100 : List Cond := u_ws RJ10 TJ10 0
theorem nmJ10 : ∀ a, a < 0 → ∀ b, b < 0 → a ≠ b → (TJ10 a).2.1 ≠ (TJ10 b).2.1 := by decide +kernel
theorem tyJ10_ok : ∀ k, k < 0 → parseFieldDescriptor (TJ10 k).2.2.1 = some (tyJ10 k) := by decide +kernel
def RJxfd54e : String := "java/lang/constant/Constable"
def TJxfd54e : u_T := fun k => match k with
  | _ => ("", "", "", false)
def tyJxfd54e : Nat → FieldType := fun k => match k with
  | _ => .int
abbrev wsJxfd54e0 : List Cond := u_ws RJxfd54e TJxfd54e 0
theorem nmJxfd54e : ∀ a, a < 0 → ∀ b, b < 0 → a ≠ b → (TJxfd54e a).2.1 ≠ (TJxfd54e b).2.1 := by decide +kernel
theorem tyJxfd54e_ok : ∀ k, k < 0 → parseFieldDescriptor (TJxfd54e k).2.2.1 = some (tyJxfd54e k) := by decide +kernel
def RJx3cf43 : String := "java/lang/constant/ConstantDesc"
def TJx3cf43 : u_T := fun k => match k with
  | _ => ("", "", "", false)
def tyJx3cf43 : Nat → FieldType := fun k => match k with
  | _ => .int
abbrev wsJx3cf430 : List Cond := u_ws RJx3cf43 TJx3cf43 0
theorem nmJx3cf43 : ∀ a, a < 0 → ∀ b, b < 0 → a ≠ b → (TJx3cf43 a).2.1 ≠ (TJx3cf43 b).2.1 := by decide +kernel
theorem tyJx3cf43_ok : ∀ k, k < 0 → parseFieldDescriptor (TJx3cf43 k).2.2.1 = some (tyJx3cf43 k) := by decide +kernel
def RJxa1e45 : String := "java/util/AbstractCollection"
def TJxa1e45 : u_T := fun k => match k with
  | _ => ("", "", "", false)
def tyJxa1e45 : Nat → FieldType := fun k => match k with
  | _ => .int
abbrev wsJxa1e450 : List Cond := u_ws RJxa1e45 TJxa1e45 0
theorem nmJxa1e45 : ∀ a, a < 0 → ∀ b, b < 0 → a ≠ b → (TJxa1e45 a).2.1 ≠ (TJxa1e45 b).2.1 := by decide +kernel
theorem tyJxa1e45_ok : ∀ k, k < 0 → parseFieldDescriptor (TJxa1e45 k).2.2.1 = some (tyJxa1e45 k) := by decide +kernel
abbrev cJxa1e45_init_da8c8 : ByteArray := prog_47_method_1_code
def yJxa1e45_init_da8c8 : MethodName := ⟨RJxa1e45, "<init>", "()V"⟩
def RJxc12de : String := "java/util/AbstractList"
def TJxc12de : u_T := fun k => match k with
  | _ => ("", "", "", false)
def tyJxc12de : Nat → FieldType := fun k => match k with
  | _ => .int
abbrev wsJxc12de0 : List Cond := u_ws RJxc12de TJxc12de 0
theorem nmJxc12de : ∀ a, a < 0 → ∀ b, b < 0 → a ≠ b → (TJxc12de a).2.1 ≠ (TJxc12de b).2.1 := by decide +kernel
theorem tyJxc12de_ok : ∀ k, k < 0 → parseFieldDescriptor (TJxc12de k).2.2.1 = some (tyJxc12de k) := by decide +kernel
abbrev cJxc12de_init_da8c8 : ByteArray := prog_48_method_1_code
def yJxc12de_init_da8c8 : MethodName := ⟨RJxc12de, "<init>", "()V"⟩
def RJx35411 : String := "java/util/ArrayList$Itr"
def TJx35411 : u_T := fun k => match k with
  | 0 => ("java/util/ArrayList$Itr", "cursor", "I", false)
  | 1 => ("java/util/ArrayList$Itr", "lastRet", "I", false)
  | 2 => ("java/util/ArrayList$Itr", "expectedModCount", "I", false)
  | _ => ("java/util/ArrayList$Itr", "this$0", "Ljava/util/ArrayList;", true)
def tyJx35411 : Nat → FieldType := fun k => match k with
  | 0 => .int
  | 1 => .int
  | 2 => .int
  | _ => .object "java/util/ArrayList"
abbrev wsJx354110 : List Cond := u_ws RJx35411 TJx35411 4
theorem nmJx35411 : ∀ a, a < 4 → ∀ b, b < 4 → a ≠ b → (TJx35411 a).2.1 ≠ (TJx35411 b).2.1 := by decide +kernel
theorem tyJx35411_ok : ∀ k, k < 4 → parseFieldDescriptor (TJx35411 k).2.2.1 = some (tyJx35411 k) := by decide +kernel
abbrev cJx35411_init_45d68 : ByteArray := prog_50_method_1_code
def yJx35411_init_45d68 : MethodName := ⟨RJx35411, "<init>", "(Ljava/util/ArrayList;)V"⟩
abbrev cJx35411_hasNext_aae02 : ByteArray := prog_50_method_2_code
def yJx35411_hasNext_aae02 : MethodName := ⟨RJx35411, "hasNext", "()Z"⟩
abbrev cJx35411_next_0502b : ByteArray := prog_50_method_3_code
def yJx35411_next_0502b : MethodName := ⟨RJx35411, "next", "()Ljava/lang/Object;"⟩
abbrev cJx35411_checkForComodification_da8c8 : ByteArray := prog_50_method_6_code
def yJx35411_checkForComodification_da8c8 : MethodName := ⟨RJx35411, "checkForComodification", "()V"⟩
def RJx4a65c : String := "java/util/ArrayList"
def TJx4a65c : u_T := fun k => match k with
  | 0 => ("java/util/AbstractList", "modCount", "I", false)
  | 1 => ("java/util/ArrayList", "elementData", "[Ljava/lang/Object;", false)
  | _ => ("java/util/ArrayList", "size", "I", false)
def tyJx4a65c : Nat → FieldType := fun k => match k with
  | 0 => .int
  | 1 => .array (.object "java/lang/Object")
  | _ => .int
abbrev wsJx4a65c0 : List Cond := u_ws RJx4a65c TJx4a65c 3
theorem nmJx4a65c : ∀ a, a < 3 → ∀ b, b < 3 → a ≠ b → (TJx4a65c a).2.1 ≠ (TJx4a65c b).2.1 := by decide +kernel
theorem tyJx4a65c_ok : ∀ k, k < 3 → parseFieldDescriptor (TJx4a65c k).2.2.1 = some (tyJx4a65c k) := by decide +kernel
abbrev cJx4a65c_init_da8c8 : ByteArray := prog_49_method_2_code
def yJx4a65c_init_da8c8 : MethodName := ⟨RJx4a65c, "<init>", "()V"⟩
abbrev cJx4a65c_grow_92f84 : ByteArray := prog_49_method_6_code
def yJx4a65c_grow_92f84 : MethodName := ⟨RJx4a65c, "grow", "(I)[Ljava/lang/Object;"⟩
abbrev cJx4a65c_grow_d5877 : ByteArray := prog_49_method_7_code
def yJx4a65c_grow_d5877 : MethodName := ⟨RJx4a65c, "grow", "()[Ljava/lang/Object;"⟩
abbrev cJx4a65c_size_8abf5 : ByteArray := prog_49_method_8_code
def yJx4a65c_size_8abf5 : MethodName := ⟨RJx4a65c, "size", "()I"⟩
abbrev cJx4a65c_isEmpty_aae02 : ByteArray := prog_49_method_9_code
def yJx4a65c_isEmpty_aae02 : MethodName := ⟨RJx4a65c, "isEmpty", "()Z"⟩
abbrev cJx4a65c_toArray_d5877 : ByteArray := prog_49_method_16_code
def yJx4a65c_toArray_d5877 : MethodName := ⟨RJx4a65c, "toArray", "()[Ljava/lang/Object;"⟩
abbrev cJx4a65c_elementData_915e3 : ByteArray := prog_49_method_18_code
def yJx4a65c_elementData_915e3 : MethodName := ⟨RJx4a65c, "elementData", "(I)Ljava/lang/Object;"⟩
abbrev cJx4a65c_get_915e3 : ByteArray := prog_49_method_20_code
def yJx4a65c_get_915e3 : MethodName := ⟨RJx4a65c, "get", "(I)Ljava/lang/Object;"⟩
abbrev cJx4a65c_add_72be8 : ByteArray := prog_49_method_24_code
def yJx4a65c_add_72be8 : MethodName := ⟨RJx4a65c, "add", "(Ljava/lang/Object;[Ljava/lang/Object;I)V"⟩
abbrev cJx4a65c_add_9ea2d : ByteArray := prog_49_method_25_code
def yJx4a65c_add_9ea2d : MethodName := ⟨RJx4a65c, "add", "(Ljava/lang/Object;)Z"⟩
abbrev cJx4a65c_add_7a177 : ByteArray := prog_49_method_26_code
def yJx4a65c_add_7a177 : MethodName := ⟨RJx4a65c, "add", "(ILjava/lang/Object;)V"⟩
abbrev cJx4a65c_clear_da8c8 : ByteArray := prog_49_method_40_code
def yJx4a65c_clear_da8c8 : MethodName := ⟨RJx4a65c, "clear", "()V"⟩
abbrev cJx4a65c_addAll_f0b43 : ByteArray := prog_49_method_41_code
def yJx4a65c_addAll_f0b43 : MethodName := ⟨RJx4a65c, "addAll", "(Ljava/util/Collection;)Z"⟩
abbrev cJx4a65c_rangeCheckForAdd_d00df : ByteArray := prog_49_method_45_code
def yJx4a65c_rangeCheckForAdd_d00df : MethodName := ⟨RJx4a65c, "rangeCheckForAdd", "(I)V"⟩
abbrev cJx4a65c_outOfBoundsMsg_b52d3 : ByteArray := prog_49_method_46_code
def yJx4a65c_outOfBoundsMsg_b52d3 : MethodName := ⟨RJx4a65c, "outOfBoundsMsg", "(I)Ljava/lang/String;"⟩
abbrev cJx4a65c_iterator_32c93 : ByteArray := prog_49_method_55_code
def yJx4a65c_iterator_32c93 : MethodName := ⟨RJx4a65c, "iterator", "()Ljava/util/Iterator;"⟩
def RJ7 : String := "java/util/Arrays"
def TJ7 : u_T := fun k => match k with
  | _ => ("", "", "", false)
def tyJ7 : Nat → FieldType := fun k => match k with
  | _ => .int
abbrev wsJ70 : List Cond := u_ws RJ7 TJ7 0
theorem nmJ7 : ∀ a, a < 0 → ∀ b, b < 0 → a ≠ b → (TJ7 a).2.1 ≠ (TJ7 b).2.1 := by decide +kernel
theorem tyJ7_ok : ∀ k, k < 0 → parseFieldDescriptor (TJ7 k).2.2.1 = some (tyJ7 k) := by decide +kernel
abbrev cJ7_copyOf_1904c : ByteArray := prog_51_method_119_code
def yJ7_copyOf_1904c : MethodName := ⟨RJ7, "copyOf", "([Ljava/lang/Object;I)[Ljava/lang/Object;"⟩
abbrev cJ7_copyOf_6403c : ByteArray := prog_51_method_120_code
def yJ7_copyOf_6403c : MethodName := ⟨RJ7, "copyOf", "([Ljava/lang/Object;ILjava/lang/Class;)[Ljava/lang/Object;"⟩
abbrev cJ7_copyOf_9075b : ByteArray := prog_51_method_121_code
def yJ7_copyOf_9075b : MethodName := ⟨RJ7, "copyOf", "([BI)[B"⟩
abbrev cJ7_checkLength_df160 : ByteArray := prog_51_method_131_code
def yJ7_checkLength_df160 : MethodName := ⟨RJ7, "checkLength", "(II)V"⟩
abbrev cJ7_copyOfRange_39247 : ByteArray := prog_51_method_132_code
def yJ7_copyOfRange_39247 : MethodName := ⟨RJ7, "copyOfRange", "([BII)[B"⟩
abbrev cJ7_copyOfRangeByte_39247 : ByteArray := prog_51_method_133_code
def yJ7_copyOfRangeByte_39247 : MethodName := ⟨RJ7, "copyOfRangeByte", "([BII)[B"⟩
def RJx5ef63 : String := "java/util/Collection"
def TJx5ef63 : u_T := fun k => match k with
  | _ => ("", "", "", false)
def tyJx5ef63 : Nat → FieldType := fun k => match k with
  | _ => .int
abbrev wsJx5ef630 : List Cond := u_ws RJx5ef63 TJx5ef63 0
theorem nmJx5ef63 : ∀ a, a < 0 → ∀ b, b < 0 → a ≠ b → (TJx5ef63 a).2.1 ≠ (TJx5ef63 b).2.1 := by decide +kernel
theorem tyJx5ef63_ok : ∀ k, k < 0 → parseFieldDescriptor (TJx5ef63 k).2.2.1 = some (tyJx5ef63 k) := by decide +kernel
def RJx4d0d8 : String := "java/util/Iterator"
def TJx4d0d8 : u_T := fun k => match k with
  | _ => ("", "", "", false)
def tyJx4d0d8 : Nat → FieldType := fun k => match k with
  | _ => .int
abbrev wsJx4d0d80 : List Cond := u_ws RJx4d0d8 TJx4d0d8 0
theorem nmJx4d0d8 : ∀ a, a < 0 → ∀ b, b < 0 → a ≠ b → (TJx4d0d8 a).2.1 ≠ (TJx4d0d8 b).2.1 := by decide +kernel
theorem tyJx4d0d8_ok : ∀ k, k < 0 → parseFieldDescriptor (TJx4d0d8 k).2.2.1 = some (tyJx4d0d8 k) := by decide +kernel
def RJxbd725 : String := "java/util/List"
def TJxbd725 : u_T := fun k => match k with
  | _ => ("", "", "", false)
def tyJxbd725 : Nat → FieldType := fun k => match k with
  | _ => .int
abbrev wsJxbd7250 : List Cond := u_ws RJxbd725 TJxbd725 0
theorem nmJxbd725 : ∀ a, a < 0 → ∀ b, b < 0 → a ≠ b → (TJxbd725 a).2.1 ≠ (TJxbd725 b).2.1 := by decide +kernel
theorem tyJxbd725_ok : ∀ k, k < 0 → parseFieldDescriptor (TJxbd725 k).2.2.1 = some (tyJxbd725 k) := by decide +kernel
def RJ15 : String := "java/util/Objects"
def TJ15 : u_T := fun k => match k with
  | _ => ("", "", "", false)
def tyJ15 : Nat → FieldType := fun k => match k with
  | _ => .int
abbrev wsJ150 : List Cond := u_ws RJ15 TJ15 0
theorem nmJ15 : ∀ a, a < 0 → ∀ b, b < 0 → a ≠ b → (TJ15 a).2.1 ≠ (TJ15 b).2.1 := by decide +kernel
theorem tyJ15_ok : ∀ k, k < 0 → parseFieldDescriptor (TJ15 k).2.2.1 = some (tyJ15 k) := by decide +kernel
abbrev cJ15_checkIndex_7cf53 : ByteArray := prog_56_method_17_code
def yJ15_checkIndex_7cf53 : MethodName := ⟨RJ15, "checkIndex", "(II)I"⟩
def RJxf0a74 : String := "java/util/RandomAccess"
def TJxf0a74 : u_T := fun k => match k with
  | _ => ("", "", "", false)
def tyJxf0a74 : Nat → FieldType := fun k => match k with
  | _ => .int
abbrev wsJxf0a740 : List Cond := u_ws RJxf0a74 TJxf0a74 0
theorem nmJxf0a74 : ∀ a, a < 0 → ∀ b, b < 0 → a ≠ b → (TJxf0a74 a).2.1 ≠ (TJxf0a74 b).2.1 := by decide +kernel
theorem tyJxf0a74_ok : ∀ k, k < 0 → parseFieldDescriptor (TJxf0a74 k).2.2.1 = some (tyJxf0a74 k) := by decide +kernel
def RJxa66e6 : String := "java/util/SequencedCollection"
def TJxa66e6 : u_T := fun k => match k with
  | _ => ("", "", "", false)
def tyJxa66e6 : Nat → FieldType := fun k => match k with
  | _ => .int
abbrev wsJxa66e60 : List Cond := u_ws RJxa66e6 TJxa66e6 0
theorem nmJxa66e6 : ∀ a, a < 0 → ∀ b, b < 0 → a ≠ b → (TJxa66e6 a).2.1 ≠ (TJxa66e6 b).2.1 := by decide +kernel
theorem tyJxa66e6_ok : ∀ k, k < 0 → parseFieldDescriptor (TJxa66e6 k).2.2.1 = some (tyJxa66e6 k) := by decide +kernel
def RJ8 : String := "jdk/internal/util/ArraysSupport"
def TJ8 : u_T := fun k => match k with
  | _ => ("", "", "", false)
def tyJ8 : Nat → FieldType := fun k => match k with
  | _ => .int
abbrev wsJ80 : List Cond := u_ws RJ8 TJ8 0
theorem nmJ8 : ∀ a, a < 0 → ∀ b, b < 0 → a ≠ b → (TJ8 a).2.1 ≠ (TJ8 b).2.1 := by decide +kernel
theorem tyJ8_ok : ∀ k, k < 0 → parseFieldDescriptor (TJ8 k).2.2.1 = some (tyJ8 k) := by decide +kernel
abbrev cJ8_newLength_cabcc : ByteArray := prog_59_method_27_code
def yJ8_newLength_cabcc : MethodName := ⟨RJ8, "newLength", "(III)I"⟩
abbrev cJ8_hugeLength_7cf53 : ByteArray := prog_59_method_28_code
def yJ8_hugeLength_7cf53 : MethodName := ⟨RJ8, "hugeLength", "(II)I"⟩
def RJ3 : String := "jdk/internal/util/Preconditions"
def TJ3 : u_T := fun k => match k with
  | _ => ("", "", "", false)
def tyJ3 : Nat → FieldType := fun k => match k with
  | _ => .int
abbrev wsJ30 : List Cond := u_ws RJ3 TJ3 0
theorem nmJ3 : ∀ a, a < 0 → ∀ b, b < 0 → a ≠ b → (TJ3 a).2.1 ≠ (TJ3 b).2.1 := by decide +kernel
theorem tyJ3_ok : ∀ k, k < 0 → parseFieldDescriptor (TJ3 k).2.2.1 = some (tyJ3 k) := by decide +kernel
abbrev cJ3_checkIndex_8e157 : ByteArray := prog_60_method_11_code
def yJ3_checkIndex_8e157 : MethodName := ⟨RJ3, "checkIndex", "(IILjava/util/function/BiFunction;)I"⟩
abbrev cJ3_checkFromToIndex_8c36e : ByteArray := prog_60_method_12_code
def yJ3_checkFromToIndex_8c36e : MethodName := ⟨RJ3, "checkFromToIndex", "(IIILjava/util/function/BiFunction;)I"⟩
abbrev cJ3_checkFromIndexSize_8c36e : ByteArray := prog_60_method_13_code
def yJ3_checkFromIndexSize_8c36e : MethodName := ⟨RJ3, "checkFromIndexSize", "(IIILjava/util/function/BiFunction;)I"⟩
def RL : String := "AnswerFoldLaw"
abbrev cL_addPredicate : ByteArray := method_3_code
def yL_addPredicate : MethodName := ⟨RL, "addPredicate", "(LAnswerFold;I[J)I"⟩
abbrev cL_addDisjunction : ByteArray := method_4_code
def yL_addDisjunction : MethodName := ⟨RL, "addDisjunction", "(LAnswerFold;I[J)I"⟩
abbrev cL_addChoice : ByteArray := method_5_code
def yL_addChoice : MethodName := ⟨RL, "addChoice", "(LAnswerFold;IIII[J)I"⟩
abbrev cL_addWeak : ByteArray := method_6_code
def yL_addWeak : MethodName := ⟨RL, "addWeak", "(LAnswerFold;III[J)I"⟩
abbrev cL_addHead : ByteArray := method_7_code
def yL_addHead : MethodName := ⟨RL, "addHead", "(LAnswerFold;IIII[J)I"⟩
abbrev cL_addAtom : ByteArray := method_8_code
def yL_addAtom : MethodName := ⟨RL, "addAtom", "(LAnswerFold;IZIII[J)I"⟩
abbrev cL_addTest : ByteArray := method_9_code
def yL_addTest : MethodName := ⟨RL, "addTest", "(LAnswerFold;ICII[J)I"⟩
abbrev cL_addCount : ByteArray := method_10_code
def yL_addCount : MethodName := ⟨RL, "addCount", "(LAnswerFold;ICII[J)I"⟩
abbrev cL_ground : ByteArray := method_11_code
def yL_ground : MethodName := ⟨RL, "ground", "(LAnswerFold;II[J)I"⟩
abbrev cL_addExternal : ByteArray := method_12_code
def yL_addExternal : MethodName := ⟨RL, "addExternal", "(LAnswerFold;III[J)I"⟩
abbrev cL_setExternal : ByteArray := method_13_code
def yL_setExternal : MethodName := ⟨RL, "setExternal", "(LAnswerFold;IC[J)I"⟩
abbrev cL_assume : ByteArray := method_14_code
def yL_assume : MethodName := ⟨RL, "assume", "(LAnswerFold;IIIZ[J)I"⟩
abbrev cL_state : ByteArray := method_15_code
def yL_state : MethodName := ⟨RL, "state", "(LAnswerFold;III[J)I"⟩
abbrev cL_instances : ByteArray := method_16_code
def yL_instances : MethodName := ⟨RL, "instances", "(LAnswerFold;I[J)I"⟩
abbrev cL_loops : ByteArray := method_17_code
def yL_loops : MethodName := ⟨RL, "loops", "(LAnswerFold;[J)I"⟩
abbrev cL_walk : ByteArray := method_18_code
def yL_walk : MethodName := ⟨RL, "walk", "(LAnswerFold;[J)I"⟩
abbrev cL_walkByAll : ByteArray := method_19_code
def yL_walkByAll : MethodName := ⟨RL, "walkByAll", "(LAnswerFold;[J)I"⟩
abbrev cL_has : ByteArray := method_20_code
def yL_has : MethodName := ⟨RL, "has", "(LAnswerFold;IIII[J)I"⟩
abbrev cL_size : ByteArray := method_21_code
def yL_size : MethodName := ⟨RL, "size", "(LAnswerFold;I[J)I"⟩
abbrev cL_cost : ByteArray := method_22_code
def yL_cost : MethodName := ⟨RL, "cost", "(LAnswerFold;II[J)I"⟩
abbrev cL_best : ByteArray := method_23_code
def yL_best : MethodName := ⟨RL, "best", "(LAnswerFold;[J)I"⟩
abbrev cL_projected : ByteArray := method_24_code
def yL_projected : MethodName := ⟨RL, "projected", "(LAnswerFold;I[J)I"⟩
abbrev cL_holds : ByteArray := method_25_code
def yL_holds : MethodName := ⟨RL, "holds", "(LAnswerFold;III[J)I"⟩
abbrev cL_reason : ByteArray := method_26_code
def yL_reason : MethodName := ⟨RL, "reason", "(LAnswerFold;IIII[J)I"⟩
abbrev cL_share : ByteArray := method_27_code
def yL_share : MethodName := ⟨RL, "share", "(LAnswerFold;III[D)I"⟩
abbrev cL_commonest : ByteArray := method_28_code
def yL_commonest : MethodName := ⟨RL, "commonest", "(LAnswerFold;[J)I"⟩
abbrev cL_meanSize : ByteArray := method_29_code
def yL_meanSize : MethodName := ⟨RL, "meanSize", "(LAnswerFold;[D)I"⟩
abbrev cL_law : ByteArray := code
def yL_law : MethodName := ⟨RL, "law", "([I)Z"⟩
abbrev vwCl : List vw_C := [(RJ0, TJ0, 4), (RJ4, TJ4, 4), (RJx00060, TJx00060, 6), (RJx35411, TJx35411, 4), (RJx4a65c, TJx4a65c, 3), (RX0, TX0, 4), (RX1, TX1, 1), (RX2, TX2, 4), (RX3, TX3, 16), (RX4, TX4, 8), (RX5, TX5, 2), (RX6, TX6, 10), (RX7, TX7, 7), (RX8, TX8, 11), (RX9, TX9, 17), (RX10, TX10, 7), (RX11, TX11, 2), (RX12, TX12, 4), (RX14, TX14, 8), (RX15, TX15, 9), (RX16, TX16, 26)]

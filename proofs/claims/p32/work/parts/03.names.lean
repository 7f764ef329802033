/-! ===== BEGIN printed: names, fields, word lists, decode rows ===== -/
def RX0 : String := "AnswerFold$Answers"
def TX0 : u_T := fun k => match k with
  | 0 => ("AnswerFold$Answers", "sets", "[I", true)
  | 1 => ("AnswerFold$Answers", "costs", "[J", true)
  | 2 => ("AnswerFold$Answers", "count", "I", false)
  | _ => ("AnswerFold$Answers", "isKept", "Z", false)
def tyX0 : Nat → FieldType := fun k => match k with
  | 0 => .array .int
  | 1 => .array .long
  | 2 => .int
  | _ => .boolean
abbrev wsX00 : List Cond := u_ws RX0 TX0 4
theorem nmX0 : ∀ a, a < 4 → ∀ b, b < 4 → a ≠ b → (TX0 a).2.1 ≠ (TX0 b).2.1 := by decide +kernel
theorem tyX0_ok : ∀ k, k < 4 → parseFieldDescriptor (TX0 k).2.2.1 = some (tyX0 k) := by decide +kernel
abbrev cX0_init : ByteArray := prog_2_method_1_code
def yX0_init : MethodName := ⟨RX0, "<init>", "()V"⟩
abbrev cX0_insert : ByteArray := prog_2_method_2_code
def yX0_insert : MethodName := ⟨RX0, "insert", "(IJJJ)Z"⟩
abbrev cX0_isDearer : ByteArray := prog_2_method_3_code
def yX0_isDearer : MethodName := ⟨RX0, "isDearer", "(IJJJ)Z"⟩
abbrev cX0_copy : ByteArray := prog_2_method_4_code
def yX0_copy : MethodName := ⟨RX0, "copy", "(II)V"⟩
abbrev cX0_setAt : ByteArray := prog_2_method_5_code
def yX0_setAt : MethodName := ⟨RX0, "setAt", "(I)I"⟩
abbrev cX0_costAt : ByteArray := prog_2_method_6_code
def yX0_costAt : MethodName := ⟨RX0, "costAt", "(II)J"⟩
abbrev cX0_countBest : ByteArray := prog_2_method_7_code
def yX0_countBest : MethodName := ⟨RX0, "countBest", "()I"⟩
abbrev cX0_countDifferent : ByteArray := prog_2_method_8_code
def yX0_countDifferent : MethodName := ⟨RX0, "countDifferent", "(I)I"⟩
def RX1 : String := "AnswerFold$AtomSet"
def TX1 : u_T := fun k => match k with
  | _ => ("AnswerFold$AtomSet", "words", "[J", true)
def tyX1 : Nat → FieldType := fun k => match k with
  | _ => .array .long
abbrev wsX10 : List Cond := u_ws RX1 TX1 1
theorem nmX1 : ∀ a, a < 1 → ∀ b, b < 1 → a ≠ b → (TX1 a).2.1 ≠ (TX1 b).2.1 := by decide +kernel
theorem tyX1_ok : ∀ k, k < 1 → parseFieldDescriptor (TX1 k).2.2.1 = some (tyX1 k) := by decide +kernel
abbrev cX1_init : ByteArray := prog_3_method_1_code
def yX1_init : MethodName := ⟨RX1, "<init>", "()V"⟩
abbrev cX1_contains : ByteArray := prog_3_method_2_code
def yX1_contains : MethodName := ⟨RX1, "contains", "(I)Z"⟩
abbrev cX1_add : ByteArray := prog_3_method_3_code
def yX1_add : MethodName := ⟨RX1, "add", "(I)Z"⟩
abbrev cX1_remove : ByteArray := prog_3_method_4_code
def yX1_remove : MethodName := ⟨RX1, "remove", "(I)V"⟩
abbrev cX1_countOf : ByteArray := prog_3_method_5_code
def yX1_countOf : MethodName := ⟨RX1, "countOf", "(I)I"⟩
abbrev cX1_count : ByteArray := prog_3_method_6_code
def yX1_count : MethodName := ⟨RX1, "count", "()I"⟩
abbrev cX1_clear : ByteArray := prog_3_method_7_code
def yX1_clear : MethodName := ⟨RX1, "clear", "()V"⟩
def RX2 : String := "AnswerFold$Binding"
def TX2 : u_T := fun k => match k with
  | 0 => ("AnswerFold$Binding", "first", "I", false)
  | 1 => ("AnswerFold$Binding", "second", "I", false)
  | 2 => ("AnswerFold$Binding", "third", "I", false)
  | _ => ("AnswerFold$Binding", "parameter", "I", false)
def tyX2 : Nat → FieldType := fun k => match k with
  | 0 => .int
  | 1 => .int
  | 2 => .int
  | _ => .int
abbrev wsX20 : List Cond := u_ws RX2 TX2 4
theorem nmX2 : ∀ a, a < 4 → ∀ b, b < 4 → a ≠ b → (TX2 a).2.1 ≠ (TX2 b).2.1 := by decide +kernel
theorem tyX2_ok : ∀ k, k < 4 → parseFieldDescriptor (TX2 k).2.2.1 = some (tyX2 k) := by decide +kernel
abbrev cX2_init : ByteArray := prog_4_method_1_code
def yX2_init : MethodName := ⟨RX2, "<init>", "()V"⟩
abbrev cX2_valueOf : ByteArray := prog_4_method_2_code
def yX2_valueOf : MethodName := ⟨RX2, "valueOf", "(II)I"⟩
abbrev cX2_atomOf : ByteArray := prog_4_method_3_code
def yX2_atomOf : MethodName := ⟨RX2, "atomOf", "(LAnswerFold$Literal;)I"⟩
abbrev cX2_testHolds : ByteArray := prog_4_method_4_code
def yX2_testHolds : MethodName := ⟨RX2, "testHolds", "(LAnswerFold$Literal;)Z"⟩
abbrev cX2_packed : ByteArray := prog_4_method_5_code
def yX2_packed : MethodName := ⟨RX2, "packed", "()I"⟩
abbrev cX2_unpack : ByteArray := prog_4_method_6_code
def yX2_unpack : MethodName := ⟨RX2, "unpack", "(I)V"⟩
def RX3 : String := "AnswerFold$Grounding"
def TX3 : u_T := fun k => match k with
  | 0 => ("AnswerFold$Grounding", "program", "LAnswerFold$Program;", true)
  | 1 => ("AnswerFold$Grounding", "binding", "LAnswerFold$Binding;", true)
  | 2 => ("AnswerFold$Grounding", "sure", "LAnswerFold$AtomSet;", true)
  | 3 => ("AnswerFold$Grounding", "possible", "LAnswerFold$AtomSet;", true)
  | 4 => ("AnswerFold$Grounding", "heads", "[I", true)
  | 5 => ("AnswerFold$Grounding", "headCount", "I", false)
  | 6 => ("AnswerFold$Grounding", "keptRule", "[I", true)
  | 7 => ("AnswerFold$Grounding", "keptValues", "[I", true)
  | 8 => ("AnswerFold$Grounding", "keptByRule", "[I", true)
  | 9 => ("AnswerFold$Grounding", "keptCount", "I", false)
  | 10 => ("AnswerFold$Grounding", "openAtoms", "[I", true)
  | 11 => ("AnswerFold$Grounding", "openNumbers", "[I", true)
  | 12 => ("AnswerFold$Grounding", "openCount", "I", false)
  | 13 => ("AnswerFold$Grounding", "isCurrent", "Z", false)
  | 14 => ("AnswerFold$Grounding", "purpose", "I", false)
  | _ => ("AnswerFold$Grounding", "grown", "I", false)
def tyX3 : Nat → FieldType := fun k => match k with
  | 0 => .object "AnswerFold$Program"
  | 1 => .object "AnswerFold$Binding"
  | 2 => .object "AnswerFold$AtomSet"
  | 3 => .object "AnswerFold$AtomSet"
  | 4 => .array .int
  | 5 => .int
  | 6 => .array .int
  | 7 => .array .int
  | 8 => .array .int
  | 9 => .int
  | 10 => .array .int
  | 11 => .array .int
  | 12 => .int
  | 13 => .boolean
  | 14 => .int
  | _ => .int
abbrev wsX30 : List Cond := u_ws RX3 TX3 16
theorem nmX3 : ∀ a, a < 16 → ∀ b, b < 16 → a ≠ b → (TX3 a).2.1 ≠ (TX3 b).2.1 := by decide +kernel
theorem tyX3_ok : ∀ k, k < 16 → parseFieldDescriptor (TX3 k).2.2.1 = some (tyX3 k) := by decide +kernel
abbrev cX3_init : ByteArray := prog_5_method_1_code
def yX3_init : MethodName := ⟨RX3, "<init>", "(LAnswerFold$Program;)V"⟩
abbrev cX3_refresh : ByteArray := prog_5_method_2_code
def yX3_refresh : MethodName := ⟨RX3, "refresh", "()V"⟩
abbrev cX3_beginWithExternals : ByteArray := prog_5_method_3_code
def yX3_beginWithExternals : MethodName := ⟨RX3, "beginWithExternals", "()V"⟩
abbrev cX3_spread : ByteArray := prog_5_method_4_code
def yX3_spread : MethodName := ⟨RX3, "spread", "()V"⟩
abbrev cX3_rulesNeeding : ByteArray := prog_5_method_5_code
def yX3_rulesNeeding : MethodName := ⟨RX3, "rulesNeeding", "(I)I"⟩
abbrev cX3_keepInstances : ByteArray := prog_5_method_6_code
def yX3_keepInstances : MethodName := ⟨RX3, "keepInstances", "()V"⟩
abbrev cX3_eachInstance : ByteArray := prog_5_method_7_code
def yX3_eachInstance : MethodName := ⟨RX3, "eachInstance", "(LAnswerFold$Rule;II)V"⟩
abbrev cX3_mayHold : ByteArray := prog_5_method_8_code
def yX3_mayHold : MethodName := ⟨RX3, "mayHold", "(LAnswerFold$Rule;I)Z"⟩
abbrev cX3_mayHoldOne : ByteArray := prog_5_method_9_code
def yX3_mayHoldOne : MethodName := ⟨RX3, "mayHoldOne", "(LAnswerFold$Literal;)Z"⟩
abbrev cX3_takeInstance : ByteArray := prog_5_method_10_code
def yX3_takeInstance : MethodName := ⟨RX3, "takeInstance", "(LAnswerFold$Rule;I)V"⟩
abbrev cX3_keep : ByteArray := prog_5_method_11_code
def yX3_keep : MethodName := ⟨RX3, "keep", "(II)V"⟩
abbrev cX3_listHeads : ByteArray := prog_5_method_12_code
def yX3_listHeads : MethodName := ⟨RX3, "listHeads", "(LAnswerFold$Rule;)Z"⟩
abbrev cX3_listHead : ByteArray := prog_5_method_13_code
def yX3_listHead : MethodName := ⟨RX3, "listHead", "(I)V"⟩
abbrev cX3_headAtomAt : ByteArray := prog_5_method_14_code
def yX3_headAtomAt : MethodName := ⟨RX3, "headAtomAt", "(I)I"⟩
abbrev cX3_numberOpenAtoms : ByteArray := prog_5_method_15_code
def yX3_numberOpenAtoms : MethodName := ⟨RX3, "numberOpenAtoms", "()V"⟩
abbrev cX3_openNumberOf : ByteArray := prog_5_method_16_code
def yX3_openNumberOf : MethodName := ⟨RX3, "openNumberOf", "(I)I"⟩
abbrev cX3_openAtomAt : ByteArray := prog_5_method_17_code
def yX3_openAtomAt : MethodName := ⟨RX3, "openAtomAt", "(I)I"⟩
abbrev cX3_keptOf : ByteArray := prog_5_method_18_code
def yX3_keptOf : MethodName := ⟨RX3, "keptOf", "(I)I"⟩
abbrev cX3_keptRuleAt : ByteArray := prog_5_method_19_code
def yX3_keptRuleAt : MethodName := ⟨RX3, "keptRuleAt", "(I)I"⟩
abbrev cX3_bindKept : ByteArray := prog_5_method_20_code
def yX3_bindKept : MethodName := ⟨RX3, "bindKept", "(I)LAnswerFold$Rule;"⟩
def RX4 : String := "AnswerFold$Literal"
def TX4 : u_T := fun k => match k with
  | 0 => ("AnswerFold$Literal", "kind", "C", true)
  | 1 => ("AnswerFold$Literal", "predicate", "I", true)
  | 2 => ("AnswerFold$Literal", "bound", "I", true)
  | 3 => ("AnswerFold$Literal", "firstSlot", "I", true)
  | 4 => ("AnswerFold$Literal", "firstShift", "I", true)
  | 5 => ("AnswerFold$Literal", "secondSlot", "I", true)
  | 6 => ("AnswerFold$Literal", "secondShift", "I", true)
  | _ => ("AnswerFold$Literal", "depth", "I", true)
def tyX4 : Nat → FieldType := fun k => match k with
  | 0 => .char
  | 1 => .int
  | 2 => .int
  | 3 => .int
  | 4 => .int
  | 5 => .int
  | 6 => .int
  | _ => .int
abbrev wsX40 : List Cond := u_ws RX4 TX4 8
theorem nmX4 : ∀ a, a < 8 → ∀ b, b < 8 → a ≠ b → (TX4 a).2.1 ≠ (TX4 b).2.1 := by decide +kernel
theorem tyX4_ok : ∀ k, k < 8 → parseFieldDescriptor (TX4 k).2.2.1 = some (tyX4 k) := by decide +kernel
abbrev cX4_init : ByteArray := prog_6_method_1_code
def yX4_init : MethodName := ⟨RX4, "<init>", "(CIIII)V"⟩
abbrev cX4_slotOf : ByteArray := prog_6_method_2_code
def yX4_slotOf : MethodName := ⟨RX4, "slotOf", "(I)I"⟩
abbrev cX4_shiftOf : ByteArray := prog_6_method_3_code
def yX4_shiftOf : MethodName := ⟨RX4, "shiftOf", "(I)I"⟩
abbrev cX4_names : ByteArray := prog_6_method_4_code
def yX4_names : MethodName := ⟨RX4, "names", "(I)Z"⟩
abbrev cX4_isCount : ByteArray := prog_6_method_5_code
def yX4_isCount : MethodName := ⟨RX4, "isCount", "()Z"⟩
def RX5 : String := "AnswerFold$LoopFinder"
def TX5 : u_T := fun k => match k with
  | 0 => ("AnswerFold$LoopFinder", "grounding", "LAnswerFold$Grounding;", true)
  | _ => ("AnswerFold$LoopFinder", "rows", "[J", true)
def tyX5 : Nat → FieldType := fun k => match k with
  | 0 => .object "AnswerFold$Grounding"
  | _ => .array .long
abbrev wsX50 : List Cond := u_ws RX5 TX5 2
theorem nmX5 : ∀ a, a < 2 → ∀ b, b < 2 → a ≠ b → (TX5 a).2.1 ≠ (TX5 b).2.1 := by decide +kernel
theorem tyX5_ok : ∀ k, k < 2 → parseFieldDescriptor (TX5 k).2.2.1 = some (tyX5 k) := by decide +kernel
abbrev cX5_init : ByteArray := prog_7_method_1_code
def yX5_init : MethodName := ⟨RX5, "<init>", "(LAnswerFold$Grounding;)V"⟩
abbrev cX5_countLoops : ByteArray := prog_7_method_2_code
def yX5_countLoops : MethodName := ⟨RX5, "countLoops", "()I"⟩
abbrev cX5_clearRows : ByteArray := prog_7_method_3_code
def yX5_clearRows : MethodName := ⟨RX5, "clearRows", "(I)V"⟩
abbrev cX5_noteInstance : ByteArray := prog_7_method_4_code
def yX5_noteInstance : MethodName := ⟨RX5, "noteInstance", "(I)V"⟩
abbrev cX5_noteLead : ByteArray := prog_7_method_5_code
def yX5_noteLead : MethodName := ⟨RX5, "noteLead", "(II)V"⟩
abbrev cX5_leads : ByteArray := prog_7_method_6_code
def yX5_leads : MethodName := ⟨RX5, "leads", "(II)Z"⟩
abbrev cX5_joinRow : ByteArray := prog_7_method_7_code
def yX5_joinRow : MethodName := ⟨RX5, "joinRow", "(II)V"⟩
abbrev cX5_isFirstOfLoop : ByteArray := prog_7_method_8_code
def yX5_isFirstOfLoop : MethodName := ⟨RX5, "isFirstOfLoop", "(I)Z"⟩
def RX6 : String := "AnswerFold$Program"
def TX6 : u_T := fun k => match k with
  | 0 => ("AnswerFold$Program", "places", "[I", true)
  | 1 => ("AnswerFold$Program", "predicateCount", "I", false)
  | 2 => ("AnswerFold$Program", "rules", "[LAnswerFold$Rule;", true)
  | 3 => ("AnswerFold$Program", "ruleCount", "I", false)
  | 4 => ("AnswerFold$Program", "timePart", "[I", true)
  | 5 => ("AnswerFold$Program", "timeParameter", "[I", true)
  | 6 => ("AnswerFold$Program", "timeCount", "I", false)
  | 7 => ("AnswerFold$Program", "externalAtom", "[I", true)
  | 8 => ("AnswerFold$Program", "externalState", "[C", true)
  | _ => ("AnswerFold$Program", "externalCount", "I", false)
def tyX6 : Nat → FieldType := fun k => match k with
  | 0 => .array .int
  | 1 => .int
  | 2 => .array (.object "AnswerFold$Rule")
  | 3 => .int
  | 4 => .array .int
  | 5 => .array .int
  | 6 => .int
  | 7 => .array .int
  | 8 => .array .char
  | _ => .int
abbrev wsX60 : List Cond := u_ws RX6 TX6 10
theorem nmX6 : ∀ a, a < 10 → ∀ b, b < 10 → a ≠ b → (TX6 a).2.1 ≠ (TX6 b).2.1 := by decide +kernel
theorem tyX6_ok : ∀ k, k < 10 → parseFieldDescriptor (TX6 k).2.2.1 = some (tyX6 k) := by decide +kernel
abbrev cX6_init : ByteArray := prog_8_method_1_code
def yX6_init : MethodName := ⟨RX6, "<init>", "()V"⟩
abbrev cX6_hasPredicate : ByteArray := prog_8_method_2_code
def yX6_hasPredicate : MethodName := ⟨RX6, "hasPredicate", "(I)Z"⟩
abbrev cX6_placesOf : ByteArray := prog_8_method_3_code
def yX6_placesOf : MethodName := ⟨RX6, "placesOf", "(I)I"⟩
abbrev cX6_tellPredicate : ByteArray := prog_8_method_4_code
def yX6_tellPredicate : MethodName := ⟨RX6, "tellPredicate", "(I)I"⟩
abbrev cX6_ruleAt : ByteArray := prog_8_method_5_code
def yX6_ruleAt : MethodName := ⟨RX6, "ruleAt", "(I)LAnswerFold$Rule;"⟩
abbrev cX6_tellRule : ByteArray := prog_8_method_6_code
def yX6_tellRule : MethodName := ⟨RX6, "tellRule", "(LAnswerFold$Rule;)I"⟩
abbrev cX6_tellTime : ByteArray := prog_8_method_7_code
def yX6_tellTime : MethodName := ⟨RX6, "tellTime", "(II)V"⟩
abbrev cX6_groundedByCalls : ByteArray := prog_8_method_8_code
def yX6_groundedByCalls : MethodName := ⟨RX6, "groundedByCalls", "()I"⟩
abbrev cX6_isGrounded : ByteArray := prog_8_method_9_code
def yX6_isGrounded : MethodName := ⟨RX6, "isGrounded", "(II)Z"⟩
abbrev cX6_parameterAt : ByteArray := prog_8_method_10_code
def yX6_parameterAt : MethodName := ⟨RX6, "parameterAt", "(II)I"⟩
abbrev cX6_tellExternal : ByteArray := prog_8_method_11_code
def yX6_tellExternal : MethodName := ⟨RX6, "tellExternal", "(I)I"⟩
abbrev cX6_externalAtom : ByteArray := prog_8_method_12_code
def yX6_externalAtom : MethodName := ⟨RX6, "externalAtom", "(I)I"⟩
abbrev cX6_externalState : ByteArray := prog_8_method_13_code
def yX6_externalState : MethodName := ⟨RX6, "externalState", "(I)C"⟩
abbrev cX6_turnExternal : ByteArray := prog_8_method_14_code
def yX6_turnExternal : MethodName := ⟨RX6, "turnExternal", "(IC)V"⟩
abbrev cX6_externalOf : ByteArray := prog_8_method_15_code
def yX6_externalOf : MethodName := ⟨RX6, "externalOf", "(I)I"⟩
def RX7 : String := "AnswerFold$Rows"
def TX7 : u_T := fun k => match k with
  | 0 => ("AnswerFold$Rows", "rules", "[I", true)
  | 1 => ("AnswerFold$Rows", "needs", "[I", true)
  | 2 => ("AnswerFold$Rows", "bars", "[I", true)
  | 3 => ("AnswerFold$Rows", "heads", "[I", true)
  | 4 => ("AnswerFold$Rows", "lows", "[I", true)
  | 5 => ("AnswerFold$Rows", "highs", "[I", true)
  | _ => ("AnswerFold$Rows", "count", "I", false)
def tyX7 : Nat → FieldType := fun k => match k with
  | 0 => .array .int
  | 1 => .array .int
  | 2 => .array .int
  | 3 => .array .int
  | 4 => .array .int
  | 5 => .array .int
  | _ => .int
abbrev wsX70 : List Cond := u_ws RX7 TX7 7
theorem nmX7 : ∀ a, a < 7 → ∀ b, b < 7 → a ≠ b → (TX7 a).2.1 ≠ (TX7 b).2.1 := by decide +kernel
theorem tyX7_ok : ∀ k, k < 7 → parseFieldDescriptor (TX7 k).2.2.1 = some (tyX7 k) := by decide +kernel
abbrev cX7_init : ByteArray := prog_9_method_1_code
def yX7_init : MethodName := ⟨RX7, "<init>", "()V"⟩
abbrev cX7_add : ByteArray := prog_9_method_2_code
def yX7_add : MethodName := ⟨RX7, "add", "(III)V"⟩
abbrev cX7_boundLast : ByteArray := prog_9_method_3_code
def yX7_boundLast : MethodName := ⟨RX7, "boundLast", "(III)V"⟩
abbrev cX7_ruleAt : ByteArray := prog_9_method_4_code
def yX7_ruleAt : MethodName := ⟨RX7, "ruleAt", "(I)I"⟩
abbrev cX7_headsAt : ByteArray := prog_9_method_5_code
def yX7_headsAt : MethodName := ⟨RX7, "headsAt", "(I)I"⟩
abbrev cX7_bodyHolds : ByteArray := prog_9_method_6_code
def yX7_bodyHolds : MethodName := ⟨RX7, "bodyHolds", "(III)Z"⟩
abbrev cX7_isBroken : ByteArray := prog_9_method_7_code
def yX7_isBroken : MethodName := ⟨RX7, "isBroken", "(III)Z"⟩
def RX8 : String := "AnswerFold$Rule"
def TX8 : u_T := fun k => match k with
  | 0 => ("AnswerFold$Rule", "kind", "C", true)
  | 1 => ("AnswerFold$Rule", "part", "I", true)
  | 2 => ("AnswerFold$Rule", "lower", "I", false)
  | 3 => ("AnswerFold$Rule", "upper", "I", false)
  | 4 => ("AnswerFold$Rule", "span", "I", false)
  | 5 => ("AnswerFold$Rule", "weight", "I", false)
  | 6 => ("AnswerFold$Rule", "level", "I", false)
  | 7 => ("AnswerFold$Rule", "heads", "[LAnswerFold$Literal;", true)
  | 8 => ("AnswerFold$Rule", "headCount", "I", false)
  | 9 => ("AnswerFold$Rule", "conditions", "[LAnswerFold$Literal;", true)
  | _ => ("AnswerFold$Rule", "conditionCount", "I", false)
def tyX8 : Nat → FieldType := fun k => match k with
  | 0 => .char
  | 1 => .int
  | 2 => .int
  | 3 => .int
  | 4 => .int
  | 5 => .int
  | 6 => .int
  | 7 => .array (.object "AnswerFold$Literal")
  | 8 => .int
  | 9 => .array (.object "AnswerFold$Literal")
  | _ => .int
abbrev wsX80 : List Cond := u_ws RX8 TX8 11
theorem nmX8 : ∀ a, a < 11 → ∀ b, b < 11 → a ≠ b → (TX8 a).2.1 ≠ (TX8 b).2.1 := by decide +kernel
theorem tyX8_ok : ∀ k, k < 11 → parseFieldDescriptor (TX8 k).2.2.1 = some (tyX8 k) := by decide +kernel
abbrev cX8_init : ByteArray := prog_10_method_1_code
def yX8_init : MethodName := ⟨RX8, "<init>", "(CI)V"⟩
abbrev cX8_hasSpan : ByteArray := prog_10_method_2_code
def yX8_hasSpan : MethodName := ⟨RX8, "hasSpan", "()Z"⟩
abbrev cX8_tellHead : ByteArray := prog_10_method_3_code
def yX8_tellHead : MethodName := ⟨RX8, "tellHead", "(LAnswerFold$Literal;)I"⟩
abbrev cX8_tellCondition : ByteArray := prog_10_method_4_code
def yX8_tellCondition : MethodName := ⟨RX8, "tellCondition", "(LAnswerFold$Literal;)I"⟩
abbrev cX8_headAt : ByteArray := prog_10_method_5_code
def yX8_headAt : MethodName := ⟨RX8, "headAt", "(I)LAnswerFold$Literal;"⟩
abbrev cX8_conditionAt : ByteArray := prog_10_method_6_code
def yX8_conditionAt : MethodName := ⟨RX8, "conditionAt", "(I)LAnswerFold$Literal;"⟩
abbrev cX8_valuesFor : ByteArray := prog_10_method_7_code
def yX8_valuesFor : MethodName := ⟨RX8, "valuesFor", "(I)I"⟩
abbrev cX8_isDefinite : ByteArray := prog_10_method_8_code
def yX8_isDefinite : MethodName := ⟨RX8, "isDefinite", "()Z"⟩
abbrev cX8_hasCounts : ByteArray := prog_10_method_9_code
def yX8_hasCounts : MethodName := ⟨RX8, "hasCounts", "()Z"⟩
abbrev cX8_neededPredicates : ByteArray := prog_10_method_10_code
def yX8_neededPredicates : MethodName := ⟨RX8, "neededPredicates", "()I"⟩
def RX9 : String := "AnswerFold$Solver"
def TX9 : u_T := fun k => match k with
  | 0 => ("AnswerFold$Solver", "program", "LAnswerFold$Program;", true)
  | 1 => ("AnswerFold$Solver", "grounding", "LAnswerFold$Grounding;", true)
  | 2 => ("AnswerFold$Solver", "checks", "LAnswerFold$Rows;", true)
  | 3 => ("AnswerFold$Solver", "weaks", "LAnswerFold$Rows;", true)
  | 4 => ("AnswerFold$Solver", "active", "[I", true)
  | 5 => ("AnswerFold$Solver", "activeCount", "I", false)
  | 6 => ("AnswerFold$Solver", "openBits", "[I", true)
  | 7 => ("AnswerFold$Solver", "sureCounts", "[I", true)
  | 8 => ("AnswerFold$Solver", "branches", "[I", true)
  | 9 => ("AnswerFold$Solver", "choices", "I", false)
  | 10 => ("AnswerFold$Solver", "counting", "I", false)
  | 11 => ("AnswerFold$Solver", "freeBits", "I", false)
  | 12 => ("AnswerFold$Solver", "mustHave", "I", false)
  | 13 => ("AnswerFold$Solver", "mustLack", "I", false)
  | 14 => ("AnswerFold$Solver", "isHopeless", "Z", false)
  | 15 => ("AnswerFold$Solver", "lastBroken", "I", false)
  | _ => ("AnswerFold$Solver", "isCompiled", "Z", false)
def tyX9 : Nat → FieldType := fun k => match k with
  | 0 => .object "AnswerFold$Program"
  | 1 => .object "AnswerFold$Grounding"
  | 2 => .object "AnswerFold$Rows"
  | 3 => .object "AnswerFold$Rows"
  | 4 => .array .int
  | 5 => .int
  | 6 => .array .int
  | 7 => .array .int
  | 8 => .array .int
  | 9 => .int
  | 10 => .int
  | 11 => .int
  | 12 => .int
  | 13 => .int
  | 14 => .boolean
  | 15 => .int
  | _ => .boolean
abbrev wsX90 : List Cond := u_ws RX9 TX9 17
theorem nmX9 : ∀ a, a < 17 → ∀ b, b < 17 → a ≠ b → (TX9 a).2.1 ≠ (TX9 b).2.1 := by decide +kernel
theorem tyX9_ok : ∀ k, k < 17 → parseFieldDescriptor (TX9 k).2.2.1 = some (tyX9 k) := by decide +kernel
abbrev cX9_init : ByteArray := prog_11_method_1_code
def yX9_init : MethodName := ⟨RX9, "<init>", "(LAnswerFold$Program;LAnswerFold$Grounding;)V"⟩
abbrev cX9_prepare : ByteArray := prog_11_method_2_code
def yX9_prepare : MethodName := ⟨RX9, "prepare", "(LAnswerFold$AtomSet;LAnswerFold$AtomSet;)V"⟩
abbrev cX9_compile : ByteArray := prog_11_method_3_code
def yX9_compile : MethodName := ⟨RX9, "compile", "()V"⟩
abbrev cX9_noteRules : ByteArray := prog_11_method_4_code
def yX9_noteRules : MethodName := ⟨RX9, "noteRules", "()V"⟩
abbrev cX9_compileInstance : ByteArray := prog_11_method_5_code
def yX9_compileInstance : MethodName := ⟨RX9, "compileInstance", "(I)V"⟩
abbrev cX9_compileHeads : ByteArray := prog_11_method_6_code
def yX9_compileHeads : MethodName := ⟨RX9, "compileHeads", "(LAnswerFold$Rule;III)V"⟩
abbrev cX9_fitAssumptions : ByteArray := prog_11_method_7_code
def yX9_fitAssumptions : MethodName := ⟨RX9, "fitAssumptions", "(LAnswerFold$AtomSet;LAnswerFold$AtomSet;)V"⟩
abbrev cX9_bitOf : ByteArray := prog_11_method_8_code
def yX9_bitOf : MethodName := ⟨RX9, "bitOf", "(I)I"⟩
abbrev cX9_isIn : ByteArray := prog_11_method_9_code
def yX9_isIn : MethodName := ⟨RX9, "isIn", "(II)Z"⟩
abbrev cX9_sizeOf : ByteArray := prog_11_method_10_code
def yX9_sizeOf : MethodName := ⟨RX9, "sizeOf", "(I)I"⟩
abbrev cX9_openBitsOf : ByteArray := prog_11_method_11_code
def yX9_openBitsOf : MethodName := ⟨RX9, "openBitsOf", "(I)I"⟩
abbrev cX9_fullSet : ByteArray := prog_11_method_12_code
def yX9_fullSet : MethodName := ⟨RX9, "fullSet", "()I"⟩
abbrev cX9_findAnswers : ByteArray := prog_11_method_13_code
def yX9_findAnswers : MethodName := ⟨RX9, "findAnswers", "(LAnswerFold$Answers;)Z"⟩
abbrev cX9_countByAll : ByteArray := prog_11_method_14_code
def yX9_countByAll : MethodName := ⟨RX9, "countByAll", "()I"⟩
abbrev cX9_fits : ByteArray := prog_11_method_15_code
def yX9_fits : MethodName := ⟨RX9, "fits", "(I)Z"⟩
abbrev cX9_isModel : ByteArray := prog_11_method_16_code
def yX9_isModel : MethodName := ⟨RX9, "isModel", "(I)Z"⟩
abbrev cX9_countsHeld : ByteArray := prog_11_method_17_code
def yX9_countsHeld : MethodName := ⟨RX9, "countsHeld", "(I)I"⟩
abbrev cX9_countsHold : ByteArray := prog_11_method_18_code
def yX9_countsHold : MethodName := ⟨RX9, "countsHold", "(LAnswerFold$Rule;I)Z"⟩
abbrev cX9_countHolds : ByteArray := prog_11_method_19_code
def yX9_countHolds : MethodName := ⟨RX9, "countHolds", "(LAnswerFold$Literal;I)Z"⟩
abbrev cX9_hasSmaller : ByteArray := prog_11_method_20_code
def yX9_hasSmaller : MethodName := ⟨RX9, "hasSmaller", "(I)Z"⟩
abbrev cX9_listActive : ByteArray := prog_11_method_21_code
def yX9_listActive : MethodName := ⟨RX9, "listActive", "(I)V"⟩
abbrev cX9_isChoice : ByteArray := prog_11_method_22_code
def yX9_isChoice : MethodName := ⟨RX9, "isChoice", "(I)Z"⟩
abbrev cX9_grow : ByteArray := prog_11_method_23_code
def yX9_grow : MethodName := ⟨RX9, "grow", "(II)I"⟩
abbrev cX9_headsToSplit : ByteArray := prog_11_method_24_code
def yX9_headsToSplit : MethodName := ⟨RX9, "headsToSplit", "(II)I"⟩
abbrev cX9_hasSmallerByAll : ByteArray := prog_11_method_25_code
def yX9_hasSmallerByAll : MethodName := ⟨RX9, "hasSmallerByAll", "(I)Z"⟩
abbrev cX9_doesFor : ByteArray := prog_11_method_26_code
def yX9_doesFor : MethodName := ⟨RX9, "doesFor", "(II)Z"⟩
abbrev cX9_costOf : ByteArray := prog_11_method_27_code
def yX9_costOf : MethodName := ⟨RX9, "costOf", "(II)J"⟩
abbrev cX9_reasonFor : ByteArray := prog_11_method_28_code
def yX9_reasonFor : MethodName := ⟨RX9, "reasonFor", "(II)I"⟩
abbrev cX9_bodyHolds : ByteArray := prog_11_method_29_code
def yX9_bodyHolds : MethodName := ⟨RX9, "bodyHolds", "(LAnswerFold$Rule;I)Z"⟩
abbrev cX9_conditionHolds : ByteArray := prog_11_method_30_code
def yX9_conditionHolds : MethodName := ⟨RX9, "conditionHolds", "(LAnswerFold$Literal;I)Z"⟩
abbrev cX9_gives : ByteArray := prog_11_method_31_code
def yX9_gives : MethodName := ⟨RX9, "gives", "(LAnswerFold$Rule;II)Z"⟩
def RX10 : String := "AnswerFold"
def TX10 : u_T := fun k => match k with
  | 0 => ("AnswerFold", "program", "LAnswerFold$Program;", true)
  | 1 => ("AnswerFold", "grounding", "LAnswerFold$Grounding;", true)
  | 2 => ("AnswerFold", "solver", "LAnswerFold$Solver;", true)
  | 3 => ("AnswerFold", "loopFinder", "LAnswerFold$LoopFinder;", true)
  | 4 => ("AnswerFold", "assumedIn", "LAnswerFold$AtomSet;", true)
  | 5 => ("AnswerFold", "assumedOut", "LAnswerFold$AtomSet;", true)
  | _ => ("AnswerFold", "answers", "LAnswerFold$Answers;", true)
def tyX10 : Nat → FieldType := fun k => match k with
  | 0 => .object "AnswerFold$Program"
  | 1 => .object "AnswerFold$Grounding"
  | 2 => .object "AnswerFold$Solver"
  | 3 => .object "AnswerFold$LoopFinder"
  | 4 => .object "AnswerFold$AtomSet"
  | 5 => .object "AnswerFold$AtomSet"
  | _ => .object "AnswerFold$Answers"
abbrev wsX100 : List Cond := u_ws RX10 TX10 7
theorem nmX10 : ∀ a, a < 7 → ∀ b, b < 7 → a ≠ b → (TX10 a).2.1 ≠ (TX10 b).2.1 := by decide +kernel
theorem tyX10_ok : ∀ k, k < 7 → parseFieldDescriptor (TX10 k).2.2.1 = some (tyX10 k) := by decide +kernel
abbrev cX10_init : ByteArray := prog_1_method_1_code
def yX10_init : MethodName := ⟨RX10, "<init>", "()V"⟩
abbrev cX10_addPredicate : ByteArray := prog_1_method_2_code
def yX10_addPredicate : MethodName := ⟨RX10, "addPredicate", "(I)I"⟩
abbrev cX10_addDisjunction : ByteArray := prog_1_method_3_code
def yX10_addDisjunction : MethodName := ⟨RX10, "addDisjunction", "(I)I"⟩
abbrev cX10_addChoice : ByteArray := prog_1_method_4_code
def yX10_addChoice : MethodName := ⟨RX10, "addChoice", "(IIII)I"⟩
abbrev cX10_addWeak : ByteArray := prog_1_method_5_code
def yX10_addWeak : MethodName := ⟨RX10, "addWeak", "(III)I"⟩
abbrev cX10_addHead : ByteArray := prog_1_method_6_code
def yX10_addHead : MethodName := ⟨RX10, "addHead", "(IIII)I"⟩
abbrev cX10_addAtom : ByteArray := prog_1_method_7_code
def yX10_addAtom : MethodName := ⟨RX10, "addAtom", "(IZIII)I"⟩
abbrev cX10_addTest : ByteArray := prog_1_method_8_code
def yX10_addTest : MethodName := ⟨RX10, "addTest", "(ICII)I"⟩
abbrev cX10_addCount : ByteArray := prog_1_method_9_code
def yX10_addCount : MethodName := ⟨RX10, "addCount", "(ICII)I"⟩
abbrev cX10_ground : ByteArray := prog_1_method_10_code
def yX10_ground : MethodName := ⟨RX10, "ground", "(II)I"⟩
abbrev cX10_addExternal : ByteArray := prog_1_method_11_code
def yX10_addExternal : MethodName := ⟨RX10, "addExternal", "(III)I"⟩
abbrev cX10_setExternal : ByteArray := prog_1_method_12_code
def yX10_setExternal : MethodName := ⟨RX10, "setExternal", "(IC)C"⟩
abbrev cX10_assume : ByteArray := prog_1_method_13_code
def yX10_assume : MethodName := ⟨RX10, "assume", "(IIIZ)I"⟩
abbrev cX10_dropAssumptions : ByteArray := prog_1_method_14_code
def yX10_dropAssumptions : MethodName := ⟨RX10, "dropAssumptions", "()I"⟩
abbrev cX10_state : ByteArray := prog_1_method_15_code
def yX10_state : MethodName := ⟨RX10, "state", "(III)C"⟩
abbrev cX10_open : ByteArray := prog_1_method_16_code
def yX10_open : MethodName := ⟨RX10, "open", "()I"⟩
abbrev cX10_instances : ByteArray := prog_1_method_17_code
def yX10_instances : MethodName := ⟨RX10, "instances", "(I)I"⟩
abbrev cX10_loops : ByteArray := prog_1_method_18_code
def yX10_loops : MethodName := ⟨RX10, "loops", "()I"⟩
abbrev cX10_walk : ByteArray := prog_1_method_19_code
def yX10_walk : MethodName := ⟨RX10, "walk", "()I"⟩
abbrev cX10_walkByAll : ByteArray := prog_1_method_20_code
def yX10_walkByAll : MethodName := ⟨RX10, "walkByAll", "()I"⟩
abbrev cX10_has : ByteArray := prog_1_method_21_code
def yX10_has : MethodName := ⟨RX10, "has", "(IIII)Z"⟩
abbrev cX10_size : ByteArray := prog_1_method_22_code
def yX10_size : MethodName := ⟨RX10, "size", "(I)I"⟩
abbrev cX10_cost : ByteArray := prog_1_method_23_code
def yX10_cost : MethodName := ⟨RX10, "cost", "(II)J"⟩
abbrev cX10_best : ByteArray := prog_1_method_24_code
def yX10_best : MethodName := ⟨RX10, "best", "()I"⟩
abbrev cX10_projected : ByteArray := prog_1_method_25_code
def yX10_projected : MethodName := ⟨RX10, "projected", "(I)I"⟩
abbrev cX10_holds : ByteArray := prog_1_method_26_code
def yX10_holds : MethodName := ⟨RX10, "holds", "(III)C"⟩
abbrev cX10_reason : ByteArray := prog_1_method_27_code
def yX10_reason : MethodName := ⟨RX10, "reason", "(IIII)I"⟩
abbrev cX10_share : ByteArray := prog_1_method_28_code
def yX10_share : MethodName := ⟨RX10, "share", "(III)F"⟩
abbrev cX10_commonest : ByteArray := prog_1_method_29_code
def yX10_commonest : MethodName := ⟨RX10, "commonest", "()I"⟩
abbrev cX10_meanSize : ByteArray := prog_1_method_30_code
def yX10_meanSize : MethodName := ⟨RX10, "meanSize", "()D"⟩
abbrev cX10_forgetGrounding : ByteArray := prog_1_method_31_code
def yX10_forgetGrounding : MethodName := ⟨RX10, "forgetGrounding", "()V"⟩
abbrev cX10_checkPart : ByteArray := prog_1_method_32_code
def yX10_checkPart : MethodName := ⟨RX10, "checkPart", "(I)V"⟩
abbrev cX10_checkLevel : ByteArray := prog_1_method_33_code
def yX10_checkLevel : MethodName := ⟨RX10, "checkLevel", "(I)V"⟩
abbrev cX10_checkRoomForRule : ByteArray := prog_1_method_34_code
def yX10_checkRoomForRule : MethodName := ⟨RX10, "checkRoomForRule", "()V"⟩
abbrev cX10_checkRoomForCondition : ByteArray := prog_1_method_35_code
def yX10_checkRoomForCondition : MethodName := ⟨RX10, "checkRoomForCondition", "(LAnswerFold$Rule;)V"⟩
abbrev cX10_checkWalk : ByteArray := prog_1_method_36_code
def yX10_checkWalk : MethodName := ⟨RX10, "checkWalk", "()V"⟩
abbrev cX10_checkedAnswer : ByteArray := prog_1_method_37_code
def yX10_checkedAnswer : MethodName := ⟨RX10, "checkedAnswer", "(I)I"⟩
abbrev cX10_checkedAtom : ByteArray := prog_1_method_38_code
def yX10_checkedAtom : MethodName := ⟨RX10, "checkedAtom", "(III)I"⟩
abbrev cX10_answersWith : ByteArray := prog_1_method_39_code
def yX10_answersWith : MethodName := ⟨RX10, "answersWith", "(I)I"⟩
abbrev cX10_isValue : ByteArray := prog_1_method_40_code
def yX10_isValue : MethodName := ⟨RX10, "isValue", "(I)Z"⟩
abbrev cX10_isTerm : ByteArray := prog_1_method_41_code
def yX10_isTerm : MethodName := ⟨RX10, "isTerm", "(I)Z"⟩
abbrev cX10_isBodyTerm : ByteArray := prog_1_method_42_code
def yX10_isBodyTerm : MethodName := ⟨RX10, "isBodyTerm", "(LAnswerFold$Rule;I)Z"⟩
abbrev cX10_atomLiteral : ByteArray := prog_1_method_43_code
def yX10_atomLiteral : MethodName := ⟨RX10, "atomLiteral", "(CIIII)LAnswerFold$Literal;"⟩
def RX11 : String := "AnswerFoldModel$Answer"
def TX11 : u_T := fun k => match k with
  | _ => ("", "", "", false)
def tyX11 : Nat → FieldType := fun k => match k with
  | _ => .int
abbrev wsX110 : List Cond := u_ws RX11 TX11 0
theorem nmX11 : ∀ a, a < 0 → ∀ b, b < 0 → a ≠ b → (TX11 a).2.1 ≠ (TX11 b).2.1 := by decide +kernel
theorem tyX11_ok : ∀ k, k < 0 → parseFieldDescriptor (TX11 k).2.2.1 = some (tyX11 k) := by decide +kernel
def RX12 : String := "AnswerFoldModel$Condition"
def TX12 : u_T := fun k => match k with
  | _ => ("", "", "", false)
def tyX12 : Nat → FieldType := fun k => match k with
  | _ => .int
abbrev wsX120 : List Cond := u_ws RX12 TX12 0
theorem nmX12 : ∀ a, a < 0 → ∀ b, b < 0 → a ≠ b → (TX12 a).2.1 ≠ (TX12 b).2.1 := by decide +kernel
theorem tyX12_ok : ∀ k, k < 0 → parseFieldDescriptor (TX12 k).2.2.1 = some (tyX12 k) := by decide +kernel
def RX13 : String := "AnswerFoldModel$Deed"
def TX13 : u_T := fun k => match k with
  | _ => ("", "", "", false)
def tyX13 : Nat → FieldType := fun k => match k with
  | _ => .int
abbrev wsX130 : List Cond := u_ws RX13 TX13 0
theorem nmX13 : ∀ a, a < 0 → ∀ b, b < 0 → a ≠ b → (TX13 a).2.1 ≠ (TX13 b).2.1 := by decide +kernel
theorem tyX13_ok : ∀ k, k < 0 → parseFieldDescriptor (TX13 k).2.2.1 = some (tyX13 k) := by decide +kernel
def RX14 : String := "AnswerFoldModel$Instance"
def TX14 : u_T := fun k => match k with
  | _ => ("", "", "", false)
def tyX14 : Nat → FieldType := fun k => match k with
  | _ => .int
abbrev wsX140 : List Cond := u_ws RX14 TX14 0
theorem nmX14 : ∀ a, a < 0 → ∀ b, b < 0 → a ≠ b → (TX14 a).2.1 ≠ (TX14 b).2.1 := by decide +kernel
theorem tyX14_ok : ∀ k, k < 0 → parseFieldDescriptor (TX14 k).2.2.1 = some (tyX14 k) := by decide +kernel
def RX15 : String := "AnswerFoldModel$Rule"
def TX15 : u_T := fun k => match k with
  | _ => ("", "", "", false)
def tyX15 : Nat → FieldType := fun k => match k with
  | _ => .int
abbrev wsX150 : List Cond := u_ws RX15 TX15 0
theorem nmX15 : ∀ a, a < 0 → ∀ b, b < 0 → a ≠ b → (TX15 a).2.1 ≠ (TX15 b).2.1 := by decide +kernel
theorem tyX15_ok : ∀ k, k < 0 → parseFieldDescriptor (TX15 k).2.2.1 = some (tyX15 k) := by decide +kernel
def RX16 : String := "AnswerFoldModel"
def TX16 : u_T := fun k => match k with
  | _ => ("", "", "", false)
def tyX16 : Nat → FieldType := fun k => match k with
  | _ => .int
abbrev wsX160 : List Cond := u_ws RX16 TX16 0
theorem nmX16 : ∀ a, a < 0 → ∀ b, b < 0 → a ≠ b → (TX16 a).2.1 ≠ (TX16 b).2.1 := by decide +kernel
theorem tyX16_ok : ∀ k, k < 0 → parseFieldDescriptor (TX16 k).2.2.1 = some (tyX16 k) := by decide +kernel
def RJx145de : String := "java/io/Serializable"
def TJx145de : u_T := fun k => match k with
  | _ => ("", "", "", false)
def tyJx145de : Nat → FieldType := fun k => match k with
  | _ => .int
abbrev wsJx145de0 : List Cond := u_ws RJx145de TJx145de 0
theorem nmJx145de : ∀ a, a < 0 → ∀ b, b < 0 → a ≠ b → (TJx145de a).2.1 ≠ (TJx145de b).2.1 := by decide +kernel
theorem tyJx145de_ok : ∀ k, k < 0 → parseFieldDescriptor (TJx145de k).2.2.1 = some (tyJx145de k) := by decide +kernel
def RJx00060 : String := "java/lang/ArrayIndexOutOfBoundsException"
def TJx00060 : u_T := fun k => match k with
  | 0 => ("java/lang/Throwable", "backtrace", "Ljava/lang/Object;", false)
  | 1 => ("java/lang/Throwable", "detailMessage", "Ljava/lang/String;", false)
  | 2 => ("java/lang/Throwable", "cause", "Ljava/lang/Throwable;", false)
  | 3 => ("java/lang/Throwable", "stackTrace", "[Ljava/lang/StackTraceElement;", false)
  | 4 => ("java/lang/Throwable", "depth", "I", false)
  | _ => ("java/lang/Throwable", "suppressedExceptions", "Ljava/util/List;", false)
def tyJx00060 : Nat → FieldType := fun k => match k with
  | 0 => .object "java/lang/Object"
  | 1 => .object "java/lang/String"
  | 2 => .object "java/lang/Throwable"
  | 3 => .array (.object "java/lang/StackTraceElement")
  | 4 => .int
  | _ => .object "java/util/List"
abbrev wsJx000600 : List Cond := u_ws RJx00060 TJx00060 6
theorem nmJx00060 : ∀ a, a < 6 → ∀ b, b < 6 → a ≠ b → (TJx00060 a).2.1 ≠ (TJx00060 b).2.1 := by decide +kernel
theorem tyJx00060_ok : ∀ k, k < 6 → parseFieldDescriptor (TJx00060 k).2.2.1 = some (tyJx00060 k) := by decide +kernel
abbrev cJx00060_init_a7421 : ByteArray := prog_21_method_2_code
def yJx00060_init_a7421 : MethodName := ⟨RJx00060, "<init>", "(Ljava/lang/String;)V"⟩
def RJx9f9b0 : String := "java/lang/CharSequence"
def TJx9f9b0 : u_T := fun k => match k with
  | _ => ("", "", "", false)
def tyJx9f9b0 : Nat → FieldType := fun k => match k with
  | _ => .int
abbrev wsJx9f9b00 : List Cond := u_ws RJx9f9b0 TJx9f9b0 0
theorem nmJx9f9b0 : ∀ a, a < 0 → ∀ b, b < 0 → a ≠ b → (TJx9f9b0 a).2.1 ≠ (TJx9f9b0 b).2.1 := by decide +kernel
theorem tyJx9f9b0_ok : ∀ k, k < 0 → parseFieldDescriptor (TJx9f9b0 k).2.2.1 = some (tyJx9f9b0 k) := by decide +kernel
def RJxb160c : String := "java/lang/Comparable"
def TJxb160c : u_T := fun k => match k with
  | _ => ("", "", "", false)
def tyJxb160c : Nat → FieldType := fun k => match k with
  | _ => .int
abbrev wsJxb160c0 : List Cond := u_ws RJxb160c TJxb160c 0
theorem nmJxb160c : ∀ a, a < 0 → ∀ b, b < 0 → a ≠ b → (TJxb160c a).2.1 ≠ (TJxb160c b).2.1 := by decide +kernel
theorem tyJxb160c_ok : ∀ k, k < 0 → parseFieldDescriptor (TJxb160c k).2.2.1 = some (tyJxb160c k) := by decide +kernel
def RJ6 : String := "java/lang/Integer"
def TJ6 : u_T := fun k => match k with
  | _ => ("", "", "", false)
def tyJ6 : Nat → FieldType := fun k => match k with
  | _ => .int
abbrev wsJ60 : List Cond := u_ws RJ6 TJ6 0
theorem nmJ6 : ∀ a, a < 0 → ∀ b, b < 0 → a ≠ b → (TJ6 a).2.1 ≠ (TJ6 b).2.1 := by decide +kernel
theorem tyJ6_ok : ∀ k, k < 0 → parseFieldDescriptor (TJ6 k).2.2.1 = some (tyJ6 k) := by decide +kernel
abbrev cJ6_lowestOneBit_0f7a4 : ByteArray := prog_28_method_46_code
def yJ6_lowestOneBit_0f7a4 : MethodName := ⟨RJ6, "lowestOneBit", "(I)I"⟩
abbrev cJ6_bitCount_0f7a4 : ByteArray := prog_28_method_49_code
def yJ6_bitCount_0f7a4 : MethodName := ⟨RJ6, "bitCount", "(I)I"⟩
def RJ13 : String := "java/lang/Long"
def TJ13 : u_T := fun k => match k with
  | _ => ("", "", "", false)
def tyJ13 : Nat → FieldType := fun k => match k with
  | _ => .int
abbrev wsJ130 : List Cond := u_ws RJ13 TJ13 0
theorem nmJ13 : ∀ a, a < 0 → ∀ b, b < 0 → a ≠ b → (TJ13 a).2.1 ≠ (TJ13 b).2.1 := by decide +kernel
theorem tyJ13_ok : ∀ k, k < 0 → parseFieldDescriptor (TJ13 k).2.2.1 = some (tyJ13 k) := by decide +kernel
abbrev cJ13_bitCount_95d88 : ByteArray := prog_29_method_50_code
def yJ13_bitCount_95d88 : MethodName := ⟨RJ13, "bitCount", "(J)I"⟩
def RJ9 : String := "java/lang/Math"
def TJ9 : u_T := fun k => match k with
  | _ => ("", "", "", false)
def tyJ9 : Nat → FieldType := fun k => match k with
  | _ => .int
abbrev wsJ90 : List Cond := u_ws RJ9 TJ9 0
theorem nmJ9 : ∀ a, a < 0 → ∀ b, b < 0 → a ≠ b → (TJ9 a).2.1 ≠ (TJ9 b).2.1 := by decide +kernel
theorem tyJ9_ok : ∀ k, k < 0 → parseFieldDescriptor (TJ9 k).2.2.1 = some (tyJ9 k) := by decide +kernel
abbrev cJ9_max_7cf53 : ByteArray := prog_30_method_65_code
def yJ9_max_7cf53 : MethodName := ⟨RJ9, "max", "(II)I"⟩
abbrev cJ9_min_7cf53 : ByteArray := prog_30_method_69_code
def yJ9_min_7cf53 : MethodName := ⟨RJ9, "min", "(II)I"⟩
def RJ0 : String := "java/lang/String"
def TJ0 : u_T := fun k => match k with
  | 0 => ("java/lang/String", "value", "[B", true)
  | _ => ("java/lang/String", "coder", "B", true)
def tyJ0 : Nat → FieldType := fun k => match k with
  | 0 => .array .byte
  | _ => .byte
abbrev wsJ00 : List Cond := u_ws RJ0 TJ0 2
theorem nmJ0 : ∀ a, a < 2 → ∀ b, b < 2 → a ≠ b → (TJ0 a).2.1 ≠ (TJ0 b).2.1 := by decide +kernel
theorem tyJ0_ok : ∀ k, k < 2 → parseFieldDescriptor (TJ0 k).2.2.1 = some (tyJ0 k) := by decide +kernel
abbrev cJ0_charAt_5068e : ByteArray := prog_32_method_56_code
def yJ0_charAt_5068e : MethodName := ⟨RJ0, "charAt", "(I)C"⟩
abbrev cJ0_isLatin1_aae02 : ByteArray := prog_32_method_154_code
def yJ0_isLatin1_aae02 : MethodName := ⟨RJ0, "isLatin1", "()Z"⟩
abbrev cJ0_checkIndex_df160 : ByteArray := prog_32_method_155_code
def yJ0_checkIndex_df160 : MethodName := ⟨RJ0, "checkIndex", "(II)V"⟩
def RJ1 : String := "java/lang/StringLatin1"
def TJ1 : u_T := fun k => match k with
  | _ => ("", "", "", false)
def tyJ1 : Nat → FieldType := fun k => match k with
  | _ => .int
abbrev wsJ10 : List Cond := u_ws RJ1 TJ1 0
theorem nmJ1 : ∀ a, a < 0 → ∀ b, b < 0 → a ≠ b → (TJ1 a).2.1 ≠ (TJ1 b).2.1 := by decide +kernel
theorem tyJ1_ok : ∀ k, k < 0 → parseFieldDescriptor (TJ1 k).2.2.1 = some (tyJ1 k) := by decide +kernel
abbrev cJ1_charAt_3b067 : ByteArray := prog_33_method_2_code
def yJ1_charAt_3b067 : MethodName := ⟨RJ1, "charAt", "([BI)C"⟩
def RJ2 : String := "java/lang/StringUTF16"
def TJ2 : u_T := fun k => match k with
  | _ => ("", "", "", false)
def tyJ2 : Nat → FieldType := fun k => match k with
  | _ => .int
abbrev wsJ20 : List Cond := u_ws RJ2 TJ2 0
theorem nmJ2 : ∀ a, a < 0 → ∀ b, b < 0 → a ≠ b → (TJ2 a).2.1 ≠ (TJ2 b).2.1 := by decide +kernel
theorem tyJ2_ok : ∀ k, k < 0 → parseFieldDescriptor (TJ2 k).2.2.1 = some (tyJ2 k) := by decide +kernel
abbrev cJ2_getChar_3b067 : ByteArray := prog_34_method_5_code
def yJ2_getChar_3b067 : MethodName := ⟨RJ2, "getChar", "([BI)C"⟩
abbrev cJ2_length_9d52b : ByteArray := prog_34_method_6_code
def yJ2_length_9d52b : MethodName := ⟨RJ2, "length", "([B)I"⟩
abbrev cJ2_charAt_3b067 : ByteArray := prog_34_method_83_code
def yJ2_charAt_3b067 : MethodName := ⟨RJ2, "charAt", "([BI)C"⟩
abbrev cJ2_checkIndex_2214a : ByteArray := prog_34_method_91_code
def yJ2_checkIndex_2214a : MethodName := ⟨RJ2, "checkIndex", "(I[B)V"⟩
def RJxfd54e : String := "java/lang/constant/Constable"
def TJxfd54e : u_T := fun k => match k with
  | _ => ("", "", "", false)
def tyJxfd54e : Nat → FieldType := fun k => match k with
  | _ => .int
abbrev wsJxfd54e0 : List Cond := u_ws RJxfd54e TJxfd54e 0
theorem nmJxfd54e : ∀ a, a < 0 → ∀ b, b < 0 → a ≠ b → (TJxfd54e a).2.1 ≠ (TJxfd54e b).2.1 := by decide +kernel
theorem tyJxfd54e_ok : ∀ k, k < 0 → parseFieldDescriptor (TJxfd54e k).2.2.1 = some (tyJxfd54e k) := by decide +kernel
def RJx3cf43 : String := "java/lang/constant/ConstantDesc"
def TJx3cf43 : u_T := fun k => match k with
  | _ => ("", "", "", false)
def tyJx3cf43 : Nat → FieldType := fun k => match k with
  | _ => .int
abbrev wsJx3cf430 : List Cond := u_ws RJx3cf43 TJx3cf43 0
theorem nmJx3cf43 : ∀ a, a < 0 → ∀ b, b < 0 → a ≠ b → (TJx3cf43 a).2.1 ≠ (TJx3cf43 b).2.1 := by decide +kernel
theorem tyJx3cf43_ok : ∀ k, k < 0 → parseFieldDescriptor (TJx3cf43 k).2.2.1 = some (tyJx3cf43 k) := by decide +kernel
def RJ3 : String := "jdk/internal/util/Preconditions"
def TJ3 : u_T := fun k => match k with
  | _ => ("", "", "", false)
def tyJ3 : Nat → FieldType := fun k => match k with
  | _ => .int
abbrev wsJ30 : List Cond := u_ws RJ3 TJ3 0
theorem nmJ3 : ∀ a, a < 0 → ∀ b, b < 0 → a ≠ b → (TJ3 a).2.1 ≠ (TJ3 b).2.1 := by decide +kernel
theorem tyJ3_ok : ∀ k, k < 0 → parseFieldDescriptor (TJ3 k).2.2.1 = some (tyJ3 k) := by decide +kernel
abbrev cJ3_checkIndex_8e157 : ByteArray := prog_40_method_11_code
def yJ3_checkIndex_8e157 : MethodName := ⟨RJ3, "checkIndex", "(IILjava/util/function/BiFunction;)I"⟩
def RL : String := "AnswerFoldLaw"
abbrev cL_cell : ByteArray := method_2_code
def yL_cell : MethodName := ⟨RL, "cell", "([II)I"⟩
abbrev cL_pick : ByteArray := method_3_code
def yL_pick : MethodName := ⟨RL, "pick", "([III)I"⟩
abbrev cL_told : ByteArray := method_4_code
def yL_told : MethodName := ⟨RL, "told", "(Z)I"⟩
abbrev cL_plain : ByteArray := method_5_code
def yL_plain : MethodName := ⟨RL, "plain", "(LAnswerFold;IIIIII)I"⟩
abbrev cL_deed : ByteArray := method_6_code
def yL_deed : MethodName := ⟨RL, "deed", "(LAnswerFold;IIIIII)I"⟩
abbrev cL_asked : ByteArray := method_7_code
def yL_asked : MethodName := ⟨RL, "asked", "(LAnswerFold;IIIII)I"⟩
abbrev cL_ask : ByteArray := method_8_code
def yL_ask : MethodName := ⟨RL, "ask", "(LAnswerFold;IIIII)I"⟩
abbrev cL_atom : ByteArray := method_9_code
def yL_atom : MethodName := ⟨RL, "atom", "(LAnswerFold;IIIII)I"⟩
abbrev cL_isHeld : ByteArray := method_10_code
def yL_isHeld : MethodName := ⟨RL, "isHeld", "([II)Z"⟩
abbrev cL_isClosed : ByteArray := method_11_code
def yL_isClosed : MethodName := ⟨RL, "isClosed", "([[III)Z"⟩
abbrev cL_isEnough : ByteArray := method_12_code
def yL_isEnough : MethodName := ⟨RL, "isEnough", "([[IIII)Z"⟩
abbrev cL_isAnswer : ByteArray := method_13_code
def yL_isAnswer : MethodName := ⟨RL, "isAnswer", "([[IIIII)Z"⟩
abbrev cL_costOf : ByteArray := method_14_code
def yL_costOf : MethodName := ⟨RL, "costOf", "([[IIII)I"⟩
abbrev cL_isAhead : ByteArray := method_15_code
def yL_isAhead : MethodName := ⟨RL, "isAhead", "([[IIII)Z"⟩
abbrev cL_addRule : ByteArray := method_16_code
def yL_addRule : MethodName := ⟨RL, "addRule", "(LAnswerFold;[IIII)[I"⟩
abbrev cL_setOf : ByteArray := method_17_code
def yL_setOf : MethodName := ⟨RL, "setOf", "(LAnswerFold;II)I"⟩
abbrev cL_isReason : ByteArray := method_18_code
def yL_isReason : MethodName := ⟨RL, "isReason", "([[II[IIII)Z"⟩
abbrev cL_isWalked : ByteArray := method_19_code
def yL_isWalked : MethodName := ⟨RL, "isWalked", "(LAnswerFold;[[III[IIIII)Z"⟩
abbrev cL_law : ByteArray := code
def yL_law : MethodName := ⟨RL, "law", "([I)Z"⟩
abbrev vwCl : List vw_C := [(RJ0, TJ0, 2), (RJx00060, TJx00060, 6), (RX0, TX0, 4), (RX1, TX1, 1), (RX2, TX2, 4), (RX3, TX3, 16), (RX4, TX4, 8), (RX5, TX5, 2), (RX6, TX6, 10), (RX7, TX7, 7), (RX8, TX8, 11), (RX9, TX9, 17), (RX10, TX10, 7)]

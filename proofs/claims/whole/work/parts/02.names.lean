def RX0 : String := "LoopTypes$Bench"
def TX0 : u_T := fun k => match k with
  | 0 => ("LoopTypes$Bench", "heads", "[I", true)
  | 1 => ("LoopTypes$Bench", "firsts", "[I", true)
  | 2 => ("LoopTypes$Bench", "seconds", "[I", true)
  | 3 => ("LoopTypes$Bench", "count", "I", false)
  | 4 => ("LoopTypes$Bench", "reached", "[I", true)
  | 5 => ("LoopTypes$Bench", "seen", "[I", true)
  | 6 => ("LoopTypes$Bench", "groups", "[I", true)
  | 7 => ("LoopTypes$Bench", "nextGroups", "[I", true)
  | 8 => ("LoopTypes$Bench", "groupOf", "[I", true)
  | _ => ("LoopTypes$Bench", "signatures", "[I", true)
def tyX0 : Nat → FieldType := fun k => match k with
  | 0 => .array .int
  | 1 => .array .int
  | 2 => .array .int
  | 3 => .int
  | 4 => .array .int
  | 5 => .array .int
  | 6 => .array .int
  | 7 => .array .int
  | 8 => .array .int
  | _ => .array .int
abbrev wsX00 : List Cond := u_ws RX0 TX0 10
theorem nmX0 : ∀ a, a < 10 → ∀ b, b < 10 → a ≠ b → (TX0 a).2.1 ≠ (TX0 b).2.1 := by decide +kernel
theorem tyX0_ok : ∀ k, k < 10 → parseFieldDescriptor (TX0 k).2.2.1 = some (tyX0 k) := by decide +kernel
abbrev cX0_init : ByteArray := prog_2_method_1_code
def yX0_init : MethodName := ⟨RX0, "<init>", "()V"⟩
abbrev cX0_start : ByteArray := prog_2_method_2_code
def yX0_start : MethodName := ⟨RX0, "start", "()V"⟩
abbrev cX0_holds : ByteArray := prog_2_method_3_code
def yX0_holds : MethodName := ⟨RX0, "holds", "(I)Z"⟩
abbrev cX0_put : ByteArray := prog_2_method_4_code
def yX0_put : MethodName := ⟨RX0, "put", "(III)I"⟩
abbrev cX0_putAll : ByteArray := prog_2_method_5_code
def yX0_putAll : MethodName := ⟨RX0, "putAll", "(LLoopTypes$Graph;)I"⟩
abbrev cX0_link : ByteArray := prog_2_method_6_code
def yX0_link : MethodName := ⟨RX0, "link", "(III)V"⟩
abbrev cX0_linked : ByteArray := prog_2_method_7_code
def yX0_linked : MethodName := ⟨RX0, "linked", "(II)I"⟩
abbrev cX0_replaced : ByteArray := prog_2_method_8_code
def yX0_replaced : MethodName := ⟨RX0, "replaced", "(LLoopTypes$Graph;ILLoopTypes$Graph;)LLoopTypes$Graph;"⟩
abbrev cX0_cutOff : ByteArray := prog_2_method_9_code
def yX0_cutOff : MethodName := ⟨RX0, "cutOff", "(LLoopTypes$Graph;I)LLoopTypes$Graph;"⟩
abbrev cX0_turned : ByteArray := prog_2_method_10_code
def yX0_turned : MethodName := ⟨RX0, "turned", "(LLoopTypes$Graph;I)LLoopTypes$Graph;"⟩
abbrev cX0_drawn : ByteArray := prog_2_method_11_code
def yX0_drawn : MethodName := ⟨RX0, "drawn", "(II)LLoopTypes$Graph;"⟩
abbrev cX0_smallest : ByteArray := prog_2_method_12_code
def yX0_smallest : MethodName := ⟨RX0, "smallest", "(I)LLoopTypes$Graph;"⟩
abbrev cX0_reachFrom : ByteArray := prog_2_method_13_code
def yX0_reachFrom : MethodName := ⟨RX0, "reachFrom", "(I)I"⟩
abbrev cX0_splitGroups : ByteArray := prog_2_method_14_code
def yX0_splitGroups : MethodName := ⟨RX0, "splitGroups", "(I)I"⟩
abbrev cX0_signatureOf : ByteArray := prog_2_method_15_code
def yX0_signatureOf : MethodName := ⟨RX0, "signatureOf", "(I)I"⟩
abbrev cX0_groupOfPart : ByteArray := prog_2_method_16_code
def yX0_groupOfPart : MethodName := ⟨RX0, "groupOfPart", "(II)I"⟩
abbrev cX0_writeDown : ByteArray := prog_2_method_17_code
def yX0_writeDown : MethodName := ⟨RX0, "writeDown", "(II)LLoopTypes$Graph;"⟩
def RX1 : String := "LoopTypes$Claims"
def TX1 : u_T := fun k => match k with
  | 0 => ("LoopTypes$Claims", "left", "LLoopTypes$Graph;", false)
  | 1 => ("LoopTypes$Claims", "right", "LLoopTypes$Graph;", false)
  | 2 => ("LoopTypes$Claims", "pairs", "[I", true)
  | 3 => ("LoopTypes$Claims", "pairCount", "I", false)
  | 4 => ("LoopTypes$Claims", "origins", "[I", true)
  | _ => ("LoopTypes$Claims", "marks", "[I", true)
def tyX1 : Nat → FieldType := fun k => match k with
  | 0 => .object "LoopTypes$Graph"
  | 1 => .object "LoopTypes$Graph"
  | 2 => .array .int
  | 3 => .int
  | 4 => .array .int
  | _ => .array .int
abbrev wsX10 : List Cond := u_ws RX1 TX1 6
theorem nmX1 : ∀ a, a < 6 → ∀ b, b < 6 → a ≠ b → (TX1 a).2.1 ≠ (TX1 b).2.1 := by decide +kernel
theorem tyX1_ok : ∀ k, k < 6 → parseFieldDescriptor (TX1 k).2.2.1 = some (tyX1 k) := by decide +kernel
abbrev cX1_init : ByteArray := prog_3_method_1_code
def yX1_init : MethodName := ⟨RX1, "<init>", "()V"⟩
abbrev cX1_start : ByteArray := prog_3_method_2_code
def yX1_start : MethodName := ⟨RX1, "start", "(LLoopTypes$Graph;LLoopTypes$Graph;)V"⟩
abbrev cX1_numberOf : ByteArray := prog_3_method_3_code
def yX1_numberOf : MethodName := ⟨RX1, "numberOf", "(IIZ)I"⟩
abbrev cX1_isAbout : ByteArray := prog_3_method_4_code
def yX1_isAbout : MethodName := ⟨RX1, "isAbout", "(I)Z"⟩
abbrev cX1_leftOf : ByteArray := prog_3_method_5_code
def yX1_leftOf : MethodName := ⟨RX1, "leftOf", "(I)I"⟩
abbrev cX1_rightOf : ByteArray := prog_3_method_6_code
def yX1_rightOf : MethodName := ⟨RX1, "rightOf", "(I)I"⟩
abbrev cX1_meet : ByteArray := prog_3_method_7_code
def yX1_meet : MethodName := ⟨RX1, "meet", "(III)V"⟩
abbrev cX1_firstFailing : ByteArray := prog_3_method_8_code
def yX1_firstFailing : MethodName := ⟨RX1, "firstFailing", "(LLoopTypes$Graph;LLoopTypes$Graph;I)I"⟩
abbrev cX1_meetParts : ByteArray := prog_3_method_9_code
def yX1_meetParts : MethodName := ⟨RX1, "meetParts", "(IZ)V"⟩
abbrev cX1_headsGo : ByteArray := prog_3_method_10_code
def yX1_headsGo : MethodName := ⟨RX1, "headsGo", "(III)Z"⟩
abbrev cX1_stepCount : ByteArray := prog_3_method_11_code
def yX1_stepCount : MethodName := ⟨RX1, "stepCount", "(I)I"⟩
abbrev cX1_lastStep : ByteArray := prog_3_method_12_code
def yX1_lastStep : MethodName := ⟨RX1, "lastStep", "(II)I"⟩
abbrev cX1_sameDownTo : ByteArray := prog_3_method_13_code
def yX1_sameDownTo : MethodName := ⟨RX1, "sameDownTo", "(LLoopTypes$Graph;LLoopTypes$Graph;I)Z"⟩
abbrev cX1_boundOf : ByteArray := prog_3_method_14_code
def yX1_boundOf : MethodName := ⟨RX1, "boundOf", "(LLoopTypes$Graph;LLoopTypes$Graph;ZLLoopTypes$Bench;)LLoopTypes$Graph;"⟩
abbrev cX1_boundNode : ByteArray := prog_3_method_15_code
def yX1_boundNode : MethodName := ⟨RX1, "boundNode", "(IIZLLoopTypes$Bench;)I"⟩
abbrev cX1_boundHead : ByteArray := prog_3_method_16_code
def yX1_boundHead : MethodName := ⟨RX1, "boundHead", "(IIZ)I"⟩
def RX2 : String := "LoopTypes$Graph"
def TX2 : u_T := fun k => match k with
  | 0 => ("LoopTypes$Graph", "size", "I", true)
  | _ => ("LoopTypes$Graph", "cells", "[I", true)
def tyX2 : Nat → FieldType := fun k => match k with
  | 0 => .int
  | _ => .array .int
abbrev wsX20 : List Cond := u_ws RX2 TX2 2
theorem nmX2 : ∀ a, a < 2 → ∀ b, b < 2 → a ≠ b → (TX2 a).2.1 ≠ (TX2 b).2.1 := by decide +kernel
theorem tyX2_ok : ∀ k, k < 2 → parseFieldDescriptor (TX2 k).2.2.1 = some (tyX2 k) := by decide +kernel
abbrev cX2_init : ByteArray := prog_4_method_1_code
def yX2_init : MethodName := ⟨RX2, "<init>", "([I)V"⟩
abbrev cX2_holds : ByteArray := prog_4_method_2_code
def yX2_holds : MethodName := ⟨RX2, "holds", "(I)Z"⟩
abbrev cX2_headAt : ByteArray := prog_4_method_3_code
def yX2_headAt : MethodName := ⟨RX2, "headAt", "(I)I"⟩
abbrev cX2_partCount : ByteArray := prog_4_method_4_code
def yX2_partCount : MethodName := ⟨RX2, "partCount", "(I)I"⟩
abbrev cX2_partAt : ByteArray := prog_4_method_5_code
def yX2_partAt : MethodName := ⟨RX2, "partAt", "(II)I"⟩
abbrev cX2_sameAs : ByteArray := prog_4_method_6_code
def yX2_sameAs : MethodName := ⟨RX2, "sameAs", "(LLoopTypes$Graph;)Z"⟩
abbrev cX2_countOf : ByteArray := prog_4_method_7_code
def yX2_countOf : MethodName := ⟨RX2, "countOf", "(I)I"⟩
abbrev cX2_codeOf : ByteArray := prog_4_method_8_code
def yX2_codeOf : MethodName := ⟨RX2, "codeOf", "()J"⟩
def RX3 : String := "LoopTypes$Measures"
def TX3 : u_T := fun k => match k with
  | 0 => ("LoopTypes$Measures", "values", "[I", true)
  | 1 => ("LoopTypes$Measures", "matches", "[I", true)
  | 2 => ("LoopTypes$Measures", "queue", "[I", true)
  | _ => ("LoopTypes$Measures", "below", "[J", true)
def tyX3 : Nat → FieldType := fun k => match k with
  | 0 => .array .int
  | 1 => .array .int
  | 2 => .array .int
  | _ => .array .long
abbrev wsX30 : List Cond := u_ws RX3 TX3 4
theorem nmX3 : ∀ a, a < 4 → ∀ b, b < 4 → a ≠ b → (TX3 a).2.1 ≠ (TX3 b).2.1 := by decide +kernel
theorem tyX3_ok : ∀ k, k < 4 → parseFieldDescriptor (TX3 k).2.2.1 = some (tyX3 k) := by decide +kernel
abbrev cX3_init : ByteArray := prog_5_method_1_code
def yX3_init : MethodName := ⟨RX3, "<init>", "()V"⟩
abbrev cX3_placeOf : ByteArray := prog_5_method_2_code
def yX3_placeOf : MethodName := ⟨RX3, "placeOf", "(LLoopTypes$Graph;LLoopTypes$Graph;)I"⟩
abbrev cX3_commonCount : ByteArray := prog_5_method_3_code
def yX3_commonCount : MethodName := ⟨RX3, "commonCount", "(LLoopTypes$Graph;LLoopTypes$Graph;)I"⟩
abbrev cX3_isAmong : ByteArray := prog_5_method_4_code
def yX3_isAmong : MethodName := ⟨RX3, "isAmong", "(LLoopTypes$Graph;ILLoopTypes$Graph;)Z"⟩
abbrev cX3_alikeAt : ByteArray := prog_5_method_5_code
def yX3_alikeAt : MethodName := ⟨RX3, "alikeAt", "(LLoopTypes$Graph;ILLoopTypes$Graph;I)Z"⟩
abbrev cX3_stepsTo : ByteArray := prog_5_method_6_code
def yX3_stepsTo : MethodName := ⟨RX3, "stepsTo", "(LLoopTypes$Graph;I)I"⟩
abbrev cX3_signsAt : ByteArray := prog_5_method_7_code
def yX3_signsAt : MethodName := ⟨RX3, "signsAt", "(LLoopTypes$Graph;I)I"⟩
abbrev cX3_passSigns : ByteArray := prog_5_method_8_code
def yX3_passSigns : MethodName := ⟨RX3, "passSigns", "(LLoopTypes$Graph;I)Z"⟩
abbrev cX3_loopCount : ByteArray := prog_5_method_9_code
def yX3_loopCount : MethodName := ⟨RX3, "loopCount", "(LLoopTypes$Graph;)I"⟩
abbrev cX3_longestWay : ByteArray := prog_5_method_10_code
def yX3_longestWay : MethodName := ⟨RX3, "longestWay", "(LLoopTypes$Graph;)I"⟩
abbrev cX3_treeHeads : ByteArray := prog_5_method_11_code
def yX3_treeHeads : MethodName := ⟨RX3, "treeHeads", "(LLoopTypes$Graph;)I"⟩
abbrev cX3_leastValue : ByteArray := prog_5_method_12_code
def yX3_leastValue : MethodName := ⟨RX3, "leastValue", "(LLoopTypes$Graph;)I"⟩
abbrev cX3_leastHere : ByteArray := prog_5_method_13_code
def yX3_leastHere : MethodName := ⟨RX3, "leastHere", "(LLoopTypes$Graph;I)I"⟩
def RX4 : String := "LoopTypes$Reader"
def TX4 : u_T := fun k => match k with
  | 0 => ("LoopTypes$Reader", "state", "I", false)
  | 1 => ("LoopTypes$Reader", "letter", "I", false)
  | 2 => ("LoopTypes$Reader", "heads", "[I", true)
  | 3 => ("LoopTypes$Reader", "firsts", "[I", true)
  | 4 => ("LoopTypes$Reader", "seconds", "[I", true)
  | 5 => ("LoopTypes$Reader", "nodeCount", "I", false)
  | 6 => ("LoopTypes$Reader", "operands", "[I", true)
  | 7 => ("LoopTypes$Reader", "operandCount", "I", false)
  | 8 => ("LoopTypes$Reader", "operators", "[I", true)
  | 9 => ("LoopTypes$Reader", "operatorCount", "I", false)
  | 10 => ("LoopTypes$Reader", "letters", "[I", true)
  | 11 => ("LoopTypes$Reader", "letterCount", "I", false)
  | 12 => ("LoopTypes$Reader", "terms", "[I", true)
  | 13 => ("LoopTypes$Reader", "places", "[I", true)
  | 14 => ("LoopTypes$Reader", "benchNodes", "[I", true)
  | _ => ("LoopTypes$Reader", "benchLetters", "[I", true)
def tyX4 : Nat → FieldType := fun k => match k with
  | 0 => .int
  | 1 => .int
  | 2 => .array .int
  | 3 => .array .int
  | 4 => .array .int
  | 5 => .int
  | 6 => .array .int
  | 7 => .int
  | 8 => .array .int
  | 9 => .int
  | 10 => .array .int
  | 11 => .int
  | 12 => .array .int
  | 13 => .array .int
  | 14 => .array .int
  | _ => .array .int
abbrev wsX40 : List Cond := u_ws RX4 TX4 16
theorem nmX4 : ∀ a, a < 16 → ∀ b, b < 16 → a ≠ b → (TX4 a).2.1 ≠ (TX4 b).2.1 := by decide +kernel
theorem tyX4_ok : ∀ k, k < 16 → parseFieldDescriptor (TX4 k).2.2.1 = some (tyX4 k) := by decide +kernel
abbrev cX4_init : ByteArray := prog_6_method_1_code
def yX4_init : MethodName := ⟨RX4, "<init>", "()V"⟩
abbrev cX4_equationCount : ByteArray := prog_6_method_2_code
def yX4_equationCount : MethodName := ⟨RX4, "equationCount", "()I"⟩
abbrev cX4_letterOf : ByteArray := prog_6_method_3_code
def yX4_letterOf : MethodName := ⟨RX4, "letterOf", "(I)I"⟩
abbrev cX4_faultOf : ByteArray := prog_6_method_4_code
def yX4_faultOf : MethodName := ⟨RX4, "faultOf", "([II[LLoopTypes$Graph;)I"⟩
abbrev cX4_isLetter : ByteArray := prog_6_method_5_code
def yX4_isLetter : MethodName := ⟨RX4, "isLetter", "(I)Z"⟩
abbrev cX4_takes : ByteArray := prog_6_method_6_code
def yX4_takes : MethodName := ⟨RX4, "takes", "(II)Z"⟩
abbrev cX4_takesLetter : ByteArray := prog_6_method_7_code
def yX4_takesLetter : MethodName := ⟨RX4, "takesLetter", "(II)Z"⟩
abbrev cX4_takesAtom : ByteArray := prog_6_method_8_code
def yX4_takesAtom : MethodName := ⟨RX4, "takesAtom", "(II)Z"⟩
abbrev cX4_takesBehind : ByteArray := prog_6_method_9_code
def yX4_takesBehind : MethodName := ⟨RX4, "takesBehind", "(I)Z"⟩
abbrev cX4_endEquation : ByteArray := prog_6_method_10_code
def yX4_endEquation : MethodName := ⟨RX4, "endEquation", "()Z"⟩
abbrev cX4_joinPairs : ByteArray := prog_6_method_11_code
def yX4_joinPairs : MethodName := ⟨RX4, "joinPairs", "()V"⟩
abbrev cX4_joinAll : ByteArray := prog_6_method_12_code
def yX4_joinAll : MethodName := ⟨RX4, "joinAll", "()V"⟩
abbrev cX4_joinTwo : ByteArray := prog_6_method_13_code
def yX4_joinTwo : MethodName := ⟨RX4, "joinTwo", "(I)V"⟩
abbrev cX4_topOperator : ByteArray := prog_6_method_14_code
def yX4_topOperator : MethodName := ⟨RX4, "topOperator", "()I"⟩
abbrev cX4_pushOperator : ByteArray := prog_6_method_15_code
def yX4_pushOperator : MethodName := ⟨RX4, "pushOperator", "(I)Z"⟩
abbrev cX4_popOperator : ByteArray := prog_6_method_16_code
def yX4_popOperator : MethodName := ⟨RX4, "popOperator", "(I)Z"⟩
abbrev cX4_pushOperand : ByteArray := prog_6_method_17_code
def yX4_pushOperand : MethodName := ⟨RX4, "pushOperand", "(I)Z"⟩
abbrev cX4_popOperand : ByteArray := prog_6_method_18_code
def yX4_popOperand : MethodName := ⟨RX4, "popOperand", "()I"⟩
abbrev cX4_newNode : ByteArray := prog_6_method_19_code
def yX4_newNode : MethodName := ⟨RX4, "newNode", "(III)I"⟩
abbrev cX4_strangeLetter : ByteArray := prog_6_method_20_code
def yX4_strangeLetter : MethodName := ⟨RX4, "strangeLetter", "([LLoopTypes$Graph;)I"⟩
abbrev cX4_emptyLetter : ByteArray := prog_6_method_21_code
def yX4_emptyLetter : MethodName := ⟨RX4, "emptyLetter", "()I"⟩
abbrev cX4_letterBehind : ByteArray := prog_6_method_22_code
def yX4_letterBehind : MethodName := ⟨RX4, "letterBehind", "(I)I"⟩
abbrev cX4_layOut : ByteArray := prog_6_method_23_code
def yX4_layOut : MethodName := ⟨RX4, "layOut", "(LLoopTypes$Bench;[LLoopTypes$Graph;)V"⟩
abbrev cX4_rootOf : ByteArray := prog_6_method_24_code
def yX4_rootOf : MethodName := ⟨RX4, "rootOf", "(I)I"⟩
abbrev cX4_standsFor : ByteArray := prog_6_method_25_code
def yX4_standsFor : MethodName := ⟨RX4, "standsFor", "(I)I"⟩
def RX5 : String := "LoopTypes"
def TX5 : u_T := fun k => match k with
  | 0 => ("LoopTypes", "text", "[I", true)
  | 1 => ("LoopTypes", "textSize", "I", false)
  | 2 => ("LoopTypes", "orderKind", "I", false)
  | 3 => ("LoopTypes", "names", "[LLoopTypes$Graph;", true)
  | 4 => ("LoopTypes", "pending", "[LLoopTypes$Graph;", true)
  | 5 => ("LoopTypes", "versions", "[LLoopTypes$Graph;", true)
  | 6 => ("LoopTypes", "versionSlot", "I", false)
  | 7 => ("LoopTypes", "versionCount", "I", false)
  | 8 => ("LoopTypes", "badCount", "I", false)
  | 9 => ("LoopTypes", "noCount", "I", false)
  | 10 => ("LoopTypes", "fullCount", "I", false)
  | 11 => ("LoopTypes", "bench", "LLoopTypes$Bench;", true)
  | 12 => ("LoopTypes", "claims", "LLoopTypes$Claims;", true)
  | 13 => ("LoopTypes", "measures", "LLoopTypes$Measures;", true)
  | _ => ("LoopTypes", "reader", "LLoopTypes$Reader;", true)
def tyX5 : Nat → FieldType := fun k => match k with
  | 0 => .array .int
  | 1 => .int
  | 2 => .int
  | 3 => .array (.object "LoopTypes$Graph")
  | 4 => .array (.object "LoopTypes$Graph")
  | 5 => .array (.object "LoopTypes$Graph")
  | 6 => .int
  | 7 => .int
  | 8 => .int
  | 9 => .int
  | 10 => .int
  | 11 => .object "LoopTypes$Bench"
  | 12 => .object "LoopTypes$Claims"
  | 13 => .object "LoopTypes$Measures"
  | _ => .object "LoopTypes$Reader"
abbrev wsX50 : List Cond := u_ws RX5 TX5 15
theorem nmX5 : ∀ a, a < 15 → ∀ b, b < 15 → a ≠ b → (TX5 a).2.1 ≠ (TX5 b).2.1 := by decide +kernel
theorem tyX5_ok : ∀ k, k < 15 → parseFieldDescriptor (TX5 k).2.2.1 = some (tyX5 k) := by decide +kernel
abbrev cX5_init : ByteArray := prog_1_method_1_code
def yX5_init : MethodName := ⟨RX5, "<init>", "()V"⟩
abbrev cX5_type : ByteArray := prog_1_method_2_code
def yX5_type : MethodName := ⟨RX5, "type", "(I)I"⟩
abbrev cX5_clear : ByteArray := prog_1_method_3_code
def yX5_clear : MethodName := ⟨RX5, "clear", "()I"⟩
abbrev cX5_read : ByteArray := prog_1_method_4_code
def yX5_read : MethodName := ⟨RX5, "read", "()I"⟩
abbrev cX5_order : ByteArray := prog_1_method_5_code
def yX5_order : MethodName := ⟨RX5, "order", "(I)I"⟩
abbrev cX5_under : ByteArray := prog_1_method_6_code
def yX5_under : MethodName := ⟨RX5, "under", "(II)I"⟩
abbrev cX5_alike : ByteArray := prog_1_method_7_code
def yX5_alike : MethodName := ⟨RX5, "alike", "(II)I"⟩
abbrev cX5_apart : ByteArray := prog_1_method_8_code
def yX5_apart : MethodName := ⟨RX5, "apart", "(III)I"⟩
abbrev cX5_near : ByteArray := prog_1_method_9_code
def yX5_near : MethodName := ⟨RX5, "near", "(III)I"⟩
abbrev cX5_shared : ByteArray := prog_1_method_10_code
def yX5_shared : MethodName := ⟨RX5, "shared", "(II)I"⟩
abbrev cX5_way : ByteArray := prog_1_method_11_code
def yX5_way : MethodName := ⟨RX5, "way", "(II)I"⟩
abbrev cX5_size : ByteArray := prog_1_method_12_code
def yX5_size : MethodName := ⟨RX5, "size", "(I)I"⟩
abbrev cX5_head : ByteArray := prog_1_method_13_code
def yX5_head : MethodName := ⟨RX5, "head", "(I)I"⟩
abbrev cX5_code : ByteArray := prog_1_method_14_code
def yX5_code : MethodName := ⟨RX5, "code", "(I)J"⟩
abbrev cX5_deep : ByteArray := prog_1_method_15_code
def yX5_deep : MethodName := ⟨RX5, "deep", "(I)I"⟩
abbrev cX5_heads : ByteArray := prog_1_method_16_code
def yX5_heads : MethodName := ⟨RX5, "heads", "(I)I"⟩
abbrev cX5_many : ByteArray := prog_1_method_17_code
def yX5_many : MethodName := ⟨RX5, "many", "(II)I"⟩
abbrev cX5_looping : ByteArray := prog_1_method_18_code
def yX5_looping : MethodName := ⟨RX5, "looping", "(I)I"⟩
abbrev cX5_filled : ByteArray := prog_1_method_19_code
def yX5_filled : MethodName := ⟨RX5, "filled", "(I)I"⟩
abbrev cX5_least : ByteArray := prog_1_method_20_code
def yX5_least : MethodName := ⟨RX5, "least", "(I)I"⟩
abbrev cX5_signs : ByteArray := prog_1_method_21_code
def yX5_signs : MethodName := ⟨RX5, "signs", "(II)I"⟩
abbrev cX5_base : ByteArray := prog_1_method_22_code
def yX5_base : MethodName := ⟨RX5, "base", "(II)I"⟩
abbrev cX5_make : ByteArray := prog_1_method_23_code
def yX5_make : MethodName := ⟨RX5, "make", "(IIII)I"⟩
abbrev cX5_part : ByteArray := prog_1_method_24_code
def yX5_part : MethodName := ⟨RX5, "part", "(III)I"⟩
abbrev cX5_copy : ByteArray := prog_1_method_25_code
def yX5_copy : MethodName := ⟨RX5, "copy", "(II)I"⟩
abbrev cX5_bound : ByteArray := prog_1_method_26_code
def yX5_bound : MethodName := ⟨RX5, "bound", "(IIII)I"⟩
abbrev cX5_swap : ByteArray := prog_1_method_27_code
def yX5_swap : MethodName := ⟨RX5, "swap", "(IIII)I"⟩
abbrev cX5_cut : ByteArray := prog_1_method_28_code
def yX5_cut : MethodName := ⟨RX5, "cut", "(III)I"⟩
abbrev cX5_turn : ByteArray := prog_1_method_29_code
def yX5_turn : MethodName := ⟨RX5, "turn", "(III)I"⟩
abbrev cX5_draw : ByteArray := prog_1_method_30_code
def yX5_draw : MethodName := ⟨RX5, "draw", "(III)I"⟩
abbrev cX5_back : ByteArray := prog_1_method_31_code
def yX5_back : MethodName := ⟨RX5, "back", "()I"⟩
abbrev cX5_told : ByteArray := prog_1_method_32_code
def yX5_told : MethodName := ⟨RX5, "told", "(I)I"⟩
abbrev cX5_digest : ByteArray := prog_1_method_33_code
def yX5_digest : MethodName := ⟨RX5, "digest", "()J"⟩
abbrev cX5_isName : ByteArray := prog_1_method_34_code
def yX5_isName : MethodName := ⟨RX5, "isName", "(I)Z"⟩
abbrev cX5_graphOf : ByteArray := prog_1_method_35_code
def yX5_graphOf : MethodName := ⟨RX5, "graphOf", "(I)LLoopTypes$Graph;"⟩
abbrev cX5_refuseBad : ByteArray := prog_1_method_36_code
def yX5_refuseBad : MethodName := ⟨RX5, "refuseBad", "()I"⟩
abbrev cX5_refuseNo : ByteArray := prog_1_method_37_code
def yX5_refuseNo : MethodName := ⟨RX5, "refuseNo", "()I"⟩
abbrev cX5_refuseFull : ByteArray := prog_1_method_38_code
def yX5_refuseFull : MethodName := ⟨RX5, "refuseFull", "()I"⟩
abbrev cX5_give : ByteArray := prog_1_method_39_code
def yX5_give : MethodName := ⟨RX5, "give", "(ILLoopTypes$Graph;)I"⟩
abbrev cX5_keepVersion : ByteArray := prog_1_method_40_code
def yX5_keepVersion : MethodName := ⟨RX5, "keepVersion", "()V"⟩
abbrev cX5_reportOf : ByteArray := prog_1_method_41_code
def yX5_reportOf : MethodName := ⟨RX5, "reportOf", "(I)I"⟩
abbrev cX5_nameBits : ByteArray := prog_1_method_42_code
def yX5_nameBits : MethodName := ⟨RX5, "nameBits", "()I"⟩
abbrev cX5_partsOf : ByteArray := prog_1_method_43_code
def yX5_partsOf : MethodName := ⟨RX5, "partsOf", "(I)I"⟩
abbrev cX5_fillRow : ByteArray := prog_1_method_44_code
def yX5_fillRow : MethodName := ⟨RX5, "fillRow", "([III)V"⟩
def RX6 : String := "LoopTypesModel"
def TX6 : u_T := fun k => match k with
  | 0 => ("LoopTypesModel", "sizes", "[I", true)
  | 1 => ("LoopTypesModel", "types", "[I", true)
  | 2 => ("LoopTypesModel", "past", "[I", true)
  | 3 => ("LoopTypesModel", "pastSizes", "[I", true)
  | 4 => ("LoopTypesModel", "known", "I", false)
  | 5 => ("LoopTypesModel", "refused", "[I", true)
  | 6 => ("LoopTypesModel", "kind", "I", false)
  | 7 => ("LoopTypesModel", "text", "[I", true)
  | 8 => ("LoopTypesModel", "typed", "I", false)
  | 9 => ("LoopTypesModel", "nodes", "[I", true)
  | 10 => ("LoopTypesModel", "many", "I", false)
  | 11 => ("LoopTypesModel", "line", "[I", true)
  | 12 => ("LoopTypesModel", "places", "[I", true)
  | 13 => ("LoopTypesModel", "classes", "[I", true)
  | 14 => ("LoopTypesModel", "finer", "[I", true)
  | 15 => ("LoopTypesModel", "firsts", "[I", true)
  | 16 => ("LoopTypesModel", "made", "[I", true)
  | 17 => ("LoopTypesModel", "madeSize", "I", false)
  | 18 => ("LoopTypesModel", "pairs", "[I", true)
  | 19 => ("LoopTypesModel", "queue", "[I", true)
  | 20 => ("LoopTypesModel", "from", "[I", true)
  | 21 => ("LoopTypesModel", "steps", "[I", true)
  | 22 => ("LoopTypesModel", "at", "I", false)
  | 23 => ("LoopTypesModel", "roots", "[I", true)
  | 24 => ("LoopTypesModel", "places2", "[I", true)
  | 25 => ("LoopTypesModel", "letters", "[I", true)
  | 26 => ("LoopTypesModel", "lettered", "I", false)
  | 27 => ("LoopTypesModel", "open", "[I", true)
  | 28 => ("LoopTypesModel", "opened", "I", false)
  | 29 => ("LoopTypesModel", "waiting", "[I", true)
  | 30 => ("LoopTypesModel", "waited", "I", false)
  | 31 => ("LoopTypesModel", "fresh", "[I", true)
  | 32 => ("LoopTypesModel", "freshSizes", "[I", true)
  | 33 => ("LoopTypesModel", "equations", "I", false)
  | _ => ("LoopTypesModel", "values", "[J", true)
def tyX6 : Nat → FieldType := fun k => match k with
  | 0 => .array .int
  | 1 => .array .int
  | 2 => .array .int
  | 3 => .array .int
  | 4 => .int
  | 5 => .array .int
  | 6 => .int
  | 7 => .array .int
  | 8 => .int
  | 9 => .array .int
  | 10 => .int
  | 11 => .array .int
  | 12 => .array .int
  | 13 => .array .int
  | 14 => .array .int
  | 15 => .array .int
  | 16 => .array .int
  | 17 => .int
  | 18 => .array .int
  | 19 => .array .int
  | 20 => .array .int
  | 21 => .array .int
  | 22 => .int
  | 23 => .array .int
  | 24 => .array .int
  | 25 => .array .int
  | 26 => .int
  | 27 => .array .int
  | 28 => .int
  | 29 => .array .int
  | 30 => .int
  | 31 => .array .int
  | 32 => .array .int
  | 33 => .int
  | _ => .array .long
abbrev wsX60 : List Cond := u_ws RX6 TX6 35
theorem nmX6 : ∀ a, a < 35 → ∀ b, b < 35 → a ≠ b → (TX6 a).2.1 ≠ (TX6 b).2.1 := by decide +kernel
theorem tyX6_ok : ∀ k, k < 35 → parseFieldDescriptor (TX6 k).2.2.1 = some (tyX6 k) := by decide +kernel
abbrev cX6_init : ByteArray := prog_8_method_1_code
def yX6_init : MethodName := ⟨RX6, "<init>", "()V"⟩
abbrev cX6_in : ByteArray := prog_8_method_3_code
def yX6_in : MethodName := ⟨RX6, "in", "(III)Z"⟩
abbrev cX6_refuses : ByteArray := prog_8_method_4_code
def yX6_refuses : MethodName := ⟨RX6, "refuses", "(I)I"⟩
abbrev cX6_isName : ByteArray := prog_8_method_5_code
def yX6_isName : MethodName := ⟨RX6, "isName", "(I)Z"⟩
abbrev cX6_has : ByteArray := prog_8_method_6_code
def yX6_has : MethodName := ⟨RX6, "has", "(I)Z"⟩
abbrev cX6_node : ByteArray := prog_8_method_7_code
def yX6_node : MethodName := ⟨RX6, "node", "(III)I"⟩
abbrev cX6_headOf : ByteArray := prog_8_method_8_code
def yX6_headOf : MethodName := ⟨RX6, "headOf", "(I)I"⟩
abbrev cX6_partOf : ByteArray := prog_8_method_9_code
def yX6_partOf : MethodName := ⟨RX6, "partOf", "(II)I"⟩
abbrev cX6_parts : ByteArray := prog_8_method_10_code
def yX6_parts : MethodName := ⟨RX6, "parts", "(I)I"⟩
abbrev cX6_adds : ByteArray := prog_8_method_11_code
def yX6_adds : MethodName := ⟨RX6, "adds", "(III)I"⟩
abbrev cX6_loads : ByteArray := prog_8_method_12_code
def yX6_loads : MethodName := ⟨RX6, "loads", "(I)I"⟩
abbrev cX6_reaches : ByteArray := prog_8_method_13_code
def yX6_reaches : MethodName := ⟨RX6, "reaches", "(I)I"⟩
abbrev cX6_classOf : ByteArray := prog_8_method_14_code
def yX6_classOf : MethodName := ⟨RX6, "classOf", "(II)I"⟩
abbrev cX6_alikeSoFar : ByteArray := prog_8_method_15_code
def yX6_alikeSoFar : MethodName := ⟨RX6, "alikeSoFar", "(II)Z"⟩
abbrev cX6_tellsApart : ByteArray := prog_8_method_16_code
def yX6_tellsApart : MethodName := ⟨RX6, "tellsApart", "(II)I"⟩
abbrev cX6_makes : ByteArray := prog_8_method_17_code
def yX6_makes : MethodName := ⟨RX6, "makes", "(I)I"⟩
abbrev cX6_keeps : ByteArray := prog_8_method_18_code
def yX6_keeps : MethodName := ⟨RX6, "keeps", "()V"⟩
abbrev cX6_gives : ByteArray := prog_8_method_19_code
def yX6_gives : MethodName := ⟨RX6, "gives", "(II)I"⟩
abbrev cX6_type : ByteArray := prog_8_method_20_code
def yX6_type : MethodName := ⟨RX6, "type", "(I)I"⟩
abbrev cX6_clear : ByteArray := prog_8_method_21_code
def yX6_clear : MethodName := ⟨RX6, "clear", "()I"⟩
abbrev cX6_byteAt : ByteArray := prog_8_method_22_code
def yX6_byteAt : MethodName := ⟨RX6, "byteAt", "(I)I"⟩
abbrev cX6_skips : ByteArray := prog_8_method_23_code
def yX6_skips : MethodName := ⟨RX6, "skips", "()V"⟩
abbrev cX6_does : ByteArray := prog_8_method_24_code
def yX6_does : MethodName := ⟨RX6, "does", "(Z)V"⟩
abbrev cX6_waits : ByteArray := prog_8_method_25_code
def yX6_waits : MethodName := ⟨RX6, "waits", "(I)V"⟩
abbrev cX6_opens : ByteArray := prog_8_method_26_code
def yX6_opens : MethodName := ⟨RX6, "opens", "(I)V"⟩
abbrev cX6_bracket : ByteArray := prog_8_method_27_code
def yX6_bracket : MethodName := ⟨RX6, "bracket", "()I"⟩
abbrev cX6_readsTerm : ByteArray := prog_8_method_28_code
def yX6_readsTerm : MethodName := ⟨RX6, "readsTerm", "()I"⟩
abbrev cX6_readsAll : ByteArray := prog_8_method_29_code
def yX6_readsAll : MethodName := ⟨RX6, "readsAll", "()I"⟩
abbrev cX6_comesBack : ByteArray := prog_8_method_30_code
def yX6_comesBack : MethodName := ⟨RX6, "comesBack", "(I)Z"⟩
abbrev cX6_meant : ByteArray := prog_8_method_31_code
def yX6_meant : MethodName := ⟨RX6, "meant", "(I)I"⟩
abbrev cX6_read : ByteArray := prog_8_method_32_code
def yX6_read : MethodName := ⟨RX6, "read", "()I"⟩
abbrev cX6_order : ByteArray := prog_8_method_33_code
def yX6_order : MethodName := ⟨RX6, "order", "(I)I"⟩
abbrev cX6_goes : ByteArray := prog_8_method_34_code
def yX6_goes : MethodName := ⟨RX6, "goes", "(II)I"⟩
abbrev cX6_clash : ByteArray := prog_8_method_35_code
def yX6_clash : MethodName := ⟨RX6, "clash", "(II)I"⟩
abbrev cX6_both : ByteArray := prog_8_method_36_code
def yX6_both : MethodName := ⟨RX6, "both", "(II)I"⟩
abbrev cX6_under : ByteArray := prog_8_method_37_code
def yX6_under : MethodName := ⟨RX6, "under", "(II)I"⟩
abbrev cX6_alike : ByteArray := prog_8_method_38_code
def yX6_alike : MethodName := ⟨RX6, "alike", "(II)I"⟩
abbrev cX6_apart : ByteArray := prog_8_method_39_code
def yX6_apart : MethodName := ⟨RX6, "apart", "(III)I"⟩
abbrev cX6_near : ByteArray := prog_8_method_40_code
def yX6_near : MethodName := ⟨RX6, "near", "(III)I"⟩
abbrev cX6_bothApart : ByteArray := prog_8_method_41_code
def yX6_bothApart : MethodName := ⟨RX6, "bothApart", "(II)I"⟩
abbrev cX6_shared : ByteArray := prog_8_method_42_code
def yX6_shared : MethodName := ⟨RX6, "shared", "(II)I"⟩
abbrev cX6_way : ByteArray := prog_8_method_43_code
def yX6_way : MethodName := ⟨RX6, "way", "(II)I"⟩
abbrev cX6_nodeAt : ByteArray := prog_8_method_44_code
def yX6_nodeAt : MethodName := ⟨RX6, "nodeAt", "(II)I"⟩
abbrev cX6_size : ByteArray := prog_8_method_45_code
def yX6_size : MethodName := ⟨RX6, "size", "(I)I"⟩
abbrev cX6_head : ByteArray := prog_8_method_46_code
def yX6_head : MethodName := ⟨RX6, "head", "(I)I"⟩
abbrev cX6_codeOf : ByteArray := prog_8_method_47_code
def yX6_codeOf : MethodName := ⟨RX6, "codeOf", "(I)J"⟩
abbrev cX6_code : ByteArray := prog_8_method_48_code
def yX6_code : MethodName := ⟨RX6, "code", "(I)J"⟩
abbrev cX6_climbs : ByteArray := prog_8_method_49_code
def yX6_climbs : MethodName := ⟨RX6, "climbs", "(IZ)J"⟩
abbrev cX6_deep : ByteArray := prog_8_method_50_code
def yX6_deep : MethodName := ⟨RX6, "deep", "(I)I"⟩
abbrev cX6_heads : ByteArray := prog_8_method_51_code
def yX6_heads : MethodName := ⟨RX6, "heads", "(I)I"⟩
abbrev cX6_many : ByteArray := prog_8_method_52_code
def yX6_many : MethodName := ⟨RX6, "many", "(II)I"⟩
abbrev cX6_looping : ByteArray := prog_8_method_53_code
def yX6_looping : MethodName := ⟨RX6, "looping", "(I)I"⟩
abbrev cX6_leastOf : ByteArray := prog_8_method_54_code
def yX6_leastOf : MethodName := ⟨RX6, "leastOf", "(I)I"⟩
abbrev cX6_filled : ByteArray := prog_8_method_55_code
def yX6_filled : MethodName := ⟨RX6, "filled", "(I)I"⟩
abbrev cX6_least : ByteArray := prog_8_method_56_code
def yX6_least : MethodName := ⟨RX6, "least", "(I)I"⟩
abbrev cX6_signs : ByteArray := prog_8_method_57_code
def yX6_signs : MethodName := ⟨RX6, "signs", "(II)I"⟩
abbrev cX6_base : ByteArray := prog_8_method_58_code
def yX6_base : MethodName := ⟨RX6, "base", "(II)I"⟩
abbrev cX6_make : ByteArray := prog_8_method_59_code
def yX6_make : MethodName := ⟨RX6, "make", "(IIII)I"⟩
abbrev cX6_part : ByteArray := prog_8_method_60_code
def yX6_part : MethodName := ⟨RX6, "part", "(III)I"⟩
abbrev cX6_copy : ByteArray := prog_8_method_61_code
def yX6_copy : MethodName := ⟨RX6, "copy", "(II)I"⟩
abbrev cX6_pairOf : ByteArray := prog_8_method_62_code
def yX6_pairOf : MethodName := ⟨RX6, "pairOf", "(IIZI)I"⟩
abbrev cX6_tells : ByteArray := prog_8_method_63_code
def yX6_tells : MethodName := ⟨RX6, "tells", "(II)V"⟩
abbrev cX6_bound : ByteArray := prog_8_method_64_code
def yX6_bound : MethodName := ⟨RX6, "bound", "(IIII)I"⟩
abbrev cX6_swap : ByteArray := prog_8_method_65_code
def yX6_swap : MethodName := ⟨RX6, "swap", "(IIII)I"⟩
abbrev cX6_cut : ByteArray := prog_8_method_66_code
def yX6_cut : MethodName := ⟨RX6, "cut", "(III)I"⟩
abbrev cX6_turn : ByteArray := prog_8_method_67_code
def yX6_turn : MethodName := ⟨RX6, "turn", "(III)I"⟩
abbrev cX6_draw : ByteArray := prog_8_method_68_code
def yX6_draw : MethodName := ⟨RX6, "draw", "(III)I"⟩
abbrev cX6_back : ByteArray := prog_8_method_69_code
def yX6_back : MethodName := ⟨RX6, "back", "()I"⟩
abbrev cX6_toldOf : ByteArray := prog_8_method_70_code
def yX6_toldOf : MethodName := ⟨RX6, "toldOf", "(I)I"⟩
abbrev cX6_told : ByteArray := prog_8_method_71_code
def yX6_told : MethodName := ⟨RX6, "told", "(I)I"⟩
abbrev cX6_digest : ByteArray := prog_8_method_72_code
def yX6_digest : MethodName := ⟨RX6, "digest", "()J"⟩
def RL : String := "LoopTypesLaw"
abbrev cL_law : ByteArray := code
def yL_law : MethodName := ⟨RL, "law", "([I)Z"⟩
abbrev vwCl : List vw_C := [(RX0, TX0, 10), (RX1, TX1, 6), (RX2, TX2, 2), (RX3, TX3, 4), (RX4, TX4, 16), (RX5, TX5, 15), (RX6, TX6, 35)]
theorem dX0_init_0 : decode cX0_init 0 = .ok (.aload_n 0, 1) := by decide +kernel
theorem dX0_init_1 : decode cX0_init 1 = .ok (.invokespecial 3, 3) := by decide +kernel
theorem dX0_init_4 : decode cX0_init 4 = .ok (.aload_n 0, 1) := by decide +kernel
theorem dX0_init_5 : decode cX0_init 5 = .ok (.sipush 3280, 3) := by decide +kernel
theorem dX0_init_8 : decode cX0_init 8 = .ok (.newarray .int, 2) := by decide +kernel
theorem dX0_init_10 : decode cX0_init 10 = .ok (.putfield 9, 3) := by decide +kernel
theorem dX0_init_13 : decode cX0_init 13 = .ok (.aload_n 0, 1) := by decide +kernel
theorem dX0_init_14 : decode cX0_init 14 = .ok (.sipush 3280, 3) := by decide +kernel
theorem dX0_init_17 : decode cX0_init 17 = .ok (.newarray .int, 2) := by decide +kernel
theorem dX0_init_19 : decode cX0_init 19 = .ok (.putfield 15, 3) := by decide +kernel
theorem dX0_init_22 : decode cX0_init 22 = .ok (.aload_n 0, 1) := by decide +kernel
theorem dX0_init_23 : decode cX0_init 23 = .ok (.sipush 3280, 3) := by decide +kernel
theorem dX0_init_26 : decode cX0_init 26 = .ok (.newarray .int, 2) := by decide +kernel
theorem dX0_init_28 : decode cX0_init 28 = .ok (.putfield 18, 3) := by decide +kernel
theorem dX0_init_31 : decode cX0_init 31 = .ok (.aload_n 0, 1) := by decide +kernel
theorem dX0_init_32 : decode cX0_init 32 = .ok (.sipush 3280, 3) := by decide +kernel
theorem dX0_init_35 : decode cX0_init 35 = .ok (.newarray .int, 2) := by decide +kernel
theorem dX0_init_37 : decode cX0_init 37 = .ok (.putfield 21, 3) := by decide +kernel
theorem dX0_init_40 : decode cX0_init 40 = .ok (.aload_n 0, 1) := by decide +kernel
theorem dX0_init_41 : decode cX0_init 41 = .ok (.sipush 3280, 3) := by decide +kernel
theorem dX0_init_44 : decode cX0_init 44 = .ok (.newarray .int, 2) := by decide +kernel
theorem dX0_init_46 : decode cX0_init 46 = .ok (.putfield 24, 3) := by decide +kernel
theorem dX0_init_49 : decode cX0_init 49 = .ok (.aload_n 0, 1) := by decide +kernel
theorem dX0_init_50 : decode cX0_init 50 = .ok (.sipush 3280, 3) := by decide +kernel
theorem dX0_init_53 : decode cX0_init 53 = .ok (.newarray .int, 2) := by decide +kernel
theorem dX0_init_55 : decode cX0_init 55 = .ok (.putfield 27, 3) := by decide +kernel
theorem dX0_init_58 : decode cX0_init 58 = .ok (.aload_n 0, 1) := by decide +kernel
theorem dX0_init_59 : decode cX0_init 59 = .ok (.sipush 3280, 3) := by decide +kernel
theorem dX0_init_62 : decode cX0_init 62 = .ok (.newarray .int, 2) := by decide +kernel
theorem dX0_init_64 : decode cX0_init 64 = .ok (.putfield 30, 3) := by decide +kernel
theorem dX0_init_67 : decode cX0_init 67 = .ok (.aload_n 0, 1) := by decide +kernel
theorem dX0_init_68 : decode cX0_init 68 = .ok (.sipush 11200, 3) := by decide +kernel
theorem dX0_init_71 : decode cX0_init 71 = .ok (.newarray .int, 2) := by decide +kernel
theorem dX0_init_73 : decode cX0_init 73 = .ok (.putfield 33, 3) := by decide +kernel
theorem dX0_init_76 : decode cX0_init 76 = .ok (.aload_n 0, 1) := by decide +kernel
theorem dX0_init_77 : decode cX0_init 77 = .ok (.bipush 40, 2) := by decide +kernel
theorem dX0_init_79 : decode cX0_init 79 = .ok (.newarray .int, 2) := by decide +kernel
theorem dX0_init_81 : decode cX0_init 81 = .ok (.putfield 36, 3) := by decide +kernel
theorem dX0_init_84 : decode cX0_init 84 = .ok (.iconst 0, 1) := by decide +kernel
theorem dX0_init_85 : decode cX0_init 85 = .ok (.istore_n 1, 1) := by decide +kernel
theorem dX0_init_86 : decode cX0_init 86 = .ok (.iload_n 1, 1) := by decide +kernel
theorem dX0_init_87 : decode cX0_init 87 = .ok (.aload_n 0, 1) := by decide +kernel
theorem dX0_init_88 : decode cX0_init 88 = .ok (.getfield 33, 3) := by decide +kernel
theorem dX0_init_91 : decode cX0_init 91 = .ok (.arraylength, 1) := by decide +kernel
theorem dX0_init_92 : decode cX0_init 92 = .ok (.if_icmp .ge 16, 3) := by decide +kernel
theorem dX0_init_95 : decode cX0_init 95 = .ok (.aload_n 0, 1) := by decide +kernel
theorem dX0_init_96 : decode cX0_init 96 = .ok (.getfield 33, 3) := by decide +kernel
theorem dX0_init_99 : decode cX0_init 99 = .ok (.iload_n 1, 1) := by decide +kernel
theorem dX0_init_100 : decode cX0_init 100 = .ok (.iconst (-1), 1) := by decide +kernel
theorem dX0_init_101 : decode cX0_init 101 = .ok (.iastore, 1) := by decide +kernel
theorem dX0_init_102 : decode cX0_init 102 = .ok (.iinc 1 1, 3) := by decide +kernel
theorem dX0_init_105 : decode cX0_init 105 = .ok (.goto (-19), 3) := by decide +kernel
theorem dX0_init_108 : decode cX0_init 108 = .ok (.return_, 1) := by decide +kernel
theorem dX0_start_0 : decode cX0_start 0 = .ok (.aload_n 0, 1) := by decide +kernel
theorem dX0_start_1 : decode cX0_start 1 = .ok (.iconst 0, 1) := by decide +kernel
theorem dX0_start_2 : decode cX0_start 2 = .ok (.putfield 39, 3) := by decide +kernel
theorem dX0_start_5 : decode cX0_start 5 = .ok (.return_, 1) := by decide +kernel
theorem dX0_holds_0 : decode cX0_holds 0 = .ok (.iload_n 0, 1) := by decide +kernel
theorem dX0_holds_1 : decode cX0_holds 1 = .ok (.ifCond .lt 14, 3) := by decide +kernel
theorem dX0_holds_4 : decode cX0_holds 4 = .ok (.iload_n 0, 1) := by decide +kernel
theorem dX0_holds_5 : decode cX0_holds 5 = .ok (.sipush 3280, 3) := by decide +kernel
theorem dX0_holds_8 : decode cX0_holds 8 = .ok (.if_icmp .ge 7, 3) := by decide +kernel
theorem dX0_holds_11 : decode cX0_holds 11 = .ok (.iconst 1, 1) := by decide +kernel
theorem dX0_holds_12 : decode cX0_holds 12 = .ok (.goto 4, 3) := by decide +kernel
theorem dX0_holds_15 : decode cX0_holds 15 = .ok (.iconst 0, 1) := by decide +kernel
theorem dX0_holds_16 : decode cX0_holds 16 = .ok (.ireturn, 1) := by decide +kernel
theorem dX0_put_0 : decode cX0_put 0 = .ok (.aload_n 0, 1) := by decide +kernel
theorem dX0_put_1 : decode cX0_put 1 = .ok (.getfield 39, 3) := by decide +kernel
theorem dX0_put_4 : decode cX0_put 4 = .ok (.sipush 3280, 3) := by decide +kernel
theorem dX0_put_7 : decode cX0_put 7 = .ok (.if_icmp .ge 13, 3) := by decide +kernel
theorem dX0_put_10 : decode cX0_put 10 = .ok (.iload_n 1, 1) := by decide +kernel
theorem dX0_put_11 : decode cX0_put 11 = .ok (.ifCond .lt 9, 3) := by decide +kernel
theorem dX0_put_14 : decode cX0_put 14 = .ok (.iload_n 1, 1) := by decide +kernel
theorem dX0_put_15 : decode cX0_put 15 = .ok (.bipush 7, 2) := by decide +kernel
theorem dX0_put_17 : decode cX0_put 17 = .ok (.if_icmp .lt 5, 3) := by decide +kernel
theorem dX0_put_20 : decode cX0_put 20 = .ok (.iconst 0, 1) := by decide +kernel
theorem dX0_put_21 : decode cX0_put 21 = .ok (.ireturn, 1) := by decide +kernel
theorem dX0_put_22 : decode cX0_put 22 = .ok (.aload_n 0, 1) := by decide +kernel
theorem dX0_put_23 : decode cX0_put 23 = .ok (.getfield 39, 3) := by decide +kernel
theorem dX0_put_26 : decode cX0_put 26 = .ok (.istore 4, 2) := by decide +kernel
theorem dX0_put_28 : decode cX0_put 28 = .ok (.aload_n 0, 1) := by decide +kernel
theorem dX0_put_29 : decode cX0_put 29 = .ok (.getfield 9, 3) := by decide +kernel
theorem dX0_put_32 : decode cX0_put 32 = .ok (.iload 4, 2) := by decide +kernel
theorem dX0_put_34 : decode cX0_put 34 = .ok (.iload_n 1, 1) := by decide +kernel
theorem dX0_put_35 : decode cX0_put 35 = .ok (.iastore, 1) := by decide +kernel
theorem dX0_put_36 : decode cX0_put 36 = .ok (.aload_n 0, 1) := by decide +kernel
theorem dX0_put_37 : decode cX0_put 37 = .ok (.getfield 15, 3) := by decide +kernel
theorem dX0_put_40 : decode cX0_put 40 = .ok (.iload 4, 2) := by decide +kernel
theorem dX0_put_42 : decode cX0_put 42 = .ok (.iload_n 2, 1) := by decide +kernel
theorem dX0_put_43 : decode cX0_put 43 = .ok (.invokestatic 43, 3) := by decide +kernel
theorem dX0_put_46 : decode cX0_put 46 = .ok (.ifCond .eq 7, 3) := by decide +kernel
theorem dX0_put_49 : decode cX0_put 49 = .ok (.iload_n 2, 1) := by decide +kernel
theorem dX0_put_50 : decode cX0_put 50 = .ok (.goto 4, 3) := by decide +kernel
theorem dX0_put_53 : decode cX0_put 53 = .ok (.iconst 0, 1) := by decide +kernel
theorem dX0_put_54 : decode cX0_put 54 = .ok (.iastore, 1) := by decide +kernel
theorem dX0_put_55 : decode cX0_put 55 = .ok (.aload_n 0, 1) := by decide +kernel
theorem dX0_put_56 : decode cX0_put 56 = .ok (.getfield 18, 3) := by decide +kernel
theorem dX0_put_59 : decode cX0_put 59 = .ok (.iload 4, 2) := by decide +kernel
theorem dX0_put_61 : decode cX0_put 61 = .ok (.iload_n 3, 1) := by decide +kernel
theorem dX0_put_62 : decode cX0_put 62 = .ok (.invokestatic 43, 3) := by decide +kernel
theorem dX0_put_65 : decode cX0_put 65 = .ok (.ifCond .eq 7, 3) := by decide +kernel
theorem dX0_put_68 : decode cX0_put 68 = .ok (.iload_n 3, 1) := by decide +kernel
theorem dX0_put_69 : decode cX0_put 69 = .ok (.goto 4, 3) := by decide +kernel
theorem dX0_put_72 : decode cX0_put 72 = .ok (.iconst 0, 1) := by decide +kernel
theorem dX0_put_73 : decode cX0_put 73 = .ok (.iastore, 1) := by decide +kernel
theorem dX0_put_74 : decode cX0_put 74 = .ok (.aload_n 0, 1) := by decide +kernel
theorem dX0_put_75 : decode cX0_put 75 = .ok (.dup, 1) := by decide +kernel
theorem dX0_put_76 : decode cX0_put 76 = .ok (.getfield 39, 3) := by decide +kernel
theorem dX0_put_79 : decode cX0_put 79 = .ok (.iconst 1, 1) := by decide +kernel
theorem dX0_put_80 : decode cX0_put 80 = .ok (.iadd, 1) := by decide +kernel
theorem dX0_put_81 : decode cX0_put 81 = .ok (.putfield 39, 3) := by decide +kernel
theorem dX0_put_84 : decode cX0_put 84 = .ok (.iload 4, 2) := by decide +kernel
theorem dX0_put_86 : decode cX0_put 86 = .ok (.ireturn, 1) := by decide +kernel
theorem dX0_putAll_0 : decode cX0_putAll 0 = .ok (.aload_n 0, 1) := by decide +kernel
theorem dX0_putAll_1 : decode cX0_putAll 1 = .ok (.getfield 39, 3) := by decide +kernel
theorem dX0_putAll_4 : decode cX0_putAll 4 = .ok (.istore_n 2, 1) := by decide +kernel
theorem dX0_putAll_5 : decode cX0_putAll 5 = .ok (.iconst 0, 1) := by decide +kernel
theorem dX0_putAll_6 : decode cX0_putAll 6 = .ok (.istore_n 3, 1) := by decide +kernel
theorem dX0_putAll_7 : decode cX0_putAll 7 = .ok (.iload_n 3, 1) := by decide +kernel
theorem dX0_putAll_8 : decode cX0_putAll 8 = .ok (.aload_n 1, 1) := by decide +kernel
theorem dX0_putAll_9 : decode cX0_putAll 9 = .ok (.getfield 47, 3) := by decide +kernel
theorem dX0_putAll_12 : decode cX0_putAll 12 = .ok (.if_icmp .ge 35, 3) := by decide +kernel
theorem dX0_putAll_15 : decode cX0_putAll 15 = .ok (.aload_n 0, 1) := by decide +kernel
theorem dX0_putAll_16 : decode cX0_putAll 16 = .ok (.aload_n 1, 1) := by decide +kernel
theorem dX0_putAll_17 : decode cX0_putAll 17 = .ok (.iload_n 3, 1) := by decide +kernel
theorem dX0_putAll_18 : decode cX0_putAll 18 = .ok (.invokevirtual 52, 3) := by decide +kernel
theorem dX0_putAll_21 : decode cX0_putAll 21 = .ok (.iload_n 2, 1) := by decide +kernel
theorem dX0_putAll_22 : decode cX0_putAll 22 = .ok (.aload_n 1, 1) := by decide +kernel
theorem dX0_putAll_23 : decode cX0_putAll 23 = .ok (.iload_n 3, 1) := by decide +kernel
theorem dX0_putAll_24 : decode cX0_putAll 24 = .ok (.iconst 0, 1) := by decide +kernel
theorem dX0_putAll_25 : decode cX0_putAll 25 = .ok (.invokevirtual 56, 3) := by decide +kernel
theorem dX0_putAll_28 : decode cX0_putAll 28 = .ok (.iadd, 1) := by decide +kernel
theorem dX0_putAll_29 : decode cX0_putAll 29 = .ok (.iload_n 2, 1) := by decide +kernel
theorem dX0_putAll_30 : decode cX0_putAll 30 = .ok (.aload_n 1, 1) := by decide +kernel
theorem dX0_putAll_31 : decode cX0_putAll 31 = .ok (.iload_n 3, 1) := by decide +kernel
theorem dX0_putAll_32 : decode cX0_putAll 32 = .ok (.iconst 1, 1) := by decide +kernel
theorem dX0_putAll_33 : decode cX0_putAll 33 = .ok (.invokevirtual 56, 3) := by decide +kernel
theorem dX0_putAll_36 : decode cX0_putAll 36 = .ok (.iadd, 1) := by decide +kernel
theorem dX0_putAll_37 : decode cX0_putAll 37 = .ok (.invokevirtual 60, 3) := by decide +kernel
theorem dX0_putAll_40 : decode cX0_putAll 40 = .ok (.pop, 1) := by decide +kernel
theorem dX0_putAll_41 : decode cX0_putAll 41 = .ok (.iinc 3 1, 3) := by decide +kernel
theorem dX0_putAll_44 : decode cX0_putAll 44 = .ok (.goto (-37), 3) := by decide +kernel
theorem dX0_putAll_47 : decode cX0_putAll 47 = .ok (.iload_n 2, 1) := by decide +kernel
theorem dX0_putAll_48 : decode cX0_putAll 48 = .ok (.ireturn, 1) := by decide +kernel
theorem dX0_link_0 : decode cX0_link 0 = .ok (.iload_n 1, 1) := by decide +kernel
theorem dX0_link_1 : decode cX0_link 1 = .ok (.invokestatic 43, 3) := by decide +kernel
theorem dX0_link_4 : decode cX0_link 4 = .ok (.ifCond .eq 10, 3) := by decide +kernel
theorem dX0_link_7 : decode cX0_link 7 = .ok (.iload_n 3, 1) := by decide +kernel
theorem dX0_link_8 : decode cX0_link 8 = .ok (.invokestatic 43, 3) := by decide +kernel
theorem dX0_link_11 : decode cX0_link 11 = .ok (.ifCond .ne 4, 3) := by decide +kernel
theorem dX0_link_14 : decode cX0_link 14 = .ok (.return_, 1) := by decide +kernel
theorem dX0_link_15 : decode cX0_link 15 = .ok (.iload_n 2, 1) := by decide +kernel
theorem dX0_link_16 : decode cX0_link 16 = .ok (.ifCond .ne 13, 3) := by decide +kernel
theorem dX0_link_19 : decode cX0_link 19 = .ok (.aload_n 0, 1) := by decide +kernel
theorem dX0_link_20 : decode cX0_link 20 = .ok (.getfield 15, 3) := by decide +kernel
theorem dX0_link_23 : decode cX0_link 23 = .ok (.iload_n 1, 1) := by decide +kernel
theorem dX0_link_24 : decode cX0_link 24 = .ok (.iload_n 3, 1) := by decide +kernel
theorem dX0_link_25 : decode cX0_link 25 = .ok (.iastore, 1) := by decide +kernel
theorem dX0_link_26 : decode cX0_link 26 = .ok (.goto 10, 3) := by decide +kernel
theorem dX0_link_29 : decode cX0_link 29 = .ok (.aload_n 0, 1) := by decide +kernel
theorem dX0_link_30 : decode cX0_link 30 = .ok (.getfield 18, 3) := by decide +kernel
theorem dX0_link_33 : decode cX0_link 33 = .ok (.iload_n 1, 1) := by decide +kernel
theorem dX0_link_34 : decode cX0_link 34 = .ok (.iload_n 3, 1) := by decide +kernel
theorem dX0_link_35 : decode cX0_link 35 = .ok (.iastore, 1) := by decide +kernel
theorem dX0_link_36 : decode cX0_link 36 = .ok (.return_, 1) := by decide +kernel
theorem dX0_linked_0 : decode cX0_linked 0 = .ok (.iload_n 2, 1) := by decide +kernel
theorem dX0_linked_1 : decode cX0_linked 1 = .ok (.ifCond .ne 12, 3) := by decide +kernel
theorem dX0_linked_4 : decode cX0_linked 4 = .ok (.aload_n 0, 1) := by decide +kernel
theorem dX0_linked_5 : decode cX0_linked 5 = .ok (.getfield 15, 3) := by decide +kernel
theorem dX0_linked_8 : decode cX0_linked 8 = .ok (.iload_n 1, 1) := by decide +kernel
theorem dX0_linked_9 : decode cX0_linked 9 = .ok (.iaload, 1) := by decide +kernel
theorem dX0_linked_10 : decode cX0_linked 10 = .ok (.goto 9, 3) := by decide +kernel
theorem dX0_linked_13 : decode cX0_linked 13 = .ok (.aload_n 0, 1) := by decide +kernel
theorem dX0_linked_14 : decode cX0_linked 14 = .ok (.getfield 18, 3) := by decide +kernel
theorem dX0_linked_17 : decode cX0_linked 17 = .ok (.iload_n 1, 1) := by decide +kernel
theorem dX0_linked_18 : decode cX0_linked 18 = .ok (.iaload, 1) := by decide +kernel
theorem dX0_linked_19 : decode cX0_linked 19 = .ok (.ireturn, 1) := by decide +kernel
theorem dX0_replaced_0 : decode cX0_replaced 0 = .ok (.aload_n 0, 1) := by decide +kernel
theorem dX0_replaced_1 : decode cX0_replaced 1 = .ok (.invokevirtual 64, 3) := by decide +kernel
theorem dX0_replaced_4 : decode cX0_replaced 4 = .ok (.aload_n 0, 1) := by decide +kernel
theorem dX0_replaced_5 : decode cX0_replaced 5 = .ok (.aload_n 1, 1) := by decide +kernel
theorem dX0_replaced_6 : decode cX0_replaced 6 = .ok (.invokevirtual 67, 3) := by decide +kernel
theorem dX0_replaced_9 : decode cX0_replaced 9 = .ok (.pop, 1) := by decide +kernel
theorem dX0_replaced_10 : decode cX0_replaced 10 = .ok (.aload_n 0, 1) := by decide +kernel
theorem dX0_replaced_11 : decode cX0_replaced 11 = .ok (.aload_n 3, 1) := by decide +kernel
theorem dX0_replaced_12 : decode cX0_replaced 12 = .ok (.invokevirtual 67, 3) := by decide +kernel
theorem dX0_replaced_15 : decode cX0_replaced 15 = .ok (.istore 4, 2) := by decide +kernel
theorem dX0_replaced_17 : decode cX0_replaced 17 = .ok (.iconst 0, 1) := by decide +kernel
theorem dX0_replaced_18 : decode cX0_replaced 18 = .ok (.istore 5, 2) := by decide +kernel
theorem dX0_replaced_20 : decode cX0_replaced 20 = .ok (.iload 5, 2) := by decide +kernel
theorem dX0_replaced_22 : decode cX0_replaced 22 = .ok (.aload_n 1, 1) := by decide +kernel
theorem dX0_replaced_23 : decode cX0_replaced 23 = .ok (.getfield 47, 3) := by decide +kernel
theorem dX0_replaced_26 : decode cX0_replaced 26 = .ok (.if_icmp .ge 55, 3) := by decide +kernel
theorem dX0_replaced_29 : decode cX0_replaced 29 = .ok (.aload_n 1, 1) := by decide +kernel
theorem dX0_replaced_30 : decode cX0_replaced 30 = .ok (.iload 5, 2) := by decide +kernel
theorem dX0_replaced_32 : decode cX0_replaced 32 = .ok (.invokevirtual 71, 3) := by decide +kernel
theorem dX0_replaced_35 : decode cX0_replaced 35 = .ok (.istore 6, 2) := by decide +kernel
theorem dX0_replaced_37 : decode cX0_replaced 37 = .ok (.iconst 0, 1) := by decide +kernel
theorem dX0_replaced_38 : decode cX0_replaced 38 = .ok (.istore 7, 2) := by decide +kernel
theorem dX0_replaced_40 : decode cX0_replaced 40 = .ok (.iload 7, 2) := by decide +kernel
theorem dX0_replaced_42 : decode cX0_replaced 42 = .ok (.iload 6, 2) := by decide +kernel
theorem dX0_replaced_44 : decode cX0_replaced 44 = .ok (.if_icmp .ge 31, 3) := by decide +kernel
theorem dX0_replaced_47 : decode cX0_replaced 47 = .ok (.aload_n 1, 1) := by decide +kernel
theorem dX0_replaced_48 : decode cX0_replaced 48 = .ok (.iload 5, 2) := by decide +kernel
theorem dX0_replaced_50 : decode cX0_replaced 50 = .ok (.iload 7, 2) := by decide +kernel
theorem dX0_replaced_52 : decode cX0_replaced 52 = .ok (.invokevirtual 56, 3) := by decide +kernel
theorem dX0_replaced_55 : decode cX0_replaced 55 = .ok (.iload_n 2, 1) := by decide +kernel
theorem dX0_replaced_56 : decode cX0_replaced 56 = .ok (.if_icmp .ne 13, 3) := by decide +kernel
theorem dX0_replaced_59 : decode cX0_replaced 59 = .ok (.aload_n 0, 1) := by decide +kernel
theorem dX0_replaced_60 : decode cX0_replaced 60 = .ok (.iload 5, 2) := by decide +kernel
theorem dX0_replaced_62 : decode cX0_replaced 62 = .ok (.iload 7, 2) := by decide +kernel
theorem dX0_replaced_64 : decode cX0_replaced 64 = .ok (.iload 4, 2) := by decide +kernel
theorem dX0_replaced_66 : decode cX0_replaced 66 = .ok (.invokevirtual 74, 3) := by decide +kernel
theorem dX0_replaced_69 : decode cX0_replaced 69 = .ok (.iinc 7 1, 3) := by decide +kernel
theorem dX0_replaced_72 : decode cX0_replaced 72 = .ok (.goto (-32), 3) := by decide +kernel
theorem dX0_replaced_75 : decode cX0_replaced 75 = .ok (.iinc 5 1, 3) := by decide +kernel
theorem dX0_replaced_78 : decode cX0_replaced 78 = .ok (.goto (-58), 3) := by decide +kernel
theorem dX0_replaced_81 : decode cX0_replaced 81 = .ok (.aload_n 0, 1) := by decide +kernel
theorem dX0_replaced_82 : decode cX0_replaced 82 = .ok (.iload_n 2, 1) := by decide +kernel
theorem dX0_replaced_83 : decode cX0_replaced 83 = .ok (.ifCond .ne 8, 3) := by decide +kernel
theorem dX0_replaced_86 : decode cX0_replaced 86 = .ok (.iload 4, 2) := by decide +kernel
theorem dX0_replaced_88 : decode cX0_replaced 88 = .ok (.goto 4, 3) := by decide +kernel
theorem dX0_replaced_91 : decode cX0_replaced 91 = .ok (.iconst 0, 1) := by decide +kernel
theorem dX0_replaced_92 : decode cX0_replaced 92 = .ok (.invokevirtual 78, 3) := by decide +kernel
theorem dX0_replaced_95 : decode cX0_replaced 95 = .ok (.areturn, 1) := by decide +kernel
theorem dX0_cutOff_0 : decode cX0_cutOff 0 = .ok (.aload_n 0, 1) := by decide +kernel
theorem dX0_cutOff_1 : decode cX0_cutOff 1 = .ok (.invokevirtual 64, 3) := by decide +kernel
theorem dX0_cutOff_4 : decode cX0_cutOff 4 = .ok (.aload_n 0, 1) := by decide +kernel
theorem dX0_cutOff_5 : decode cX0_cutOff 5 = .ok (.iconst 3, 1) := by decide +kernel
theorem dX0_cutOff_6 : decode cX0_cutOff 6 = .ok (.iconst 0, 1) := by decide +kernel
theorem dX0_cutOff_7 : decode cX0_cutOff 7 = .ok (.iconst 0, 1) := by decide +kernel
theorem dX0_cutOff_8 : decode cX0_cutOff 8 = .ok (.invokevirtual 60, 3) := by decide +kernel
theorem dX0_cutOff_11 : decode cX0_cutOff 11 = .ok (.istore_n 3, 1) := by decide +kernel
theorem dX0_cutOff_12 : decode cX0_cutOff 12 = .ok (.iconst 0, 1) := by decide +kernel
theorem dX0_cutOff_13 : decode cX0_cutOff 13 = .ok (.istore 4, 2) := by decide +kernel
theorem dX0_cutOff_15 : decode cX0_cutOff 15 = .ok (.iload 4, 2) := by decide +kernel
theorem dX0_cutOff_17 : decode cX0_cutOff 17 = .ok (.iload_n 2, 1) := by decide +kernel
theorem dX0_cutOff_18 : decode cX0_cutOff 18 = .ok (.if_icmp .ge 102, 3) := by decide +kernel
theorem dX0_cutOff_21 : decode cX0_cutOff 21 = .ok (.aload_n 0, 1) := by decide +kernel
theorem dX0_cutOff_22 : decode cX0_cutOff 22 = .ok (.getfield 39, 3) := by decide +kernel
theorem dX0_cutOff_25 : decode cX0_cutOff 25 = .ok (.aload_n 1, 1) := by decide +kernel
theorem dX0_cutOff_26 : decode cX0_cutOff 26 = .ok (.getfield 47, 3) := by decide +kernel
theorem dX0_cutOff_29 : decode cX0_cutOff 29 = .ok (.iadd, 1) := by decide +kernel
theorem dX0_cutOff_30 : decode cX0_cutOff 30 = .ok (.istore 5, 2) := by decide +kernel
theorem dX0_cutOff_32 : decode cX0_cutOff 32 = .ok (.iconst 0, 1) := by decide +kernel
theorem dX0_cutOff_33 : decode cX0_cutOff 33 = .ok (.istore 6, 2) := by decide +kernel
theorem dX0_cutOff_35 : decode cX0_cutOff 35 = .ok (.iload 6, 2) := by decide +kernel
theorem dX0_cutOff_37 : decode cX0_cutOff 37 = .ok (.aload_n 1, 1) := by decide +kernel
theorem dX0_cutOff_38 : decode cX0_cutOff 38 = .ok (.getfield 47, 3) := by decide +kernel
theorem dX0_cutOff_41 : decode cX0_cutOff 41 = .ok (.if_icmp .ge 73, 3) := by decide +kernel
theorem dX0_cutOff_44 : decode cX0_cutOff 44 = .ok (.iload 4, 2) := by decide +kernel
theorem dX0_cutOff_46 : decode cX0_cutOff 46 = .ok (.iconst 1, 1) := by decide +kernel
theorem dX0_cutOff_47 : decode cX0_cutOff 47 = .ok (.iadd, 1) := by decide +kernel
theorem dX0_cutOff_48 : decode cX0_cutOff 48 = .ok (.iload_n 2, 1) := by decide +kernel
theorem dX0_cutOff_49 : decode cX0_cutOff 49 = .ok (.if_icmp .ne 7, 3) := by decide +kernel
theorem dX0_cutOff_52 : decode cX0_cutOff 52 = .ok (.iconst 1, 1) := by decide +kernel
theorem dX0_cutOff_53 : decode cX0_cutOff 53 = .ok (.goto 4, 3) := by decide +kernel
theorem dX0_cutOff_56 : decode cX0_cutOff 56 = .ok (.iconst 0, 1) := by decide +kernel
theorem dX0_cutOff_57 : decode cX0_cutOff 57 = .ok (.istore 7, 2) := by decide +kernel
theorem dX0_cutOff_59 : decode cX0_cutOff 59 = .ok (.aload_n 0, 1) := by decide +kernel
theorem dX0_cutOff_60 : decode cX0_cutOff 60 = .ok (.aload_n 1, 1) := by decide +kernel
theorem dX0_cutOff_61 : decode cX0_cutOff 61 = .ok (.iload 6, 2) := by decide +kernel
theorem dX0_cutOff_63 : decode cX0_cutOff 63 = .ok (.invokevirtual 52, 3) := by decide +kernel
theorem dX0_cutOff_66 : decode cX0_cutOff 66 = .ok (.iload 7, 2) := by decide +kernel
theorem dX0_cutOff_68 : decode cX0_cutOff 68 = .ok (.ifCond .eq 7, 3) := by decide +kernel
theorem dX0_cutOff_71 : decode cX0_cutOff 71 = .ok (.iload_n 3, 1) := by decide +kernel
theorem dX0_cutOff_72 : decode cX0_cutOff 72 = .ok (.goto 13, 3) := by decide +kernel
theorem dX0_cutOff_75 : decode cX0_cutOff 75 = .ok (.iload 5, 2) := by decide +kernel
theorem dX0_cutOff_77 : decode cX0_cutOff 77 = .ok (.aload_n 1, 1) := by decide +kernel
theorem dX0_cutOff_78 : decode cX0_cutOff 78 = .ok (.iload 6, 2) := by decide +kernel
theorem dX0_cutOff_80 : decode cX0_cutOff 80 = .ok (.iconst 0, 1) := by decide +kernel
theorem dX0_cutOff_81 : decode cX0_cutOff 81 = .ok (.invokevirtual 56, 3) := by decide +kernel
theorem dX0_cutOff_84 : decode cX0_cutOff 84 = .ok (.iadd, 1) := by decide +kernel
theorem dX0_cutOff_85 : decode cX0_cutOff 85 = .ok (.iload 7, 2) := by decide +kernel
theorem dX0_cutOff_87 : decode cX0_cutOff 87 = .ok (.ifCond .eq 7, 3) := by decide +kernel
theorem dX0_cutOff_90 : decode cX0_cutOff 90 = .ok (.iload_n 3, 1) := by decide +kernel
theorem dX0_cutOff_91 : decode cX0_cutOff 91 = .ok (.goto 13, 3) := by decide +kernel
theorem dX0_cutOff_94 : decode cX0_cutOff 94 = .ok (.iload 5, 2) := by decide +kernel
theorem dX0_cutOff_96 : decode cX0_cutOff 96 = .ok (.aload_n 1, 1) := by decide +kernel
theorem dX0_cutOff_97 : decode cX0_cutOff 97 = .ok (.iload 6, 2) := by decide +kernel
theorem dX0_cutOff_99 : decode cX0_cutOff 99 = .ok (.iconst 1, 1) := by decide +kernel
theorem dX0_cutOff_100 : decode cX0_cutOff 100 = .ok (.invokevirtual 56, 3) := by decide +kernel
theorem dX0_cutOff_103 : decode cX0_cutOff 103 = .ok (.iadd, 1) := by decide +kernel
theorem dX0_cutOff_104 : decode cX0_cutOff 104 = .ok (.invokevirtual 60, 3) := by decide +kernel
theorem dX0_cutOff_107 : decode cX0_cutOff 107 = .ok (.pop, 1) := by decide +kernel
theorem dX0_cutOff_108 : decode cX0_cutOff 108 = .ok (.iinc 6 1, 3) := by decide +kernel
theorem dX0_cutOff_111 : decode cX0_cutOff 111 = .ok (.goto (-76), 3) := by decide +kernel
theorem dX0_cutOff_114 : decode cX0_cutOff 114 = .ok (.iinc 4 1, 3) := by decide +kernel
theorem dX0_cutOff_117 : decode cX0_cutOff 117 = .ok (.goto (-102), 3) := by decide +kernel
theorem dX0_cutOff_120 : decode cX0_cutOff 120 = .ok (.aload_n 0, 1) := by decide +kernel
theorem dX0_cutOff_121 : decode cX0_cutOff 121 = .ok (.iload_n 2, 1) := by decide +kernel
theorem dX0_cutOff_122 : decode cX0_cutOff 122 = .ok (.ifCond .ne 7, 3) := by decide +kernel
theorem dX0_cutOff_125 : decode cX0_cutOff 125 = .ok (.iload_n 3, 1) := by decide +kernel
theorem dX0_cutOff_126 : decode cX0_cutOff 126 = .ok (.goto 6, 3) := by decide +kernel
theorem dX0_cutOff_129 : decode cX0_cutOff 129 = .ok (.iload_n 3, 1) := by decide +kernel
theorem dX0_cutOff_130 : decode cX0_cutOff 130 = .ok (.iconst 1, 1) := by decide +kernel
theorem dX0_cutOff_131 : decode cX0_cutOff 131 = .ok (.iadd, 1) := by decide +kernel
theorem dX0_cutOff_132 : decode cX0_cutOff 132 = .ok (.invokevirtual 78, 3) := by decide +kernel
theorem dX0_cutOff_135 : decode cX0_cutOff 135 = .ok (.areturn, 1) := by decide +kernel
theorem dX0_turned_0 : decode cX0_turned 0 = .ok (.aload_n 0, 1) := by decide +kernel
theorem dX0_turned_1 : decode cX0_turned 1 = .ok (.invokevirtual 64, 3) := by decide +kernel
theorem dX0_turned_4 : decode cX0_turned 4 = .ok (.iconst 0, 1) := by decide +kernel
theorem dX0_turned_5 : decode cX0_turned 5 = .ok (.istore_n 3, 1) := by decide +kernel
theorem dX0_turned_6 : decode cX0_turned 6 = .ok (.iload_n 3, 1) := by decide +kernel
theorem dX0_turned_7 : decode cX0_turned 7 = .ok (.aload_n 1, 1) := by decide +kernel
theorem dX0_turned_8 : decode cX0_turned 8 = .ok (.getfield 47, 3) := by decide +kernel
theorem dX0_turned_11 : decode cX0_turned 11 = .ok (.if_icmp .ge 61, 3) := by decide +kernel
theorem dX0_turned_14 : decode cX0_turned 14 = .ok (.aload_n 1, 1) := by decide +kernel
theorem dX0_turned_15 : decode cX0_turned 15 = .ok (.iload_n 3, 1) := by decide +kernel
theorem dX0_turned_16 : decode cX0_turned 16 = .ok (.iconst 0, 1) := by decide +kernel
theorem dX0_turned_17 : decode cX0_turned 17 = .ok (.invokevirtual 56, 3) := by decide +kernel
theorem dX0_turned_20 : decode cX0_turned 20 = .ok (.istore 4, 2) := by decide +kernel
theorem dX0_turned_22 : decode cX0_turned 22 = .ok (.aload_n 1, 1) := by decide +kernel
theorem dX0_turned_23 : decode cX0_turned 23 = .ok (.iload_n 3, 1) := by decide +kernel
theorem dX0_turned_24 : decode cX0_turned 24 = .ok (.iconst 1, 1) := by decide +kernel
theorem dX0_turned_25 : decode cX0_turned 25 = .ok (.invokevirtual 56, 3) := by decide +kernel
theorem dX0_turned_28 : decode cX0_turned 28 = .ok (.istore 5, 2) := by decide +kernel
theorem dX0_turned_30 : decode cX0_turned 30 = .ok (.aload_n 1, 1) := by decide +kernel
theorem dX0_turned_31 : decode cX0_turned 31 = .ok (.iload_n 3, 1) := by decide +kernel
theorem dX0_turned_32 : decode cX0_turned 32 = .ok (.invokevirtual 52, 3) := by decide +kernel
theorem dX0_turned_35 : decode cX0_turned 35 = .ok (.iload_n 2, 1) := by decide +kernel
theorem dX0_turned_36 : decode cX0_turned 36 = .ok (.if_icmp .ne 16, 3) := by decide +kernel
theorem dX0_turned_39 : decode cX0_turned 39 = .ok (.aload_n 0, 1) := by decide +kernel
theorem dX0_turned_40 : decode cX0_turned 40 = .ok (.iload_n 2, 1) := by decide +kernel
theorem dX0_turned_41 : decode cX0_turned 41 = .ok (.iload 5, 2) := by decide +kernel
theorem dX0_turned_43 : decode cX0_turned 43 = .ok (.iload 4, 2) := by decide +kernel
theorem dX0_turned_45 : decode cX0_turned 45 = .ok (.invokevirtual 60, 3) := by decide +kernel
theorem dX0_turned_48 : decode cX0_turned 48 = .ok (.pop, 1) := by decide +kernel
theorem dX0_turned_49 : decode cX0_turned 49 = .ok (.goto 17, 3) := by decide +kernel
theorem dX0_turned_52 : decode cX0_turned 52 = .ok (.aload_n 0, 1) := by decide +kernel
theorem dX0_turned_53 : decode cX0_turned 53 = .ok (.aload_n 1, 1) := by decide +kernel
theorem dX0_turned_54 : decode cX0_turned 54 = .ok (.iload_n 3, 1) := by decide +kernel
theorem dX0_turned_55 : decode cX0_turned 55 = .ok (.invokevirtual 52, 3) := by decide +kernel
theorem dX0_turned_58 : decode cX0_turned 58 = .ok (.iload 4, 2) := by decide +kernel
theorem dX0_turned_60 : decode cX0_turned 60 = .ok (.iload 5, 2) := by decide +kernel
theorem dX0_turned_62 : decode cX0_turned 62 = .ok (.invokevirtual 60, 3) := by decide +kernel
theorem dX0_turned_65 : decode cX0_turned 65 = .ok (.pop, 1) := by decide +kernel
theorem dX0_turned_66 : decode cX0_turned 66 = .ok (.iinc 3 1, 3) := by decide +kernel
theorem dX0_turned_69 : decode cX0_turned 69 = .ok (.goto (-63), 3) := by decide +kernel
theorem dX0_turned_72 : decode cX0_turned 72 = .ok (.aload_n 0, 1) := by decide +kernel
theorem dX0_turned_73 : decode cX0_turned 73 = .ok (.iconst 0, 1) := by decide +kernel
theorem dX0_turned_74 : decode cX0_turned 74 = .ok (.invokevirtual 78, 3) := by decide +kernel
theorem dX0_turned_77 : decode cX0_turned 77 = .ok (.areturn, 1) := by decide +kernel
theorem dX0_drawn_0 : decode cX0_drawn 0 = .ok (.aload_n 0, 1) := by decide +kernel
theorem dX0_drawn_1 : decode cX0_drawn 1 = .ok (.invokevirtual 64, 3) := by decide +kernel
theorem dX0_drawn_4 : decode cX0_drawn 4 = .ok (.iload_n 2, 1) := by decide +kernel
theorem dX0_drawn_5 : decode cX0_drawn 5 = .ok (.iconst 1, 1) := by decide +kernel
theorem dX0_drawn_6 : decode cX0_drawn 6 = .ok (.if_icmp .ge 5, 3) := by decide +kernel
theorem dX0_drawn_9 : decode cX0_drawn 9 = .ok (.aconst_null, 1) := by decide +kernel
theorem dX0_drawn_10 : decode cX0_drawn 10 = .ok (.areturn, 1) := by decide +kernel
theorem dX0_drawn_11 : decode cX0_drawn 11 = .ok (.iload_n 1, 1) := by decide +kernel
theorem dX0_drawn_12 : decode cX0_drawn 12 = .ok (.i2l, 1) := by decide +kernel
theorem dX0_drawn_13 : decode cX0_drawn 13 = .ok (.lstore_n 3, 1) := by decide +kernel
theorem dX0_drawn_14 : decode cX0_drawn 14 = .ok (.iconst 0, 1) := by decide +kernel
theorem dX0_drawn_15 : decode cX0_drawn 15 = .ok (.istore 5, 2) := by decide +kernel
theorem dX0_drawn_17 : decode cX0_drawn 17 = .ok (.iload 5, 2) := by decide +kernel
theorem dX0_drawn_19 : decode cX0_drawn 19 = .ok (.iload_n 2, 1) := by decide +kernel
theorem dX0_drawn_20 : decode cX0_drawn 20 = .ok (.if_icmp .ge 56, 3) := by decide +kernel
theorem dX0_drawn_23 : decode cX0_drawn 23 = .ok (.lload_n 3, 1) := by decide +kernel
theorem dX0_drawn_24 : decode cX0_drawn 24 = .ok (.ldc2_w 82, 3) := by decide +kernel
theorem dX0_drawn_27 : decode cX0_drawn 27 = .ok (.lmul, 1) := by decide +kernel
theorem dX0_drawn_28 : decode cX0_drawn 28 = .ok (.ldc2_w 84, 3) := by decide +kernel
theorem dX0_drawn_31 : decode cX0_drawn 31 = .ok (.ladd, 1) := by decide +kernel
theorem dX0_drawn_32 : decode cX0_drawn 32 = .ok (.ldc2_w 86, 3) := by decide +kernel
theorem dX0_drawn_35 : decode cX0_drawn 35 = .ok (.lrem, 1) := by decide +kernel
theorem dX0_drawn_36 : decode cX0_drawn 36 = .ok (.lstore_n 3, 1) := by decide +kernel
theorem dX0_drawn_37 : decode cX0_drawn 37 = .ok (.aload_n 0, 1) := by decide +kernel
theorem dX0_drawn_38 : decode cX0_drawn 38 = .ok (.lload_n 3, 1) := by decide +kernel
theorem dX0_drawn_39 : decode cX0_drawn 39 = .ok (.ldc2_w 88, 3) := by decide +kernel
theorem dX0_drawn_42 : decode cX0_drawn 42 = .ok (.ldiv, 1) := by decide +kernel
theorem dX0_drawn_43 : decode cX0_drawn 43 = .ok (.ldc2_w 90, 3) := by decide +kernel
theorem dX0_drawn_46 : decode cX0_drawn 46 = .ok (.lrem, 1) := by decide +kernel
theorem dX0_drawn_47 : decode cX0_drawn 47 = .ok (.l2i, 1) := by decide +kernel
theorem dX0_drawn_48 : decode cX0_drawn 48 = .ok (.lload_n 3, 1) := by decide +kernel
theorem dX0_drawn_49 : decode cX0_drawn 49 = .ok (.ldc2_w 92, 3) := by decide +kernel
theorem dX0_drawn_52 : decode cX0_drawn 52 = .ok (.ldiv, 1) := by decide +kernel
theorem dX0_drawn_53 : decode cX0_drawn 53 = .ok (.iload_n 2, 1) := by decide +kernel
theorem dX0_drawn_54 : decode cX0_drawn 54 = .ok (.i2l, 1) := by decide +kernel
theorem dX0_drawn_55 : decode cX0_drawn 55 = .ok (.lrem, 1) := by decide +kernel
theorem dX0_drawn_56 : decode cX0_drawn 56 = .ok (.l2i, 1) := by decide +kernel
theorem dX0_drawn_57 : decode cX0_drawn 57 = .ok (.lload_n 3, 1) := by decide +kernel
theorem dX0_drawn_58 : decode cX0_drawn 58 = .ok (.ldc2_w 94, 3) := by decide +kernel
theorem dX0_drawn_61 : decode cX0_drawn 61 = .ok (.ldiv, 1) := by decide +kernel
theorem dX0_drawn_62 : decode cX0_drawn 62 = .ok (.iload_n 2, 1) := by decide +kernel
theorem dX0_drawn_63 : decode cX0_drawn 63 = .ok (.i2l, 1) := by decide +kernel
theorem dX0_drawn_64 : decode cX0_drawn 64 = .ok (.lrem, 1) := by decide +kernel
theorem dX0_drawn_65 : decode cX0_drawn 65 = .ok (.l2i, 1) := by decide +kernel
theorem dX0_drawn_66 : decode cX0_drawn 66 = .ok (.invokevirtual 60, 3) := by decide +kernel
theorem dX0_drawn_69 : decode cX0_drawn 69 = .ok (.pop, 1) := by decide +kernel
theorem dX0_drawn_70 : decode cX0_drawn 70 = .ok (.iinc 5 1, 3) := by decide +kernel
theorem dX0_drawn_73 : decode cX0_drawn 73 = .ok (.goto (-56), 3) := by decide +kernel
theorem dX0_drawn_76 : decode cX0_drawn 76 = .ok (.aload_n 0, 1) := by decide +kernel
theorem dX0_drawn_77 : decode cX0_drawn 77 = .ok (.iconst 0, 1) := by decide +kernel
theorem dX0_drawn_78 : decode cX0_drawn 78 = .ok (.invokevirtual 78, 3) := by decide +kernel
theorem dX0_drawn_81 : decode cX0_drawn 81 = .ok (.areturn, 1) := by decide +kernel
theorem dX0_smallest_0 : decode cX0_smallest 0 = .ok (.iload_n 1, 1) := by decide +kernel
theorem dX0_smallest_1 : decode cX0_smallest 1 = .ok (.ifCond .lt 11, 3) := by decide +kernel
theorem dX0_smallest_4 : decode cX0_smallest 4 = .ok (.iload_n 1, 1) := by decide +kernel
theorem dX0_smallest_5 : decode cX0_smallest 5 = .ok (.aload_n 0, 1) := by decide +kernel
theorem dX0_smallest_6 : decode cX0_smallest 6 = .ok (.getfield 39, 3) := by decide +kernel
theorem dX0_smallest_9 : decode cX0_smallest 9 = .ok (.if_icmp .lt 5, 3) := by decide +kernel
theorem dX0_smallest_12 : decode cX0_smallest 12 = .ok (.aconst_null, 1) := by decide +kernel
theorem dX0_smallest_13 : decode cX0_smallest 13 = .ok (.areturn, 1) := by decide +kernel
theorem dX0_smallest_14 : decode cX0_smallest 14 = .ok (.aload_n 0, 1) := by decide +kernel
theorem dX0_smallest_15 : decode cX0_smallest 15 = .ok (.iload_n 1, 1) := by decide +kernel
theorem dX0_smallest_16 : decode cX0_smallest 16 = .ok (.invokevirtual 96, 3) := by decide +kernel
theorem dX0_smallest_19 : decode cX0_smallest 19 = .ok (.istore_n 2, 1) := by decide +kernel
theorem dX0_smallest_20 : decode cX0_smallest 20 = .ok (.iconst 0, 1) := by decide +kernel
theorem dX0_smallest_21 : decode cX0_smallest 21 = .ok (.istore_n 3, 1) := by decide +kernel
theorem dX0_smallest_22 : decode cX0_smallest 22 = .ok (.iload_n 3, 1) := by decide +kernel
theorem dX0_smallest_23 : decode cX0_smallest 23 = .ok (.iload_n 2, 1) := by decide +kernel
theorem dX0_smallest_24 : decode cX0_smallest 24 = .ok (.if_icmp .ge 21, 3) := by decide +kernel
theorem dX0_smallest_27 : decode cX0_smallest 27 = .ok (.aload_n 0, 1) := by decide +kernel
theorem dX0_smallest_28 : decode cX0_smallest 28 = .ok (.getfield 27, 3) := by decide +kernel
theorem dX0_smallest_31 : decode cX0_smallest 31 = .ok (.aload_n 0, 1) := by decide +kernel
theorem dX0_smallest_32 : decode cX0_smallest 32 = .ok (.getfield 21, 3) := by decide +kernel
theorem dX0_smallest_35 : decode cX0_smallest 35 = .ok (.iload_n 3, 1) := by decide +kernel
theorem dX0_smallest_36 : decode cX0_smallest 36 = .ok (.iaload, 1) := by decide +kernel
theorem dX0_smallest_37 : decode cX0_smallest 37 = .ok (.iconst 0, 1) := by decide +kernel
theorem dX0_smallest_38 : decode cX0_smallest 38 = .ok (.iastore, 1) := by decide +kernel
theorem dX0_smallest_39 : decode cX0_smallest 39 = .ok (.iinc 3 1, 3) := by decide +kernel
theorem dX0_smallest_42 : decode cX0_smallest 42 = .ok (.goto (-20), 3) := by decide +kernel
theorem dX0_smallest_45 : decode cX0_smallest 45 = .ok (.iconst 1, 1) := by decide +kernel
theorem dX0_smallest_46 : decode cX0_smallest 46 = .ok (.istore_n 3, 1) := by decide +kernel
theorem dX0_smallest_47 : decode cX0_smallest 47 = .ok (.iconst 0, 1) := by decide +kernel
theorem dX0_smallest_48 : decode cX0_smallest 48 = .ok (.istore 4, 2) := by decide +kernel
theorem dX0_smallest_50 : decode cX0_smallest 50 = .ok (.iload 4, 2) := by decide +kernel
theorem dX0_smallest_52 : decode cX0_smallest 52 = .ok (.bipush 40, 2) := by decide +kernel
theorem dX0_smallest_54 : decode cX0_smallest 54 = .ok (.if_icmp .gt 37, 3) := by decide +kernel
theorem dX0_smallest_57 : decode cX0_smallest 57 = .ok (.aload_n 0, 1) := by decide +kernel
theorem dX0_smallest_58 : decode cX0_smallest 58 = .ok (.iload_n 2, 1) := by decide +kernel
theorem dX0_smallest_59 : decode cX0_smallest 59 = .ok (.invokevirtual 99, 3) := by decide +kernel
theorem dX0_smallest_62 : decode cX0_smallest 62 = .ok (.istore 5, 2) := by decide +kernel
theorem dX0_smallest_64 : decode cX0_smallest 64 = .ok (.iload 5, 2) := by decide +kernel
theorem dX0_smallest_66 : decode cX0_smallest 66 = .ok (.bipush (-4), 2) := by decide +kernel
theorem dX0_smallest_68 : decode cX0_smallest 68 = .ok (.if_icmp .ne 5, 3) := by decide +kernel
theorem dX0_smallest_71 : decode cX0_smallest 71 = .ok (.aconst_null, 1) := by decide +kernel
theorem dX0_smallest_72 : decode cX0_smallest 72 = .ok (.areturn, 1) := by decide +kernel
theorem dX0_smallest_73 : decode cX0_smallest 73 = .ok (.iload 5, 2) := by decide +kernel
theorem dX0_smallest_75 : decode cX0_smallest 75 = .ok (.iload_n 3, 1) := by decide +kernel
theorem dX0_smallest_76 : decode cX0_smallest 76 = .ok (.if_icmp .ne 6, 3) := by decide +kernel
theorem dX0_smallest_79 : decode cX0_smallest 79 = .ok (.goto 12, 3) := by decide +kernel
theorem dX0_smallest_82 : decode cX0_smallest 82 = .ok (.iload 5, 2) := by decide +kernel
theorem dX0_smallest_84 : decode cX0_smallest 84 = .ok (.istore_n 3, 1) := by decide +kernel
theorem dX0_smallest_85 : decode cX0_smallest 85 = .ok (.iinc 4 1, 3) := by decide +kernel
theorem dX0_smallest_88 : decode cX0_smallest 88 = .ok (.goto (-38), 3) := by decide +kernel
theorem dX0_smallest_91 : decode cX0_smallest 91 = .ok (.aload_n 0, 1) := by decide +kernel
theorem dX0_smallest_92 : decode cX0_smallest 92 = .ok (.iload_n 2, 1) := by decide +kernel
theorem dX0_smallest_93 : decode cX0_smallest 93 = .ok (.iload_n 3, 1) := by decide +kernel
theorem dX0_smallest_94 : decode cX0_smallest 94 = .ok (.invokevirtual 102, 3) := by decide +kernel
theorem dX0_smallest_97 : decode cX0_smallest 97 = .ok (.areturn, 1) := by decide +kernel
theorem dX0_reachFrom_0 : decode cX0_reachFrom 0 = .ok (.aload_n 0, 1) := by decide +kernel
theorem dX0_reachFrom_1 : decode cX0_reachFrom 1 = .ok (.getfield 24, 3) := by decide +kernel
theorem dX0_reachFrom_4 : decode cX0_reachFrom 4 = .ok (.aload_n 0, 1) := by decide +kernel
theorem dX0_reachFrom_5 : decode cX0_reachFrom 5 = .ok (.getfield 39, 3) := by decide +kernel
theorem dX0_reachFrom_8 : decode cX0_reachFrom 8 = .ok (.iconst 0, 1) := by decide +kernel
theorem dX0_reachFrom_9 : decode cX0_reachFrom 9 = .ok (.invokestatic 106, 3) := by decide +kernel
theorem dX0_reachFrom_12 : decode cX0_reachFrom 12 = .ok (.aload_n 0, 1) := by decide +kernel
theorem dX0_reachFrom_13 : decode cX0_reachFrom 13 = .ok (.getfield 21, 3) := by decide +kernel
theorem dX0_reachFrom_16 : decode cX0_reachFrom 16 = .ok (.iconst 0, 1) := by decide +kernel
theorem dX0_reachFrom_17 : decode cX0_reachFrom 17 = .ok (.iload_n 1, 1) := by decide +kernel
theorem dX0_reachFrom_18 : decode cX0_reachFrom 18 = .ok (.iastore, 1) := by decide +kernel
theorem dX0_reachFrom_19 : decode cX0_reachFrom 19 = .ok (.aload_n 0, 1) := by decide +kernel
theorem dX0_reachFrom_20 : decode cX0_reachFrom 20 = .ok (.getfield 24, 3) := by decide +kernel
theorem dX0_reachFrom_23 : decode cX0_reachFrom 23 = .ok (.iload_n 1, 1) := by decide +kernel
theorem dX0_reachFrom_24 : decode cX0_reachFrom 24 = .ok (.iconst 1, 1) := by decide +kernel
theorem dX0_reachFrom_25 : decode cX0_reachFrom 25 = .ok (.iastore, 1) := by decide +kernel
theorem dX0_reachFrom_26 : decode cX0_reachFrom 26 = .ok (.iconst 1, 1) := by decide +kernel
theorem dX0_reachFrom_27 : decode cX0_reachFrom 27 = .ok (.istore_n 2, 1) := by decide +kernel
theorem dX0_reachFrom_28 : decode cX0_reachFrom 28 = .ok (.iconst 0, 1) := by decide +kernel
theorem dX0_reachFrom_29 : decode cX0_reachFrom 29 = .ok (.istore_n 3, 1) := by decide +kernel
theorem dX0_reachFrom_30 : decode cX0_reachFrom 30 = .ok (.iload_n 3, 1) := by decide +kernel
theorem dX0_reachFrom_31 : decode cX0_reachFrom 31 = .ok (.iload_n 2, 1) := by decide +kernel
theorem dX0_reachFrom_32 : decode cX0_reachFrom 32 = .ok (.if_icmp .ge 91, 3) := by decide +kernel
theorem dX0_reachFrom_35 : decode cX0_reachFrom 35 = .ok (.aload_n 0, 1) := by decide +kernel
theorem dX0_reachFrom_36 : decode cX0_reachFrom 36 = .ok (.getfield 21, 3) := by decide +kernel
theorem dX0_reachFrom_39 : decode cX0_reachFrom 39 = .ok (.iload_n 3, 1) := by decide +kernel
theorem dX0_reachFrom_40 : decode cX0_reachFrom 40 = .ok (.iaload, 1) := by decide +kernel
theorem dX0_reachFrom_41 : decode cX0_reachFrom 41 = .ok (.istore 4, 2) := by decide +kernel
theorem dX0_reachFrom_43 : decode cX0_reachFrom 43 = .ok (.aload_n 0, 1) := by decide +kernel
theorem dX0_reachFrom_44 : decode cX0_reachFrom 44 = .ok (.getfield 9, 3) := by decide +kernel
theorem dX0_reachFrom_47 : decode cX0_reachFrom 47 = .ok (.iload 4, 2) := by decide +kernel
theorem dX0_reachFrom_49 : decode cX0_reachFrom 49 = .ok (.iaload, 1) := by decide +kernel
theorem dX0_reachFrom_50 : decode cX0_reachFrom 50 = .ok (.invokestatic 110, 3) := by decide +kernel
theorem dX0_reachFrom_53 : decode cX0_reachFrom 53 = .ok (.istore 5, 2) := by decide +kernel
theorem dX0_reachFrom_55 : decode cX0_reachFrom 55 = .ok (.iconst 0, 1) := by decide +kernel
theorem dX0_reachFrom_56 : decode cX0_reachFrom 56 = .ok (.istore 6, 2) := by decide +kernel
theorem dX0_reachFrom_58 : decode cX0_reachFrom 58 = .ok (.iload 6, 2) := by decide +kernel
theorem dX0_reachFrom_60 : decode cX0_reachFrom 60 = .ok (.iload 5, 2) := by decide +kernel
theorem dX0_reachFrom_62 : decode cX0_reachFrom 62 = .ok (.if_icmp .ge 55, 3) := by decide +kernel
theorem dX0_reachFrom_65 : decode cX0_reachFrom 65 = .ok (.aload_n 0, 1) := by decide +kernel
theorem dX0_reachFrom_66 : decode cX0_reachFrom 66 = .ok (.iload 4, 2) := by decide +kernel
theorem dX0_reachFrom_68 : decode cX0_reachFrom 68 = .ok (.iload 6, 2) := by decide +kernel
theorem dX0_reachFrom_70 : decode cX0_reachFrom 70 = .ok (.invokevirtual 113, 3) := by decide +kernel
theorem dX0_reachFrom_73 : decode cX0_reachFrom 73 = .ok (.istore 7, 2) := by decide +kernel
theorem dX0_reachFrom_75 : decode cX0_reachFrom 75 = .ok (.aload_n 0, 1) := by decide +kernel
theorem dX0_reachFrom_76 : decode cX0_reachFrom 76 = .ok (.getfield 24, 3) := by decide +kernel
theorem dX0_reachFrom_79 : decode cX0_reachFrom 79 = .ok (.iload 7, 2) := by decide +kernel
theorem dX0_reachFrom_81 : decode cX0_reachFrom 81 = .ok (.iaload, 1) := by decide +kernel
theorem dX0_reachFrom_82 : decode cX0_reachFrom 82 = .ok (.ifCond .ne 29, 3) := by decide +kernel
theorem dX0_reachFrom_85 : decode cX0_reachFrom 85 = .ok (.iload_n 2, 1) := by decide +kernel
theorem dX0_reachFrom_86 : decode cX0_reachFrom 86 = .ok (.sipush 3280, 3) := by decide +kernel
theorem dX0_reachFrom_89 : decode cX0_reachFrom 89 = .ok (.if_icmp .ge 22, 3) := by decide +kernel
theorem dX0_reachFrom_92 : decode cX0_reachFrom 92 = .ok (.aload_n 0, 1) := by decide +kernel
theorem dX0_reachFrom_93 : decode cX0_reachFrom 93 = .ok (.getfield 24, 3) := by decide +kernel
theorem dX0_reachFrom_96 : decode cX0_reachFrom 96 = .ok (.iload 7, 2) := by decide +kernel
theorem dX0_reachFrom_98 : decode cX0_reachFrom 98 = .ok (.iconst 1, 1) := by decide +kernel
theorem dX0_reachFrom_99 : decode cX0_reachFrom 99 = .ok (.iastore, 1) := by decide +kernel
theorem dX0_reachFrom_100 : decode cX0_reachFrom 100 = .ok (.aload_n 0, 1) := by decide +kernel
theorem dX0_reachFrom_101 : decode cX0_reachFrom 101 = .ok (.getfield 21, 3) := by decide +kernel
theorem dX0_reachFrom_104 : decode cX0_reachFrom 104 = .ok (.iload_n 2, 1) := by decide +kernel
theorem dX0_reachFrom_105 : decode cX0_reachFrom 105 = .ok (.iload 7, 2) := by decide +kernel
theorem dX0_reachFrom_107 : decode cX0_reachFrom 107 = .ok (.iastore, 1) := by decide +kernel
theorem dX0_reachFrom_108 : decode cX0_reachFrom 108 = .ok (.iinc 2 1, 3) := by decide +kernel
theorem dX0_reachFrom_111 : decode cX0_reachFrom 111 = .ok (.iinc 6 1, 3) := by decide +kernel
theorem dX0_reachFrom_114 : decode cX0_reachFrom 114 = .ok (.goto (-56), 3) := by decide +kernel
theorem dX0_reachFrom_117 : decode cX0_reachFrom 117 = .ok (.iinc 3 1, 3) := by decide +kernel
theorem dX0_reachFrom_120 : decode cX0_reachFrom 120 = .ok (.goto (-90), 3) := by decide +kernel
theorem dX0_reachFrom_123 : decode cX0_reachFrom 123 = .ok (.iload_n 2, 1) := by decide +kernel
theorem dX0_reachFrom_124 : decode cX0_reachFrom 124 = .ok (.ireturn, 1) := by decide +kernel
theorem dX0_splitGroups_0 : decode cX0_splitGroups 0 = .ok (.iconst 0, 1) := by decide +kernel
theorem dX0_splitGroups_1 : decode cX0_splitGroups 1 = .ok (.istore_n 2, 1) := by decide +kernel
theorem dX0_splitGroups_2 : decode cX0_splitGroups 2 = .ok (.iconst 0, 1) := by decide +kernel
theorem dX0_splitGroups_3 : decode cX0_splitGroups 3 = .ok (.istore_n 3, 1) := by decide +kernel
theorem dX0_splitGroups_4 : decode cX0_splitGroups 4 = .ok (.iconst 0, 1) := by decide +kernel
theorem dX0_splitGroups_5 : decode cX0_splitGroups 5 = .ok (.istore 4, 2) := by decide +kernel
theorem dX0_splitGroups_7 : decode cX0_splitGroups 7 = .ok (.iload 4, 2) := by decide +kernel
theorem dX0_splitGroups_9 : decode cX0_splitGroups 9 = .ok (.iload_n 1, 1) := by decide +kernel
theorem dX0_splitGroups_10 : decode cX0_splitGroups 10 = .ok (.if_icmp .ge 85, 3) := by decide +kernel
theorem dX0_splitGroups_13 : decode cX0_splitGroups 13 = .ok (.iload_n 3, 1) := by decide +kernel
theorem dX0_splitGroups_14 : decode cX0_splitGroups 14 = .ok (.ifCond .ne 81, 3) := by decide +kernel
theorem dX0_splitGroups_17 : decode cX0_splitGroups 17 = .ok (.aload_n 0, 1) := by decide +kernel
theorem dX0_splitGroups_18 : decode cX0_splitGroups 18 = .ok (.getfield 21, 3) := by decide +kernel
theorem dX0_splitGroups_21 : decode cX0_splitGroups 21 = .ok (.iload 4, 2) := by decide +kernel
theorem dX0_splitGroups_23 : decode cX0_splitGroups 23 = .ok (.iaload, 1) := by decide +kernel
theorem dX0_splitGroups_24 : decode cX0_splitGroups 24 = .ok (.istore 5, 2) := by decide +kernel
theorem dX0_splitGroups_26 : decode cX0_splitGroups 26 = .ok (.aload_n 0, 1) := by decide +kernel
theorem dX0_splitGroups_27 : decode cX0_splitGroups 27 = .ok (.iload 5, 2) := by decide +kernel
theorem dX0_splitGroups_29 : decode cX0_splitGroups 29 = .ok (.invokevirtual 116, 3) := by decide +kernel
theorem dX0_splitGroups_32 : decode cX0_splitGroups 32 = .ok (.istore 6, 2) := by decide +kernel
theorem dX0_splitGroups_34 : decode cX0_splitGroups 34 = .ok (.aload_n 0, 1) := by decide +kernel
theorem dX0_splitGroups_35 : decode cX0_splitGroups 35 = .ok (.getfield 33, 3) := by decide +kernel
theorem dX0_splitGroups_38 : decode cX0_splitGroups 38 = .ok (.iload 6, 2) := by decide +kernel
theorem dX0_splitGroups_40 : decode cX0_splitGroups 40 = .ok (.iaload, 1) := by decide +kernel
theorem dX0_splitGroups_41 : decode cX0_splitGroups 41 = .ok (.iconst (-1), 1) := by decide +kernel
theorem dX0_splitGroups_42 : decode cX0_splitGroups 42 = .ok (.if_icmp .ne 33, 3) := by decide +kernel
theorem dX0_splitGroups_45 : decode cX0_splitGroups 45 = .ok (.iload_n 2, 1) := by decide +kernel
theorem dX0_splitGroups_46 : decode cX0_splitGroups 46 = .ok (.bipush 40, 2) := by decide +kernel
theorem dX0_splitGroups_48 : decode cX0_splitGroups 48 = .ok (.if_icmp .ge 25, 3) := by decide +kernel
theorem dX0_splitGroups_51 : decode cX0_splitGroups 51 = .ok (.aload_n 0, 1) := by decide +kernel
theorem dX0_splitGroups_52 : decode cX0_splitGroups 52 = .ok (.getfield 33, 3) := by decide +kernel
theorem dX0_splitGroups_55 : decode cX0_splitGroups 55 = .ok (.iload 6, 2) := by decide +kernel
theorem dX0_splitGroups_57 : decode cX0_splitGroups 57 = .ok (.iload_n 2, 1) := by decide +kernel
theorem dX0_splitGroups_58 : decode cX0_splitGroups 58 = .ok (.iastore, 1) := by decide +kernel
theorem dX0_splitGroups_59 : decode cX0_splitGroups 59 = .ok (.aload_n 0, 1) := by decide +kernel
theorem dX0_splitGroups_60 : decode cX0_splitGroups 60 = .ok (.getfield 36, 3) := by decide +kernel
theorem dX0_splitGroups_63 : decode cX0_splitGroups 63 = .ok (.iload_n 2, 1) := by decide +kernel
theorem dX0_splitGroups_64 : decode cX0_splitGroups 64 = .ok (.iload 6, 2) := by decide +kernel
theorem dX0_splitGroups_66 : decode cX0_splitGroups 66 = .ok (.iastore, 1) := by decide +kernel
theorem dX0_splitGroups_67 : decode cX0_splitGroups 67 = .ok (.iinc 2 1, 3) := by decide +kernel
theorem dX0_splitGroups_70 : decode cX0_splitGroups 70 = .ok (.goto 5, 3) := by decide +kernel
theorem dX0_splitGroups_73 : decode cX0_splitGroups 73 = .ok (.iconst 1, 1) := by decide +kernel
theorem dX0_splitGroups_74 : decode cX0_splitGroups 74 = .ok (.istore_n 3, 1) := by decide +kernel
theorem dX0_splitGroups_75 : decode cX0_splitGroups 75 = .ok (.aload_n 0, 1) := by decide +kernel
theorem dX0_splitGroups_76 : decode cX0_splitGroups 76 = .ok (.getfield 30, 3) := by decide +kernel
theorem dX0_splitGroups_79 : decode cX0_splitGroups 79 = .ok (.iload 5, 2) := by decide +kernel
theorem dX0_splitGroups_81 : decode cX0_splitGroups 81 = .ok (.aload_n 0, 1) := by decide +kernel
theorem dX0_splitGroups_82 : decode cX0_splitGroups 82 = .ok (.getfield 33, 3) := by decide +kernel
theorem dX0_splitGroups_85 : decode cX0_splitGroups 85 = .ok (.iload 6, 2) := by decide +kernel
theorem dX0_splitGroups_87 : decode cX0_splitGroups 87 = .ok (.iaload, 1) := by decide +kernel
theorem dX0_splitGroups_88 : decode cX0_splitGroups 88 = .ok (.iastore, 1) := by decide +kernel
theorem dX0_splitGroups_89 : decode cX0_splitGroups 89 = .ok (.iinc 4 1, 3) := by decide +kernel
theorem dX0_splitGroups_92 : decode cX0_splitGroups 92 = .ok (.goto (-85), 3) := by decide +kernel
theorem dX0_splitGroups_95 : decode cX0_splitGroups 95 = .ok (.iconst 0, 1) := by decide +kernel
theorem dX0_splitGroups_96 : decode cX0_splitGroups 96 = .ok (.istore 4, 2) := by decide +kernel
theorem dX0_splitGroups_98 : decode cX0_splitGroups 98 = .ok (.iload 4, 2) := by decide +kernel
theorem dX0_splitGroups_100 : decode cX0_splitGroups 100 = .ok (.iload_n 2, 1) := by decide +kernel
theorem dX0_splitGroups_101 : decode cX0_splitGroups 101 = .ok (.if_icmp .ge 22, 3) := by decide +kernel
theorem dX0_splitGroups_104 : decode cX0_splitGroups 104 = .ok (.aload_n 0, 1) := by decide +kernel
theorem dX0_splitGroups_105 : decode cX0_splitGroups 105 = .ok (.getfield 33, 3) := by decide +kernel
theorem dX0_splitGroups_108 : decode cX0_splitGroups 108 = .ok (.aload_n 0, 1) := by decide +kernel
theorem dX0_splitGroups_109 : decode cX0_splitGroups 109 = .ok (.getfield 36, 3) := by decide +kernel
theorem dX0_splitGroups_112 : decode cX0_splitGroups 112 = .ok (.iload 4, 2) := by decide +kernel
theorem dX0_splitGroups_114 : decode cX0_splitGroups 114 = .ok (.iaload, 1) := by decide +kernel
theorem dX0_splitGroups_115 : decode cX0_splitGroups 115 = .ok (.iconst (-1), 1) := by decide +kernel
theorem dX0_splitGroups_116 : decode cX0_splitGroups 116 = .ok (.iastore, 1) := by decide +kernel
theorem dX0_splitGroups_117 : decode cX0_splitGroups 117 = .ok (.iinc 4 1, 3) := by decide +kernel
theorem dX0_splitGroups_120 : decode cX0_splitGroups 120 = .ok (.goto (-22), 3) := by decide +kernel
theorem dX0_splitGroups_123 : decode cX0_splitGroups 123 = .ok (.iload_n 3, 1) := by decide +kernel
theorem dX0_splitGroups_124 : decode cX0_splitGroups 124 = .ok (.ifCond .eq 6, 3) := by decide +kernel
theorem dX0_splitGroups_127 : decode cX0_splitGroups 127 = .ok (.bipush (-4), 2) := by decide +kernel
theorem dX0_splitGroups_129 : decode cX0_splitGroups 129 = .ok (.ireturn, 1) := by decide +kernel
theorem dX0_splitGroups_130 : decode cX0_splitGroups 130 = .ok (.iconst 0, 1) := by decide +kernel
theorem dX0_splitGroups_131 : decode cX0_splitGroups 131 = .ok (.istore 4, 2) := by decide +kernel
theorem dX0_splitGroups_133 : decode cX0_splitGroups 133 = .ok (.iload 4, 2) := by decide +kernel
theorem dX0_splitGroups_135 : decode cX0_splitGroups 135 = .ok (.iload_n 1, 1) := by decide +kernel
theorem dX0_splitGroups_136 : decode cX0_splitGroups 136 = .ok (.if_icmp .ge 33, 3) := by decide +kernel
theorem dX0_splitGroups_139 : decode cX0_splitGroups 139 = .ok (.aload_n 0, 1) := by decide +kernel
theorem dX0_splitGroups_140 : decode cX0_splitGroups 140 = .ok (.getfield 27, 3) := by decide +kernel
theorem dX0_splitGroups_143 : decode cX0_splitGroups 143 = .ok (.aload_n 0, 1) := by decide +kernel
theorem dX0_splitGroups_144 : decode cX0_splitGroups 144 = .ok (.getfield 21, 3) := by decide +kernel
theorem dX0_splitGroups_147 : decode cX0_splitGroups 147 = .ok (.iload 4, 2) := by decide +kernel
theorem dX0_splitGroups_149 : decode cX0_splitGroups 149 = .ok (.iaload, 1) := by decide +kernel
theorem dX0_splitGroups_150 : decode cX0_splitGroups 150 = .ok (.aload_n 0, 1) := by decide +kernel
theorem dX0_splitGroups_151 : decode cX0_splitGroups 151 = .ok (.getfield 30, 3) := by decide +kernel
theorem dX0_splitGroups_154 : decode cX0_splitGroups 154 = .ok (.aload_n 0, 1) := by decide +kernel
theorem dX0_splitGroups_155 : decode cX0_splitGroups 155 = .ok (.getfield 21, 3) := by decide +kernel
theorem dX0_splitGroups_158 : decode cX0_splitGroups 158 = .ok (.iload 4, 2) := by decide +kernel
theorem dX0_splitGroups_160 : decode cX0_splitGroups 160 = .ok (.iaload, 1) := by decide +kernel
theorem dX0_splitGroups_161 : decode cX0_splitGroups 161 = .ok (.iaload, 1) := by decide +kernel
theorem dX0_splitGroups_162 : decode cX0_splitGroups 162 = .ok (.iastore, 1) := by decide +kernel
theorem dX0_splitGroups_163 : decode cX0_splitGroups 163 = .ok (.iinc 4 1, 3) := by decide +kernel
theorem dX0_splitGroups_166 : decode cX0_splitGroups 166 = .ok (.goto (-33), 3) := by decide +kernel
theorem dX0_splitGroups_169 : decode cX0_splitGroups 169 = .ok (.iload_n 2, 1) := by decide +kernel
theorem dX0_splitGroups_170 : decode cX0_splitGroups 170 = .ok (.ireturn, 1) := by decide +kernel
theorem dX0_signatureOf_0 : decode cX0_signatureOf 0 = .ok (.aload_n 0, 1) := by decide +kernel
theorem dX0_signatureOf_1 : decode cX0_signatureOf 1 = .ok (.iload_n 1, 1) := by decide +kernel
theorem dX0_signatureOf_2 : decode cX0_signatureOf 2 = .ok (.iconst 0, 1) := by decide +kernel
theorem dX0_signatureOf_3 : decode cX0_signatureOf 3 = .ok (.invokevirtual 119, 3) := by decide +kernel
theorem dX0_signatureOf_6 : decode cX0_signatureOf 6 = .ok (.istore_n 2, 1) := by decide +kernel
theorem dX0_signatureOf_7 : decode cX0_signatureOf 7 = .ok (.aload_n 0, 1) := by decide +kernel
theorem dX0_signatureOf_8 : decode cX0_signatureOf 8 = .ok (.iload_n 1, 1) := by decide +kernel
theorem dX0_signatureOf_9 : decode cX0_signatureOf 9 = .ok (.iconst 1, 1) := by decide +kernel
theorem dX0_signatureOf_10 : decode cX0_signatureOf 10 = .ok (.invokevirtual 119, 3) := by decide +kernel
theorem dX0_signatureOf_13 : decode cX0_signatureOf 13 = .ok (.istore_n 3, 1) := by decide +kernel
theorem dX0_signatureOf_14 : decode cX0_signatureOf 14 = .ok (.aload_n 0, 1) := by decide +kernel
theorem dX0_signatureOf_15 : decode cX0_signatureOf 15 = .ok (.getfield 9, 3) := by decide +kernel
theorem dX0_signatureOf_18 : decode cX0_signatureOf 18 = .ok (.iload_n 1, 1) := by decide +kernel
theorem dX0_signatureOf_19 : decode cX0_signatureOf 19 = .ok (.iaload, 1) := by decide +kernel
theorem dX0_signatureOf_20 : decode cX0_signatureOf 20 = .ok (.bipush 40, 2) := by decide +kernel
theorem dX0_signatureOf_22 : decode cX0_signatureOf 22 = .ok (.imul, 1) := by decide +kernel
theorem dX0_signatureOf_23 : decode cX0_signatureOf 23 = .ok (.iload_n 2, 1) := by decide +kernel
theorem dX0_signatureOf_24 : decode cX0_signatureOf 24 = .ok (.iadd, 1) := by decide +kernel
theorem dX0_signatureOf_25 : decode cX0_signatureOf 25 = .ok (.bipush 40, 2) := by decide +kernel
theorem dX0_signatureOf_27 : decode cX0_signatureOf 27 = .ok (.imul, 1) := by decide +kernel
theorem dX0_signatureOf_28 : decode cX0_signatureOf 28 = .ok (.iload_n 3, 1) := by decide +kernel
theorem dX0_signatureOf_29 : decode cX0_signatureOf 29 = .ok (.iadd, 1) := by decide +kernel
theorem dX0_signatureOf_30 : decode cX0_signatureOf 30 = .ok (.ireturn, 1) := by decide +kernel
theorem dX0_groupOfPart_0 : decode cX0_groupOfPart 0 = .ok (.iload_n 2, 1) := by decide +kernel
theorem dX0_groupOfPart_1 : decode cX0_groupOfPart 1 = .ok (.aload_n 0, 1) := by decide +kernel
theorem dX0_groupOfPart_2 : decode cX0_groupOfPart 2 = .ok (.getfield 9, 3) := by decide +kernel
theorem dX0_groupOfPart_5 : decode cX0_groupOfPart 5 = .ok (.iload_n 1, 1) := by decide +kernel
theorem dX0_groupOfPart_6 : decode cX0_groupOfPart 6 = .ok (.iaload, 1) := by decide +kernel
theorem dX0_groupOfPart_7 : decode cX0_groupOfPart 7 = .ok (.invokestatic 110, 3) := by decide +kernel
theorem dX0_groupOfPart_10 : decode cX0_groupOfPart 10 = .ok (.if_icmp .ge 17, 3) := by decide +kernel
theorem dX0_groupOfPart_13 : decode cX0_groupOfPart 13 = .ok (.aload_n 0, 1) := by decide +kernel
theorem dX0_groupOfPart_14 : decode cX0_groupOfPart 14 = .ok (.getfield 27, 3) := by decide +kernel
theorem dX0_groupOfPart_17 : decode cX0_groupOfPart 17 = .ok (.aload_n 0, 1) := by decide +kernel
theorem dX0_groupOfPart_18 : decode cX0_groupOfPart 18 = .ok (.iload_n 1, 1) := by decide +kernel
theorem dX0_groupOfPart_19 : decode cX0_groupOfPart 19 = .ok (.iload_n 2, 1) := by decide +kernel
theorem dX0_groupOfPart_20 : decode cX0_groupOfPart 20 = .ok (.invokevirtual 113, 3) := by decide +kernel
theorem dX0_groupOfPart_23 : decode cX0_groupOfPart 23 = .ok (.iaload, 1) := by decide +kernel
theorem dX0_groupOfPart_24 : decode cX0_groupOfPart 24 = .ok (.goto 4, 3) := by decide +kernel
theorem dX0_groupOfPart_27 : decode cX0_groupOfPart 27 = .ok (.iconst 0, 1) := by decide +kernel
theorem dX0_groupOfPart_28 : decode cX0_groupOfPart 28 = .ok (.ireturn, 1) := by decide +kernel
theorem dX0_writeDown_0 : decode cX0_writeDown 0 = .ok (.iconst 3, 1) := by decide +kernel
theorem dX0_writeDown_1 : decode cX0_writeDown 1 = .ok (.iload_n 2, 1) := by decide +kernel
theorem dX0_writeDown_2 : decode cX0_writeDown 2 = .ok (.imul, 1) := by decide +kernel
theorem dX0_writeDown_3 : decode cX0_writeDown 3 = .ok (.newarray .int, 2) := by decide +kernel
theorem dX0_writeDown_5 : decode cX0_writeDown 5 = .ok (.astore_n 3, 1) := by decide +kernel
theorem dX0_writeDown_6 : decode cX0_writeDown 6 = .ok (.iconst 0, 1) := by decide +kernel
theorem dX0_writeDown_7 : decode cX0_writeDown 7 = .ok (.istore 4, 2) := by decide +kernel
theorem dX0_writeDown_9 : decode cX0_writeDown 9 = .ok (.iconst 0, 1) := by decide +kernel
theorem dX0_writeDown_10 : decode cX0_writeDown 10 = .ok (.istore 5, 2) := by decide +kernel
theorem dX0_writeDown_12 : decode cX0_writeDown 12 = .ok (.iload 5, 2) := by decide +kernel
theorem dX0_writeDown_14 : decode cX0_writeDown 14 = .ok (.iload_n 1, 1) := by decide +kernel
theorem dX0_writeDown_15 : decode cX0_writeDown 15 = .ok (.if_icmp .ge 82, 3) := by decide +kernel
theorem dX0_writeDown_18 : decode cX0_writeDown 18 = .ok (.iload 4, 2) := by decide +kernel
theorem dX0_writeDown_20 : decode cX0_writeDown 20 = .ok (.iload_n 2, 1) := by decide +kernel
theorem dX0_writeDown_21 : decode cX0_writeDown 21 = .ok (.if_icmp .ge 76, 3) := by decide +kernel
theorem dX0_writeDown_24 : decode cX0_writeDown 24 = .ok (.aload_n 0, 1) := by decide +kernel
theorem dX0_writeDown_25 : decode cX0_writeDown 25 = .ok (.getfield 21, 3) := by decide +kernel
theorem dX0_writeDown_28 : decode cX0_writeDown 28 = .ok (.iload 5, 2) := by decide +kernel
theorem dX0_writeDown_30 : decode cX0_writeDown 30 = .ok (.iaload, 1) := by decide +kernel
theorem dX0_writeDown_31 : decode cX0_writeDown 31 = .ok (.istore 6, 2) := by decide +kernel
theorem dX0_writeDown_33 : decode cX0_writeDown 33 = .ok (.aload_n 0, 1) := by decide +kernel
theorem dX0_writeDown_34 : decode cX0_writeDown 34 = .ok (.getfield 27, 3) := by decide +kernel
theorem dX0_writeDown_37 : decode cX0_writeDown 37 = .ok (.iload 6, 2) := by decide +kernel
theorem dX0_writeDown_39 : decode cX0_writeDown 39 = .ok (.iaload, 1) := by decide +kernel
theorem dX0_writeDown_40 : decode cX0_writeDown 40 = .ok (.iload 4, 2) := by decide +kernel
theorem dX0_writeDown_42 : decode cX0_writeDown 42 = .ok (.if_icmp .ne 49, 3) := by decide +kernel
theorem dX0_writeDown_45 : decode cX0_writeDown 45 = .ok (.aload_n 3, 1) := by decide +kernel
theorem dX0_writeDown_46 : decode cX0_writeDown 46 = .ok (.iconst 3, 1) := by decide +kernel
theorem dX0_writeDown_47 : decode cX0_writeDown 47 = .ok (.iload 4, 2) := by decide +kernel
theorem dX0_writeDown_49 : decode cX0_writeDown 49 = .ok (.imul, 1) := by decide +kernel
theorem dX0_writeDown_50 : decode cX0_writeDown 50 = .ok (.aload_n 0, 1) := by decide +kernel
theorem dX0_writeDown_51 : decode cX0_writeDown 51 = .ok (.getfield 9, 3) := by decide +kernel
theorem dX0_writeDown_54 : decode cX0_writeDown 54 = .ok (.iload 6, 2) := by decide +kernel
theorem dX0_writeDown_56 : decode cX0_writeDown 56 = .ok (.iaload, 1) := by decide +kernel
theorem dX0_writeDown_57 : decode cX0_writeDown 57 = .ok (.iastore, 1) := by decide +kernel
theorem dX0_writeDown_58 : decode cX0_writeDown 58 = .ok (.aload_n 3, 1) := by decide +kernel
theorem dX0_writeDown_59 : decode cX0_writeDown 59 = .ok (.iconst 3, 1) := by decide +kernel
theorem dX0_writeDown_60 : decode cX0_writeDown 60 = .ok (.iload 4, 2) := by decide +kernel
theorem dX0_writeDown_62 : decode cX0_writeDown 62 = .ok (.imul, 1) := by decide +kernel
theorem dX0_writeDown_63 : decode cX0_writeDown 63 = .ok (.iconst 1, 1) := by decide +kernel
theorem dX0_writeDown_64 : decode cX0_writeDown 64 = .ok (.iadd, 1) := by decide +kernel
theorem dX0_writeDown_65 : decode cX0_writeDown 65 = .ok (.aload_n 0, 1) := by decide +kernel
theorem dX0_writeDown_66 : decode cX0_writeDown 66 = .ok (.iload 6, 2) := by decide +kernel
theorem dX0_writeDown_68 : decode cX0_writeDown 68 = .ok (.iconst 0, 1) := by decide +kernel
theorem dX0_writeDown_69 : decode cX0_writeDown 69 = .ok (.invokevirtual 119, 3) := by decide +kernel
theorem dX0_writeDown_72 : decode cX0_writeDown 72 = .ok (.iastore, 1) := by decide +kernel
theorem dX0_writeDown_73 : decode cX0_writeDown 73 = .ok (.aload_n 3, 1) := by decide +kernel
theorem dX0_writeDown_74 : decode cX0_writeDown 74 = .ok (.iconst 3, 1) := by decide +kernel
theorem dX0_writeDown_75 : decode cX0_writeDown 75 = .ok (.iload 4, 2) := by decide +kernel
theorem dX0_writeDown_77 : decode cX0_writeDown 77 = .ok (.imul, 1) := by decide +kernel
theorem dX0_writeDown_78 : decode cX0_writeDown 78 = .ok (.iconst 2, 1) := by decide +kernel
theorem dX0_writeDown_79 : decode cX0_writeDown 79 = .ok (.iadd, 1) := by decide +kernel
theorem dX0_writeDown_80 : decode cX0_writeDown 80 = .ok (.aload_n 0, 1) := by decide +kernel
theorem dX0_writeDown_81 : decode cX0_writeDown 81 = .ok (.iload 6, 2) := by decide +kernel
theorem dX0_writeDown_83 : decode cX0_writeDown 83 = .ok (.iconst 1, 1) := by decide +kernel
theorem dX0_writeDown_84 : decode cX0_writeDown 84 = .ok (.invokevirtual 119, 3) := by decide +kernel
theorem dX0_writeDown_87 : decode cX0_writeDown 87 = .ok (.iastore, 1) := by decide +kernel
theorem dX0_writeDown_88 : decode cX0_writeDown 88 = .ok (.iinc 4 1, 3) := by decide +kernel
theorem dX0_writeDown_91 : decode cX0_writeDown 91 = .ok (.iinc 5 1, 3) := by decide +kernel
theorem dX0_writeDown_94 : decode cX0_writeDown 94 = .ok (.goto (-82), 3) := by decide +kernel
theorem dX0_writeDown_97 : decode cX0_writeDown 97 = .ok (.new 48, 3) := by decide +kernel
theorem dX0_writeDown_100 : decode cX0_writeDown 100 = .ok (.dup, 1) := by decide +kernel
theorem dX0_writeDown_101 : decode cX0_writeDown 101 = .ok (.aload_n 3, 1) := by decide +kernel
theorem dX0_writeDown_102 : decode cX0_writeDown 102 = .ok (.invokespecial 122, 3) := by decide +kernel
theorem dX0_writeDown_105 : decode cX0_writeDown 105 = .ok (.areturn, 1) := by decide +kernel
theorem dX1_init_0 : decode cX1_init 0 = .ok (.aload_n 0, 1) := by decide +kernel
theorem dX1_init_1 : decode cX1_init 1 = .ok (.invokespecial 3, 3) := by decide +kernel
theorem dX1_init_4 : decode cX1_init 4 = .ok (.aload_n 0, 1) := by decide +kernel
theorem dX1_init_5 : decode cX1_init 5 = .ok (.sipush 3200, 3) := by decide +kernel
theorem dX1_init_8 : decode cX1_init 8 = .ok (.newarray .int, 2) := by decide +kernel
theorem dX1_init_10 : decode cX1_init 10 = .ok (.putfield 9, 3) := by decide +kernel
theorem dX1_init_13 : decode cX1_init 13 = .ok (.aload_n 0, 1) := by decide +kernel
theorem dX1_init_14 : decode cX1_init 14 = .ok (.sipush 3200, 3) := by decide +kernel
theorem dX1_init_17 : decode cX1_init 17 = .ok (.newarray .int, 2) := by decide +kernel
theorem dX1_init_19 : decode cX1_init 19 = .ok (.putfield 15, 3) := by decide +kernel
theorem dX1_init_22 : decode cX1_init 22 = .ok (.aload_n 0, 1) := by decide +kernel
theorem dX1_init_23 : decode cX1_init 23 = .ok (.sipush 3200, 3) := by decide +kernel
theorem dX1_init_26 : decode cX1_init 26 = .ok (.newarray .int, 2) := by decide +kernel
theorem dX1_init_28 : decode cX1_init 28 = .ok (.putfield 18, 3) := by decide +kernel
theorem dX1_init_31 : decode cX1_init 31 = .ok (.return_, 1) := by decide +kernel
theorem dX1_start_0 : decode cX1_start 0 = .ok (.aload_n 0, 1) := by decide +kernel
theorem dX1_start_1 : decode cX1_start 1 = .ok (.aload_n 1, 1) := by decide +kernel
theorem dX1_start_2 : decode cX1_start 2 = .ok (.putfield 21, 3) := by decide +kernel
theorem dX1_start_5 : decode cX1_start 5 = .ok (.aload_n 0, 1) := by decide +kernel
theorem dX1_start_6 : decode cX1_start 6 = .ok (.aload_n 2, 1) := by decide +kernel
theorem dX1_start_7 : decode cX1_start 7 = .ok (.putfield 25, 3) := by decide +kernel
theorem dX1_start_10 : decode cX1_start 10 = .ok (.aload_n 0, 1) := by decide +kernel
theorem dX1_start_11 : decode cX1_start 11 = .ok (.iconst 0, 1) := by decide +kernel
theorem dX1_start_12 : decode cX1_start 12 = .ok (.putfield 28, 3) := by decide +kernel
theorem dX1_start_15 : decode cX1_start 15 = .ok (.aload_n 0, 1) := by decide +kernel
theorem dX1_start_16 : decode cX1_start 16 = .ok (.getfield 18, 3) := by decide +kernel
theorem dX1_start_19 : decode cX1_start 19 = .ok (.iconst 2, 1) := by decide +kernel
theorem dX1_start_20 : decode cX1_start 20 = .ok (.aload_n 1, 1) := by decide +kernel
theorem dX1_start_21 : decode cX1_start 21 = .ok (.getfield 32, 3) := by decide +kernel
theorem dX1_start_24 : decode cX1_start 24 = .ok (.imul, 1) := by decide +kernel
theorem dX1_start_25 : decode cX1_start 25 = .ok (.aload_n 2, 1) := by decide +kernel
theorem dX1_start_26 : decode cX1_start 26 = .ok (.getfield 32, 3) := by decide +kernel
theorem dX1_start_29 : decode cX1_start 29 = .ok (.imul, 1) := by decide +kernel
theorem dX1_start_30 : decode cX1_start 30 = .ok (.iconst (-1), 1) := by decide +kernel
theorem dX1_start_31 : decode cX1_start 31 = .ok (.invokestatic 37, 3) := by decide +kernel
theorem dX1_start_34 : decode cX1_start 34 = .ok (.return_, 1) := by decide +kernel
theorem dX1_numberOf_0 : decode cX1_numberOf 0 = .ok (.iload_n 3, 1) := by decide +kernel
theorem dX1_numberOf_1 : decode cX1_numberOf 1 = .ok (.ifCond .eq 13, 3) := by decide +kernel
theorem dX1_numberOf_4 : decode cX1_numberOf 4 = .ok (.aload_n 0, 1) := by decide +kernel
theorem dX1_numberOf_5 : decode cX1_numberOf 5 = .ok (.getfield 21, 3) := by decide +kernel
theorem dX1_numberOf_8 : decode cX1_numberOf 8 = .ok (.getfield 32, 3) := by decide +kernel
theorem dX1_numberOf_11 : decode cX1_numberOf 11 = .ok (.goto 4, 3) := by decide +kernel
theorem dX1_numberOf_14 : decode cX1_numberOf 14 = .ok (.iconst 0, 1) := by decide +kernel
theorem dX1_numberOf_15 : decode cX1_numberOf 15 = .ok (.iload_n 1, 1) := by decide +kernel
theorem dX1_numberOf_16 : decode cX1_numberOf 16 = .ok (.iadd, 1) := by decide +kernel
theorem dX1_numberOf_17 : decode cX1_numberOf 17 = .ok (.aload_n 0, 1) := by decide +kernel
theorem dX1_numberOf_18 : decode cX1_numberOf 18 = .ok (.getfield 25, 3) := by decide +kernel
theorem dX1_numberOf_21 : decode cX1_numberOf 21 = .ok (.getfield 32, 3) := by decide +kernel
theorem dX1_numberOf_24 : decode cX1_numberOf 24 = .ok (.imul, 1) := by decide +kernel
theorem dX1_numberOf_25 : decode cX1_numberOf 25 = .ok (.iload_n 2, 1) := by decide +kernel
theorem dX1_numberOf_26 : decode cX1_numberOf 26 = .ok (.iadd, 1) := by decide +kernel
theorem dX1_numberOf_27 : decode cX1_numberOf 27 = .ok (.ireturn, 1) := by decide +kernel
theorem dX1_isAbout_0 : decode cX1_isAbout 0 = .ok (.iload_n 1, 1) := by decide +kernel
theorem dX1_isAbout_1 : decode cX1_isAbout 1 = .ok (.aload_n 0, 1) := by decide +kernel
theorem dX1_isAbout_2 : decode cX1_isAbout 2 = .ok (.getfield 21, 3) := by decide +kernel
theorem dX1_isAbout_5 : decode cX1_isAbout 5 = .ok (.getfield 32, 3) := by decide +kernel
theorem dX1_isAbout_8 : decode cX1_isAbout 8 = .ok (.aload_n 0, 1) := by decide +kernel
theorem dX1_isAbout_9 : decode cX1_isAbout 9 = .ok (.getfield 25, 3) := by decide +kernel
theorem dX1_isAbout_12 : decode cX1_isAbout 12 = .ok (.getfield 32, 3) := by decide +kernel
theorem dX1_isAbout_15 : decode cX1_isAbout 15 = .ok (.imul, 1) := by decide +kernel
theorem dX1_isAbout_16 : decode cX1_isAbout 16 = .ok (.if_icmp .lt 7, 3) := by decide +kernel
theorem dX1_isAbout_19 : decode cX1_isAbout 19 = .ok (.iconst 1, 1) := by decide +kernel
theorem dX1_isAbout_20 : decode cX1_isAbout 20 = .ok (.goto 4, 3) := by decide +kernel
theorem dX1_isAbout_23 : decode cX1_isAbout 23 = .ok (.iconst 0, 1) := by decide +kernel
theorem dX1_isAbout_24 : decode cX1_isAbout 24 = .ok (.ireturn, 1) := by decide +kernel
theorem dX1_leftOf_0 : decode cX1_leftOf 0 = .ok (.aload_n 0, 1) := by decide +kernel
theorem dX1_leftOf_1 : decode cX1_leftOf 1 = .ok (.getfield 25, 3) := by decide +kernel
theorem dX1_leftOf_4 : decode cX1_leftOf 4 = .ok (.getfield 32, 3) := by decide +kernel
theorem dX1_leftOf_7 : decode cX1_leftOf 7 = .ok (.ifCond .ne 7, 3) := by decide +kernel
theorem dX1_leftOf_10 : decode cX1_leftOf 10 = .ok (.iconst 0, 1) := by decide +kernel
theorem dX1_leftOf_11 : decode cX1_leftOf 11 = .ok (.goto 12, 3) := by decide +kernel
theorem dX1_leftOf_14 : decode cX1_leftOf 14 = .ok (.iload_n 1, 1) := by decide +kernel
theorem dX1_leftOf_15 : decode cX1_leftOf 15 = .ok (.aload_n 0, 1) := by decide +kernel
theorem dX1_leftOf_16 : decode cX1_leftOf 16 = .ok (.getfield 25, 3) := by decide +kernel
theorem dX1_leftOf_19 : decode cX1_leftOf 19 = .ok (.getfield 32, 3) := by decide +kernel
theorem dX1_leftOf_22 : decode cX1_leftOf 22 = .ok (.idiv, 1) := by decide +kernel
theorem dX1_leftOf_23 : decode cX1_leftOf 23 = .ok (.istore_n 2, 1) := by decide +kernel
theorem dX1_leftOf_24 : decode cX1_leftOf 24 = .ok (.iload_n 2, 1) := by decide +kernel
theorem dX1_leftOf_25 : decode cX1_leftOf 25 = .ok (.aload_n 0, 1) := by decide +kernel
theorem dX1_leftOf_26 : decode cX1_leftOf 26 = .ok (.getfield 21, 3) := by decide +kernel
theorem dX1_leftOf_29 : decode cX1_leftOf 29 = .ok (.getfield 32, 3) := by decide +kernel
theorem dX1_leftOf_32 : decode cX1_leftOf 32 = .ok (.if_icmp .lt 15, 3) := by decide +kernel
theorem dX1_leftOf_35 : decode cX1_leftOf 35 = .ok (.iload_n 2, 1) := by decide +kernel
theorem dX1_leftOf_36 : decode cX1_leftOf 36 = .ok (.aload_n 0, 1) := by decide +kernel
theorem dX1_leftOf_37 : decode cX1_leftOf 37 = .ok (.getfield 21, 3) := by decide +kernel
theorem dX1_leftOf_40 : decode cX1_leftOf 40 = .ok (.getfield 32, 3) := by decide +kernel
theorem dX1_leftOf_43 : decode cX1_leftOf 43 = .ok (.isub, 1) := by decide +kernel
theorem dX1_leftOf_44 : decode cX1_leftOf 44 = .ok (.goto 4, 3) := by decide +kernel
theorem dX1_leftOf_47 : decode cX1_leftOf 47 = .ok (.iload_n 2, 1) := by decide +kernel
theorem dX1_leftOf_48 : decode cX1_leftOf 48 = .ok (.ireturn, 1) := by decide +kernel
theorem dX1_rightOf_0 : decode cX1_rightOf 0 = .ok (.aload_n 0, 1) := by decide +kernel
theorem dX1_rightOf_1 : decode cX1_rightOf 1 = .ok (.getfield 25, 3) := by decide +kernel
theorem dX1_rightOf_4 : decode cX1_rightOf 4 = .ok (.getfield 32, 3) := by decide +kernel
theorem dX1_rightOf_7 : decode cX1_rightOf 7 = .ok (.ifCond .ne 7, 3) := by decide +kernel
theorem dX1_rightOf_10 : decode cX1_rightOf 10 = .ok (.iconst 0, 1) := by decide +kernel
theorem dX1_rightOf_11 : decode cX1_rightOf 11 = .ok (.goto 12, 3) := by decide +kernel
theorem dX1_rightOf_14 : decode cX1_rightOf 14 = .ok (.iload_n 1, 1) := by decide +kernel
theorem dX1_rightOf_15 : decode cX1_rightOf 15 = .ok (.aload_n 0, 1) := by decide +kernel
theorem dX1_rightOf_16 : decode cX1_rightOf 16 = .ok (.getfield 25, 3) := by decide +kernel
theorem dX1_rightOf_19 : decode cX1_rightOf 19 = .ok (.getfield 32, 3) := by decide +kernel
theorem dX1_rightOf_22 : decode cX1_rightOf 22 = .ok (.irem, 1) := by decide +kernel
theorem dX1_rightOf_23 : decode cX1_rightOf 23 = .ok (.ireturn, 1) := by decide +kernel
theorem dX1_meet_0 : decode cX1_meet 0 = .ok (.iload_n 1, 1) := by decide +kernel
theorem dX1_meet_1 : decode cX1_meet 1 = .ok (.ifCond .lt 30, 3) := by decide +kernel
theorem dX1_meet_4 : decode cX1_meet 4 = .ok (.iload_n 1, 1) := by decide +kernel
theorem dX1_meet_5 : decode cX1_meet 5 = .ok (.sipush 3200, 3) := by decide +kernel
theorem dX1_meet_8 : decode cX1_meet 8 = .ok (.if_icmp .ge 23, 3) := by decide +kernel
theorem dX1_meet_11 : decode cX1_meet 11 = .ok (.aload_n 0, 1) := by decide +kernel
theorem dX1_meet_12 : decode cX1_meet 12 = .ok (.getfield 28, 3) := by decide +kernel
theorem dX1_meet_15 : decode cX1_meet 15 = .ok (.sipush 3200, 3) := by decide +kernel
theorem dX1_meet_18 : decode cX1_meet 18 = .ok (.if_icmp .ge 13, 3) := by decide +kernel
theorem dX1_meet_21 : decode cX1_meet 21 = .ok (.aload_n 0, 1) := by decide +kernel
theorem dX1_meet_22 : decode cX1_meet 22 = .ok (.getfield 18, 3) := by decide +kernel
theorem dX1_meet_25 : decode cX1_meet 25 = .ok (.iload_n 1, 1) := by decide +kernel
theorem dX1_meet_26 : decode cX1_meet 26 = .ok (.iaload, 1) := by decide +kernel
theorem dX1_meet_27 : decode cX1_meet 27 = .ok (.iconst (-1), 1) := by decide +kernel
theorem dX1_meet_28 : decode cX1_meet 28 = .ok (.if_icmp .eq 4, 3) := by decide +kernel
theorem dX1_meet_31 : decode cX1_meet 31 = .ok (.return_, 1) := by decide +kernel
theorem dX1_meet_32 : decode cX1_meet 32 = .ok (.aload_n 0, 1) := by decide +kernel
theorem dX1_meet_33 : decode cX1_meet 33 = .ok (.getfield 18, 3) := by decide +kernel
theorem dX1_meet_36 : decode cX1_meet 36 = .ok (.iload_n 1, 1) := by decide +kernel
theorem dX1_meet_37 : decode cX1_meet 37 = .ok (.iload_n 2, 1) := by decide +kernel
theorem dX1_meet_38 : decode cX1_meet 38 = .ok (.iastore, 1) := by decide +kernel
theorem dX1_meet_39 : decode cX1_meet 39 = .ok (.aload_n 0, 1) := by decide +kernel
theorem dX1_meet_40 : decode cX1_meet 40 = .ok (.getfield 9, 3) := by decide +kernel
theorem dX1_meet_43 : decode cX1_meet 43 = .ok (.aload_n 0, 1) := by decide +kernel
theorem dX1_meet_44 : decode cX1_meet 44 = .ok (.getfield 28, 3) := by decide +kernel
theorem dX1_meet_47 : decode cX1_meet 47 = .ok (.iload_n 1, 1) := by decide +kernel
theorem dX1_meet_48 : decode cX1_meet 48 = .ok (.iastore, 1) := by decide +kernel
theorem dX1_meet_49 : decode cX1_meet 49 = .ok (.aload_n 0, 1) := by decide +kernel
theorem dX1_meet_50 : decode cX1_meet 50 = .ok (.getfield 15, 3) := by decide +kernel
theorem dX1_meet_53 : decode cX1_meet 53 = .ok (.aload_n 0, 1) := by decide +kernel
theorem dX1_meet_54 : decode cX1_meet 54 = .ok (.getfield 28, 3) := by decide +kernel
theorem dX1_meet_57 : decode cX1_meet 57 = .ok (.iload_n 3, 1) := by decide +kernel
theorem dX1_meet_58 : decode cX1_meet 58 = .ok (.iastore, 1) := by decide +kernel
theorem dX1_meet_59 : decode cX1_meet 59 = .ok (.aload_n 0, 1) := by decide +kernel
theorem dX1_meet_60 : decode cX1_meet 60 = .ok (.dup, 1) := by decide +kernel
theorem dX1_meet_61 : decode cX1_meet 61 = .ok (.getfield 28, 3) := by decide +kernel
theorem dX1_meet_64 : decode cX1_meet 64 = .ok (.iconst 1, 1) := by decide +kernel
theorem dX1_meet_65 : decode cX1_meet 65 = .ok (.iadd, 1) := by decide +kernel
theorem dX1_meet_66 : decode cX1_meet 66 = .ok (.putfield 28, 3) := by decide +kernel
theorem dX1_meet_69 : decode cX1_meet 69 = .ok (.return_, 1) := by decide +kernel
theorem dX1_firstFailing_0 : decode cX1_firstFailing 0 = .ok (.aload_n 0, 1) := by decide +kernel
theorem dX1_firstFailing_1 : decode cX1_firstFailing 1 = .ok (.aload_n 1, 1) := by decide +kernel
theorem dX1_firstFailing_2 : decode cX1_firstFailing 2 = .ok (.aload_n 2, 1) := by decide +kernel
theorem dX1_firstFailing_3 : decode cX1_firstFailing 3 = .ok (.invokevirtual 41, 3) := by decide +kernel
theorem dX1_firstFailing_6 : decode cX1_firstFailing 6 = .ok (.aload_n 0, 1) := by decide +kernel
theorem dX1_firstFailing_7 : decode cX1_firstFailing 7 = .ok (.aload_n 0, 1) := by decide +kernel
theorem dX1_firstFailing_8 : decode cX1_firstFailing 8 = .ok (.iconst 0, 1) := by decide +kernel
theorem dX1_firstFailing_9 : decode cX1_firstFailing 9 = .ok (.iconst 0, 1) := by decide +kernel
theorem dX1_firstFailing_10 : decode cX1_firstFailing 10 = .ok (.iconst 0, 1) := by decide +kernel
theorem dX1_firstFailing_11 : decode cX1_firstFailing 11 = .ok (.invokevirtual 45, 3) := by decide +kernel
theorem dX1_firstFailing_14 : decode cX1_firstFailing 14 = .ok (.iconst 1, 1) := by decide +kernel
theorem dX1_firstFailing_15 : decode cX1_firstFailing 15 = .ok (.iconst (-1), 1) := by decide +kernel
theorem dX1_firstFailing_16 : decode cX1_firstFailing 16 = .ok (.invokevirtual 49, 3) := by decide +kernel
theorem dX1_firstFailing_19 : decode cX1_firstFailing 19 = .ok (.iconst 0, 1) := by decide +kernel
theorem dX1_firstFailing_20 : decode cX1_firstFailing 20 = .ok (.istore 4, 2) := by decide +kernel
theorem dX1_firstFailing_22 : decode cX1_firstFailing 22 = .ok (.iload 4, 2) := by decide +kernel
theorem dX1_firstFailing_24 : decode cX1_firstFailing 24 = .ok (.aload_n 0, 1) := by decide +kernel
theorem dX1_firstFailing_25 : decode cX1_firstFailing 25 = .ok (.getfield 28, 3) := by decide +kernel
theorem dX1_firstFailing_28 : decode cX1_firstFailing 28 = .ok (.if_icmp .ge 137, 3) := by decide +kernel
theorem dX1_firstFailing_31 : decode cX1_firstFailing 31 = .ok (.iload 4, 2) := by decide +kernel
theorem dX1_firstFailing_33 : decode cX1_firstFailing 33 = .ok (.sipush 3200, 3) := by decide +kernel
theorem dX1_firstFailing_36 : decode cX1_firstFailing 36 = .ok (.if_icmp .ge 129, 3) := by decide +kernel
theorem dX1_firstFailing_39 : decode cX1_firstFailing 39 = .ok (.aload_n 0, 1) := by decide +kernel
theorem dX1_firstFailing_40 : decode cX1_firstFailing 40 = .ok (.getfield 9, 3) := by decide +kernel
theorem dX1_firstFailing_43 : decode cX1_firstFailing 43 = .ok (.iload 4, 2) := by decide +kernel
theorem dX1_firstFailing_45 : decode cX1_firstFailing 45 = .ok (.iaload, 1) := by decide +kernel
theorem dX1_firstFailing_46 : decode cX1_firstFailing 46 = .ok (.istore 5, 2) := by decide +kernel
theorem dX1_firstFailing_48 : decode cX1_firstFailing 48 = .ok (.aload_n 0, 1) := by decide +kernel
theorem dX1_firstFailing_49 : decode cX1_firstFailing 49 = .ok (.iload 5, 2) := by decide +kernel
theorem dX1_firstFailing_51 : decode cX1_firstFailing 51 = .ok (.invokevirtual 53, 3) := by decide +kernel
theorem dX1_firstFailing_54 : decode cX1_firstFailing 54 = .ok (.istore 6, 2) := by decide +kernel
theorem dX1_firstFailing_56 : decode cX1_firstFailing 56 = .ok (.aload_n 0, 1) := by decide +kernel
theorem dX1_firstFailing_57 : decode cX1_firstFailing 57 = .ok (.getfield 21, 3) := by decide +kernel
theorem dX1_firstFailing_60 : decode cX1_firstFailing 60 = .ok (.aload_n 0, 1) := by decide +kernel
theorem dX1_firstFailing_61 : decode cX1_firstFailing 61 = .ok (.iload 5, 2) := by decide +kernel
theorem dX1_firstFailing_63 : decode cX1_firstFailing 63 = .ok (.invokevirtual 57, 3) := by decide +kernel
theorem dX1_firstFailing_66 : decode cX1_firstFailing 66 = .ok (.invokevirtual 61, 3) := by decide +kernel
theorem dX1_firstFailing_69 : decode cX1_firstFailing 69 = .ok (.istore 7, 2) := by decide +kernel
theorem dX1_firstFailing_71 : decode cX1_firstFailing 71 = .ok (.aload_n 0, 1) := by decide +kernel
theorem dX1_firstFailing_72 : decode cX1_firstFailing 72 = .ok (.getfield 25, 3) := by decide +kernel
theorem dX1_firstFailing_75 : decode cX1_firstFailing 75 = .ok (.aload_n 0, 1) := by decide +kernel
theorem dX1_firstFailing_76 : decode cX1_firstFailing 76 = .ok (.iload 5, 2) := by decide +kernel
theorem dX1_firstFailing_78 : decode cX1_firstFailing 78 = .ok (.invokevirtual 64, 3) := by decide +kernel
theorem dX1_firstFailing_81 : decode cX1_firstFailing 81 = .ok (.invokevirtual 61, 3) := by decide +kernel
theorem dX1_firstFailing_84 : decode cX1_firstFailing 84 = .ok (.istore 8, 2) := by decide +kernel
theorem dX1_firstFailing_86 : decode cX1_firstFailing 86 = .ok (.iload 6, 2) := by decide +kernel
theorem dX1_firstFailing_88 : decode cX1_firstFailing 88 = .ok (.ifCond .eq 8, 3) := by decide +kernel
theorem dX1_firstFailing_91 : decode cX1_firstFailing 91 = .ok (.iload 8, 2) := by decide +kernel
theorem dX1_firstFailing_93 : decode cX1_firstFailing 93 = .ok (.goto 5, 3) := by decide +kernel
theorem dX1_firstFailing_96 : decode cX1_firstFailing 96 = .ok (.iload 7, 2) := by decide +kernel
theorem dX1_firstFailing_98 : decode cX1_firstFailing 98 = .ok (.iload 6, 2) := by decide +kernel
theorem dX1_firstFailing_100 : decode cX1_firstFailing 100 = .ok (.ifCond .eq 8, 3) := by decide +kernel
theorem dX1_firstFailing_103 : decode cX1_firstFailing 103 = .ok (.iload 7, 2) := by decide +kernel
theorem dX1_firstFailing_105 : decode cX1_firstFailing 105 = .ok (.goto 5, 3) := by decide +kernel
theorem dX1_firstFailing_108 : decode cX1_firstFailing 108 = .ok (.iload 8, 2) := by decide +kernel
theorem dX1_firstFailing_110 : decode cX1_firstFailing 110 = .ok (.iload_n 3, 1) := by decide +kernel
theorem dX1_firstFailing_111 : decode cX1_firstFailing 111 = .ok (.invokestatic 67, 3) := by decide +kernel
theorem dX1_firstFailing_114 : decode cX1_firstFailing 114 = .ok (.ifCond .ne 6, 3) := by decide +kernel
theorem dX1_firstFailing_117 : decode cX1_firstFailing 117 = .ok (.iload 4, 2) := by decide +kernel
theorem dX1_firstFailing_119 : decode cX1_firstFailing 119 = .ok (.ireturn, 1) := by decide +kernel
theorem dX1_firstFailing_120 : decode cX1_firstFailing 120 = .ok (.iload 7, 2) := by decide +kernel
theorem dX1_firstFailing_122 : decode cX1_firstFailing 122 = .ok (.iload 8, 2) := by decide +kernel
theorem dX1_firstFailing_124 : decode cX1_firstFailing 124 = .ok (.if_icmp .ne 35, 3) := by decide +kernel
theorem dX1_firstFailing_127 : decode cX1_firstFailing 127 = .ok (.iload 7, 2) := by decide +kernel
theorem dX1_firstFailing_129 : decode cX1_firstFailing 129 = .ok (.bipush 6, 2) := by decide +kernel
theorem dX1_firstFailing_131 : decode cX1_firstFailing 131 = .ok (.if_icmp .ne 17, 3) := by decide +kernel
theorem dX1_firstFailing_134 : decode cX1_firstFailing 134 = .ok (.iload_n 3, 1) := by decide +kernel
theorem dX1_firstFailing_135 : decode cX1_firstFailing 135 = .ok (.iconst 2, 1) := by decide +kernel
theorem dX1_firstFailing_136 : decode cX1_firstFailing 136 = .ok (.if_icmp .eq 12, 3) := by decide +kernel
theorem dX1_firstFailing_139 : decode cX1_firstFailing 139 = .ok (.iload_n 3, 1) := by decide +kernel
theorem dX1_firstFailing_140 : decode cX1_firstFailing 140 = .ok (.iconst 4, 1) := by decide +kernel
theorem dX1_firstFailing_141 : decode cX1_firstFailing 141 = .ok (.if_icmp .eq 7, 3) := by decide +kernel
theorem dX1_firstFailing_144 : decode cX1_firstFailing 144 = .ok (.iconst 1, 1) := by decide +kernel
theorem dX1_firstFailing_145 : decode cX1_firstFailing 145 = .ok (.goto 4, 3) := by decide +kernel
theorem dX1_firstFailing_148 : decode cX1_firstFailing 148 = .ok (.iconst 0, 1) := by decide +kernel
theorem dX1_firstFailing_149 : decode cX1_firstFailing 149 = .ok (.istore 9, 2) := by decide +kernel
theorem dX1_firstFailing_151 : decode cX1_firstFailing 151 = .ok (.aload_n 0, 1) := by decide +kernel
theorem dX1_firstFailing_152 : decode cX1_firstFailing 152 = .ok (.iload 4, 2) := by decide +kernel
theorem dX1_firstFailing_154 : decode cX1_firstFailing 154 = .ok (.iload 9, 2) := by decide +kernel
theorem dX1_firstFailing_156 : decode cX1_firstFailing 156 = .ok (.invokevirtual 71, 3) := by decide +kernel
theorem dX1_firstFailing_159 : decode cX1_firstFailing 159 = .ok (.iinc 4 1, 3) := by decide +kernel
theorem dX1_firstFailing_162 : decode cX1_firstFailing 162 = .ok (.goto (-140), 3) := by decide +kernel
theorem dX1_firstFailing_165 : decode cX1_firstFailing 165 = .ok (.iconst (-1), 1) := by decide +kernel
theorem dX1_firstFailing_166 : decode cX1_firstFailing 166 = .ok (.ireturn, 1) := by decide +kernel
theorem dX1_meetParts_0 : decode cX1_meetParts 0 = .ok (.aload_n 0, 1) := by decide +kernel
theorem dX1_meetParts_1 : decode cX1_meetParts 1 = .ok (.getfield 9, 3) := by decide +kernel
theorem dX1_meetParts_4 : decode cX1_meetParts 4 = .ok (.iload_n 1, 1) := by decide +kernel
theorem dX1_meetParts_5 : decode cX1_meetParts 5 = .ok (.iaload, 1) := by decide +kernel
theorem dX1_meetParts_6 : decode cX1_meetParts 6 = .ok (.istore_n 3, 1) := by decide +kernel
theorem dX1_meetParts_7 : decode cX1_meetParts 7 = .ok (.aload_n 0, 1) := by decide +kernel
theorem dX1_meetParts_8 : decode cX1_meetParts 8 = .ok (.iload_n 3, 1) := by decide +kernel
theorem dX1_meetParts_9 : decode cX1_meetParts 9 = .ok (.invokevirtual 57, 3) := by decide +kernel
theorem dX1_meetParts_12 : decode cX1_meetParts 12 = .ok (.istore 4, 2) := by decide +kernel
theorem dX1_meetParts_14 : decode cX1_meetParts 14 = .ok (.aload_n 0, 1) := by decide +kernel
theorem dX1_meetParts_15 : decode cX1_meetParts 15 = .ok (.iload_n 3, 1) := by decide +kernel
theorem dX1_meetParts_16 : decode cX1_meetParts 16 = .ok (.invokevirtual 64, 3) := by decide +kernel
theorem dX1_meetParts_19 : decode cX1_meetParts 19 = .ok (.istore 5, 2) := by decide +kernel
theorem dX1_meetParts_21 : decode cX1_meetParts 21 = .ok (.aload_n 0, 1) := by decide +kernel
theorem dX1_meetParts_22 : decode cX1_meetParts 22 = .ok (.getfield 21, 3) := by decide +kernel
theorem dX1_meetParts_25 : decode cX1_meetParts 25 = .ok (.iload 4, 2) := by decide +kernel
theorem dX1_meetParts_27 : decode cX1_meetParts 27 = .ok (.invokevirtual 75, 3) := by decide +kernel
theorem dX1_meetParts_30 : decode cX1_meetParts 30 = .ok (.istore 6, 2) := by decide +kernel
theorem dX1_meetParts_32 : decode cX1_meetParts 32 = .ok (.iconst 0, 1) := by decide +kernel
theorem dX1_meetParts_33 : decode cX1_meetParts 33 = .ok (.istore 7, 2) := by decide +kernel
theorem dX1_meetParts_35 : decode cX1_meetParts 35 = .ok (.iload 7, 2) := by decide +kernel
theorem dX1_meetParts_37 : decode cX1_meetParts 37 = .ok (.iload 6, 2) := by decide +kernel
theorem dX1_meetParts_39 : decode cX1_meetParts 39 = .ok (.if_icmp .ge 77, 3) := by decide +kernel
theorem dX1_meetParts_42 : decode cX1_meetParts 42 = .ok (.aload_n 0, 1) := by decide +kernel
theorem dX1_meetParts_43 : decode cX1_meetParts 43 = .ok (.iload_n 3, 1) := by decide +kernel
theorem dX1_meetParts_44 : decode cX1_meetParts 44 = .ok (.invokevirtual 53, 3) := by decide +kernel
theorem dX1_meetParts_47 : decode cX1_meetParts 47 = .ok (.iload_n 2, 1) := by decide +kernel
theorem dX1_meetParts_48 : decode cX1_meetParts 48 = .ok (.ifCond .eq 12, 3) := by decide +kernel
theorem dX1_meetParts_51 : decode cX1_meetParts 51 = .ok (.iload 7, 2) := by decide +kernel
theorem dX1_meetParts_53 : decode cX1_meetParts 53 = .ok (.ifCond .ne 7, 3) := by decide +kernel
theorem dX1_meetParts_56 : decode cX1_meetParts 56 = .ok (.iconst 1, 1) := by decide +kernel
theorem dX1_meetParts_57 : decode cX1_meetParts 57 = .ok (.goto 4, 3) := by decide +kernel
theorem dX1_meetParts_60 : decode cX1_meetParts 60 = .ok (.iconst 0, 1) := by decide +kernel
theorem dX1_meetParts_61 : decode cX1_meetParts 61 = .ok (.if_icmp .eq 7, 3) := by decide +kernel
theorem dX1_meetParts_64 : decode cX1_meetParts 64 = .ok (.iconst 1, 1) := by decide +kernel
theorem dX1_meetParts_65 : decode cX1_meetParts 65 = .ok (.goto 4, 3) := by decide +kernel
theorem dX1_meetParts_68 : decode cX1_meetParts 68 = .ok (.iconst 0, 1) := by decide +kernel
theorem dX1_meetParts_69 : decode cX1_meetParts 69 = .ok (.istore 8, 2) := by decide +kernel
theorem dX1_meetParts_71 : decode cX1_meetParts 71 = .ok (.aload_n 0, 1) := by decide +kernel
theorem dX1_meetParts_72 : decode cX1_meetParts 72 = .ok (.aload_n 0, 1) := by decide +kernel
theorem dX1_meetParts_73 : decode cX1_meetParts 73 = .ok (.aload_n 0, 1) := by decide +kernel
theorem dX1_meetParts_74 : decode cX1_meetParts 74 = .ok (.getfield 21, 3) := by decide +kernel
theorem dX1_meetParts_77 : decode cX1_meetParts 77 = .ok (.iload 4, 2) := by decide +kernel
theorem dX1_meetParts_79 : decode cX1_meetParts 79 = .ok (.iload 7, 2) := by decide +kernel
theorem dX1_meetParts_81 : decode cX1_meetParts 81 = .ok (.invokevirtual 78, 3) := by decide +kernel
theorem dX1_meetParts_84 : decode cX1_meetParts 84 = .ok (.aload_n 0, 1) := by decide +kernel
theorem dX1_meetParts_85 : decode cX1_meetParts 85 = .ok (.getfield 25, 3) := by decide +kernel
theorem dX1_meetParts_88 : decode cX1_meetParts 88 = .ok (.iload 5, 2) := by decide +kernel
theorem dX1_meetParts_90 : decode cX1_meetParts 90 = .ok (.iload 7, 2) := by decide +kernel
theorem dX1_meetParts_92 : decode cX1_meetParts 92 = .ok (.invokevirtual 78, 3) := by decide +kernel
theorem dX1_meetParts_95 : decode cX1_meetParts 95 = .ok (.iload 8, 2) := by decide +kernel
theorem dX1_meetParts_97 : decode cX1_meetParts 97 = .ok (.invokevirtual 45, 3) := by decide +kernel
theorem dX1_meetParts_100 : decode cX1_meetParts 100 = .ok (.iconst 1, 1) := by decide +kernel
theorem dX1_meetParts_101 : decode cX1_meetParts 101 = .ok (.iconst 2, 1) := by decide +kernel
theorem dX1_meetParts_102 : decode cX1_meetParts 102 = .ok (.iload_n 1, 1) := by decide +kernel
theorem dX1_meetParts_103 : decode cX1_meetParts 103 = .ok (.imul, 1) := by decide +kernel
theorem dX1_meetParts_104 : decode cX1_meetParts 104 = .ok (.iload 7, 2) := by decide +kernel
theorem dX1_meetParts_106 : decode cX1_meetParts 106 = .ok (.iadd, 1) := by decide +kernel
theorem dX1_meetParts_107 : decode cX1_meetParts 107 = .ok (.invokevirtual 49, 3) := by decide +kernel
theorem dX1_meetParts_110 : decode cX1_meetParts 110 = .ok (.iinc 7 1, 3) := by decide +kernel
theorem dX1_meetParts_113 : decode cX1_meetParts 113 = .ok (.goto (-78), 3) := by decide +kernel
theorem dX1_meetParts_116 : decode cX1_meetParts 116 = .ok (.return_, 1) := by decide +kernel
theorem dX1_headsGo_0 : decode cX1_headsGo 0 = .ok (.iload_n 0, 1) := by decide +kernel
theorem dX1_headsGo_1 : decode cX1_headsGo 1 = .ok (.iload_n 1, 1) := by decide +kernel
theorem dX1_headsGo_2 : decode cX1_headsGo 2 = .ok (.if_icmp .ne 5, 3) := by decide +kernel
theorem dX1_headsGo_5 : decode cX1_headsGo 5 = .ok (.iconst 1, 1) := by decide +kernel
theorem dX1_headsGo_6 : decode cX1_headsGo 6 = .ok (.ireturn, 1) := by decide +kernel
theorem dX1_headsGo_7 : decode cX1_headsGo 7 = .ok (.iload_n 2, 1) := by decide +kernel
theorem dX1_headsGo_8 : decode cX1_headsGo 8 = .ok (.iconst 3, 1) := by decide +kernel
theorem dX1_headsGo_9 : decode cX1_headsGo 9 = .ok (.if_icmp .eq 14, 3) := by decide +kernel
theorem dX1_headsGo_12 : decode cX1_headsGo 12 = .ok (.iload_n 0, 1) := by decide +kernel
theorem dX1_headsGo_13 : decode cX1_headsGo 13 = .ok (.ifCond .eq 8, 3) := by decide +kernel
theorem dX1_headsGo_16 : decode cX1_headsGo 16 = .ok (.iload_n 1, 1) := by decide +kernel
theorem dX1_headsGo_17 : decode cX1_headsGo 17 = .ok (.iconst 3, 1) := by decide +kernel
theorem dX1_headsGo_18 : decode cX1_headsGo 18 = .ok (.if_icmp .ne 5, 3) := by decide +kernel
theorem dX1_headsGo_21 : decode cX1_headsGo 21 = .ok (.iconst 1, 1) := by decide +kernel
theorem dX1_headsGo_22 : decode cX1_headsGo 22 = .ok (.ireturn, 1) := by decide +kernel
theorem dX1_headsGo_23 : decode cX1_headsGo 23 = .ok (.iload_n 0, 1) := by decide +kernel
theorem dX1_headsGo_24 : decode cX1_headsGo 24 = .ok (.iconst 1, 1) := by decide +kernel
theorem dX1_headsGo_25 : decode cX1_headsGo 25 = .ok (.if_icmp .ne 24, 3) := by decide +kernel
theorem dX1_headsGo_28 : decode cX1_headsGo 28 = .ok (.iload_n 1, 1) := by decide +kernel
theorem dX1_headsGo_29 : decode cX1_headsGo 29 = .ok (.iconst 2, 1) := by decide +kernel
theorem dX1_headsGo_30 : decode cX1_headsGo 30 = .ok (.if_icmp .ne 19, 3) := by decide +kernel
theorem dX1_headsGo_33 : decode cX1_headsGo 33 = .ok (.iload_n 2, 1) := by decide +kernel
theorem dX1_headsGo_34 : decode cX1_headsGo 34 = .ok (.iconst 1, 1) := by decide +kernel
theorem dX1_headsGo_35 : decode cX1_headsGo 35 = .ok (.if_icmp .eq 12, 3) := by decide +kernel
theorem dX1_headsGo_38 : decode cX1_headsGo 38 = .ok (.iload_n 2, 1) := by decide +kernel
theorem dX1_headsGo_39 : decode cX1_headsGo 39 = .ok (.iconst 3, 1) := by decide +kernel
theorem dX1_headsGo_40 : decode cX1_headsGo 40 = .ok (.if_icmp .eq 7, 3) := by decide +kernel
theorem dX1_headsGo_43 : decode cX1_headsGo 43 = .ok (.iconst 1, 1) := by decide +kernel
theorem dX1_headsGo_44 : decode cX1_headsGo 44 = .ok (.goto 4, 3) := by decide +kernel
theorem dX1_headsGo_47 : decode cX1_headsGo 47 = .ok (.iconst 0, 1) := by decide +kernel
theorem dX1_headsGo_48 : decode cX1_headsGo 48 = .ok (.ireturn, 1) := by decide +kernel
theorem dX1_headsGo_49 : decode cX1_headsGo 49 = .ok (.iload_n 2, 1) := by decide +kernel
theorem dX1_headsGo_50 : decode cX1_headsGo 50 = .ok (.iconst 4, 1) := by decide +kernel
theorem dX1_headsGo_51 : decode cX1_headsGo 51 = .ok (.if_icmp .ne 17, 3) := by decide +kernel
theorem dX1_headsGo_54 : decode cX1_headsGo 54 = .ok (.iload_n 0, 1) := by decide +kernel
theorem dX1_headsGo_55 : decode cX1_headsGo 55 = .ok (.iconst 2, 1) := by decide +kernel
theorem dX1_headsGo_56 : decode cX1_headsGo 56 = .ok (.if_icmp .ne 12, 3) := by decide +kernel
theorem dX1_headsGo_59 : decode cX1_headsGo 59 = .ok (.iload_n 1, 1) := by decide +kernel
theorem dX1_headsGo_60 : decode cX1_headsGo 60 = .ok (.iconst 1, 1) := by decide +kernel
theorem dX1_headsGo_61 : decode cX1_headsGo 61 = .ok (.if_icmp .ne 7, 3) := by decide +kernel
theorem dX1_headsGo_64 : decode cX1_headsGo 64 = .ok (.iconst 1, 1) := by decide +kernel
theorem dX1_headsGo_65 : decode cX1_headsGo 65 = .ok (.goto 4, 3) := by decide +kernel
theorem dX1_headsGo_68 : decode cX1_headsGo 68 = .ok (.iconst 0, 1) := by decide +kernel
theorem dX1_headsGo_69 : decode cX1_headsGo 69 = .ok (.ireturn, 1) := by decide +kernel
theorem dX1_stepCount_0 : decode cX1_stepCount 0 = .ok (.iconst 0, 1) := by decide +kernel
theorem dX1_stepCount_1 : decode cX1_stepCount 1 = .ok (.istore_n 2, 1) := by decide +kernel
theorem dX1_stepCount_2 : decode cX1_stepCount 2 = .ok (.iload_n 1, 1) := by decide +kernel
theorem dX1_stepCount_3 : decode cX1_stepCount 3 = .ok (.istore_n 3, 1) := by decide +kernel
theorem dX1_stepCount_4 : decode cX1_stepCount 4 = .ok (.iload_n 3, 1) := by decide +kernel
theorem dX1_stepCount_5 : decode cX1_stepCount 5 = .ok (.ifCond .lt 43, 3) := by decide +kernel
theorem dX1_stepCount_8 : decode cX1_stepCount 8 = .ok (.iload_n 3, 1) := by decide +kernel
theorem dX1_stepCount_9 : decode cX1_stepCount 9 = .ok (.aload_n 0, 1) := by decide +kernel
theorem dX1_stepCount_10 : decode cX1_stepCount 10 = .ok (.getfield 28, 3) := by decide +kernel
theorem dX1_stepCount_13 : decode cX1_stepCount 13 = .ok (.if_icmp .ge 35, 3) := by decide +kernel
theorem dX1_stepCount_16 : decode cX1_stepCount 16 = .ok (.aload_n 0, 1) := by decide +kernel
theorem dX1_stepCount_17 : decode cX1_stepCount 17 = .ok (.getfield 15, 3) := by decide +kernel
theorem dX1_stepCount_20 : decode cX1_stepCount 20 = .ok (.iload_n 3, 1) := by decide +kernel
theorem dX1_stepCount_21 : decode cX1_stepCount 21 = .ok (.iaload, 1) := by decide +kernel
theorem dX1_stepCount_22 : decode cX1_stepCount 22 = .ok (.iconst (-1), 1) := by decide +kernel
theorem dX1_stepCount_23 : decode cX1_stepCount 23 = .ok (.if_icmp .eq 25, 3) := by decide +kernel
theorem dX1_stepCount_26 : decode cX1_stepCount 26 = .ok (.iload_n 2, 1) := by decide +kernel
theorem dX1_stepCount_27 : decode cX1_stepCount 27 = .ok (.sipush 3200, 3) := by decide +kernel
theorem dX1_stepCount_30 : decode cX1_stepCount 30 = .ok (.if_icmp .ge 18, 3) := by decide +kernel
theorem dX1_stepCount_33 : decode cX1_stepCount 33 = .ok (.aload_n 0, 1) := by decide +kernel
theorem dX1_stepCount_34 : decode cX1_stepCount 34 = .ok (.getfield 15, 3) := by decide +kernel
theorem dX1_stepCount_37 : decode cX1_stepCount 37 = .ok (.iload_n 3, 1) := by decide +kernel
theorem dX1_stepCount_38 : decode cX1_stepCount 38 = .ok (.iaload, 1) := by decide +kernel
theorem dX1_stepCount_39 : decode cX1_stepCount 39 = .ok (.iconst 2, 1) := by decide +kernel
theorem dX1_stepCount_40 : decode cX1_stepCount 40 = .ok (.idiv, 1) := by decide +kernel
theorem dX1_stepCount_41 : decode cX1_stepCount 41 = .ok (.istore_n 3, 1) := by decide +kernel
theorem dX1_stepCount_42 : decode cX1_stepCount 42 = .ok (.iinc 2 1, 3) := by decide +kernel
theorem dX1_stepCount_45 : decode cX1_stepCount 45 = .ok (.goto (-41), 3) := by decide +kernel
theorem dX1_stepCount_48 : decode cX1_stepCount 48 = .ok (.iload_n 2, 1) := by decide +kernel
theorem dX1_stepCount_49 : decode cX1_stepCount 49 = .ok (.ireturn, 1) := by decide +kernel
theorem dX1_lastStep_0 : decode cX1_lastStep 0 = .ok (.iload_n 1, 1) := by decide +kernel
theorem dX1_lastStep_1 : decode cX1_lastStep 1 = .ok (.istore_n 3, 1) := by decide +kernel
theorem dX1_lastStep_2 : decode cX1_lastStep 2 = .ok (.iconst 0, 1) := by decide +kernel
theorem dX1_lastStep_3 : decode cX1_lastStep 3 = .ok (.istore 4, 2) := by decide +kernel
theorem dX1_lastStep_5 : decode cX1_lastStep 5 = .ok (.iload 4, 2) := by decide +kernel
theorem dX1_lastStep_7 : decode cX1_lastStep 7 = .ok (.iload_n 2, 1) := by decide +kernel
theorem dX1_lastStep_8 : decode cX1_lastStep 8 = .ok (.if_icmp .ge 30, 3) := by decide +kernel
theorem dX1_lastStep_11 : decode cX1_lastStep 11 = .ok (.iload_n 3, 1) := by decide +kernel
theorem dX1_lastStep_12 : decode cX1_lastStep 12 = .ok (.ifCond .le 26, 3) := by decide +kernel
theorem dX1_lastStep_15 : decode cX1_lastStep 15 = .ok (.iload_n 3, 1) := by decide +kernel
theorem dX1_lastStep_16 : decode cX1_lastStep 16 = .ok (.aload_n 0, 1) := by decide +kernel
theorem dX1_lastStep_17 : decode cX1_lastStep 17 = .ok (.getfield 28, 3) := by decide +kernel
theorem dX1_lastStep_20 : decode cX1_lastStep 20 = .ok (.if_icmp .ge 18, 3) := by decide +kernel
theorem dX1_lastStep_23 : decode cX1_lastStep 23 = .ok (.aload_n 0, 1) := by decide +kernel
theorem dX1_lastStep_24 : decode cX1_lastStep 24 = .ok (.getfield 15, 3) := by decide +kernel
theorem dX1_lastStep_27 : decode cX1_lastStep 27 = .ok (.iload_n 3, 1) := by decide +kernel
theorem dX1_lastStep_28 : decode cX1_lastStep 28 = .ok (.iaload, 1) := by decide +kernel
theorem dX1_lastStep_29 : decode cX1_lastStep 29 = .ok (.iconst 2, 1) := by decide +kernel
theorem dX1_lastStep_30 : decode cX1_lastStep 30 = .ok (.idiv, 1) := by decide +kernel
theorem dX1_lastStep_31 : decode cX1_lastStep 31 = .ok (.istore_n 3, 1) := by decide +kernel
theorem dX1_lastStep_32 : decode cX1_lastStep 32 = .ok (.iinc 4 1, 3) := by decide +kernel
theorem dX1_lastStep_35 : decode cX1_lastStep 35 = .ok (.goto (-30), 3) := by decide +kernel
theorem dX1_lastStep_38 : decode cX1_lastStep 38 = .ok (.iload_n 3, 1) := by decide +kernel
theorem dX1_lastStep_39 : decode cX1_lastStep 39 = .ok (.ifCond .le 22, 3) := by decide +kernel
theorem dX1_lastStep_42 : decode cX1_lastStep 42 = .ok (.iload_n 3, 1) := by decide +kernel
theorem dX1_lastStep_43 : decode cX1_lastStep 43 = .ok (.aload_n 0, 1) := by decide +kernel
theorem dX1_lastStep_44 : decode cX1_lastStep 44 = .ok (.getfield 28, 3) := by decide +kernel
theorem dX1_lastStep_47 : decode cX1_lastStep 47 = .ok (.if_icmp .ge 14, 3) := by decide +kernel
theorem dX1_lastStep_50 : decode cX1_lastStep 50 = .ok (.aload_n 0, 1) := by decide +kernel
theorem dX1_lastStep_51 : decode cX1_lastStep 51 = .ok (.getfield 15, 3) := by decide +kernel
theorem dX1_lastStep_54 : decode cX1_lastStep 54 = .ok (.iload_n 3, 1) := by decide +kernel
theorem dX1_lastStep_55 : decode cX1_lastStep 55 = .ok (.iaload, 1) := by decide +kernel
theorem dX1_lastStep_56 : decode cX1_lastStep 56 = .ok (.iconst 2, 1) := by decide +kernel
theorem dX1_lastStep_57 : decode cX1_lastStep 57 = .ok (.irem, 1) := by decide +kernel
theorem dX1_lastStep_58 : decode cX1_lastStep 58 = .ok (.goto 4, 3) := by decide +kernel
theorem dX1_lastStep_61 : decode cX1_lastStep 61 = .ok (.iconst 0, 1) := by decide +kernel
theorem dX1_lastStep_62 : decode cX1_lastStep 62 = .ok (.ireturn, 1) := by decide +kernel
theorem dX1_sameDownTo_0 : decode cX1_sameDownTo 0 = .ok (.aload_n 0, 1) := by decide +kernel
theorem dX1_sameDownTo_1 : decode cX1_sameDownTo 1 = .ok (.aload_n 1, 1) := by decide +kernel
theorem dX1_sameDownTo_2 : decode cX1_sameDownTo 2 = .ok (.aload_n 2, 1) := by decide +kernel
theorem dX1_sameDownTo_3 : decode cX1_sameDownTo 3 = .ok (.invokevirtual 41, 3) := by decide +kernel
theorem dX1_sameDownTo_6 : decode cX1_sameDownTo 6 = .ok (.aload_n 0, 1) := by decide +kernel
theorem dX1_sameDownTo_7 : decode cX1_sameDownTo 7 = .ok (.aload_n 0, 1) := by decide +kernel
theorem dX1_sameDownTo_8 : decode cX1_sameDownTo 8 = .ok (.iconst 0, 1) := by decide +kernel
theorem dX1_sameDownTo_9 : decode cX1_sameDownTo 9 = .ok (.iconst 0, 1) := by decide +kernel
theorem dX1_sameDownTo_10 : decode cX1_sameDownTo 10 = .ok (.iconst 0, 1) := by decide +kernel
theorem dX1_sameDownTo_11 : decode cX1_sameDownTo 11 = .ok (.invokevirtual 45, 3) := by decide +kernel
theorem dX1_sameDownTo_14 : decode cX1_sameDownTo 14 = .ok (.iconst 1, 1) := by decide +kernel
theorem dX1_sameDownTo_15 : decode cX1_sameDownTo 15 = .ok (.iconst (-1), 1) := by decide +kernel
theorem dX1_sameDownTo_16 : decode cX1_sameDownTo 16 = .ok (.invokevirtual 49, 3) := by decide +kernel
theorem dX1_sameDownTo_19 : decode cX1_sameDownTo 19 = .ok (.iconst 0, 1) := by decide +kernel
theorem dX1_sameDownTo_20 : decode cX1_sameDownTo 20 = .ok (.istore 4, 2) := by decide +kernel
theorem dX1_sameDownTo_22 : decode cX1_sameDownTo 22 = .ok (.iconst 0, 1) := by decide +kernel
theorem dX1_sameDownTo_23 : decode cX1_sameDownTo 23 = .ok (.istore 5, 2) := by decide +kernel
theorem dX1_sameDownTo_25 : decode cX1_sameDownTo 25 = .ok (.iload 5, 2) := by decide +kernel
theorem dX1_sameDownTo_27 : decode cX1_sameDownTo 27 = .ok (.iload_n 3, 1) := by decide +kernel
theorem dX1_sameDownTo_28 : decode cX1_sameDownTo 28 = .ok (.if_icmp .gt 75, 3) := by decide +kernel
theorem dX1_sameDownTo_31 : decode cX1_sameDownTo 31 = .ok (.aload_n 0, 1) := by decide +kernel
theorem dX1_sameDownTo_32 : decode cX1_sameDownTo 32 = .ok (.getfield 28, 3) := by decide +kernel
theorem dX1_sameDownTo_35 : decode cX1_sameDownTo 35 = .ok (.istore 6, 2) := by decide +kernel
theorem dX1_sameDownTo_37 : decode cX1_sameDownTo 37 = .ok (.iload 4, 2) := by decide +kernel
theorem dX1_sameDownTo_39 : decode cX1_sameDownTo 39 = .ok (.iload 6, 2) := by decide +kernel
theorem dX1_sameDownTo_41 : decode cX1_sameDownTo 41 = .ok (.if_icmp .ge 56, 3) := by decide +kernel
theorem dX1_sameDownTo_44 : decode cX1_sameDownTo 44 = .ok (.aload_n 0, 1) := by decide +kernel
theorem dX1_sameDownTo_45 : decode cX1_sameDownTo 45 = .ok (.getfield 9, 3) := by decide +kernel
theorem dX1_sameDownTo_48 : decode cX1_sameDownTo 48 = .ok (.iload 4, 2) := by decide +kernel
theorem dX1_sameDownTo_50 : decode cX1_sameDownTo 50 = .ok (.iaload, 1) := by decide +kernel
theorem dX1_sameDownTo_51 : decode cX1_sameDownTo 51 = .ok (.istore 7, 2) := by decide +kernel
theorem dX1_sameDownTo_53 : decode cX1_sameDownTo 53 = .ok (.aload_n 0, 1) := by decide +kernel
theorem dX1_sameDownTo_54 : decode cX1_sameDownTo 54 = .ok (.getfield 21, 3) := by decide +kernel
theorem dX1_sameDownTo_57 : decode cX1_sameDownTo 57 = .ok (.aload_n 0, 1) := by decide +kernel
theorem dX1_sameDownTo_58 : decode cX1_sameDownTo 58 = .ok (.iload 7, 2) := by decide +kernel
theorem dX1_sameDownTo_60 : decode cX1_sameDownTo 60 = .ok (.invokevirtual 57, 3) := by decide +kernel
theorem dX1_sameDownTo_63 : decode cX1_sameDownTo 63 = .ok (.invokevirtual 61, 3) := by decide +kernel
theorem dX1_sameDownTo_66 : decode cX1_sameDownTo 66 = .ok (.aload_n 0, 1) := by decide +kernel
theorem dX1_sameDownTo_67 : decode cX1_sameDownTo 67 = .ok (.getfield 25, 3) := by decide +kernel
theorem dX1_sameDownTo_70 : decode cX1_sameDownTo 70 = .ok (.aload_n 0, 1) := by decide +kernel
theorem dX1_sameDownTo_71 : decode cX1_sameDownTo 71 = .ok (.iload 7, 2) := by decide +kernel
theorem dX1_sameDownTo_73 : decode cX1_sameDownTo 73 = .ok (.invokevirtual 64, 3) := by decide +kernel
theorem dX1_sameDownTo_76 : decode cX1_sameDownTo 76 = .ok (.invokevirtual 61, 3) := by decide +kernel
theorem dX1_sameDownTo_79 : decode cX1_sameDownTo 79 = .ok (.if_icmp .eq 5, 3) := by decide +kernel
theorem dX1_sameDownTo_82 : decode cX1_sameDownTo 82 = .ok (.iconst 0, 1) := by decide +kernel
theorem dX1_sameDownTo_83 : decode cX1_sameDownTo 83 = .ok (.ireturn, 1) := by decide +kernel
theorem dX1_sameDownTo_84 : decode cX1_sameDownTo 84 = .ok (.aload_n 0, 1) := by decide +kernel
theorem dX1_sameDownTo_85 : decode cX1_sameDownTo 85 = .ok (.iload 4, 2) := by decide +kernel
theorem dX1_sameDownTo_87 : decode cX1_sameDownTo 87 = .ok (.iconst 0, 1) := by decide +kernel
theorem dX1_sameDownTo_88 : decode cX1_sameDownTo 88 = .ok (.invokevirtual 71, 3) := by decide +kernel
theorem dX1_sameDownTo_91 : decode cX1_sameDownTo 91 = .ok (.iinc 4 1, 3) := by decide +kernel
theorem dX1_sameDownTo_94 : decode cX1_sameDownTo 94 = .ok (.goto (-57), 3) := by decide +kernel
theorem dX1_sameDownTo_97 : decode cX1_sameDownTo 97 = .ok (.iinc 5 1, 3) := by decide +kernel
theorem dX1_sameDownTo_100 : decode cX1_sameDownTo 100 = .ok (.goto (-75), 3) := by decide +kernel
theorem dX1_sameDownTo_103 : decode cX1_sameDownTo 103 = .ok (.iconst 1, 1) := by decide +kernel
theorem dX1_sameDownTo_104 : decode cX1_sameDownTo 104 = .ok (.ireturn, 1) := by decide +kernel
theorem dX1_boundOf_0 : decode cX1_boundOf 0 = .ok (.aload_n 0, 1) := by decide +kernel
theorem dX1_boundOf_1 : decode cX1_boundOf 1 = .ok (.aload_n 1, 1) := by decide +kernel
theorem dX1_boundOf_2 : decode cX1_boundOf 2 = .ok (.aload_n 2, 1) := by decide +kernel
theorem dX1_boundOf_3 : decode cX1_boundOf 3 = .ok (.invokevirtual 41, 3) := by decide +kernel
theorem dX1_boundOf_6 : decode cX1_boundOf 6 = .ok (.aload 4, 2) := by decide +kernel
theorem dX1_boundOf_8 : decode cX1_boundOf 8 = .ok (.invokevirtual 82, 3) := by decide +kernel
theorem dX1_boundOf_11 : decode cX1_boundOf 11 = .ok (.aload 4, 2) := by decide +kernel
theorem dX1_boundOf_13 : decode cX1_boundOf 13 = .ok (.aload_n 1, 1) := by decide +kernel
theorem dX1_boundOf_14 : decode cX1_boundOf 14 = .ok (.invokevirtual 86, 3) := by decide +kernel
theorem dX1_boundOf_17 : decode cX1_boundOf 17 = .ok (.pop, 1) := by decide +kernel
theorem dX1_boundOf_18 : decode cX1_boundOf 18 = .ok (.aload 4, 2) := by decide +kernel
theorem dX1_boundOf_20 : decode cX1_boundOf 20 = .ok (.aload_n 2, 1) := by decide +kernel
theorem dX1_boundOf_21 : decode cX1_boundOf 21 = .ok (.invokevirtual 86, 3) := by decide +kernel
theorem dX1_boundOf_24 : decode cX1_boundOf 24 = .ok (.pop, 1) := by decide +kernel
theorem dX1_boundOf_25 : decode cX1_boundOf 25 = .ok (.aload_n 0, 1) := by decide +kernel
theorem dX1_boundOf_26 : decode cX1_boundOf 26 = .ok (.iconst 0, 1) := by decide +kernel
theorem dX1_boundOf_27 : decode cX1_boundOf 27 = .ok (.iconst 0, 1) := by decide +kernel
theorem dX1_boundOf_28 : decode cX1_boundOf 28 = .ok (.iload_n 3, 1) := by decide +kernel
theorem dX1_boundOf_29 : decode cX1_boundOf 29 = .ok (.aload 4, 2) := by decide +kernel
theorem dX1_boundOf_31 : decode cX1_boundOf 31 = .ok (.invokevirtual 90, 3) := by decide +kernel
theorem dX1_boundOf_34 : decode cX1_boundOf 34 = .ok (.istore 5, 2) := by decide +kernel
theorem dX1_boundOf_36 : decode cX1_boundOf 36 = .ok (.iconst 0, 1) := by decide +kernel
theorem dX1_boundOf_37 : decode cX1_boundOf 37 = .ok (.istore 6, 2) := by decide +kernel
theorem dX1_boundOf_39 : decode cX1_boundOf 39 = .ok (.iload 6, 2) := by decide +kernel
theorem dX1_boundOf_41 : decode cX1_boundOf 41 = .ok (.aload_n 0, 1) := by decide +kernel
theorem dX1_boundOf_42 : decode cX1_boundOf 42 = .ok (.getfield 28, 3) := by decide +kernel
theorem dX1_boundOf_45 : decode cX1_boundOf 45 = .ok (.if_icmp .ge 187, 3) := by decide +kernel
theorem dX1_boundOf_48 : decode cX1_boundOf 48 = .ok (.iload 6, 2) := by decide +kernel
theorem dX1_boundOf_50 : decode cX1_boundOf 50 = .ok (.sipush 3200, 3) := by decide +kernel
theorem dX1_boundOf_53 : decode cX1_boundOf 53 = .ok (.if_icmp .ge 179, 3) := by decide +kernel
theorem dX1_boundOf_56 : decode cX1_boundOf 56 = .ok (.aload_n 0, 1) := by decide +kernel
theorem dX1_boundOf_57 : decode cX1_boundOf 57 = .ok (.getfield 9, 3) := by decide +kernel
theorem dX1_boundOf_60 : decode cX1_boundOf 60 = .ok (.iload 6, 2) := by decide +kernel
theorem dX1_boundOf_62 : decode cX1_boundOf 62 = .ok (.iaload, 1) := by decide +kernel
theorem dX1_boundOf_63 : decode cX1_boundOf 63 = .ok (.istore 7, 2) := by decide +kernel
theorem dX1_boundOf_65 : decode cX1_boundOf 65 = .ok (.aload_n 0, 1) := by decide +kernel
theorem dX1_boundOf_66 : decode cX1_boundOf 66 = .ok (.iload 7, 2) := by decide +kernel
theorem dX1_boundOf_68 : decode cX1_boundOf 68 = .ok (.invokevirtual 57, 3) := by decide +kernel
theorem dX1_boundOf_71 : decode cX1_boundOf 71 = .ok (.istore 8, 2) := by decide +kernel
theorem dX1_boundOf_73 : decode cX1_boundOf 73 = .ok (.aload_n 0, 1) := by decide +kernel
theorem dX1_boundOf_74 : decode cX1_boundOf 74 = .ok (.iload 7, 2) := by decide +kernel
theorem dX1_boundOf_76 : decode cX1_boundOf 76 = .ok (.invokevirtual 64, 3) := by decide +kernel
theorem dX1_boundOf_79 : decode cX1_boundOf 79 = .ok (.istore 9, 2) := by decide +kernel
theorem dX1_boundOf_81 : decode cX1_boundOf 81 = .ok (.aload_n 0, 1) := by decide +kernel
theorem dX1_boundOf_82 : decode cX1_boundOf 82 = .ok (.iload 7, 2) := by decide +kernel
theorem dX1_boundOf_84 : decode cX1_boundOf 84 = .ok (.invokevirtual 53, 3) := by decide +kernel
theorem dX1_boundOf_87 : decode cX1_boundOf 87 = .ok (.ifCond .ne 7, 3) := by decide +kernel
theorem dX1_boundOf_90 : decode cX1_boundOf 90 = .ok (.iconst 1, 1) := by decide +kernel
theorem dX1_boundOf_91 : decode cX1_boundOf 91 = .ok (.goto 4, 3) := by decide +kernel
theorem dX1_boundOf_94 : decode cX1_boundOf 94 = .ok (.iconst 0, 1) := by decide +kernel
theorem dX1_boundOf_95 : decode cX1_boundOf 95 = .ok (.istore 10, 2) := by decide +kernel
theorem dX1_boundOf_97 : decode cX1_boundOf 97 = .ok (.aload_n 0, 1) := by decide +kernel
theorem dX1_boundOf_98 : decode cX1_boundOf 98 = .ok (.getfield 21, 3) := by decide +kernel
theorem dX1_boundOf_101 : decode cX1_boundOf 101 = .ok (.iload 8, 2) := by decide +kernel
theorem dX1_boundOf_103 : decode cX1_boundOf 103 = .ok (.invokevirtual 61, 3) := by decide +kernel
theorem dX1_boundOf_106 : decode cX1_boundOf 106 = .ok (.istore 11, 2) := by decide +kernel
theorem dX1_boundOf_108 : decode cX1_boundOf 108 = .ok (.iload 11, 2) := by decide +kernel
theorem dX1_boundOf_110 : decode cX1_boundOf 110 = .ok (.aload_n 0, 1) := by decide +kernel
theorem dX1_boundOf_111 : decode cX1_boundOf 111 = .ok (.getfield 25, 3) := by decide +kernel
theorem dX1_boundOf_114 : decode cX1_boundOf 114 = .ok (.iload 9, 2) := by decide +kernel
theorem dX1_boundOf_116 : decode cX1_boundOf 116 = .ok (.invokevirtual 61, 3) := by decide +kernel
theorem dX1_boundOf_119 : decode cX1_boundOf 119 = .ok (.if_icmp .ne 11, 3) := by decide +kernel
theorem dX1_boundOf_122 : decode cX1_boundOf 122 = .ok (.iload 11, 2) := by decide +kernel
theorem dX1_boundOf_124 : decode cX1_boundOf 124 = .ok (.invokestatic 94, 3) := by decide +kernel
theorem dX1_boundOf_127 : decode cX1_boundOf 127 = .ok (.goto 4, 3) := by decide +kernel
theorem dX1_boundOf_130 : decode cX1_boundOf 130 = .ok (.iconst 0, 1) := by decide +kernel
theorem dX1_boundOf_131 : decode cX1_boundOf 131 = .ok (.istore 12, 2) := by decide +kernel
theorem dX1_boundOf_133 : decode cX1_boundOf 133 = .ok (.iconst 0, 1) := by decide +kernel
theorem dX1_boundOf_134 : decode cX1_boundOf 134 = .ok (.istore 13, 2) := by decide +kernel
theorem dX1_boundOf_136 : decode cX1_boundOf 136 = .ok (.iload 13, 2) := by decide +kernel
theorem dX1_boundOf_138 : decode cX1_boundOf 138 = .ok (.iload 12, 2) := by decide +kernel
theorem dX1_boundOf_140 : decode cX1_boundOf 140 = .ok (.if_icmp .ge 86, 3) := by decide +kernel
theorem dX1_boundOf_143 : decode cX1_boundOf 143 = .ok (.iload 10, 2) := by decide +kernel
theorem dX1_boundOf_145 : decode cX1_boundOf 145 = .ok (.iload 11, 2) := by decide +kernel
theorem dX1_boundOf_147 : decode cX1_boundOf 147 = .ok (.bipush 6, 2) := by decide +kernel
theorem dX1_boundOf_149 : decode cX1_boundOf 149 = .ok (.if_icmp .ne 12, 3) := by decide +kernel
theorem dX1_boundOf_152 : decode cX1_boundOf 152 = .ok (.iload 13, 2) := by decide +kernel
theorem dX1_boundOf_154 : decode cX1_boundOf 154 = .ok (.ifCond .ne 7, 3) := by decide +kernel
theorem dX1_boundOf_157 : decode cX1_boundOf 157 = .ok (.iconst 1, 1) := by decide +kernel
theorem dX1_boundOf_158 : decode cX1_boundOf 158 = .ok (.goto 4, 3) := by decide +kernel
theorem dX1_boundOf_161 : decode cX1_boundOf 161 = .ok (.iconst 0, 1) := by decide +kernel
theorem dX1_boundOf_162 : decode cX1_boundOf 162 = .ok (.if_icmp .eq 7, 3) := by decide +kernel
theorem dX1_boundOf_165 : decode cX1_boundOf 165 = .ok (.iconst 1, 1) := by decide +kernel
theorem dX1_boundOf_166 : decode cX1_boundOf 166 = .ok (.goto 4, 3) := by decide +kernel
theorem dX1_boundOf_169 : decode cX1_boundOf 169 = .ok (.iconst 0, 1) := by decide +kernel
theorem dX1_boundOf_170 : decode cX1_boundOf 170 = .ok (.istore 14, 2) := by decide +kernel
theorem dX1_boundOf_172 : decode cX1_boundOf 172 = .ok (.aload_n 0, 1) := by decide +kernel
theorem dX1_boundOf_173 : decode cX1_boundOf 173 = .ok (.aload_n 0, 1) := by decide +kernel
theorem dX1_boundOf_174 : decode cX1_boundOf 174 = .ok (.getfield 21, 3) := by decide +kernel
theorem dX1_boundOf_177 : decode cX1_boundOf 177 = .ok (.iload 8, 2) := by decide +kernel
theorem dX1_boundOf_179 : decode cX1_boundOf 179 = .ok (.iload 13, 2) := by decide +kernel
theorem dX1_boundOf_181 : decode cX1_boundOf 181 = .ok (.invokevirtual 78, 3) := by decide +kernel
theorem dX1_boundOf_184 : decode cX1_boundOf 184 = .ok (.aload_n 0, 1) := by decide +kernel
theorem dX1_boundOf_185 : decode cX1_boundOf 185 = .ok (.getfield 25, 3) := by decide +kernel
theorem dX1_boundOf_188 : decode cX1_boundOf 188 = .ok (.iload 9, 2) := by decide +kernel
theorem dX1_boundOf_190 : decode cX1_boundOf 190 = .ok (.iload 13, 2) := by decide +kernel
theorem dX1_boundOf_192 : decode cX1_boundOf 192 = .ok (.invokevirtual 78, 3) := by decide +kernel
theorem dX1_boundOf_195 : decode cX1_boundOf 195 = .ok (.iload 14, 2) := by decide +kernel
theorem dX1_boundOf_197 : decode cX1_boundOf 197 = .ok (.aload 4, 2) := by decide +kernel
theorem dX1_boundOf_199 : decode cX1_boundOf 199 = .ok (.invokevirtual 90, 3) := by decide +kernel
theorem dX1_boundOf_202 : decode cX1_boundOf 202 = .ok (.istore 15, 2) := by decide +kernel
theorem dX1_boundOf_204 : decode cX1_boundOf 204 = .ok (.aload 4, 2) := by decide +kernel
theorem dX1_boundOf_206 : decode cX1_boundOf 206 = .ok (.aload_n 0, 1) := by decide +kernel
theorem dX1_boundOf_207 : decode cX1_boundOf 207 = .ok (.getfield 18, 3) := by decide +kernel
theorem dX1_boundOf_210 : decode cX1_boundOf 210 = .ok (.iload 7, 2) := by decide +kernel
theorem dX1_boundOf_212 : decode cX1_boundOf 212 = .ok (.iaload, 1) := by decide +kernel
theorem dX1_boundOf_213 : decode cX1_boundOf 213 = .ok (.iload 13, 2) := by decide +kernel
theorem dX1_boundOf_215 : decode cX1_boundOf 215 = .ok (.iload 15, 2) := by decide +kernel
theorem dX1_boundOf_217 : decode cX1_boundOf 217 = .ok (.invokevirtual 97, 3) := by decide +kernel
theorem dX1_boundOf_220 : decode cX1_boundOf 220 = .ok (.iinc 13 1, 3) := by decide +kernel
theorem dX1_boundOf_223 : decode cX1_boundOf 223 = .ok (.goto (-87), 3) := by decide +kernel
theorem dX1_boundOf_226 : decode cX1_boundOf 226 = .ok (.iinc 6 1, 3) := by decide +kernel
theorem dX1_boundOf_229 : decode cX1_boundOf 229 = .ok (.goto (-190), 3) := by decide +kernel
theorem dX1_boundOf_232 : decode cX1_boundOf 232 = .ok (.aload 4, 2) := by decide +kernel
theorem dX1_boundOf_234 : decode cX1_boundOf 234 = .ok (.iload 5, 2) := by decide +kernel
theorem dX1_boundOf_236 : decode cX1_boundOf 236 = .ok (.invokevirtual 100, 3) := by decide +kernel
theorem dX1_boundOf_239 : decode cX1_boundOf 239 = .ok (.areturn, 1) := by decide +kernel
theorem dX1_boundNode_0 : decode cX1_boundNode 0 = .ok (.aload_n 0, 1) := by decide +kernel
theorem dX1_boundNode_1 : decode cX1_boundNode 1 = .ok (.getfield 21, 3) := by decide +kernel
theorem dX1_boundNode_4 : decode cX1_boundNode 4 = .ok (.iload_n 1, 1) := by decide +kernel
theorem dX1_boundNode_5 : decode cX1_boundNode 5 = .ok (.invokevirtual 61, 3) := by decide +kernel
theorem dX1_boundNode_8 : decode cX1_boundNode 8 = .ok (.istore 5, 2) := by decide +kernel
theorem dX1_boundNode_10 : decode cX1_boundNode 10 = .ok (.aload_n 0, 1) := by decide +kernel
theorem dX1_boundNode_11 : decode cX1_boundNode 11 = .ok (.getfield 25, 3) := by decide +kernel
theorem dX1_boundNode_14 : decode cX1_boundNode 14 = .ok (.iload_n 2, 1) := by decide +kernel
theorem dX1_boundNode_15 : decode cX1_boundNode 15 = .ok (.invokevirtual 61, 3) := by decide +kernel
theorem dX1_boundNode_18 : decode cX1_boundNode 18 = .ok (.istore 6, 2) := by decide +kernel
theorem dX1_boundNode_20 : decode cX1_boundNode 20 = .ok (.iload_n 3, 1) := by decide +kernel
theorem dX1_boundNode_21 : decode cX1_boundNode 21 = .ok (.ifCond .eq 7, 3) := by decide +kernel
theorem dX1_boundNode_24 : decode cX1_boundNode 24 = .ok (.iconst 0, 1) := by decide +kernel
theorem dX1_boundNode_25 : decode cX1_boundNode 25 = .ok (.goto 4, 3) := by decide +kernel
theorem dX1_boundNode_28 : decode cX1_boundNode 28 = .ok (.iconst 3, 1) := by decide +kernel
theorem dX1_boundNode_29 : decode cX1_boundNode 29 = .ok (.istore 7, 2) := by decide +kernel
theorem dX1_boundNode_31 : decode cX1_boundNode 31 = .ok (.iload 5, 2) := by decide +kernel
theorem dX1_boundNode_33 : decode cX1_boundNode 33 = .ok (.iload 7, 2) := by decide +kernel
theorem dX1_boundNode_35 : decode cX1_boundNode 35 = .ok (.if_icmp .ne 13, 3) := by decide +kernel
theorem dX1_boundNode_38 : decode cX1_boundNode 38 = .ok (.aload_n 0, 1) := by decide +kernel
theorem dX1_boundNode_39 : decode cX1_boundNode 39 = .ok (.getfield 21, 3) := by decide +kernel
theorem dX1_boundNode_42 : decode cX1_boundNode 42 = .ok (.getfield 32, 3) := by decide +kernel
theorem dX1_boundNode_45 : decode cX1_boundNode 45 = .ok (.iload_n 2, 1) := by decide +kernel
theorem dX1_boundNode_46 : decode cX1_boundNode 46 = .ok (.iadd, 1) := by decide +kernel
theorem dX1_boundNode_47 : decode cX1_boundNode 47 = .ok (.ireturn, 1) := by decide +kernel
theorem dX1_boundNode_48 : decode cX1_boundNode 48 = .ok (.iload 6, 2) := by decide +kernel
theorem dX1_boundNode_50 : decode cX1_boundNode 50 = .ok (.iload 7, 2) := by decide +kernel
theorem dX1_boundNode_52 : decode cX1_boundNode 52 = .ok (.if_icmp .ne 5, 3) := by decide +kernel
theorem dX1_boundNode_55 : decode cX1_boundNode 55 = .ok (.iload_n 1, 1) := by decide +kernel
theorem dX1_boundNode_56 : decode cX1_boundNode 56 = .ok (.ireturn, 1) := by decide +kernel
theorem dX1_boundNode_57 : decode cX1_boundNode 57 = .ok (.aload_n 0, 1) := by decide +kernel
theorem dX1_boundNode_58 : decode cX1_boundNode 58 = .ok (.iload_n 1, 1) := by decide +kernel
theorem dX1_boundNode_59 : decode cX1_boundNode 59 = .ok (.iload_n 2, 1) := by decide +kernel
theorem dX1_boundNode_60 : decode cX1_boundNode 60 = .ok (.iload_n 3, 1) := by decide +kernel
theorem dX1_boundNode_61 : decode cX1_boundNode 61 = .ok (.ifCond .ne 7, 3) := by decide +kernel
theorem dX1_boundNode_64 : decode cX1_boundNode 64 = .ok (.iconst 1, 1) := by decide +kernel
theorem dX1_boundNode_65 : decode cX1_boundNode 65 = .ok (.goto 4, 3) := by decide +kernel
theorem dX1_boundNode_68 : decode cX1_boundNode 68 = .ok (.iconst 0, 1) := by decide +kernel
theorem dX1_boundNode_69 : decode cX1_boundNode 69 = .ok (.invokevirtual 45, 3) := by decide +kernel
theorem dX1_boundNode_72 : decode cX1_boundNode 72 = .ok (.istore 8, 2) := by decide +kernel
theorem dX1_boundNode_74 : decode cX1_boundNode 74 = .ok (.iload 8, 2) := by decide +kernel
theorem dX1_boundNode_76 : decode cX1_boundNode 76 = .ok (.ifCond .lt 11, 3) := by decide +kernel
theorem dX1_boundNode_79 : decode cX1_boundNode 79 = .ok (.iload 8, 2) := by decide +kernel
theorem dX1_boundNode_81 : decode cX1_boundNode 81 = .ok (.sipush 3200, 3) := by decide +kernel
theorem dX1_boundNode_84 : decode cX1_boundNode 84 = .ok (.if_icmp .lt 5, 3) := by decide +kernel
theorem dX1_boundNode_87 : decode cX1_boundNode 87 = .ok (.iconst 0, 1) := by decide +kernel
theorem dX1_boundNode_88 : decode cX1_boundNode 88 = .ok (.ireturn, 1) := by decide +kernel
theorem dX1_boundNode_89 : decode cX1_boundNode 89 = .ok (.aload_n 0, 1) := by decide +kernel
theorem dX1_boundNode_90 : decode cX1_boundNode 90 = .ok (.getfield 18, 3) := by decide +kernel
theorem dX1_boundNode_93 : decode cX1_boundNode 93 = .ok (.iload 8, 2) := by decide +kernel
theorem dX1_boundNode_95 : decode cX1_boundNode 95 = .ok (.iaload, 1) := by decide +kernel
theorem dX1_boundNode_96 : decode cX1_boundNode 96 = .ok (.iconst (-1), 1) := by decide +kernel
theorem dX1_boundNode_97 : decode cX1_boundNode 97 = .ok (.if_icmp .ne 25, 3) := by decide +kernel
theorem dX1_boundNode_100 : decode cX1_boundNode 100 = .ok (.aload_n 0, 1) := by decide +kernel
theorem dX1_boundNode_101 : decode cX1_boundNode 101 = .ok (.iload 8, 2) := by decide +kernel
theorem dX1_boundNode_103 : decode cX1_boundNode 103 = .ok (.aload 4, 2) := by decide +kernel
theorem dX1_boundNode_105 : decode cX1_boundNode 105 = .ok (.iload 5, 2) := by decide +kernel
theorem dX1_boundNode_107 : decode cX1_boundNode 107 = .ok (.iload 6, 2) := by decide +kernel
theorem dX1_boundNode_109 : decode cX1_boundNode 109 = .ok (.iload_n 3, 1) := by decide +kernel
theorem dX1_boundNode_110 : decode cX1_boundNode 110 = .ok (.invokestatic 104, 3) := by decide +kernel
theorem dX1_boundNode_113 : decode cX1_boundNode 113 = .ok (.iconst 0, 1) := by decide +kernel
theorem dX1_boundNode_114 : decode cX1_boundNode 114 = .ok (.iconst 0, 1) := by decide +kernel
theorem dX1_boundNode_115 : decode cX1_boundNode 115 = .ok (.invokevirtual 107, 3) := by decide +kernel
theorem dX1_boundNode_118 : decode cX1_boundNode 118 = .ok (.iconst (-1), 1) := by decide +kernel
theorem dX1_boundNode_119 : decode cX1_boundNode 119 = .ok (.invokevirtual 49, 3) := by decide +kernel
theorem dX1_boundNode_122 : decode cX1_boundNode 122 = .ok (.aload_n 0, 1) := by decide +kernel
theorem dX1_boundNode_123 : decode cX1_boundNode 123 = .ok (.getfield 18, 3) := by decide +kernel
theorem dX1_boundNode_126 : decode cX1_boundNode 126 = .ok (.iload 8, 2) := by decide +kernel
theorem dX1_boundNode_128 : decode cX1_boundNode 128 = .ok (.iaload, 1) := by decide +kernel
theorem dX1_boundNode_129 : decode cX1_boundNode 129 = .ok (.ireturn, 1) := by decide +kernel
theorem dX1_boundHead_0 : decode cX1_boundHead 0 = .ok (.iload_n 0, 1) := by decide +kernel
theorem dX1_boundHead_1 : decode cX1_boundHead 1 = .ok (.iload_n 1, 1) := by decide +kernel
theorem dX1_boundHead_2 : decode cX1_boundHead 2 = .ok (.if_icmp .ne 5, 3) := by decide +kernel
theorem dX1_boundHead_5 : decode cX1_boundHead 5 = .ok (.iload_n 0, 1) := by decide +kernel
theorem dX1_boundHead_6 : decode cX1_boundHead 6 = .ok (.ireturn, 1) := by decide +kernel
theorem dX1_boundHead_7 : decode cX1_boundHead 7 = .ok (.iload_n 0, 1) := by decide +kernel
theorem dX1_boundHead_8 : decode cX1_boundHead 8 = .ok (.iconst 1, 1) := by decide +kernel
theorem dX1_boundHead_9 : decode cX1_boundHead 9 = .ok (.if_icmp .ne 8, 3) := by decide +kernel
theorem dX1_boundHead_12 : decode cX1_boundHead 12 = .ok (.iload_n 1, 1) := by decide +kernel
theorem dX1_boundHead_13 : decode cX1_boundHead 13 = .ok (.iconst 2, 1) := by decide +kernel
theorem dX1_boundHead_14 : decode cX1_boundHead 14 = .ok (.if_icmp .eq 13, 3) := by decide +kernel
theorem dX1_boundHead_17 : decode cX1_boundHead 17 = .ok (.iload_n 0, 1) := by decide +kernel
theorem dX1_boundHead_18 : decode cX1_boundHead 18 = .ok (.iconst 2, 1) := by decide +kernel
theorem dX1_boundHead_19 : decode cX1_boundHead 19 = .ok (.if_icmp .ne 18, 3) := by decide +kernel
theorem dX1_boundHead_22 : decode cX1_boundHead 22 = .ok (.iload_n 1, 1) := by decide +kernel
theorem dX1_boundHead_23 : decode cX1_boundHead 23 = .ok (.iconst 1, 1) := by decide +kernel
theorem dX1_boundHead_24 : decode cX1_boundHead 24 = .ok (.if_icmp .ne 13, 3) := by decide +kernel
theorem dX1_boundHead_27 : decode cX1_boundHead 27 = .ok (.iload_n 2, 1) := by decide +kernel
theorem dX1_boundHead_28 : decode cX1_boundHead 28 = .ok (.ifCond .eq 7, 3) := by decide +kernel
theorem dX1_boundHead_31 : decode cX1_boundHead 31 = .ok (.iconst 2, 1) := by decide +kernel
theorem dX1_boundHead_32 : decode cX1_boundHead 32 = .ok (.goto 4, 3) := by decide +kernel
theorem dX1_boundHead_35 : decode cX1_boundHead 35 = .ok (.iconst 1, 1) := by decide +kernel
theorem dX1_boundHead_36 : decode cX1_boundHead 36 = .ok (.ireturn, 1) := by decide +kernel
theorem dX1_boundHead_37 : decode cX1_boundHead 37 = .ok (.iload_n 2, 1) := by decide +kernel
theorem dX1_boundHead_38 : decode cX1_boundHead 38 = .ok (.ifCond .eq 7, 3) := by decide +kernel
theorem dX1_boundHead_41 : decode cX1_boundHead 41 = .ok (.iconst 3, 1) := by decide +kernel
theorem dX1_boundHead_42 : decode cX1_boundHead 42 = .ok (.goto 4, 3) := by decide +kernel
theorem dX1_boundHead_45 : decode cX1_boundHead 45 = .ok (.iconst 0, 1) := by decide +kernel
theorem dX1_boundHead_46 : decode cX1_boundHead 46 = .ok (.ireturn, 1) := by decide +kernel
theorem dX2_init_0 : decode cX2_init 0 = .ok (.aload_n 0, 1) := by decide +kernel
theorem dX2_init_1 : decode cX2_init 1 = .ok (.invokespecial 3, 3) := by decide +kernel
theorem dX2_init_4 : decode cX2_init 4 = .ok (.aload_n 0, 1) := by decide +kernel
theorem dX2_init_5 : decode cX2_init 5 = .ok (.aload_n 1, 1) := by decide +kernel
theorem dX2_init_6 : decode cX2_init 6 = .ok (.putfield 9, 3) := by decide +kernel
theorem dX2_init_9 : decode cX2_init 9 = .ok (.aload_n 0, 1) := by decide +kernel
theorem dX2_init_10 : decode cX2_init 10 = .ok (.aload_n 1, 1) := by decide +kernel
theorem dX2_init_11 : decode cX2_init 11 = .ok (.arraylength, 1) := by decide +kernel
theorem dX2_init_12 : decode cX2_init 12 = .ok (.iconst 3, 1) := by decide +kernel
theorem dX2_init_13 : decode cX2_init 13 = .ok (.idiv, 1) := by decide +kernel
theorem dX2_init_14 : decode cX2_init 14 = .ok (.putfield 15, 3) := by decide +kernel
theorem dX2_init_17 : decode cX2_init 17 = .ok (.return_, 1) := by decide +kernel
theorem dX2_holds_0 : decode cX2_holds 0 = .ok (.iload_n 1, 1) := by decide +kernel
theorem dX2_holds_1 : decode cX2_holds 1 = .ok (.ifCond .lt 15, 3) := by decide +kernel
theorem dX2_holds_4 : decode cX2_holds 4 = .ok (.iload_n 1, 1) := by decide +kernel
theorem dX2_holds_5 : decode cX2_holds 5 = .ok (.aload_n 0, 1) := by decide +kernel
theorem dX2_holds_6 : decode cX2_holds 6 = .ok (.getfield 15, 3) := by decide +kernel
theorem dX2_holds_9 : decode cX2_holds 9 = .ok (.if_icmp .ge 7, 3) := by decide +kernel
theorem dX2_holds_12 : decode cX2_holds 12 = .ok (.iconst 1, 1) := by decide +kernel
theorem dX2_holds_13 : decode cX2_holds 13 = .ok (.goto 4, 3) := by decide +kernel
theorem dX2_holds_16 : decode cX2_holds 16 = .ok (.iconst 0, 1) := by decide +kernel
theorem dX2_holds_17 : decode cX2_holds 17 = .ok (.ireturn, 1) := by decide +kernel
theorem dX2_headAt_0 : decode cX2_headAt 0 = .ok (.aload_n 0, 1) := by decide +kernel
theorem dX2_headAt_1 : decode cX2_headAt 1 = .ok (.iload_n 1, 1) := by decide +kernel
theorem dX2_headAt_2 : decode cX2_headAt 2 = .ok (.invokevirtual 19, 3) := by decide +kernel
theorem dX2_headAt_5 : decode cX2_headAt 5 = .ok (.ifCond .eq 14, 3) := by decide +kernel
theorem dX2_headAt_8 : decode cX2_headAt 8 = .ok (.aload_n 0, 1) := by decide +kernel
theorem dX2_headAt_9 : decode cX2_headAt 9 = .ok (.getfield 9, 3) := by decide +kernel
theorem dX2_headAt_12 : decode cX2_headAt 12 = .ok (.iconst 3, 1) := by decide +kernel
theorem dX2_headAt_13 : decode cX2_headAt 13 = .ok (.iload_n 1, 1) := by decide +kernel
theorem dX2_headAt_14 : decode cX2_headAt 14 = .ok (.imul, 1) := by decide +kernel
theorem dX2_headAt_15 : decode cX2_headAt 15 = .ok (.iaload, 1) := by decide +kernel
theorem dX2_headAt_16 : decode cX2_headAt 16 = .ok (.goto 4, 3) := by decide +kernel
theorem dX2_headAt_19 : decode cX2_headAt 19 = .ok (.iconst 0, 1) := by decide +kernel
theorem dX2_headAt_20 : decode cX2_headAt 20 = .ok (.ireturn, 1) := by decide +kernel
theorem dX2_partCount_0 : decode cX2_partCount 0 = .ok (.aload_n 0, 1) := by decide +kernel
theorem dX2_partCount_1 : decode cX2_partCount 1 = .ok (.iload_n 1, 1) := by decide +kernel
theorem dX2_partCount_2 : decode cX2_partCount 2 = .ok (.invokevirtual 23, 3) := by decide +kernel
theorem dX2_partCount_5 : decode cX2_partCount 5 = .ok (.invokestatic 27, 3) := by decide +kernel
theorem dX2_partCount_8 : decode cX2_partCount 8 = .ok (.ireturn, 1) := by decide +kernel
theorem dX2_partAt_0 : decode cX2_partAt 0 = .ok (.aload_n 0, 1) := by decide +kernel
theorem dX2_partAt_1 : decode cX2_partAt 1 = .ok (.iload_n 1, 1) := by decide +kernel
theorem dX2_partAt_2 : decode cX2_partAt 2 = .ok (.invokevirtual 19, 3) := by decide +kernel
theorem dX2_partAt_5 : decode cX2_partAt 5 = .ok (.ifCond .eq 27, 3) := by decide +kernel
theorem dX2_partAt_8 : decode cX2_partAt 8 = .ok (.iload_n 2, 1) := by decide +kernel
theorem dX2_partAt_9 : decode cX2_partAt 9 = .ok (.ifCond .lt 23, 3) := by decide +kernel
theorem dX2_partAt_12 : decode cX2_partAt 12 = .ok (.iload_n 2, 1) := by decide +kernel
theorem dX2_partAt_13 : decode cX2_partAt 13 = .ok (.iconst 2, 1) := by decide +kernel
theorem dX2_partAt_14 : decode cX2_partAt 14 = .ok (.if_icmp .ge 18, 3) := by decide +kernel
theorem dX2_partAt_17 : decode cX2_partAt 17 = .ok (.aload_n 0, 1) := by decide +kernel
theorem dX2_partAt_18 : decode cX2_partAt 18 = .ok (.getfield 9, 3) := by decide +kernel
theorem dX2_partAt_21 : decode cX2_partAt 21 = .ok (.iconst 3, 1) := by decide +kernel
theorem dX2_partAt_22 : decode cX2_partAt 22 = .ok (.iload_n 1, 1) := by decide +kernel
theorem dX2_partAt_23 : decode cX2_partAt 23 = .ok (.imul, 1) := by decide +kernel
theorem dX2_partAt_24 : decode cX2_partAt 24 = .ok (.iconst 1, 1) := by decide +kernel
theorem dX2_partAt_25 : decode cX2_partAt 25 = .ok (.iadd, 1) := by decide +kernel
theorem dX2_partAt_26 : decode cX2_partAt 26 = .ok (.iload_n 2, 1) := by decide +kernel
theorem dX2_partAt_27 : decode cX2_partAt 27 = .ok (.iadd, 1) := by decide +kernel
theorem dX2_partAt_28 : decode cX2_partAt 28 = .ok (.iaload, 1) := by decide +kernel
theorem dX2_partAt_29 : decode cX2_partAt 29 = .ok (.goto 4, 3) := by decide +kernel
theorem dX2_partAt_32 : decode cX2_partAt 32 = .ok (.iconst 0, 1) := by decide +kernel
theorem dX2_partAt_33 : decode cX2_partAt 33 = .ok (.ireturn, 1) := by decide +kernel
theorem dX2_sameAs_0 : decode cX2_sameAs 0 = .ok (.aload_n 0, 1) := by decide +kernel
theorem dX2_sameAs_1 : decode cX2_sameAs 1 = .ok (.getfield 15, 3) := by decide +kernel
theorem dX2_sameAs_4 : decode cX2_sameAs 4 = .ok (.aload_n 1, 1) := by decide +kernel
theorem dX2_sameAs_5 : decode cX2_sameAs 5 = .ok (.getfield 15, 3) := by decide +kernel
theorem dX2_sameAs_8 : decode cX2_sameAs 8 = .ok (.if_icmp .eq 5, 3) := by decide +kernel
theorem dX2_sameAs_11 : decode cX2_sameAs 11 = .ok (.iconst 0, 1) := by decide +kernel
theorem dX2_sameAs_12 : decode cX2_sameAs 12 = .ok (.ireturn, 1) := by decide +kernel
theorem dX2_sameAs_13 : decode cX2_sameAs 13 = .ok (.iconst 0, 1) := by decide +kernel
theorem dX2_sameAs_14 : decode cX2_sameAs 14 = .ok (.istore_n 2, 1) := by decide +kernel
theorem dX2_sameAs_15 : decode cX2_sameAs 15 = .ok (.iload_n 2, 1) := by decide +kernel
theorem dX2_sameAs_16 : decode cX2_sameAs 16 = .ok (.aload_n 0, 1) := by decide +kernel
theorem dX2_sameAs_17 : decode cX2_sameAs 17 = .ok (.getfield 15, 3) := by decide +kernel
theorem dX2_sameAs_20 : decode cX2_sameAs 20 = .ok (.if_icmp .ge 54, 3) := by decide +kernel
theorem dX2_sameAs_23 : decode cX2_sameAs 23 = .ok (.aload_n 0, 1) := by decide +kernel
theorem dX2_sameAs_24 : decode cX2_sameAs 24 = .ok (.iload_n 2, 1) := by decide +kernel
theorem dX2_sameAs_25 : decode cX2_sameAs 25 = .ok (.invokevirtual 23, 3) := by decide +kernel
theorem dX2_sameAs_28 : decode cX2_sameAs 28 = .ok (.aload_n 1, 1) := by decide +kernel
theorem dX2_sameAs_29 : decode cX2_sameAs 29 = .ok (.iload_n 2, 1) := by decide +kernel
theorem dX2_sameAs_30 : decode cX2_sameAs 30 = .ok (.invokevirtual 23, 3) := by decide +kernel
theorem dX2_sameAs_33 : decode cX2_sameAs 33 = .ok (.if_icmp .ne 33, 3) := by decide +kernel
theorem dX2_sameAs_36 : decode cX2_sameAs 36 = .ok (.aload_n 0, 1) := by decide +kernel
theorem dX2_sameAs_37 : decode cX2_sameAs 37 = .ok (.iload_n 2, 1) := by decide +kernel
theorem dX2_sameAs_38 : decode cX2_sameAs 38 = .ok (.iconst 0, 1) := by decide +kernel
theorem dX2_sameAs_39 : decode cX2_sameAs 39 = .ok (.invokevirtual 30, 3) := by decide +kernel
theorem dX2_sameAs_42 : decode cX2_sameAs 42 = .ok (.aload_n 1, 1) := by decide +kernel
theorem dX2_sameAs_43 : decode cX2_sameAs 43 = .ok (.iload_n 2, 1) := by decide +kernel
theorem dX2_sameAs_44 : decode cX2_sameAs 44 = .ok (.iconst 0, 1) := by decide +kernel
theorem dX2_sameAs_45 : decode cX2_sameAs 45 = .ok (.invokevirtual 30, 3) := by decide +kernel
theorem dX2_sameAs_48 : decode cX2_sameAs 48 = .ok (.if_icmp .ne 18, 3) := by decide +kernel
theorem dX2_sameAs_51 : decode cX2_sameAs 51 = .ok (.aload_n 0, 1) := by decide +kernel
theorem dX2_sameAs_52 : decode cX2_sameAs 52 = .ok (.iload_n 2, 1) := by decide +kernel
theorem dX2_sameAs_53 : decode cX2_sameAs 53 = .ok (.iconst 1, 1) := by decide +kernel
theorem dX2_sameAs_54 : decode cX2_sameAs 54 = .ok (.invokevirtual 30, 3) := by decide +kernel
theorem dX2_sameAs_57 : decode cX2_sameAs 57 = .ok (.aload_n 1, 1) := by decide +kernel
theorem dX2_sameAs_58 : decode cX2_sameAs 58 = .ok (.iload_n 2, 1) := by decide +kernel
theorem dX2_sameAs_59 : decode cX2_sameAs 59 = .ok (.iconst 1, 1) := by decide +kernel
theorem dX2_sameAs_60 : decode cX2_sameAs 60 = .ok (.invokevirtual 30, 3) := by decide +kernel
theorem dX2_sameAs_63 : decode cX2_sameAs 63 = .ok (.if_icmp .eq 5, 3) := by decide +kernel
theorem dX2_sameAs_66 : decode cX2_sameAs 66 = .ok (.iconst 0, 1) := by decide +kernel
theorem dX2_sameAs_67 : decode cX2_sameAs 67 = .ok (.ireturn, 1) := by decide +kernel
theorem dX2_sameAs_68 : decode cX2_sameAs 68 = .ok (.iinc 2 1, 3) := by decide +kernel
theorem dX2_sameAs_71 : decode cX2_sameAs 71 = .ok (.goto (-56), 3) := by decide +kernel
theorem dX2_sameAs_74 : decode cX2_sameAs 74 = .ok (.iconst 1, 1) := by decide +kernel
theorem dX2_sameAs_75 : decode cX2_sameAs 75 = .ok (.ireturn, 1) := by decide +kernel
theorem dX2_countOf_0 : decode cX2_countOf 0 = .ok (.iconst 0, 1) := by decide +kernel
theorem dX2_countOf_1 : decode cX2_countOf 1 = .ok (.istore_n 2, 1) := by decide +kernel
theorem dX2_countOf_2 : decode cX2_countOf 2 = .ok (.iconst 0, 1) := by decide +kernel
theorem dX2_countOf_3 : decode cX2_countOf 3 = .ok (.istore_n 3, 1) := by decide +kernel
theorem dX2_countOf_4 : decode cX2_countOf 4 = .ok (.iload_n 3, 1) := by decide +kernel
theorem dX2_countOf_5 : decode cX2_countOf 5 = .ok (.aload_n 0, 1) := by decide +kernel
theorem dX2_countOf_6 : decode cX2_countOf 6 = .ok (.getfield 15, 3) := by decide +kernel
theorem dX2_countOf_9 : decode cX2_countOf 9 = .ok (.if_icmp .ge 21, 3) := by decide +kernel
theorem dX2_countOf_12 : decode cX2_countOf 12 = .ok (.aload_n 0, 1) := by decide +kernel
theorem dX2_countOf_13 : decode cX2_countOf 13 = .ok (.iload_n 3, 1) := by decide +kernel
theorem dX2_countOf_14 : decode cX2_countOf 14 = .ok (.invokevirtual 23, 3) := by decide +kernel
theorem dX2_countOf_17 : decode cX2_countOf 17 = .ok (.iload_n 1, 1) := by decide +kernel
theorem dX2_countOf_18 : decode cX2_countOf 18 = .ok (.if_icmp .ne 6, 3) := by decide +kernel
theorem dX2_countOf_21 : decode cX2_countOf 21 = .ok (.iinc 2 1, 3) := by decide +kernel
theorem dX2_countOf_24 : decode cX2_countOf 24 = .ok (.iinc 3 1, 3) := by decide +kernel
theorem dX2_countOf_27 : decode cX2_countOf 27 = .ok (.goto (-23), 3) := by decide +kernel
theorem dX2_countOf_30 : decode cX2_countOf 30 = .ok (.iload_n 2, 1) := by decide +kernel
theorem dX2_countOf_31 : decode cX2_countOf 31 = .ok (.ireturn, 1) := by decide +kernel
theorem dX2_codeOf_0 : decode cX2_codeOf 0 = .ok (.lconst 1, 1) := by decide +kernel
theorem dX2_codeOf_1 : decode cX2_codeOf 1 = .ok (.lstore_n 1, 1) := by decide +kernel
theorem dX2_codeOf_2 : decode cX2_codeOf 2 = .ok (.iconst 0, 1) := by decide +kernel
theorem dX2_codeOf_3 : decode cX2_codeOf 3 = .ok (.istore_n 3, 1) := by decide +kernel
theorem dX2_codeOf_4 : decode cX2_codeOf 4 = .ok (.iload_n 3, 1) := by decide +kernel
theorem dX2_codeOf_5 : decode cX2_codeOf 5 = .ok (.aload_n 0, 1) := by decide +kernel
theorem dX2_codeOf_6 : decode cX2_codeOf 6 = .ok (.getfield 15, 3) := by decide +kernel
theorem dX2_codeOf_9 : decode cX2_codeOf 9 = .ok (.if_icmp .ge 60, 3) := by decide +kernel
theorem dX2_codeOf_12 : decode cX2_codeOf 12 = .ok (.ldc2_w 34, 3) := by decide +kernel
theorem dX2_codeOf_15 : decode cX2_codeOf 15 = .ok (.lload_n 1, 1) := by decide +kernel
theorem dX2_codeOf_16 : decode cX2_codeOf 16 = .ok (.lmul, 1) := by decide +kernel
theorem dX2_codeOf_17 : decode cX2_codeOf 17 = .ok (.aload_n 0, 1) := by decide +kernel
theorem dX2_codeOf_18 : decode cX2_codeOf 18 = .ok (.iload_n 3, 1) := by decide +kernel
theorem dX2_codeOf_19 : decode cX2_codeOf 19 = .ok (.invokevirtual 23, 3) := by decide +kernel
theorem dX2_codeOf_22 : decode cX2_codeOf 22 = .ok (.i2l, 1) := by decide +kernel
theorem dX2_codeOf_23 : decode cX2_codeOf 23 = .ok (.ladd, 1) := by decide +kernel
theorem dX2_codeOf_24 : decode cX2_codeOf 24 = .ok (.lstore_n 1, 1) := by decide +kernel
theorem dX2_codeOf_25 : decode cX2_codeOf 25 = .ok (.aload_n 0, 1) := by decide +kernel
theorem dX2_codeOf_26 : decode cX2_codeOf 26 = .ok (.iload_n 3, 1) := by decide +kernel
theorem dX2_codeOf_27 : decode cX2_codeOf 27 = .ok (.invokevirtual 36, 3) := by decide +kernel
theorem dX2_codeOf_30 : decode cX2_codeOf 30 = .ok (.istore 4, 2) := by decide +kernel
theorem dX2_codeOf_32 : decode cX2_codeOf 32 = .ok (.iconst 0, 1) := by decide +kernel
theorem dX2_codeOf_33 : decode cX2_codeOf 33 = .ok (.istore 5, 2) := by decide +kernel
theorem dX2_codeOf_35 : decode cX2_codeOf 35 = .ok (.iload 5, 2) := by decide +kernel
theorem dX2_codeOf_37 : decode cX2_codeOf 37 = .ok (.iload 4, 2) := by decide +kernel
theorem dX2_codeOf_39 : decode cX2_codeOf 39 = .ok (.if_icmp .ge 24, 3) := by decide +kernel
theorem dX2_codeOf_42 : decode cX2_codeOf 42 = .ok (.ldc2_w 34, 3) := by decide +kernel
theorem dX2_codeOf_45 : decode cX2_codeOf 45 = .ok (.lload_n 1, 1) := by decide +kernel
theorem dX2_codeOf_46 : decode cX2_codeOf 46 = .ok (.lmul, 1) := by decide +kernel
theorem dX2_codeOf_47 : decode cX2_codeOf 47 = .ok (.aload_n 0, 1) := by decide +kernel
theorem dX2_codeOf_48 : decode cX2_codeOf 48 = .ok (.iload_n 3, 1) := by decide +kernel
theorem dX2_codeOf_49 : decode cX2_codeOf 49 = .ok (.iload 5, 2) := by decide +kernel
theorem dX2_codeOf_51 : decode cX2_codeOf 51 = .ok (.invokevirtual 30, 3) := by decide +kernel
theorem dX2_codeOf_54 : decode cX2_codeOf 54 = .ok (.i2l, 1) := by decide +kernel
theorem dX2_codeOf_55 : decode cX2_codeOf 55 = .ok (.ladd, 1) := by decide +kernel
theorem dX2_codeOf_56 : decode cX2_codeOf 56 = .ok (.lstore_n 1, 1) := by decide +kernel
theorem dX2_codeOf_57 : decode cX2_codeOf 57 = .ok (.iinc 5 1, 3) := by decide +kernel
theorem dX2_codeOf_60 : decode cX2_codeOf 60 = .ok (.goto (-25), 3) := by decide +kernel
theorem dX2_codeOf_63 : decode cX2_codeOf 63 = .ok (.iinc 3 1, 3) := by decide +kernel
theorem dX2_codeOf_66 : decode cX2_codeOf 66 = .ok (.goto (-62), 3) := by decide +kernel
theorem dX2_codeOf_69 : decode cX2_codeOf 69 = .ok (.lload_n 1, 1) := by decide +kernel
theorem dX2_codeOf_70 : decode cX2_codeOf 70 = .ok (.lreturn, 1) := by decide +kernel
theorem dX3_init_0 : decode cX3_init 0 = .ok (.aload_n 0, 1) := by decide +kernel
theorem dX3_init_1 : decode cX3_init 1 = .ok (.invokespecial 3, 3) := by decide +kernel
theorem dX3_init_4 : decode cX3_init 4 = .ok (.aload_n 0, 1) := by decide +kernel
theorem dX3_init_5 : decode cX3_init 5 = .ok (.bipush 40, 2) := by decide +kernel
theorem dX3_init_7 : decode cX3_init 7 = .ok (.newarray .int, 2) := by decide +kernel
theorem dX3_init_9 : decode cX3_init 9 = .ok (.putfield 9, 3) := by decide +kernel
theorem dX3_init_12 : decode cX3_init 12 = .ok (.aload_n 0, 1) := by decide +kernel
theorem dX3_init_13 : decode cX3_init 13 = .ok (.bipush 40, 2) := by decide +kernel
theorem dX3_init_15 : decode cX3_init 15 = .ok (.newarray .int, 2) := by decide +kernel
theorem dX3_init_17 : decode cX3_init 17 = .ok (.putfield 15, 3) := by decide +kernel
theorem dX3_init_20 : decode cX3_init 20 = .ok (.aload_n 0, 1) := by decide +kernel
theorem dX3_init_21 : decode cX3_init 21 = .ok (.bipush 40, 2) := by decide +kernel
theorem dX3_init_23 : decode cX3_init 23 = .ok (.newarray .int, 2) := by decide +kernel
theorem dX3_init_25 : decode cX3_init 25 = .ok (.putfield 18, 3) := by decide +kernel
theorem dX3_init_28 : decode cX3_init 28 = .ok (.aload_n 0, 1) := by decide +kernel
theorem dX3_init_29 : decode cX3_init 29 = .ok (.bipush 40, 2) := by decide +kernel
theorem dX3_init_31 : decode cX3_init 31 = .ok (.newarray .long, 2) := by decide +kernel
theorem dX3_init_33 : decode cX3_init 33 = .ok (.putfield 21, 3) := by decide +kernel
theorem dX3_init_36 : decode cX3_init 36 = .ok (.return_, 1) := by decide +kernel
theorem dX3_placeOf_0 : decode cX3_placeOf 0 = .ok (.iconst 0, 1) := by decide +kernel
theorem dX3_placeOf_1 : decode cX3_placeOf 1 = .ok (.istore_n 3, 1) := by decide +kernel
theorem dX3_placeOf_2 : decode cX3_placeOf 2 = .ok (.iload_n 3, 1) := by decide +kernel
theorem dX3_placeOf_3 : decode cX3_placeOf 3 = .ok (.aload_n 1, 1) := by decide +kernel
theorem dX3_placeOf_4 : decode cX3_placeOf 4 = .ok (.getfield 25, 3) := by decide +kernel
theorem dX3_placeOf_7 : decode cX3_placeOf 7 = .ok (.if_icmp .ge 22, 3) := by decide +kernel
theorem dX3_placeOf_10 : decode cX3_placeOf 10 = .ok (.aload_n 0, 1) := by decide +kernel
theorem dX3_placeOf_11 : decode cX3_placeOf 11 = .ok (.aload_n 1, 1) := by decide +kernel
theorem dX3_placeOf_12 : decode cX3_placeOf 12 = .ok (.iload_n 3, 1) := by decide +kernel
theorem dX3_placeOf_13 : decode cX3_placeOf 13 = .ok (.aload_n 2, 1) := by decide +kernel
theorem dX3_placeOf_14 : decode cX3_placeOf 14 = .ok (.iconst 0, 1) := by decide +kernel
theorem dX3_placeOf_15 : decode cX3_placeOf 15 = .ok (.invokevirtual 31, 3) := by decide +kernel
theorem dX3_placeOf_18 : decode cX3_placeOf 18 = .ok (.ifCond .eq 5, 3) := by decide +kernel
theorem dX3_placeOf_21 : decode cX3_placeOf 21 = .ok (.iload_n 3, 1) := by decide +kernel
theorem dX3_placeOf_22 : decode cX3_placeOf 22 = .ok (.ireturn, 1) := by decide +kernel
theorem dX3_placeOf_23 : decode cX3_placeOf 23 = .ok (.iinc 3 1, 3) := by decide +kernel
theorem dX3_placeOf_26 : decode cX3_placeOf 26 = .ok (.goto (-24), 3) := by decide +kernel
theorem dX3_placeOf_29 : decode cX3_placeOf 29 = .ok (.iconst (-1), 1) := by decide +kernel
theorem dX3_placeOf_30 : decode cX3_placeOf 30 = .ok (.ireturn, 1) := by decide +kernel
theorem dX3_commonCount_0 : decode cX3_commonCount 0 = .ok (.iconst 0, 1) := by decide +kernel
theorem dX3_commonCount_1 : decode cX3_commonCount 1 = .ok (.istore_n 3, 1) := by decide +kernel
theorem dX3_commonCount_2 : decode cX3_commonCount 2 = .ok (.iconst 0, 1) := by decide +kernel
theorem dX3_commonCount_3 : decode cX3_commonCount 3 = .ok (.istore 4, 2) := by decide +kernel
theorem dX3_commonCount_5 : decode cX3_commonCount 5 = .ok (.iload 4, 2) := by decide +kernel
theorem dX3_commonCount_7 : decode cX3_commonCount 7 = .ok (.aload_n 1, 1) := by decide +kernel
theorem dX3_commonCount_8 : decode cX3_commonCount 8 = .ok (.getfield 25, 3) := by decide +kernel
theorem dX3_commonCount_11 : decode cX3_commonCount 11 = .ok (.if_icmp .ge 23, 3) := by decide +kernel
theorem dX3_commonCount_14 : decode cX3_commonCount 14 = .ok (.aload_n 0, 1) := by decide +kernel
theorem dX3_commonCount_15 : decode cX3_commonCount 15 = .ok (.aload_n 1, 1) := by decide +kernel
theorem dX3_commonCount_16 : decode cX3_commonCount 16 = .ok (.iload 4, 2) := by decide +kernel
theorem dX3_commonCount_18 : decode cX3_commonCount 18 = .ok (.aload_n 2, 1) := by decide +kernel
theorem dX3_commonCount_19 : decode cX3_commonCount 19 = .ok (.invokevirtual 35, 3) := by decide +kernel
theorem dX3_commonCount_22 : decode cX3_commonCount 22 = .ok (.ifCond .eq 6, 3) := by decide +kernel
theorem dX3_commonCount_25 : decode cX3_commonCount 25 = .ok (.iinc 3 1, 3) := by decide +kernel
theorem dX3_commonCount_28 : decode cX3_commonCount 28 = .ok (.iinc 4 1, 3) := by decide +kernel
theorem dX3_commonCount_31 : decode cX3_commonCount 31 = .ok (.goto (-26), 3) := by decide +kernel
theorem dX3_commonCount_34 : decode cX3_commonCount 34 = .ok (.iload_n 3, 1) := by decide +kernel
theorem dX3_commonCount_35 : decode cX3_commonCount 35 = .ok (.ireturn, 1) := by decide +kernel
theorem dX3_isAmong_0 : decode cX3_isAmong 0 = .ok (.iconst 0, 1) := by decide +kernel
theorem dX3_isAmong_1 : decode cX3_isAmong 1 = .ok (.istore 4, 2) := by decide +kernel
theorem dX3_isAmong_3 : decode cX3_isAmong 3 = .ok (.iload 4, 2) := by decide +kernel
theorem dX3_isAmong_5 : decode cX3_isAmong 5 = .ok (.aload_n 3, 1) := by decide +kernel
theorem dX3_isAmong_6 : decode cX3_isAmong 6 = .ok (.getfield 25, 3) := by decide +kernel
theorem dX3_isAmong_9 : decode cX3_isAmong 9 = .ok (.if_icmp .ge 23, 3) := by decide +kernel
theorem dX3_isAmong_12 : decode cX3_isAmong 12 = .ok (.aload_n 0, 1) := by decide +kernel
theorem dX3_isAmong_13 : decode cX3_isAmong 13 = .ok (.aload_n 1, 1) := by decide +kernel
theorem dX3_isAmong_14 : decode cX3_isAmong 14 = .ok (.iload_n 2, 1) := by decide +kernel
theorem dX3_isAmong_15 : decode cX3_isAmong 15 = .ok (.aload_n 3, 1) := by decide +kernel
theorem dX3_isAmong_16 : decode cX3_isAmong 16 = .ok (.iload 4, 2) := by decide +kernel
theorem dX3_isAmong_18 : decode cX3_isAmong 18 = .ok (.invokevirtual 31, 3) := by decide +kernel
theorem dX3_isAmong_21 : decode cX3_isAmong 21 = .ok (.ifCond .eq 5, 3) := by decide +kernel
theorem dX3_isAmong_24 : decode cX3_isAmong 24 = .ok (.iconst 1, 1) := by decide +kernel
theorem dX3_isAmong_25 : decode cX3_isAmong 25 = .ok (.ireturn, 1) := by decide +kernel
theorem dX3_isAmong_26 : decode cX3_isAmong 26 = .ok (.iinc 4 1, 3) := by decide +kernel
theorem dX3_isAmong_29 : decode cX3_isAmong 29 = .ok (.goto (-26), 3) := by decide +kernel
theorem dX3_isAmong_32 : decode cX3_isAmong 32 = .ok (.iconst 0, 1) := by decide +kernel
theorem dX3_isAmong_33 : decode cX3_isAmong 33 = .ok (.ireturn, 1) := by decide +kernel
theorem dX3_alikeAt_0 : decode cX3_alikeAt 0 = .ok (.aload_n 0, 1) := by decide +kernel
theorem dX3_alikeAt_1 : decode cX3_alikeAt 1 = .ok (.getfield 15, 3) := by decide +kernel
theorem dX3_alikeAt_4 : decode cX3_alikeAt 4 = .ok (.aload_n 3, 1) := by decide +kernel
theorem dX3_alikeAt_5 : decode cX3_alikeAt 5 = .ok (.getfield 25, 3) := by decide +kernel
theorem dX3_alikeAt_8 : decode cX3_alikeAt 8 = .ok (.iconst (-1), 1) := by decide +kernel
theorem dX3_alikeAt_9 : decode cX3_alikeAt 9 = .ok (.invokestatic 39, 3) := by decide +kernel
theorem dX3_alikeAt_12 : decode cX3_alikeAt 12 = .ok (.aload_n 0, 1) := by decide +kernel
theorem dX3_alikeAt_13 : decode cX3_alikeAt 13 = .ok (.getfield 15, 3) := by decide +kernel
theorem dX3_alikeAt_16 : decode cX3_alikeAt 16 = .ok (.iload 4, 2) := by decide +kernel
theorem dX3_alikeAt_18 : decode cX3_alikeAt 18 = .ok (.iload_n 2, 1) := by decide +kernel
theorem dX3_alikeAt_19 : decode cX3_alikeAt 19 = .ok (.iastore, 1) := by decide +kernel
theorem dX3_alikeAt_20 : decode cX3_alikeAt 20 = .ok (.aload_n 0, 1) := by decide +kernel
theorem dX3_alikeAt_21 : decode cX3_alikeAt 21 = .ok (.getfield 18, 3) := by decide +kernel
theorem dX3_alikeAt_24 : decode cX3_alikeAt 24 = .ok (.iconst 0, 1) := by decide +kernel
theorem dX3_alikeAt_25 : decode cX3_alikeAt 25 = .ok (.iload 4, 2) := by decide +kernel
theorem dX3_alikeAt_27 : decode cX3_alikeAt 27 = .ok (.iastore, 1) := by decide +kernel
theorem dX3_alikeAt_28 : decode cX3_alikeAt 28 = .ok (.iconst 1, 1) := by decide +kernel
theorem dX3_alikeAt_29 : decode cX3_alikeAt 29 = .ok (.istore 5, 2) := by decide +kernel
theorem dX3_alikeAt_31 : decode cX3_alikeAt 31 = .ok (.iconst 0, 1) := by decide +kernel
theorem dX3_alikeAt_32 : decode cX3_alikeAt 32 = .ok (.istore 6, 2) := by decide +kernel
theorem dX3_alikeAt_34 : decode cX3_alikeAt 34 = .ok (.iload 6, 2) := by decide +kernel
theorem dX3_alikeAt_36 : decode cX3_alikeAt 36 = .ok (.iload 5, 2) := by decide +kernel
theorem dX3_alikeAt_38 : decode cX3_alikeAt 38 = .ok (.if_icmp .ge 144, 3) := by decide +kernel
theorem dX3_alikeAt_41 : decode cX3_alikeAt 41 = .ok (.aload_n 0, 1) := by decide +kernel
theorem dX3_alikeAt_42 : decode cX3_alikeAt 42 = .ok (.getfield 18, 3) := by decide +kernel
theorem dX3_alikeAt_45 : decode cX3_alikeAt 45 = .ok (.iload 6, 2) := by decide +kernel
theorem dX3_alikeAt_47 : decode cX3_alikeAt 47 = .ok (.iaload, 1) := by decide +kernel
theorem dX3_alikeAt_48 : decode cX3_alikeAt 48 = .ok (.istore 7, 2) := by decide +kernel
theorem dX3_alikeAt_50 : decode cX3_alikeAt 50 = .ok (.aload_n 0, 1) := by decide +kernel
theorem dX3_alikeAt_51 : decode cX3_alikeAt 51 = .ok (.getfield 15, 3) := by decide +kernel
theorem dX3_alikeAt_54 : decode cX3_alikeAt 54 = .ok (.iload 7, 2) := by decide +kernel
theorem dX3_alikeAt_56 : decode cX3_alikeAt 56 = .ok (.iaload, 1) := by decide +kernel
theorem dX3_alikeAt_57 : decode cX3_alikeAt 57 = .ok (.istore 8, 2) := by decide +kernel
theorem dX3_alikeAt_59 : decode cX3_alikeAt 59 = .ok (.aload_n 1, 1) := by decide +kernel
theorem dX3_alikeAt_60 : decode cX3_alikeAt 60 = .ok (.iload 8, 2) := by decide +kernel
theorem dX3_alikeAt_62 : decode cX3_alikeAt 62 = .ok (.invokevirtual 43, 3) := by decide +kernel
theorem dX3_alikeAt_65 : decode cX3_alikeAt 65 = .ok (.aload_n 3, 1) := by decide +kernel
theorem dX3_alikeAt_66 : decode cX3_alikeAt 66 = .ok (.iload 7, 2) := by decide +kernel
theorem dX3_alikeAt_68 : decode cX3_alikeAt 68 = .ok (.invokevirtual 43, 3) := by decide +kernel
theorem dX3_alikeAt_71 : decode cX3_alikeAt 71 = .ok (.if_icmp .eq 5, 3) := by decide +kernel
theorem dX3_alikeAt_74 : decode cX3_alikeAt 74 = .ok (.iconst 0, 1) := by decide +kernel
theorem dX3_alikeAt_75 : decode cX3_alikeAt 75 = .ok (.ireturn, 1) := by decide +kernel
theorem dX3_alikeAt_76 : decode cX3_alikeAt 76 = .ok (.aload_n 3, 1) := by decide +kernel
theorem dX3_alikeAt_77 : decode cX3_alikeAt 77 = .ok (.iload 7, 2) := by decide +kernel
theorem dX3_alikeAt_79 : decode cX3_alikeAt 79 = .ok (.invokevirtual 47, 3) := by decide +kernel
theorem dX3_alikeAt_82 : decode cX3_alikeAt 82 = .ok (.istore 9, 2) := by decide +kernel
theorem dX3_alikeAt_84 : decode cX3_alikeAt 84 = .ok (.iconst 0, 1) := by decide +kernel
theorem dX3_alikeAt_85 : decode cX3_alikeAt 85 = .ok (.istore 10, 2) := by decide +kernel
theorem dX3_alikeAt_87 : decode cX3_alikeAt 87 = .ok (.iload 10, 2) := by decide +kernel
theorem dX3_alikeAt_89 : decode cX3_alikeAt 89 = .ok (.iload 9, 2) := by decide +kernel
theorem dX3_alikeAt_91 : decode cX3_alikeAt 91 = .ok (.if_icmp .ge 85, 3) := by decide +kernel
theorem dX3_alikeAt_94 : decode cX3_alikeAt 94 = .ok (.aload_n 3, 1) := by decide +kernel
theorem dX3_alikeAt_95 : decode cX3_alikeAt 95 = .ok (.iload 7, 2) := by decide +kernel
theorem dX3_alikeAt_97 : decode cX3_alikeAt 97 = .ok (.iload 10, 2) := by decide +kernel
theorem dX3_alikeAt_99 : decode cX3_alikeAt 99 = .ok (.invokevirtual 50, 3) := by decide +kernel
theorem dX3_alikeAt_102 : decode cX3_alikeAt 102 = .ok (.istore 11, 2) := by decide +kernel
theorem dX3_alikeAt_104 : decode cX3_alikeAt 104 = .ok (.aload_n 1, 1) := by decide +kernel
theorem dX3_alikeAt_105 : decode cX3_alikeAt 105 = .ok (.iload 8, 2) := by decide +kernel
theorem dX3_alikeAt_107 : decode cX3_alikeAt 107 = .ok (.iload 10, 2) := by decide +kernel
theorem dX3_alikeAt_109 : decode cX3_alikeAt 109 = .ok (.invokevirtual 50, 3) := by decide +kernel
theorem dX3_alikeAt_112 : decode cX3_alikeAt 112 = .ok (.istore 12, 2) := by decide +kernel
theorem dX3_alikeAt_114 : decode cX3_alikeAt 114 = .ok (.aload_n 0, 1) := by decide +kernel
theorem dX3_alikeAt_115 : decode cX3_alikeAt 115 = .ok (.getfield 15, 3) := by decide +kernel
theorem dX3_alikeAt_118 : decode cX3_alikeAt 118 = .ok (.iload 11, 2) := by decide +kernel
theorem dX3_alikeAt_120 : decode cX3_alikeAt 120 = .ok (.iaload, 1) := by decide +kernel
theorem dX3_alikeAt_121 : decode cX3_alikeAt 121 = .ok (.iconst (-1), 1) := by decide +kernel
theorem dX3_alikeAt_122 : decode cX3_alikeAt 122 = .ok (.if_icmp .ne 34, 3) := by decide +kernel
theorem dX3_alikeAt_125 : decode cX3_alikeAt 125 = .ok (.iload 5, 2) := by decide +kernel
theorem dX3_alikeAt_127 : decode cX3_alikeAt 127 = .ok (.bipush 40, 2) := by decide +kernel
theorem dX3_alikeAt_129 : decode cX3_alikeAt 129 = .ok (.if_icmp .ge 27, 3) := by decide +kernel
theorem dX3_alikeAt_132 : decode cX3_alikeAt 132 = .ok (.aload_n 0, 1) := by decide +kernel
theorem dX3_alikeAt_133 : decode cX3_alikeAt 133 = .ok (.getfield 15, 3) := by decide +kernel
theorem dX3_alikeAt_136 : decode cX3_alikeAt 136 = .ok (.iload 11, 2) := by decide +kernel
theorem dX3_alikeAt_138 : decode cX3_alikeAt 138 = .ok (.iload 12, 2) := by decide +kernel
theorem dX3_alikeAt_140 : decode cX3_alikeAt 140 = .ok (.iastore, 1) := by decide +kernel
theorem dX3_alikeAt_141 : decode cX3_alikeAt 141 = .ok (.aload_n 0, 1) := by decide +kernel
theorem dX3_alikeAt_142 : decode cX3_alikeAt 142 = .ok (.getfield 18, 3) := by decide +kernel
theorem dX3_alikeAt_145 : decode cX3_alikeAt 145 = .ok (.iload 5, 2) := by decide +kernel
theorem dX3_alikeAt_147 : decode cX3_alikeAt 147 = .ok (.iload 11, 2) := by decide +kernel
theorem dX3_alikeAt_149 : decode cX3_alikeAt 149 = .ok (.iastore, 1) := by decide +kernel
theorem dX3_alikeAt_150 : decode cX3_alikeAt 150 = .ok (.iinc 5 1, 3) := by decide +kernel
theorem dX3_alikeAt_153 : decode cX3_alikeAt 153 = .ok (.goto 17, 3) := by decide +kernel
theorem dX3_alikeAt_156 : decode cX3_alikeAt 156 = .ok (.aload_n 0, 1) := by decide +kernel
theorem dX3_alikeAt_157 : decode cX3_alikeAt 157 = .ok (.getfield 15, 3) := by decide +kernel
theorem dX3_alikeAt_160 : decode cX3_alikeAt 160 = .ok (.iload 11, 2) := by decide +kernel
theorem dX3_alikeAt_162 : decode cX3_alikeAt 162 = .ok (.iaload, 1) := by decide +kernel
theorem dX3_alikeAt_163 : decode cX3_alikeAt 163 = .ok (.iload 12, 2) := by decide +kernel
theorem dX3_alikeAt_165 : decode cX3_alikeAt 165 = .ok (.if_icmp .eq 5, 3) := by decide +kernel
theorem dX3_alikeAt_168 : decode cX3_alikeAt 168 = .ok (.iconst 0, 1) := by decide +kernel
theorem dX3_alikeAt_169 : decode cX3_alikeAt 169 = .ok (.ireturn, 1) := by decide +kernel
theorem dX3_alikeAt_170 : decode cX3_alikeAt 170 = .ok (.iinc 10 1, 3) := by decide +kernel
theorem dX3_alikeAt_173 : decode cX3_alikeAt 173 = .ok (.goto (-86), 3) := by decide +kernel
theorem dX3_alikeAt_176 : decode cX3_alikeAt 176 = .ok (.iinc 6 1, 3) := by decide +kernel
theorem dX3_alikeAt_179 : decode cX3_alikeAt 179 = .ok (.goto (-145), 3) := by decide +kernel
theorem dX3_alikeAt_182 : decode cX3_alikeAt 182 = .ok (.iconst 1, 1) := by decide +kernel
theorem dX3_alikeAt_183 : decode cX3_alikeAt 183 = .ok (.ireturn, 1) := by decide +kernel
theorem dX3_stepsTo_0 : decode cX3_stepsTo 0 = .ok (.iload_n 2, 1) := by decide +kernel
theorem dX3_stepsTo_1 : decode cX3_stepsTo 1 = .ok (.ifCond .lt 11, 3) := by decide +kernel
theorem dX3_stepsTo_4 : decode cX3_stepsTo 4 = .ok (.iload_n 2, 1) := by decide +kernel
theorem dX3_stepsTo_5 : decode cX3_stepsTo 5 = .ok (.aload_n 1, 1) := by decide +kernel
theorem dX3_stepsTo_6 : decode cX3_stepsTo 6 = .ok (.getfield 25, 3) := by decide +kernel
theorem dX3_stepsTo_9 : decode cX3_stepsTo 9 = .ok (.if_icmp .lt 5, 3) := by decide +kernel
theorem dX3_stepsTo_12 : decode cX3_stepsTo 12 = .ok (.iconst (-1), 1) := by decide +kernel
theorem dX3_stepsTo_13 : decode cX3_stepsTo 13 = .ok (.ireturn, 1) := by decide +kernel
theorem dX3_stepsTo_14 : decode cX3_stepsTo 14 = .ok (.aload_n 0, 1) := by decide +kernel
theorem dX3_stepsTo_15 : decode cX3_stepsTo 15 = .ok (.getfield 9, 3) := by decide +kernel
theorem dX3_stepsTo_18 : decode cX3_stepsTo 18 = .ok (.aload_n 1, 1) := by decide +kernel
theorem dX3_stepsTo_19 : decode cX3_stepsTo 19 = .ok (.getfield 25, 3) := by decide +kernel
theorem dX3_stepsTo_22 : decode cX3_stepsTo 22 = .ok (.iconst (-1), 1) := by decide +kernel
theorem dX3_stepsTo_23 : decode cX3_stepsTo 23 = .ok (.invokestatic 39, 3) := by decide +kernel
theorem dX3_stepsTo_26 : decode cX3_stepsTo 26 = .ok (.aload_n 0, 1) := by decide +kernel
theorem dX3_stepsTo_27 : decode cX3_stepsTo 27 = .ok (.getfield 9, 3) := by decide +kernel
theorem dX3_stepsTo_30 : decode cX3_stepsTo 30 = .ok (.iconst 0, 1) := by decide +kernel
theorem dX3_stepsTo_31 : decode cX3_stepsTo 31 = .ok (.iconst 0, 1) := by decide +kernel
theorem dX3_stepsTo_32 : decode cX3_stepsTo 32 = .ok (.iastore, 1) := by decide +kernel
theorem dX3_stepsTo_33 : decode cX3_stepsTo 33 = .ok (.iconst 0, 1) := by decide +kernel
theorem dX3_stepsTo_34 : decode cX3_stepsTo 34 = .ok (.istore_n 3, 1) := by decide +kernel
theorem dX3_stepsTo_35 : decode cX3_stepsTo 35 = .ok (.iload_n 3, 1) := by decide +kernel
theorem dX3_stepsTo_36 : decode cX3_stepsTo 36 = .ok (.aload_n 1, 1) := by decide +kernel
theorem dX3_stepsTo_37 : decode cX3_stepsTo 37 = .ok (.getfield 25, 3) := by decide +kernel
theorem dX3_stepsTo_40 : decode cX3_stepsTo 40 = .ok (.if_icmp .ge 67, 3) := by decide +kernel
theorem dX3_stepsTo_43 : decode cX3_stepsTo 43 = .ok (.aload_n 1, 1) := by decide +kernel
theorem dX3_stepsTo_44 : decode cX3_stepsTo 44 = .ok (.iload_n 3, 1) := by decide +kernel
theorem dX3_stepsTo_45 : decode cX3_stepsTo 45 = .ok (.invokevirtual 47, 3) := by decide +kernel
theorem dX3_stepsTo_48 : decode cX3_stepsTo 48 = .ok (.istore 4, 2) := by decide +kernel
theorem dX3_stepsTo_50 : decode cX3_stepsTo 50 = .ok (.iconst 0, 1) := by decide +kernel
theorem dX3_stepsTo_51 : decode cX3_stepsTo 51 = .ok (.istore 5, 2) := by decide +kernel
theorem dX3_stepsTo_53 : decode cX3_stepsTo 53 = .ok (.iload 5, 2) := by decide +kernel
theorem dX3_stepsTo_55 : decode cX3_stepsTo 55 = .ok (.iload 4, 2) := by decide +kernel
theorem dX3_stepsTo_57 : decode cX3_stepsTo 57 = .ok (.if_icmp .ge 44, 3) := by decide +kernel
theorem dX3_stepsTo_60 : decode cX3_stepsTo 60 = .ok (.aload_n 1, 1) := by decide +kernel
theorem dX3_stepsTo_61 : decode cX3_stepsTo 61 = .ok (.iload_n 3, 1) := by decide +kernel
theorem dX3_stepsTo_62 : decode cX3_stepsTo 62 = .ok (.iload 5, 2) := by decide +kernel
theorem dX3_stepsTo_64 : decode cX3_stepsTo 64 = .ok (.invokevirtual 50, 3) := by decide +kernel
theorem dX3_stepsTo_67 : decode cX3_stepsTo 67 = .ok (.istore 6, 2) := by decide +kernel
theorem dX3_stepsTo_69 : decode cX3_stepsTo 69 = .ok (.aload_n 0, 1) := by decide +kernel
theorem dX3_stepsTo_70 : decode cX3_stepsTo 70 = .ok (.getfield 9, 3) := by decide +kernel
theorem dX3_stepsTo_73 : decode cX3_stepsTo 73 = .ok (.iload 6, 2) := by decide +kernel
theorem dX3_stepsTo_75 : decode cX3_stepsTo 75 = .ok (.iaload, 1) := by decide +kernel
theorem dX3_stepsTo_76 : decode cX3_stepsTo 76 = .ok (.iconst (-1), 1) := by decide +kernel
theorem dX3_stepsTo_77 : decode cX3_stepsTo 77 = .ok (.if_icmp .ne 18, 3) := by decide +kernel
theorem dX3_stepsTo_80 : decode cX3_stepsTo 80 = .ok (.aload_n 0, 1) := by decide +kernel
theorem dX3_stepsTo_81 : decode cX3_stepsTo 81 = .ok (.getfield 9, 3) := by decide +kernel
theorem dX3_stepsTo_84 : decode cX3_stepsTo 84 = .ok (.iload 6, 2) := by decide +kernel
theorem dX3_stepsTo_86 : decode cX3_stepsTo 86 = .ok (.aload_n 0, 1) := by decide +kernel
theorem dX3_stepsTo_87 : decode cX3_stepsTo 87 = .ok (.getfield 9, 3) := by decide +kernel
theorem dX3_stepsTo_90 : decode cX3_stepsTo 90 = .ok (.iload_n 3, 1) := by decide +kernel
theorem dX3_stepsTo_91 : decode cX3_stepsTo 91 = .ok (.iaload, 1) := by decide +kernel
theorem dX3_stepsTo_92 : decode cX3_stepsTo 92 = .ok (.iconst 1, 1) := by decide +kernel
theorem dX3_stepsTo_93 : decode cX3_stepsTo 93 = .ok (.iadd, 1) := by decide +kernel
theorem dX3_stepsTo_94 : decode cX3_stepsTo 94 = .ok (.iastore, 1) := by decide +kernel
theorem dX3_stepsTo_95 : decode cX3_stepsTo 95 = .ok (.iinc 5 1, 3) := by decide +kernel
theorem dX3_stepsTo_98 : decode cX3_stepsTo 98 = .ok (.goto (-45), 3) := by decide +kernel
theorem dX3_stepsTo_101 : decode cX3_stepsTo 101 = .ok (.iinc 3 1, 3) := by decide +kernel
theorem dX3_stepsTo_104 : decode cX3_stepsTo 104 = .ok (.goto (-69), 3) := by decide +kernel
theorem dX3_stepsTo_107 : decode cX3_stepsTo 107 = .ok (.aload_n 0, 1) := by decide +kernel
theorem dX3_stepsTo_108 : decode cX3_stepsTo 108 = .ok (.getfield 9, 3) := by decide +kernel
theorem dX3_stepsTo_111 : decode cX3_stepsTo 111 = .ok (.iload_n 2, 1) := by decide +kernel
theorem dX3_stepsTo_112 : decode cX3_stepsTo 112 = .ok (.iaload, 1) := by decide +kernel
theorem dX3_stepsTo_113 : decode cX3_stepsTo 113 = .ok (.ireturn, 1) := by decide +kernel
theorem dX3_signsAt_0 : decode cX3_signsAt 0 = .ok (.iload_n 2, 1) := by decide +kernel
theorem dX3_signsAt_1 : decode cX3_signsAt 1 = .ok (.ifCond .lt 11, 3) := by decide +kernel
theorem dX3_signsAt_4 : decode cX3_signsAt 4 = .ok (.iload_n 2, 1) := by decide +kernel
theorem dX3_signsAt_5 : decode cX3_signsAt 5 = .ok (.aload_n 1, 1) := by decide +kernel
theorem dX3_signsAt_6 : decode cX3_signsAt 6 = .ok (.getfield 25, 3) := by decide +kernel
theorem dX3_signsAt_9 : decode cX3_signsAt 9 = .ok (.if_icmp .lt 5, 3) := by decide +kernel
theorem dX3_signsAt_12 : decode cX3_signsAt 12 = .ok (.iconst 0, 1) := by decide +kernel
theorem dX3_signsAt_13 : decode cX3_signsAt 13 = .ok (.ireturn, 1) := by decide +kernel
theorem dX3_signsAt_14 : decode cX3_signsAt 14 = .ok (.aload_n 0, 1) := by decide +kernel
theorem dX3_signsAt_15 : decode cX3_signsAt 15 = .ok (.getfield 9, 3) := by decide +kernel
theorem dX3_signsAt_18 : decode cX3_signsAt 18 = .ok (.aload_n 1, 1) := by decide +kernel
theorem dX3_signsAt_19 : decode cX3_signsAt 19 = .ok (.getfield 25, 3) := by decide +kernel
theorem dX3_signsAt_22 : decode cX3_signsAt 22 = .ok (.iconst 0, 1) := by decide +kernel
theorem dX3_signsAt_23 : decode cX3_signsAt 23 = .ok (.invokestatic 39, 3) := by decide +kernel
theorem dX3_signsAt_26 : decode cX3_signsAt 26 = .ok (.aload_n 0, 1) := by decide +kernel
theorem dX3_signsAt_27 : decode cX3_signsAt 27 = .ok (.getfield 9, 3) := by decide +kernel
theorem dX3_signsAt_30 : decode cX3_signsAt 30 = .ok (.iconst 0, 1) := by decide +kernel
theorem dX3_signsAt_31 : decode cX3_signsAt 31 = .ok (.iconst 1, 1) := by decide +kernel
theorem dX3_signsAt_32 : decode cX3_signsAt 32 = .ok (.iastore, 1) := by decide +kernel
theorem dX3_signsAt_33 : decode cX3_signsAt 33 = .ok (.iconst 1, 1) := by decide +kernel
theorem dX3_signsAt_34 : decode cX3_signsAt 34 = .ok (.istore_n 3, 1) := by decide +kernel
theorem dX3_signsAt_35 : decode cX3_signsAt 35 = .ok (.iconst 0, 1) := by decide +kernel
theorem dX3_signsAt_36 : decode cX3_signsAt 36 = .ok (.istore 4, 2) := by decide +kernel
theorem dX3_signsAt_38 : decode cX3_signsAt 38 = .ok (.iload_n 3, 1) := by decide +kernel
theorem dX3_signsAt_39 : decode cX3_signsAt 39 = .ok (.ifCond .eq 46, 3) := by decide +kernel
theorem dX3_signsAt_42 : decode cX3_signsAt 42 = .ok (.iload 4, 2) := by decide +kernel
theorem dX3_signsAt_44 : decode cX3_signsAt 44 = .ok (.bipush 80, 2) := by decide +kernel
theorem dX3_signsAt_46 : decode cX3_signsAt 46 = .ok (.if_icmp .gt 39, 3) := by decide +kernel
theorem dX3_signsAt_49 : decode cX3_signsAt 49 = .ok (.iconst 0, 1) := by decide +kernel
theorem dX3_signsAt_50 : decode cX3_signsAt 50 = .ok (.istore_n 3, 1) := by decide +kernel
theorem dX3_signsAt_51 : decode cX3_signsAt 51 = .ok (.iconst 0, 1) := by decide +kernel
theorem dX3_signsAt_52 : decode cX3_signsAt 52 = .ok (.istore 5, 2) := by decide +kernel
theorem dX3_signsAt_54 : decode cX3_signsAt 54 = .ok (.iload 5, 2) := by decide +kernel
theorem dX3_signsAt_56 : decode cX3_signsAt 56 = .ok (.aload_n 1, 1) := by decide +kernel
theorem dX3_signsAt_57 : decode cX3_signsAt 57 = .ok (.getfield 25, 3) := by decide +kernel
theorem dX3_signsAt_60 : decode cX3_signsAt 60 = .ok (.if_icmp .ge 19, 3) := by decide +kernel
theorem dX3_signsAt_63 : decode cX3_signsAt 63 = .ok (.iload_n 3, 1) := by decide +kernel
theorem dX3_signsAt_64 : decode cX3_signsAt 64 = .ok (.aload_n 0, 1) := by decide +kernel
theorem dX3_signsAt_65 : decode cX3_signsAt 65 = .ok (.aload_n 1, 1) := by decide +kernel
theorem dX3_signsAt_66 : decode cX3_signsAt 66 = .ok (.iload 5, 2) := by decide +kernel
theorem dX3_signsAt_68 : decode cX3_signsAt 68 = .ok (.invokevirtual 54, 3) := by decide +kernel
theorem dX3_signsAt_71 : decode cX3_signsAt 71 = .ok (.ior, 1) := by decide +kernel
theorem dX3_signsAt_72 : decode cX3_signsAt 72 = .ok (.istore_n 3, 1) := by decide +kernel
theorem dX3_signsAt_73 : decode cX3_signsAt 73 = .ok (.iinc 5 1, 3) := by decide +kernel
theorem dX3_signsAt_76 : decode cX3_signsAt 76 = .ok (.goto (-22), 3) := by decide +kernel
theorem dX3_signsAt_79 : decode cX3_signsAt 79 = .ok (.iinc 4 1, 3) := by decide +kernel
theorem dX3_signsAt_82 : decode cX3_signsAt 82 = .ok (.goto (-44), 3) := by decide +kernel
theorem dX3_signsAt_85 : decode cX3_signsAt 85 = .ok (.aload_n 0, 1) := by decide +kernel
theorem dX3_signsAt_86 : decode cX3_signsAt 86 = .ok (.getfield 9, 3) := by decide +kernel
theorem dX3_signsAt_89 : decode cX3_signsAt 89 = .ok (.iload_n 2, 1) := by decide +kernel
theorem dX3_signsAt_90 : decode cX3_signsAt 90 = .ok (.iaload, 1) := by decide +kernel
theorem dX3_signsAt_91 : decode cX3_signsAt 91 = .ok (.ireturn, 1) := by decide +kernel
theorem dX3_passSigns_0 : decode cX3_passSigns 0 = .ok (.iconst 0, 1) := by decide +kernel
theorem dX3_passSigns_1 : decode cX3_passSigns 1 = .ok (.istore_n 3, 1) := by decide +kernel
theorem dX3_passSigns_2 : decode cX3_passSigns 2 = .ok (.aload_n 1, 1) := by decide +kernel
theorem dX3_passSigns_3 : decode cX3_passSigns 3 = .ok (.iload_n 2, 1) := by decide +kernel
theorem dX3_passSigns_4 : decode cX3_passSigns 4 = .ok (.invokevirtual 43, 3) := by decide +kernel
theorem dX3_passSigns_7 : decode cX3_passSigns 7 = .ok (.istore 4, 2) := by decide +kernel
theorem dX3_passSigns_9 : decode cX3_passSigns 9 = .ok (.iload 4, 2) := by decide +kernel
theorem dX3_passSigns_11 : decode cX3_passSigns 11 = .ok (.invokestatic 58, 3) := by decide +kernel
theorem dX3_passSigns_14 : decode cX3_passSigns 14 = .ok (.istore 5, 2) := by decide +kernel
theorem dX3_passSigns_16 : decode cX3_passSigns 16 = .ok (.iconst 0, 1) := by decide +kernel
theorem dX3_passSigns_17 : decode cX3_passSigns 17 = .ok (.istore 6, 2) := by decide +kernel
theorem dX3_passSigns_19 : decode cX3_passSigns 19 = .ok (.iload 6, 2) := by decide +kernel
theorem dX3_passSigns_21 : decode cX3_passSigns 21 = .ok (.iload 5, 2) := by decide +kernel
theorem dX3_passSigns_23 : decode cX3_passSigns 23 = .ok (.if_icmp .ge 85, 3) := by decide +kernel
theorem dX3_passSigns_26 : decode cX3_passSigns 26 = .ok (.aload_n 0, 1) := by decide +kernel
theorem dX3_passSigns_27 : decode cX3_passSigns 27 = .ok (.getfield 9, 3) := by decide +kernel
theorem dX3_passSigns_30 : decode cX3_passSigns 30 = .ok (.iload_n 2, 1) := by decide +kernel
theorem dX3_passSigns_31 : decode cX3_passSigns 31 = .ok (.iaload, 1) := by decide +kernel
theorem dX3_passSigns_32 : decode cX3_passSigns 32 = .ok (.istore 7, 2) := by decide +kernel
theorem dX3_passSigns_34 : decode cX3_passSigns 34 = .ok (.iload 4, 2) := by decide +kernel
theorem dX3_passSigns_36 : decode cX3_passSigns 36 = .ok (.bipush 6, 2) := by decide +kernel
theorem dX3_passSigns_38 : decode cX3_passSigns 38 = .ok (.if_icmp .ne 21, 3) := by decide +kernel
theorem dX3_passSigns_41 : decode cX3_passSigns 41 = .ok (.iload 6, 2) := by decide +kernel
theorem dX3_passSigns_43 : decode cX3_passSigns 43 = .ok (.ifCond .ne 16, 3) := by decide +kernel
theorem dX3_passSigns_46 : decode cX3_passSigns 46 = .ok (.iload 7, 2) := by decide +kernel
theorem dX3_passSigns_48 : decode cX3_passSigns 48 = .ok (.iconst 1, 1) := by decide +kernel
theorem dX3_passSigns_49 : decode cX3_passSigns 49 = .ok (.iand, 1) := by decide +kernel
theorem dX3_passSigns_50 : decode cX3_passSigns 50 = .ok (.iconst 1, 1) := by decide +kernel
theorem dX3_passSigns_51 : decode cX3_passSigns 51 = .ok (.ishl, 1) := by decide +kernel
theorem dX3_passSigns_52 : decode cX3_passSigns 52 = .ok (.iload 7, 2) := by decide +kernel
theorem dX3_passSigns_54 : decode cX3_passSigns 54 = .ok (.iconst 1, 1) := by decide +kernel
theorem dX3_passSigns_55 : decode cX3_passSigns 55 = .ok (.ishr, 1) := by decide +kernel
theorem dX3_passSigns_56 : decode cX3_passSigns 56 = .ok (.ior, 1) := by decide +kernel
theorem dX3_passSigns_57 : decode cX3_passSigns 57 = .ok (.istore 7, 2) := by decide +kernel
theorem dX3_passSigns_59 : decode cX3_passSigns 59 = .ok (.aload_n 1, 1) := by decide +kernel
theorem dX3_passSigns_60 : decode cX3_passSigns 60 = .ok (.iload_n 2, 1) := by decide +kernel
theorem dX3_passSigns_61 : decode cX3_passSigns 61 = .ok (.iload 6, 2) := by decide +kernel
theorem dX3_passSigns_63 : decode cX3_passSigns 63 = .ok (.invokevirtual 50, 3) := by decide +kernel
theorem dX3_passSigns_66 : decode cX3_passSigns 66 = .ok (.istore 8, 2) := by decide +kernel
theorem dX3_passSigns_68 : decode cX3_passSigns 68 = .ok (.aload_n 0, 1) := by decide +kernel
theorem dX3_passSigns_69 : decode cX3_passSigns 69 = .ok (.getfield 9, 3) := by decide +kernel
theorem dX3_passSigns_72 : decode cX3_passSigns 72 = .ok (.iload 8, 2) := by decide +kernel
theorem dX3_passSigns_74 : decode cX3_passSigns 74 = .ok (.iaload, 1) := by decide +kernel
theorem dX3_passSigns_75 : decode cX3_passSigns 75 = .ok (.iload 7, 2) := by decide +kernel
theorem dX3_passSigns_77 : decode cX3_passSigns 77 = .ok (.ior, 1) := by decide +kernel
theorem dX3_passSigns_78 : decode cX3_passSigns 78 = .ok (.aload_n 0, 1) := by decide +kernel
theorem dX3_passSigns_79 : decode cX3_passSigns 79 = .ok (.getfield 9, 3) := by decide +kernel
theorem dX3_passSigns_82 : decode cX3_passSigns 82 = .ok (.iload 8, 2) := by decide +kernel
theorem dX3_passSigns_84 : decode cX3_passSigns 84 = .ok (.iaload, 1) := by decide +kernel
theorem dX3_passSigns_85 : decode cX3_passSigns 85 = .ok (.if_icmp .eq 17, 3) := by decide +kernel
theorem dX3_passSigns_88 : decode cX3_passSigns 88 = .ok (.aload_n 0, 1) := by decide +kernel
theorem dX3_passSigns_89 : decode cX3_passSigns 89 = .ok (.getfield 9, 3) := by decide +kernel
theorem dX3_passSigns_92 : decode cX3_passSigns 92 = .ok (.iload 8, 2) := by decide +kernel
theorem dX3_passSigns_94 : decode cX3_passSigns 94 = .ok (.dup2, 1) := by decide +kernel
theorem dX3_passSigns_95 : decode cX3_passSigns 95 = .ok (.iaload, 1) := by decide +kernel
theorem dX3_passSigns_96 : decode cX3_passSigns 96 = .ok (.iload 7, 2) := by decide +kernel
theorem dX3_passSigns_98 : decode cX3_passSigns 98 = .ok (.ior, 1) := by decide +kernel
theorem dX3_passSigns_99 : decode cX3_passSigns 99 = .ok (.iastore, 1) := by decide +kernel
theorem dX3_passSigns_100 : decode cX3_passSigns 100 = .ok (.iconst 1, 1) := by decide +kernel
theorem dX3_passSigns_101 : decode cX3_passSigns 101 = .ok (.istore_n 3, 1) := by decide +kernel
theorem dX3_passSigns_102 : decode cX3_passSigns 102 = .ok (.iinc 6 1, 3) := by decide +kernel
theorem dX3_passSigns_105 : decode cX3_passSigns 105 = .ok (.goto (-86), 3) := by decide +kernel
theorem dX3_passSigns_108 : decode cX3_passSigns 108 = .ok (.iload_n 3, 1) := by decide +kernel
theorem dX3_passSigns_109 : decode cX3_passSigns 109 = .ok (.ireturn, 1) := by decide +kernel
theorem dX3_loopCount_0 : decode cX3_loopCount 0 = .ok (.iconst 0, 1) := by decide +kernel
theorem dX3_loopCount_1 : decode cX3_loopCount 1 = .ok (.istore_n 2, 1) := by decide +kernel
theorem dX3_loopCount_2 : decode cX3_loopCount 2 = .ok (.iload_n 2, 1) := by decide +kernel
theorem dX3_loopCount_3 : decode cX3_loopCount 3 = .ok (.aload_n 1, 1) := by decide +kernel
theorem dX3_loopCount_4 : decode cX3_loopCount 4 = .ok (.getfield 25, 3) := by decide +kernel
theorem dX3_loopCount_7 : decode cX3_loopCount 7 = .ok (.if_icmp .ge 55, 3) := by decide +kernel
theorem dX3_loopCount_10 : decode cX3_loopCount 10 = .ok (.aload_n 0, 1) := by decide +kernel
theorem dX3_loopCount_11 : decode cX3_loopCount 11 = .ok (.getfield 21, 3) := by decide +kernel
theorem dX3_loopCount_14 : decode cX3_loopCount 14 = .ok (.iload_n 2, 1) := by decide +kernel
theorem dX3_loopCount_15 : decode cX3_loopCount 15 = .ok (.lconst 0, 1) := by decide +kernel
theorem dX3_loopCount_16 : decode cX3_loopCount 16 = .ok (.lastore, 1) := by decide +kernel
theorem dX3_loopCount_17 : decode cX3_loopCount 17 = .ok (.aload_n 1, 1) := by decide +kernel
theorem dX3_loopCount_18 : decode cX3_loopCount 18 = .ok (.iload_n 2, 1) := by decide +kernel
theorem dX3_loopCount_19 : decode cX3_loopCount 19 = .ok (.invokevirtual 47, 3) := by decide +kernel
theorem dX3_loopCount_22 : decode cX3_loopCount 22 = .ok (.istore_n 3, 1) := by decide +kernel
theorem dX3_loopCount_23 : decode cX3_loopCount 23 = .ok (.iconst 0, 1) := by decide +kernel
theorem dX3_loopCount_24 : decode cX3_loopCount 24 = .ok (.istore 4, 2) := by decide +kernel
theorem dX3_loopCount_26 : decode cX3_loopCount 26 = .ok (.iload 4, 2) := by decide +kernel
theorem dX3_loopCount_28 : decode cX3_loopCount 28 = .ok (.iload_n 3, 1) := by decide +kernel
theorem dX3_loopCount_29 : decode cX3_loopCount 29 = .ok (.if_icmp .ge 27, 3) := by decide +kernel
theorem dX3_loopCount_32 : decode cX3_loopCount 32 = .ok (.aload_n 0, 1) := by decide +kernel
theorem dX3_loopCount_33 : decode cX3_loopCount 33 = .ok (.getfield 21, 3) := by decide +kernel
theorem dX3_loopCount_36 : decode cX3_loopCount 36 = .ok (.iload_n 2, 1) := by decide +kernel
theorem dX3_loopCount_37 : decode cX3_loopCount 37 = .ok (.dup2, 1) := by decide +kernel
theorem dX3_loopCount_38 : decode cX3_loopCount 38 = .ok (.laload, 1) := by decide +kernel
theorem dX3_loopCount_39 : decode cX3_loopCount 39 = .ok (.lconst 1, 1) := by decide +kernel
theorem dX3_loopCount_40 : decode cX3_loopCount 40 = .ok (.aload_n 1, 1) := by decide +kernel
theorem dX3_loopCount_41 : decode cX3_loopCount 41 = .ok (.iload_n 2, 1) := by decide +kernel
theorem dX3_loopCount_42 : decode cX3_loopCount 42 = .ok (.iload 4, 2) := by decide +kernel
theorem dX3_loopCount_44 : decode cX3_loopCount 44 = .ok (.invokevirtual 50, 3) := by decide +kernel
theorem dX3_loopCount_47 : decode cX3_loopCount 47 = .ok (.lshl, 1) := by decide +kernel
theorem dX3_loopCount_48 : decode cX3_loopCount 48 = .ok (.lor, 1) := by decide +kernel
theorem dX3_loopCount_49 : decode cX3_loopCount 49 = .ok (.lastore, 1) := by decide +kernel
theorem dX3_loopCount_50 : decode cX3_loopCount 50 = .ok (.iinc 4 1, 3) := by decide +kernel
theorem dX3_loopCount_53 : decode cX3_loopCount 53 = .ok (.goto (-27), 3) := by decide +kernel
theorem dX3_loopCount_56 : decode cX3_loopCount 56 = .ok (.iinc 2 1, 3) := by decide +kernel
theorem dX3_loopCount_59 : decode cX3_loopCount 59 = .ok (.goto (-57), 3) := by decide +kernel
theorem dX3_loopCount_62 : decode cX3_loopCount 62 = .ok (.iconst 0, 1) := by decide +kernel
theorem dX3_loopCount_63 : decode cX3_loopCount 63 = .ok (.istore_n 2, 1) := by decide +kernel
theorem dX3_loopCount_64 : decode cX3_loopCount 64 = .ok (.iload_n 2, 1) := by decide +kernel
theorem dX3_loopCount_65 : decode cX3_loopCount 65 = .ok (.aload_n 1, 1) := by decide +kernel
theorem dX3_loopCount_66 : decode cX3_loopCount 66 = .ok (.getfield 25, 3) := by decide +kernel
theorem dX3_loopCount_69 : decode cX3_loopCount 69 = .ok (.if_icmp .ge 55, 3) := by decide +kernel
theorem dX3_loopCount_72 : decode cX3_loopCount 72 = .ok (.iconst 0, 1) := by decide +kernel
theorem dX3_loopCount_73 : decode cX3_loopCount 73 = .ok (.istore_n 3, 1) := by decide +kernel
theorem dX3_loopCount_74 : decode cX3_loopCount 74 = .ok (.iload_n 3, 1) := by decide +kernel
theorem dX3_loopCount_75 : decode cX3_loopCount 75 = .ok (.aload_n 1, 1) := by decide +kernel
theorem dX3_loopCount_76 : decode cX3_loopCount 76 = .ok (.getfield 25, 3) := by decide +kernel
theorem dX3_loopCount_79 : decode cX3_loopCount 79 = .ok (.if_icmp .ge 39, 3) := by decide +kernel
theorem dX3_loopCount_82 : decode cX3_loopCount 82 = .ok (.aload_n 0, 1) := by decide +kernel
theorem dX3_loopCount_83 : decode cX3_loopCount 83 = .ok (.getfield 21, 3) := by decide +kernel
theorem dX3_loopCount_86 : decode cX3_loopCount 86 = .ok (.iload_n 3, 1) := by decide +kernel
theorem dX3_loopCount_87 : decode cX3_loopCount 87 = .ok (.laload, 1) := by decide +kernel
theorem dX3_loopCount_88 : decode cX3_loopCount 88 = .ok (.iload_n 2, 1) := by decide +kernel
theorem dX3_loopCount_89 : decode cX3_loopCount 89 = .ok (.lshr, 1) := by decide +kernel
theorem dX3_loopCount_90 : decode cX3_loopCount 90 = .ok (.lconst 1, 1) := by decide +kernel
theorem dX3_loopCount_91 : decode cX3_loopCount 91 = .ok (.land, 1) := by decide +kernel
theorem dX3_loopCount_92 : decode cX3_loopCount 92 = .ok (.lconst 1, 1) := by decide +kernel
theorem dX3_loopCount_93 : decode cX3_loopCount 93 = .ok (.lcmp, 1) := by decide +kernel
theorem dX3_loopCount_94 : decode cX3_loopCount 94 = .ok (.ifCond .ne 18, 3) := by decide +kernel
theorem dX3_loopCount_97 : decode cX3_loopCount 97 = .ok (.aload_n 0, 1) := by decide +kernel
theorem dX3_loopCount_98 : decode cX3_loopCount 98 = .ok (.getfield 21, 3) := by decide +kernel
theorem dX3_loopCount_101 : decode cX3_loopCount 101 = .ok (.iload_n 3, 1) := by decide +kernel
theorem dX3_loopCount_102 : decode cX3_loopCount 102 = .ok (.dup2, 1) := by decide +kernel
theorem dX3_loopCount_103 : decode cX3_loopCount 103 = .ok (.laload, 1) := by decide +kernel
theorem dX3_loopCount_104 : decode cX3_loopCount 104 = .ok (.aload_n 0, 1) := by decide +kernel
theorem dX3_loopCount_105 : decode cX3_loopCount 105 = .ok (.getfield 21, 3) := by decide +kernel
theorem dX3_loopCount_108 : decode cX3_loopCount 108 = .ok (.iload_n 2, 1) := by decide +kernel
theorem dX3_loopCount_109 : decode cX3_loopCount 109 = .ok (.laload, 1) := by decide +kernel
theorem dX3_loopCount_110 : decode cX3_loopCount 110 = .ok (.lor, 1) := by decide +kernel
theorem dX3_loopCount_111 : decode cX3_loopCount 111 = .ok (.lastore, 1) := by decide +kernel
theorem dX3_loopCount_112 : decode cX3_loopCount 112 = .ok (.iinc 3 1, 3) := by decide +kernel
theorem dX3_loopCount_115 : decode cX3_loopCount 115 = .ok (.goto (-41), 3) := by decide +kernel
theorem dX3_loopCount_118 : decode cX3_loopCount 118 = .ok (.iinc 2 1, 3) := by decide +kernel
theorem dX3_loopCount_121 : decode cX3_loopCount 121 = .ok (.goto (-57), 3) := by decide +kernel
theorem dX3_loopCount_124 : decode cX3_loopCount 124 = .ok (.iconst 0, 1) := by decide +kernel
theorem dX3_loopCount_125 : decode cX3_loopCount 125 = .ok (.istore_n 2, 1) := by decide +kernel
theorem dX3_loopCount_126 : decode cX3_loopCount 126 = .ok (.iconst 0, 1) := by decide +kernel
theorem dX3_loopCount_127 : decode cX3_loopCount 127 = .ok (.istore_n 3, 1) := by decide +kernel
theorem dX3_loopCount_128 : decode cX3_loopCount 128 = .ok (.iload_n 3, 1) := by decide +kernel
theorem dX3_loopCount_129 : decode cX3_loopCount 129 = .ok (.aload_n 1, 1) := by decide +kernel
theorem dX3_loopCount_130 : decode cX3_loopCount 130 = .ok (.getfield 25, 3) := by decide +kernel
theorem dX3_loopCount_133 : decode cX3_loopCount 133 = .ok (.if_icmp .ge 23, 3) := by decide +kernel
theorem dX3_loopCount_136 : decode cX3_loopCount 136 = .ok (.iload_n 2, 1) := by decide +kernel
theorem dX3_loopCount_137 : decode cX3_loopCount 137 = .ok (.aload_n 0, 1) := by decide +kernel
theorem dX3_loopCount_138 : decode cX3_loopCount 138 = .ok (.getfield 21, 3) := by decide +kernel
theorem dX3_loopCount_141 : decode cX3_loopCount 141 = .ok (.iload_n 3, 1) := by decide +kernel
theorem dX3_loopCount_142 : decode cX3_loopCount 142 = .ok (.laload, 1) := by decide +kernel
theorem dX3_loopCount_143 : decode cX3_loopCount 143 = .ok (.iload_n 3, 1) := by decide +kernel
theorem dX3_loopCount_144 : decode cX3_loopCount 144 = .ok (.lshr, 1) := by decide +kernel
theorem dX3_loopCount_145 : decode cX3_loopCount 145 = .ok (.lconst 1, 1) := by decide +kernel
theorem dX3_loopCount_146 : decode cX3_loopCount 146 = .ok (.land, 1) := by decide +kernel
theorem dX3_loopCount_147 : decode cX3_loopCount 147 = .ok (.l2i, 1) := by decide +kernel
theorem dX3_loopCount_148 : decode cX3_loopCount 148 = .ok (.iadd, 1) := by decide +kernel
theorem dX3_loopCount_149 : decode cX3_loopCount 149 = .ok (.istore_n 2, 1) := by decide +kernel
theorem dX3_loopCount_150 : decode cX3_loopCount 150 = .ok (.iinc 3 1, 3) := by decide +kernel
theorem dX3_loopCount_153 : decode cX3_loopCount 153 = .ok (.goto (-25), 3) := by decide +kernel
theorem dX3_loopCount_156 : decode cX3_loopCount 156 = .ok (.iload_n 2, 1) := by decide +kernel
theorem dX3_loopCount_157 : decode cX3_loopCount 157 = .ok (.ireturn, 1) := by decide +kernel
theorem dX3_longestWay_0 : decode cX3_longestWay 0 = .ok (.aload_n 0, 1) := by decide +kernel
theorem dX3_longestWay_1 : decode cX3_longestWay 1 = .ok (.aload_n 1, 1) := by decide +kernel
theorem dX3_longestWay_2 : decode cX3_longestWay 2 = .ok (.invokevirtual 61, 3) := by decide +kernel
theorem dX3_longestWay_5 : decode cX3_longestWay 5 = .ok (.ifCond .le 5, 3) := by decide +kernel
theorem dX3_longestWay_8 : decode cX3_longestWay 8 = .ok (.iconst (-1), 1) := by decide +kernel
theorem dX3_longestWay_9 : decode cX3_longestWay 9 = .ok (.ireturn, 1) := by decide +kernel
theorem dX3_longestWay_10 : decode cX3_longestWay 10 = .ok (.aload_n 0, 1) := by decide +kernel
theorem dX3_longestWay_11 : decode cX3_longestWay 11 = .ok (.getfield 9, 3) := by decide +kernel
theorem dX3_longestWay_14 : decode cX3_longestWay 14 = .ok (.aload_n 1, 1) := by decide +kernel
theorem dX3_longestWay_15 : decode cX3_longestWay 15 = .ok (.getfield 25, 3) := by decide +kernel
theorem dX3_longestWay_18 : decode cX3_longestWay 18 = .ok (.iconst 0, 1) := by decide +kernel
theorem dX3_longestWay_19 : decode cX3_longestWay 19 = .ok (.invokestatic 39, 3) := by decide +kernel
theorem dX3_longestWay_22 : decode cX3_longestWay 22 = .ok (.iconst 0, 1) := by decide +kernel
theorem dX3_longestWay_23 : decode cX3_longestWay 23 = .ok (.istore_n 2, 1) := by decide +kernel
theorem dX3_longestWay_24 : decode cX3_longestWay 24 = .ok (.iload_n 2, 1) := by decide +kernel
theorem dX3_longestWay_25 : decode cX3_longestWay 25 = .ok (.aload_n 1, 1) := by decide +kernel
theorem dX3_longestWay_26 : decode cX3_longestWay 26 = .ok (.getfield 25, 3) := by decide +kernel
theorem dX3_longestWay_29 : decode cX3_longestWay 29 = .ok (.if_icmp .ge 77, 3) := by decide +kernel
theorem dX3_longestWay_32 : decode cX3_longestWay 32 = .ok (.iconst 0, 1) := by decide +kernel
theorem dX3_longestWay_33 : decode cX3_longestWay 33 = .ok (.istore_n 3, 1) := by decide +kernel
theorem dX3_longestWay_34 : decode cX3_longestWay 34 = .ok (.iload_n 3, 1) := by decide +kernel
theorem dX3_longestWay_35 : decode cX3_longestWay 35 = .ok (.aload_n 1, 1) := by decide +kernel
theorem dX3_longestWay_36 : decode cX3_longestWay 36 = .ok (.getfield 25, 3) := by decide +kernel
theorem dX3_longestWay_39 : decode cX3_longestWay 39 = .ok (.if_icmp .ge 61, 3) := by decide +kernel
theorem dX3_longestWay_42 : decode cX3_longestWay 42 = .ok (.aload_n 1, 1) := by decide +kernel
theorem dX3_longestWay_43 : decode cX3_longestWay 43 = .ok (.iload_n 3, 1) := by decide +kernel
theorem dX3_longestWay_44 : decode cX3_longestWay 44 = .ok (.invokevirtual 47, 3) := by decide +kernel
theorem dX3_longestWay_47 : decode cX3_longestWay 47 = .ok (.istore 4, 2) := by decide +kernel
theorem dX3_longestWay_49 : decode cX3_longestWay 49 = .ok (.iconst 0, 1) := by decide +kernel
theorem dX3_longestWay_50 : decode cX3_longestWay 50 = .ok (.istore 5, 2) := by decide +kernel
theorem dX3_longestWay_52 : decode cX3_longestWay 52 = .ok (.iload 5, 2) := by decide +kernel
theorem dX3_longestWay_54 : decode cX3_longestWay 54 = .ok (.iload 4, 2) := by decide +kernel
theorem dX3_longestWay_56 : decode cX3_longestWay 56 = .ok (.if_icmp .ge 38, 3) := by decide +kernel
theorem dX3_longestWay_59 : decode cX3_longestWay 59 = .ok (.aload_n 0, 1) := by decide +kernel
theorem dX3_longestWay_60 : decode cX3_longestWay 60 = .ok (.getfield 9, 3) := by decide +kernel
theorem dX3_longestWay_63 : decode cX3_longestWay 63 = .ok (.iload_n 3, 1) := by decide +kernel
theorem dX3_longestWay_64 : decode cX3_longestWay 64 = .ok (.aload_n 0, 1) := by decide +kernel
theorem dX3_longestWay_65 : decode cX3_longestWay 65 = .ok (.getfield 9, 3) := by decide +kernel
theorem dX3_longestWay_68 : decode cX3_longestWay 68 = .ok (.iload_n 3, 1) := by decide +kernel
theorem dX3_longestWay_69 : decode cX3_longestWay 69 = .ok (.iaload, 1) := by decide +kernel
theorem dX3_longestWay_70 : decode cX3_longestWay 70 = .ok (.iconst 1, 1) := by decide +kernel
theorem dX3_longestWay_71 : decode cX3_longestWay 71 = .ok (.aload_n 0, 1) := by decide +kernel
theorem dX3_longestWay_72 : decode cX3_longestWay 72 = .ok (.getfield 9, 3) := by decide +kernel
theorem dX3_longestWay_75 : decode cX3_longestWay 75 = .ok (.aload_n 1, 1) := by decide +kernel
theorem dX3_longestWay_76 : decode cX3_longestWay 76 = .ok (.iload_n 3, 1) := by decide +kernel
theorem dX3_longestWay_77 : decode cX3_longestWay 77 = .ok (.iload 5, 2) := by decide +kernel
theorem dX3_longestWay_79 : decode cX3_longestWay 79 = .ok (.invokevirtual 50, 3) := by decide +kernel
theorem dX3_longestWay_82 : decode cX3_longestWay 82 = .ok (.iaload, 1) := by decide +kernel
theorem dX3_longestWay_83 : decode cX3_longestWay 83 = .ok (.iadd, 1) := by decide +kernel
theorem dX3_longestWay_84 : decode cX3_longestWay 84 = .ok (.invokestatic 65, 3) := by decide +kernel
theorem dX3_longestWay_87 : decode cX3_longestWay 87 = .ok (.iastore, 1) := by decide +kernel
theorem dX3_longestWay_88 : decode cX3_longestWay 88 = .ok (.iinc 5 1, 3) := by decide +kernel
theorem dX3_longestWay_91 : decode cX3_longestWay 91 = .ok (.goto (-39), 3) := by decide +kernel
theorem dX3_longestWay_94 : decode cX3_longestWay 94 = .ok (.iinc 3 1, 3) := by decide +kernel
theorem dX3_longestWay_97 : decode cX3_longestWay 97 = .ok (.goto (-63), 3) := by decide +kernel
theorem dX3_longestWay_100 : decode cX3_longestWay 100 = .ok (.iinc 2 1, 3) := by decide +kernel
theorem dX3_longestWay_103 : decode cX3_longestWay 103 = .ok (.goto (-79), 3) := by decide +kernel
theorem dX3_longestWay_106 : decode cX3_longestWay 106 = .ok (.aload_n 0, 1) := by decide +kernel
theorem dX3_longestWay_107 : decode cX3_longestWay 107 = .ok (.getfield 9, 3) := by decide +kernel
theorem dX3_longestWay_110 : decode cX3_longestWay 110 = .ok (.iconst 0, 1) := by decide +kernel
theorem dX3_longestWay_111 : decode cX3_longestWay 111 = .ok (.iaload, 1) := by decide +kernel
theorem dX3_longestWay_112 : decode cX3_longestWay 112 = .ok (.ireturn, 1) := by decide +kernel
theorem dX3_treeHeads_0 : decode cX3_treeHeads 0 = .ok (.aload_n 0, 1) := by decide +kernel
theorem dX3_treeHeads_1 : decode cX3_treeHeads 1 = .ok (.aload_n 1, 1) := by decide +kernel
theorem dX3_treeHeads_2 : decode cX3_treeHeads 2 = .ok (.invokevirtual 61, 3) := by decide +kernel
theorem dX3_treeHeads_5 : decode cX3_treeHeads 5 = .ok (.ifCond .le 5, 3) := by decide +kernel
theorem dX3_treeHeads_8 : decode cX3_treeHeads 8 = .ok (.iconst (-1), 1) := by decide +kernel
theorem dX3_treeHeads_9 : decode cX3_treeHeads 9 = .ok (.ireturn, 1) := by decide +kernel
theorem dX3_treeHeads_10 : decode cX3_treeHeads 10 = .ok (.aload_n 0, 1) := by decide +kernel
theorem dX3_treeHeads_11 : decode cX3_treeHeads 11 = .ok (.getfield 9, 3) := by decide +kernel
theorem dX3_treeHeads_14 : decode cX3_treeHeads 14 = .ok (.aload_n 1, 1) := by decide +kernel
theorem dX3_treeHeads_15 : decode cX3_treeHeads 15 = .ok (.getfield 25, 3) := by decide +kernel
theorem dX3_treeHeads_18 : decode cX3_treeHeads 18 = .ok (.iconst 1, 1) := by decide +kernel
theorem dX3_treeHeads_19 : decode cX3_treeHeads 19 = .ok (.invokestatic 39, 3) := by decide +kernel
theorem dX3_treeHeads_22 : decode cX3_treeHeads 22 = .ok (.iconst 0, 1) := by decide +kernel
theorem dX3_treeHeads_23 : decode cX3_treeHeads 23 = .ok (.istore_n 2, 1) := by decide +kernel
theorem dX3_treeHeads_24 : decode cX3_treeHeads 24 = .ok (.iload_n 2, 1) := by decide +kernel
theorem dX3_treeHeads_25 : decode cX3_treeHeads 25 = .ok (.aload_n 1, 1) := by decide +kernel
theorem dX3_treeHeads_26 : decode cX3_treeHeads 26 = .ok (.getfield 25, 3) := by decide +kernel
theorem dX3_treeHeads_29 : decode cX3_treeHeads 29 = .ok (.if_icmp .ge 81, 3) := by decide +kernel
theorem dX3_treeHeads_32 : decode cX3_treeHeads 32 = .ok (.iconst 0, 1) := by decide +kernel
theorem dX3_treeHeads_33 : decode cX3_treeHeads 33 = .ok (.istore_n 3, 1) := by decide +kernel
theorem dX3_treeHeads_34 : decode cX3_treeHeads 34 = .ok (.iload_n 3, 1) := by decide +kernel
theorem dX3_treeHeads_35 : decode cX3_treeHeads 35 = .ok (.aload_n 1, 1) := by decide +kernel
theorem dX3_treeHeads_36 : decode cX3_treeHeads 36 = .ok (.getfield 25, 3) := by decide +kernel
theorem dX3_treeHeads_39 : decode cX3_treeHeads 39 = .ok (.if_icmp .ge 65, 3) := by decide +kernel
theorem dX3_treeHeads_42 : decode cX3_treeHeads 42 = .ok (.iconst 1, 1) := by decide +kernel
theorem dX3_treeHeads_43 : decode cX3_treeHeads 43 = .ok (.istore 4, 2) := by decide +kernel
theorem dX3_treeHeads_45 : decode cX3_treeHeads 45 = .ok (.aload_n 1, 1) := by decide +kernel
theorem dX3_treeHeads_46 : decode cX3_treeHeads 46 = .ok (.iload_n 3, 1) := by decide +kernel
theorem dX3_treeHeads_47 : decode cX3_treeHeads 47 = .ok (.invokevirtual 47, 3) := by decide +kernel
theorem dX3_treeHeads_50 : decode cX3_treeHeads 50 = .ok (.istore 5, 2) := by decide +kernel
theorem dX3_treeHeads_52 : decode cX3_treeHeads 52 = .ok (.iconst 0, 1) := by decide +kernel
theorem dX3_treeHeads_53 : decode cX3_treeHeads 53 = .ok (.istore 6, 2) := by decide +kernel
theorem dX3_treeHeads_55 : decode cX3_treeHeads 55 = .ok (.iload 6, 2) := by decide +kernel
theorem dX3_treeHeads_57 : decode cX3_treeHeads 57 = .ok (.iload 5, 2) := by decide +kernel
theorem dX3_treeHeads_59 : decode cX3_treeHeads 59 = .ok (.if_icmp .ge 26, 3) := by decide +kernel
theorem dX3_treeHeads_62 : decode cX3_treeHeads 62 = .ok (.iload 4, 2) := by decide +kernel
theorem dX3_treeHeads_64 : decode cX3_treeHeads 64 = .ok (.aload_n 0, 1) := by decide +kernel
theorem dX3_treeHeads_65 : decode cX3_treeHeads 65 = .ok (.getfield 9, 3) := by decide +kernel
theorem dX3_treeHeads_68 : decode cX3_treeHeads 68 = .ok (.aload_n 1, 1) := by decide +kernel
theorem dX3_treeHeads_69 : decode cX3_treeHeads 69 = .ok (.iload_n 3, 1) := by decide +kernel
theorem dX3_treeHeads_70 : decode cX3_treeHeads 70 = .ok (.iload 6, 2) := by decide +kernel
theorem dX3_treeHeads_72 : decode cX3_treeHeads 72 = .ok (.invokevirtual 50, 3) := by decide +kernel
theorem dX3_treeHeads_75 : decode cX3_treeHeads 75 = .ok (.iaload, 1) := by decide +kernel
theorem dX3_treeHeads_76 : decode cX3_treeHeads 76 = .ok (.iadd, 1) := by decide +kernel
theorem dX3_treeHeads_77 : decode cX3_treeHeads 77 = .ok (.istore 4, 2) := by decide +kernel
theorem dX3_treeHeads_79 : decode cX3_treeHeads 79 = .ok (.iinc 6 1, 3) := by decide +kernel
theorem dX3_treeHeads_82 : decode cX3_treeHeads 82 = .ok (.goto (-27), 3) := by decide +kernel
theorem dX3_treeHeads_85 : decode cX3_treeHeads 85 = .ok (.aload_n 0, 1) := by decide +kernel
theorem dX3_treeHeads_86 : decode cX3_treeHeads 86 = .ok (.getfield 9, 3) := by decide +kernel
theorem dX3_treeHeads_89 : decode cX3_treeHeads 89 = .ok (.iload_n 3, 1) := by decide +kernel
theorem dX3_treeHeads_90 : decode cX3_treeHeads 90 = .ok (.ldc 70, 2) := by decide +kernel
theorem dX3_treeHeads_92 : decode cX3_treeHeads 92 = .ok (.iload 4, 2) := by decide +kernel
theorem dX3_treeHeads_94 : decode cX3_treeHeads 94 = .ok (.invokestatic 71, 3) := by decide +kernel
theorem dX3_treeHeads_97 : decode cX3_treeHeads 97 = .ok (.iastore, 1) := by decide +kernel
theorem dX3_treeHeads_98 : decode cX3_treeHeads 98 = .ok (.iinc 3 1, 3) := by decide +kernel
theorem dX3_treeHeads_101 : decode cX3_treeHeads 101 = .ok (.goto (-67), 3) := by decide +kernel
theorem dX3_treeHeads_104 : decode cX3_treeHeads 104 = .ok (.iinc 2 1, 3) := by decide +kernel
theorem dX3_treeHeads_107 : decode cX3_treeHeads 107 = .ok (.goto (-83), 3) := by decide +kernel
theorem dX3_treeHeads_110 : decode cX3_treeHeads 110 = .ok (.aload_n 0, 1) := by decide +kernel
theorem dX3_treeHeads_111 : decode cX3_treeHeads 111 = .ok (.getfield 9, 3) := by decide +kernel
theorem dX3_treeHeads_114 : decode cX3_treeHeads 114 = .ok (.iconst 0, 1) := by decide +kernel
theorem dX3_treeHeads_115 : decode cX3_treeHeads 115 = .ok (.iaload, 1) := by decide +kernel
theorem dX3_treeHeads_116 : decode cX3_treeHeads 116 = .ok (.ireturn, 1) := by decide +kernel
theorem dX3_leastValue_0 : decode cX3_leastValue 0 = .ok (.aload_n 0, 1) := by decide +kernel
theorem dX3_leastValue_1 : decode cX3_leastValue 1 = .ok (.getfield 9, 3) := by decide +kernel
theorem dX3_leastValue_4 : decode cX3_leastValue 4 = .ok (.aload_n 1, 1) := by decide +kernel
theorem dX3_leastValue_5 : decode cX3_leastValue 5 = .ok (.getfield 25, 3) := by decide +kernel
theorem dX3_leastValue_8 : decode cX3_leastValue 8 = .ok (.iconst (-1), 1) := by decide +kernel
theorem dX3_leastValue_9 : decode cX3_leastValue 9 = .ok (.invokestatic 39, 3) := by decide +kernel
theorem dX3_leastValue_12 : decode cX3_leastValue 12 = .ok (.iconst 1, 1) := by decide +kernel
theorem dX3_leastValue_13 : decode cX3_leastValue 13 = .ok (.istore_n 2, 1) := by decide +kernel
theorem dX3_leastValue_14 : decode cX3_leastValue 14 = .ok (.iconst 0, 1) := by decide +kernel
theorem dX3_leastValue_15 : decode cX3_leastValue 15 = .ok (.istore_n 3, 1) := by decide +kernel
theorem dX3_leastValue_16 : decode cX3_leastValue 16 = .ok (.iload_n 2, 1) := by decide +kernel
theorem dX3_leastValue_17 : decode cX3_leastValue 17 = .ok (.ifCond .eq 79, 3) := by decide +kernel
theorem dX3_leastValue_20 : decode cX3_leastValue 20 = .ok (.iload_n 3, 1) := by decide +kernel
theorem dX3_leastValue_21 : decode cX3_leastValue 21 = .ok (.bipush 40, 2) := by decide +kernel
theorem dX3_leastValue_23 : decode cX3_leastValue 23 = .ok (.if_icmp .gt 73, 3) := by decide +kernel
theorem dX3_leastValue_26 : decode cX3_leastValue 26 = .ok (.iconst 0, 1) := by decide +kernel
theorem dX3_leastValue_27 : decode cX3_leastValue 27 = .ok (.istore_n 2, 1) := by decide +kernel
theorem dX3_leastValue_28 : decode cX3_leastValue 28 = .ok (.iconst 0, 1) := by decide +kernel
theorem dX3_leastValue_29 : decode cX3_leastValue 29 = .ok (.istore 4, 2) := by decide +kernel
theorem dX3_leastValue_31 : decode cX3_leastValue 31 = .ok (.iload 4, 2) := by decide +kernel
theorem dX3_leastValue_33 : decode cX3_leastValue 33 = .ok (.aload_n 1, 1) := by decide +kernel
theorem dX3_leastValue_34 : decode cX3_leastValue 34 = .ok (.getfield 25, 3) := by decide +kernel
theorem dX3_leastValue_37 : decode cX3_leastValue 37 = .ok (.if_icmp .ge 53, 3) := by decide +kernel
theorem dX3_leastValue_40 : decode cX3_leastValue 40 = .ok (.aload_n 0, 1) := by decide +kernel
theorem dX3_leastValue_41 : decode cX3_leastValue 41 = .ok (.getfield 9, 3) := by decide +kernel
theorem dX3_leastValue_44 : decode cX3_leastValue 44 = .ok (.iload 4, 2) := by decide +kernel
theorem dX3_leastValue_46 : decode cX3_leastValue 46 = .ok (.iaload, 1) := by decide +kernel
theorem dX3_leastValue_47 : decode cX3_leastValue 47 = .ok (.iconst (-1), 1) := by decide +kernel
theorem dX3_leastValue_48 : decode cX3_leastValue 48 = .ok (.if_icmp .ne 36, 3) := by decide +kernel
theorem dX3_leastValue_51 : decode cX3_leastValue 51 = .ok (.aload_n 0, 1) := by decide +kernel
theorem dX3_leastValue_52 : decode cX3_leastValue 52 = .ok (.getfield 9, 3) := by decide +kernel
theorem dX3_leastValue_55 : decode cX3_leastValue 55 = .ok (.iload 4, 2) := by decide +kernel
theorem dX3_leastValue_57 : decode cX3_leastValue 57 = .ok (.aload_n 0, 1) := by decide +kernel
theorem dX3_leastValue_58 : decode cX3_leastValue 58 = .ok (.aload_n 1, 1) := by decide +kernel
theorem dX3_leastValue_59 : decode cX3_leastValue 59 = .ok (.iload 4, 2) := by decide +kernel
theorem dX3_leastValue_61 : decode cX3_leastValue 61 = .ok (.invokevirtual 74, 3) := by decide +kernel
theorem dX3_leastValue_64 : decode cX3_leastValue 64 = .ok (.iastore, 1) := by decide +kernel
theorem dX3_leastValue_65 : decode cX3_leastValue 65 = .ok (.iload_n 2, 1) := by decide +kernel
theorem dX3_leastValue_66 : decode cX3_leastValue 66 = .ok (.aload_n 0, 1) := by decide +kernel
theorem dX3_leastValue_67 : decode cX3_leastValue 67 = .ok (.getfield 9, 3) := by decide +kernel
theorem dX3_leastValue_70 : decode cX3_leastValue 70 = .ok (.iload 4, 2) := by decide +kernel
theorem dX3_leastValue_72 : decode cX3_leastValue 72 = .ok (.iaload, 1) := by decide +kernel
theorem dX3_leastValue_73 : decode cX3_leastValue 73 = .ok (.iconst (-1), 1) := by decide +kernel
theorem dX3_leastValue_74 : decode cX3_leastValue 74 = .ok (.if_icmp .eq 7, 3) := by decide +kernel
theorem dX3_leastValue_77 : decode cX3_leastValue 77 = .ok (.iconst 1, 1) := by decide +kernel
theorem dX3_leastValue_78 : decode cX3_leastValue 78 = .ok (.goto 4, 3) := by decide +kernel
theorem dX3_leastValue_81 : decode cX3_leastValue 81 = .ok (.iconst 0, 1) := by decide +kernel
theorem dX3_leastValue_82 : decode cX3_leastValue 82 = .ok (.ior, 1) := by decide +kernel
theorem dX3_leastValue_83 : decode cX3_leastValue 83 = .ok (.istore_n 2, 1) := by decide +kernel
theorem dX3_leastValue_84 : decode cX3_leastValue 84 = .ok (.iinc 4 1, 3) := by decide +kernel
theorem dX3_leastValue_87 : decode cX3_leastValue 87 = .ok (.goto (-56), 3) := by decide +kernel
theorem dX3_leastValue_90 : decode cX3_leastValue 90 = .ok (.iinc 3 1, 3) := by decide +kernel
theorem dX3_leastValue_93 : decode cX3_leastValue 93 = .ok (.goto (-77), 3) := by decide +kernel
theorem dX3_leastValue_96 : decode cX3_leastValue 96 = .ok (.aload_n 0, 1) := by decide +kernel
theorem dX3_leastValue_97 : decode cX3_leastValue 97 = .ok (.getfield 9, 3) := by decide +kernel
theorem dX3_leastValue_100 : decode cX3_leastValue 100 = .ok (.iconst 0, 1) := by decide +kernel
theorem dX3_leastValue_101 : decode cX3_leastValue 101 = .ok (.iaload, 1) := by decide +kernel
theorem dX3_leastValue_102 : decode cX3_leastValue 102 = .ok (.ireturn, 1) := by decide +kernel
theorem dX3_leastHere_0 : decode cX3_leastHere 0 = .ok (.aload_n 1, 1) := by decide +kernel
theorem dX3_leastHere_1 : decode cX3_leastHere 1 = .ok (.iload_n 2, 1) := by decide +kernel
theorem dX3_leastHere_2 : decode cX3_leastHere 2 = .ok (.invokevirtual 43, 3) := by decide +kernel
theorem dX3_leastHere_5 : decode cX3_leastHere 5 = .ok (.istore_n 3, 1) := by decide +kernel
theorem dX3_leastHere_6 : decode cX3_leastHere 6 = .ok (.iload_n 3, 1) := by decide +kernel
theorem dX3_leastHere_7 : decode cX3_leastHere 7 = .ok (.ifCond .ne 5, 3) := by decide +kernel
theorem dX3_leastHere_10 : decode cX3_leastHere 10 = .ok (.iconst (-1), 1) := by decide +kernel
theorem dX3_leastHere_11 : decode cX3_leastHere 11 = .ok (.ireturn, 1) := by decide +kernel
theorem dX3_leastHere_12 : decode cX3_leastHere 12 = .ok (.iload_n 3, 1) := by decide +kernel
theorem dX3_leastHere_13 : decode cX3_leastHere 13 = .ok (.iconst 5, 1) := by decide +kernel
theorem dX3_leastHere_14 : decode cX3_leastHere 14 = .ok (.if_icmp .eq 5, 3) := by decide +kernel
theorem dX3_leastHere_17 : decode cX3_leastHere 17 = .ok (.iconst 1, 1) := by decide +kernel
theorem dX3_leastHere_18 : decode cX3_leastHere 18 = .ok (.ireturn, 1) := by decide +kernel
theorem dX3_leastHere_19 : decode cX3_leastHere 19 = .ok (.aload_n 0, 1) := by decide +kernel
theorem dX3_leastHere_20 : decode cX3_leastHere 20 = .ok (.getfield 9, 3) := by decide +kernel
theorem dX3_leastHere_23 : decode cX3_leastHere 23 = .ok (.aload_n 1, 1) := by decide +kernel
theorem dX3_leastHere_24 : decode cX3_leastHere 24 = .ok (.iload_n 2, 1) := by decide +kernel
theorem dX3_leastHere_25 : decode cX3_leastHere 25 = .ok (.iconst 0, 1) := by decide +kernel
theorem dX3_leastHere_26 : decode cX3_leastHere 26 = .ok (.invokevirtual 50, 3) := by decide +kernel
theorem dX3_leastHere_29 : decode cX3_leastHere 29 = .ok (.iaload, 1) := by decide +kernel
theorem dX3_leastHere_30 : decode cX3_leastHere 30 = .ok (.istore 4, 2) := by decide +kernel
theorem dX3_leastHere_32 : decode cX3_leastHere 32 = .ok (.aload_n 0, 1) := by decide +kernel
theorem dX3_leastHere_33 : decode cX3_leastHere 33 = .ok (.getfield 9, 3) := by decide +kernel
theorem dX3_leastHere_36 : decode cX3_leastHere 36 = .ok (.aload_n 1, 1) := by decide +kernel
theorem dX3_leastHere_37 : decode cX3_leastHere 37 = .ok (.iload_n 2, 1) := by decide +kernel
theorem dX3_leastHere_38 : decode cX3_leastHere 38 = .ok (.iconst 1, 1) := by decide +kernel
theorem dX3_leastHere_39 : decode cX3_leastHere 39 = .ok (.invokevirtual 50, 3) := by decide +kernel
theorem dX3_leastHere_42 : decode cX3_leastHere 42 = .ok (.iaload, 1) := by decide +kernel
theorem dX3_leastHere_43 : decode cX3_leastHere 43 = .ok (.istore 5, 2) := by decide +kernel
theorem dX3_leastHere_45 : decode cX3_leastHere 45 = .ok (.iload 4, 2) := by decide +kernel
theorem dX3_leastHere_47 : decode cX3_leastHere 47 = .ok (.iconst (-1), 1) := by decide +kernel
theorem dX3_leastHere_48 : decode cX3_leastHere 48 = .ok (.if_icmp .eq 9, 3) := by decide +kernel
theorem dX3_leastHere_51 : decode cX3_leastHere 51 = .ok (.iload 5, 2) := by decide +kernel
theorem dX3_leastHere_53 : decode cX3_leastHere 53 = .ok (.iconst (-1), 1) := by decide +kernel
theorem dX3_leastHere_54 : decode cX3_leastHere 54 = .ok (.if_icmp .ne 5, 3) := by decide +kernel
theorem dX3_leastHere_57 : decode cX3_leastHere 57 = .ok (.iconst (-1), 1) := by decide +kernel
theorem dX3_leastHere_58 : decode cX3_leastHere 58 = .ok (.ireturn, 1) := by decide +kernel
theorem dX3_leastHere_59 : decode cX3_leastHere 59 = .ok (.ldc 70, 2) := by decide +kernel
theorem dX3_leastHere_61 : decode cX3_leastHere 61 = .ok (.iconst 1, 1) := by decide +kernel
theorem dX3_leastHere_62 : decode cX3_leastHere 62 = .ok (.iload 4, 2) := by decide +kernel
theorem dX3_leastHere_64 : decode cX3_leastHere 64 = .ok (.iadd, 1) := by decide +kernel
theorem dX3_leastHere_65 : decode cX3_leastHere 65 = .ok (.iload 5, 2) := by decide +kernel
theorem dX3_leastHere_67 : decode cX3_leastHere 67 = .ok (.iadd, 1) := by decide +kernel
theorem dX3_leastHere_68 : decode cX3_leastHere 68 = .ok (.invokestatic 71, 3) := by decide +kernel
theorem dX3_leastHere_71 : decode cX3_leastHere 71 = .ok (.ireturn, 1) := by decide +kernel
theorem dX4_init_0 : decode cX4_init 0 = .ok (.aload_n 0, 1) := by decide +kernel
theorem dX4_init_1 : decode cX4_init 1 = .ok (.invokespecial 3, 3) := by decide +kernel
theorem dX4_init_4 : decode cX4_init 4 = .ok (.aload_n 0, 1) := by decide +kernel
theorem dX4_init_5 : decode cX4_init 5 = .ok (.bipush 120, 2) := by decide +kernel
theorem dX4_init_7 : decode cX4_init 7 = .ok (.newarray .int, 2) := by decide +kernel
theorem dX4_init_9 : decode cX4_init 9 = .ok (.putfield 9, 3) := by decide +kernel
theorem dX4_init_12 : decode cX4_init 12 = .ok (.aload_n 0, 1) := by decide +kernel
theorem dX4_init_13 : decode cX4_init 13 = .ok (.bipush 120, 2) := by decide +kernel
theorem dX4_init_15 : decode cX4_init 15 = .ok (.newarray .int, 2) := by decide +kernel
theorem dX4_init_17 : decode cX4_init 17 = .ok (.putfield 15, 3) := by decide +kernel
theorem dX4_init_20 : decode cX4_init 20 = .ok (.aload_n 0, 1) := by decide +kernel
theorem dX4_init_21 : decode cX4_init 21 = .ok (.bipush 120, 2) := by decide +kernel
theorem dX4_init_23 : decode cX4_init 23 = .ok (.newarray .int, 2) := by decide +kernel
theorem dX4_init_25 : decode cX4_init 25 = .ok (.putfield 18, 3) := by decide +kernel
theorem dX4_init_28 : decode cX4_init 28 = .ok (.aload_n 0, 1) := by decide +kernel
theorem dX4_init_29 : decode cX4_init 29 = .ok (.bipush 120, 2) := by decide +kernel
theorem dX4_init_31 : decode cX4_init 31 = .ok (.newarray .int, 2) := by decide +kernel
theorem dX4_init_33 : decode cX4_init 33 = .ok (.putfield 21, 3) := by decide +kernel
theorem dX4_init_36 : decode cX4_init 36 = .ok (.aload_n 0, 1) := by decide +kernel
theorem dX4_init_37 : decode cX4_init 37 = .ok (.bipush 120, 2) := by decide +kernel
theorem dX4_init_39 : decode cX4_init 39 = .ok (.newarray .int, 2) := by decide +kernel
theorem dX4_init_41 : decode cX4_init 41 = .ok (.putfield 24, 3) := by decide +kernel
theorem dX4_init_44 : decode cX4_init 44 = .ok (.aload_n 0, 1) := by decide +kernel
theorem dX4_init_45 : decode cX4_init 45 = .ok (.bipush 8, 2) := by decide +kernel
theorem dX4_init_47 : decode cX4_init 47 = .ok (.newarray .int, 2) := by decide +kernel
theorem dX4_init_49 : decode cX4_init 49 = .ok (.putfield 27, 3) := by decide +kernel
theorem dX4_init_52 : decode cX4_init 52 = .ok (.aload_n 0, 1) := by decide +kernel
theorem dX4_init_53 : decode cX4_init 53 = .ok (.bipush 8, 2) := by decide +kernel
theorem dX4_init_55 : decode cX4_init 55 = .ok (.newarray .int, 2) := by decide +kernel
theorem dX4_init_57 : decode cX4_init 57 = .ok (.putfield 30, 3) := by decide +kernel
theorem dX4_init_60 : decode cX4_init 60 = .ok (.aload_n 0, 1) := by decide +kernel
theorem dX4_init_61 : decode cX4_init 61 = .ok (.bipush 8, 2) := by decide +kernel
theorem dX4_init_63 : decode cX4_init 63 = .ok (.newarray .int, 2) := by decide +kernel
theorem dX4_init_65 : decode cX4_init 65 = .ok (.putfield 33, 3) := by decide +kernel
theorem dX4_init_68 : decode cX4_init 68 = .ok (.aload_n 0, 1) := by decide +kernel
theorem dX4_init_69 : decode cX4_init 69 = .ok (.bipush 120, 2) := by decide +kernel
theorem dX4_init_71 : decode cX4_init 71 = .ok (.newarray .int, 2) := by decide +kernel
theorem dX4_init_73 : decode cX4_init 73 = .ok (.putfield 36, 3) := by decide +kernel
theorem dX4_init_76 : decode cX4_init 76 = .ok (.aload_n 0, 1) := by decide +kernel
theorem dX4_init_77 : decode cX4_init 77 = .ok (.bipush 8, 2) := by decide +kernel
theorem dX4_init_79 : decode cX4_init 79 = .ok (.newarray .int, 2) := by decide +kernel
theorem dX4_init_81 : decode cX4_init 81 = .ok (.putfield 39, 3) := by decide +kernel
theorem dX4_init_84 : decode cX4_init 84 = .ok (.return_, 1) := by decide +kernel
theorem dX4_equationCount_0 : decode cX4_equationCount 0 = .ok (.aload_n 0, 1) := by decide +kernel
theorem dX4_equationCount_1 : decode cX4_equationCount 1 = .ok (.getfield 42, 3) := by decide +kernel
theorem dX4_equationCount_4 : decode cX4_equationCount 4 = .ok (.ireturn, 1) := by decide +kernel
theorem dX4_letterOf_0 : decode cX4_letterOf 0 = .ok (.iload_n 1, 1) := by decide +kernel
theorem dX4_letterOf_1 : decode cX4_letterOf 1 = .ok (.ifCond .lt 20, 3) := by decide +kernel
theorem dX4_letterOf_4 : decode cX4_letterOf 4 = .ok (.iload_n 1, 1) := by decide +kernel
theorem dX4_letterOf_5 : decode cX4_letterOf 5 = .ok (.aload_n 0, 1) := by decide +kernel
theorem dX4_letterOf_6 : decode cX4_letterOf 6 = .ok (.getfield 42, 3) := by decide +kernel
theorem dX4_letterOf_9 : decode cX4_letterOf 9 = .ok (.if_icmp .ge 12, 3) := by decide +kernel
theorem dX4_letterOf_12 : decode cX4_letterOf 12 = .ok (.aload_n 0, 1) := by decide +kernel
theorem dX4_letterOf_13 : decode cX4_letterOf 13 = .ok (.getfield 27, 3) := by decide +kernel
theorem dX4_letterOf_16 : decode cX4_letterOf 16 = .ok (.iload_n 1, 1) := by decide +kernel
theorem dX4_letterOf_17 : decode cX4_letterOf 17 = .ok (.iaload, 1) := by decide +kernel
theorem dX4_letterOf_18 : decode cX4_letterOf 18 = .ok (.goto 4, 3) := by decide +kernel
theorem dX4_letterOf_21 : decode cX4_letterOf 21 = .ok (.iconst 0, 1) := by decide +kernel
theorem dX4_letterOf_22 : decode cX4_letterOf 22 = .ok (.ireturn, 1) := by decide +kernel
theorem dX4_faultOf_0 : decode cX4_faultOf 0 = .ok (.aload_n 0, 1) := by decide +kernel
theorem dX4_faultOf_1 : decode cX4_faultOf 1 = .ok (.iconst 0, 1) := by decide +kernel
theorem dX4_faultOf_2 : decode cX4_faultOf 2 = .ok (.putfield 46, 3) := by decide +kernel
theorem dX4_faultOf_5 : decode cX4_faultOf 5 = .ok (.aload_n 0, 1) := by decide +kernel
theorem dX4_faultOf_6 : decode cX4_faultOf 6 = .ok (.iconst 0, 1) := by decide +kernel
theorem dX4_faultOf_7 : decode cX4_faultOf 7 = .ok (.putfield 49, 3) := by decide +kernel
theorem dX4_faultOf_10 : decode cX4_faultOf 10 = .ok (.aload_n 0, 1) := by decide +kernel
theorem dX4_faultOf_11 : decode cX4_faultOf 11 = .ok (.iconst 0, 1) := by decide +kernel
theorem dX4_faultOf_12 : decode cX4_faultOf 12 = .ok (.putfield 52, 3) := by decide +kernel
theorem dX4_faultOf_15 : decode cX4_faultOf 15 = .ok (.aload_n 0, 1) := by decide +kernel
theorem dX4_faultOf_16 : decode cX4_faultOf 16 = .ok (.iconst 0, 1) := by decide +kernel
theorem dX4_faultOf_17 : decode cX4_faultOf 17 = .ok (.putfield 55, 3) := by decide +kernel
theorem dX4_faultOf_20 : decode cX4_faultOf 20 = .ok (.aload_n 0, 1) := by decide +kernel
theorem dX4_faultOf_21 : decode cX4_faultOf 21 = .ok (.iconst 0, 1) := by decide +kernel
theorem dX4_faultOf_22 : decode cX4_faultOf 22 = .ok (.putfield 42, 3) := by decide +kernel
theorem dX4_faultOf_25 : decode cX4_faultOf 25 = .ok (.aload_n 0, 1) := by decide +kernel
theorem dX4_faultOf_26 : decode cX4_faultOf 26 = .ok (.getfield 30, 3) := by decide +kernel
theorem dX4_faultOf_29 : decode cX4_faultOf 29 = .ok (.bipush 8, 2) := by decide +kernel
theorem dX4_faultOf_31 : decode cX4_faultOf 31 = .ok (.iconst (-1), 1) := by decide +kernel
theorem dX4_faultOf_32 : decode cX4_faultOf 32 = .ok (.invokestatic 58, 3) := by decide +kernel
theorem dX4_faultOf_35 : decode cX4_faultOf 35 = .ok (.aload_n 0, 1) := by decide +kernel
theorem dX4_faultOf_36 : decode cX4_faultOf 36 = .ok (.getfield 33, 3) := by decide +kernel
theorem dX4_faultOf_39 : decode cX4_faultOf 39 = .ok (.bipush 8, 2) := by decide +kernel
theorem dX4_faultOf_41 : decode cX4_faultOf 41 = .ok (.iconst (-1), 1) := by decide +kernel
theorem dX4_faultOf_42 : decode cX4_faultOf 42 = .ok (.invokestatic 58, 3) := by decide +kernel
theorem dX4_faultOf_45 : decode cX4_faultOf 45 = .ok (.iconst 0, 1) := by decide +kernel
theorem dX4_faultOf_46 : decode cX4_faultOf 46 = .ok (.istore 4, 2) := by decide +kernel
theorem dX4_faultOf_48 : decode cX4_faultOf 48 = .ok (.iload 4, 2) := by decide +kernel
theorem dX4_faultOf_50 : decode cX4_faultOf 50 = .ok (.iload_n 2, 1) := by decide +kernel
theorem dX4_faultOf_51 : decode cX4_faultOf 51 = .ok (.if_icmp .ge 41, 3) := by decide +kernel
theorem dX4_faultOf_54 : decode cX4_faultOf 54 = .ok (.iload 4, 2) := by decide +kernel
theorem dX4_faultOf_56 : decode cX4_faultOf 56 = .ok (.aload_n 1, 1) := by decide +kernel
theorem dX4_faultOf_57 : decode cX4_faultOf 57 = .ok (.arraylength, 1) := by decide +kernel
theorem dX4_faultOf_58 : decode cX4_faultOf 58 = .ok (.if_icmp .ge 34, 3) := by decide +kernel
theorem dX4_faultOf_61 : decode cX4_faultOf 61 = .ok (.aload_n 1, 1) := by decide +kernel
theorem dX4_faultOf_62 : decode cX4_faultOf 62 = .ok (.iload 4, 2) := by decide +kernel
theorem dX4_faultOf_64 : decode cX4_faultOf 64 = .ok (.iaload, 1) := by decide +kernel
theorem dX4_faultOf_65 : decode cX4_faultOf 65 = .ok (.bipush 32, 2) := by decide +kernel
theorem dX4_faultOf_67 : decode cX4_faultOf 67 = .ok (.if_icmp .eq 19, 3) := by decide +kernel
theorem dX4_faultOf_70 : decode cX4_faultOf 70 = .ok (.aload_n 0, 1) := by decide +kernel
theorem dX4_faultOf_71 : decode cX4_faultOf 71 = .ok (.aload_n 1, 1) := by decide +kernel
theorem dX4_faultOf_72 : decode cX4_faultOf 72 = .ok (.iload 4, 2) := by decide +kernel
theorem dX4_faultOf_74 : decode cX4_faultOf 74 = .ok (.iaload, 1) := by decide +kernel
theorem dX4_faultOf_75 : decode cX4_faultOf 75 = .ok (.iload 4, 2) := by decide +kernel
theorem dX4_faultOf_77 : decode cX4_faultOf 77 = .ok (.invokevirtual 62, 3) := by decide +kernel
theorem dX4_faultOf_80 : decode cX4_faultOf 80 = .ok (.ifCond .ne 6, 3) := by decide +kernel
theorem dX4_faultOf_83 : decode cX4_faultOf 83 = .ok (.iload 4, 2) := by decide +kernel
theorem dX4_faultOf_85 : decode cX4_faultOf 85 = .ok (.ireturn, 1) := by decide +kernel
theorem dX4_faultOf_86 : decode cX4_faultOf 86 = .ok (.iinc 4 1, 3) := by decide +kernel
theorem dX4_faultOf_89 : decode cX4_faultOf 89 = .ok (.goto (-41), 3) := by decide +kernel
theorem dX4_faultOf_92 : decode cX4_faultOf 92 = .ok (.aload_n 0, 1) := by decide +kernel
theorem dX4_faultOf_93 : decode cX4_faultOf 93 = .ok (.getfield 46, 3) := by decide +kernel
theorem dX4_faultOf_96 : decode cX4_faultOf 96 = .ok (.ifCond .ne 10, 3) := by decide +kernel
theorem dX4_faultOf_99 : decode cX4_faultOf 99 = .ok (.aload_n 0, 1) := by decide +kernel
theorem dX4_faultOf_100 : decode cX4_faultOf 100 = .ok (.getfield 42, 3) := by decide +kernel
theorem dX4_faultOf_103 : decode cX4_faultOf 103 = .ok (.ifCond .ne 5, 3) := by decide +kernel
theorem dX4_faultOf_106 : decode cX4_faultOf 106 = .ok (.iload_n 2, 1) := by decide +kernel
theorem dX4_faultOf_107 : decode cX4_faultOf 107 = .ok (.ireturn, 1) := by decide +kernel
theorem dX4_faultOf_108 : decode cX4_faultOf 108 = .ok (.aload_n 0, 1) := by decide +kernel
theorem dX4_faultOf_109 : decode cX4_faultOf 109 = .ok (.aload_n 3, 1) := by decide +kernel
theorem dX4_faultOf_110 : decode cX4_faultOf 110 = .ok (.invokevirtual 66, 3) := by decide +kernel
theorem dX4_faultOf_113 : decode cX4_faultOf 113 = .ok (.istore 4, 2) := by decide +kernel
theorem dX4_faultOf_115 : decode cX4_faultOf 115 = .ok (.iload 4, 2) := by decide +kernel
theorem dX4_faultOf_117 : decode cX4_faultOf 117 = .ok (.iconst (-1), 1) := by decide +kernel
theorem dX4_faultOf_118 : decode cX4_faultOf 118 = .ok (.if_icmp .eq 8, 3) := by decide +kernel
theorem dX4_faultOf_121 : decode cX4_faultOf 121 = .ok (.iload 4, 2) := by decide +kernel
theorem dX4_faultOf_123 : decode cX4_faultOf 123 = .ok (.goto 7, 3) := by decide +kernel
theorem dX4_faultOf_126 : decode cX4_faultOf 126 = .ok (.aload_n 0, 1) := by decide +kernel
theorem dX4_faultOf_127 : decode cX4_faultOf 127 = .ok (.invokevirtual 70, 3) := by decide +kernel
theorem dX4_faultOf_130 : decode cX4_faultOf 130 = .ok (.ireturn, 1) := by decide +kernel
theorem dX4_isLetter_0 : decode cX4_isLetter 0 = .ok (.iload_n 0, 1) := by decide +kernel
theorem dX4_isLetter_1 : decode cX4_isLetter 1 = .ok (.bipush 97, 2) := by decide +kernel
theorem dX4_isLetter_3 : decode cX4_isLetter 3 = .ok (.if_icmp .lt 13, 3) := by decide +kernel
theorem dX4_isLetter_6 : decode cX4_isLetter 6 = .ok (.iload_n 0, 1) := by decide +kernel
theorem dX4_isLetter_7 : decode cX4_isLetter 7 = .ok (.bipush 104, 2) := by decide +kernel
theorem dX4_isLetter_9 : decode cX4_isLetter 9 = .ok (.if_icmp .gt 7, 3) := by decide +kernel
theorem dX4_isLetter_12 : decode cX4_isLetter 12 = .ok (.iconst 1, 1) := by decide +kernel
theorem dX4_isLetter_13 : decode cX4_isLetter 13 = .ok (.goto 4, 3) := by decide +kernel
theorem dX4_isLetter_16 : decode cX4_isLetter 16 = .ok (.iconst 0, 1) := by decide +kernel
theorem dX4_isLetter_17 : decode cX4_isLetter 17 = .ok (.ireturn, 1) := by decide +kernel
theorem dX4_takes_0 : decode cX4_takes 0 = .ok (.aload_n 0, 1) := by decide +kernel
theorem dX4_takes_1 : decode cX4_takes 1 = .ok (.getfield 46, 3) := by decide +kernel
theorem dX4_takes_4 : decode cX4_takes 4 = .ok (.tableswitch 59 0 2 #[28, 35, 52], 28) := by decide +kernel
theorem dX4_takes_32 : decode cX4_takes 32 = .ok (.aload_n 0, 1) := by decide +kernel
theorem dX4_takes_33 : decode cX4_takes 33 = .ok (.iload_n 1, 1) := by decide +kernel
theorem dX4_takes_34 : decode cX4_takes 34 = .ok (.iload_n 2, 1) := by decide +kernel
theorem dX4_takes_35 : decode cX4_takes 35 = .ok (.invokevirtual 74, 3) := by decide +kernel
theorem dX4_takes_38 : decode cX4_takes 38 = .ok (.ireturn, 1) := by decide +kernel
theorem dX4_takes_39 : decode cX4_takes 39 = .ok (.aload_n 0, 1) := by decide +kernel
theorem dX4_takes_40 : decode cX4_takes 40 = .ok (.iconst 2, 1) := by decide +kernel
theorem dX4_takes_41 : decode cX4_takes 41 = .ok (.putfield 46, 3) := by decide +kernel
theorem dX4_takes_44 : decode cX4_takes 44 = .ok (.iload_n 1, 1) := by decide +kernel
theorem dX4_takes_45 : decode cX4_takes 45 = .ok (.bipush 61, 2) := by decide +kernel
theorem dX4_takes_47 : decode cX4_takes 47 = .ok (.if_icmp .ne 7, 3) := by decide +kernel
theorem dX4_takes_50 : decode cX4_takes 50 = .ok (.iconst 1, 1) := by decide +kernel
theorem dX4_takes_51 : decode cX4_takes 51 = .ok (.goto 4, 3) := by decide +kernel
theorem dX4_takes_54 : decode cX4_takes 54 = .ok (.iconst 0, 1) := by decide +kernel
theorem dX4_takes_55 : decode cX4_takes 55 = .ok (.ireturn, 1) := by decide +kernel
theorem dX4_takes_56 : decode cX4_takes 56 = .ok (.aload_n 0, 1) := by decide +kernel
theorem dX4_takes_57 : decode cX4_takes 57 = .ok (.iload_n 1, 1) := by decide +kernel
theorem dX4_takes_58 : decode cX4_takes 58 = .ok (.iload_n 2, 1) := by decide +kernel
theorem dX4_takes_59 : decode cX4_takes 59 = .ok (.invokevirtual 77, 3) := by decide +kernel
theorem dX4_takes_62 : decode cX4_takes 62 = .ok (.ireturn, 1) := by decide +kernel
theorem dX4_takes_63 : decode cX4_takes 63 = .ok (.aload_n 0, 1) := by decide +kernel
theorem dX4_takes_64 : decode cX4_takes 64 = .ok (.iload_n 1, 1) := by decide +kernel
theorem dX4_takes_65 : decode cX4_takes 65 = .ok (.invokevirtual 80, 3) := by decide +kernel
theorem dX4_takes_68 : decode cX4_takes 68 = .ok (.ireturn, 1) := by decide +kernel
theorem dX4_takesLetter_0 : decode cX4_takesLetter 0 = .ok (.iload_n 1, 1) := by decide +kernel
theorem dX4_takesLetter_1 : decode cX4_takesLetter 1 = .ok (.invokestatic 84, 3) := by decide +kernel
theorem dX4_takesLetter_4 : decode cX4_takesLetter 4 = .ok (.ifCond .eq 25, 3) := by decide +kernel
theorem dX4_takesLetter_7 : decode cX4_takesLetter 7 = .ok (.aload_n 0, 1) := by decide +kernel
theorem dX4_takesLetter_8 : decode cX4_takesLetter 8 = .ok (.getfield 33, 3) := by decide +kernel
theorem dX4_takesLetter_11 : decode cX4_takesLetter 11 = .ok (.iload_n 1, 1) := by decide +kernel
theorem dX4_takesLetter_12 : decode cX4_takesLetter 12 = .ok (.bipush 97, 2) := by decide +kernel
theorem dX4_takesLetter_14 : decode cX4_takesLetter 14 = .ok (.isub, 1) := by decide +kernel
theorem dX4_takesLetter_15 : decode cX4_takesLetter 15 = .ok (.iaload, 1) := by decide +kernel
theorem dX4_takesLetter_16 : decode cX4_takesLetter 16 = .ok (.iconst (-1), 1) := by decide +kernel
theorem dX4_takesLetter_17 : decode cX4_takesLetter 17 = .ok (.if_icmp .ne 12, 3) := by decide +kernel
theorem dX4_takesLetter_20 : decode cX4_takesLetter 20 = .ok (.aload_n 0, 1) := by decide +kernel
theorem dX4_takesLetter_21 : decode cX4_takesLetter 21 = .ok (.getfield 42, 3) := by decide +kernel
theorem dX4_takesLetter_24 : decode cX4_takesLetter 24 = .ok (.bipush 8, 2) := by decide +kernel
theorem dX4_takesLetter_26 : decode cX4_takesLetter 26 = .ok (.if_icmp .lt 5, 3) := by decide +kernel
theorem dX4_takesLetter_29 : decode cX4_takesLetter 29 = .ok (.iconst 0, 1) := by decide +kernel
theorem dX4_takesLetter_30 : decode cX4_takesLetter 30 = .ok (.ireturn, 1) := by decide +kernel
theorem dX4_takesLetter_31 : decode cX4_takesLetter 31 = .ok (.aload_n 0, 1) := by decide +kernel
theorem dX4_takesLetter_32 : decode cX4_takesLetter 32 = .ok (.iload_n 1, 1) := by decide +kernel
theorem dX4_takesLetter_33 : decode cX4_takesLetter 33 = .ok (.bipush 97, 2) := by decide +kernel
theorem dX4_takesLetter_35 : decode cX4_takesLetter 35 = .ok (.isub, 1) := by decide +kernel
theorem dX4_takesLetter_36 : decode cX4_takesLetter 36 = .ok (.putfield 87, 3) := by decide +kernel
theorem dX4_takesLetter_39 : decode cX4_takesLetter 39 = .ok (.aload_n 0, 1) := by decide +kernel
theorem dX4_takesLetter_40 : decode cX4_takesLetter 40 = .ok (.getfield 33, 3) := by decide +kernel
theorem dX4_takesLetter_43 : decode cX4_takesLetter 43 = .ok (.aload_n 0, 1) := by decide +kernel
theorem dX4_takesLetter_44 : decode cX4_takesLetter 44 = .ok (.getfield 87, 3) := by decide +kernel
theorem dX4_takesLetter_47 : decode cX4_takesLetter 47 = .ok (.iload_n 2, 1) := by decide +kernel
theorem dX4_takesLetter_48 : decode cX4_takesLetter 48 = .ok (.iastore, 1) := by decide +kernel
theorem dX4_takesLetter_49 : decode cX4_takesLetter 49 = .ok (.aload_n 0, 1) := by decide +kernel
theorem dX4_takesLetter_50 : decode cX4_takesLetter 50 = .ok (.getfield 27, 3) := by decide +kernel
theorem dX4_takesLetter_53 : decode cX4_takesLetter 53 = .ok (.aload_n 0, 1) := by decide +kernel
theorem dX4_takesLetter_54 : decode cX4_takesLetter 54 = .ok (.getfield 42, 3) := by decide +kernel
theorem dX4_takesLetter_57 : decode cX4_takesLetter 57 = .ok (.aload_n 0, 1) := by decide +kernel
theorem dX4_takesLetter_58 : decode cX4_takesLetter 58 = .ok (.getfield 87, 3) := by decide +kernel
theorem dX4_takesLetter_61 : decode cX4_takesLetter 61 = .ok (.iastore, 1) := by decide +kernel
theorem dX4_takesLetter_62 : decode cX4_takesLetter 62 = .ok (.aload_n 0, 1) := by decide +kernel
theorem dX4_takesLetter_63 : decode cX4_takesLetter 63 = .ok (.dup, 1) := by decide +kernel
theorem dX4_takesLetter_64 : decode cX4_takesLetter 64 = .ok (.getfield 42, 3) := by decide +kernel
theorem dX4_takesLetter_67 : decode cX4_takesLetter 67 = .ok (.iconst 1, 1) := by decide +kernel
theorem dX4_takesLetter_68 : decode cX4_takesLetter 68 = .ok (.iadd, 1) := by decide +kernel
theorem dX4_takesLetter_69 : decode cX4_takesLetter 69 = .ok (.putfield 42, 3) := by decide +kernel
theorem dX4_takesLetter_72 : decode cX4_takesLetter 72 = .ok (.aload_n 0, 1) := by decide +kernel
theorem dX4_takesLetter_73 : decode cX4_takesLetter 73 = .ok (.iconst 1, 1) := by decide +kernel
theorem dX4_takesLetter_74 : decode cX4_takesLetter 74 = .ok (.putfield 46, 3) := by decide +kernel
theorem dX4_takesLetter_77 : decode cX4_takesLetter 77 = .ok (.iconst 1, 1) := by decide +kernel
theorem dX4_takesLetter_78 : decode cX4_takesLetter 78 = .ok (.ireturn, 1) := by decide +kernel
theorem dX4_takesAtom_0 : decode cX4_takesAtom 0 = .ok (.iload_n 1, 1) := by decide +kernel
theorem dX4_takesAtom_1 : decode cX4_takesAtom 1 = .ok (.bipush 91, 2) := by decide +kernel
theorem dX4_takesAtom_3 : decode cX4_takesAtom 3 = .ok (.if_icmp .eq 9, 3) := by decide +kernel
theorem dX4_takesAtom_6 : decode cX4_takesAtom 6 = .ok (.iload_n 1, 1) := by decide +kernel
theorem dX4_takesAtom_7 : decode cX4_takesAtom 7 = .ok (.bipush 40, 2) := by decide +kernel
theorem dX4_takesAtom_9 : decode cX4_takesAtom 9 = .ok (.if_icmp .ne 9, 3) := by decide +kernel
theorem dX4_takesAtom_12 : decode cX4_takesAtom 12 = .ok (.aload_n 0, 1) := by decide +kernel
theorem dX4_takesAtom_13 : decode cX4_takesAtom 13 = .ok (.iload_n 1, 1) := by decide +kernel
theorem dX4_takesAtom_14 : decode cX4_takesAtom 14 = .ok (.invokevirtual 90, 3) := by decide +kernel
theorem dX4_takesAtom_17 : decode cX4_takesAtom 17 = .ok (.ireturn, 1) := by decide +kernel
theorem dX4_takesAtom_18 : decode cX4_takesAtom 18 = .ok (.aload_n 0, 1) := by decide +kernel
theorem dX4_takesAtom_19 : decode cX4_takesAtom 19 = .ok (.iconst 3, 1) := by decide +kernel
theorem dX4_takesAtom_20 : decode cX4_takesAtom 20 = .ok (.putfield 46, 3) := by decide +kernel
theorem dX4_takesAtom_23 : decode cX4_takesAtom 23 = .ok (.iload_n 1, 1) := by decide +kernel
theorem dX4_takesAtom_24 : decode cX4_takesAtom 24 = .ok (.bipush 48, 2) := by decide +kernel
theorem dX4_takesAtom_26 : decode cX4_takesAtom 26 = .ok (.if_icmp .lt 24, 3) := by decide +kernel
theorem dX4_takesAtom_29 : decode cX4_takesAtom 29 = .ok (.iload_n 1, 1) := by decide +kernel
theorem dX4_takesAtom_30 : decode cX4_takesAtom 30 = .ok (.bipush 51, 2) := by decide +kernel
theorem dX4_takesAtom_32 : decode cX4_takesAtom 32 = .ok (.if_icmp .gt 18, 3) := by decide +kernel
theorem dX4_takesAtom_35 : decode cX4_takesAtom 35 = .ok (.aload_n 0, 1) := by decide +kernel
theorem dX4_takesAtom_36 : decode cX4_takesAtom 36 = .ok (.aload_n 0, 1) := by decide +kernel
theorem dX4_takesAtom_37 : decode cX4_takesAtom 37 = .ok (.iload_n 1, 1) := by decide +kernel
theorem dX4_takesAtom_38 : decode cX4_takesAtom 38 = .ok (.bipush 48, 2) := by decide +kernel
theorem dX4_takesAtom_40 : decode cX4_takesAtom 40 = .ok (.isub, 1) := by decide +kernel
theorem dX4_takesAtom_41 : decode cX4_takesAtom 41 = .ok (.iconst 0, 1) := by decide +kernel
theorem dX4_takesAtom_42 : decode cX4_takesAtom 42 = .ok (.iconst 0, 1) := by decide +kernel
theorem dX4_takesAtom_43 : decode cX4_takesAtom 43 = .ok (.invokevirtual 93, 3) := by decide +kernel
theorem dX4_takesAtom_46 : decode cX4_takesAtom 46 = .ok (.invokevirtual 97, 3) := by decide +kernel
theorem dX4_takesAtom_49 : decode cX4_takesAtom 49 = .ok (.ireturn, 1) := by decide +kernel
theorem dX4_takesAtom_50 : decode cX4_takesAtom 50 = .ok (.iload_n 1, 1) := by decide +kernel
theorem dX4_takesAtom_51 : decode cX4_takesAtom 51 = .ok (.invokestatic 84, 3) := by decide +kernel
theorem dX4_takesAtom_54 : decode cX4_takesAtom 54 = .ok (.ifCond .eq 25, 3) := by decide +kernel
theorem dX4_takesAtom_57 : decode cX4_takesAtom 57 = .ok (.aload_n 0, 1) := by decide +kernel
theorem dX4_takesAtom_58 : decode cX4_takesAtom 58 = .ok (.aload_n 0, 1) := by decide +kernel
theorem dX4_takesAtom_59 : decode cX4_takesAtom 59 = .ok (.bipush 7, 2) := by decide +kernel
theorem dX4_takesAtom_61 : decode cX4_takesAtom 61 = .ok (.iload_n 1, 1) := by decide +kernel
theorem dX4_takesAtom_62 : decode cX4_takesAtom 62 = .ok (.bipush 97, 2) := by decide +kernel
theorem dX4_takesAtom_64 : decode cX4_takesAtom 64 = .ok (.isub, 1) := by decide +kernel
theorem dX4_takesAtom_65 : decode cX4_takesAtom 65 = .ok (.iload_n 2, 1) := by decide +kernel
theorem dX4_takesAtom_66 : decode cX4_takesAtom 66 = .ok (.invokevirtual 93, 3) := by decide +kernel
theorem dX4_takesAtom_69 : decode cX4_takesAtom 69 = .ok (.invokevirtual 97, 3) := by decide +kernel
theorem dX4_takesAtom_72 : decode cX4_takesAtom 72 = .ok (.ifCond .eq 7, 3) := by decide +kernel
theorem dX4_takesAtom_75 : decode cX4_takesAtom 75 = .ok (.iconst 1, 1) := by decide +kernel
theorem dX4_takesAtom_76 : decode cX4_takesAtom 76 = .ok (.goto 4, 3) := by decide +kernel
theorem dX4_takesAtom_79 : decode cX4_takesAtom 79 = .ok (.iconst 0, 1) := by decide +kernel
theorem dX4_takesAtom_80 : decode cX4_takesAtom 80 = .ok (.ireturn, 1) := by decide +kernel
theorem dX4_takesBehind_0 : decode cX4_takesBehind 0 = .ok (.iload_n 1, 1) := by decide +kernel
theorem dX4_takesBehind_1 : decode cX4_takesBehind 1 = .ok (.lookupswitch 122 #[(41, 66), (42, 51), (59, 113), (62, 51), (93, 77)], 51) := by decide +kernel
theorem dX4_takesBehind_52 : decode cX4_takesBehind 52 = .ok (.aload_n 0, 1) := by decide +kernel
theorem dX4_takesBehind_53 : decode cX4_takesBehind 53 = .ok (.invokevirtual 100, 3) := by decide +kernel
theorem dX4_takesBehind_56 : decode cX4_takesBehind 56 = .ok (.aload_n 0, 1) := by decide +kernel
theorem dX4_takesBehind_57 : decode cX4_takesBehind 57 = .ok (.iconst 2, 1) := by decide +kernel
theorem dX4_takesBehind_58 : decode cX4_takesBehind 58 = .ok (.putfield 46, 3) := by decide +kernel
theorem dX4_takesBehind_61 : decode cX4_takesBehind 61 = .ok (.aload_n 0, 1) := by decide +kernel
theorem dX4_takesBehind_62 : decode cX4_takesBehind 62 = .ok (.iload_n 1, 1) := by decide +kernel
theorem dX4_takesBehind_63 : decode cX4_takesBehind 63 = .ok (.invokevirtual 90, 3) := by decide +kernel
theorem dX4_takesBehind_66 : decode cX4_takesBehind 66 = .ok (.ireturn, 1) := by decide +kernel
theorem dX4_takesBehind_67 : decode cX4_takesBehind 67 = .ok (.aload_n 0, 1) := by decide +kernel
theorem dX4_takesBehind_68 : decode cX4_takesBehind 68 = .ok (.invokevirtual 103, 3) := by decide +kernel
theorem dX4_takesBehind_71 : decode cX4_takesBehind 71 = .ok (.aload_n 0, 1) := by decide +kernel
theorem dX4_takesBehind_72 : decode cX4_takesBehind 72 = .ok (.bipush 40, 2) := by decide +kernel
theorem dX4_takesBehind_74 : decode cX4_takesBehind 74 = .ok (.invokevirtual 106, 3) := by decide +kernel
theorem dX4_takesBehind_77 : decode cX4_takesBehind 77 = .ok (.ireturn, 1) := by decide +kernel
theorem dX4_takesBehind_78 : decode cX4_takesBehind 78 = .ok (.aload_n 0, 1) := by decide +kernel
theorem dX4_takesBehind_79 : decode cX4_takesBehind 79 = .ok (.invokevirtual 103, 3) := by decide +kernel
theorem dX4_takesBehind_82 : decode cX4_takesBehind 82 = .ok (.aload_n 0, 1) := by decide +kernel
theorem dX4_takesBehind_83 : decode cX4_takesBehind 83 = .ok (.bipush 91, 2) := by decide +kernel
theorem dX4_takesBehind_85 : decode cX4_takesBehind 85 = .ok (.invokevirtual 106, 3) := by decide +kernel
theorem dX4_takesBehind_88 : decode cX4_takesBehind 88 = .ok (.ifCond .eq 24, 3) := by decide +kernel
theorem dX4_takesBehind_91 : decode cX4_takesBehind 91 = .ok (.aload_n 0, 1) := by decide +kernel
theorem dX4_takesBehind_92 : decode cX4_takesBehind 92 = .ok (.aload_n 0, 1) := by decide +kernel
theorem dX4_takesBehind_93 : decode cX4_takesBehind 93 = .ok (.iconst 4, 1) := by decide +kernel
theorem dX4_takesBehind_94 : decode cX4_takesBehind 94 = .ok (.aload_n 0, 1) := by decide +kernel
theorem dX4_takesBehind_95 : decode cX4_takesBehind 95 = .ok (.invokevirtual 109, 3) := by decide +kernel
theorem dX4_takesBehind_98 : decode cX4_takesBehind 98 = .ok (.iconst 0, 1) := by decide +kernel
theorem dX4_takesBehind_99 : decode cX4_takesBehind 99 = .ok (.invokevirtual 93, 3) := by decide +kernel
theorem dX4_takesBehind_102 : decode cX4_takesBehind 102 = .ok (.invokevirtual 97, 3) := by decide +kernel
theorem dX4_takesBehind_105 : decode cX4_takesBehind 105 = .ok (.ifCond .eq 7, 3) := by decide +kernel
theorem dX4_takesBehind_108 : decode cX4_takesBehind 108 = .ok (.iconst 1, 1) := by decide +kernel
theorem dX4_takesBehind_109 : decode cX4_takesBehind 109 = .ok (.goto 4, 3) := by decide +kernel
theorem dX4_takesBehind_112 : decode cX4_takesBehind 112 = .ok (.iconst 0, 1) := by decide +kernel
theorem dX4_takesBehind_113 : decode cX4_takesBehind 113 = .ok (.ireturn, 1) := by decide +kernel
theorem dX4_takesBehind_114 : decode cX4_takesBehind 114 = .ok (.aload_n 0, 1) := by decide +kernel
theorem dX4_takesBehind_115 : decode cX4_takesBehind 115 = .ok (.invokevirtual 103, 3) := by decide +kernel
theorem dX4_takesBehind_118 : decode cX4_takesBehind 118 = .ok (.aload_n 0, 1) := by decide +kernel
theorem dX4_takesBehind_119 : decode cX4_takesBehind 119 = .ok (.invokevirtual 112, 3) := by decide +kernel
theorem dX4_takesBehind_122 : decode cX4_takesBehind 122 = .ok (.ireturn, 1) := by decide +kernel
theorem dX4_takesBehind_123 : decode cX4_takesBehind 123 = .ok (.iconst 0, 1) := by decide +kernel
theorem dX4_takesBehind_124 : decode cX4_takesBehind 124 = .ok (.ireturn, 1) := by decide +kernel
theorem dX4_endEquation_0 : decode cX4_endEquation 0 = .ok (.aload_n 0, 1) := by decide +kernel
theorem dX4_endEquation_1 : decode cX4_endEquation 1 = .ok (.getfield 55, 3) := by decide +kernel
theorem dX4_endEquation_4 : decode cX4_endEquation 4 = .ok (.ifCond .ne 11, 3) := by decide +kernel
theorem dX4_endEquation_7 : decode cX4_endEquation 7 = .ok (.aload_n 0, 1) := by decide +kernel
theorem dX4_endEquation_8 : decode cX4_endEquation 8 = .ok (.getfield 52, 3) := by decide +kernel
theorem dX4_endEquation_11 : decode cX4_endEquation 11 = .ok (.iconst 1, 1) := by decide +kernel
theorem dX4_endEquation_12 : decode cX4_endEquation 12 = .ok (.if_icmp .eq 5, 3) := by decide +kernel
theorem dX4_endEquation_15 : decode cX4_endEquation 15 = .ok (.iconst 0, 1) := by decide +kernel
theorem dX4_endEquation_16 : decode cX4_endEquation 16 = .ok (.ireturn, 1) := by decide +kernel
theorem dX4_endEquation_17 : decode cX4_endEquation 17 = .ok (.aload_n 0, 1) := by decide +kernel
theorem dX4_endEquation_18 : decode cX4_endEquation 18 = .ok (.getfield 30, 3) := by decide +kernel
theorem dX4_endEquation_21 : decode cX4_endEquation 21 = .ok (.aload_n 0, 1) := by decide +kernel
theorem dX4_endEquation_22 : decode cX4_endEquation 22 = .ok (.getfield 87, 3) := by decide +kernel
theorem dX4_endEquation_25 : decode cX4_endEquation 25 = .ok (.aload_n 0, 1) := by decide +kernel
theorem dX4_endEquation_26 : decode cX4_endEquation 26 = .ok (.invokevirtual 109, 3) := by decide +kernel
theorem dX4_endEquation_29 : decode cX4_endEquation 29 = .ok (.iastore, 1) := by decide +kernel
theorem dX4_endEquation_30 : decode cX4_endEquation 30 = .ok (.aload_n 0, 1) := by decide +kernel
theorem dX4_endEquation_31 : decode cX4_endEquation 31 = .ok (.iconst 0, 1) := by decide +kernel
theorem dX4_endEquation_32 : decode cX4_endEquation 32 = .ok (.putfield 46, 3) := by decide +kernel
theorem dX4_endEquation_35 : decode cX4_endEquation 35 = .ok (.iconst 1, 1) := by decide +kernel
theorem dX4_endEquation_36 : decode cX4_endEquation 36 = .ok (.ireturn, 1) := by decide +kernel
theorem dX4_joinPairs_0 : decode cX4_joinPairs 0 = .ok (.iconst 0, 1) := by decide +kernel
theorem dX4_joinPairs_1 : decode cX4_joinPairs 1 = .ok (.istore_n 1, 1) := by decide +kernel
theorem dX4_joinPairs_2 : decode cX4_joinPairs 2 = .ok (.iload_n 1, 1) := by decide +kernel
theorem dX4_joinPairs_3 : decode cX4_joinPairs 3 = .ok (.bipush 120, 2) := by decide +kernel
theorem dX4_joinPairs_5 : decode cX4_joinPairs 5 = .ok (.if_icmp .ge 23, 3) := by decide +kernel
theorem dX4_joinPairs_8 : decode cX4_joinPairs 8 = .ok (.aload_n 0, 1) := by decide +kernel
theorem dX4_joinPairs_9 : decode cX4_joinPairs 9 = .ok (.invokevirtual 116, 3) := by decide +kernel
theorem dX4_joinPairs_12 : decode cX4_joinPairs 12 = .ok (.bipush 42, 2) := by decide +kernel
theorem dX4_joinPairs_14 : decode cX4_joinPairs 14 = .ok (.if_icmp .ne 14, 3) := by decide +kernel
theorem dX4_joinPairs_17 : decode cX4_joinPairs 17 = .ok (.aload_n 0, 1) := by decide +kernel
theorem dX4_joinPairs_18 : decode cX4_joinPairs 18 = .ok (.iconst 5, 1) := by decide +kernel
theorem dX4_joinPairs_19 : decode cX4_joinPairs 19 = .ok (.invokevirtual 119, 3) := by decide +kernel
theorem dX4_joinPairs_22 : decode cX4_joinPairs 22 = .ok (.iinc 1 1, 3) := by decide +kernel
theorem dX4_joinPairs_25 : decode cX4_joinPairs 25 = .ok (.goto (-23), 3) := by decide +kernel
theorem dX4_joinPairs_28 : decode cX4_joinPairs 28 = .ok (.return_, 1) := by decide +kernel
theorem dX4_joinAll_0 : decode cX4_joinAll 0 = .ok (.aload_n 0, 1) := by decide +kernel
theorem dX4_joinAll_1 : decode cX4_joinAll 1 = .ok (.invokevirtual 116, 3) := by decide +kernel
theorem dX4_joinAll_4 : decode cX4_joinAll 4 = .ok (.istore_n 1, 1) := by decide +kernel
theorem dX4_joinAll_5 : decode cX4_joinAll 5 = .ok (.iconst 0, 1) := by decide +kernel
theorem dX4_joinAll_6 : decode cX4_joinAll 6 = .ok (.istore_n 2, 1) := by decide +kernel
theorem dX4_joinAll_7 : decode cX4_joinAll 7 = .ok (.iload_n 2, 1) := by decide +kernel
theorem dX4_joinAll_8 : decode cX4_joinAll 8 = .ok (.bipush 120, 2) := by decide +kernel
theorem dX4_joinAll_10 : decode cX4_joinAll 10 = .ok (.if_icmp .ge 42, 3) := by decide +kernel
theorem dX4_joinAll_13 : decode cX4_joinAll 13 = .ok (.iload_n 1, 1) := by decide +kernel
theorem dX4_joinAll_14 : decode cX4_joinAll 14 = .ok (.bipush 42, 2) := by decide +kernel
theorem dX4_joinAll_16 : decode cX4_joinAll 16 = .ok (.if_icmp .eq 9, 3) := by decide +kernel
theorem dX4_joinAll_19 : decode cX4_joinAll 19 = .ok (.iload_n 1, 1) := by decide +kernel
theorem dX4_joinAll_20 : decode cX4_joinAll 20 = .ok (.bipush 62, 2) := by decide +kernel
theorem dX4_joinAll_22 : decode cX4_joinAll 22 = .ok (.if_icmp .ne 30, 3) := by decide +kernel
theorem dX4_joinAll_25 : decode cX4_joinAll 25 = .ok (.aload_n 0, 1) := by decide +kernel
theorem dX4_joinAll_26 : decode cX4_joinAll 26 = .ok (.iload_n 1, 1) := by decide +kernel
theorem dX4_joinAll_27 : decode cX4_joinAll 27 = .ok (.bipush 42, 2) := by decide +kernel
theorem dX4_joinAll_29 : decode cX4_joinAll 29 = .ok (.if_icmp .ne 7, 3) := by decide +kernel
theorem dX4_joinAll_32 : decode cX4_joinAll 32 = .ok (.iconst 5, 1) := by decide +kernel
theorem dX4_joinAll_33 : decode cX4_joinAll 33 = .ok (.goto 5, 3) := by decide +kernel
theorem dX4_joinAll_36 : decode cX4_joinAll 36 = .ok (.bipush 6, 2) := by decide +kernel
theorem dX4_joinAll_38 : decode cX4_joinAll 38 = .ok (.invokevirtual 119, 3) := by decide +kernel
theorem dX4_joinAll_41 : decode cX4_joinAll 41 = .ok (.aload_n 0, 1) := by decide +kernel
theorem dX4_joinAll_42 : decode cX4_joinAll 42 = .ok (.invokevirtual 116, 3) := by decide +kernel
theorem dX4_joinAll_45 : decode cX4_joinAll 45 = .ok (.istore_n 1, 1) := by decide +kernel
theorem dX4_joinAll_46 : decode cX4_joinAll 46 = .ok (.iinc 2 1, 3) := by decide +kernel
theorem dX4_joinAll_49 : decode cX4_joinAll 49 = .ok (.goto (-42), 3) := by decide +kernel
theorem dX4_joinAll_52 : decode cX4_joinAll 52 = .ok (.return_, 1) := by decide +kernel
theorem dX4_joinTwo_0 : decode cX4_joinTwo 0 = .ok (.aload_n 0, 1) := by decide +kernel
theorem dX4_joinTwo_1 : decode cX4_joinTwo 1 = .ok (.dup, 1) := by decide +kernel
theorem dX4_joinTwo_2 : decode cX4_joinTwo 2 = .ok (.getfield 55, 3) := by decide +kernel
theorem dX4_joinTwo_5 : decode cX4_joinTwo 5 = .ok (.iconst 1, 1) := by decide +kernel
theorem dX4_joinTwo_6 : decode cX4_joinTwo 6 = .ok (.isub, 1) := by decide +kernel
theorem dX4_joinTwo_7 : decode cX4_joinTwo 7 = .ok (.putfield 55, 3) := by decide +kernel
theorem dX4_joinTwo_10 : decode cX4_joinTwo 10 = .ok (.aload_n 0, 1) := by decide +kernel
theorem dX4_joinTwo_11 : decode cX4_joinTwo 11 = .ok (.invokevirtual 109, 3) := by decide +kernel
theorem dX4_joinTwo_14 : decode cX4_joinTwo 14 = .ok (.istore_n 2, 1) := by decide +kernel
theorem dX4_joinTwo_15 : decode cX4_joinTwo 15 = .ok (.aload_n 0, 1) := by decide +kernel
theorem dX4_joinTwo_16 : decode cX4_joinTwo 16 = .ok (.invokevirtual 109, 3) := by decide +kernel
theorem dX4_joinTwo_19 : decode cX4_joinTwo 19 = .ok (.istore_n 3, 1) := by decide +kernel
theorem dX4_joinTwo_20 : decode cX4_joinTwo 20 = .ok (.aload_n 0, 1) := by decide +kernel
theorem dX4_joinTwo_21 : decode cX4_joinTwo 21 = .ok (.aload_n 0, 1) := by decide +kernel
theorem dX4_joinTwo_22 : decode cX4_joinTwo 22 = .ok (.iload_n 1, 1) := by decide +kernel
theorem dX4_joinTwo_23 : decode cX4_joinTwo 23 = .ok (.iload_n 3, 1) := by decide +kernel
theorem dX4_joinTwo_24 : decode cX4_joinTwo 24 = .ok (.iload_n 2, 1) := by decide +kernel
theorem dX4_joinTwo_25 : decode cX4_joinTwo 25 = .ok (.invokevirtual 93, 3) := by decide +kernel
theorem dX4_joinTwo_28 : decode cX4_joinTwo 28 = .ok (.invokevirtual 97, 3) := by decide +kernel
theorem dX4_joinTwo_31 : decode cX4_joinTwo 31 = .ok (.pop, 1) := by decide +kernel
theorem dX4_joinTwo_32 : decode cX4_joinTwo 32 = .ok (.return_, 1) := by decide +kernel
theorem dX4_topOperator_0 : decode cX4_topOperator 0 = .ok (.aload_n 0, 1) := by decide +kernel
theorem dX4_topOperator_1 : decode cX4_topOperator 1 = .ok (.getfield 55, 3) := by decide +kernel
theorem dX4_topOperator_4 : decode cX4_topOperator 4 = .ok (.ifCond .le 17, 3) := by decide +kernel
theorem dX4_topOperator_7 : decode cX4_topOperator 7 = .ok (.aload_n 0, 1) := by decide +kernel
theorem dX4_topOperator_8 : decode cX4_topOperator 8 = .ok (.getfield 24, 3) := by decide +kernel
theorem dX4_topOperator_11 : decode cX4_topOperator 11 = .ok (.aload_n 0, 1) := by decide +kernel
theorem dX4_topOperator_12 : decode cX4_topOperator 12 = .ok (.getfield 55, 3) := by decide +kernel
theorem dX4_topOperator_15 : decode cX4_topOperator 15 = .ok (.iconst 1, 1) := by decide +kernel
theorem dX4_topOperator_16 : decode cX4_topOperator 16 = .ok (.isub, 1) := by decide +kernel
theorem dX4_topOperator_17 : decode cX4_topOperator 17 = .ok (.iaload, 1) := by decide +kernel
theorem dX4_topOperator_18 : decode cX4_topOperator 18 = .ok (.goto 4, 3) := by decide +kernel
theorem dX4_topOperator_21 : decode cX4_topOperator 21 = .ok (.iconst (-1), 1) := by decide +kernel
theorem dX4_topOperator_22 : decode cX4_topOperator 22 = .ok (.ireturn, 1) := by decide +kernel
theorem dX4_pushOperator_0 : decode cX4_pushOperator 0 = .ok (.aload_n 0, 1) := by decide +kernel
theorem dX4_pushOperator_1 : decode cX4_pushOperator 1 = .ok (.getfield 55, 3) := by decide +kernel
theorem dX4_pushOperator_4 : decode cX4_pushOperator 4 = .ok (.bipush 120, 2) := by decide +kernel
theorem dX4_pushOperator_6 : decode cX4_pushOperator 6 = .ok (.if_icmp .lt 5, 3) := by decide +kernel
theorem dX4_pushOperator_9 : decode cX4_pushOperator 9 = .ok (.iconst 0, 1) := by decide +kernel
theorem dX4_pushOperator_10 : decode cX4_pushOperator 10 = .ok (.ireturn, 1) := by decide +kernel
theorem dX4_pushOperator_11 : decode cX4_pushOperator 11 = .ok (.aload_n 0, 1) := by decide +kernel
theorem dX4_pushOperator_12 : decode cX4_pushOperator 12 = .ok (.getfield 24, 3) := by decide +kernel
theorem dX4_pushOperator_15 : decode cX4_pushOperator 15 = .ok (.aload_n 0, 1) := by decide +kernel
theorem dX4_pushOperator_16 : decode cX4_pushOperator 16 = .ok (.getfield 55, 3) := by decide +kernel
theorem dX4_pushOperator_19 : decode cX4_pushOperator 19 = .ok (.iload_n 1, 1) := by decide +kernel
theorem dX4_pushOperator_20 : decode cX4_pushOperator 20 = .ok (.iastore, 1) := by decide +kernel
theorem dX4_pushOperator_21 : decode cX4_pushOperator 21 = .ok (.aload_n 0, 1) := by decide +kernel
theorem dX4_pushOperator_22 : decode cX4_pushOperator 22 = .ok (.dup, 1) := by decide +kernel
theorem dX4_pushOperator_23 : decode cX4_pushOperator 23 = .ok (.getfield 55, 3) := by decide +kernel
theorem dX4_pushOperator_26 : decode cX4_pushOperator 26 = .ok (.iconst 1, 1) := by decide +kernel
theorem dX4_pushOperator_27 : decode cX4_pushOperator 27 = .ok (.iadd, 1) := by decide +kernel
theorem dX4_pushOperator_28 : decode cX4_pushOperator 28 = .ok (.putfield 55, 3) := by decide +kernel
theorem dX4_pushOperator_31 : decode cX4_pushOperator 31 = .ok (.iconst 1, 1) := by decide +kernel
theorem dX4_pushOperator_32 : decode cX4_pushOperator 32 = .ok (.ireturn, 1) := by decide +kernel
theorem dX4_popOperator_0 : decode cX4_popOperator 0 = .ok (.aload_n 0, 1) := by decide +kernel
theorem dX4_popOperator_1 : decode cX4_popOperator 1 = .ok (.invokevirtual 116, 3) := by decide +kernel
theorem dX4_popOperator_4 : decode cX4_popOperator 4 = .ok (.iload_n 1, 1) := by decide +kernel
theorem dX4_popOperator_5 : decode cX4_popOperator 5 = .ok (.if_icmp .eq 5, 3) := by decide +kernel
theorem dX4_popOperator_8 : decode cX4_popOperator 8 = .ok (.iconst 0, 1) := by decide +kernel
theorem dX4_popOperator_9 : decode cX4_popOperator 9 = .ok (.ireturn, 1) := by decide +kernel
theorem dX4_popOperator_10 : decode cX4_popOperator 10 = .ok (.aload_n 0, 1) := by decide +kernel
theorem dX4_popOperator_11 : decode cX4_popOperator 11 = .ok (.dup, 1) := by decide +kernel
theorem dX4_popOperator_12 : decode cX4_popOperator 12 = .ok (.getfield 55, 3) := by decide +kernel
theorem dX4_popOperator_15 : decode cX4_popOperator 15 = .ok (.iconst 1, 1) := by decide +kernel
theorem dX4_popOperator_16 : decode cX4_popOperator 16 = .ok (.isub, 1) := by decide +kernel
theorem dX4_popOperator_17 : decode cX4_popOperator 17 = .ok (.putfield 55, 3) := by decide +kernel
theorem dX4_popOperator_20 : decode cX4_popOperator 20 = .ok (.iconst 1, 1) := by decide +kernel
theorem dX4_popOperator_21 : decode cX4_popOperator 21 = .ok (.ireturn, 1) := by decide +kernel
theorem dX4_pushOperand_0 : decode cX4_pushOperand 0 = .ok (.aload_n 0, 1) := by decide +kernel
theorem dX4_pushOperand_1 : decode cX4_pushOperand 1 = .ok (.getfield 52, 3) := by decide +kernel
theorem dX4_pushOperand_4 : decode cX4_pushOperand 4 = .ok (.bipush 120, 2) := by decide +kernel
theorem dX4_pushOperand_6 : decode cX4_pushOperand 6 = .ok (.if_icmp .lt 5, 3) := by decide +kernel
theorem dX4_pushOperand_9 : decode cX4_pushOperand 9 = .ok (.iconst 0, 1) := by decide +kernel
theorem dX4_pushOperand_10 : decode cX4_pushOperand 10 = .ok (.ireturn, 1) := by decide +kernel
theorem dX4_pushOperand_11 : decode cX4_pushOperand 11 = .ok (.aload_n 0, 1) := by decide +kernel
theorem dX4_pushOperand_12 : decode cX4_pushOperand 12 = .ok (.getfield 21, 3) := by decide +kernel
theorem dX4_pushOperand_15 : decode cX4_pushOperand 15 = .ok (.aload_n 0, 1) := by decide +kernel
theorem dX4_pushOperand_16 : decode cX4_pushOperand 16 = .ok (.getfield 52, 3) := by decide +kernel
theorem dX4_pushOperand_19 : decode cX4_pushOperand 19 = .ok (.iload_n 1, 1) := by decide +kernel
theorem dX4_pushOperand_20 : decode cX4_pushOperand 20 = .ok (.iastore, 1) := by decide +kernel
theorem dX4_pushOperand_21 : decode cX4_pushOperand 21 = .ok (.aload_n 0, 1) := by decide +kernel
theorem dX4_pushOperand_22 : decode cX4_pushOperand 22 = .ok (.dup, 1) := by decide +kernel
theorem dX4_pushOperand_23 : decode cX4_pushOperand 23 = .ok (.getfield 52, 3) := by decide +kernel
theorem dX4_pushOperand_26 : decode cX4_pushOperand 26 = .ok (.iconst 1, 1) := by decide +kernel
theorem dX4_pushOperand_27 : decode cX4_pushOperand 27 = .ok (.iadd, 1) := by decide +kernel
theorem dX4_pushOperand_28 : decode cX4_pushOperand 28 = .ok (.putfield 52, 3) := by decide +kernel
theorem dX4_pushOperand_31 : decode cX4_pushOperand 31 = .ok (.iconst 1, 1) := by decide +kernel
theorem dX4_pushOperand_32 : decode cX4_pushOperand 32 = .ok (.ireturn, 1) := by decide +kernel
theorem dX4_popOperand_0 : decode cX4_popOperand 0 = .ok (.aload_n 0, 1) := by decide +kernel
theorem dX4_popOperand_1 : decode cX4_popOperand 1 = .ok (.getfield 52, 3) := by decide +kernel
theorem dX4_popOperand_4 : decode cX4_popOperand 4 = .ok (.ifCond .ne 5, 3) := by decide +kernel
theorem dX4_popOperand_7 : decode cX4_popOperand 7 = .ok (.iconst 0, 1) := by decide +kernel
theorem dX4_popOperand_8 : decode cX4_popOperand 8 = .ok (.ireturn, 1) := by decide +kernel
theorem dX4_popOperand_9 : decode cX4_popOperand 9 = .ok (.aload_n 0, 1) := by decide +kernel
theorem dX4_popOperand_10 : decode cX4_popOperand 10 = .ok (.dup, 1) := by decide +kernel
theorem dX4_popOperand_11 : decode cX4_popOperand 11 = .ok (.getfield 52, 3) := by decide +kernel
theorem dX4_popOperand_14 : decode cX4_popOperand 14 = .ok (.iconst 1, 1) := by decide +kernel
theorem dX4_popOperand_15 : decode cX4_popOperand 15 = .ok (.isub, 1) := by decide +kernel
theorem dX4_popOperand_16 : decode cX4_popOperand 16 = .ok (.putfield 52, 3) := by decide +kernel
theorem dX4_popOperand_19 : decode cX4_popOperand 19 = .ok (.aload_n 0, 1) := by decide +kernel
theorem dX4_popOperand_20 : decode cX4_popOperand 20 = .ok (.getfield 21, 3) := by decide +kernel
theorem dX4_popOperand_23 : decode cX4_popOperand 23 = .ok (.aload_n 0, 1) := by decide +kernel
theorem dX4_popOperand_24 : decode cX4_popOperand 24 = .ok (.getfield 52, 3) := by decide +kernel
theorem dX4_popOperand_27 : decode cX4_popOperand 27 = .ok (.iaload, 1) := by decide +kernel
theorem dX4_popOperand_28 : decode cX4_popOperand 28 = .ok (.ireturn, 1) := by decide +kernel
theorem dX4_newNode_0 : decode cX4_newNode 0 = .ok (.aload_n 0, 1) := by decide +kernel
theorem dX4_newNode_1 : decode cX4_newNode 1 = .ok (.getfield 49, 3) := by decide +kernel
theorem dX4_newNode_4 : decode cX4_newNode 4 = .ok (.bipush 120, 2) := by decide +kernel
theorem dX4_newNode_6 : decode cX4_newNode 6 = .ok (.if_icmp .lt 5, 3) := by decide +kernel
theorem dX4_newNode_9 : decode cX4_newNode 9 = .ok (.iconst 0, 1) := by decide +kernel
theorem dX4_newNode_10 : decode cX4_newNode 10 = .ok (.ireturn, 1) := by decide +kernel
theorem dX4_newNode_11 : decode cX4_newNode 11 = .ok (.aload_n 0, 1) := by decide +kernel
theorem dX4_newNode_12 : decode cX4_newNode 12 = .ok (.getfield 49, 3) := by decide +kernel
theorem dX4_newNode_15 : decode cX4_newNode 15 = .ok (.istore 4, 2) := by decide +kernel
theorem dX4_newNode_17 : decode cX4_newNode 17 = .ok (.aload_n 0, 1) := by decide +kernel
theorem dX4_newNode_18 : decode cX4_newNode 18 = .ok (.getfield 9, 3) := by decide +kernel
theorem dX4_newNode_21 : decode cX4_newNode 21 = .ok (.iload 4, 2) := by decide +kernel
theorem dX4_newNode_23 : decode cX4_newNode 23 = .ok (.iload_n 1, 1) := by decide +kernel
theorem dX4_newNode_24 : decode cX4_newNode 24 = .ok (.iastore, 1) := by decide +kernel
theorem dX4_newNode_25 : decode cX4_newNode 25 = .ok (.aload_n 0, 1) := by decide +kernel
theorem dX4_newNode_26 : decode cX4_newNode 26 = .ok (.getfield 15, 3) := by decide +kernel
theorem dX4_newNode_29 : decode cX4_newNode 29 = .ok (.iload 4, 2) := by decide +kernel
theorem dX4_newNode_31 : decode cX4_newNode 31 = .ok (.iload_n 2, 1) := by decide +kernel
theorem dX4_newNode_32 : decode cX4_newNode 32 = .ok (.iastore, 1) := by decide +kernel
theorem dX4_newNode_33 : decode cX4_newNode 33 = .ok (.aload_n 0, 1) := by decide +kernel
theorem dX4_newNode_34 : decode cX4_newNode 34 = .ok (.getfield 18, 3) := by decide +kernel
theorem dX4_newNode_37 : decode cX4_newNode 37 = .ok (.iload 4, 2) := by decide +kernel
theorem dX4_newNode_39 : decode cX4_newNode 39 = .ok (.iload_n 3, 1) := by decide +kernel
theorem dX4_newNode_40 : decode cX4_newNode 40 = .ok (.iastore, 1) := by decide +kernel
theorem dX4_newNode_41 : decode cX4_newNode 41 = .ok (.aload_n 0, 1) := by decide +kernel
theorem dX4_newNode_42 : decode cX4_newNode 42 = .ok (.dup, 1) := by decide +kernel
theorem dX4_newNode_43 : decode cX4_newNode 43 = .ok (.getfield 49, 3) := by decide +kernel
theorem dX4_newNode_46 : decode cX4_newNode 46 = .ok (.iconst 1, 1) := by decide +kernel
theorem dX4_newNode_47 : decode cX4_newNode 47 = .ok (.iadd, 1) := by decide +kernel
theorem dX4_newNode_48 : decode cX4_newNode 48 = .ok (.putfield 49, 3) := by decide +kernel
theorem dX4_newNode_51 : decode cX4_newNode 51 = .ok (.iload 4, 2) := by decide +kernel
theorem dX4_newNode_53 : decode cX4_newNode 53 = .ok (.ireturn, 1) := by decide +kernel
theorem dX4_strangeLetter_0 : decode cX4_strangeLetter 0 = .ok (.iconst 0, 1) := by decide +kernel
theorem dX4_strangeLetter_1 : decode cX4_strangeLetter 1 = .ok (.istore_n 2, 1) := by decide +kernel
theorem dX4_strangeLetter_2 : decode cX4_strangeLetter 2 = .ok (.iload_n 2, 1) := by decide +kernel
theorem dX4_strangeLetter_3 : decode cX4_strangeLetter 3 = .ok (.aload_n 0, 1) := by decide +kernel
theorem dX4_strangeLetter_4 : decode cX4_strangeLetter 4 = .ok (.getfield 49, 3) := by decide +kernel
theorem dX4_strangeLetter_7 : decode cX4_strangeLetter 7 = .ok (.if_icmp .ge 50, 3) := by decide +kernel
theorem dX4_strangeLetter_10 : decode cX4_strangeLetter 10 = .ok (.aload_n 0, 1) := by decide +kernel
theorem dX4_strangeLetter_11 : decode cX4_strangeLetter 11 = .ok (.getfield 9, 3) := by decide +kernel
theorem dX4_strangeLetter_14 : decode cX4_strangeLetter 14 = .ok (.iload_n 2, 1) := by decide +kernel
theorem dX4_strangeLetter_15 : decode cX4_strangeLetter 15 = .ok (.iaload, 1) := by decide +kernel
theorem dX4_strangeLetter_16 : decode cX4_strangeLetter 16 = .ok (.bipush 7, 2) := by decide +kernel
theorem dX4_strangeLetter_18 : decode cX4_strangeLetter 18 = .ok (.if_icmp .ne 33, 3) := by decide +kernel
theorem dX4_strangeLetter_21 : decode cX4_strangeLetter 21 = .ok (.aload_n 0, 1) := by decide +kernel
theorem dX4_strangeLetter_22 : decode cX4_strangeLetter 22 = .ok (.getfield 15, 3) := by decide +kernel
theorem dX4_strangeLetter_25 : decode cX4_strangeLetter 25 = .ok (.iload_n 2, 1) := by decide +kernel
theorem dX4_strangeLetter_26 : decode cX4_strangeLetter 26 = .ok (.iaload, 1) := by decide +kernel
theorem dX4_strangeLetter_27 : decode cX4_strangeLetter 27 = .ok (.istore_n 3, 1) := by decide +kernel
theorem dX4_strangeLetter_28 : decode cX4_strangeLetter 28 = .ok (.aload_n 0, 1) := by decide +kernel
theorem dX4_strangeLetter_29 : decode cX4_strangeLetter 29 = .ok (.getfield 30, 3) := by decide +kernel
theorem dX4_strangeLetter_32 : decode cX4_strangeLetter 32 = .ok (.iload_n 3, 1) := by decide +kernel
theorem dX4_strangeLetter_33 : decode cX4_strangeLetter 33 = .ok (.iaload, 1) := by decide +kernel
theorem dX4_strangeLetter_34 : decode cX4_strangeLetter 34 = .ok (.iconst (-1), 1) := by decide +kernel
theorem dX4_strangeLetter_35 : decode cX4_strangeLetter 35 = .ok (.if_icmp .ne 16, 3) := by decide +kernel
theorem dX4_strangeLetter_38 : decode cX4_strangeLetter 38 = .ok (.aload_n 1, 1) := by decide +kernel
theorem dX4_strangeLetter_39 : decode cX4_strangeLetter 39 = .ok (.iload_n 3, 1) := by decide +kernel
theorem dX4_strangeLetter_40 : decode cX4_strangeLetter 40 = .ok (.aaload, 1) := by decide +kernel
theorem dX4_strangeLetter_41 : decode cX4_strangeLetter 41 = .ok (.ifnonnull 10, 3) := by decide +kernel
theorem dX4_strangeLetter_44 : decode cX4_strangeLetter 44 = .ok (.aload_n 0, 1) := by decide +kernel
theorem dX4_strangeLetter_45 : decode cX4_strangeLetter 45 = .ok (.getfield 18, 3) := by decide +kernel
theorem dX4_strangeLetter_48 : decode cX4_strangeLetter 48 = .ok (.iload_n 2, 1) := by decide +kernel
theorem dX4_strangeLetter_49 : decode cX4_strangeLetter 49 = .ok (.iaload, 1) := by decide +kernel
theorem dX4_strangeLetter_50 : decode cX4_strangeLetter 50 = .ok (.ireturn, 1) := by decide +kernel
theorem dX4_strangeLetter_51 : decode cX4_strangeLetter 51 = .ok (.iinc 2 1, 3) := by decide +kernel
theorem dX4_strangeLetter_54 : decode cX4_strangeLetter 54 = .ok (.goto (-52), 3) := by decide +kernel
theorem dX4_strangeLetter_57 : decode cX4_strangeLetter 57 = .ok (.iconst (-1), 1) := by decide +kernel
theorem dX4_strangeLetter_58 : decode cX4_strangeLetter 58 = .ok (.ireturn, 1) := by decide +kernel
theorem dX4_emptyLetter_0 : decode cX4_emptyLetter 0 = .ok (.iconst 0, 1) := by decide +kernel
theorem dX4_emptyLetter_1 : decode cX4_emptyLetter 1 = .ok (.istore_n 1, 1) := by decide +kernel
theorem dX4_emptyLetter_2 : decode cX4_emptyLetter 2 = .ok (.iload_n 1, 1) := by decide +kernel
theorem dX4_emptyLetter_3 : decode cX4_emptyLetter 3 = .ok (.aload_n 0, 1) := by decide +kernel
theorem dX4_emptyLetter_4 : decode cX4_emptyLetter 4 = .ok (.getfield 42, 3) := by decide +kernel
theorem dX4_emptyLetter_7 : decode cX4_emptyLetter 7 = .ok (.if_icmp .ge 66, 3) := by decide +kernel
theorem dX4_emptyLetter_10 : decode cX4_emptyLetter 10 = .ok (.aload_n 0, 1) := by decide +kernel
theorem dX4_emptyLetter_11 : decode cX4_emptyLetter 11 = .ok (.getfield 27, 3) := by decide +kernel
theorem dX4_emptyLetter_14 : decode cX4_emptyLetter 14 = .ok (.iload_n 1, 1) := by decide +kernel
theorem dX4_emptyLetter_15 : decode cX4_emptyLetter 15 = .ok (.iaload, 1) := by decide +kernel
theorem dX4_emptyLetter_16 : decode cX4_emptyLetter 16 = .ok (.istore_n 2, 1) := by decide +kernel
theorem dX4_emptyLetter_17 : decode cX4_emptyLetter 17 = .ok (.aload_n 0, 1) := by decide +kernel
theorem dX4_emptyLetter_18 : decode cX4_emptyLetter 18 = .ok (.iload_n 2, 1) := by decide +kernel
theorem dX4_emptyLetter_19 : decode cX4_emptyLetter 19 = .ok (.invokevirtual 123, 3) := by decide +kernel
theorem dX4_emptyLetter_22 : decode cX4_emptyLetter 22 = .ok (.istore_n 3, 1) := by decide +kernel
theorem dX4_emptyLetter_23 : decode cX4_emptyLetter 23 = .ok (.iconst 0, 1) := by decide +kernel
theorem dX4_emptyLetter_24 : decode cX4_emptyLetter 24 = .ok (.istore 4, 2) := by decide +kernel
theorem dX4_emptyLetter_26 : decode cX4_emptyLetter 26 = .ok (.iload 4, 2) := by decide +kernel
theorem dX4_emptyLetter_28 : decode cX4_emptyLetter 28 = .ok (.bipush 8, 2) := by decide +kernel
theorem dX4_emptyLetter_30 : decode cX4_emptyLetter 30 = .ok (.if_icmp .ge 25, 3) := by decide +kernel
theorem dX4_emptyLetter_33 : decode cX4_emptyLetter 33 = .ok (.iload_n 3, 1) := by decide +kernel
theorem dX4_emptyLetter_34 : decode cX4_emptyLetter 34 = .ok (.iconst (-1), 1) := by decide +kernel
theorem dX4_emptyLetter_35 : decode cX4_emptyLetter 35 = .ok (.if_icmp .eq 20, 3) := by decide +kernel
theorem dX4_emptyLetter_38 : decode cX4_emptyLetter 38 = .ok (.iload_n 3, 1) := by decide +kernel
theorem dX4_emptyLetter_39 : decode cX4_emptyLetter 39 = .ok (.iload_n 2, 1) := by decide +kernel
theorem dX4_emptyLetter_40 : decode cX4_emptyLetter 40 = .ok (.if_icmp .eq 15, 3) := by decide +kernel
theorem dX4_emptyLetter_43 : decode cX4_emptyLetter 43 = .ok (.aload_n 0, 1) := by decide +kernel
theorem dX4_emptyLetter_44 : decode cX4_emptyLetter 44 = .ok (.iload_n 3, 1) := by decide +kernel
theorem dX4_emptyLetter_45 : decode cX4_emptyLetter 45 = .ok (.invokevirtual 123, 3) := by decide +kernel
theorem dX4_emptyLetter_48 : decode cX4_emptyLetter 48 = .ok (.istore_n 3, 1) := by decide +kernel
theorem dX4_emptyLetter_49 : decode cX4_emptyLetter 49 = .ok (.iinc 4 1, 3) := by decide +kernel
theorem dX4_emptyLetter_52 : decode cX4_emptyLetter 52 = .ok (.goto (-26), 3) := by decide +kernel
theorem dX4_emptyLetter_55 : decode cX4_emptyLetter 55 = .ok (.iload_n 3, 1) := by decide +kernel
theorem dX4_emptyLetter_56 : decode cX4_emptyLetter 56 = .ok (.iload_n 2, 1) := by decide +kernel
theorem dX4_emptyLetter_57 : decode cX4_emptyLetter 57 = .ok (.if_icmp .ne 10, 3) := by decide +kernel
theorem dX4_emptyLetter_60 : decode cX4_emptyLetter 60 = .ok (.aload_n 0, 1) := by decide +kernel
theorem dX4_emptyLetter_61 : decode cX4_emptyLetter 61 = .ok (.getfield 33, 3) := by decide +kernel
theorem dX4_emptyLetter_64 : decode cX4_emptyLetter 64 = .ok (.iload_n 2, 1) := by decide +kernel
theorem dX4_emptyLetter_65 : decode cX4_emptyLetter 65 = .ok (.iaload, 1) := by decide +kernel
theorem dX4_emptyLetter_66 : decode cX4_emptyLetter 66 = .ok (.ireturn, 1) := by decide +kernel
theorem dX4_emptyLetter_67 : decode cX4_emptyLetter 67 = .ok (.iinc 1 1, 3) := by decide +kernel
theorem dX4_emptyLetter_70 : decode cX4_emptyLetter 70 = .ok (.goto (-68), 3) := by decide +kernel
theorem dX4_emptyLetter_73 : decode cX4_emptyLetter 73 = .ok (.iconst (-1), 1) := by decide +kernel
theorem dX4_emptyLetter_74 : decode cX4_emptyLetter 74 = .ok (.ireturn, 1) := by decide +kernel
theorem dX4_letterBehind_0 : decode cX4_letterBehind 0 = .ok (.aload_n 0, 1) := by decide +kernel
theorem dX4_letterBehind_1 : decode cX4_letterBehind 1 = .ok (.getfield 30, 3) := by decide +kernel
theorem dX4_letterBehind_4 : decode cX4_letterBehind 4 = .ok (.iload_n 1, 1) := by decide +kernel
theorem dX4_letterBehind_5 : decode cX4_letterBehind 5 = .ok (.iaload, 1) := by decide +kernel
theorem dX4_letterBehind_6 : decode cX4_letterBehind 6 = .ok (.istore_n 2, 1) := by decide +kernel
theorem dX4_letterBehind_7 : decode cX4_letterBehind 7 = .ok (.iload_n 2, 1) := by decide +kernel
theorem dX4_letterBehind_8 : decode cX4_letterBehind 8 = .ok (.iconst (-1), 1) := by decide +kernel
theorem dX4_letterBehind_9 : decode cX4_letterBehind 9 = .ok (.if_icmp .eq 23, 3) := by decide +kernel
theorem dX4_letterBehind_12 : decode cX4_letterBehind 12 = .ok (.aload_n 0, 1) := by decide +kernel
theorem dX4_letterBehind_13 : decode cX4_letterBehind 13 = .ok (.getfield 9, 3) := by decide +kernel
theorem dX4_letterBehind_16 : decode cX4_letterBehind 16 = .ok (.iload_n 2, 1) := by decide +kernel
theorem dX4_letterBehind_17 : decode cX4_letterBehind 17 = .ok (.iaload, 1) := by decide +kernel
theorem dX4_letterBehind_18 : decode cX4_letterBehind 18 = .ok (.bipush 7, 2) := by decide +kernel
theorem dX4_letterBehind_20 : decode cX4_letterBehind 20 = .ok (.if_icmp .ne 12, 3) := by decide +kernel
theorem dX4_letterBehind_23 : decode cX4_letterBehind 23 = .ok (.aload_n 0, 1) := by decide +kernel
theorem dX4_letterBehind_24 : decode cX4_letterBehind 24 = .ok (.getfield 15, 3) := by decide +kernel
theorem dX4_letterBehind_27 : decode cX4_letterBehind 27 = .ok (.iload_n 2, 1) := by decide +kernel
theorem dX4_letterBehind_28 : decode cX4_letterBehind 28 = .ok (.iaload, 1) := by decide +kernel
theorem dX4_letterBehind_29 : decode cX4_letterBehind 29 = .ok (.goto 4, 3) := by decide +kernel
theorem dX4_letterBehind_32 : decode cX4_letterBehind 32 = .ok (.iconst (-1), 1) := by decide +kernel
theorem dX4_letterBehind_33 : decode cX4_letterBehind 33 = .ok (.ireturn, 1) := by decide +kernel
theorem dX4_layOut_0 : decode cX4_layOut 0 = .ok (.aload_n 1, 1) := by decide +kernel
theorem dX4_layOut_1 : decode cX4_layOut 1 = .ok (.invokevirtual 127, 3) := by decide +kernel
theorem dX4_layOut_4 : decode cX4_layOut 4 = .ok (.iconst 0, 1) := by decide +kernel
theorem dX4_layOut_5 : decode cX4_layOut 5 = .ok (.istore_n 3, 1) := by decide +kernel
theorem dX4_layOut_6 : decode cX4_layOut 6 = .ok (.iload_n 3, 1) := by decide +kernel
theorem dX4_layOut_7 : decode cX4_layOut 7 = .ok (.bipush 8, 2) := by decide +kernel
theorem dX4_layOut_9 : decode cX4_layOut 9 = .ok (.if_icmp .ge 54, 3) := by decide +kernel
theorem dX4_layOut_12 : decode cX4_layOut 12 = .ok (.aload_n 0, 1) := by decide +kernel
theorem dX4_layOut_13 : decode cX4_layOut 13 = .ok (.getfield 30, 3) := by decide +kernel
theorem dX4_layOut_16 : decode cX4_layOut 16 = .ok (.iload_n 3, 1) := by decide +kernel
theorem dX4_layOut_17 : decode cX4_layOut 17 = .ok (.iaload, 1) := by decide +kernel
theorem dX4_layOut_18 : decode cX4_layOut 18 = .ok (.iconst (-1), 1) := by decide +kernel
theorem dX4_layOut_19 : decode cX4_layOut 19 = .ok (.if_icmp .ne 13, 3) := by decide +kernel
theorem dX4_layOut_22 : decode cX4_layOut 22 = .ok (.aload_n 2, 1) := by decide +kernel
theorem dX4_layOut_23 : decode cX4_layOut 23 = .ok (.iload_n 3, 1) := by decide +kernel
theorem dX4_layOut_24 : decode cX4_layOut 24 = .ok (.aaload, 1) := by decide +kernel
theorem dX4_layOut_25 : decode cX4_layOut 25 = .ok (.ifnull 7, 3) := by decide +kernel
theorem dX4_layOut_28 : decode cX4_layOut 28 = .ok (.iconst 1, 1) := by decide +kernel
theorem dX4_layOut_29 : decode cX4_layOut 29 = .ok (.goto 4, 3) := by decide +kernel
theorem dX4_layOut_32 : decode cX4_layOut 32 = .ok (.iconst 0, 1) := by decide +kernel
theorem dX4_layOut_33 : decode cX4_layOut 33 = .ok (.istore 4, 2) := by decide +kernel
theorem dX4_layOut_35 : decode cX4_layOut 35 = .ok (.aload_n 0, 1) := by decide +kernel
theorem dX4_layOut_36 : decode cX4_layOut 36 = .ok (.getfield 39, 3) := by decide +kernel
theorem dX4_layOut_39 : decode cX4_layOut 39 = .ok (.iload_n 3, 1) := by decide +kernel
theorem dX4_layOut_40 : decode cX4_layOut 40 = .ok (.iload 4, 2) := by decide +kernel
theorem dX4_layOut_42 : decode cX4_layOut 42 = .ok (.ifCond .eq 13, 3) := by decide +kernel
theorem dX4_layOut_45 : decode cX4_layOut 45 = .ok (.aload_n 1, 1) := by decide +kernel
theorem dX4_layOut_46 : decode cX4_layOut 46 = .ok (.aload_n 2, 1) := by decide +kernel
theorem dX4_layOut_47 : decode cX4_layOut 47 = .ok (.iload_n 3, 1) := by decide +kernel
theorem dX4_layOut_48 : decode cX4_layOut 48 = .ok (.aaload, 1) := by decide +kernel
theorem dX4_layOut_49 : decode cX4_layOut 49 = .ok (.invokevirtual 132, 3) := by decide +kernel
theorem dX4_layOut_52 : decode cX4_layOut 52 = .ok (.goto 4, 3) := by decide +kernel
theorem dX4_layOut_55 : decode cX4_layOut 55 = .ok (.iconst (-1), 1) := by decide +kernel
theorem dX4_layOut_56 : decode cX4_layOut 56 = .ok (.iastore, 1) := by decide +kernel
theorem dX4_layOut_57 : decode cX4_layOut 57 = .ok (.iinc 3 1, 3) := by decide +kernel
theorem dX4_layOut_60 : decode cX4_layOut 60 = .ok (.goto (-54), 3) := by decide +kernel
theorem dX4_layOut_63 : decode cX4_layOut 63 = .ok (.iconst 0, 1) := by decide +kernel
theorem dX4_layOut_64 : decode cX4_layOut 64 = .ok (.istore_n 3, 1) := by decide +kernel
theorem dX4_layOut_65 : decode cX4_layOut 65 = .ok (.iload_n 3, 1) := by decide +kernel
theorem dX4_layOut_66 : decode cX4_layOut 66 = .ok (.aload_n 0, 1) := by decide +kernel
theorem dX4_layOut_67 : decode cX4_layOut 67 = .ok (.getfield 49, 3) := by decide +kernel
theorem dX4_layOut_70 : decode cX4_layOut 70 = .ok (.if_icmp .ge 42, 3) := by decide +kernel
theorem dX4_layOut_73 : decode cX4_layOut 73 = .ok (.aload_n 0, 1) := by decide +kernel
theorem dX4_layOut_74 : decode cX4_layOut 74 = .ok (.getfield 36, 3) := by decide +kernel
theorem dX4_layOut_77 : decode cX4_layOut 77 = .ok (.iload_n 3, 1) := by decide +kernel
theorem dX4_layOut_78 : decode cX4_layOut 78 = .ok (.aload_n 0, 1) := by decide +kernel
theorem dX4_layOut_79 : decode cX4_layOut 79 = .ok (.getfield 9, 3) := by decide +kernel
theorem dX4_layOut_82 : decode cX4_layOut 82 = .ok (.iload_n 3, 1) := by decide +kernel
theorem dX4_layOut_83 : decode cX4_layOut 83 = .ok (.iaload, 1) := by decide +kernel
theorem dX4_layOut_84 : decode cX4_layOut 84 = .ok (.bipush 7, 2) := by decide +kernel
theorem dX4_layOut_86 : decode cX4_layOut 86 = .ok (.if_icmp .ne 7, 3) := by decide +kernel
theorem dX4_layOut_89 : decode cX4_layOut 89 = .ok (.iconst (-1), 1) := by decide +kernel
theorem dX4_layOut_90 : decode cX4_layOut 90 = .ok (.goto 15, 3) := by decide +kernel
theorem dX4_layOut_93 : decode cX4_layOut 93 = .ok (.aload_n 1, 1) := by decide +kernel
theorem dX4_layOut_94 : decode cX4_layOut 94 = .ok (.aload_n 0, 1) := by decide +kernel
theorem dX4_layOut_95 : decode cX4_layOut 95 = .ok (.getfield 9, 3) := by decide +kernel
theorem dX4_layOut_98 : decode cX4_layOut 98 = .ok (.iload_n 3, 1) := by decide +kernel
theorem dX4_layOut_99 : decode cX4_layOut 99 = .ok (.iaload, 1) := by decide +kernel
theorem dX4_layOut_100 : decode cX4_layOut 100 = .ok (.iconst 0, 1) := by decide +kernel
theorem dX4_layOut_101 : decode cX4_layOut 101 = .ok (.iconst 0, 1) := by decide +kernel
theorem dX4_layOut_102 : decode cX4_layOut 102 = .ok (.invokevirtual 136, 3) := by decide +kernel
theorem dX4_layOut_105 : decode cX4_layOut 105 = .ok (.iastore, 1) := by decide +kernel
theorem dX4_layOut_106 : decode cX4_layOut 106 = .ok (.iinc 3 1, 3) := by decide +kernel
theorem dX4_layOut_109 : decode cX4_layOut 109 = .ok (.goto (-44), 3) := by decide +kernel
theorem dX4_layOut_112 : decode cX4_layOut 112 = .ok (.iconst 0, 1) := by decide +kernel
theorem dX4_layOut_113 : decode cX4_layOut 113 = .ok (.istore_n 3, 1) := by decide +kernel
theorem dX4_layOut_114 : decode cX4_layOut 114 = .ok (.iload_n 3, 1) := by decide +kernel
theorem dX4_layOut_115 : decode cX4_layOut 115 = .ok (.aload_n 0, 1) := by decide +kernel
theorem dX4_layOut_116 : decode cX4_layOut 116 = .ok (.getfield 49, 3) := by decide +kernel
theorem dX4_layOut_119 : decode cX4_layOut 119 = .ok (.if_icmp .ge 87, 3) := by decide +kernel
theorem dX4_layOut_122 : decode cX4_layOut 122 = .ok (.aload_n 0, 1) := by decide +kernel
theorem dX4_layOut_123 : decode cX4_layOut 123 = .ok (.getfield 9, 3) := by decide +kernel
theorem dX4_layOut_126 : decode cX4_layOut 126 = .ok (.iload_n 3, 1) := by decide +kernel
theorem dX4_layOut_127 : decode cX4_layOut 127 = .ok (.iaload, 1) := by decide +kernel
theorem dX4_layOut_128 : decode cX4_layOut 128 = .ok (.bipush 7, 2) := by decide +kernel
theorem dX4_layOut_130 : decode cX4_layOut 130 = .ok (.if_icmp .ne 7, 3) := by decide +kernel
theorem dX4_layOut_133 : decode cX4_layOut 133 = .ok (.iconst 0, 1) := by decide +kernel
theorem dX4_layOut_134 : decode cX4_layOut 134 = .ok (.goto 12, 3) := by decide +kernel
theorem dX4_layOut_137 : decode cX4_layOut 137 = .ok (.aload_n 0, 1) := by decide +kernel
theorem dX4_layOut_138 : decode cX4_layOut 138 = .ok (.getfield 9, 3) := by decide +kernel
theorem dX4_layOut_141 : decode cX4_layOut 141 = .ok (.iload_n 3, 1) := by decide +kernel
theorem dX4_layOut_142 : decode cX4_layOut 142 = .ok (.iaload, 1) := by decide +kernel
theorem dX4_layOut_143 : decode cX4_layOut 143 = .ok (.invokestatic 139, 3) := by decide +kernel
theorem dX4_layOut_146 : decode cX4_layOut 146 = .ok (.istore 4, 2) := by decide +kernel
theorem dX4_layOut_148 : decode cX4_layOut 148 = .ok (.iconst 0, 1) := by decide +kernel
theorem dX4_layOut_149 : decode cX4_layOut 149 = .ok (.istore 5, 2) := by decide +kernel
theorem dX4_layOut_151 : decode cX4_layOut 151 = .ok (.iload 5, 2) := by decide +kernel
theorem dX4_layOut_153 : decode cX4_layOut 153 = .ok (.iload 4, 2) := by decide +kernel
theorem dX4_layOut_155 : decode cX4_layOut 155 = .ok (.if_icmp .ge 45, 3) := by decide +kernel
theorem dX4_layOut_158 : decode cX4_layOut 158 = .ok (.aload_n 1, 1) := by decide +kernel
theorem dX4_layOut_159 : decode cX4_layOut 159 = .ok (.aload_n 0, 1) := by decide +kernel
theorem dX4_layOut_160 : decode cX4_layOut 160 = .ok (.getfield 36, 3) := by decide +kernel
theorem dX4_layOut_163 : decode cX4_layOut 163 = .ok (.iload_n 3, 1) := by decide +kernel
theorem dX4_layOut_164 : decode cX4_layOut 164 = .ok (.iaload, 1) := by decide +kernel
theorem dX4_layOut_165 : decode cX4_layOut 165 = .ok (.iload 5, 2) := by decide +kernel
theorem dX4_layOut_167 : decode cX4_layOut 167 = .ok (.aload_n 0, 1) := by decide +kernel
theorem dX4_layOut_168 : decode cX4_layOut 168 = .ok (.iload 5, 2) := by decide +kernel
theorem dX4_layOut_170 : decode cX4_layOut 170 = .ok (.ifCond .ne 12, 3) := by decide +kernel
theorem dX4_layOut_173 : decode cX4_layOut 173 = .ok (.aload_n 0, 1) := by decide +kernel
theorem dX4_layOut_174 : decode cX4_layOut 174 = .ok (.getfield 15, 3) := by decide +kernel
theorem dX4_layOut_177 : decode cX4_layOut 177 = .ok (.iload_n 3, 1) := by decide +kernel
theorem dX4_layOut_178 : decode cX4_layOut 178 = .ok (.iaload, 1) := by decide +kernel
theorem dX4_layOut_179 : decode cX4_layOut 179 = .ok (.goto 9, 3) := by decide +kernel
theorem dX4_layOut_182 : decode cX4_layOut 182 = .ok (.aload_n 0, 1) := by decide +kernel
theorem dX4_layOut_183 : decode cX4_layOut 183 = .ok (.getfield 18, 3) := by decide +kernel
theorem dX4_layOut_186 : decode cX4_layOut 186 = .ok (.iload_n 3, 1) := by decide +kernel
theorem dX4_layOut_187 : decode cX4_layOut 187 = .ok (.iaload, 1) := by decide +kernel
theorem dX4_layOut_188 : decode cX4_layOut 188 = .ok (.invokevirtual 142, 3) := by decide +kernel
theorem dX4_layOut_191 : decode cX4_layOut 191 = .ok (.invokevirtual 145, 3) := by decide +kernel
theorem dX4_layOut_194 : decode cX4_layOut 194 = .ok (.iinc 5 1, 3) := by decide +kernel
theorem dX4_layOut_197 : decode cX4_layOut 197 = .ok (.goto (-46), 3) := by decide +kernel
theorem dX4_layOut_200 : decode cX4_layOut 200 = .ok (.iinc 3 1, 3) := by decide +kernel
theorem dX4_layOut_203 : decode cX4_layOut 203 = .ok (.goto (-89), 3) := by decide +kernel
theorem dX4_layOut_206 : decode cX4_layOut 206 = .ok (.return_, 1) := by decide +kernel
theorem dX4_rootOf_0 : decode cX4_rootOf 0 = .ok (.aload_n 0, 1) := by decide +kernel
theorem dX4_rootOf_1 : decode cX4_rootOf 1 = .ok (.aload_n 0, 1) := by decide +kernel
theorem dX4_rootOf_2 : decode cX4_rootOf 2 = .ok (.getfield 30, 3) := by decide +kernel
theorem dX4_rootOf_5 : decode cX4_rootOf 5 = .ok (.aload_n 0, 1) := by decide +kernel
theorem dX4_rootOf_6 : decode cX4_rootOf 6 = .ok (.iload_n 1, 1) := by decide +kernel
theorem dX4_rootOf_7 : decode cX4_rootOf 7 = .ok (.invokevirtual 149, 3) := by decide +kernel
theorem dX4_rootOf_10 : decode cX4_rootOf 10 = .ok (.iaload, 1) := by decide +kernel
theorem dX4_rootOf_11 : decode cX4_rootOf 11 = .ok (.invokevirtual 142, 3) := by decide +kernel
theorem dX4_rootOf_14 : decode cX4_rootOf 14 = .ok (.ireturn, 1) := by decide +kernel
theorem dX4_standsFor_0 : decode cX4_standsFor 0 = .ok (.iload_n 1, 1) := by decide +kernel
theorem dX4_standsFor_1 : decode cX4_standsFor 1 = .ok (.istore_n 2, 1) := by decide +kernel
theorem dX4_standsFor_2 : decode cX4_standsFor 2 = .ok (.iconst 0, 1) := by decide +kernel
theorem dX4_standsFor_3 : decode cX4_standsFor 3 = .ok (.istore_n 3, 1) := by decide +kernel
theorem dX4_standsFor_4 : decode cX4_standsFor 4 = .ok (.iload_n 3, 1) := by decide +kernel
theorem dX4_standsFor_5 : decode cX4_standsFor 5 = .ok (.bipush 8, 2) := by decide +kernel
theorem dX4_standsFor_7 : decode cX4_standsFor 7 = .ok (.if_icmp .gt 74, 3) := by decide +kernel
theorem dX4_standsFor_10 : decode cX4_standsFor 10 = .ok (.iload_n 2, 1) := by decide +kernel
theorem dX4_standsFor_11 : decode cX4_standsFor 11 = .ok (.ifCond .lt 70, 3) := by decide +kernel
theorem dX4_standsFor_14 : decode cX4_standsFor 14 = .ok (.iload_n 2, 1) := by decide +kernel
theorem dX4_standsFor_15 : decode cX4_standsFor 15 = .ok (.aload_n 0, 1) := by decide +kernel
theorem dX4_standsFor_16 : decode cX4_standsFor 16 = .ok (.getfield 49, 3) := by decide +kernel
theorem dX4_standsFor_19 : decode cX4_standsFor 19 = .ok (.if_icmp .ge 62, 3) := by decide +kernel
theorem dX4_standsFor_22 : decode cX4_standsFor 22 = .ok (.aload_n 0, 1) := by decide +kernel
theorem dX4_standsFor_23 : decode cX4_standsFor 23 = .ok (.getfield 9, 3) := by decide +kernel
theorem dX4_standsFor_26 : decode cX4_standsFor 26 = .ok (.iload_n 2, 1) := by decide +kernel
theorem dX4_standsFor_27 : decode cX4_standsFor 27 = .ok (.iaload, 1) := by decide +kernel
theorem dX4_standsFor_28 : decode cX4_standsFor 28 = .ok (.bipush 7, 2) := by decide +kernel
theorem dX4_standsFor_30 : decode cX4_standsFor 30 = .ok (.if_icmp .eq 10, 3) := by decide +kernel
theorem dX4_standsFor_33 : decode cX4_standsFor 33 = .ok (.aload_n 0, 1) := by decide +kernel
theorem dX4_standsFor_34 : decode cX4_standsFor 34 = .ok (.getfield 36, 3) := by decide +kernel
theorem dX4_standsFor_37 : decode cX4_standsFor 37 = .ok (.iload_n 2, 1) := by decide +kernel
theorem dX4_standsFor_38 : decode cX4_standsFor 38 = .ok (.iaload, 1) := by decide +kernel
theorem dX4_standsFor_39 : decode cX4_standsFor 39 = .ok (.ireturn, 1) := by decide +kernel
theorem dX4_standsFor_40 : decode cX4_standsFor 40 = .ok (.aload_n 0, 1) := by decide +kernel
theorem dX4_standsFor_41 : decode cX4_standsFor 41 = .ok (.getfield 15, 3) := by decide +kernel
theorem dX4_standsFor_44 : decode cX4_standsFor 44 = .ok (.iload_n 2, 1) := by decide +kernel
theorem dX4_standsFor_45 : decode cX4_standsFor 45 = .ok (.iaload, 1) := by decide +kernel
theorem dX4_standsFor_46 : decode cX4_standsFor 46 = .ok (.istore 4, 2) := by decide +kernel
theorem dX4_standsFor_48 : decode cX4_standsFor 48 = .ok (.aload_n 0, 1) := by decide +kernel
theorem dX4_standsFor_49 : decode cX4_standsFor 49 = .ok (.getfield 30, 3) := by decide +kernel
theorem dX4_standsFor_52 : decode cX4_standsFor 52 = .ok (.iload 4, 2) := by decide +kernel
theorem dX4_standsFor_54 : decode cX4_standsFor 54 = .ok (.iaload, 1) := by decide +kernel
theorem dX4_standsFor_55 : decode cX4_standsFor 55 = .ok (.iconst (-1), 1) := by decide +kernel
theorem dX4_standsFor_56 : decode cX4_standsFor 56 = .ok (.if_icmp .ne 11, 3) := by decide +kernel
theorem dX4_standsFor_59 : decode cX4_standsFor 59 = .ok (.aload_n 0, 1) := by decide +kernel
theorem dX4_standsFor_60 : decode cX4_standsFor 60 = .ok (.getfield 39, 3) := by decide +kernel
theorem dX4_standsFor_63 : decode cX4_standsFor 63 = .ok (.iload 4, 2) := by decide +kernel
theorem dX4_standsFor_65 : decode cX4_standsFor 65 = .ok (.iaload, 1) := by decide +kernel
theorem dX4_standsFor_66 : decode cX4_standsFor 66 = .ok (.ireturn, 1) := by decide +kernel
theorem dX4_standsFor_67 : decode cX4_standsFor 67 = .ok (.aload_n 0, 1) := by decide +kernel
theorem dX4_standsFor_68 : decode cX4_standsFor 68 = .ok (.getfield 30, 3) := by decide +kernel
theorem dX4_standsFor_71 : decode cX4_standsFor 71 = .ok (.iload 4, 2) := by decide +kernel
theorem dX4_standsFor_73 : decode cX4_standsFor 73 = .ok (.iaload, 1) := by decide +kernel
theorem dX4_standsFor_74 : decode cX4_standsFor 74 = .ok (.istore_n 2, 1) := by decide +kernel
theorem dX4_standsFor_75 : decode cX4_standsFor 75 = .ok (.iinc 3 1, 3) := by decide +kernel
theorem dX4_standsFor_78 : decode cX4_standsFor 78 = .ok (.goto (-74), 3) := by decide +kernel
theorem dX4_standsFor_81 : decode cX4_standsFor 81 = .ok (.iconst (-1), 1) := by decide +kernel
theorem dX4_standsFor_82 : decode cX4_standsFor 82 = .ok (.ireturn, 1) := by decide +kernel
theorem dX5_init_0 : decode cX5_init 0 = .ok (.aload_n 0, 1) := by decide +kernel
theorem dX5_init_1 : decode cX5_init 1 = .ok (.invokespecial 3, 3) := by decide +kernel
theorem dX5_init_4 : decode cX5_init 4 = .ok (.aload_n 0, 1) := by decide +kernel
theorem dX5_init_5 : decode cX5_init 5 = .ok (.bipush 120, 2) := by decide +kernel
theorem dX5_init_7 : decode cX5_init 7 = .ok (.newarray .int, 2) := by decide +kernel
theorem dX5_init_9 : decode cX5_init 9 = .ok (.putfield 9, 3) := by decide +kernel
theorem dX5_init_12 : decode cX5_init 12 = .ok (.aload_n 0, 1) := by decide +kernel
theorem dX5_init_13 : decode cX5_init 13 = .ok (.bipush 8, 2) := by decide +kernel
theorem dX5_init_15 : decode cX5_init 15 = .ok (.anewarray 13, 3) := by decide +kernel
theorem dX5_init_18 : decode cX5_init 18 = .ok (.putfield 15, 3) := by decide +kernel
theorem dX5_init_21 : decode cX5_init 21 = .ok (.aload_n 0, 1) := by decide +kernel
theorem dX5_init_22 : decode cX5_init 22 = .ok (.bipush 8, 2) := by decide +kernel
theorem dX5_init_24 : decode cX5_init 24 = .ok (.anewarray 13, 3) := by decide +kernel
theorem dX5_init_27 : decode cX5_init 27 = .ok (.putfield 19, 3) := by decide +kernel
theorem dX5_init_30 : decode cX5_init 30 = .ok (.aload_n 0, 1) := by decide +kernel
theorem dX5_init_31 : decode cX5_init 31 = .ok (.bipush 64, 2) := by decide +kernel
theorem dX5_init_33 : decode cX5_init 33 = .ok (.anewarray 13, 3) := by decide +kernel
theorem dX5_init_36 : decode cX5_init 36 = .ok (.putfield 22, 3) := by decide +kernel
theorem dX5_init_39 : decode cX5_init 39 = .ok (.aload_n 0, 1) := by decide +kernel
theorem dX5_init_40 : decode cX5_init 40 = .ok (.new 25, 3) := by decide +kernel
theorem dX5_init_43 : decode cX5_init 43 = .ok (.dup, 1) := by decide +kernel
theorem dX5_init_44 : decode cX5_init 44 = .ok (.invokespecial 27, 3) := by decide +kernel
theorem dX5_init_47 : decode cX5_init 47 = .ok (.putfield 28, 3) := by decide +kernel
theorem dX5_init_50 : decode cX5_init 50 = .ok (.aload_n 0, 1) := by decide +kernel
theorem dX5_init_51 : decode cX5_init 51 = .ok (.new 32, 3) := by decide +kernel
theorem dX5_init_54 : decode cX5_init 54 = .ok (.dup, 1) := by decide +kernel
theorem dX5_init_55 : decode cX5_init 55 = .ok (.invokespecial 34, 3) := by decide +kernel
theorem dX5_init_58 : decode cX5_init 58 = .ok (.putfield 35, 3) := by decide +kernel
theorem dX5_init_61 : decode cX5_init 61 = .ok (.aload_n 0, 1) := by decide +kernel
theorem dX5_init_62 : decode cX5_init 62 = .ok (.new 39, 3) := by decide +kernel
theorem dX5_init_65 : decode cX5_init 65 = .ok (.dup, 1) := by decide +kernel
theorem dX5_init_66 : decode cX5_init 66 = .ok (.invokespecial 41, 3) := by decide +kernel
theorem dX5_init_69 : decode cX5_init 69 = .ok (.putfield 42, 3) := by decide +kernel
theorem dX5_init_72 : decode cX5_init 72 = .ok (.aload_n 0, 1) := by decide +kernel
theorem dX5_init_73 : decode cX5_init 73 = .ok (.new 46, 3) := by decide +kernel
theorem dX5_init_76 : decode cX5_init 76 = .ok (.dup, 1) := by decide +kernel
theorem dX5_init_77 : decode cX5_init 77 = .ok (.invokespecial 48, 3) := by decide +kernel
theorem dX5_init_80 : decode cX5_init 80 = .ok (.putfield 49, 3) := by decide +kernel
theorem dX5_init_83 : decode cX5_init 83 = .ok (.return_, 1) := by decide +kernel
theorem dX5_type_0 : decode cX5_type 0 = .ok (.iload_n 1, 1) := by decide +kernel
theorem dX5_type_1 : decode cX5_type 1 = .ok (.ifCond .lt 9, 3) := by decide +kernel
theorem dX5_type_4 : decode cX5_type 4 = .ok (.iload_n 1, 1) := by decide +kernel
theorem dX5_type_5 : decode cX5_type 5 = .ok (.bipush 127, 2) := by decide +kernel
theorem dX5_type_7 : decode cX5_type 7 = .ok (.if_icmp .le 8, 3) := by decide +kernel
theorem dX5_type_10 : decode cX5_type 10 = .ok (.aload_n 0, 1) := by decide +kernel
theorem dX5_type_11 : decode cX5_type 11 = .ok (.invokevirtual 53, 3) := by decide +kernel
theorem dX5_type_14 : decode cX5_type 14 = .ok (.ireturn, 1) := by decide +kernel
theorem dX5_type_15 : decode cX5_type 15 = .ok (.aload_n 0, 1) := by decide +kernel
theorem dX5_type_16 : decode cX5_type 16 = .ok (.getfield 57, 3) := by decide +kernel
theorem dX5_type_19 : decode cX5_type 19 = .ok (.bipush 120, 2) := by decide +kernel
theorem dX5_type_21 : decode cX5_type 21 = .ok (.if_icmp .lt 8, 3) := by decide +kernel
theorem dX5_type_24 : decode cX5_type 24 = .ok (.aload_n 0, 1) := by decide +kernel
theorem dX5_type_25 : decode cX5_type 25 = .ok (.invokevirtual 61, 3) := by decide +kernel
theorem dX5_type_28 : decode cX5_type 28 = .ok (.ireturn, 1) := by decide +kernel
theorem dX5_type_29 : decode cX5_type 29 = .ok (.aload_n 0, 1) := by decide +kernel
theorem dX5_type_30 : decode cX5_type 30 = .ok (.getfield 9, 3) := by decide +kernel
theorem dX5_type_33 : decode cX5_type 33 = .ok (.aload_n 0, 1) := by decide +kernel
theorem dX5_type_34 : decode cX5_type 34 = .ok (.getfield 57, 3) := by decide +kernel
theorem dX5_type_37 : decode cX5_type 37 = .ok (.iload_n 1, 1) := by decide +kernel
theorem dX5_type_38 : decode cX5_type 38 = .ok (.iastore, 1) := by decide +kernel
theorem dX5_type_39 : decode cX5_type 39 = .ok (.aload_n 0, 1) := by decide +kernel
theorem dX5_type_40 : decode cX5_type 40 = .ok (.dup, 1) := by decide +kernel
theorem dX5_type_41 : decode cX5_type 41 = .ok (.getfield 57, 3) := by decide +kernel
theorem dX5_type_44 : decode cX5_type 44 = .ok (.iconst 1, 1) := by decide +kernel
theorem dX5_type_45 : decode cX5_type 45 = .ok (.iadd, 1) := by decide +kernel
theorem dX5_type_46 : decode cX5_type 46 = .ok (.putfield 57, 3) := by decide +kernel
theorem dX5_type_49 : decode cX5_type 49 = .ok (.aload_n 0, 1) := by decide +kernel
theorem dX5_type_50 : decode cX5_type 50 = .ok (.getfield 57, 3) := by decide +kernel
theorem dX5_type_53 : decode cX5_type 53 = .ok (.ireturn, 1) := by decide +kernel
theorem dX5_clear_0 : decode cX5_clear 0 = .ok (.aload_n 0, 1) := by decide +kernel
theorem dX5_clear_1 : decode cX5_clear 1 = .ok (.getfield 57, 3) := by decide +kernel
theorem dX5_clear_4 : decode cX5_clear 4 = .ok (.istore_n 1, 1) := by decide +kernel
theorem dX5_clear_5 : decode cX5_clear 5 = .ok (.aload_n 0, 1) := by decide +kernel
theorem dX5_clear_6 : decode cX5_clear 6 = .ok (.iconst 0, 1) := by decide +kernel
theorem dX5_clear_7 : decode cX5_clear 7 = .ok (.putfield 57, 3) := by decide +kernel
theorem dX5_clear_10 : decode cX5_clear 10 = .ok (.iload_n 1, 1) := by decide +kernel
theorem dX5_clear_11 : decode cX5_clear 11 = .ok (.ireturn, 1) := by decide +kernel
theorem dX5_read_0 : decode cX5_read 0 = .ok (.aload_n 0, 1) := by decide +kernel
theorem dX5_read_1 : decode cX5_read 1 = .ok (.getfield 49, 3) := by decide +kernel
theorem dX5_read_4 : decode cX5_read 4 = .ok (.aload_n 0, 1) := by decide +kernel
theorem dX5_read_5 : decode cX5_read 5 = .ok (.getfield 9, 3) := by decide +kernel
theorem dX5_read_8 : decode cX5_read 8 = .ok (.aload_n 0, 1) := by decide +kernel
theorem dX5_read_9 : decode cX5_read 9 = .ok (.getfield 57, 3) := by decide +kernel
theorem dX5_read_12 : decode cX5_read 12 = .ok (.aload_n 0, 1) := by decide +kernel
theorem dX5_read_13 : decode cX5_read 13 = .ok (.getfield 15, 3) := by decide +kernel
theorem dX5_read_16 : decode cX5_read 16 = .ok (.invokevirtual 64, 3) := by decide +kernel
theorem dX5_read_19 : decode cX5_read 19 = .ok (.istore_n 1, 1) := by decide +kernel
theorem dX5_read_20 : decode cX5_read 20 = .ok (.iload_n 1, 1) := by decide +kernel
theorem dX5_read_21 : decode cX5_read 21 = .ok (.iconst (-1), 1) := by decide +kernel
theorem dX5_read_22 : decode cX5_read 22 = .ok (.if_icmp .eq 8, 3) := by decide +kernel
theorem dX5_read_25 : decode cX5_read 25 = .ok (.bipush (-10), 2) := by decide +kernel
theorem dX5_read_27 : decode cX5_read 27 = .ok (.iload_n 1, 1) := by decide +kernel
theorem dX5_read_28 : decode cX5_read 28 = .ok (.isub, 1) := by decide +kernel
theorem dX5_read_29 : decode cX5_read 29 = .ok (.ireturn, 1) := by decide +kernel
theorem dX5_read_30 : decode cX5_read 30 = .ok (.aload_n 0, 1) := by decide +kernel
theorem dX5_read_31 : decode cX5_read 31 = .ok (.getfield 49, 3) := by decide +kernel
theorem dX5_read_34 : decode cX5_read 34 = .ok (.aload_n 0, 1) := by decide +kernel
theorem dX5_read_35 : decode cX5_read 35 = .ok (.getfield 28, 3) := by decide +kernel
theorem dX5_read_38 : decode cX5_read 38 = .ok (.aload_n 0, 1) := by decide +kernel
theorem dX5_read_39 : decode cX5_read 39 = .ok (.getfield 15, 3) := by decide +kernel
theorem dX5_read_42 : decode cX5_read 42 = .ok (.invokevirtual 68, 3) := by decide +kernel
theorem dX5_read_45 : decode cX5_read 45 = .ok (.aload_n 0, 1) := by decide +kernel
theorem dX5_read_46 : decode cX5_read 46 = .ok (.getfield 49, 3) := by decide +kernel
theorem dX5_read_49 : decode cX5_read 49 = .ok (.invokevirtual 72, 3) := by decide +kernel
theorem dX5_read_52 : decode cX5_read 52 = .ok (.istore_n 2, 1) := by decide +kernel
theorem dX5_read_53 : decode cX5_read 53 = .ok (.iconst 0, 1) := by decide +kernel
theorem dX5_read_54 : decode cX5_read 54 = .ok (.istore_n 3, 1) := by decide +kernel
theorem dX5_read_55 : decode cX5_read 55 = .ok (.iload_n 3, 1) := by decide +kernel
theorem dX5_read_56 : decode cX5_read 56 = .ok (.iload_n 2, 1) := by decide +kernel
theorem dX5_read_57 : decode cX5_read 57 = .ok (.if_icmp .ge 44, 3) := by decide +kernel
theorem dX5_read_60 : decode cX5_read 60 = .ok (.aload_n 0, 1) := by decide +kernel
theorem dX5_read_61 : decode cX5_read 61 = .ok (.getfield 19, 3) := by decide +kernel
theorem dX5_read_64 : decode cX5_read 64 = .ok (.iload_n 3, 1) := by decide +kernel
theorem dX5_read_65 : decode cX5_read 65 = .ok (.aload_n 0, 1) := by decide +kernel
theorem dX5_read_66 : decode cX5_read 66 = .ok (.getfield 28, 3) := by decide +kernel
theorem dX5_read_69 : decode cX5_read 69 = .ok (.aload_n 0, 1) := by decide +kernel
theorem dX5_read_70 : decode cX5_read 70 = .ok (.getfield 49, 3) := by decide +kernel
theorem dX5_read_73 : decode cX5_read 73 = .ok (.iload_n 3, 1) := by decide +kernel
theorem dX5_read_74 : decode cX5_read 74 = .ok (.invokevirtual 75, 3) := by decide +kernel
theorem dX5_read_77 : decode cX5_read 77 = .ok (.invokevirtual 79, 3) := by decide +kernel
theorem dX5_read_80 : decode cX5_read 80 = .ok (.aastore, 1) := by decide +kernel
theorem dX5_read_81 : decode cX5_read 81 = .ok (.aload_n 0, 1) := by decide +kernel
theorem dX5_read_82 : decode cX5_read 82 = .ok (.getfield 19, 3) := by decide +kernel
theorem dX5_read_85 : decode cX5_read 85 = .ok (.iload_n 3, 1) := by decide +kernel
theorem dX5_read_86 : decode cX5_read 86 = .ok (.aaload, 1) := by decide +kernel
theorem dX5_read_87 : decode cX5_read 87 = .ok (.ifnonnull 8, 3) := by decide +kernel
theorem dX5_read_90 : decode cX5_read 90 = .ok (.aload_n 0, 1) := by decide +kernel
theorem dX5_read_91 : decode cX5_read 91 = .ok (.invokevirtual 61, 3) := by decide +kernel
theorem dX5_read_94 : decode cX5_read 94 = .ok (.ireturn, 1) := by decide +kernel
theorem dX5_read_95 : decode cX5_read 95 = .ok (.iinc 3 1, 3) := by decide +kernel
theorem dX5_read_98 : decode cX5_read 98 = .ok (.goto (-43), 3) := by decide +kernel
theorem dX5_read_101 : decode cX5_read 101 = .ok (.aload_n 0, 1) := by decide +kernel
theorem dX5_read_102 : decode cX5_read 102 = .ok (.invokevirtual 83, 3) := by decide +kernel
theorem dX5_read_105 : decode cX5_read 105 = .ok (.iconst 0, 1) := by decide +kernel
theorem dX5_read_106 : decode cX5_read 106 = .ok (.istore_n 3, 1) := by decide +kernel
theorem dX5_read_107 : decode cX5_read 107 = .ok (.iload_n 3, 1) := by decide +kernel
theorem dX5_read_108 : decode cX5_read 108 = .ok (.iload_n 2, 1) := by decide +kernel
theorem dX5_read_109 : decode cX5_read 109 = .ok (.if_icmp .ge 28, 3) := by decide +kernel
theorem dX5_read_112 : decode cX5_read 112 = .ok (.aload_n 0, 1) := by decide +kernel
theorem dX5_read_113 : decode cX5_read 113 = .ok (.getfield 15, 3) := by decide +kernel
theorem dX5_read_116 : decode cX5_read 116 = .ok (.aload_n 0, 1) := by decide +kernel
theorem dX5_read_117 : decode cX5_read 117 = .ok (.getfield 49, 3) := by decide +kernel
theorem dX5_read_120 : decode cX5_read 120 = .ok (.iload_n 3, 1) := by decide +kernel
theorem dX5_read_121 : decode cX5_read 121 = .ok (.invokevirtual 86, 3) := by decide +kernel
theorem dX5_read_124 : decode cX5_read 124 = .ok (.aload_n 0, 1) := by decide +kernel
theorem dX5_read_125 : decode cX5_read 125 = .ok (.getfield 19, 3) := by decide +kernel
theorem dX5_read_128 : decode cX5_read 128 = .ok (.iload_n 3, 1) := by decide +kernel
theorem dX5_read_129 : decode cX5_read 129 = .ok (.aaload, 1) := by decide +kernel
theorem dX5_read_130 : decode cX5_read 130 = .ok (.aastore, 1) := by decide +kernel
theorem dX5_read_131 : decode cX5_read 131 = .ok (.iinc 3 1, 3) := by decide +kernel
theorem dX5_read_134 : decode cX5_read 134 = .ok (.goto (-27), 3) := by decide +kernel
theorem dX5_read_137 : decode cX5_read 137 = .ok (.iload_n 2, 1) := by decide +kernel
theorem dX5_read_138 : decode cX5_read 138 = .ok (.ireturn, 1) := by decide +kernel
theorem dX5_order_0 : decode cX5_order 0 = .ok (.iload_n 1, 1) := by decide +kernel
theorem dX5_order_1 : decode cX5_order 1 = .ok (.ifCond .lt 8, 3) := by decide +kernel
theorem dX5_order_4 : decode cX5_order 4 = .ok (.iload_n 1, 1) := by decide +kernel
theorem dX5_order_5 : decode cX5_order 5 = .ok (.iconst 4, 1) := by decide +kernel
theorem dX5_order_6 : decode cX5_order 6 = .ok (.if_icmp .le 8, 3) := by decide +kernel
theorem dX5_order_9 : decode cX5_order 9 = .ok (.aload_n 0, 1) := by decide +kernel
theorem dX5_order_10 : decode cX5_order 10 = .ok (.invokevirtual 53, 3) := by decide +kernel
theorem dX5_order_13 : decode cX5_order 13 = .ok (.ireturn, 1) := by decide +kernel
theorem dX5_order_14 : decode cX5_order 14 = .ok (.aload_n 0, 1) := by decide +kernel
theorem dX5_order_15 : decode cX5_order 15 = .ok (.getfield 89, 3) := by decide +kernel
theorem dX5_order_18 : decode cX5_order 18 = .ok (.istore_n 2, 1) := by decide +kernel
theorem dX5_order_19 : decode cX5_order 19 = .ok (.aload_n 0, 1) := by decide +kernel
theorem dX5_order_20 : decode cX5_order 20 = .ok (.iload_n 1, 1) := by decide +kernel
theorem dX5_order_21 : decode cX5_order 21 = .ok (.putfield 89, 3) := by decide +kernel
theorem dX5_order_24 : decode cX5_order 24 = .ok (.iload_n 2, 1) := by decide +kernel
theorem dX5_order_25 : decode cX5_order 25 = .ok (.ireturn, 1) := by decide +kernel
theorem dX5_under_0 : decode cX5_under 0 = .ok (.aload_n 0, 1) := by decide +kernel
theorem dX5_under_1 : decode cX5_under 1 = .ok (.iload_n 1, 1) := by decide +kernel
theorem dX5_under_2 : decode cX5_under 2 = .ok (.invokevirtual 92, 3) := by decide +kernel
theorem dX5_under_5 : decode cX5_under 5 = .ok (.astore_n 3, 1) := by decide +kernel
theorem dX5_under_6 : decode cX5_under 6 = .ok (.aload_n 0, 1) := by decide +kernel
theorem dX5_under_7 : decode cX5_under 7 = .ok (.iload_n 2, 1) := by decide +kernel
theorem dX5_under_8 : decode cX5_under 8 = .ok (.invokevirtual 92, 3) := by decide +kernel
theorem dX5_under_11 : decode cX5_under 11 = .ok (.astore 4, 2) := by decide +kernel
theorem dX5_under_13 : decode cX5_under 13 = .ok (.aload_n 3, 1) := by decide +kernel
theorem dX5_under_14 : decode cX5_under 14 = .ok (.ifnull 8, 3) := by decide +kernel
theorem dX5_under_17 : decode cX5_under 17 = .ok (.aload 4, 2) := by decide +kernel
theorem dX5_under_19 : decode cX5_under 19 = .ok (.ifnonnull 8, 3) := by decide +kernel
theorem dX5_under_22 : decode cX5_under 22 = .ok (.aload_n 0, 1) := by decide +kernel
theorem dX5_under_23 : decode cX5_under 23 = .ok (.invokevirtual 53, 3) := by decide +kernel
theorem dX5_under_26 : decode cX5_under 26 = .ok (.ireturn, 1) := by decide +kernel
theorem dX5_under_27 : decode cX5_under 27 = .ok (.aload_n 0, 1) := by decide +kernel
theorem dX5_under_28 : decode cX5_under 28 = .ok (.getfield 35, 3) := by decide +kernel
theorem dX5_under_31 : decode cX5_under 31 = .ok (.aload_n 3, 1) := by decide +kernel
theorem dX5_under_32 : decode cX5_under 32 = .ok (.aload 4, 2) := by decide +kernel
theorem dX5_under_34 : decode cX5_under 34 = .ok (.aload_n 0, 1) := by decide +kernel
theorem dX5_under_35 : decode cX5_under 35 = .ok (.getfield 89, 3) := by decide +kernel
theorem dX5_under_38 : decode cX5_under 38 = .ok (.invokevirtual 95, 3) := by decide +kernel
theorem dX5_under_41 : decode cX5_under 41 = .ok (.iconst (-1), 1) := by decide +kernel
theorem dX5_under_42 : decode cX5_under 42 = .ok (.if_icmp .ne 7, 3) := by decide +kernel
theorem dX5_under_45 : decode cX5_under 45 = .ok (.iconst 1, 1) := by decide +kernel
theorem dX5_under_46 : decode cX5_under 46 = .ok (.goto 4, 3) := by decide +kernel
theorem dX5_under_49 : decode cX5_under 49 = .ok (.iconst 0, 1) := by decide +kernel
theorem dX5_under_50 : decode cX5_under 50 = .ok (.ireturn, 1) := by decide +kernel
theorem dX5_alike_0 : decode cX5_alike 0 = .ok (.aload_n 0, 1) := by decide +kernel
theorem dX5_alike_1 : decode cX5_alike 1 = .ok (.iload_n 1, 1) := by decide +kernel
theorem dX5_alike_2 : decode cX5_alike 2 = .ok (.invokevirtual 92, 3) := by decide +kernel
theorem dX5_alike_5 : decode cX5_alike 5 = .ok (.astore_n 3, 1) := by decide +kernel
theorem dX5_alike_6 : decode cX5_alike 6 = .ok (.aload_n 0, 1) := by decide +kernel
theorem dX5_alike_7 : decode cX5_alike 7 = .ok (.iload_n 2, 1) := by decide +kernel
theorem dX5_alike_8 : decode cX5_alike 8 = .ok (.invokevirtual 92, 3) := by decide +kernel
theorem dX5_alike_11 : decode cX5_alike 11 = .ok (.astore 4, 2) := by decide +kernel
theorem dX5_alike_13 : decode cX5_alike 13 = .ok (.aload_n 3, 1) := by decide +kernel
theorem dX5_alike_14 : decode cX5_alike 14 = .ok (.ifnull 8, 3) := by decide +kernel
theorem dX5_alike_17 : decode cX5_alike 17 = .ok (.aload 4, 2) := by decide +kernel
theorem dX5_alike_19 : decode cX5_alike 19 = .ok (.ifnonnull 8, 3) := by decide +kernel
theorem dX5_alike_22 : decode cX5_alike 22 = .ok (.aload_n 0, 1) := by decide +kernel
theorem dX5_alike_23 : decode cX5_alike 23 = .ok (.invokevirtual 53, 3) := by decide +kernel
theorem dX5_alike_26 : decode cX5_alike 26 = .ok (.ireturn, 1) := by decide +kernel
theorem dX5_alike_27 : decode cX5_alike 27 = .ok (.aload_n 3, 1) := by decide +kernel
theorem dX5_alike_28 : decode cX5_alike 28 = .ok (.aload 4, 2) := by decide +kernel
theorem dX5_alike_30 : decode cX5_alike 30 = .ok (.invokevirtual 99, 3) := by decide +kernel
theorem dX5_alike_33 : decode cX5_alike 33 = .ok (.ifCond .eq 7, 3) := by decide +kernel
theorem dX5_alike_36 : decode cX5_alike 36 = .ok (.iconst 1, 1) := by decide +kernel
theorem dX5_alike_37 : decode cX5_alike 37 = .ok (.goto 4, 3) := by decide +kernel
theorem dX5_alike_40 : decode cX5_alike 40 = .ok (.iconst 0, 1) := by decide +kernel
theorem dX5_alike_41 : decode cX5_alike 41 = .ok (.ireturn, 1) := by decide +kernel
theorem dX5_apart_0 : decode cX5_apart 0 = .ok (.aload_n 0, 1) := by decide +kernel
theorem dX5_apart_1 : decode cX5_apart 1 = .ok (.iload_n 1, 1) := by decide +kernel
theorem dX5_apart_2 : decode cX5_apart 2 = .ok (.invokevirtual 92, 3) := by decide +kernel
theorem dX5_apart_5 : decode cX5_apart 5 = .ok (.astore 4, 2) := by decide +kernel
theorem dX5_apart_7 : decode cX5_apart 7 = .ok (.aload_n 0, 1) := by decide +kernel
theorem dX5_apart_8 : decode cX5_apart 8 = .ok (.iload_n 2, 1) := by decide +kernel
theorem dX5_apart_9 : decode cX5_apart 9 = .ok (.invokevirtual 92, 3) := by decide +kernel
theorem dX5_apart_12 : decode cX5_apart 12 = .ok (.astore 5, 2) := by decide +kernel
theorem dX5_apart_14 : decode cX5_apart 14 = .ok (.aload 4, 2) := by decide +kernel
theorem dX5_apart_16 : decode cX5_apart 16 = .ok (.ifnull 13, 3) := by decide +kernel
theorem dX5_apart_19 : decode cX5_apart 19 = .ok (.aload 5, 2) := by decide +kernel
theorem dX5_apart_21 : decode cX5_apart 21 = .ok (.ifnull 8, 3) := by decide +kernel
theorem dX5_apart_24 : decode cX5_apart 24 = .ok (.iload_n 3, 1) := by decide +kernel
theorem dX5_apart_25 : decode cX5_apart 25 = .ok (.iconst (-1), 1) := by decide +kernel
theorem dX5_apart_26 : decode cX5_apart 26 = .ok (.if_icmp .ge 11, 3) := by decide +kernel
theorem dX5_apart_29 : decode cX5_apart 29 = .ok (.aload_n 0, 1) := by decide +kernel
theorem dX5_apart_30 : decode cX5_apart 30 = .ok (.invokevirtual 53, 3) := by decide +kernel
theorem dX5_apart_33 : decode cX5_apart 33 = .ok (.pop, 1) := by decide +kernel
theorem dX5_apart_34 : decode cX5_apart 34 = .ok (.bipush (-10), 2) := by decide +kernel
theorem dX5_apart_36 : decode cX5_apart 36 = .ok (.ireturn, 1) := by decide +kernel
theorem dX5_apart_37 : decode cX5_apart 37 = .ok (.aload_n 0, 1) := by decide +kernel
theorem dX5_apart_38 : decode cX5_apart 38 = .ok (.getfield 35, 3) := by decide +kernel
theorem dX5_apart_41 : decode cX5_apart 41 = .ok (.aload 4, 2) := by decide +kernel
theorem dX5_apart_43 : decode cX5_apart 43 = .ok (.aload 5, 2) := by decide +kernel
theorem dX5_apart_45 : decode cX5_apart 45 = .ok (.aload_n 0, 1) := by decide +kernel
theorem dX5_apart_46 : decode cX5_apart 46 = .ok (.getfield 89, 3) := by decide +kernel
theorem dX5_apart_49 : decode cX5_apart 49 = .ok (.invokevirtual 95, 3) := by decide +kernel
theorem dX5_apart_52 : decode cX5_apart 52 = .ok (.istore 6, 2) := by decide +kernel
theorem dX5_apart_54 : decode cX5_apart 54 = .ok (.iload 6, 2) := by decide +kernel
theorem dX5_apart_56 : decode cX5_apart 56 = .ok (.iconst (-1), 1) := by decide +kernel
theorem dX5_apart_57 : decode cX5_apart 57 = .ok (.if_icmp .ne 6, 3) := by decide +kernel
theorem dX5_apart_60 : decode cX5_apart 60 = .ok (.bipush (-6), 2) := by decide +kernel
theorem dX5_apart_62 : decode cX5_apart 62 = .ok (.ireturn, 1) := by decide +kernel
theorem dX5_apart_63 : decode cX5_apart 63 = .ok (.aload_n 0, 1) := by decide +kernel
theorem dX5_apart_64 : decode cX5_apart 64 = .ok (.getfield 35, 3) := by decide +kernel
theorem dX5_apart_67 : decode cX5_apart 67 = .ok (.iload 6, 2) := by decide +kernel
theorem dX5_apart_69 : decode cX5_apart 69 = .ok (.invokevirtual 103, 3) := by decide +kernel
theorem dX5_apart_72 : decode cX5_apart 72 = .ok (.istore 7, 2) := by decide +kernel
theorem dX5_apart_74 : decode cX5_apart 74 = .ok (.iload_n 3, 1) := by decide +kernel
theorem dX5_apart_75 : decode cX5_apart 75 = .ok (.iconst (-1), 1) := by decide +kernel
theorem dX5_apart_76 : decode cX5_apart 76 = .ok (.if_icmp .ne 6, 3) := by decide +kernel
theorem dX5_apart_79 : decode cX5_apart 79 = .ok (.iload 7, 2) := by decide +kernel
theorem dX5_apart_81 : decode cX5_apart 81 = .ok (.ireturn, 1) := by decide +kernel
theorem dX5_apart_82 : decode cX5_apart 82 = .ok (.iload_n 3, 1) := by decide +kernel
theorem dX5_apart_83 : decode cX5_apart 83 = .ok (.iload 7, 2) := by decide +kernel
theorem dX5_apart_85 : decode cX5_apart 85 = .ok (.if_icmp .lt 8, 3) := by decide +kernel
theorem dX5_apart_88 : decode cX5_apart 88 = .ok (.bipush (-5), 2) := by decide +kernel
theorem dX5_apart_90 : decode cX5_apart 90 = .ok (.goto 18, 3) := by decide +kernel
theorem dX5_apart_93 : decode cX5_apart 93 = .ok (.aload_n 0, 1) := by decide +kernel
theorem dX5_apart_94 : decode cX5_apart 94 = .ok (.getfield 35, 3) := by decide +kernel
theorem dX5_apart_97 : decode cX5_apart 97 = .ok (.iload 6, 2) := by decide +kernel
theorem dX5_apart_99 : decode cX5_apart 99 = .ok (.iload 7, 2) := by decide +kernel
theorem dX5_apart_101 : decode cX5_apart 101 = .ok (.iconst 1, 1) := by decide +kernel
theorem dX5_apart_102 : decode cX5_apart 102 = .ok (.isub, 1) := by decide +kernel
theorem dX5_apart_103 : decode cX5_apart 103 = .ok (.iload_n 3, 1) := by decide +kernel
theorem dX5_apart_104 : decode cX5_apart 104 = .ok (.isub, 1) := by decide +kernel
theorem dX5_apart_105 : decode cX5_apart 105 = .ok (.invokevirtual 106, 3) := by decide +kernel
theorem dX5_apart_108 : decode cX5_apart 108 = .ok (.ireturn, 1) := by decide +kernel
theorem dX5_near_0 : decode cX5_near 0 = .ok (.aload_n 0, 1) := by decide +kernel
theorem dX5_near_1 : decode cX5_near 1 = .ok (.iload_n 1, 1) := by decide +kernel
theorem dX5_near_2 : decode cX5_near 2 = .ok (.invokevirtual 92, 3) := by decide +kernel
theorem dX5_near_5 : decode cX5_near 5 = .ok (.astore 4, 2) := by decide +kernel
theorem dX5_near_7 : decode cX5_near 7 = .ok (.aload_n 0, 1) := by decide +kernel
theorem dX5_near_8 : decode cX5_near 8 = .ok (.iload_n 2, 1) := by decide +kernel
theorem dX5_near_9 : decode cX5_near 9 = .ok (.invokevirtual 92, 3) := by decide +kernel
theorem dX5_near_12 : decode cX5_near 12 = .ok (.astore 5, 2) := by decide +kernel
theorem dX5_near_14 : decode cX5_near 14 = .ok (.aload 4, 2) := by decide +kernel
theorem dX5_near_16 : decode cX5_near 16 = .ok (.ifnull 18, 3) := by decide +kernel
theorem dX5_near_19 : decode cX5_near 19 = .ok (.aload 5, 2) := by decide +kernel
theorem dX5_near_21 : decode cX5_near 21 = .ok (.ifnull 13, 3) := by decide +kernel
theorem dX5_near_24 : decode cX5_near 24 = .ok (.iload_n 3, 1) := by decide +kernel
theorem dX5_near_25 : decode cX5_near 25 = .ok (.ifCond .lt 9, 3) := by decide +kernel
theorem dX5_near_28 : decode cX5_near 28 = .ok (.iload_n 3, 1) := by decide +kernel
theorem dX5_near_29 : decode cX5_near 29 = .ok (.bipush 60, 2) := by decide +kernel
theorem dX5_near_31 : decode cX5_near 31 = .ok (.if_icmp .le 8, 3) := by decide +kernel
theorem dX5_near_34 : decode cX5_near 34 = .ok (.aload_n 0, 1) := by decide +kernel
theorem dX5_near_35 : decode cX5_near 35 = .ok (.invokevirtual 53, 3) := by decide +kernel
theorem dX5_near_38 : decode cX5_near 38 = .ok (.ireturn, 1) := by decide +kernel
theorem dX5_near_39 : decode cX5_near 39 = .ok (.aload_n 0, 1) := by decide +kernel
theorem dX5_near_40 : decode cX5_near 40 = .ok (.getfield 35, 3) := by decide +kernel
theorem dX5_near_43 : decode cX5_near 43 = .ok (.aload 4, 2) := by decide +kernel
theorem dX5_near_45 : decode cX5_near 45 = .ok (.aload 5, 2) := by decide +kernel
theorem dX5_near_47 : decode cX5_near 47 = .ok (.iload_n 3, 1) := by decide +kernel
theorem dX5_near_48 : decode cX5_near 48 = .ok (.invokevirtual 110, 3) := by decide +kernel
theorem dX5_near_51 : decode cX5_near 51 = .ok (.ifCond .eq 7, 3) := by decide +kernel
theorem dX5_near_54 : decode cX5_near 54 = .ok (.iconst 1, 1) := by decide +kernel
theorem dX5_near_55 : decode cX5_near 55 = .ok (.goto 4, 3) := by decide +kernel
theorem dX5_near_58 : decode cX5_near 58 = .ok (.iconst 0, 1) := by decide +kernel
theorem dX5_near_59 : decode cX5_near 59 = .ok (.ireturn, 1) := by decide +kernel
theorem dX5_shared_0 : decode cX5_shared 0 = .ok (.aload_n 0, 1) := by decide +kernel
theorem dX5_shared_1 : decode cX5_shared 1 = .ok (.iload_n 1, 1) := by decide +kernel
theorem dX5_shared_2 : decode cX5_shared 2 = .ok (.invokevirtual 92, 3) := by decide +kernel
theorem dX5_shared_5 : decode cX5_shared 5 = .ok (.astore_n 3, 1) := by decide +kernel
theorem dX5_shared_6 : decode cX5_shared 6 = .ok (.aload_n 0, 1) := by decide +kernel
theorem dX5_shared_7 : decode cX5_shared 7 = .ok (.iload_n 2, 1) := by decide +kernel
theorem dX5_shared_8 : decode cX5_shared 8 = .ok (.invokevirtual 92, 3) := by decide +kernel
theorem dX5_shared_11 : decode cX5_shared 11 = .ok (.astore 4, 2) := by decide +kernel
theorem dX5_shared_13 : decode cX5_shared 13 = .ok (.aload_n 3, 1) := by decide +kernel
theorem dX5_shared_14 : decode cX5_shared 14 = .ok (.ifnull 8, 3) := by decide +kernel
theorem dX5_shared_17 : decode cX5_shared 17 = .ok (.aload 4, 2) := by decide +kernel
theorem dX5_shared_19 : decode cX5_shared 19 = .ok (.ifnonnull 8, 3) := by decide +kernel
theorem dX5_shared_22 : decode cX5_shared 22 = .ok (.aload_n 0, 1) := by decide +kernel
theorem dX5_shared_23 : decode cX5_shared 23 = .ok (.invokevirtual 53, 3) := by decide +kernel
theorem dX5_shared_26 : decode cX5_shared 26 = .ok (.ireturn, 1) := by decide +kernel
theorem dX5_shared_27 : decode cX5_shared 27 = .ok (.aload_n 0, 1) := by decide +kernel
theorem dX5_shared_28 : decode cX5_shared 28 = .ok (.getfield 42, 3) := by decide +kernel
theorem dX5_shared_31 : decode cX5_shared 31 = .ok (.aload_n 3, 1) := by decide +kernel
theorem dX5_shared_32 : decode cX5_shared 32 = .ok (.aload 4, 2) := by decide +kernel
theorem dX5_shared_34 : decode cX5_shared 34 = .ok (.invokevirtual 114, 3) := by decide +kernel
theorem dX5_shared_37 : decode cX5_shared 37 = .ok (.ireturn, 1) := by decide +kernel
theorem dX5_way_0 : decode cX5_way 0 = .ok (.aload_n 0, 1) := by decide +kernel
theorem dX5_way_1 : decode cX5_way 1 = .ok (.iload_n 1, 1) := by decide +kernel
theorem dX5_way_2 : decode cX5_way 2 = .ok (.invokevirtual 92, 3) := by decide +kernel
theorem dX5_way_5 : decode cX5_way 5 = .ok (.astore_n 3, 1) := by decide +kernel
theorem dX5_way_6 : decode cX5_way 6 = .ok (.aload_n 0, 1) := by decide +kernel
theorem dX5_way_7 : decode cX5_way 7 = .ok (.iload_n 2, 1) := by decide +kernel
theorem dX5_way_8 : decode cX5_way 8 = .ok (.invokevirtual 92, 3) := by decide +kernel
theorem dX5_way_11 : decode cX5_way 11 = .ok (.astore 4, 2) := by decide +kernel
theorem dX5_way_13 : decode cX5_way 13 = .ok (.aload_n 3, 1) := by decide +kernel
theorem dX5_way_14 : decode cX5_way 14 = .ok (.ifnull 8, 3) := by decide +kernel
theorem dX5_way_17 : decode cX5_way 17 = .ok (.aload 4, 2) := by decide +kernel
theorem dX5_way_19 : decode cX5_way 19 = .ok (.ifnonnull 8, 3) := by decide +kernel
theorem dX5_way_22 : decode cX5_way 22 = .ok (.aload_n 0, 1) := by decide +kernel
theorem dX5_way_23 : decode cX5_way 23 = .ok (.invokevirtual 53, 3) := by decide +kernel
theorem dX5_way_26 : decode cX5_way 26 = .ok (.ireturn, 1) := by decide +kernel
theorem dX5_way_27 : decode cX5_way 27 = .ok (.aload_n 0, 1) := by decide +kernel
theorem dX5_way_28 : decode cX5_way 28 = .ok (.getfield 42, 3) := by decide +kernel
theorem dX5_way_31 : decode cX5_way 31 = .ok (.aload_n 3, 1) := by decide +kernel
theorem dX5_way_32 : decode cX5_way 32 = .ok (.aload_n 0, 1) := by decide +kernel
theorem dX5_way_33 : decode cX5_way 33 = .ok (.getfield 42, 3) := by decide +kernel
theorem dX5_way_36 : decode cX5_way 36 = .ok (.aload_n 3, 1) := by decide +kernel
theorem dX5_way_37 : decode cX5_way 37 = .ok (.aload 4, 2) := by decide +kernel
theorem dX5_way_39 : decode cX5_way 39 = .ok (.invokevirtual 118, 3) := by decide +kernel
theorem dX5_way_42 : decode cX5_way 42 = .ok (.invokevirtual 121, 3) := by decide +kernel
theorem dX5_way_45 : decode cX5_way 45 = .ok (.ireturn, 1) := by decide +kernel
theorem dX5_size_0 : decode cX5_size 0 = .ok (.aload_n 0, 1) := by decide +kernel
theorem dX5_size_1 : decode cX5_size 1 = .ok (.iload_n 1, 1) := by decide +kernel
theorem dX5_size_2 : decode cX5_size 2 = .ok (.invokevirtual 92, 3) := by decide +kernel
theorem dX5_size_5 : decode cX5_size 5 = .ok (.astore_n 2, 1) := by decide +kernel
theorem dX5_size_6 : decode cX5_size 6 = .ok (.aload_n 2, 1) := by decide +kernel
theorem dX5_size_7 : decode cX5_size 7 = .ok (.ifnonnull 10, 3) := by decide +kernel
theorem dX5_size_10 : decode cX5_size 10 = .ok (.aload_n 0, 1) := by decide +kernel
theorem dX5_size_11 : decode cX5_size 11 = .ok (.invokevirtual 53, 3) := by decide +kernel
theorem dX5_size_14 : decode cX5_size 14 = .ok (.goto 7, 3) := by decide +kernel
theorem dX5_size_17 : decode cX5_size 17 = .ok (.aload_n 2, 1) := by decide +kernel
theorem dX5_size_18 : decode cX5_size 18 = .ok (.getfield 125, 3) := by decide +kernel
theorem dX5_size_21 : decode cX5_size 21 = .ok (.ireturn, 1) := by decide +kernel
theorem dX5_head_0 : decode cX5_head 0 = .ok (.aload_n 0, 1) := by decide +kernel
theorem dX5_head_1 : decode cX5_head 1 = .ok (.iload_n 1, 1) := by decide +kernel
theorem dX5_head_2 : decode cX5_head 2 = .ok (.invokevirtual 92, 3) := by decide +kernel
theorem dX5_head_5 : decode cX5_head 5 = .ok (.astore_n 2, 1) := by decide +kernel
theorem dX5_head_6 : decode cX5_head 6 = .ok (.aload_n 2, 1) := by decide +kernel
theorem dX5_head_7 : decode cX5_head 7 = .ok (.ifnonnull 10, 3) := by decide +kernel
theorem dX5_head_10 : decode cX5_head 10 = .ok (.aload_n 0, 1) := by decide +kernel
theorem dX5_head_11 : decode cX5_head 11 = .ok (.invokevirtual 53, 3) := by decide +kernel
theorem dX5_head_14 : decode cX5_head 14 = .ok (.goto 8, 3) := by decide +kernel
theorem dX5_head_17 : decode cX5_head 17 = .ok (.aload_n 2, 1) := by decide +kernel
theorem dX5_head_18 : decode cX5_head 18 = .ok (.iconst 0, 1) := by decide +kernel
theorem dX5_head_19 : decode cX5_head 19 = .ok (.invokevirtual 128, 3) := by decide +kernel
theorem dX5_head_22 : decode cX5_head 22 = .ok (.ireturn, 1) := by decide +kernel
theorem dX5_code_0 : decode cX5_code 0 = .ok (.aload_n 0, 1) := by decide +kernel
theorem dX5_code_1 : decode cX5_code 1 = .ok (.iload_n 1, 1) := by decide +kernel
theorem dX5_code_2 : decode cX5_code 2 = .ok (.invokevirtual 92, 3) := by decide +kernel
theorem dX5_code_5 : decode cX5_code 5 = .ok (.astore_n 2, 1) := by decide +kernel
theorem dX5_code_6 : decode cX5_code 6 = .ok (.aload_n 2, 1) := by decide +kernel
theorem dX5_code_7 : decode cX5_code 7 = .ok (.ifnonnull 11, 3) := by decide +kernel
theorem dX5_code_10 : decode cX5_code 10 = .ok (.aload_n 0, 1) := by decide +kernel
theorem dX5_code_11 : decode cX5_code 11 = .ok (.invokevirtual 53, 3) := by decide +kernel
theorem dX5_code_14 : decode cX5_code 14 = .ok (.i2l, 1) := by decide +kernel
theorem dX5_code_15 : decode cX5_code 15 = .ok (.goto 7, 3) := by decide +kernel
theorem dX5_code_18 : decode cX5_code 18 = .ok (.aload_n 2, 1) := by decide +kernel
theorem dX5_code_19 : decode cX5_code 19 = .ok (.invokevirtual 131, 3) := by decide +kernel
theorem dX5_code_22 : decode cX5_code 22 = .ok (.lreturn, 1) := by decide +kernel
theorem dX5_deep_0 : decode cX5_deep 0 = .ok (.aload_n 0, 1) := by decide +kernel
theorem dX5_deep_1 : decode cX5_deep 1 = .ok (.iload_n 1, 1) := by decide +kernel
theorem dX5_deep_2 : decode cX5_deep 2 = .ok (.invokevirtual 92, 3) := by decide +kernel
theorem dX5_deep_5 : decode cX5_deep 5 = .ok (.astore_n 2, 1) := by decide +kernel
theorem dX5_deep_6 : decode cX5_deep 6 = .ok (.aload_n 2, 1) := by decide +kernel
theorem dX5_deep_7 : decode cX5_deep 7 = .ok (.ifnonnull 10, 3) := by decide +kernel
theorem dX5_deep_10 : decode cX5_deep 10 = .ok (.aload_n 0, 1) := by decide +kernel
theorem dX5_deep_11 : decode cX5_deep 11 = .ok (.invokevirtual 53, 3) := by decide +kernel
theorem dX5_deep_14 : decode cX5_deep 14 = .ok (.goto 11, 3) := by decide +kernel
theorem dX5_deep_17 : decode cX5_deep 17 = .ok (.aload_n 0, 1) := by decide +kernel
theorem dX5_deep_18 : decode cX5_deep 18 = .ok (.getfield 42, 3) := by decide +kernel
theorem dX5_deep_21 : decode cX5_deep 21 = .ok (.aload_n 2, 1) := by decide +kernel
theorem dX5_deep_22 : decode cX5_deep 22 = .ok (.invokevirtual 135, 3) := by decide +kernel
theorem dX5_deep_25 : decode cX5_deep 25 = .ok (.ireturn, 1) := by decide +kernel
theorem dX5_heads_0 : decode cX5_heads 0 = .ok (.aload_n 0, 1) := by decide +kernel
theorem dX5_heads_1 : decode cX5_heads 1 = .ok (.iload_n 1, 1) := by decide +kernel
theorem dX5_heads_2 : decode cX5_heads 2 = .ok (.invokevirtual 92, 3) := by decide +kernel
theorem dX5_heads_5 : decode cX5_heads 5 = .ok (.astore_n 2, 1) := by decide +kernel
theorem dX5_heads_6 : decode cX5_heads 6 = .ok (.aload_n 2, 1) := by decide +kernel
theorem dX5_heads_7 : decode cX5_heads 7 = .ok (.ifnonnull 10, 3) := by decide +kernel
theorem dX5_heads_10 : decode cX5_heads 10 = .ok (.aload_n 0, 1) := by decide +kernel
theorem dX5_heads_11 : decode cX5_heads 11 = .ok (.invokevirtual 53, 3) := by decide +kernel
theorem dX5_heads_14 : decode cX5_heads 14 = .ok (.goto 11, 3) := by decide +kernel
theorem dX5_heads_17 : decode cX5_heads 17 = .ok (.aload_n 0, 1) := by decide +kernel
theorem dX5_heads_18 : decode cX5_heads 18 = .ok (.getfield 42, 3) := by decide +kernel
theorem dX5_heads_21 : decode cX5_heads 21 = .ok (.aload_n 2, 1) := by decide +kernel
theorem dX5_heads_22 : decode cX5_heads 22 = .ok (.invokevirtual 139, 3) := by decide +kernel
theorem dX5_heads_25 : decode cX5_heads 25 = .ok (.ireturn, 1) := by decide +kernel
theorem dX5_many_0 : decode cX5_many 0 = .ok (.aload_n 0, 1) := by decide +kernel
theorem dX5_many_1 : decode cX5_many 1 = .ok (.iload_n 1, 1) := by decide +kernel
theorem dX5_many_2 : decode cX5_many 2 = .ok (.invokevirtual 92, 3) := by decide +kernel
theorem dX5_many_5 : decode cX5_many 5 = .ok (.astore_n 3, 1) := by decide +kernel
theorem dX5_many_6 : decode cX5_many 6 = .ok (.aload_n 3, 1) := by decide +kernel
theorem dX5_many_7 : decode cX5_many 7 = .ok (.ifnull 13, 3) := by decide +kernel
theorem dX5_many_10 : decode cX5_many 10 = .ok (.iload_n 2, 1) := by decide +kernel
theorem dX5_many_11 : decode cX5_many 11 = .ok (.ifCond .lt 9, 3) := by decide +kernel
theorem dX5_many_14 : decode cX5_many 14 = .ok (.iload_n 2, 1) := by decide +kernel
theorem dX5_many_15 : decode cX5_many 15 = .ok (.bipush 7, 2) := by decide +kernel
theorem dX5_many_17 : decode cX5_many 17 = .ok (.if_icmp .lt 8, 3) := by decide +kernel
theorem dX5_many_20 : decode cX5_many 20 = .ok (.aload_n 0, 1) := by decide +kernel
theorem dX5_many_21 : decode cX5_many 21 = .ok (.invokevirtual 53, 3) := by decide +kernel
theorem dX5_many_24 : decode cX5_many 24 = .ok (.ireturn, 1) := by decide +kernel
theorem dX5_many_25 : decode cX5_many 25 = .ok (.aload_n 3, 1) := by decide +kernel
theorem dX5_many_26 : decode cX5_many 26 = .ok (.iload_n 2, 1) := by decide +kernel
theorem dX5_many_27 : decode cX5_many 27 = .ok (.invokevirtual 142, 3) := by decide +kernel
theorem dX5_many_30 : decode cX5_many 30 = .ok (.ireturn, 1) := by decide +kernel
theorem dX5_looping_0 : decode cX5_looping 0 = .ok (.aload_n 0, 1) := by decide +kernel
theorem dX5_looping_1 : decode cX5_looping 1 = .ok (.iload_n 1, 1) := by decide +kernel
theorem dX5_looping_2 : decode cX5_looping 2 = .ok (.invokevirtual 92, 3) := by decide +kernel
theorem dX5_looping_5 : decode cX5_looping 5 = .ok (.astore_n 2, 1) := by decide +kernel
theorem dX5_looping_6 : decode cX5_looping 6 = .ok (.aload_n 2, 1) := by decide +kernel
theorem dX5_looping_7 : decode cX5_looping 7 = .ok (.ifnonnull 10, 3) := by decide +kernel
theorem dX5_looping_10 : decode cX5_looping 10 = .ok (.aload_n 0, 1) := by decide +kernel
theorem dX5_looping_11 : decode cX5_looping 11 = .ok (.invokevirtual 53, 3) := by decide +kernel
theorem dX5_looping_14 : decode cX5_looping 14 = .ok (.goto 11, 3) := by decide +kernel
theorem dX5_looping_17 : decode cX5_looping 17 = .ok (.aload_n 0, 1) := by decide +kernel
theorem dX5_looping_18 : decode cX5_looping 18 = .ok (.getfield 42, 3) := by decide +kernel
theorem dX5_looping_21 : decode cX5_looping 21 = .ok (.aload_n 2, 1) := by decide +kernel
theorem dX5_looping_22 : decode cX5_looping 22 = .ok (.invokevirtual 145, 3) := by decide +kernel
theorem dX5_looping_25 : decode cX5_looping 25 = .ok (.ireturn, 1) := by decide +kernel
theorem dX5_filled_0 : decode cX5_filled 0 = .ok (.aload_n 0, 1) := by decide +kernel
theorem dX5_filled_1 : decode cX5_filled 1 = .ok (.iload_n 1, 1) := by decide +kernel
theorem dX5_filled_2 : decode cX5_filled 2 = .ok (.invokevirtual 92, 3) := by decide +kernel
theorem dX5_filled_5 : decode cX5_filled 5 = .ok (.astore_n 2, 1) := by decide +kernel
theorem dX5_filled_6 : decode cX5_filled 6 = .ok (.aload_n 2, 1) := by decide +kernel
theorem dX5_filled_7 : decode cX5_filled 7 = .ok (.ifnonnull 8, 3) := by decide +kernel
theorem dX5_filled_10 : decode cX5_filled 10 = .ok (.aload_n 0, 1) := by decide +kernel
theorem dX5_filled_11 : decode cX5_filled 11 = .ok (.invokevirtual 53, 3) := by decide +kernel
theorem dX5_filled_14 : decode cX5_filled 14 = .ok (.ireturn, 1) := by decide +kernel
theorem dX5_filled_15 : decode cX5_filled 15 = .ok (.aload_n 0, 1) := by decide +kernel
theorem dX5_filled_16 : decode cX5_filled 16 = .ok (.getfield 42, 3) := by decide +kernel
theorem dX5_filled_19 : decode cX5_filled 19 = .ok (.aload_n 2, 1) := by decide +kernel
theorem dX5_filled_20 : decode cX5_filled 20 = .ok (.invokevirtual 148, 3) := by decide +kernel
theorem dX5_filled_23 : decode cX5_filled 23 = .ok (.iconst (-1), 1) := by decide +kernel
theorem dX5_filled_24 : decode cX5_filled 24 = .ok (.if_icmp .ne 7, 3) := by decide +kernel
theorem dX5_filled_27 : decode cX5_filled 27 = .ok (.iconst 0, 1) := by decide +kernel
theorem dX5_filled_28 : decode cX5_filled 28 = .ok (.goto 4, 3) := by decide +kernel
theorem dX5_filled_31 : decode cX5_filled 31 = .ok (.iconst 1, 1) := by decide +kernel
theorem dX5_filled_32 : decode cX5_filled 32 = .ok (.ireturn, 1) := by decide +kernel
theorem dX5_least_0 : decode cX5_least 0 = .ok (.aload_n 0, 1) := by decide +kernel
theorem dX5_least_1 : decode cX5_least 1 = .ok (.iload_n 1, 1) := by decide +kernel
theorem dX5_least_2 : decode cX5_least 2 = .ok (.invokevirtual 92, 3) := by decide +kernel
theorem dX5_least_5 : decode cX5_least 5 = .ok (.astore_n 2, 1) := by decide +kernel
theorem dX5_least_6 : decode cX5_least 6 = .ok (.aload_n 2, 1) := by decide +kernel
theorem dX5_least_7 : decode cX5_least 7 = .ok (.ifnonnull 10, 3) := by decide +kernel
theorem dX5_least_10 : decode cX5_least 10 = .ok (.aload_n 0, 1) := by decide +kernel
theorem dX5_least_11 : decode cX5_least 11 = .ok (.invokevirtual 53, 3) := by decide +kernel
theorem dX5_least_14 : decode cX5_least 14 = .ok (.goto 11, 3) := by decide +kernel
theorem dX5_least_17 : decode cX5_least 17 = .ok (.aload_n 0, 1) := by decide +kernel
theorem dX5_least_18 : decode cX5_least 18 = .ok (.getfield 42, 3) := by decide +kernel
theorem dX5_least_21 : decode cX5_least 21 = .ok (.aload_n 2, 1) := by decide +kernel
theorem dX5_least_22 : decode cX5_least 22 = .ok (.invokevirtual 148, 3) := by decide +kernel
theorem dX5_least_25 : decode cX5_least 25 = .ok (.ireturn, 1) := by decide +kernel
theorem dX5_signs_0 : decode cX5_signs 0 = .ok (.aload_n 0, 1) := by decide +kernel
theorem dX5_signs_1 : decode cX5_signs 1 = .ok (.iload_n 1, 1) := by decide +kernel
theorem dX5_signs_2 : decode cX5_signs 2 = .ok (.invokevirtual 92, 3) := by decide +kernel
theorem dX5_signs_5 : decode cX5_signs 5 = .ok (.astore_n 3, 1) := by decide +kernel
theorem dX5_signs_6 : decode cX5_signs 6 = .ok (.aload_n 0, 1) := by decide +kernel
theorem dX5_signs_7 : decode cX5_signs 7 = .ok (.iload_n 2, 1) := by decide +kernel
theorem dX5_signs_8 : decode cX5_signs 8 = .ok (.invokevirtual 92, 3) := by decide +kernel
theorem dX5_signs_11 : decode cX5_signs 11 = .ok (.astore 4, 2) := by decide +kernel
theorem dX5_signs_13 : decode cX5_signs 13 = .ok (.aload_n 3, 1) := by decide +kernel
theorem dX5_signs_14 : decode cX5_signs 14 = .ok (.ifnull 8, 3) := by decide +kernel
theorem dX5_signs_17 : decode cX5_signs 17 = .ok (.aload 4, 2) := by decide +kernel
theorem dX5_signs_19 : decode cX5_signs 19 = .ok (.ifnonnull 8, 3) := by decide +kernel
theorem dX5_signs_22 : decode cX5_signs 22 = .ok (.aload_n 0, 1) := by decide +kernel
theorem dX5_signs_23 : decode cX5_signs 23 = .ok (.invokevirtual 53, 3) := by decide +kernel
theorem dX5_signs_26 : decode cX5_signs 26 = .ok (.ireturn, 1) := by decide +kernel
theorem dX5_signs_27 : decode cX5_signs 27 = .ok (.aload_n 0, 1) := by decide +kernel
theorem dX5_signs_28 : decode cX5_signs 28 = .ok (.getfield 42, 3) := by decide +kernel
theorem dX5_signs_31 : decode cX5_signs 31 = .ok (.aload_n 3, 1) := by decide +kernel
theorem dX5_signs_32 : decode cX5_signs 32 = .ok (.aload_n 0, 1) := by decide +kernel
theorem dX5_signs_33 : decode cX5_signs 33 = .ok (.getfield 42, 3) := by decide +kernel
theorem dX5_signs_36 : decode cX5_signs 36 = .ok (.aload_n 3, 1) := by decide +kernel
theorem dX5_signs_37 : decode cX5_signs 37 = .ok (.aload 4, 2) := by decide +kernel
theorem dX5_signs_39 : decode cX5_signs 39 = .ok (.invokevirtual 118, 3) := by decide +kernel
theorem dX5_signs_42 : decode cX5_signs 42 = .ok (.invokevirtual 151, 3) := by decide +kernel
theorem dX5_signs_45 : decode cX5_signs 45 = .ok (.ireturn, 1) := by decide +kernel
theorem dX5_base_0 : decode cX5_base 0 = .ok (.iload_n 1, 1) := by decide +kernel
theorem dX5_base_1 : decode cX5_base 1 = .ok (.ifCond .lt 15, 3) := by decide +kernel
theorem dX5_base_4 : decode cX5_base 4 = .ok (.iload_n 1, 1) := by decide +kernel
theorem dX5_base_5 : decode cX5_base 5 = .ok (.iconst 3, 1) := by decide +kernel
theorem dX5_base_6 : decode cX5_base 6 = .ok (.if_icmp .gt 10, 3) := by decide +kernel
theorem dX5_base_9 : decode cX5_base 9 = .ok (.iload_n 2, 1) := by decide +kernel
theorem dX5_base_10 : decode cX5_base 10 = .ok (.invokestatic 154, 3) := by decide +kernel
theorem dX5_base_13 : decode cX5_base 13 = .ok (.ifCond .ne 8, 3) := by decide +kernel
theorem dX5_base_16 : decode cX5_base 16 = .ok (.aload_n 0, 1) := by decide +kernel
theorem dX5_base_17 : decode cX5_base 17 = .ok (.invokevirtual 53, 3) := by decide +kernel
theorem dX5_base_20 : decode cX5_base 20 = .ok (.ireturn, 1) := by decide +kernel
theorem dX5_base_21 : decode cX5_base 21 = .ok (.aload_n 0, 1) := by decide +kernel
theorem dX5_base_22 : decode cX5_base 22 = .ok (.getfield 28, 3) := by decide +kernel
theorem dX5_base_25 : decode cX5_base 25 = .ok (.invokevirtual 158, 3) := by decide +kernel
theorem dX5_base_28 : decode cX5_base 28 = .ok (.aload_n 0, 1) := by decide +kernel
theorem dX5_base_29 : decode cX5_base 29 = .ok (.iload_n 2, 1) := by decide +kernel
theorem dX5_base_30 : decode cX5_base 30 = .ok (.aload_n 0, 1) := by decide +kernel
theorem dX5_base_31 : decode cX5_base 31 = .ok (.getfield 28, 3) := by decide +kernel
theorem dX5_base_34 : decode cX5_base 34 = .ok (.aload_n 0, 1) := by decide +kernel
theorem dX5_base_35 : decode cX5_base 35 = .ok (.getfield 28, 3) := by decide +kernel
theorem dX5_base_38 : decode cX5_base 38 = .ok (.iload_n 1, 1) := by decide +kernel
theorem dX5_base_39 : decode cX5_base 39 = .ok (.iconst 0, 1) := by decide +kernel
theorem dX5_base_40 : decode cX5_base 40 = .ok (.iconst 0, 1) := by decide +kernel
theorem dX5_base_41 : decode cX5_base 41 = .ok (.invokevirtual 161, 3) := by decide +kernel
theorem dX5_base_44 : decode cX5_base 44 = .ok (.invokevirtual 79, 3) := by decide +kernel
theorem dX5_base_47 : decode cX5_base 47 = .ok (.invokevirtual 165, 3) := by decide +kernel
theorem dX5_base_50 : decode cX5_base 50 = .ok (.ireturn, 1) := by decide +kernel
theorem dX5_make_0 : decode cX5_make 0 = .ok (.aload_n 0, 1) := by decide +kernel
theorem dX5_make_1 : decode cX5_make 1 = .ok (.iload_n 2, 1) := by decide +kernel
theorem dX5_make_2 : decode cX5_make 2 = .ok (.invokevirtual 92, 3) := by decide +kernel
theorem dX5_make_5 : decode cX5_make 5 = .ok (.astore 5, 2) := by decide +kernel
theorem dX5_make_7 : decode cX5_make 7 = .ok (.aload_n 0, 1) := by decide +kernel
theorem dX5_make_8 : decode cX5_make 8 = .ok (.iload_n 3, 1) := by decide +kernel
theorem dX5_make_9 : decode cX5_make 9 = .ok (.invokevirtual 92, 3) := by decide +kernel
theorem dX5_make_12 : decode cX5_make 12 = .ok (.astore 6, 2) := by decide +kernel
theorem dX5_make_14 : decode cX5_make 14 = .ok (.iload_n 1, 1) := by decide +kernel
theorem dX5_make_15 : decode cX5_make 15 = .ok (.iconst 4, 1) := by decide +kernel
theorem dX5_make_16 : decode cX5_make 16 = .ok (.if_icmp .lt 27, 3) := by decide +kernel
theorem dX5_make_19 : decode cX5_make 19 = .ok (.iload_n 1, 1) := by decide +kernel
theorem dX5_make_20 : decode cX5_make 20 = .ok (.bipush 6, 2) := by decide +kernel
theorem dX5_make_22 : decode cX5_make 22 = .ok (.if_icmp .gt 21, 3) := by decide +kernel
theorem dX5_make_25 : decode cX5_make 25 = .ok (.aload 5, 2) := by decide +kernel
theorem dX5_make_27 : decode cX5_make 27 = .ok (.ifnull 16, 3) := by decide +kernel
theorem dX5_make_30 : decode cX5_make 30 = .ok (.aload 6, 2) := by decide +kernel
theorem dX5_make_32 : decode cX5_make 32 = .ok (.ifnull 11, 3) := by decide +kernel
theorem dX5_make_35 : decode cX5_make 35 = .ok (.iload 4, 2) := by decide +kernel
theorem dX5_make_37 : decode cX5_make 37 = .ok (.invokestatic 154, 3) := by decide +kernel
theorem dX5_make_40 : decode cX5_make 40 = .ok (.ifCond .ne 8, 3) := by decide +kernel
theorem dX5_make_43 : decode cX5_make 43 = .ok (.aload_n 0, 1) := by decide +kernel
theorem dX5_make_44 : decode cX5_make 44 = .ok (.invokevirtual 53, 3) := by decide +kernel
theorem dX5_make_47 : decode cX5_make 47 = .ok (.ireturn, 1) := by decide +kernel
theorem dX5_make_48 : decode cX5_make 48 = .ok (.aload_n 0, 1) := by decide +kernel
theorem dX5_make_49 : decode cX5_make 49 = .ok (.getfield 28, 3) := by decide +kernel
theorem dX5_make_52 : decode cX5_make 52 = .ok (.invokevirtual 158, 3) := by decide +kernel
theorem dX5_make_55 : decode cX5_make 55 = .ok (.aload_n 0, 1) := by decide +kernel
theorem dX5_make_56 : decode cX5_make 56 = .ok (.getfield 28, 3) := by decide +kernel
theorem dX5_make_59 : decode cX5_make 59 = .ok (.aload 5, 2) := by decide +kernel
theorem dX5_make_61 : decode cX5_make 61 = .ok (.invokevirtual 169, 3) := by decide +kernel
theorem dX5_make_64 : decode cX5_make 64 = .ok (.istore 7, 2) := by decide +kernel
theorem dX5_make_66 : decode cX5_make 66 = .ok (.aload_n 0, 1) := by decide +kernel
theorem dX5_make_67 : decode cX5_make 67 = .ok (.getfield 28, 3) := by decide +kernel
theorem dX5_make_70 : decode cX5_make 70 = .ok (.aload 6, 2) := by decide +kernel
theorem dX5_make_72 : decode cX5_make 72 = .ok (.invokevirtual 169, 3) := by decide +kernel
theorem dX5_make_75 : decode cX5_make 75 = .ok (.istore 8, 2) := by decide +kernel
theorem dX5_make_77 : decode cX5_make 77 = .ok (.aload_n 0, 1) := by decide +kernel
theorem dX5_make_78 : decode cX5_make 78 = .ok (.iload 4, 2) := by decide +kernel
theorem dX5_make_80 : decode cX5_make 80 = .ok (.aload_n 0, 1) := by decide +kernel
theorem dX5_make_81 : decode cX5_make 81 = .ok (.getfield 28, 3) := by decide +kernel
theorem dX5_make_84 : decode cX5_make 84 = .ok (.aload_n 0, 1) := by decide +kernel
theorem dX5_make_85 : decode cX5_make 85 = .ok (.getfield 28, 3) := by decide +kernel
theorem dX5_make_88 : decode cX5_make 88 = .ok (.iload_n 1, 1) := by decide +kernel
theorem dX5_make_89 : decode cX5_make 89 = .ok (.iload 7, 2) := by decide +kernel
theorem dX5_make_91 : decode cX5_make 91 = .ok (.iload 8, 2) := by decide +kernel
theorem dX5_make_93 : decode cX5_make 93 = .ok (.invokevirtual 161, 3) := by decide +kernel
theorem dX5_make_96 : decode cX5_make 96 = .ok (.invokevirtual 79, 3) := by decide +kernel
theorem dX5_make_99 : decode cX5_make 99 = .ok (.invokevirtual 165, 3) := by decide +kernel
theorem dX5_make_102 : decode cX5_make 102 = .ok (.ireturn, 1) := by decide +kernel
theorem dX5_part_0 : decode cX5_part 0 = .ok (.aload_n 0, 1) := by decide +kernel
theorem dX5_part_1 : decode cX5_part 1 = .ok (.iload_n 1, 1) := by decide +kernel
theorem dX5_part_2 : decode cX5_part 2 = .ok (.invokevirtual 92, 3) := by decide +kernel
theorem dX5_part_5 : decode cX5_part 5 = .ok (.astore 4, 2) := by decide +kernel
theorem dX5_part_7 : decode cX5_part 7 = .ok (.aload 4, 2) := by decide +kernel
theorem dX5_part_9 : decode cX5_part 9 = .ok (.ifnull 19, 3) := by decide +kernel
theorem dX5_part_12 : decode cX5_part 12 = .ok (.iload_n 2, 1) := by decide +kernel
theorem dX5_part_13 : decode cX5_part 13 = .ok (.ifCond .lt 15, 3) := by decide +kernel
theorem dX5_part_16 : decode cX5_part 16 = .ok (.iload_n 2, 1) := by decide +kernel
theorem dX5_part_17 : decode cX5_part 17 = .ok (.iconst 1, 1) := by decide +kernel
theorem dX5_part_18 : decode cX5_part 18 = .ok (.if_icmp .gt 10, 3) := by decide +kernel
theorem dX5_part_21 : decode cX5_part 21 = .ok (.iload_n 3, 1) := by decide +kernel
theorem dX5_part_22 : decode cX5_part 22 = .ok (.invokestatic 154, 3) := by decide +kernel
theorem dX5_part_25 : decode cX5_part 25 = .ok (.ifCond .ne 8, 3) := by decide +kernel
theorem dX5_part_28 : decode cX5_part 28 = .ok (.aload_n 0, 1) := by decide +kernel
theorem dX5_part_29 : decode cX5_part 29 = .ok (.invokevirtual 53, 3) := by decide +kernel
theorem dX5_part_32 : decode cX5_part 32 = .ok (.ireturn, 1) := by decide +kernel
theorem dX5_part_33 : decode cX5_part 33 = .ok (.iload_n 2, 1) := by decide +kernel
theorem dX5_part_34 : decode cX5_part 34 = .ok (.aload 4, 2) := by decide +kernel
theorem dX5_part_36 : decode cX5_part 36 = .ok (.iconst 0, 1) := by decide +kernel
theorem dX5_part_37 : decode cX5_part 37 = .ok (.invokevirtual 172, 3) := by decide +kernel
theorem dX5_part_40 : decode cX5_part 40 = .ok (.if_icmp .lt 8, 3) := by decide +kernel
theorem dX5_part_43 : decode cX5_part 43 = .ok (.aload_n 0, 1) := by decide +kernel
theorem dX5_part_44 : decode cX5_part 44 = .ok (.invokevirtual 175, 3) := by decide +kernel
theorem dX5_part_47 : decode cX5_part 47 = .ok (.ireturn, 1) := by decide +kernel
theorem dX5_part_48 : decode cX5_part 48 = .ok (.aload_n 0, 1) := by decide +kernel
theorem dX5_part_49 : decode cX5_part 49 = .ok (.getfield 28, 3) := by decide +kernel
theorem dX5_part_52 : decode cX5_part 52 = .ok (.invokevirtual 158, 3) := by decide +kernel
theorem dX5_part_55 : decode cX5_part 55 = .ok (.aload_n 0, 1) := by decide +kernel
theorem dX5_part_56 : decode cX5_part 56 = .ok (.getfield 28, 3) := by decide +kernel
theorem dX5_part_59 : decode cX5_part 59 = .ok (.aload 4, 2) := by decide +kernel
theorem dX5_part_61 : decode cX5_part 61 = .ok (.invokevirtual 169, 3) := by decide +kernel
theorem dX5_part_64 : decode cX5_part 64 = .ok (.pop, 1) := by decide +kernel
theorem dX5_part_65 : decode cX5_part 65 = .ok (.aload_n 0, 1) := by decide +kernel
theorem dX5_part_66 : decode cX5_part 66 = .ok (.iload_n 3, 1) := by decide +kernel
theorem dX5_part_67 : decode cX5_part 67 = .ok (.aload_n 0, 1) := by decide +kernel
theorem dX5_part_68 : decode cX5_part 68 = .ok (.getfield 28, 3) := by decide +kernel
theorem dX5_part_71 : decode cX5_part 71 = .ok (.aload 4, 2) := by decide +kernel
theorem dX5_part_73 : decode cX5_part 73 = .ok (.iconst 0, 1) := by decide +kernel
theorem dX5_part_74 : decode cX5_part 74 = .ok (.iload_n 2, 1) := by decide +kernel
theorem dX5_part_75 : decode cX5_part 75 = .ok (.invokevirtual 178, 3) := by decide +kernel
theorem dX5_part_78 : decode cX5_part 78 = .ok (.invokevirtual 79, 3) := by decide +kernel
theorem dX5_part_81 : decode cX5_part 81 = .ok (.invokevirtual 165, 3) := by decide +kernel
theorem dX5_part_84 : decode cX5_part 84 = .ok (.ireturn, 1) := by decide +kernel
theorem dX5_copy_0 : decode cX5_copy 0 = .ok (.aload_n 0, 1) := by decide +kernel
theorem dX5_copy_1 : decode cX5_copy 1 = .ok (.iload_n 1, 1) := by decide +kernel
theorem dX5_copy_2 : decode cX5_copy 2 = .ok (.invokevirtual 92, 3) := by decide +kernel
theorem dX5_copy_5 : decode cX5_copy 5 = .ok (.astore_n 3, 1) := by decide +kernel
theorem dX5_copy_6 : decode cX5_copy 6 = .ok (.aload_n 3, 1) := by decide +kernel
theorem dX5_copy_7 : decode cX5_copy 7 = .ok (.ifnull 10, 3) := by decide +kernel
theorem dX5_copy_10 : decode cX5_copy 10 = .ok (.iload_n 2, 1) := by decide +kernel
theorem dX5_copy_11 : decode cX5_copy 11 = .ok (.invokestatic 154, 3) := by decide +kernel
theorem dX5_copy_14 : decode cX5_copy 14 = .ok (.ifCond .ne 8, 3) := by decide +kernel
theorem dX5_copy_17 : decode cX5_copy 17 = .ok (.aload_n 0, 1) := by decide +kernel
theorem dX5_copy_18 : decode cX5_copy 18 = .ok (.invokevirtual 53, 3) := by decide +kernel
theorem dX5_copy_21 : decode cX5_copy 21 = .ok (.ireturn, 1) := by decide +kernel
theorem dX5_copy_22 : decode cX5_copy 22 = .ok (.aload_n 0, 1) := by decide +kernel
theorem dX5_copy_23 : decode cX5_copy 23 = .ok (.iload_n 2, 1) := by decide +kernel
theorem dX5_copy_24 : decode cX5_copy 24 = .ok (.aload_n 3, 1) := by decide +kernel
theorem dX5_copy_25 : decode cX5_copy 25 = .ok (.invokevirtual 165, 3) := by decide +kernel
theorem dX5_copy_28 : decode cX5_copy 28 = .ok (.ireturn, 1) := by decide +kernel
theorem dX5_bound_0 : decode cX5_bound 0 = .ok (.aload_n 0, 1) := by decide +kernel
theorem dX5_bound_1 : decode cX5_bound 1 = .ok (.iload_n 2, 1) := by decide +kernel
theorem dX5_bound_2 : decode cX5_bound 2 = .ok (.invokevirtual 92, 3) := by decide +kernel
theorem dX5_bound_5 : decode cX5_bound 5 = .ok (.astore 5, 2) := by decide +kernel
theorem dX5_bound_7 : decode cX5_bound 7 = .ok (.aload_n 0, 1) := by decide +kernel
theorem dX5_bound_8 : decode cX5_bound 8 = .ok (.iload_n 3, 1) := by decide +kernel
theorem dX5_bound_9 : decode cX5_bound 9 = .ok (.invokevirtual 92, 3) := by decide +kernel
theorem dX5_bound_12 : decode cX5_bound 12 = .ok (.astore 6, 2) := by decide +kernel
theorem dX5_bound_14 : decode cX5_bound 14 = .ok (.iload_n 1, 1) := by decide +kernel
theorem dX5_bound_15 : decode cX5_bound 15 = .ok (.ifCond .lt 26, 3) := by decide +kernel
theorem dX5_bound_18 : decode cX5_bound 18 = .ok (.iload_n 1, 1) := by decide +kernel
theorem dX5_bound_19 : decode cX5_bound 19 = .ok (.iconst 1, 1) := by decide +kernel
theorem dX5_bound_20 : decode cX5_bound 20 = .ok (.if_icmp .gt 21, 3) := by decide +kernel
theorem dX5_bound_23 : decode cX5_bound 23 = .ok (.aload 5, 2) := by decide +kernel
theorem dX5_bound_25 : decode cX5_bound 25 = .ok (.ifnull 16, 3) := by decide +kernel
theorem dX5_bound_28 : decode cX5_bound 28 = .ok (.aload 6, 2) := by decide +kernel
theorem dX5_bound_30 : decode cX5_bound 30 = .ok (.ifnull 11, 3) := by decide +kernel
theorem dX5_bound_33 : decode cX5_bound 33 = .ok (.iload 4, 2) := by decide +kernel
theorem dX5_bound_35 : decode cX5_bound 35 = .ok (.invokestatic 154, 3) := by decide +kernel
theorem dX5_bound_38 : decode cX5_bound 38 = .ok (.ifCond .ne 8, 3) := by decide +kernel
theorem dX5_bound_41 : decode cX5_bound 41 = .ok (.aload_n 0, 1) := by decide +kernel
theorem dX5_bound_42 : decode cX5_bound 42 = .ok (.invokevirtual 53, 3) := by decide +kernel
theorem dX5_bound_45 : decode cX5_bound 45 = .ok (.ireturn, 1) := by decide +kernel
theorem dX5_bound_46 : decode cX5_bound 46 = .ok (.aload_n 0, 1) := by decide +kernel
theorem dX5_bound_47 : decode cX5_bound 47 = .ok (.iload 4, 2) := by decide +kernel
theorem dX5_bound_49 : decode cX5_bound 49 = .ok (.aload_n 0, 1) := by decide +kernel
theorem dX5_bound_50 : decode cX5_bound 50 = .ok (.getfield 35, 3) := by decide +kernel
theorem dX5_bound_53 : decode cX5_bound 53 = .ok (.aload 5, 2) := by decide +kernel
theorem dX5_bound_55 : decode cX5_bound 55 = .ok (.aload 6, 2) := by decide +kernel
theorem dX5_bound_57 : decode cX5_bound 57 = .ok (.iload_n 1, 1) := by decide +kernel
theorem dX5_bound_58 : decode cX5_bound 58 = .ok (.iconst 1, 1) := by decide +kernel
theorem dX5_bound_59 : decode cX5_bound 59 = .ok (.if_icmp .ne 7, 3) := by decide +kernel
theorem dX5_bound_62 : decode cX5_bound 62 = .ok (.iconst 1, 1) := by decide +kernel
theorem dX5_bound_63 : decode cX5_bound 63 = .ok (.goto 4, 3) := by decide +kernel
theorem dX5_bound_66 : decode cX5_bound 66 = .ok (.iconst 0, 1) := by decide +kernel
theorem dX5_bound_67 : decode cX5_bound 67 = .ok (.aload_n 0, 1) := by decide +kernel
theorem dX5_bound_68 : decode cX5_bound 68 = .ok (.getfield 28, 3) := by decide +kernel
theorem dX5_bound_71 : decode cX5_bound 71 = .ok (.invokevirtual 181, 3) := by decide +kernel
theorem dX5_bound_74 : decode cX5_bound 74 = .ok (.invokevirtual 165, 3) := by decide +kernel
theorem dX5_bound_77 : decode cX5_bound 77 = .ok (.ireturn, 1) := by decide +kernel
theorem dX5_swap_0 : decode cX5_swap 0 = .ok (.aload_n 0, 1) := by decide +kernel
theorem dX5_swap_1 : decode cX5_swap 1 = .ok (.iload_n 1, 1) := by decide +kernel
theorem dX5_swap_2 : decode cX5_swap 2 = .ok (.invokevirtual 92, 3) := by decide +kernel
theorem dX5_swap_5 : decode cX5_swap 5 = .ok (.astore 5, 2) := by decide +kernel
theorem dX5_swap_7 : decode cX5_swap 7 = .ok (.aload_n 0, 1) := by decide +kernel
theorem dX5_swap_8 : decode cX5_swap 8 = .ok (.iload_n 2, 1) := by decide +kernel
theorem dX5_swap_9 : decode cX5_swap 9 = .ok (.invokevirtual 92, 3) := by decide +kernel
theorem dX5_swap_12 : decode cX5_swap 12 = .ok (.astore 6, 2) := by decide +kernel
theorem dX5_swap_14 : decode cX5_swap 14 = .ok (.aload_n 0, 1) := by decide +kernel
theorem dX5_swap_15 : decode cX5_swap 15 = .ok (.iload_n 3, 1) := by decide +kernel
theorem dX5_swap_16 : decode cX5_swap 16 = .ok (.invokevirtual 92, 3) := by decide +kernel
theorem dX5_swap_19 : decode cX5_swap 19 = .ok (.astore 7, 2) := by decide +kernel
theorem dX5_swap_21 : decode cX5_swap 21 = .ok (.aload 5, 2) := by decide +kernel
theorem dX5_swap_23 : decode cX5_swap 23 = .ok (.ifnull 21, 3) := by decide +kernel
theorem dX5_swap_26 : decode cX5_swap 26 = .ok (.aload 6, 2) := by decide +kernel
theorem dX5_swap_28 : decode cX5_swap 28 = .ok (.ifnull 16, 3) := by decide +kernel
theorem dX5_swap_31 : decode cX5_swap 31 = .ok (.aload 7, 2) := by decide +kernel
theorem dX5_swap_33 : decode cX5_swap 33 = .ok (.ifnull 11, 3) := by decide +kernel
theorem dX5_swap_36 : decode cX5_swap 36 = .ok (.iload 4, 2) := by decide +kernel
theorem dX5_swap_38 : decode cX5_swap 38 = .ok (.invokestatic 154, 3) := by decide +kernel
theorem dX5_swap_41 : decode cX5_swap 41 = .ok (.ifCond .ne 8, 3) := by decide +kernel
theorem dX5_swap_44 : decode cX5_swap 44 = .ok (.aload_n 0, 1) := by decide +kernel
theorem dX5_swap_45 : decode cX5_swap 45 = .ok (.invokevirtual 53, 3) := by decide +kernel
theorem dX5_swap_48 : decode cX5_swap 48 = .ok (.ireturn, 1) := by decide +kernel
theorem dX5_swap_49 : decode cX5_swap 49 = .ok (.aload_n 0, 1) := by decide +kernel
theorem dX5_swap_50 : decode cX5_swap 50 = .ok (.iload 4, 2) := by decide +kernel
theorem dX5_swap_52 : decode cX5_swap 52 = .ok (.aload_n 0, 1) := by decide +kernel
theorem dX5_swap_53 : decode cX5_swap 53 = .ok (.getfield 28, 3) := by decide +kernel
theorem dX5_swap_56 : decode cX5_swap 56 = .ok (.aload 5, 2) := by decide +kernel
theorem dX5_swap_58 : decode cX5_swap 58 = .ok (.aload_n 0, 1) := by decide +kernel
theorem dX5_swap_59 : decode cX5_swap 59 = .ok (.getfield 42, 3) := by decide +kernel
theorem dX5_swap_62 : decode cX5_swap 62 = .ok (.aload 5, 2) := by decide +kernel
theorem dX5_swap_64 : decode cX5_swap 64 = .ok (.aload 6, 2) := by decide +kernel
theorem dX5_swap_66 : decode cX5_swap 66 = .ok (.invokevirtual 118, 3) := by decide +kernel
theorem dX5_swap_69 : decode cX5_swap 69 = .ok (.aload 7, 2) := by decide +kernel
theorem dX5_swap_71 : decode cX5_swap 71 = .ok (.invokevirtual 185, 3) := by decide +kernel
theorem dX5_swap_74 : decode cX5_swap 74 = .ok (.invokevirtual 165, 3) := by decide +kernel
theorem dX5_swap_77 : decode cX5_swap 77 = .ok (.ireturn, 1) := by decide +kernel
theorem dX5_cut_0 : decode cX5_cut 0 = .ok (.aload_n 0, 1) := by decide +kernel
theorem dX5_cut_1 : decode cX5_cut 1 = .ok (.iload_n 1, 1) := by decide +kernel
theorem dX5_cut_2 : decode cX5_cut 2 = .ok (.invokevirtual 92, 3) := by decide +kernel
theorem dX5_cut_5 : decode cX5_cut 5 = .ok (.astore 4, 2) := by decide +kernel
theorem dX5_cut_7 : decode cX5_cut 7 = .ok (.aload 4, 2) := by decide +kernel
theorem dX5_cut_9 : decode cX5_cut 9 = .ok (.ifnull 20, 3) := by decide +kernel
theorem dX5_cut_12 : decode cX5_cut 12 = .ok (.iload_n 2, 1) := by decide +kernel
theorem dX5_cut_13 : decode cX5_cut 13 = .ok (.ifCond .lt 16, 3) := by decide +kernel
theorem dX5_cut_16 : decode cX5_cut 16 = .ok (.iload_n 2, 1) := by decide +kernel
theorem dX5_cut_17 : decode cX5_cut 17 = .ok (.bipush 9, 2) := by decide +kernel
theorem dX5_cut_19 : decode cX5_cut 19 = .ok (.if_icmp .gt 10, 3) := by decide +kernel
theorem dX5_cut_22 : decode cX5_cut 22 = .ok (.iload_n 3, 1) := by decide +kernel
theorem dX5_cut_23 : decode cX5_cut 23 = .ok (.invokestatic 154, 3) := by decide +kernel
theorem dX5_cut_26 : decode cX5_cut 26 = .ok (.ifCond .ne 8, 3) := by decide +kernel
theorem dX5_cut_29 : decode cX5_cut 29 = .ok (.aload_n 0, 1) := by decide +kernel
theorem dX5_cut_30 : decode cX5_cut 30 = .ok (.invokevirtual 53, 3) := by decide +kernel
theorem dX5_cut_33 : decode cX5_cut 33 = .ok (.ireturn, 1) := by decide +kernel
theorem dX5_cut_34 : decode cX5_cut 34 = .ok (.aload_n 0, 1) := by decide +kernel
theorem dX5_cut_35 : decode cX5_cut 35 = .ok (.iload_n 3, 1) := by decide +kernel
theorem dX5_cut_36 : decode cX5_cut 36 = .ok (.aload_n 0, 1) := by decide +kernel
theorem dX5_cut_37 : decode cX5_cut 37 = .ok (.getfield 28, 3) := by decide +kernel
theorem dX5_cut_40 : decode cX5_cut 40 = .ok (.aload 4, 2) := by decide +kernel
theorem dX5_cut_42 : decode cX5_cut 42 = .ok (.iload_n 2, 1) := by decide +kernel
theorem dX5_cut_43 : decode cX5_cut 43 = .ok (.invokevirtual 189, 3) := by decide +kernel
theorem dX5_cut_46 : decode cX5_cut 46 = .ok (.invokevirtual 165, 3) := by decide +kernel
theorem dX5_cut_49 : decode cX5_cut 49 = .ok (.ireturn, 1) := by decide +kernel
theorem dX5_turn_0 : decode cX5_turn 0 = .ok (.aload_n 0, 1) := by decide +kernel
theorem dX5_turn_1 : decode cX5_turn 1 = .ok (.iload_n 1, 1) := by decide +kernel
theorem dX5_turn_2 : decode cX5_turn 2 = .ok (.invokevirtual 92, 3) := by decide +kernel
theorem dX5_turn_5 : decode cX5_turn 5 = .ok (.astore 4, 2) := by decide +kernel
theorem dX5_turn_7 : decode cX5_turn 7 = .ok (.aload 4, 2) := by decide +kernel
theorem dX5_turn_9 : decode cX5_turn 9 = .ok (.ifnull 21, 3) := by decide +kernel
theorem dX5_turn_12 : decode cX5_turn 12 = .ok (.iload_n 2, 1) := by decide +kernel
theorem dX5_turn_13 : decode cX5_turn 13 = .ok (.iconst 5, 1) := by decide +kernel
theorem dX5_turn_14 : decode cX5_turn 14 = .ok (.if_icmp .lt 16, 3) := by decide +kernel
theorem dX5_turn_17 : decode cX5_turn 17 = .ok (.iload_n 2, 1) := by decide +kernel
theorem dX5_turn_18 : decode cX5_turn 18 = .ok (.bipush 6, 2) := by decide +kernel
theorem dX5_turn_20 : decode cX5_turn 20 = .ok (.if_icmp .gt 10, 3) := by decide +kernel
theorem dX5_turn_23 : decode cX5_turn 23 = .ok (.iload_n 3, 1) := by decide +kernel
theorem dX5_turn_24 : decode cX5_turn 24 = .ok (.invokestatic 154, 3) := by decide +kernel
theorem dX5_turn_27 : decode cX5_turn 27 = .ok (.ifCond .ne 8, 3) := by decide +kernel
theorem dX5_turn_30 : decode cX5_turn 30 = .ok (.aload_n 0, 1) := by decide +kernel
theorem dX5_turn_31 : decode cX5_turn 31 = .ok (.invokevirtual 53, 3) := by decide +kernel
theorem dX5_turn_34 : decode cX5_turn 34 = .ok (.ireturn, 1) := by decide +kernel
theorem dX5_turn_35 : decode cX5_turn 35 = .ok (.aload_n 0, 1) := by decide +kernel
theorem dX5_turn_36 : decode cX5_turn 36 = .ok (.iload_n 3, 1) := by decide +kernel
theorem dX5_turn_37 : decode cX5_turn 37 = .ok (.aload_n 0, 1) := by decide +kernel
theorem dX5_turn_38 : decode cX5_turn 38 = .ok (.getfield 28, 3) := by decide +kernel
theorem dX5_turn_41 : decode cX5_turn 41 = .ok (.aload 4, 2) := by decide +kernel
theorem dX5_turn_43 : decode cX5_turn 43 = .ok (.iload_n 2, 1) := by decide +kernel
theorem dX5_turn_44 : decode cX5_turn 44 = .ok (.invokevirtual 193, 3) := by decide +kernel
theorem dX5_turn_47 : decode cX5_turn 47 = .ok (.invokevirtual 165, 3) := by decide +kernel
theorem dX5_turn_50 : decode cX5_turn 50 = .ok (.ireturn, 1) := by decide +kernel
theorem dX5_draw_0 : decode cX5_draw 0 = .ok (.iload_n 1, 1) := by decide +kernel
theorem dX5_draw_1 : decode cX5_draw 1 = .ok (.ifCond .lt 27, 3) := by decide +kernel
theorem dX5_draw_4 : decode cX5_draw 4 = .ok (.iload_n 1, 1) := by decide +kernel
theorem dX5_draw_5 : decode cX5_draw 5 = .ok (.ldc 196, 2) := by decide +kernel
theorem dX5_draw_7 : decode cX5_draw 7 = .ok (.if_icmp .gt 21, 3) := by decide +kernel
theorem dX5_draw_10 : decode cX5_draw 10 = .ok (.iload_n 2, 1) := by decide +kernel
theorem dX5_draw_11 : decode cX5_draw 11 = .ok (.iconst 1, 1) := by decide +kernel
theorem dX5_draw_12 : decode cX5_draw 12 = .ok (.if_icmp .lt 16, 3) := by decide +kernel
theorem dX5_draw_15 : decode cX5_draw 15 = .ok (.iload_n 2, 1) := by decide +kernel
theorem dX5_draw_16 : decode cX5_draw 16 = .ok (.bipush 12, 2) := by decide +kernel
theorem dX5_draw_18 : decode cX5_draw 18 = .ok (.if_icmp .gt 10, 3) := by decide +kernel
theorem dX5_draw_21 : decode cX5_draw 21 = .ok (.iload_n 3, 1) := by decide +kernel
theorem dX5_draw_22 : decode cX5_draw 22 = .ok (.invokestatic 154, 3) := by decide +kernel
theorem dX5_draw_25 : decode cX5_draw 25 = .ok (.ifCond .ne 8, 3) := by decide +kernel
theorem dX5_draw_28 : decode cX5_draw 28 = .ok (.aload_n 0, 1) := by decide +kernel
theorem dX5_draw_29 : decode cX5_draw 29 = .ok (.invokevirtual 53, 3) := by decide +kernel
theorem dX5_draw_32 : decode cX5_draw 32 = .ok (.ireturn, 1) := by decide +kernel
theorem dX5_draw_33 : decode cX5_draw 33 = .ok (.aload_n 0, 1) := by decide +kernel
theorem dX5_draw_34 : decode cX5_draw 34 = .ok (.iload_n 3, 1) := by decide +kernel
theorem dX5_draw_35 : decode cX5_draw 35 = .ok (.aload_n 0, 1) := by decide +kernel
theorem dX5_draw_36 : decode cX5_draw 36 = .ok (.getfield 28, 3) := by decide +kernel
theorem dX5_draw_39 : decode cX5_draw 39 = .ok (.iload_n 1, 1) := by decide +kernel
theorem dX5_draw_40 : decode cX5_draw 40 = .ok (.iload_n 2, 1) := by decide +kernel
theorem dX5_draw_41 : decode cX5_draw 41 = .ok (.invokevirtual 197, 3) := by decide +kernel
theorem dX5_draw_44 : decode cX5_draw 44 = .ok (.invokevirtual 165, 3) := by decide +kernel
theorem dX5_draw_47 : decode cX5_draw 47 = .ok (.ireturn, 1) := by decide +kernel
theorem dX5_back_0 : decode cX5_back 0 = .ok (.aload_n 0, 1) := by decide +kernel
theorem dX5_back_1 : decode cX5_back 1 = .ok (.getfield 201, 3) := by decide +kernel
theorem dX5_back_4 : decode cX5_back 4 = .ok (.ifCond .ne 8, 3) := by decide +kernel
theorem dX5_back_7 : decode cX5_back 7 = .ok (.aload_n 0, 1) := by decide +kernel
theorem dX5_back_8 : decode cX5_back 8 = .ok (.invokevirtual 175, 3) := by decide +kernel
theorem dX5_back_11 : decode cX5_back 11 = .ok (.ireturn, 1) := by decide +kernel
theorem dX5_back_12 : decode cX5_back 12 = .ok (.aload_n 0, 1) := by decide +kernel
theorem dX5_back_13 : decode cX5_back 13 = .ok (.aload_n 0, 1) := by decide +kernel
theorem dX5_back_14 : decode cX5_back 14 = .ok (.getfield 204, 3) := by decide +kernel
theorem dX5_back_17 : decode cX5_back 17 = .ok (.ifCond .ne 8, 3) := by decide +kernel
theorem dX5_back_20 : decode cX5_back 20 = .ok (.bipush 7, 2) := by decide +kernel
theorem dX5_back_22 : decode cX5_back 22 = .ok (.goto 9, 3) := by decide +kernel
theorem dX5_back_25 : decode cX5_back 25 = .ok (.aload_n 0, 1) := by decide +kernel
theorem dX5_back_26 : decode cX5_back 26 = .ok (.getfield 204, 3) := by decide +kernel
theorem dX5_back_29 : decode cX5_back 29 = .ok (.iconst 1, 1) := by decide +kernel
theorem dX5_back_30 : decode cX5_back 30 = .ok (.isub, 1) := by decide +kernel
theorem dX5_back_31 : decode cX5_back 31 = .ok (.putfield 204, 3) := by decide +kernel
theorem dX5_back_34 : decode cX5_back 34 = .ok (.aload_n 0, 1) := by decide +kernel
theorem dX5_back_35 : decode cX5_back 35 = .ok (.dup, 1) := by decide +kernel
theorem dX5_back_36 : decode cX5_back 36 = .ok (.getfield 201, 3) := by decide +kernel
theorem dX5_back_39 : decode cX5_back 39 = .ok (.iconst 1, 1) := by decide +kernel
theorem dX5_back_40 : decode cX5_back 40 = .ok (.isub, 1) := by decide +kernel
theorem dX5_back_41 : decode cX5_back 41 = .ok (.putfield 201, 3) := by decide +kernel
theorem dX5_back_44 : decode cX5_back 44 = .ok (.iconst 0, 1) := by decide +kernel
theorem dX5_back_45 : decode cX5_back 45 = .ok (.istore_n 1, 1) := by decide +kernel
theorem dX5_back_46 : decode cX5_back 46 = .ok (.iload_n 1, 1) := by decide +kernel
theorem dX5_back_47 : decode cX5_back 47 = .ok (.bipush 8, 2) := by decide +kernel
theorem dX5_back_49 : decode cX5_back 49 = .ok (.if_icmp .ge 29, 3) := by decide +kernel
theorem dX5_back_52 : decode cX5_back 52 = .ok (.aload_n 0, 1) := by decide +kernel
theorem dX5_back_53 : decode cX5_back 53 = .ok (.getfield 15, 3) := by decide +kernel
theorem dX5_back_56 : decode cX5_back 56 = .ok (.iload_n 1, 1) := by decide +kernel
theorem dX5_back_57 : decode cX5_back 57 = .ok (.aload_n 0, 1) := by decide +kernel
theorem dX5_back_58 : decode cX5_back 58 = .ok (.getfield 22, 3) := by decide +kernel
theorem dX5_back_61 : decode cX5_back 61 = .ok (.aload_n 0, 1) := by decide +kernel
theorem dX5_back_62 : decode cX5_back 62 = .ok (.getfield 204, 3) := by decide +kernel
theorem dX5_back_65 : decode cX5_back 65 = .ok (.bipush 8, 2) := by decide +kernel
theorem dX5_back_67 : decode cX5_back 67 = .ok (.imul, 1) := by decide +kernel
theorem dX5_back_68 : decode cX5_back 68 = .ok (.iload_n 1, 1) := by decide +kernel
theorem dX5_back_69 : decode cX5_back 69 = .ok (.iadd, 1) := by decide +kernel
theorem dX5_back_70 : decode cX5_back 70 = .ok (.aaload, 1) := by decide +kernel
theorem dX5_back_71 : decode cX5_back 71 = .ok (.aastore, 1) := by decide +kernel
theorem dX5_back_72 : decode cX5_back 72 = .ok (.iinc 1 1, 3) := by decide +kernel
theorem dX5_back_75 : decode cX5_back 75 = .ok (.goto (-29), 3) := by decide +kernel
theorem dX5_back_78 : decode cX5_back 78 = .ok (.aload_n 0, 1) := by decide +kernel
theorem dX5_back_79 : decode cX5_back 79 = .ok (.getfield 201, 3) := by decide +kernel
theorem dX5_back_82 : decode cX5_back 82 = .ok (.ireturn, 1) := by decide +kernel
theorem dX5_told_0 : decode cX5_told 0 = .ok (.iload_n 1, 1) := by decide +kernel
theorem dX5_told_1 : decode cX5_told 1 = .ok (.ifCond .lt 9, 3) := by decide +kernel
theorem dX5_told_4 : decode cX5_told 4 = .ok (.iload_n 1, 1) := by decide +kernel
theorem dX5_told_5 : decode cX5_told 5 = .ok (.bipush 7, 2) := by decide +kernel
theorem dX5_told_7 : decode cX5_told 7 = .ok (.if_icmp .lt 8, 3) := by decide +kernel
theorem dX5_told_10 : decode cX5_told 10 = .ok (.aload_n 0, 1) := by decide +kernel
theorem dX5_told_11 : decode cX5_told 11 = .ok (.invokevirtual 53, 3) := by decide +kernel
theorem dX5_told_14 : decode cX5_told 14 = .ok (.ireturn, 1) := by decide +kernel
theorem dX5_told_15 : decode cX5_told 15 = .ok (.aload_n 0, 1) := by decide +kernel
theorem dX5_told_16 : decode cX5_told 16 = .ok (.iload_n 1, 1) := by decide +kernel
theorem dX5_told_17 : decode cX5_told 17 = .ok (.invokevirtual 207, 3) := by decide +kernel
theorem dX5_told_20 : decode cX5_told 20 = .ok (.ireturn, 1) := by decide +kernel
theorem dX5_digest_0 : decode cX5_digest 0 = .ok (.ldc2_w 210, 3) := by decide +kernel
theorem dX5_digest_3 : decode cX5_digest 3 = .ok (.lstore_n 1, 1) := by decide +kernel
theorem dX5_digest_4 : decode cX5_digest 4 = .ok (.iconst 0, 1) := by decide +kernel
theorem dX5_digest_5 : decode cX5_digest 5 = .ok (.istore_n 3, 1) := by decide +kernel
theorem dX5_digest_6 : decode cX5_digest 6 = .ok (.iload_n 3, 1) := by decide +kernel
theorem dX5_digest_7 : decode cX5_digest 7 = .ok (.bipush 7, 2) := by decide +kernel
theorem dX5_digest_9 : decode cX5_digest 9 = .ok (.if_icmp .ge 22, 3) := by decide +kernel
theorem dX5_digest_12 : decode cX5_digest 12 = .ok (.ldc2_w 212, 3) := by decide +kernel
theorem dX5_digest_15 : decode cX5_digest 15 = .ok (.lload_n 1, 1) := by decide +kernel
theorem dX5_digest_16 : decode cX5_digest 16 = .ok (.lmul, 1) := by decide +kernel
theorem dX5_digest_17 : decode cX5_digest 17 = .ok (.aload_n 0, 1) := by decide +kernel
theorem dX5_digest_18 : decode cX5_digest 18 = .ok (.iload_n 3, 1) := by decide +kernel
theorem dX5_digest_19 : decode cX5_digest 19 = .ok (.invokevirtual 207, 3) := by decide +kernel
theorem dX5_digest_22 : decode cX5_digest 22 = .ok (.i2l, 1) := by decide +kernel
theorem dX5_digest_23 : decode cX5_digest 23 = .ok (.ladd, 1) := by decide +kernel
theorem dX5_digest_24 : decode cX5_digest 24 = .ok (.lstore_n 1, 1) := by decide +kernel
theorem dX5_digest_25 : decode cX5_digest 25 = .ok (.iinc 3 1, 3) := by decide +kernel
theorem dX5_digest_28 : decode cX5_digest 28 = .ok (.goto (-22), 3) := by decide +kernel
theorem dX5_digest_31 : decode cX5_digest 31 = .ok (.iconst 0, 1) := by decide +kernel
theorem dX5_digest_32 : decode cX5_digest 32 = .ok (.istore_n 3, 1) := by decide +kernel
theorem dX5_digest_33 : decode cX5_digest 33 = .ok (.iload_n 3, 1) := by decide +kernel
theorem dX5_digest_34 : decode cX5_digest 34 = .ok (.bipush 8, 2) := by decide +kernel
theorem dX5_digest_36 : decode cX5_digest 36 = .ok (.if_icmp .ge 38, 3) := by decide +kernel
theorem dX5_digest_39 : decode cX5_digest 39 = .ok (.aload_n 0, 1) := by decide +kernel
theorem dX5_digest_40 : decode cX5_digest 40 = .ok (.getfield 15, 3) := by decide +kernel
theorem dX5_digest_43 : decode cX5_digest 43 = .ok (.iload_n 3, 1) := by decide +kernel
theorem dX5_digest_44 : decode cX5_digest 44 = .ok (.aaload, 1) := by decide +kernel
theorem dX5_digest_45 : decode cX5_digest 45 = .ok (.astore 4, 2) := by decide +kernel
theorem dX5_digest_47 : decode cX5_digest 47 = .ok (.ldc2_w 212, 3) := by decide +kernel
theorem dX5_digest_50 : decode cX5_digest 50 = .ok (.lload_n 1, 1) := by decide +kernel
theorem dX5_digest_51 : decode cX5_digest 51 = .ok (.lmul, 1) := by decide +kernel
theorem dX5_digest_52 : decode cX5_digest 52 = .ok (.aload 4, 2) := by decide +kernel
theorem dX5_digest_54 : decode cX5_digest 54 = .ok (.ifnonnull 7, 3) := by decide +kernel
theorem dX5_digest_57 : decode cX5_digest 57 = .ok (.lconst 0, 1) := by decide +kernel
theorem dX5_digest_58 : decode cX5_digest 58 = .ok (.goto 8, 3) := by decide +kernel
theorem dX5_digest_61 : decode cX5_digest 61 = .ok (.aload 4, 2) := by decide +kernel
theorem dX5_digest_63 : decode cX5_digest 63 = .ok (.invokevirtual 131, 3) := by decide +kernel
theorem dX5_digest_66 : decode cX5_digest 66 = .ok (.ladd, 1) := by decide +kernel
theorem dX5_digest_67 : decode cX5_digest 67 = .ok (.lstore_n 1, 1) := by decide +kernel
theorem dX5_digest_68 : decode cX5_digest 68 = .ok (.iinc 3 1, 3) := by decide +kernel
theorem dX5_digest_71 : decode cX5_digest 71 = .ok (.goto (-38), 3) := by decide +kernel
theorem dX5_digest_74 : decode cX5_digest 74 = .ok (.lload_n 1, 1) := by decide +kernel
theorem dX5_digest_75 : decode cX5_digest 75 = .ok (.lreturn, 1) := by decide +kernel
theorem dX5_isName_0 : decode cX5_isName 0 = .ok (.iload_n 0, 1) := by decide +kernel
theorem dX5_isName_1 : decode cX5_isName 1 = .ok (.ifCond .lt 13, 3) := by decide +kernel
theorem dX5_isName_4 : decode cX5_isName 4 = .ok (.iload_n 0, 1) := by decide +kernel
theorem dX5_isName_5 : decode cX5_isName 5 = .ok (.bipush 8, 2) := by decide +kernel
theorem dX5_isName_7 : decode cX5_isName 7 = .ok (.if_icmp .ge 7, 3) := by decide +kernel
theorem dX5_isName_10 : decode cX5_isName 10 = .ok (.iconst 1, 1) := by decide +kernel
theorem dX5_isName_11 : decode cX5_isName 11 = .ok (.goto 4, 3) := by decide +kernel
theorem dX5_isName_14 : decode cX5_isName 14 = .ok (.iconst 0, 1) := by decide +kernel
theorem dX5_isName_15 : decode cX5_isName 15 = .ok (.ireturn, 1) := by decide +kernel
theorem dX5_graphOf_0 : decode cX5_graphOf 0 = .ok (.iload_n 1, 1) := by decide +kernel
theorem dX5_graphOf_1 : decode cX5_graphOf 1 = .ok (.invokestatic 154, 3) := by decide +kernel
theorem dX5_graphOf_4 : decode cX5_graphOf 4 = .ok (.ifCond .eq 12, 3) := by decide +kernel
theorem dX5_graphOf_7 : decode cX5_graphOf 7 = .ok (.aload_n 0, 1) := by decide +kernel
theorem dX5_graphOf_8 : decode cX5_graphOf 8 = .ok (.getfield 15, 3) := by decide +kernel
theorem dX5_graphOf_11 : decode cX5_graphOf 11 = .ok (.iload_n 1, 1) := by decide +kernel
theorem dX5_graphOf_12 : decode cX5_graphOf 12 = .ok (.aaload, 1) := by decide +kernel
theorem dX5_graphOf_13 : decode cX5_graphOf 13 = .ok (.goto 4, 3) := by decide +kernel
theorem dX5_graphOf_16 : decode cX5_graphOf 16 = .ok (.aconst_null, 1) := by decide +kernel
theorem dX5_graphOf_17 : decode cX5_graphOf 17 = .ok (.areturn, 1) := by decide +kernel
theorem dX5_refuseBad_0 : decode cX5_refuseBad 0 = .ok (.aload_n 0, 1) := by decide +kernel
theorem dX5_refuseBad_1 : decode cX5_refuseBad 1 = .ok (.dup, 1) := by decide +kernel
theorem dX5_refuseBad_2 : decode cX5_refuseBad 2 = .ok (.getfield 214, 3) := by decide +kernel
theorem dX5_refuseBad_5 : decode cX5_refuseBad 5 = .ok (.iconst 1, 1) := by decide +kernel
theorem dX5_refuseBad_6 : decode cX5_refuseBad 6 = .ok (.iadd, 1) := by decide +kernel
theorem dX5_refuseBad_7 : decode cX5_refuseBad 7 = .ok (.putfield 214, 3) := by decide +kernel
theorem dX5_refuseBad_10 : decode cX5_refuseBad 10 = .ok (.bipush (-2), 2) := by decide +kernel
theorem dX5_refuseBad_12 : decode cX5_refuseBad 12 = .ok (.ireturn, 1) := by decide +kernel
theorem dX5_refuseNo_0 : decode cX5_refuseNo 0 = .ok (.aload_n 0, 1) := by decide +kernel
theorem dX5_refuseNo_1 : decode cX5_refuseNo 1 = .ok (.dup, 1) := by decide +kernel
theorem dX5_refuseNo_2 : decode cX5_refuseNo 2 = .ok (.getfield 217, 3) := by decide +kernel
theorem dX5_refuseNo_5 : decode cX5_refuseNo 5 = .ok (.iconst 1, 1) := by decide +kernel
theorem dX5_refuseNo_6 : decode cX5_refuseNo 6 = .ok (.iadd, 1) := by decide +kernel
theorem dX5_refuseNo_7 : decode cX5_refuseNo 7 = .ok (.putfield 217, 3) := by decide +kernel
theorem dX5_refuseNo_10 : decode cX5_refuseNo 10 = .ok (.bipush (-3), 2) := by decide +kernel
theorem dX5_refuseNo_12 : decode cX5_refuseNo 12 = .ok (.ireturn, 1) := by decide +kernel
theorem dX5_refuseFull_0 : decode cX5_refuseFull 0 = .ok (.aload_n 0, 1) := by decide +kernel
theorem dX5_refuseFull_1 : decode cX5_refuseFull 1 = .ok (.dup, 1) := by decide +kernel
theorem dX5_refuseFull_2 : decode cX5_refuseFull 2 = .ok (.getfield 220, 3) := by decide +kernel
theorem dX5_refuseFull_5 : decode cX5_refuseFull 5 = .ok (.iconst 1, 1) := by decide +kernel
theorem dX5_refuseFull_6 : decode cX5_refuseFull 6 = .ok (.iadd, 1) := by decide +kernel
theorem dX5_refuseFull_7 : decode cX5_refuseFull 7 = .ok (.putfield 220, 3) := by decide +kernel
theorem dX5_refuseFull_10 : decode cX5_refuseFull 10 = .ok (.bipush (-4), 2) := by decide +kernel
theorem dX5_refuseFull_12 : decode cX5_refuseFull 12 = .ok (.ireturn, 1) := by decide +kernel
theorem dX5_give_0 : decode cX5_give 0 = .ok (.aload_n 2, 1) := by decide +kernel
theorem dX5_give_1 : decode cX5_give 1 = .ok (.ifnonnull 8, 3) := by decide +kernel
theorem dX5_give_4 : decode cX5_give 4 = .ok (.aload_n 0, 1) := by decide +kernel
theorem dX5_give_5 : decode cX5_give 5 = .ok (.invokevirtual 61, 3) := by decide +kernel
theorem dX5_give_8 : decode cX5_give 8 = .ok (.ireturn, 1) := by decide +kernel
theorem dX5_give_9 : decode cX5_give 9 = .ok (.aload_n 0, 1) := by decide +kernel
theorem dX5_give_10 : decode cX5_give 10 = .ok (.invokevirtual 83, 3) := by decide +kernel
theorem dX5_give_13 : decode cX5_give 13 = .ok (.aload_n 0, 1) := by decide +kernel
theorem dX5_give_14 : decode cX5_give 14 = .ok (.getfield 15, 3) := by decide +kernel
theorem dX5_give_17 : decode cX5_give 17 = .ok (.iload_n 1, 1) := by decide +kernel
theorem dX5_give_18 : decode cX5_give 18 = .ok (.aload_n 2, 1) := by decide +kernel
theorem dX5_give_19 : decode cX5_give 19 = .ok (.aastore, 1) := by decide +kernel
theorem dX5_give_20 : decode cX5_give 20 = .ok (.aload_n 2, 1) := by decide +kernel
theorem dX5_give_21 : decode cX5_give 21 = .ok (.getfield 125, 3) := by decide +kernel
theorem dX5_give_24 : decode cX5_give 24 = .ok (.ireturn, 1) := by decide +kernel
theorem dX5_keepVersion_0 : decode cX5_keepVersion 0 = .ok (.iconst 0, 1) := by decide +kernel
theorem dX5_keepVersion_1 : decode cX5_keepVersion 1 = .ok (.istore_n 1, 1) := by decide +kernel
theorem dX5_keepVersion_2 : decode cX5_keepVersion 2 = .ok (.iload_n 1, 1) := by decide +kernel
theorem dX5_keepVersion_3 : decode cX5_keepVersion 3 = .ok (.bipush 8, 2) := by decide +kernel
theorem dX5_keepVersion_5 : decode cX5_keepVersion 5 = .ok (.if_icmp .ge 29, 3) := by decide +kernel
theorem dX5_keepVersion_8 : decode cX5_keepVersion 8 = .ok (.aload_n 0, 1) := by decide +kernel
theorem dX5_keepVersion_9 : decode cX5_keepVersion 9 = .ok (.getfield 22, 3) := by decide +kernel
theorem dX5_keepVersion_12 : decode cX5_keepVersion 12 = .ok (.aload_n 0, 1) := by decide +kernel
theorem dX5_keepVersion_13 : decode cX5_keepVersion 13 = .ok (.getfield 204, 3) := by decide +kernel
theorem dX5_keepVersion_16 : decode cX5_keepVersion 16 = .ok (.bipush 8, 2) := by decide +kernel
theorem dX5_keepVersion_18 : decode cX5_keepVersion 18 = .ok (.imul, 1) := by decide +kernel
theorem dX5_keepVersion_19 : decode cX5_keepVersion 19 = .ok (.iload_n 1, 1) := by decide +kernel
theorem dX5_keepVersion_20 : decode cX5_keepVersion 20 = .ok (.iadd, 1) := by decide +kernel
theorem dX5_keepVersion_21 : decode cX5_keepVersion 21 = .ok (.aload_n 0, 1) := by decide +kernel
theorem dX5_keepVersion_22 : decode cX5_keepVersion 22 = .ok (.getfield 15, 3) := by decide +kernel
theorem dX5_keepVersion_25 : decode cX5_keepVersion 25 = .ok (.iload_n 1, 1) := by decide +kernel
theorem dX5_keepVersion_26 : decode cX5_keepVersion 26 = .ok (.aaload, 1) := by decide +kernel
theorem dX5_keepVersion_27 : decode cX5_keepVersion 27 = .ok (.aastore, 1) := by decide +kernel
theorem dX5_keepVersion_28 : decode cX5_keepVersion 28 = .ok (.iinc 1 1, 3) := by decide +kernel
theorem dX5_keepVersion_31 : decode cX5_keepVersion 31 = .ok (.goto (-29), 3) := by decide +kernel
theorem dX5_keepVersion_34 : decode cX5_keepVersion 34 = .ok (.aload_n 0, 1) := by decide +kernel
theorem dX5_keepVersion_35 : decode cX5_keepVersion 35 = .ok (.aload_n 0, 1) := by decide +kernel
theorem dX5_keepVersion_36 : decode cX5_keepVersion 36 = .ok (.getfield 204, 3) := by decide +kernel
theorem dX5_keepVersion_39 : decode cX5_keepVersion 39 = .ok (.iconst 1, 1) := by decide +kernel
theorem dX5_keepVersion_40 : decode cX5_keepVersion 40 = .ok (.iadd, 1) := by decide +kernel
theorem dX5_keepVersion_41 : decode cX5_keepVersion 41 = .ok (.bipush 8, 2) := by decide +kernel
theorem dX5_keepVersion_43 : decode cX5_keepVersion 43 = .ok (.if_icmp .ne 7, 3) := by decide +kernel
theorem dX5_keepVersion_46 : decode cX5_keepVersion 46 = .ok (.iconst 0, 1) := by decide +kernel
theorem dX5_keepVersion_47 : decode cX5_keepVersion 47 = .ok (.goto 9, 3) := by decide +kernel
theorem dX5_keepVersion_50 : decode cX5_keepVersion 50 = .ok (.aload_n 0, 1) := by decide +kernel
theorem dX5_keepVersion_51 : decode cX5_keepVersion 51 = .ok (.getfield 204, 3) := by decide +kernel
theorem dX5_keepVersion_54 : decode cX5_keepVersion 54 = .ok (.iconst 1, 1) := by decide +kernel
theorem dX5_keepVersion_55 : decode cX5_keepVersion 55 = .ok (.iadd, 1) := by decide +kernel
theorem dX5_keepVersion_56 : decode cX5_keepVersion 56 = .ok (.putfield 204, 3) := by decide +kernel
theorem dX5_keepVersion_59 : decode cX5_keepVersion 59 = .ok (.aload_n 0, 1) := by decide +kernel
theorem dX5_keepVersion_60 : decode cX5_keepVersion 60 = .ok (.bipush 8, 2) := by decide +kernel
theorem dX5_keepVersion_62 : decode cX5_keepVersion 62 = .ok (.aload_n 0, 1) := by decide +kernel
theorem dX5_keepVersion_63 : decode cX5_keepVersion 63 = .ok (.getfield 201, 3) := by decide +kernel
theorem dX5_keepVersion_66 : decode cX5_keepVersion 66 = .ok (.iconst 1, 1) := by decide +kernel
theorem dX5_keepVersion_67 : decode cX5_keepVersion 67 = .ok (.iadd, 1) := by decide +kernel
theorem dX5_keepVersion_68 : decode cX5_keepVersion 68 = .ok (.invokestatic 223, 3) := by decide +kernel
theorem dX5_keepVersion_71 : decode cX5_keepVersion 71 = .ok (.putfield 201, 3) := by decide +kernel
theorem dX5_keepVersion_74 : decode cX5_keepVersion 74 = .ok (.return_, 1) := by decide +kernel
theorem dX5_reportOf_0 : decode cX5_reportOf 0 = .ok (.iload_n 1, 1) := by decide +kernel
theorem dX5_reportOf_1 : decode cX5_reportOf 1 = .ok (.tableswitch 69 0 5 #[39, 44, 49, 54, 59, 64], 39) := by decide +kernel
theorem dX5_reportOf_40 : decode cX5_reportOf 40 = .ok (.aload_n 0, 1) := by decide +kernel
theorem dX5_reportOf_41 : decode cX5_reportOf 41 = .ok (.getfield 214, 3) := by decide +kernel
theorem dX5_reportOf_44 : decode cX5_reportOf 44 = .ok (.ireturn, 1) := by decide +kernel
theorem dX5_reportOf_45 : decode cX5_reportOf 45 = .ok (.aload_n 0, 1) := by decide +kernel
theorem dX5_reportOf_46 : decode cX5_reportOf 46 = .ok (.getfield 217, 3) := by decide +kernel
theorem dX5_reportOf_49 : decode cX5_reportOf 49 = .ok (.ireturn, 1) := by decide +kernel
theorem dX5_reportOf_50 : decode cX5_reportOf 50 = .ok (.aload_n 0, 1) := by decide +kernel
theorem dX5_reportOf_51 : decode cX5_reportOf 51 = .ok (.getfield 220, 3) := by decide +kernel
theorem dX5_reportOf_54 : decode cX5_reportOf 54 = .ok (.ireturn, 1) := by decide +kernel
theorem dX5_reportOf_55 : decode cX5_reportOf 55 = .ok (.aload_n 0, 1) := by decide +kernel
theorem dX5_reportOf_56 : decode cX5_reportOf 56 = .ok (.getfield 201, 3) := by decide +kernel
theorem dX5_reportOf_59 : decode cX5_reportOf 59 = .ok (.ireturn, 1) := by decide +kernel
theorem dX5_reportOf_60 : decode cX5_reportOf 60 = .ok (.aload_n 0, 1) := by decide +kernel
theorem dX5_reportOf_61 : decode cX5_reportOf 61 = .ok (.getfield 57, 3) := by decide +kernel
theorem dX5_reportOf_64 : decode cX5_reportOf 64 = .ok (.ireturn, 1) := by decide +kernel
theorem dX5_reportOf_65 : decode cX5_reportOf 65 = .ok (.aload_n 0, 1) := by decide +kernel
theorem dX5_reportOf_66 : decode cX5_reportOf 66 = .ok (.getfield 89, 3) := by decide +kernel
theorem dX5_reportOf_69 : decode cX5_reportOf 69 = .ok (.ireturn, 1) := by decide +kernel
theorem dX5_reportOf_70 : decode cX5_reportOf 70 = .ok (.aload_n 0, 1) := by decide +kernel
theorem dX5_reportOf_71 : decode cX5_reportOf 71 = .ok (.invokevirtual 228, 3) := by decide +kernel
theorem dX5_reportOf_74 : decode cX5_reportOf 74 = .ok (.ireturn, 1) := by decide +kernel
theorem dX5_nameBits_0 : decode cX5_nameBits 0 = .ok (.iconst 0, 1) := by decide +kernel
theorem dX5_nameBits_1 : decode cX5_nameBits 1 = .ok (.istore_n 1, 1) := by decide +kernel
theorem dX5_nameBits_2 : decode cX5_nameBits 2 = .ok (.iconst 0, 1) := by decide +kernel
theorem dX5_nameBits_3 : decode cX5_nameBits 3 = .ok (.istore_n 2, 1) := by decide +kernel
theorem dX5_nameBits_4 : decode cX5_nameBits 4 = .ok (.iload_n 2, 1) := by decide +kernel
theorem dX5_nameBits_5 : decode cX5_nameBits 5 = .ok (.bipush 8, 2) := by decide +kernel
theorem dX5_nameBits_7 : decode cX5_nameBits 7 = .ok (.if_icmp .ge 24, 3) := by decide +kernel
theorem dX5_nameBits_10 : decode cX5_nameBits 10 = .ok (.aload_n 0, 1) := by decide +kernel
theorem dX5_nameBits_11 : decode cX5_nameBits 11 = .ok (.getfield 15, 3) := by decide +kernel
theorem dX5_nameBits_14 : decode cX5_nameBits 14 = .ok (.iload_n 2, 1) := by decide +kernel
theorem dX5_nameBits_15 : decode cX5_nameBits 15 = .ok (.aaload, 1) := by decide +kernel
theorem dX5_nameBits_16 : decode cX5_nameBits 16 = .ok (.ifnull 9, 3) := by decide +kernel
theorem dX5_nameBits_19 : decode cX5_nameBits 19 = .ok (.iload_n 1, 1) := by decide +kernel
theorem dX5_nameBits_20 : decode cX5_nameBits 20 = .ok (.iconst 1, 1) := by decide +kernel
theorem dX5_nameBits_21 : decode cX5_nameBits 21 = .ok (.iload_n 2, 1) := by decide +kernel
theorem dX5_nameBits_22 : decode cX5_nameBits 22 = .ok (.ishl, 1) := by decide +kernel
theorem dX5_nameBits_23 : decode cX5_nameBits 23 = .ok (.ior, 1) := by decide +kernel
theorem dX5_nameBits_24 : decode cX5_nameBits 24 = .ok (.istore_n 1, 1) := by decide +kernel
theorem dX5_nameBits_25 : decode cX5_nameBits 25 = .ok (.iinc 2 1, 3) := by decide +kernel
theorem dX5_nameBits_28 : decode cX5_nameBits 28 = .ok (.goto (-24), 3) := by decide +kernel
theorem dX5_nameBits_31 : decode cX5_nameBits 31 = .ok (.iload_n 1, 1) := by decide +kernel
theorem dX5_nameBits_32 : decode cX5_nameBits 32 = .ok (.ireturn, 1) := by decide +kernel
theorem dX5_partsOf_0 : decode cX5_partsOf 0 = .ok (.iload_n 0, 1) := by decide +kernel
theorem dX5_partsOf_1 : decode cX5_partsOf 1 = .ok (.iconst 4, 1) := by decide +kernel
theorem dX5_partsOf_2 : decode cX5_partsOf 2 = .ok (.if_icmp .ge 5, 3) := by decide +kernel
theorem dX5_partsOf_5 : decode cX5_partsOf 5 = .ok (.iconst 0, 1) := by decide +kernel
theorem dX5_partsOf_6 : decode cX5_partsOf 6 = .ok (.ireturn, 1) := by decide +kernel
theorem dX5_partsOf_7 : decode cX5_partsOf 7 = .ok (.iload_n 0, 1) := by decide +kernel
theorem dX5_partsOf_8 : decode cX5_partsOf 8 = .ok (.iconst 4, 1) := by decide +kernel
theorem dX5_partsOf_9 : decode cX5_partsOf 9 = .ok (.if_icmp .ne 7, 3) := by decide +kernel
theorem dX5_partsOf_12 : decode cX5_partsOf 12 = .ok (.iconst 1, 1) := by decide +kernel
theorem dX5_partsOf_13 : decode cX5_partsOf 13 = .ok (.goto 4, 3) := by decide +kernel
theorem dX5_partsOf_16 : decode cX5_partsOf 16 = .ok (.iconst 2, 1) := by decide +kernel
theorem dX5_partsOf_17 : decode cX5_partsOf 17 = .ok (.ireturn, 1) := by decide +kernel
theorem dX5_fillRow_0 : decode cX5_fillRow 0 = .ok (.iload_n 1, 1) := by decide +kernel
theorem dX5_fillRow_1 : decode cX5_fillRow 1 = .ok (.aload_n 0, 1) := by decide +kernel
theorem dX5_fillRow_2 : decode cX5_fillRow 2 = .ok (.arraylength, 1) := by decide +kernel
theorem dX5_fillRow_3 : decode cX5_fillRow 3 = .ok (.invokestatic 223, 3) := by decide +kernel
theorem dX5_fillRow_6 : decode cX5_fillRow 6 = .ok (.istore_n 3, 1) := by decide +kernel
theorem dX5_fillRow_7 : decode cX5_fillRow 7 = .ok (.iconst 0, 1) := by decide +kernel
theorem dX5_fillRow_8 : decode cX5_fillRow 8 = .ok (.istore 4, 2) := by decide +kernel
theorem dX5_fillRow_10 : decode cX5_fillRow 10 = .ok (.iload 4, 2) := by decide +kernel
theorem dX5_fillRow_12 : decode cX5_fillRow 12 = .ok (.iload_n 3, 1) := by decide +kernel
theorem dX5_fillRow_13 : decode cX5_fillRow 13 = .ok (.if_icmp .ge 14, 3) := by decide +kernel
theorem dX5_fillRow_16 : decode cX5_fillRow 16 = .ok (.aload_n 0, 1) := by decide +kernel
theorem dX5_fillRow_17 : decode cX5_fillRow 17 = .ok (.iload 4, 2) := by decide +kernel
theorem dX5_fillRow_19 : decode cX5_fillRow 19 = .ok (.iload_n 2, 1) := by decide +kernel
theorem dX5_fillRow_20 : decode cX5_fillRow 20 = .ok (.iastore, 1) := by decide +kernel
theorem dX5_fillRow_21 : decode cX5_fillRow 21 = .ok (.iinc 4 1, 3) := by decide +kernel
theorem dX5_fillRow_24 : decode cX5_fillRow 24 = .ok (.goto (-14), 3) := by decide +kernel
theorem dX5_fillRow_27 : decode cX5_fillRow 27 = .ok (.return_, 1) := by decide +kernel
theorem dX6_init_0 : decode cX6_init 0 = .ok (.aload_n 0, 1) := by decide +kernel
theorem dX6_init_1 : decode cX6_init 1 = .ok (.invokespecial 1, 3) := by decide +kernel
theorem dX6_init_4 : decode cX6_init 4 = .ok (.aload_n 0, 1) := by decide +kernel
theorem dX6_init_5 : decode cX6_init 5 = .ok (.bipush 8, 2) := by decide +kernel
theorem dX6_init_7 : decode cX6_init 7 = .ok (.newarray .int, 2) := by decide +kernel
theorem dX6_init_9 : decode cX6_init 9 = .ok (.putfield 7, 3) := by decide +kernel
theorem dX6_init_12 : decode cX6_init 12 = .ok (.aload_n 0, 1) := by decide +kernel
theorem dX6_init_13 : decode cX6_init 13 = .ok (.sipush 320, 3) := by decide +kernel
theorem dX6_init_16 : decode cX6_init 16 = .ok (.newarray .int, 2) := by decide +kernel
theorem dX6_init_18 : decode cX6_init 18 = .ok (.putfield 13, 3) := by decide +kernel
theorem dX6_init_21 : decode cX6_init 21 = .ok (.aload_n 0, 1) := by decide +kernel
theorem dX6_init_22 : decode cX6_init 22 = .ok (.sipush 2560, 3) := by decide +kernel
theorem dX6_init_25 : decode cX6_init 25 = .ok (.newarray .int, 2) := by decide +kernel
theorem dX6_init_27 : decode cX6_init 27 = .ok (.putfield 16, 3) := by decide +kernel
theorem dX6_init_30 : decode cX6_init 30 = .ok (.aload_n 0, 1) := by decide +kernel
theorem dX6_init_31 : decode cX6_init 31 = .ok (.bipush 64, 2) := by decide +kernel
theorem dX6_init_33 : decode cX6_init 33 = .ok (.newarray .int, 2) := by decide +kernel
theorem dX6_init_35 : decode cX6_init 35 = .ok (.putfield 19, 3) := by decide +kernel
theorem dX6_init_38 : decode cX6_init 38 = .ok (.aload_n 0, 1) := by decide +kernel
theorem dX6_init_39 : decode cX6_init 39 = .ok (.iconst 3, 1) := by decide +kernel
theorem dX6_init_40 : decode cX6_init 40 = .ok (.newarray .int, 2) := by decide +kernel
theorem dX6_init_42 : decode cX6_init 42 = .ok (.putfield 22, 3) := by decide +kernel
theorem dX6_init_45 : decode cX6_init 45 = .ok (.aload_n 0, 1) := by decide +kernel
theorem dX6_init_46 : decode cX6_init 46 = .ok (.bipush 120, 2) := by decide +kernel
theorem dX6_init_48 : decode cX6_init 48 = .ok (.newarray .int, 2) := by decide +kernel
theorem dX6_init_50 : decode cX6_init 50 = .ok (.putfield 25, 3) := by decide +kernel
theorem dX6_init_53 : decode cX6_init 53 = .ok (.aload_n 0, 1) := by decide +kernel
theorem dX6_init_54 : decode cX6_init 54 = .ok (.sipush 3400, 3) := by decide +kernel
theorem dX6_init_57 : decode cX6_init 57 = .ok (.newarray .int, 2) := by decide +kernel
theorem dX6_init_59 : decode cX6_init 59 = .ok (.putfield 28, 3) := by decide +kernel
theorem dX6_init_62 : decode cX6_init 62 = .ok (.aload_n 0, 1) := by decide +kernel
theorem dX6_init_63 : decode cX6_init 63 = .ok (.sipush 3400, 3) := by decide +kernel
theorem dX6_init_66 : decode cX6_init 66 = .ok (.newarray .int, 2) := by decide +kernel
theorem dX6_init_68 : decode cX6_init 68 = .ok (.putfield 31, 3) := by decide +kernel
theorem dX6_init_71 : decode cX6_init 71 = .ok (.aload_n 0, 1) := by decide +kernel
theorem dX6_init_72 : decode cX6_init 72 = .ok (.sipush 3400, 3) := by decide +kernel
theorem dX6_init_75 : decode cX6_init 75 = .ok (.newarray .int, 2) := by decide +kernel
theorem dX6_init_77 : decode cX6_init 77 = .ok (.putfield 34, 3) := by decide +kernel
theorem dX6_init_80 : decode cX6_init 80 = .ok (.aload_n 0, 1) := by decide +kernel
theorem dX6_init_81 : decode cX6_init 81 = .ok (.sipush 3400, 3) := by decide +kernel
theorem dX6_init_84 : decode cX6_init 84 = .ok (.newarray .int, 2) := by decide +kernel
theorem dX6_init_86 : decode cX6_init 86 = .ok (.putfield 37, 3) := by decide +kernel
theorem dX6_init_89 : decode cX6_init 89 = .ok (.aload_n 0, 1) := by decide +kernel
theorem dX6_init_90 : decode cX6_init 90 = .ok (.sipush 3400, 3) := by decide +kernel
theorem dX6_init_93 : decode cX6_init 93 = .ok (.newarray .int, 2) := by decide +kernel
theorem dX6_init_95 : decode cX6_init 95 = .ok (.putfield 40, 3) := by decide +kernel
theorem dX6_init_98 : decode cX6_init 98 = .ok (.aload_n 0, 1) := by decide +kernel
theorem dX6_init_99 : decode cX6_init 99 = .ok (.bipush 90, 2) := by decide +kernel
theorem dX6_init_101 : decode cX6_init 101 = .ok (.newarray .int, 2) := by decide +kernel
theorem dX6_init_103 : decode cX6_init 103 = .ok (.putfield 43, 3) := by decide +kernel
theorem dX6_init_106 : decode cX6_init 106 = .ok (.aload_n 0, 1) := by decide +kernel
theorem dX6_init_107 : decode cX6_init 107 = .ok (.bipush 41, 2) := by decide +kernel
theorem dX6_init_109 : decode cX6_init 109 = .ok (.newarray .int, 2) := by decide +kernel
theorem dX6_init_111 : decode cX6_init 111 = .ok (.putfield 46, 3) := by decide +kernel
theorem dX6_init_114 : decode cX6_init 114 = .ok (.aload_n 0, 1) := by decide +kernel
theorem dX6_init_115 : decode cX6_init 115 = .ok (.sipush 6400, 3) := by decide +kernel
theorem dX6_init_118 : decode cX6_init 118 = .ok (.newarray .int, 2) := by decide +kernel
theorem dX6_init_120 : decode cX6_init 120 = .ok (.putfield 49, 3) := by decide +kernel
theorem dX6_init_123 : decode cX6_init 123 = .ok (.aload_n 0, 1) := by decide +kernel
theorem dX6_init_124 : decode cX6_init 124 = .ok (.sipush 6400, 3) := by decide +kernel
theorem dX6_init_127 : decode cX6_init 127 = .ok (.newarray .int, 2) := by decide +kernel
theorem dX6_init_129 : decode cX6_init 129 = .ok (.putfield 52, 3) := by decide +kernel
theorem dX6_init_132 : decode cX6_init 132 = .ok (.aload_n 0, 1) := by decide +kernel
theorem dX6_init_133 : decode cX6_init 133 = .ok (.sipush 6400, 3) := by decide +kernel
theorem dX6_init_136 : decode cX6_init 136 = .ok (.newarray .int, 2) := by decide +kernel
theorem dX6_init_138 : decode cX6_init 138 = .ok (.putfield 55, 3) := by decide +kernel
theorem dX6_init_141 : decode cX6_init 141 = .ok (.aload_n 0, 1) := by decide +kernel
theorem dX6_init_142 : decode cX6_init 142 = .ok (.sipush 6400, 3) := by decide +kernel
theorem dX6_init_145 : decode cX6_init 145 = .ok (.newarray .int, 2) := by decide +kernel
theorem dX6_init_147 : decode cX6_init 147 = .ok (.putfield 58, 3) := by decide +kernel
theorem dX6_init_150 : decode cX6_init 150 = .ok (.aload_n 0, 1) := by decide +kernel
theorem dX6_init_151 : decode cX6_init 151 = .ok (.bipush 8, 2) := by decide +kernel
theorem dX6_init_153 : decode cX6_init 153 = .ok (.newarray .int, 2) := by decide +kernel
theorem dX6_init_155 : decode cX6_init 155 = .ok (.putfield 61, 3) := by decide +kernel
theorem dX6_init_158 : decode cX6_init 158 = .ok (.aload_n 0, 1) := by decide +kernel
theorem dX6_init_159 : decode cX6_init 159 = .ok (.bipush 8, 2) := by decide +kernel
theorem dX6_init_161 : decode cX6_init 161 = .ok (.newarray .int, 2) := by decide +kernel
theorem dX6_init_163 : decode cX6_init 163 = .ok (.putfield 64, 3) := by decide +kernel
theorem dX6_init_166 : decode cX6_init 166 = .ok (.aload_n 0, 1) := by decide +kernel
theorem dX6_init_167 : decode cX6_init 167 = .ok (.sipush 130, 3) := by decide +kernel
theorem dX6_init_170 : decode cX6_init 170 = .ok (.newarray .int, 2) := by decide +kernel
theorem dX6_init_172 : decode cX6_init 172 = .ok (.putfield 67, 3) := by decide +kernel
theorem dX6_init_175 : decode cX6_init 175 = .ok (.aload_n 0, 1) := by decide +kernel
theorem dX6_init_176 : decode cX6_init 176 = .ok (.sipush 130, 3) := by decide +kernel
theorem dX6_init_179 : decode cX6_init 179 = .ok (.newarray .int, 2) := by decide +kernel
theorem dX6_init_181 : decode cX6_init 181 = .ok (.putfield 70, 3) := by decide +kernel
theorem dX6_init_184 : decode cX6_init 184 = .ok (.aload_n 0, 1) := by decide +kernel
theorem dX6_init_185 : decode cX6_init 185 = .ok (.sipush 130, 3) := by decide +kernel
theorem dX6_init_188 : decode cX6_init 188 = .ok (.newarray .int, 2) := by decide +kernel
theorem dX6_init_190 : decode cX6_init 190 = .ok (.putfield 73, 3) := by decide +kernel
theorem dX6_init_193 : decode cX6_init 193 = .ok (.aload_n 0, 1) := by decide +kernel
theorem dX6_init_194 : decode cX6_init 194 = .ok (.sipush 320, 3) := by decide +kernel
theorem dX6_init_197 : decode cX6_init 197 = .ok (.newarray .int, 2) := by decide +kernel
theorem dX6_init_199 : decode cX6_init 199 = .ok (.putfield 76, 3) := by decide +kernel
theorem dX6_init_202 : decode cX6_init 202 = .ok (.aload_n 0, 1) := by decide +kernel
theorem dX6_init_203 : decode cX6_init 203 = .ok (.bipush 8, 2) := by decide +kernel
theorem dX6_init_205 : decode cX6_init 205 = .ok (.newarray .int, 2) := by decide +kernel
theorem dX6_init_207 : decode cX6_init 207 = .ok (.putfield 79, 3) := by decide +kernel
theorem dX6_init_210 : decode cX6_init 210 = .ok (.aload_n 0, 1) := by decide +kernel
theorem dX6_init_211 : decode cX6_init 211 = .ok (.bipush 40, 2) := by decide +kernel
theorem dX6_init_213 : decode cX6_init 213 = .ok (.newarray .long, 2) := by decide +kernel
theorem dX6_init_215 : decode cX6_init 215 = .ok (.putfield 82, 3) := by decide +kernel
theorem dX6_init_218 : decode cX6_init 218 = .ok (.return_, 1) := by decide +kernel
theorem dX6_in_0 : decode cX6_in 0 = .ok (.iload_n 0, 1) := by decide +kernel
theorem dX6_in_1 : decode cX6_in 1 = .ok (.iload_n 1, 1) := by decide +kernel
theorem dX6_in_2 : decode cX6_in 2 = .ok (.if_icmp .lt 12, 3) := by decide +kernel
theorem dX6_in_5 : decode cX6_in 5 = .ok (.iload_n 0, 1) := by decide +kernel
theorem dX6_in_6 : decode cX6_in 6 = .ok (.iload_n 2, 1) := by decide +kernel
theorem dX6_in_7 : decode cX6_in 7 = .ok (.if_icmp .gt 7, 3) := by decide +kernel
theorem dX6_in_10 : decode cX6_in 10 = .ok (.iconst 1, 1) := by decide +kernel
theorem dX6_in_11 : decode cX6_in 11 = .ok (.goto 4, 3) := by decide +kernel
theorem dX6_in_14 : decode cX6_in 14 = .ok (.iconst 0, 1) := by decide +kernel
theorem dX6_in_15 : decode cX6_in 15 = .ok (.ireturn, 1) := by decide +kernel
theorem dX6_refuses_0 : decode cX6_refuses 0 = .ok (.aload_n 0, 1) := by decide +kernel
theorem dX6_refuses_1 : decode cX6_refuses 1 = .ok (.getfield 22, 3) := by decide +kernel
theorem dX6_refuses_4 : decode cX6_refuses 4 = .ok (.bipush (-2), 2) := by decide +kernel
theorem dX6_refuses_6 : decode cX6_refuses 6 = .ok (.iload_n 1, 1) := by decide +kernel
theorem dX6_refuses_7 : decode cX6_refuses 7 = .ok (.isub, 1) := by decide +kernel
theorem dX6_refuses_8 : decode cX6_refuses 8 = .ok (.dup2, 1) := by decide +kernel
theorem dX6_refuses_9 : decode cX6_refuses 9 = .ok (.iaload, 1) := by decide +kernel
theorem dX6_refuses_10 : decode cX6_refuses 10 = .ok (.iconst 1, 1) := by decide +kernel
theorem dX6_refuses_11 : decode cX6_refuses 11 = .ok (.iadd, 1) := by decide +kernel
theorem dX6_refuses_12 : decode cX6_refuses 12 = .ok (.iastore, 1) := by decide +kernel
theorem dX6_refuses_13 : decode cX6_refuses 13 = .ok (.iload_n 1, 1) := by decide +kernel
theorem dX6_refuses_14 : decode cX6_refuses 14 = .ok (.ireturn, 1) := by decide +kernel
theorem dX6_isName_0 : decode cX6_isName 0 = .ok (.iload_n 0, 1) := by decide +kernel
theorem dX6_isName_1 : decode cX6_isName 1 = .ok (.iconst 0, 1) := by decide +kernel
theorem dX6_isName_2 : decode cX6_isName 2 = .ok (.bipush 7, 2) := by decide +kernel
theorem dX6_isName_4 : decode cX6_isName 4 = .ok (.invokestatic 86, 3) := by decide +kernel
theorem dX6_isName_7 : decode cX6_isName 7 = .ok (.ireturn, 1) := by decide +kernel
theorem dX6_has_0 : decode cX6_has 0 = .ok (.iload_n 1, 1) := by decide +kernel
theorem dX6_has_1 : decode cX6_has 1 = .ok (.invokestatic 90, 3) := by decide +kernel
theorem dX6_has_4 : decode cX6_has 4 = .ok (.ifCond .eq 16, 3) := by decide +kernel
theorem dX6_has_7 : decode cX6_has 7 = .ok (.aload_n 0, 1) := by decide +kernel
theorem dX6_has_8 : decode cX6_has 8 = .ok (.getfield 7, 3) := by decide +kernel
theorem dX6_has_11 : decode cX6_has 11 = .ok (.iload_n 1, 1) := by decide +kernel
theorem dX6_has_12 : decode cX6_has 12 = .ok (.iaload, 1) := by decide +kernel
theorem dX6_has_13 : decode cX6_has 13 = .ok (.ifCond .le 7, 3) := by decide +kernel
theorem dX6_has_16 : decode cX6_has 16 = .ok (.iconst 1, 1) := by decide +kernel
theorem dX6_has_17 : decode cX6_has 17 = .ok (.goto 4, 3) := by decide +kernel
theorem dX6_has_20 : decode cX6_has 20 = .ok (.iconst 0, 1) := by decide +kernel
theorem dX6_has_21 : decode cX6_has 21 = .ok (.ireturn, 1) := by decide +kernel
theorem dX6_node_0 : decode cX6_node 0 = .ok (.iload_n 0, 1) := by decide +kernel
theorem dX6_node_1 : decode cX6_node 1 = .ok (.iload_n 1, 1) := by decide +kernel
theorem dX6_node_2 : decode cX6_node 2 = .ok (.iconst 3, 1) := by decide +kernel
theorem dX6_node_3 : decode cX6_node 3 = .ok (.ishl, 1) := by decide +kernel
theorem dX6_node_4 : decode cX6_node 4 = .ok (.ior, 1) := by decide +kernel
theorem dX6_node_5 : decode cX6_node 5 = .ok (.iload_n 2, 1) := by decide +kernel
theorem dX6_node_6 : decode cX6_node 6 = .ok (.bipush 15, 2) := by decide +kernel
theorem dX6_node_8 : decode cX6_node 8 = .ok (.ishl, 1) := by decide +kernel
theorem dX6_node_9 : decode cX6_node 9 = .ok (.ior, 1) := by decide +kernel
theorem dX6_node_10 : decode cX6_node 10 = .ok (.ireturn, 1) := by decide +kernel
theorem dX6_headOf_0 : decode cX6_headOf 0 = .ok (.iload_n 0, 1) := by decide +kernel
theorem dX6_headOf_1 : decode cX6_headOf 1 = .ok (.bipush 7, 2) := by decide +kernel
theorem dX6_headOf_3 : decode cX6_headOf 3 = .ok (.iand, 1) := by decide +kernel
theorem dX6_headOf_4 : decode cX6_headOf 4 = .ok (.ireturn, 1) := by decide +kernel
theorem dX6_partOf_0 : decode cX6_partOf 0 = .ok (.iload_n 1, 1) := by decide +kernel
theorem dX6_partOf_1 : decode cX6_partOf 1 = .ok (.ifCond .ne 13, 3) := by decide +kernel
theorem dX6_partOf_4 : decode cX6_partOf 4 = .ok (.iload_n 0, 1) := by decide +kernel
theorem dX6_partOf_5 : decode cX6_partOf 5 = .ok (.iconst 3, 1) := by decide +kernel
theorem dX6_partOf_6 : decode cX6_partOf 6 = .ok (.ishr, 1) := by decide +kernel
theorem dX6_partOf_7 : decode cX6_partOf 7 = .ok (.sipush 4095, 3) := by decide +kernel
theorem dX6_partOf_10 : decode cX6_partOf 10 = .ok (.iand, 1) := by decide +kernel
theorem dX6_partOf_11 : decode cX6_partOf 11 = .ok (.goto 11, 3) := by decide +kernel
theorem dX6_partOf_14 : decode cX6_partOf 14 = .ok (.iload_n 0, 1) := by decide +kernel
theorem dX6_partOf_15 : decode cX6_partOf 15 = .ok (.bipush 15, 2) := by decide +kernel
theorem dX6_partOf_17 : decode cX6_partOf 17 = .ok (.ishr, 1) := by decide +kernel
theorem dX6_partOf_18 : decode cX6_partOf 18 = .ok (.sipush 4095, 3) := by decide +kernel
theorem dX6_partOf_21 : decode cX6_partOf 21 = .ok (.iand, 1) := by decide +kernel
theorem dX6_partOf_22 : decode cX6_partOf 22 = .ok (.ireturn, 1) := by decide +kernel
theorem dX6_parts_0 : decode cX6_parts 0 = .ok (.iload_n 0, 1) := by decide +kernel
theorem dX6_parts_1 : decode cX6_parts 1 = .ok (.iconst 4, 1) := by decide +kernel
theorem dX6_parts_2 : decode cX6_parts 2 = .ok (.if_icmp .ne 7, 3) := by decide +kernel
theorem dX6_parts_5 : decode cX6_parts 5 = .ok (.iconst 1, 1) := by decide +kernel
theorem dX6_parts_6 : decode cX6_parts 6 = .ok (.goto 19, 3) := by decide +kernel
theorem dX6_parts_9 : decode cX6_parts 9 = .ok (.iload_n 0, 1) := by decide +kernel
theorem dX6_parts_10 : decode cX6_parts 10 = .ok (.iconst 5, 1) := by decide +kernel
theorem dX6_parts_11 : decode cX6_parts 11 = .ok (.if_icmp .eq 9, 3) := by decide +kernel
theorem dX6_parts_14 : decode cX6_parts 14 = .ok (.iload_n 0, 1) := by decide +kernel
theorem dX6_parts_15 : decode cX6_parts 15 = .ok (.bipush 6, 2) := by decide +kernel
theorem dX6_parts_17 : decode cX6_parts 17 = .ok (.if_icmp .ne 7, 3) := by decide +kernel
theorem dX6_parts_20 : decode cX6_parts 20 = .ok (.iconst 2, 1) := by decide +kernel
theorem dX6_parts_21 : decode cX6_parts 21 = .ok (.goto 4, 3) := by decide +kernel
theorem dX6_parts_24 : decode cX6_parts 24 = .ok (.iconst 0, 1) := by decide +kernel
theorem dX6_parts_25 : decode cX6_parts 25 = .ok (.ireturn, 1) := by decide +kernel
theorem dX6_adds_0 : decode cX6_adds 0 = .ok (.aload_n 0, 1) := by decide +kernel
theorem dX6_adds_1 : decode cX6_adds 1 = .ok (.getfield 28, 3) := by decide +kernel
theorem dX6_adds_4 : decode cX6_adds 4 = .ok (.aload_n 0, 1) := by decide +kernel
theorem dX6_adds_5 : decode cX6_adds 5 = .ok (.getfield 94, 3) := by decide +kernel
theorem dX6_adds_8 : decode cX6_adds 8 = .ok (.iload_n 1, 1) := by decide +kernel
theorem dX6_adds_9 : decode cX6_adds 9 = .ok (.iload_n 2, 1) := by decide +kernel
theorem dX6_adds_10 : decode cX6_adds 10 = .ok (.iload_n 3, 1) := by decide +kernel
theorem dX6_adds_11 : decode cX6_adds 11 = .ok (.invokestatic 98, 3) := by decide +kernel
theorem dX6_adds_14 : decode cX6_adds 14 = .ok (.iastore, 1) := by decide +kernel
theorem dX6_adds_15 : decode cX6_adds 15 = .ok (.aload_n 0, 1) := by decide +kernel
theorem dX6_adds_16 : decode cX6_adds 16 = .ok (.dup, 1) := by decide +kernel
theorem dX6_adds_17 : decode cX6_adds 17 = .ok (.getfield 94, 3) := by decide +kernel
theorem dX6_adds_20 : decode cX6_adds 20 = .ok (.iconst 1, 1) := by decide +kernel
theorem dX6_adds_21 : decode cX6_adds 21 = .ok (.iadd, 1) := by decide +kernel
theorem dX6_adds_22 : decode cX6_adds 22 = .ok (.putfield 94, 3) := by decide +kernel
theorem dX6_adds_25 : decode cX6_adds 25 = .ok (.aload_n 0, 1) := by decide +kernel
theorem dX6_adds_26 : decode cX6_adds 26 = .ok (.getfield 94, 3) := by decide +kernel
theorem dX6_adds_29 : decode cX6_adds 29 = .ok (.iconst 1, 1) := by decide +kernel
theorem dX6_adds_30 : decode cX6_adds 30 = .ok (.isub, 1) := by decide +kernel
theorem dX6_adds_31 : decode cX6_adds 31 = .ok (.ireturn, 1) := by decide +kernel
theorem dX6_loads_0 : decode cX6_loads 0 = .ok (.aload_n 0, 1) := by decide +kernel
theorem dX6_loads_1 : decode cX6_loads 1 = .ok (.getfield 94, 3) := by decide +kernel
theorem dX6_loads_4 : decode cX6_loads 4 = .ok (.istore_n 2, 1) := by decide +kernel
theorem dX6_loads_5 : decode cX6_loads 5 = .ok (.iconst 0, 1) := by decide +kernel
theorem dX6_loads_6 : decode cX6_loads 6 = .ok (.istore_n 3, 1) := by decide +kernel
theorem dX6_loads_7 : decode cX6_loads 7 = .ok (.iload_n 3, 1) := by decide +kernel
theorem dX6_loads_8 : decode cX6_loads 8 = .ok (.aload_n 0, 1) := by decide +kernel
theorem dX6_loads_9 : decode cX6_loads 9 = .ok (.getfield 7, 3) := by decide +kernel
theorem dX6_loads_12 : decode cX6_loads 12 = .ok (.iload_n 1, 1) := by decide +kernel
theorem dX6_loads_13 : decode cX6_loads 13 = .ok (.iaload, 1) := by decide +kernel
theorem dX6_loads_14 : decode cX6_loads 14 = .ok (.if_icmp .ge 48, 3) := by decide +kernel
theorem dX6_loads_17 : decode cX6_loads 17 = .ok (.aload_n 0, 1) := by decide +kernel
theorem dX6_loads_18 : decode cX6_loads 18 = .ok (.getfield 13, 3) := by decide +kernel
theorem dX6_loads_21 : decode cX6_loads 21 = .ok (.bipush 40, 2) := by decide +kernel
theorem dX6_loads_23 : decode cX6_loads 23 = .ok (.iload_n 1, 1) := by decide +kernel
theorem dX6_loads_24 : decode cX6_loads 24 = .ok (.imul, 1) := by decide +kernel
theorem dX6_loads_25 : decode cX6_loads 25 = .ok (.iload_n 3, 1) := by decide +kernel
theorem dX6_loads_26 : decode cX6_loads 26 = .ok (.iadd, 1) := by decide +kernel
theorem dX6_loads_27 : decode cX6_loads 27 = .ok (.iaload, 1) := by decide +kernel
theorem dX6_loads_28 : decode cX6_loads 28 = .ok (.istore 4, 2) := by decide +kernel
theorem dX6_loads_30 : decode cX6_loads 30 = .ok (.aload_n 0, 1) := by decide +kernel
theorem dX6_loads_31 : decode cX6_loads 31 = .ok (.iload 4, 2) := by decide +kernel
theorem dX6_loads_33 : decode cX6_loads 33 = .ok (.invokestatic 102, 3) := by decide +kernel
theorem dX6_loads_36 : decode cX6_loads 36 = .ok (.iload_n 2, 1) := by decide +kernel
theorem dX6_loads_37 : decode cX6_loads 37 = .ok (.iload 4, 2) := by decide +kernel
theorem dX6_loads_39 : decode cX6_loads 39 = .ok (.iconst 0, 1) := by decide +kernel
theorem dX6_loads_40 : decode cX6_loads 40 = .ok (.invokestatic 106, 3) := by decide +kernel
theorem dX6_loads_43 : decode cX6_loads 43 = .ok (.iadd, 1) := by decide +kernel
theorem dX6_loads_44 : decode cX6_loads 44 = .ok (.iload_n 2, 1) := by decide +kernel
theorem dX6_loads_45 : decode cX6_loads 45 = .ok (.iload 4, 2) := by decide +kernel
theorem dX6_loads_47 : decode cX6_loads 47 = .ok (.iconst 1, 1) := by decide +kernel
theorem dX6_loads_48 : decode cX6_loads 48 = .ok (.invokestatic 106, 3) := by decide +kernel
theorem dX6_loads_51 : decode cX6_loads 51 = .ok (.iadd, 1) := by decide +kernel
theorem dX6_loads_52 : decode cX6_loads 52 = .ok (.invokevirtual 110, 3) := by decide +kernel
theorem dX6_loads_55 : decode cX6_loads 55 = .ok (.pop, 1) := by decide +kernel
theorem dX6_loads_56 : decode cX6_loads 56 = .ok (.iinc 3 1, 3) := by decide +kernel
theorem dX6_loads_59 : decode cX6_loads 59 = .ok (.goto (-52), 3) := by decide +kernel
theorem dX6_loads_62 : decode cX6_loads 62 = .ok (.iload_n 2, 1) := by decide +kernel
theorem dX6_loads_63 : decode cX6_loads 63 = .ok (.ireturn, 1) := by decide +kernel
theorem dX6_reaches_0 : decode cX6_reaches 0 = .ok (.iconst 0, 1) := by decide +kernel
theorem dX6_reaches_1 : decode cX6_reaches 1 = .ok (.istore_n 2, 1) := by decide +kernel
theorem dX6_reaches_2 : decode cX6_reaches 2 = .ok (.iload_n 2, 1) := by decide +kernel
theorem dX6_reaches_3 : decode cX6_reaches 3 = .ok (.aload_n 0, 1) := by decide +kernel
theorem dX6_reaches_4 : decode cX6_reaches 4 = .ok (.getfield 94, 3) := by decide +kernel
theorem dX6_reaches_7 : decode cX6_reaches 7 = .ok (.if_icmp .ge 16, 3) := by decide +kernel
theorem dX6_reaches_10 : decode cX6_reaches 10 = .ok (.aload_n 0, 1) := by decide +kernel
theorem dX6_reaches_11 : decode cX6_reaches 11 = .ok (.getfield 34, 3) := by decide +kernel
theorem dX6_reaches_14 : decode cX6_reaches 14 = .ok (.iload_n 2, 1) := by decide +kernel
theorem dX6_reaches_15 : decode cX6_reaches 15 = .ok (.iconst (-1), 1) := by decide +kernel
theorem dX6_reaches_16 : decode cX6_reaches 16 = .ok (.iastore, 1) := by decide +kernel
theorem dX6_reaches_17 : decode cX6_reaches 17 = .ok (.iinc 2 1, 3) := by decide +kernel
theorem dX6_reaches_20 : decode cX6_reaches 20 = .ok (.goto (-18), 3) := by decide +kernel
theorem dX6_reaches_23 : decode cX6_reaches 23 = .ok (.aload_n 0, 1) := by decide +kernel
theorem dX6_reaches_24 : decode cX6_reaches 24 = .ok (.getfield 31, 3) := by decide +kernel
theorem dX6_reaches_27 : decode cX6_reaches 27 = .ok (.iconst 0, 1) := by decide +kernel
theorem dX6_reaches_28 : decode cX6_reaches 28 = .ok (.iload_n 1, 1) := by decide +kernel
theorem dX6_reaches_29 : decode cX6_reaches 29 = .ok (.iastore, 1) := by decide +kernel
theorem dX6_reaches_30 : decode cX6_reaches 30 = .ok (.aload_n 0, 1) := by decide +kernel
theorem dX6_reaches_31 : decode cX6_reaches 31 = .ok (.getfield 34, 3) := by decide +kernel
theorem dX6_reaches_34 : decode cX6_reaches 34 = .ok (.iload_n 1, 1) := by decide +kernel
theorem dX6_reaches_35 : decode cX6_reaches 35 = .ok (.iconst 0, 1) := by decide +kernel
theorem dX6_reaches_36 : decode cX6_reaches 36 = .ok (.iastore, 1) := by decide +kernel
theorem dX6_reaches_37 : decode cX6_reaches 37 = .ok (.iconst 1, 1) := by decide +kernel
theorem dX6_reaches_38 : decode cX6_reaches 38 = .ok (.istore_n 2, 1) := by decide +kernel
theorem dX6_reaches_39 : decode cX6_reaches 39 = .ok (.iconst 0, 1) := by decide +kernel
theorem dX6_reaches_40 : decode cX6_reaches 40 = .ok (.istore_n 3, 1) := by decide +kernel
theorem dX6_reaches_41 : decode cX6_reaches 41 = .ok (.iload_n 3, 1) := by decide +kernel
theorem dX6_reaches_42 : decode cX6_reaches 42 = .ok (.iload_n 2, 1) := by decide +kernel
theorem dX6_reaches_43 : decode cX6_reaches 43 = .ok (.if_icmp .ge 82, 3) := by decide +kernel
theorem dX6_reaches_46 : decode cX6_reaches 46 = .ok (.aload_n 0, 1) := by decide +kernel
theorem dX6_reaches_47 : decode cX6_reaches 47 = .ok (.getfield 28, 3) := by decide +kernel
theorem dX6_reaches_50 : decode cX6_reaches 50 = .ok (.aload_n 0, 1) := by decide +kernel
theorem dX6_reaches_51 : decode cX6_reaches 51 = .ok (.getfield 31, 3) := by decide +kernel
theorem dX6_reaches_54 : decode cX6_reaches 54 = .ok (.iload_n 3, 1) := by decide +kernel
theorem dX6_reaches_55 : decode cX6_reaches 55 = .ok (.iaload, 1) := by decide +kernel
theorem dX6_reaches_56 : decode cX6_reaches 56 = .ok (.iaload, 1) := by decide +kernel
theorem dX6_reaches_57 : decode cX6_reaches 57 = .ok (.istore 4, 2) := by decide +kernel
theorem dX6_reaches_59 : decode cX6_reaches 59 = .ok (.iconst 0, 1) := by decide +kernel
theorem dX6_reaches_60 : decode cX6_reaches 60 = .ok (.istore 5, 2) := by decide +kernel
theorem dX6_reaches_62 : decode cX6_reaches 62 = .ok (.iload 5, 2) := by decide +kernel
theorem dX6_reaches_64 : decode cX6_reaches 64 = .ok (.iload 4, 2) := by decide +kernel
theorem dX6_reaches_66 : decode cX6_reaches 66 = .ok (.invokestatic 102, 3) := by decide +kernel
theorem dX6_reaches_69 : decode cX6_reaches 69 = .ok (.invokestatic 113, 3) := by decide +kernel
theorem dX6_reaches_72 : decode cX6_reaches 72 = .ok (.if_icmp .ge 47, 3) := by decide +kernel
theorem dX6_reaches_75 : decode cX6_reaches 75 = .ok (.iload 4, 2) := by decide +kernel
theorem dX6_reaches_77 : decode cX6_reaches 77 = .ok (.iload 5, 2) := by decide +kernel
theorem dX6_reaches_79 : decode cX6_reaches 79 = .ok (.invokestatic 106, 3) := by decide +kernel
theorem dX6_reaches_82 : decode cX6_reaches 82 = .ok (.istore 6, 2) := by decide +kernel
theorem dX6_reaches_84 : decode cX6_reaches 84 = .ok (.aload_n 0, 1) := by decide +kernel
theorem dX6_reaches_85 : decode cX6_reaches 85 = .ok (.getfield 34, 3) := by decide +kernel
theorem dX6_reaches_88 : decode cX6_reaches 88 = .ok (.iload 6, 2) := by decide +kernel
theorem dX6_reaches_90 : decode cX6_reaches 90 = .ok (.iaload, 1) := by decide +kernel
theorem dX6_reaches_91 : decode cX6_reaches 91 = .ok (.ifCond .ge 22, 3) := by decide +kernel
theorem dX6_reaches_94 : decode cX6_reaches 94 = .ok (.aload_n 0, 1) := by decide +kernel
theorem dX6_reaches_95 : decode cX6_reaches 95 = .ok (.getfield 34, 3) := by decide +kernel
theorem dX6_reaches_98 : decode cX6_reaches 98 = .ok (.iload 6, 2) := by decide +kernel
theorem dX6_reaches_100 : decode cX6_reaches 100 = .ok (.iload_n 2, 1) := by decide +kernel
theorem dX6_reaches_101 : decode cX6_reaches 101 = .ok (.iastore, 1) := by decide +kernel
theorem dX6_reaches_102 : decode cX6_reaches 102 = .ok (.aload_n 0, 1) := by decide +kernel
theorem dX6_reaches_103 : decode cX6_reaches 103 = .ok (.getfield 31, 3) := by decide +kernel
theorem dX6_reaches_106 : decode cX6_reaches 106 = .ok (.iload_n 2, 1) := by decide +kernel
theorem dX6_reaches_107 : decode cX6_reaches 107 = .ok (.iload 6, 2) := by decide +kernel
theorem dX6_reaches_109 : decode cX6_reaches 109 = .ok (.iastore, 1) := by decide +kernel
theorem dX6_reaches_110 : decode cX6_reaches 110 = .ok (.iinc 2 1, 3) := by decide +kernel
theorem dX6_reaches_113 : decode cX6_reaches 113 = .ok (.iinc 5 1, 3) := by decide +kernel
theorem dX6_reaches_116 : decode cX6_reaches 116 = .ok (.goto (-54), 3) := by decide +kernel
theorem dX6_reaches_119 : decode cX6_reaches 119 = .ok (.iinc 3 1, 3) := by decide +kernel
theorem dX6_reaches_122 : decode cX6_reaches 122 = .ok (.goto (-81), 3) := by decide +kernel
theorem dX6_reaches_125 : decode cX6_reaches 125 = .ok (.iload_n 2, 1) := by decide +kernel
theorem dX6_reaches_126 : decode cX6_reaches 126 = .ok (.ireturn, 1) := by decide +kernel
theorem dX6_classOf_0 : decode cX6_classOf 0 = .ok (.aload_n 0, 1) := by decide +kernel
theorem dX6_classOf_1 : decode cX6_classOf 1 = .ok (.getfield 37, 3) := by decide +kernel
theorem dX6_classOf_4 : decode cX6_classOf 4 = .ok (.aload_n 0, 1) := by decide +kernel
theorem dX6_classOf_5 : decode cX6_classOf 5 = .ok (.getfield 34, 3) := by decide +kernel
theorem dX6_classOf_8 : decode cX6_classOf 8 = .ok (.aload_n 0, 1) := by decide +kernel
theorem dX6_classOf_9 : decode cX6_classOf 9 = .ok (.getfield 28, 3) := by decide +kernel
theorem dX6_classOf_12 : decode cX6_classOf 12 = .ok (.aload_n 0, 1) := by decide +kernel
theorem dX6_classOf_13 : decode cX6_classOf 13 = .ok (.getfield 31, 3) := by decide +kernel
theorem dX6_classOf_16 : decode cX6_classOf 16 = .ok (.iload_n 1, 1) := by decide +kernel
theorem dX6_classOf_17 : decode cX6_classOf 17 = .ok (.iaload, 1) := by decide +kernel
theorem dX6_classOf_18 : decode cX6_classOf 18 = .ok (.iaload, 1) := by decide +kernel
theorem dX6_classOf_19 : decode cX6_classOf 19 = .ok (.iload_n 2, 1) := by decide +kernel
theorem dX6_classOf_20 : decode cX6_classOf 20 = .ok (.invokestatic 106, 3) := by decide +kernel
theorem dX6_classOf_23 : decode cX6_classOf 23 = .ok (.iaload, 1) := by decide +kernel
theorem dX6_classOf_24 : decode cX6_classOf 24 = .ok (.iaload, 1) := by decide +kernel
theorem dX6_classOf_25 : decode cX6_classOf 25 = .ok (.ireturn, 1) := by decide +kernel
theorem dX6_alikeSoFar_0 : decode cX6_alikeSoFar 0 = .ok (.aload_n 0, 1) := by decide +kernel
theorem dX6_alikeSoFar_1 : decode cX6_alikeSoFar 1 = .ok (.getfield 28, 3) := by decide +kernel
theorem dX6_alikeSoFar_4 : decode cX6_alikeSoFar 4 = .ok (.aload_n 0, 1) := by decide +kernel
theorem dX6_alikeSoFar_5 : decode cX6_alikeSoFar 5 = .ok (.getfield 31, 3) := by decide +kernel
theorem dX6_alikeSoFar_8 : decode cX6_alikeSoFar 8 = .ok (.iload_n 1, 1) := by decide +kernel
theorem dX6_alikeSoFar_9 : decode cX6_alikeSoFar 9 = .ok (.iaload, 1) := by decide +kernel
theorem dX6_alikeSoFar_10 : decode cX6_alikeSoFar 10 = .ok (.iaload, 1) := by decide +kernel
theorem dX6_alikeSoFar_11 : decode cX6_alikeSoFar 11 = .ok (.invokestatic 102, 3) := by decide +kernel
theorem dX6_alikeSoFar_14 : decode cX6_alikeSoFar 14 = .ok (.invokestatic 113, 3) := by decide +kernel
theorem dX6_alikeSoFar_17 : decode cX6_alikeSoFar 17 = .ok (.istore_n 3, 1) := by decide +kernel
theorem dX6_alikeSoFar_18 : decode cX6_alikeSoFar 18 = .ok (.aload_n 0, 1) := by decide +kernel
theorem dX6_alikeSoFar_19 : decode cX6_alikeSoFar 19 = .ok (.getfield 37, 3) := by decide +kernel
theorem dX6_alikeSoFar_22 : decode cX6_alikeSoFar 22 = .ok (.iload_n 1, 1) := by decide +kernel
theorem dX6_alikeSoFar_23 : decode cX6_alikeSoFar 23 = .ok (.iaload, 1) := by decide +kernel
theorem dX6_alikeSoFar_24 : decode cX6_alikeSoFar 24 = .ok (.aload_n 0, 1) := by decide +kernel
theorem dX6_alikeSoFar_25 : decode cX6_alikeSoFar 25 = .ok (.getfield 37, 3) := by decide +kernel
theorem dX6_alikeSoFar_28 : decode cX6_alikeSoFar 28 = .ok (.iload_n 2, 1) := by decide +kernel
theorem dX6_alikeSoFar_29 : decode cX6_alikeSoFar 29 = .ok (.iaload, 1) := by decide +kernel
theorem dX6_alikeSoFar_30 : decode cX6_alikeSoFar 30 = .ok (.if_icmp .ne 47, 3) := by decide +kernel
theorem dX6_alikeSoFar_33 : decode cX6_alikeSoFar 33 = .ok (.iload_n 3, 1) := by decide +kernel
theorem dX6_alikeSoFar_34 : decode cX6_alikeSoFar 34 = .ok (.iconst 1, 1) := by decide +kernel
theorem dX6_alikeSoFar_35 : decode cX6_alikeSoFar 35 = .ok (.if_icmp .lt 18, 3) := by decide +kernel
theorem dX6_alikeSoFar_38 : decode cX6_alikeSoFar 38 = .ok (.aload_n 0, 1) := by decide +kernel
theorem dX6_alikeSoFar_39 : decode cX6_alikeSoFar 39 = .ok (.iload_n 1, 1) := by decide +kernel
theorem dX6_alikeSoFar_40 : decode cX6_alikeSoFar 40 = .ok (.iconst 0, 1) := by decide +kernel
theorem dX6_alikeSoFar_41 : decode cX6_alikeSoFar 41 = .ok (.invokevirtual 116, 3) := by decide +kernel
theorem dX6_alikeSoFar_44 : decode cX6_alikeSoFar 44 = .ok (.aload_n 0, 1) := by decide +kernel
theorem dX6_alikeSoFar_45 : decode cX6_alikeSoFar 45 = .ok (.iload_n 2, 1) := by decide +kernel
theorem dX6_alikeSoFar_46 : decode cX6_alikeSoFar 46 = .ok (.iconst 0, 1) := by decide +kernel
theorem dX6_alikeSoFar_47 : decode cX6_alikeSoFar 47 = .ok (.invokevirtual 116, 3) := by decide +kernel
theorem dX6_alikeSoFar_50 : decode cX6_alikeSoFar 50 = .ok (.if_icmp .ne 27, 3) := by decide +kernel
theorem dX6_alikeSoFar_53 : decode cX6_alikeSoFar 53 = .ok (.iload_n 3, 1) := by decide +kernel
theorem dX6_alikeSoFar_54 : decode cX6_alikeSoFar 54 = .ok (.iconst 2, 1) := by decide +kernel
theorem dX6_alikeSoFar_55 : decode cX6_alikeSoFar 55 = .ok (.if_icmp .lt 18, 3) := by decide +kernel
theorem dX6_alikeSoFar_58 : decode cX6_alikeSoFar 58 = .ok (.aload_n 0, 1) := by decide +kernel
theorem dX6_alikeSoFar_59 : decode cX6_alikeSoFar 59 = .ok (.iload_n 1, 1) := by decide +kernel
theorem dX6_alikeSoFar_60 : decode cX6_alikeSoFar 60 = .ok (.iconst 1, 1) := by decide +kernel
theorem dX6_alikeSoFar_61 : decode cX6_alikeSoFar 61 = .ok (.invokevirtual 116, 3) := by decide +kernel
theorem dX6_alikeSoFar_64 : decode cX6_alikeSoFar 64 = .ok (.aload_n 0, 1) := by decide +kernel
theorem dX6_alikeSoFar_65 : decode cX6_alikeSoFar 65 = .ok (.iload_n 2, 1) := by decide +kernel
theorem dX6_alikeSoFar_66 : decode cX6_alikeSoFar 66 = .ok (.iconst 1, 1) := by decide +kernel
theorem dX6_alikeSoFar_67 : decode cX6_alikeSoFar 67 = .ok (.invokevirtual 116, 3) := by decide +kernel
theorem dX6_alikeSoFar_70 : decode cX6_alikeSoFar 70 = .ok (.if_icmp .ne 7, 3) := by decide +kernel
theorem dX6_alikeSoFar_73 : decode cX6_alikeSoFar 73 = .ok (.iconst 1, 1) := by decide +kernel
theorem dX6_alikeSoFar_74 : decode cX6_alikeSoFar 74 = .ok (.goto 4, 3) := by decide +kernel
theorem dX6_alikeSoFar_77 : decode cX6_alikeSoFar 77 = .ok (.iconst 0, 1) := by decide +kernel
theorem dX6_alikeSoFar_78 : decode cX6_alikeSoFar 78 = .ok (.ireturn, 1) := by decide +kernel
theorem dX6_tellsApart_0 : decode cX6_tellsApart 0 = .ok (.iconst 0, 1) := by decide +kernel
theorem dX6_tellsApart_1 : decode cX6_tellsApart 1 = .ok (.istore_n 3, 1) := by decide +kernel
theorem dX6_tellsApart_2 : decode cX6_tellsApart 2 = .ok (.iconst 0, 1) := by decide +kernel
theorem dX6_tellsApart_3 : decode cX6_tellsApart 3 = .ok (.istore 4, 2) := by decide +kernel
theorem dX6_tellsApart_5 : decode cX6_tellsApart 5 = .ok (.iload 4, 2) := by decide +kernel
theorem dX6_tellsApart_7 : decode cX6_tellsApart 7 = .ok (.iload_n 1, 1) := by decide +kernel
theorem dX6_tellsApart_8 : decode cX6_tellsApart 8 = .ok (.if_icmp .ge 31, 3) := by decide +kernel
theorem dX6_tellsApart_11 : decode cX6_tellsApart 11 = .ok (.aload_n 0, 1) := by decide +kernel
theorem dX6_tellsApart_12 : decode cX6_tellsApart 12 = .ok (.getfield 37, 3) := by decide +kernel
theorem dX6_tellsApart_15 : decode cX6_tellsApart 15 = .ok (.iload 4, 2) := by decide +kernel
theorem dX6_tellsApart_17 : decode cX6_tellsApart 17 = .ok (.aload_n 0, 1) := by decide +kernel
theorem dX6_tellsApart_18 : decode cX6_tellsApart 18 = .ok (.getfield 28, 3) := by decide +kernel
theorem dX6_tellsApart_21 : decode cX6_tellsApart 21 = .ok (.aload_n 0, 1) := by decide +kernel
theorem dX6_tellsApart_22 : decode cX6_tellsApart 22 = .ok (.getfield 31, 3) := by decide +kernel
theorem dX6_tellsApart_25 : decode cX6_tellsApart 25 = .ok (.iload 4, 2) := by decide +kernel
theorem dX6_tellsApart_27 : decode cX6_tellsApart 27 = .ok (.iaload, 1) := by decide +kernel
theorem dX6_tellsApart_28 : decode cX6_tellsApart 28 = .ok (.iaload, 1) := by decide +kernel
theorem dX6_tellsApart_29 : decode cX6_tellsApart 29 = .ok (.invokestatic 102, 3) := by decide +kernel
theorem dX6_tellsApart_32 : decode cX6_tellsApart 32 = .ok (.iastore, 1) := by decide +kernel
theorem dX6_tellsApart_33 : decode cX6_tellsApart 33 = .ok (.iinc 4 1, 3) := by decide +kernel
theorem dX6_tellsApart_36 : decode cX6_tellsApart 36 = .ok (.goto (-31), 3) := by decide +kernel
theorem dX6_tellsApart_39 : decode cX6_tellsApart 39 = .ok (.iconst 0, 1) := by decide +kernel
theorem dX6_tellsApart_40 : decode cX6_tellsApart 40 = .ok (.istore 4, 2) := by decide +kernel
theorem dX6_tellsApart_42 : decode cX6_tellsApart 42 = .ok (.iconst 0, 1) := by decide +kernel
theorem dX6_tellsApart_43 : decode cX6_tellsApart 43 = .ok (.istore 5, 2) := by decide +kernel
theorem dX6_tellsApart_45 : decode cX6_tellsApart 45 = .ok (.iload 5, 2) := by decide +kernel
theorem dX6_tellsApart_47 : decode cX6_tellsApart 47 = .ok (.iload_n 1, 1) := by decide +kernel
theorem dX6_tellsApart_48 : decode cX6_tellsApart 48 = .ok (.if_icmp .ge 79, 3) := by decide +kernel
theorem dX6_tellsApart_51 : decode cX6_tellsApart 51 = .ok (.iconst 0, 1) := by decide +kernel

def RX0 : String := "Schedulary$Body"
def TX0 : u_T := fun k => match k with
  | 0 => ("Schedulary$Body", "nodes", "[LSchedulary$Node;", true)
  | 1 => ("Schedulary$Body", "units", "[I", true)
  | 2 => ("Schedulary$Body", "cycles", "[I", true)
  | 3 => ("Schedulary$Body", "ofKind", "[I", true)
  | _ => ("Schedulary$Body", "count", "I", false)
def tyX0 : Nat → FieldType := fun k => match k with
  | 0 => .array (.object "Schedulary$Node")
  | 1 => .array .int
  | 2 => .array .int
  | 3 => .array .int
  | _ => .int
theorem nmX0 : ∀ a, a < 5 → ∀ b, b < 5 → a ≠ b → (TX0 a).2.1 ≠ (TX0 b).2.1 := by decide +kernel
theorem tyX0_ok : ∀ k, k < 5 → parseFieldDescriptor (TX0 k).2.2.1 = some (tyX0 k) := by decide +kernel
abbrev cX0_init : ByteArray := prog_2_method_1_code
def yX0_init : MethodName := ⟨RX0, "<init>", "()V"⟩
abbrev cX0_number : ByteArray := prog_2_method_2_code
def yX0_number : MethodName := ⟨RX0, "number", "(LSchedulary$Program;)V"⟩
abbrev cX0_numberOne : ByteArray := prog_2_method_3_code
def yX0_numberOne : MethodName := ⟨RX0, "numberOne", "(LSchedulary$Statement;II)V"⟩
abbrev cX0_appendReading : ByteArray := prog_2_method_4_code
def yX0_appendReading : MethodName := ⟨RX0, "appendReading", "(LSchedulary$Statement;III)I"⟩
abbrev cX0_appendWriting : ByteArray := prog_2_method_5_code
def yX0_appendWriting : MethodName := ⟨RX0, "appendWriting", "(LSchedulary$Statement;III)V"⟩
abbrev cX0_append : ByteArray := prog_2_method_6_code
def yX0_append : MethodName := ⟨RX0, "append", "(LSchedulary$Statement;III)I"⟩
abbrev cX0_cyclesOf : ByteArray := prog_2_method_7_code
def yX0_cyclesOf : MethodName := ⟨RX0, "cyclesOf", "(I)I"⟩
abbrev cX0_sumOfCycles : ByteArray := prog_2_method_8_code
def yX0_sumOfCycles : MethodName := ⟨RX0, "sumOfCycles", "()I"⟩
abbrev cX0_endOf : ByteArray := prog_2_method_9_code
def yX0_endOf : MethodName := ⟨RX0, "endOf", "([I)I"⟩
abbrev cX0_leastIntervalOf : ByteArray := prog_2_method_10_code
def yX0_leastIntervalOf : MethodName := ⟨RX0, "leastIntervalOf", "(I)I"⟩
abbrev cX0_areUnitsKept : ByteArray := prog_2_method_11_code
def yX0_areUnitsKept : MethodName := ⟨RX0, "areUnitsKept", "([II)Z"⟩
abbrev cX0_countTogether : ByteArray := prog_2_method_12_code
def yX0_countTogether : MethodName := ⟨RX0, "countTogether", "([III)I"⟩
abbrev cX0_lastMakerAhead : ByteArray := prog_2_method_13_code
def yX0_lastMakerAhead : MethodName := ⟨RX0, "lastMakerAhead", "(II)I"⟩
abbrev cX0_nextMakerBehind : ByteArray := prog_2_method_14_code
def yX0_nextMakerBehind : MethodName := ⟨RX0, "nextMakerBehind", "(II)I"⟩
def RX1 : String := "Schedulary$Circuit"
def TX1 : u_T := fun k => match k with
  | 0 => ("Schedulary$Circuit", "state", "LSchedulary$State;", true)
  | _ => ("Schedulary$Circuit", "values", "[I", true)
def tyX1 : Nat → FieldType := fun k => match k with
  | 0 => .object "Schedulary$State"
  | _ => .array .int
theorem nmX1 : ∀ a, a < 2 → ∀ b, b < 2 → a ≠ b → (TX1 a).2.1 ≠ (TX1 b).2.1 := by decide +kernel
theorem tyX1_ok : ∀ k, k < 2 → parseFieldDescriptor (TX1 k).2.2.1 = some (tyX1 k) := by decide +kernel
abbrev cX1_init : ByteArray := prog_3_method_1_code
def yX1_init : MethodName := ⟨RX1, "<init>", "()V"⟩
abbrev cX1_turn : ByteArray := prog_3_method_2_code
def yX1_turn : MethodName := ⟨RX1, "turn", "(LSchedulary$Program;LSchedulary$Body;LSchedulary$Pace;)V"⟩
abbrev cX1_turnAfter : ByteArray := prog_3_method_3_code
def yX1_turnAfter : MethodName := ⟨RX1, "turnAfter", "(III)I"⟩
abbrev cX1_finish : ByteArray := prog_3_method_4_code
def yX1_finish : MethodName := ⟨RX1, "finish", "(LSchedulary$Program;LSchedulary$Node;II)V"⟩
abbrev cX1_begin : ByteArray := prog_3_method_5_code
def yX1_begin : MethodName := ⟨RX1, "begin", "(LSchedulary$Program;LSchedulary$Node;II)V"⟩
abbrev cX1_valueFrom : ByteArray := prog_3_method_6_code
def yX1_valueFrom : MethodName := ⟨RX1, "valueFrom", "(II)I"⟩
def RX2 : String := "Schedulary$Graph"
def TX2 : u_T := fun k => match k with
  | 0 => ("Schedulary$Graph", "tos", "[[I", true)
  | 1 => ("Schedulary$Graph", "distances", "[[I", true)
  | 2 => ("Schedulary$Graph", "weights", "[[I", true)
  | 3 => ("Schedulary$Graph", "sizes", "[I", true)
  | _ => ("Schedulary$Graph", "count", "I", false)
def tyX2 : Nat → FieldType := fun k => match k with
  | 0 => .array (.array .int)
  | 1 => .array (.array .int)
  | 2 => .array (.array .int)
  | 3 => .array .int
  | _ => .int
theorem nmX2 : ∀ a, a < 5 → ∀ b, b < 5 → a ≠ b → (TX2 a).2.1 ≠ (TX2 b).2.1 := by decide +kernel
theorem tyX2_ok : ∀ k, k < 5 → parseFieldDescriptor (TX2 k).2.2.1 = some (tyX2 k) := by decide +kernel
abbrev cX2_init : ByteArray := prog_4_method_1_code
def yX2_init : MethodName := ⟨RX2, "<init>", "()V"⟩
abbrev cX2_join : ByteArray := prog_4_method_2_code
def yX2_join : MethodName := ⟨RX2, "join", "(LSchedulary$Body;I)V"⟩
abbrev cX2_find : ByteArray := prog_4_method_3_code
def yX2_find : MethodName := ⟨RX2, "find", "(III)I"⟩
abbrev cX2_put : ByteArray := prog_4_method_4_code
def yX2_put : MethodName := ⟨RX2, "put", "(IIII)V"⟩
abbrev cX2_joinWithinStatements : ByteArray := prog_4_method_5_code
def yX2_joinWithinStatements : MethodName := ⟨RX2, "joinWithinStatements", "(LSchedulary$Body;)V"⟩
abbrev cX2_joinGiver : ByteArray := prog_4_method_6_code
def yX2_joinGiver : MethodName := ⟨RX2, "joinGiver", "(LSchedulary$Body;II)V"⟩
abbrev cX2_joinRegister : ByteArray := prog_4_method_7_code
def yX2_joinRegister : MethodName := ⟨RX2, "joinRegister", "(LSchedulary$Body;I)V"⟩
abbrev cX2_joinMakerAhead : ByteArray := prog_4_method_8_code
def yX2_joinMakerAhead : MethodName := ⟨RX2, "joinMakerAhead", "(LSchedulary$Body;II)V"⟩
abbrev cX2_joinMakerBehind : ByteArray := prog_4_method_9_code
def yX2_joinMakerBehind : MethodName := ⟨RX2, "joinMakerBehind", "(LSchedulary$Body;II)V"⟩
abbrev cX2_joinMemory : ByteArray := prog_4_method_10_code
def yX2_joinMemory : MethodName := ⟨RX2, "joinMemory", "(LSchedulary$Body;II)V"⟩
abbrev cX2_joinPlaces : ByteArray := prog_4_method_11_code
def yX2_joinPlaces : MethodName := ⟨RX2, "joinPlaces", "(LSchedulary$Body;III)V"⟩
abbrev cX2_distanceTo : ByteArray := prog_4_method_12_code
def yX2_distanceTo : MethodName := ⟨RX2, "distanceTo", "(LSchedulary$Node;LSchedulary$Node;ZI)I"⟩
abbrev cX2_joinChannel : ByteArray := prog_4_method_13_code
def yX2_joinChannel : MethodName := ⟨RX2, "joinChannel", "(LSchedulary$Body;I)V"⟩
abbrev cX2_isKept : ByteArray := prog_4_method_14_code
def yX2_isKept : MethodName := ⟨RX2, "isKept", "(LSchedulary$Body;[III)Z"⟩
def RX3 : String := "Schedulary$Node"
def TX3 : u_T := fun k => match k with
  | 0 => ("Schedulary$Node", "source", "LSchedulary$Statement;", false)
  | 1 => ("Schedulary$Node", "statement", "I", false)
  | 2 => ("Schedulary$Node", "copy", "I", false)
  | 3 => ("Schedulary$Node", "kind", "I", false)
  | 4 => ("Schedulary$Node", "part", "I", false)
  | 5 => ("Schedulary$Node", "firstGiver", "I", false)
  | 6 => ("Schedulary$Node", "secondGiver", "I", false)
  | 7 => ("Schedulary$Node", "uses", "I", false)
  | 8 => ("Schedulary$Node", "makes", "I", false)
  | 9 => ("Schedulary$Node", "firstPlace", "I", false)
  | 10 => ("Schedulary$Node", "isTurning", "Z", false)
  | 11 => ("Schedulary$Node", "isOperating", "Z", false)
  | _ => ("Schedulary$Node", "isWriting", "Z", false)
def tyX3 : Nat → FieldType := fun k => match k with
  | 0 => .object "Schedulary$Statement"
  | 1 => .int
  | 2 => .int
  | 3 => .int
  | 4 => .int
  | 5 => .int
  | 6 => .int
  | 7 => .int
  | 8 => .int
  | 9 => .int
  | 10 => .boolean
  | 11 => .boolean
  | _ => .boolean
theorem nmX3 : ∀ a, a < 13 → ∀ b, b < 13 → a ≠ b → (TX3 a).2.1 ≠ (TX3 b).2.1 := by decide +kernel
theorem tyX3_ok : ∀ k, k < 13 → parseFieldDescriptor (TX3 k).2.2.1 = some (tyX3 k) := by decide +kernel
abbrev cX3_init : ByteArray := prog_5_method_1_code
def yX3_init : MethodName := ⟨RX3, "<init>", "()V"⟩
abbrev cX3_set : ByteArray := prog_5_method_2_code
def yX3_set : MethodName := ⟨RX3, "set", "(LSchedulary$Statement;III)V"⟩
abbrev cX3_setPlace : ByteArray := prog_5_method_3_code
def yX3_setPlace : MethodName := ⟨RX3, "setPlace", "(I)V"⟩
abbrev cX3_isUsing : ByteArray := prog_5_method_4_code
def yX3_isUsing : MethodName := ⟨RX3, "isUsing", "(I)Z"⟩
def RX4 : String := "Schedulary$Pace"
def TX4 : u_T := fun k => match k with
  | 0 => ("Schedulary$Pace", "places", "[I", true)
  | 1 => ("Schedulary$Pace", "leasts", "[I", true)
  | 2 => ("Schedulary$Pace", "begun", "[[I", true)
  | 3 => ("Schedulary$Pace", "leastByRings", "I", false)
  | 4 => ("Schedulary$Pace", "leastByUnits", "I", false)
  | _ => ("Schedulary$Pace", "interval", "I", false)
def tyX4 : Nat → FieldType := fun k => match k with
  | 0 => .array .int
  | 1 => .array .int
  | 2 => .array (.array .int)
  | 3 => .int
  | 4 => .int
  | _ => .int
theorem nmX4 : ∀ a, a < 6 → ∀ b, b < 6 → a ≠ b → (TX4 a).2.1 ≠ (TX4 b).2.1 := by decide +kernel
theorem tyX4_ok : ∀ k, k < 6 → parseFieldDescriptor (TX4 k).2.2.1 = some (tyX4 k) := by decide +kernel
abbrev cX4_init : ByteArray := prog_6_method_1_code
def yX4_init : MethodName := ⟨RX4, "<init>", "()V"⟩
abbrev cX4_find : ByteArray := prog_6_method_2_code
def yX4_find : MethodName := ⟨RX4, "find", "(LSchedulary$Body;LSchedulary$Graph;)V"⟩
abbrev cX4_findByRings : ByteArray := prog_6_method_3_code
def yX4_findByRings : MethodName := ⟨RX4, "findByRings", "(LSchedulary$Body;LSchedulary$Graph;)I"⟩
abbrev cX4_isAllowedByRings : ByteArray := prog_6_method_4_code
def yX4_isAllowedByRings : MethodName := ⟨RX4, "isAllowedByRings", "(LSchedulary$Body;LSchedulary$Graph;I)Z"⟩
abbrev cX4_pushAll : ByteArray := prog_6_method_5_code
def yX4_pushAll : MethodName := ⟨RX4, "pushAll", "(LSchedulary$Body;LSchedulary$Graph;I)I"⟩
abbrev cX4_findByUnits : ByteArray := prog_6_method_6_code
def yX4_findByUnits : MethodName := ⟨RX4, "findByUnits", "(LSchedulary$Body;)I"⟩
abbrev cX4_placeAll : ByteArray := prog_6_method_7_code
def yX4_placeAll : MethodName := ⟨RX4, "placeAll", "(LSchedulary$Body;LSchedulary$Graph;)Z"⟩
abbrev cX4_findStep : ByteArray := prog_6_method_8_code
def yX4_findStep : MethodName := ⟨RX4, "findStep", "(LSchedulary$Graph;III)I"⟩
abbrev cX4_placeAt : ByteArray := prog_6_method_9_code
def yX4_placeAt : MethodName := ⟨RX4, "placeAt", "(LSchedulary$Graph;III)V"⟩
abbrev cX4_restOf : ByteArray := prog_6_method_10_code
def yX4_restOf : MethodName := ⟨RX4, "restOf", "(I)I"⟩
abbrev cX4_countCycles : ByteArray := prog_6_method_12_code
def yX4_countCycles : MethodName := ⟨RX4, "countCycles", "(LSchedulary$Body;I)I"⟩
abbrev cX4_isKept : ByteArray := prog_6_method_13_code
def yX4_isKept : MethodName := ⟨RX4, "isKept", "(LSchedulary$Body;LSchedulary$Graph;)Z"⟩
def RX5 : String := "Schedulary$Processes"
def TX5 : u_T := fun k => match k with
  | 0 => ("Schedulary$Processes", "channels", "[[I", true)
  | 1 => ("Schedulary$Processes", "changes", "[[I", true)
  | 2 => ("Schedulary$Processes", "counts", "[I", true)
  | 3 => ("Schedulary$Processes", "depths", "[I", true)
  | 4 => ("Schedulary$Processes", "limits", "[I", true)
  | 5 => ("Schedulary$Processes", "held", "[I", true)
  | _ => ("Schedulary$Processes", "dones", "[I", true)
def tyX5 : Nat → FieldType := fun k => match k with
  | 0 => .array (.array .int)
  | 1 => .array (.array .int)
  | 2 => .array .int
  | 3 => .array .int
  | 4 => .array .int
  | 5 => .array .int
  | _ => .array .int
theorem nmX5 : ∀ a, a < 7 → ∀ b, b < 7 → a ≠ b → (TX5 a).2.1 ≠ (TX5 b).2.1 := by decide +kernel
theorem tyX5_ok : ∀ k, k < 7 → parseFieldDescriptor (TX5 k).2.2.1 = some (tyX5 k) := by decide +kernel
abbrev cX5_init : ByteArray := prog_7_method_1_code
def yX5_init : MethodName := ⟨RX5, "<init>", "()V"⟩
abbrev cX5_append : ByteArray := prog_7_method_2_code
def yX5_append : MethodName := ⟨RX5, "append", "(IIZ)I"⟩
abbrev cX5_goWithTheirDepths : ByteArray := prog_7_method_3_code
def yX5_goWithTheirDepths : MethodName := ⟨RX5, "goWithTheirDepths", "()V"⟩
abbrev cX5_findLeastDepth : ByteArray := prog_7_method_4_code
def yX5_findLeastDepth : MethodName := ⟨RX5, "findLeastDepth", "()I"⟩
abbrev cX5_go : ByteArray := prog_7_method_5_code
def yX5_go : MethodName := ⟨RX5, "go", "()V"⟩
abbrev cX5_goOn : ByteArray := prog_7_method_6_code
def yX5_goOn : MethodName := ⟨RX5, "goOn", "(I)V"⟩
abbrev cX5_countDone : ByteArray := prog_7_method_7_code
def yX5_countDone : MethodName := ⟨RX5, "countDone", "()I"⟩
abbrev cX5_nextChannel : ByteArray := prog_7_method_8_code
def yX5_nextChannel : MethodName := ⟨RX5, "nextChannel", "(I)I"⟩
abbrev cX5_isSomeLeft : ByteArray := prog_7_method_9_code
def yX5_isSomeLeft : MethodName := ⟨RX5, "isSomeLeft", "()Z"⟩
def RX6 : String := "Schedulary$Program"
def TX6 : u_T := fun k => match k with
  | 0 => ("Schedulary$Program", "statements", "[LSchedulary$Statement;", true)
  | 1 => ("Schedulary$Program", "inputs", "[I", true)
  | 2 => ("Schedulary$Program", "told", "[[I", true)
  | 3 => ("Schedulary$Program", "spare", "LSchedulary$Statement;", false)
  | 4 => ("Schedulary$Program", "count", "I", false)
  | 5 => ("Schedulary$Program", "inputCount", "I", false)
  | 6 => ("Schedulary$Program", "turns", "I", false)
  | 7 => ("Schedulary$Program", "bits", "I", false)
  | _ => ("Schedulary$Program", "factor", "I", false)
def tyX6 : Nat → FieldType := fun k => match k with
  | 0 => .array (.object "Schedulary$Statement")
  | 1 => .array .int
  | 2 => .array (.array .int)
  | 3 => .object "Schedulary$Statement"
  | 4 => .int
  | 5 => .int
  | 6 => .int
  | 7 => .int
  | _ => .int
theorem nmX6 : ∀ a, a < 9 → ∀ b, b < 9 → a ≠ b → (TX6 a).2.1 ≠ (TX6 b).2.1 := by decide +kernel
theorem tyX6_ok : ∀ k, k < 9 → parseFieldDescriptor (TX6 k).2.2.1 = some (tyX6 k) := by decide +kernel
abbrev cX6_init : ByteArray := prog_8_method_1_code
def yX6_init : MethodName := ⟨RX6, "<init>", "()V"⟩
abbrev cX6_useSpare : ByteArray := prog_8_method_2_code
def yX6_useSpare : MethodName := ⟨RX6, "useSpare", "(I)V"⟩
abbrev cX6_bodyTurns : ByteArray := prog_8_method_3_code
def yX6_bodyTurns : MethodName := ⟨RX6, "bodyTurns", "()I"⟩
abbrev cX6_cut : ByteArray := prog_8_method_4_code
def yX6_cut : MethodName := ⟨RX6, "cut", "(I)I"⟩
abbrev cX6_carryOut : ByteArray := prog_8_method_5_code
def yX6_carryOut : MethodName := ⟨RX6, "carryOut", "(LSchedulary$State;)V"⟩
abbrev cX6_carryOutOne : ByteArray := prog_8_method_6_code
def yX6_carryOutOne : MethodName := ⟨RX6, "carryOutOne", "(LSchedulary$Statement;ILSchedulary$State;)V"⟩
abbrev cX6_valueOf : ByteArray := prog_8_method_7_code
def yX6_valueOf : MethodName := ⟨RX6, "valueOf", "(LSchedulary$Statement;IILSchedulary$State;)I"⟩
abbrev cX6_takeInput : ByteArray := prog_8_method_8_code
def yX6_takeInput : MethodName := ⟨RX6, "takeInput", "(LSchedulary$State;)I"⟩
abbrev cX6_write : ByteArray := prog_8_method_9_code
def yX6_write : MethodName := ⟨RX6, "write", "(LSchedulary$Statement;IILSchedulary$State;)V"⟩
def RX7 : String := "Schedulary$State"
def TX7 : u_T := fun k => match k with
  | 0 => ("Schedulary$State", "registers", "[I", true)
  | 1 => ("Schedulary$State", "memories", "[[I", true)
  | 2 => ("Schedulary$State", "outputs", "[I", true)
  | 3 => ("Schedulary$State", "outputCount", "I", false)
  | _ => ("Schedulary$State", "takenCount", "I", false)
def tyX7 : Nat → FieldType := fun k => match k with
  | 0 => .array .int
  | 1 => .array (.array .int)
  | 2 => .array .int
  | 3 => .int
  | _ => .int
theorem nmX7 : ∀ a, a < 5 → ∀ b, b < 5 → a ≠ b → (TX7 a).2.1 ≠ (TX7 b).2.1 := by decide +kernel
theorem tyX7_ok : ∀ k, k < 5 → parseFieldDescriptor (TX7 k).2.2.1 = some (tyX7 k) := by decide +kernel
abbrev cX7_init : ByteArray := prog_9_method_1_code
def yX7_init : MethodName := ⟨RX7, "<init>", "()V"⟩
abbrev cX7_begin : ByteArray := prog_9_method_2_code
def yX7_begin : MethodName := ⟨RX7, "begin", "(LSchedulary$Program;)V"⟩
abbrev cX7_isInside : ByteArray := prog_9_method_3_code
def yX7_isInside : MethodName := ⟨RX7, "isInside", "(II)Z"⟩
abbrev cX7_look : ByteArray := prog_9_method_4_code
def yX7_look : MethodName := ⟨RX7, "look", "(II)I"⟩
abbrev cX7_keep : ByteArray := prog_9_method_5_code
def yX7_keep : MethodName := ⟨RX7, "keep", "(III)V"⟩
abbrev cX7_putOut : ByteArray := prog_9_method_6_code
def yX7_putOut : MethodName := ⟨RX7, "putOut", "(I)V"⟩
abbrev cX7_isLike : ByteArray := prog_9_method_7_code
def yX7_isLike : MethodName := ⟨RX7, "isLike", "(LSchedulary$State;)Z"⟩
abbrev cX7_hasRegistersOf : ByteArray := prog_9_method_8_code
def yX7_hasRegistersOf : MethodName := ⟨RX7, "hasRegistersOf", "(LSchedulary$State;)Z"⟩
abbrev cX7_hasMemoriesOf : ByteArray := prog_9_method_9_code
def yX7_hasMemoriesOf : MethodName := ⟨RX7, "hasMemoriesOf", "(LSchedulary$State;)Z"⟩
def RX8 : String := "Schedulary$Statement"
def TX8 : u_T := fun k => match k with
  | 0 => ("Schedulary$Statement", "forms", "[I", true)
  | 1 => ("Schedulary$Statement", "numbers", "[I", true)
  | 2 => ("Schedulary$Statement", "areTurning", "[Z", true)
  | _ => ("Schedulary$Statement", "operation", "C", false)
def tyX8 : Nat → FieldType := fun k => match k with
  | 0 => .array .int
  | 1 => .array .int
  | 2 => .array .boolean
  | _ => .char
theorem nmX8 : ∀ a, a < 4 → ∀ b, b < 4 → a ≠ b → (TX8 a).2.1 ≠ (TX8 b).2.1 := by decide +kernel
theorem tyX8_ok : ∀ k, k < 4 → parseFieldDescriptor (TX8 k).2.2.1 = some (tyX8 k) := by decide +kernel
abbrev cX8_init : ByteArray := prog_10_method_1_code
def yX8_init : MethodName := ⟨RX8, "<init>", "()V"⟩
abbrev cX8_forget : ByteArray := prog_10_method_2_code
def yX8_forget : MethodName := ⟨RX8, "forget", "()V"⟩
abbrev cX8_hasOperation : ByteArray := prog_10_method_3_code
def yX8_hasOperation : MethodName := ⟨RX8, "hasOperation", "()Z"⟩
abbrev cX8_isReading : ByteArray := prog_10_method_4_code
def yX8_isReading : MethodName := ⟨RX8, "isReading", "(I)Z"⟩
abbrev cX8_placeOf : ByteArray := prog_10_method_5_code
def yX8_placeOf : MethodName := ⟨RX8, "placeOf", "(II)I"⟩
abbrev cX8_registerIn : ByteArray := prog_10_method_6_code
def yX8_registerIn : MethodName := ⟨RX8, "registerIn", "(I)I"⟩
abbrev cX8_maskOfRegister : ByteArray := prog_10_method_7_code
def yX8_maskOfRegister : MethodName := ⟨RX8, "maskOfRegister", "(I)I"⟩
abbrev cX8_kindOfOperation : ByteArray := prog_10_method_8_code
def yX8_kindOfOperation : MethodName := ⟨RX8, "kindOfOperation", "()I"⟩
abbrev cX8_operate : ByteArray := prog_10_method_9_code
def yX8_operate : MethodName := ⟨RX8, "operate", "(II)I"⟩
def RX9 : String := "Schedulary$Steps"
def TX9 : u_T := fun k => match k with
  | 0 => ("Schedulary$Steps", "soonest", "[I", true)
  | 1 => ("Schedulary$Steps", "latest", "[I", true)
  | 2 => ("Schedulary$Steps", "byLists", "[I", true)
  | 3 => ("Schedulary$Steps", "earliest", "[I", true)
  | 4 => ("Schedulary$Steps", "missing", "[I", true)
  | 5 => ("Schedulary$Steps", "begun", "[I", true)
  | _ => ("Schedulary$Steps", "waits", "[I", true)
def tyX9 : Nat → FieldType := fun k => match k with
  | 0 => .array .int
  | 1 => .array .int
  | 2 => .array .int
  | 3 => .array .int
  | 4 => .array .int
  | 5 => .array .int
  | _ => .array .int
theorem nmX9 : ∀ a, a < 7 → ∀ b, b < 7 → a ≠ b → (TX9 a).2.1 ≠ (TX9 b).2.1 := by decide +kernel
theorem tyX9_ok : ∀ k, k < 7 → parseFieldDescriptor (TX9 k).2.2.1 = some (tyX9 k) := by decide +kernel
abbrev cX9_init : ByteArray := prog_11_method_1_code
def yX9_init : MethodName := ⟨RX9, "<init>", "()V"⟩
abbrev cX9_order : ByteArray := prog_11_method_2_code
def yX9_order : MethodName := ⟨RX9, "order", "(LSchedulary$Body;LSchedulary$Graph;)V"⟩
abbrev cX9_orderSoonest : ByteArray := prog_11_method_3_code
def yX9_orderSoonest : MethodName := ⟨RX9, "orderSoonest", "(LSchedulary$Body;LSchedulary$Graph;)V"⟩
abbrev cX9_orderLatest : ByteArray := prog_11_method_4_code
def yX9_orderLatest : MethodName := ⟨RX9, "orderLatest", "(LSchedulary$Body;LSchedulary$Graph;)V"⟩
abbrev cX9_orderByLists : ByteArray := prog_11_method_5_code
def yX9_orderByLists : MethodName := ⟨RX9, "orderByLists", "(LSchedulary$Body;LSchedulary$Graph;)V"⟩
abbrev cX9_beginAllAt : ByteArray := prog_11_method_6_code
def yX9_beginAllAt : MethodName := ⟨RX9, "beginAllAt", "(LSchedulary$Body;LSchedulary$Graph;I)I"⟩
abbrev cX9_startLists : ByteArray := prog_11_method_7_code
def yX9_startLists : MethodName := ⟨RX9, "startLists", "(LSchedulary$Body;LSchedulary$Graph;)V"⟩
abbrev cX9_chooseFor : ByteArray := prog_11_method_8_code
def yX9_chooseFor : MethodName := ⟨RX9, "chooseFor", "(LSchedulary$Body;I)I"⟩
abbrev cX9_beginAt : ByteArray := prog_11_method_9_code
def yX9_beginAt : MethodName := ⟨RX9, "beginAt", "(LSchedulary$Body;LSchedulary$Graph;II)V"⟩
abbrev cX9_areInOrder : ByteArray := prog_11_method_14_code
def yX9_areInOrder : MethodName := ⟨RX9, "areInOrder", "(LSchedulary$Body;)Z"⟩
abbrev cX9_areKept : ByteArray := prog_11_method_15_code
def yX9_areKept : MethodName := ⟨RX9, "areKept", "(LSchedulary$Body;LSchedulary$Graph;)Z"⟩
def RX10 : String := "Schedulary$Text"
def TX10 : u_T := fun k => match k with
  | 0 => ("Schedulary$Text", "signs", "[C", true)
  | 1 => ("Schedulary$Text", "count", "I", false)
  | _ => ("Schedulary$Text", "at", "I", false)
def tyX10 : Nat → FieldType := fun k => match k with
  | 0 => .array .char
  | 1 => .int
  | _ => .int
theorem nmX10 : ∀ a, a < 3 → ∀ b, b < 3 → a ≠ b → (TX10 a).2.1 ≠ (TX10 b).2.1 := by decide +kernel
theorem tyX10_ok : ∀ k, k < 3 → parseFieldDescriptor (TX10 k).2.2.1 = some (tyX10 k) := by decide +kernel
abbrev cX10_init : ByteArray := prog_12_method_1_code
def yX10_init : MethodName := ⟨RX10, "<init>", "()V"⟩
abbrev cX10_append : ByteArray := prog_12_method_2_code
def yX10_append : MethodName := ⟨RX10, "append", "(C)V"⟩
abbrev cX10_empty : ByteArray := prog_12_method_3_code
def yX10_empty : MethodName := ⟨RX10, "empty", "()I"⟩
abbrev cX10_readInto : ByteArray := prog_12_method_4_code
def yX10_readInto : MethodName := ⟨RX10, "readInto", "(LSchedulary$Statement;)I"⟩
abbrev cX10_next : ByteArray := prog_12_method_5_code
def yX10_next : MethodName := ⟨RX10, "next", "()C"⟩
abbrev cX10_readSign : ByteArray := prog_12_method_6_code
def yX10_readSign : MethodName := ⟨RX10, "readSign", "(C)Z"⟩
abbrev cX10_readTarget : ByteArray := prog_12_method_7_code
def yX10_readTarget : MethodName := ⟨RX10, "readTarget", "(LSchedulary$Statement;)Z"⟩
abbrev cX10_readOperation : ByteArray := prog_12_method_8_code
def yX10_readOperation : MethodName := ⟨RX10, "readOperation", "(LSchedulary$Statement;)Z"⟩
abbrev cX10_readOperand : ByteArray := prog_12_method_9_code
def yX10_readOperand : MethodName := ⟨RX10, "readOperand", "(LSchedulary$Statement;I)Z"⟩
abbrev cX10_readRegister : ByteArray := prog_12_method_10_code
def yX10_readRegister : MethodName := ⟨RX10, "readRegister", "(LSchedulary$Statement;I)Z"⟩
abbrev cX10_readPlace : ByteArray := prog_12_method_11_code
def yX10_readPlace : MethodName := ⟨RX10, "readPlace", "(LSchedulary$Statement;I)Z"⟩
abbrev cX10_readIndex : ByteArray := prog_12_method_12_code
def yX10_readIndex : MethodName := ⟨RX10, "readIndex", "(LSchedulary$Statement;I)Z"⟩
abbrev cX10_readNumber : ByteArray := prog_12_method_13_code
def yX10_readNumber : MethodName := ⟨RX10, "readNumber", "(I)I"⟩
abbrev cX10_isDigit : ByteArray := prog_12_method_14_code
def yX10_isDigit : MethodName := ⟨RX10, "isDigit", "(C)Z"⟩
def RX11 : String := "Schedulary"
def TX11 : u_T := fun k => match k with
  | 0 => ("Schedulary", "text", "LSchedulary$Text;", true)
  | 1 => ("Schedulary", "program", "LSchedulary$Program;", true)
  | 2 => ("Schedulary", "result", "LSchedulary$State;", true)
  | 3 => ("Schedulary", "body", "LSchedulary$Body;", true)
  | 4 => ("Schedulary", "graph", "LSchedulary$Graph;", true)
  | 5 => ("Schedulary", "steps", "LSchedulary$Steps;", true)
  | 6 => ("Schedulary", "pace", "LSchedulary$Pace;", true)
  | 7 => ("Schedulary", "circuit", "LSchedulary$Circuit;", true)
  | 8 => ("Schedulary", "processes", "LSchedulary$Processes;", true)
  | 9 => ("Schedulary", "made", "I", false)
  | _ => ("Schedulary", "isCarriedOut", "Z", false)
def tyX11 : Nat → FieldType := fun k => match k with
  | 0 => .object "Schedulary$Text"
  | 1 => .object "Schedulary$Program"
  | 2 => .object "Schedulary$State"
  | 3 => .object "Schedulary$Body"
  | 4 => .object "Schedulary$Graph"
  | 5 => .object "Schedulary$Steps"
  | 6 => .object "Schedulary$Pace"
  | 7 => .object "Schedulary$Circuit"
  | 8 => .object "Schedulary$Processes"
  | 9 => .int
  | _ => .boolean
theorem nmX11 : ∀ a, a < 11 → ∀ b, b < 11 → a ≠ b → (TX11 a).2.1 ≠ (TX11 b).2.1 := by decide +kernel
theorem tyX11_ok : ∀ k, k < 11 → parseFieldDescriptor (TX11 k).2.2.1 = some (tyX11 k) := by decide +kernel
abbrev cX11_init : ByteArray := prog_1_method_1_code
def yX11_init : MethodName := ⟨RX11, "<init>", "()V"⟩
abbrev cX11_type : ByteArray := prog_1_method_2_code
def yX11_type : MethodName := ⟨RX11, "type", "(C)I"⟩
abbrev cX11_clear : ByteArray := prog_1_method_3_code
def yX11_clear : MethodName := ⟨RX11, "clear", "()I"⟩
abbrev cX11_add : ByteArray := prog_1_method_5_code
def yX11_add : MethodName := ⟨RX11, "add", "()I"⟩
abbrev cX11_replace : ByteArray := prog_1_method_6_code
def yX11_replace : MethodName := ⟨RX11, "replace", "(I)I"⟩
abbrev cX11_setTurns : ByteArray := prog_1_method_7_code
def yX11_setTurns : MethodName := ⟨RX11, "setTurns", "(I)I"⟩
abbrev cX11_setBits : ByteArray := prog_1_method_8_code
def yX11_setBits : MethodName := ⟨RX11, "setBits", "(I)I"⟩
abbrev cX11_unroll : ByteArray := prog_1_method_9_code
def yX11_unroll : MethodName := ⟨RX11, "unroll", "(I)I"⟩
abbrev cX11_input : ByteArray := prog_1_method_10_code
def yX11_input : MethodName := ⟨RX11, "input", "(I)I"⟩
abbrev cX11_setMemory : ByteArray := prog_1_method_11_code
def yX11_setMemory : MethodName := ⟨RX11, "setMemory", "(CII)I"⟩
abbrev cX11_setUnits : ByteArray := prog_1_method_12_code
def yX11_setUnits : MethodName := ⟨RX11, "setUnits", "(CI)I"⟩
abbrev cX11_setCycles : ByteArray := prog_1_method_13_code
def yX11_setCycles : MethodName := ⟨RX11, "setCycles", "(CI)I"⟩
abbrev cX11_outputs : ByteArray := prog_1_method_14_code
def yX11_outputs : MethodName := ⟨RX11, "outputs", "()I"⟩
abbrev cX11_output : ByteArray := prog_1_method_15_code
def yX11_output : MethodName := ⟨RX11, "output", "(I)I"⟩
abbrev cX11_memoryAt : ByteArray := prog_1_method_16_code
def yX11_memoryAt : MethodName := ⟨RX11, "memoryAt", "(CI)I"⟩
abbrev cX11_register : ByteArray := prog_1_method_17_code
def yX11_register : MethodName := ⟨RX11, "register", "(C)I"⟩
abbrev cX11_nodes : ByteArray := prog_1_method_19_code
def yX11_nodes : MethodName := ⟨RX11, "nodes", "()I"⟩
abbrev cX11_kindOf : ByteArray := prog_1_method_20_code
def yX11_kindOf : MethodName := ⟨RX11, "kindOf", "(I)C"⟩
abbrev cX11_statementOf : ByteArray := prog_1_method_21_code
def yX11_statementOf : MethodName := ⟨RX11, "statementOf", "(I)I"⟩
abbrev cX11_edges : ByteArray := prog_1_method_22_code
def yX11_edges : MethodName := ⟨RX11, "edges", "()I"⟩
abbrev cX11_weight : ByteArray := prog_1_method_23_code
def yX11_weight : MethodName := ⟨RX11, "weight", "(III)I"⟩
abbrev cX11_soon : ByteArray := prog_1_method_24_code
def yX11_soon : MethodName := ⟨RX11, "soon", "(I)I"⟩
abbrev cX11_late : ByteArray := prog_1_method_25_code
def yX11_late : MethodName := ⟨RX11, "late", "(I)I"⟩
abbrev cX11_step : ByteArray := prog_1_method_26_code
def yX11_step : MethodName := ⟨RX11, "step", "(I)I"⟩
abbrev cX11_byRings : ByteArray := prog_1_method_30_code
def yX11_byRings : MethodName := ⟨RX11, "byRings", "()I"⟩
abbrev cX11_byUnits : ByteArray := prog_1_method_31_code
def yX11_byUnits : MethodName := ⟨RX11, "byUnits", "()I"⟩
abbrev cX11_interval : ByteArray := prog_1_method_32_code
def yX11_interval : MethodName := ⟨RX11, "interval", "()I"⟩
abbrev cX11_place : ByteArray := prog_1_method_34_code
def yX11_place : MethodName := ⟨RX11, "place", "(I)I"⟩
abbrev cX11_circuitOutputs : ByteArray := prog_1_method_37_code
def yX11_circuitOutputs : MethodName := ⟨RX11, "circuitOutputs", "()I"⟩
abbrev cX11_circuitOutput : ByteArray := prog_1_method_38_code
def yX11_circuitOutput : MethodName := ⟨RX11, "circuitOutput", "(I)I"⟩
abbrev cX11_circuitMemory : ByteArray := prog_1_method_39_code
def yX11_circuitMemory : MethodName := ⟨RX11, "circuitMemory", "(CI)I"⟩
abbrev cX11_isSame : ByteArray := prog_1_method_40_code
def yX11_isSame : MethodName := ⟨RX11, "isSame", "()Z"⟩
abbrev cX11_action : ByteArray := prog_1_method_41_code
def yX11_action : MethodName := ⟨RX11, "action", "(IIZ)I"⟩
abbrev cX11_setDepth : ByteArray := prog_1_method_42_code
def yX11_setDepth : MethodName := ⟨RX11, "setDepth", "(II)I"⟩
abbrev cX11_done : ByteArray := prog_1_method_43_code
def yX11_done : MethodName := ⟨RX11, "done", "()I"⟩
abbrev cX11_waitsFor : ByteArray := prog_1_method_44_code
def yX11_waitsFor : MethodName := ⟨RX11, "waitsFor", "(I)I"⟩
abbrev cX11_areLocked : ByteArray := prog_1_method_45_code
def yX11_areLocked : MethodName := ⟨RX11, "areLocked", "()Z"⟩
abbrev cX11_leastDepth : ByteArray := prog_1_method_46_code
def yX11_leastDepth : MethodName := ⟨RX11, "leastDepth", "()I"⟩
abbrev cX11_busyShare : ByteArray := prog_1_method_48_code
def yX11_busyShare : MethodName := ⟨RX11, "busyShare", "(C)F"⟩
abbrev cX11_isSound : ByteArray := prog_1_method_50_code
def yX11_isSound : MethodName := ⟨RX11, "isSound", "()Z"⟩
abbrev cX11_isWithin : ByteArray := prog_1_method_51_code
def yX11_isWithin : MethodName := ⟨RX11, "isWithin", "(III)Z"⟩
abbrev cX11_isDivided : ByteArray := prog_1_method_52_code
def yX11_isDivided : MethodName := ⟨RX11, "isDivided", "(II)Z"⟩
abbrev cX11_isPlace : ByteArray := prog_1_method_53_code
def yX11_isPlace : MethodName := ⟨RX11, "isPlace", "(CI)Z"⟩
abbrev cX11_checkNode : ByteArray := prog_1_method_54_code
def yX11_checkNode : MethodName := ⟨RX11, "checkNode", "(I)V"⟩
abbrev cX11_changeBody : ByteArray := prog_1_method_55_code
def yX11_changeBody : MethodName := ⟨RX11, "changeBody", "()V"⟩
abbrev cX11_changeValues : ByteArray := prog_1_method_56_code
def yX11_changeValues : MethodName := ⟨RX11, "changeValues", "()V"⟩
abbrev cX11_carryOut : ByteArray := prog_1_method_57_code
def yX11_carryOut : MethodName := ⟨RX11, "carryOut", "()V"⟩
abbrev cX11_prepare : ByteArray := prog_1_method_58_code
def yX11_prepare : MethodName := ⟨RX11, "prepare", "(I)V"⟩
def RX12 : String := "SchedularyModel"
def TX12 : u_T := fun k => match k with
  | _ => ("", "", "", false)
def tyX12 : Nat → FieldType := fun k => match k with
  | _ => .int
theorem nmX12 : ∀ a, a < 0 → ∀ b, b < 0 → a ≠ b → (TX12 a).2.1 ≠ (TX12 b).2.1 := by decide +kernel
theorem tyX12_ok : ∀ k, k < 0 → parseFieldDescriptor (TX12 k).2.2.1 = some (tyX12 k) := by decide +kernel
def RJx145de : String := "java/io/Serializable"
def TJx145de : u_T := fun k => match k with
  | _ => ("", "", "", false)
def tyJx145de : Nat → FieldType := fun k => match k with
  | _ => .int
theorem nmJx145de : ∀ a, a < 0 → ∀ b, b < 0 → a ≠ b → (TJx145de a).2.1 ≠ (TJx145de b).2.1 := by decide +kernel
theorem tyJx145de_ok : ∀ k, k < 0 → parseFieldDescriptor (TJx145de k).2.2.1 = some (tyJx145de k) := by decide +kernel
def RJ5 : String := "java/lang/AbstractStringBuilder"
def TJ5 : u_T := fun k => match k with
  | _ => ("", "", "", false)
def tyJ5 : Nat → FieldType := fun k => match k with
  | _ => .int
theorem nmJ5 : ∀ a, a < 0 → ∀ b, b < 0 → a ≠ b → (TJ5 a).2.1 ≠ (TJ5 b).2.1 := by decide +kernel
theorem tyJ5_ok : ∀ k, k < 0 → parseFieldDescriptor (TJ5 k).2.2.1 = some (tyJ5 k) := by decide +kernel
abbrev cJ5_init_d00df : ByteArray := prog_16_method_2_code
def yJ5_init_d00df : MethodName := ⟨RJ5, "<init>", "(I)V"⟩
abbrev cJ5_length_8abf5 : ByteArray := prog_16_method_6_code
def yJ5_length_8abf5 : MethodName := ⟨RJ5, "length", "()I"⟩
abbrev cJ5_ensureCapacityInternal_d00df : ByteArray := prog_16_method_9_code
def yJ5_ensureCapacityInternal_d00df : MethodName := ⟨RJ5, "ensureCapacityInternal", "(I)V"⟩
abbrev cJ5_newCapacity_0f7a4 : ByteArray := prog_16_method_10_code
def yJ5_newCapacity_0f7a4 : MethodName := ⟨RJ5, "newCapacity", "(I)I"⟩
abbrev cJ5_inflate_da8c8 : ByteArray := prog_16_method_11_code
def yJ5_inflate_da8c8 : MethodName := ⟨RJ5, "inflate", "()V"⟩
abbrev cJ5_append_cf1ce : ByteArray := prog_16_method_22_code
def yJ5_append_cf1ce : MethodName := ⟨RJ5, "append", "(Ljava/lang/String;)Ljava/lang/AbstractStringBuilder;"⟩
abbrev cJ5_appendNull_278bc : ByteArray := prog_16_method_26_code
def yJ5_appendNull_278bc : MethodName := ⟨RJ5, "appendNull", "()Ljava/lang/AbstractStringBuilder;"⟩
abbrev cJ5_append_3fe6f : ByteArray := prog_16_method_31_code
def yJ5_append_3fe6f : MethodName := ⟨RJ5, "append", "(C)Ljava/lang/AbstractStringBuilder;"⟩
abbrev cJ5_append_c97b9 : ByteArray := prog_16_method_32_code
def yJ5_append_c97b9 : MethodName := ⟨RJ5, "append", "(I)Ljava/lang/AbstractStringBuilder;"⟩
abbrev cJ5_getValue_6d5f1 : ByteArray := prog_16_method_64_code
def yJ5_getValue_6d5f1 : MethodName := ⟨RJ5, "getValue", "()[B"⟩
abbrev cJ5_isLatin1_aae02 : ByteArray := prog_16_method_68_code
def yJ5_isLatin1_aae02 : MethodName := ⟨RJ5, "isLatin1", "()Z"⟩
abbrev cJ5_inflateIfNeededFor_a7421 : ByteArray := prog_16_method_71_code
def yJ5_inflateIfNeededFor_a7421 : MethodName := ⟨RJ5, "inflateIfNeededFor", "(Ljava/lang/String;)V"⟩
abbrev cJ5_putStringAt_47b60 : ByteArray := prog_16_method_73_code
def yJ5_putStringAt_47b60 : MethodName := ⟨RJ5, "putStringAt", "(ILjava/lang/String;)V"⟩
def RJx2cfe8 : String := "java/lang/Appendable"
def TJx2cfe8 : u_T := fun k => match k with
  | _ => ("", "", "", false)
def tyJx2cfe8 : Nat → FieldType := fun k => match k with
  | _ => .int
theorem nmJx2cfe8 : ∀ a, a < 0 → ∀ b, b < 0 → a ≠ b → (TJx2cfe8 a).2.1 ≠ (TJx2cfe8 b).2.1 := by decide +kernel
theorem tyJx2cfe8_ok : ∀ k, k < 0 → parseFieldDescriptor (TJx2cfe8 k).2.2.1 = some (tyJx2cfe8 k) := by decide +kernel
def RJx00060 : String := "java/lang/ArrayIndexOutOfBoundsException"
def TJx00060 : u_T := fun k => match k with
  | 0 => ("java/lang/Throwable", "backtrace", "Ljava/lang/Object;", false)
  | 1 => ("java/lang/Throwable", "detailMessage", "Ljava/lang/String;", false)
  | 2 => ("java/lang/Throwable", "cause", "Ljava/lang/Throwable;", false)
  | 3 => ("java/lang/Throwable", "stackTrace", "[Ljava/lang/StackTraceElement;", false)
  | 4 => ("java/lang/Throwable", "depth", "I", false)
  | _ => ("java/lang/Throwable", "suppressedExceptions", "Ljava/util/List;", false)
def tyJx00060 : Nat → FieldType := fun k => match k with
  | 0 => .object "java/lang/Object"
  | 1 => .object "java/lang/String"
  | 2 => .object "java/lang/Throwable"
  | 3 => .array (.object "java/lang/StackTraceElement")
  | 4 => .int
  | _ => .object "java/util/List"
theorem nmJx00060 : ∀ a, a < 6 → ∀ b, b < 6 → a ≠ b → (TJx00060 a).2.1 ≠ (TJx00060 b).2.1 := by decide +kernel
theorem tyJx00060_ok : ∀ k, k < 6 → parseFieldDescriptor (TJx00060 k).2.2.1 = some (tyJx00060 k) := by decide +kernel
abbrev cJx00060_init_a7421 : ByteArray := prog_18_method_2_code
def yJx00060_init_a7421 : MethodName := ⟨RJx00060, "<init>", "(Ljava/lang/String;)V"⟩
def RJx9f9b0 : String := "java/lang/CharSequence"
def TJx9f9b0 : u_T := fun k => match k with
  | _ => ("", "", "", false)
def tyJx9f9b0 : Nat → FieldType := fun k => match k with
  | _ => .int
theorem nmJx9f9b0 : ∀ a, a < 0 → ∀ b, b < 0 → a ≠ b → (TJx9f9b0 a).2.1 ≠ (TJx9f9b0 b).2.1 := by decide +kernel
theorem tyJx9f9b0_ok : ∀ k, k < 0 → parseFieldDescriptor (TJx9f9b0 k).2.2.1 = some (tyJx9f9b0 k) := by decide +kernel
def RJ11 : String := "java/lang/Character"
def TJ11 : u_T := fun k => match k with
  | _ => ("", "", "", false)
def tyJ11 : Nat → FieldType := fun k => match k with
  | _ => .int
theorem nmJ11 : ∀ a, a < 0 → ∀ b, b < 0 → a ≠ b → (TJ11 a).2.1 ≠ (TJ11 b).2.1 := by decide +kernel
theorem tyJ11_ok : ∀ k, k < 0 → parseFieldDescriptor (TJ11 k).2.2.1 = some (tyJ11 k) := by decide +kernel
abbrev cJ11_isValidCodePoint_9a6ad : ByteArray := prog_20_method_11_code
def yJ11_isValidCodePoint_9a6ad : MethodName := ⟨RJ11, "isValidCodePoint", "(I)Z"⟩
abbrev cJ11_highSurrogate_5068e : ByteArray := prog_20_method_28_code
def yJ11_highSurrogate_5068e : MethodName := ⟨RJ11, "highSurrogate", "(I)C"⟩
abbrev cJ11_lowSurrogate_5068e : ByteArray := prog_20_method_29_code
def yJ11_lowSurrogate_5068e : MethodName := ⟨RJ11, "lowSurrogate", "(I)C"⟩
def RJx8e188 : String := "java/lang/Cloneable"
def TJx8e188 : u_T := fun k => match k with
  | _ => ("", "", "", false)
def tyJx8e188 : Nat → FieldType := fun k => match k with
  | _ => .int
theorem nmJx8e188 : ∀ a, a < 0 → ∀ b, b < 0 → a ≠ b → (TJx8e188 a).2.1 ≠ (TJx8e188 b).2.1 := by decide +kernel
theorem tyJx8e188_ok : ∀ k, k < 0 → parseFieldDescriptor (TJx8e188 k).2.2.1 = some (tyJx8e188 k) := by decide +kernel
def RJxb160c : String := "java/lang/Comparable"
def TJxb160c : u_T := fun k => match k with
  | _ => ("", "", "", false)
def tyJxb160c : Nat → FieldType := fun k => match k with
  | _ => .int
theorem nmJxb160c : ∀ a, a < 0 → ∀ b, b < 0 → a ≠ b → (TJxb160c a).2.1 ≠ (TJxb160c b).2.1 := by decide +kernel
theorem tyJxb160c_ok : ∀ k, k < 0 → parseFieldDescriptor (TJxb160c k).2.2.1 = some (tyJxb160c k) := by decide +kernel
def RJ6 : String := "java/lang/Integer"
def TJ6 : u_T := fun k => match k with
  | _ => ("", "", "", false)
def tyJ6 : Nat → FieldType := fun k => match k with
  | _ => .int
theorem nmJ6 : ∀ a, a < 0 → ∀ b, b < 0 → a ≠ b → (TJ6 a).2.1 ≠ (TJ6 b).2.1 := by decide +kernel
theorem tyJ6_ok : ∀ k, k < 0 → parseFieldDescriptor (TJ6 k).2.2.1 = some (tyJ6 k) := by decide +kernel
abbrev cJ6_toString_b52d3 : ByteArray := prog_27_method_10_code
def yJ6_toString_b52d3 : MethodName := ⟨RJ6, "toString", "(I)Ljava/lang/String;"⟩
abbrev cJ6_getChars_ba4f3 : ByteArray := prog_27_method_12_code
def yJ6_getChars_ba4f3 : MethodName := ⟨RJ6, "getChars", "(II[B)I"⟩
abbrev cJ6_stringSize_0f7a4 : ByteArray := prog_27_method_13_code
def yJ6_stringSize_0f7a4 : MethodName := ⟨RJ6, "stringSize", "(I)I"⟩
def RJ9 : String := "java/lang/Math"
def TJ9 : u_T := fun k => match k with
  | _ => ("", "", "", false)
def tyJ9 : Nat → FieldType := fun k => match k with
  | _ => .int
theorem nmJ9 : ∀ a, a < 0 → ∀ b, b < 0 → a ≠ b → (TJ9 a).2.1 ≠ (TJ9 b).2.1 := by decide +kernel
theorem tyJ9_ok : ∀ k, k < 0 → parseFieldDescriptor (TJ9 k).2.2.1 = some (tyJ9 k) := by decide +kernel
abbrev cJ9_max_7cf53 : ByteArray := prog_28_method_65_code
def yJ9_max_7cf53 : MethodName := ⟨RJ9, "max", "(II)I"⟩
abbrev cJ9_min_7cf53 : ByteArray := prog_28_method_69_code
def yJ9_min_7cf53 : MethodName := ⟨RJ9, "min", "(II)I"⟩
def RJxd2413 : String := "java/lang/Number"
def TJxd2413 : u_T := fun k => match k with
  | _ => ("", "", "", false)
def tyJxd2413 : Nat → FieldType := fun k => match k with
  | _ => .int
theorem nmJxd2413 : ∀ a, a < 0 → ∀ b, b < 0 → a ≠ b → (TJxd2413 a).2.1 ≠ (TJxd2413 b).2.1 := by decide +kernel
theorem tyJxd2413_ok : ∀ k, k < 0 → parseFieldDescriptor (TJxd2413 k).2.2.1 = some (tyJxd2413 k) := by decide +kernel
def RJ0 : String := "java/lang/String"
def TJ0 : u_T := fun k => match k with
  | 0 => ("java/lang/String", "value", "[B", true)
  | 1 => ("java/lang/String", "coder", "B", true)
  | 2 => ("java/lang/String", "hash", "I", false)
  | _ => ("java/lang/String", "hashIsZero", "Z", false)
def tyJ0 : Nat → FieldType := fun k => match k with
  | 0 => .array .byte
  | 1 => .byte
  | 2 => .int
  | _ => .boolean
theorem nmJ0 : ∀ a, a < 4 → ∀ b, b < 4 → a ≠ b → (TJ0 a).2.1 ≠ (TJ0 b).2.1 := by decide +kernel
theorem tyJ0_ok : ∀ k, k < 4 → parseFieldDescriptor (TJ0 k).2.2.1 = some (tyJ0 k) := by decide +kernel
abbrev cJ0_init_81219 : ByteArray := prog_31_method_53_code
def yJ0_init_81219 : MethodName := ⟨RJ0, "<init>", "(Ljava/lang/StringBuilder;)V"⟩
abbrev cJ0_length_8abf5 : ByteArray := prog_31_method_54_code
def yJ0_length_8abf5 : MethodName := ⟨RJ0, "length", "()I"⟩
abbrev cJ0_charAt_5068e : ByteArray := prog_31_method_56_code
def yJ0_charAt_5068e : MethodName := ⟨RJ0, "charAt", "(I)C"⟩
abbrev cJ0_indexOf_0f7a4 : ByteArray := prog_31_method_79_code
def yJ0_indexOf_0f7a4 : MethodName := ⟨RJ0, "indexOf", "(I)I"⟩
abbrev cJ0_indexOf_7cf53 : ByteArray := prog_31_method_80_code
def yJ0_indexOf_7cf53 : MethodName := ⟨RJ0, "indexOf", "(II)I"⟩
abbrev cJ0_valueOf_756af : ByteArray := prog_31_method_139_code
def yJ0_valueOf_756af : MethodName := ⟨RJ0, "valueOf", "(C)Ljava/lang/String;"⟩
abbrev cJ0_valueOf_b52d3 : ByteArray := prog_31_method_140_code
def yJ0_valueOf_b52d3 : MethodName := ⟨RJ0, "valueOf", "(I)Ljava/lang/String;"⟩
abbrev cJ0_getBytes_840e7 : ByteArray := prog_31_method_147_code
def yJ0_getBytes_840e7 : MethodName := ⟨RJ0, "getBytes", "([BIB)V"⟩
abbrev cJ0_init_db425 : ByteArray := prog_31_method_150_code
def yJ0_init_db425 : MethodName := ⟨RJ0, "<init>", "(Ljava/lang/AbstractStringBuilder;Ljava/lang/Void;)V"⟩
abbrev cJ0_init_031fb : ByteArray := prog_31_method_151_code
def yJ0_init_031fb : MethodName := ⟨RJ0, "<init>", "([BB)V"⟩
abbrev cJ0_coder_7d493 : ByteArray := prog_31_method_152_code
def yJ0_coder_7d493 : MethodName := ⟨RJ0, "coder", "()B"⟩
abbrev cJ0_isLatin1_aae02 : ByteArray := prog_31_method_154_code
def yJ0_isLatin1_aae02 : MethodName := ⟨RJ0, "isLatin1", "()Z"⟩
abbrev cJ0_checkIndex_df160 : ByteArray := prog_31_method_155_code
def yJ0_checkIndex_df160 : MethodName := ⟨RJ0, "checkIndex", "(II)V"⟩
abbrev cJ0_checkBoundsOffCount_cabcc : ByteArray := prog_31_method_157_code
def yJ0_checkBoundsOffCount_cabcc : MethodName := ⟨RJ0, "checkBoundsOffCount", "(III)I"⟩
abbrev cJ0_checkBoundsBeginEnd_23922 : ByteArray := prog_31_method_158_code
def yJ0_checkBoundsBeginEnd_23922 : MethodName := ⟨RJ0, "checkBoundsBeginEnd", "(III)V"⟩
def RJ4 : String := "java/lang/StringBuilder"
def TJ4 : u_T := fun k => match k with
  | 0 => ("java/lang/AbstractStringBuilder", "value", "[B", false)
  | 1 => ("java/lang/AbstractStringBuilder", "coder", "B", false)
  | 2 => ("java/lang/AbstractStringBuilder", "maybeLatin1", "Z", false)
  | _ => ("java/lang/AbstractStringBuilder", "count", "I", false)
def tyJ4 : Nat → FieldType := fun k => match k with
  | 0 => .array .byte
  | 1 => .byte
  | 2 => .boolean
  | _ => .int
theorem nmJ4 : ∀ a, a < 4 → ∀ b, b < 4 → a ≠ b → (TJ4 a).2.1 ≠ (TJ4 b).2.1 := by decide +kernel
theorem tyJ4_ok : ∀ k, k < 4 → parseFieldDescriptor (TJ4 k).2.2.1 = some (tyJ4 k) := by decide +kernel
abbrev cJ4_init_da8c8 : ByteArray := prog_32_method_1_code
def yJ4_init_da8c8 : MethodName := ⟨RJ4, "<init>", "()V"⟩
abbrev cJ4_append_15ec4 : ByteArray := prog_32_method_7_code
def yJ4_append_15ec4 : MethodName := ⟨RJ4, "append", "(Ljava/lang/String;)Ljava/lang/StringBuilder;"⟩
abbrev cJ4_append_cf468 : ByteArray := prog_32_method_14_code
def yJ4_append_cf468 : MethodName := ⟨RJ4, "append", "(C)Ljava/lang/StringBuilder;"⟩
abbrev cJ4_append_bf812 : ByteArray := prog_32_method_15_code
def yJ4_append_bf812 : MethodName := ⟨RJ4, "append", "(I)Ljava/lang/StringBuilder;"⟩
abbrev cJ4_toString_0e30d : ByteArray := prog_32_method_42_code
def yJ4_toString_0e30d : MethodName := ⟨RJ4, "toString", "()Ljava/lang/String;"⟩
abbrev cJ4_length_8abf5 : ByteArray := prog_32_method_93_code
def yJ4_length_8abf5 : MethodName := ⟨RJ4, "length", "()I"⟩
def RJ1 : String := "java/lang/StringLatin1"
def TJ1 : u_T := fun k => match k with
  | _ => ("", "", "", false)
def tyJ1 : Nat → FieldType := fun k => match k with
  | _ => .int
theorem nmJ1 : ∀ a, a < 0 → ∀ b, b < 0 → a ≠ b → (TJ1 a).2.1 ≠ (TJ1 b).2.1 := by decide +kernel
theorem tyJ1_ok : ∀ k, k < 0 → parseFieldDescriptor (TJ1 k).2.2.1 = some (tyJ1 k) := by decide +kernel
abbrev cJ1_charAt_3b067 : ByteArray := prog_33_method_2_code
def yJ1_charAt_3b067 : MethodName := ⟨RJ1, "charAt", "([BI)C"⟩
abbrev cJ1_canEncode_fc78d : ByteArray := prog_33_method_3_code
def yJ1_canEncode_fc78d : MethodName := ⟨RJ1, "canEncode", "(C)Z"⟩
abbrev cJ1_canEncode_9a6ad : ByteArray := prog_33_method_4_code
def yJ1_canEncode_9a6ad : MethodName := ⟨RJ1, "canEncode", "(I)Z"⟩
abbrev cJ1_indexOf_4cfef : ByteArray := prog_33_method_22_code
def yJ1_indexOf_4cfef : MethodName := ⟨RJ1, "indexOf", "([BIII)I"⟩
abbrev cJ1_indexOfChar_4cfef : ByteArray := prog_33_method_23_code
def yJ1_indexOfChar_4cfef : MethodName := ⟨RJ1, "indexOfChar", "([BIII)I"⟩
abbrev cJ1_toBytes_a14e5 : ByteArray := prog_33_method_46_code
def yJ1_toBytes_a14e5 : MethodName := ⟨RJ1, "toBytes", "(C)[B"⟩
abbrev cJ1_inflate_0e8fd : ByteArray := prog_33_method_50_code
def yJ1_inflate_0e8fd : MethodName := ⟨RJ1, "inflate", "([BI[BII)V"⟩
def RJ2 : String := "java/lang/StringUTF16"
def TJ2 : u_T := fun k => match k with
  | _ => ("", "", "", false)
def tyJ2 : Nat → FieldType := fun k => match k with
  | _ => .int
theorem nmJ2 : ∀ a, a < 0 → ∀ b, b < 0 → a ≠ b → (TJ2 a).2.1 ≠ (TJ2 b).2.1 := by decide +kernel
theorem tyJ2_ok : ∀ k, k < 0 → parseFieldDescriptor (TJ2 k).2.2.1 = some (tyJ2 k) := by decide +kernel
abbrev cJ2_newBytesFor_77867 : ByteArray := prog_34_method_2_code
def yJ2_newBytesFor_77867 : MethodName := ⟨RJ2, "newBytesFor", "(I)[B"⟩
abbrev cJ2_newBytesLength_0f7a4 : ByteArray := prog_34_method_3_code
def yJ2_newBytesLength_0f7a4 : MethodName := ⟨RJ2, "newBytesLength", "(I)I"⟩
abbrev cJ2_putChar_b72d1 : ByteArray := prog_34_method_4_code
def yJ2_putChar_b72d1 : MethodName := ⟨RJ2, "putChar", "([BII)V"⟩
abbrev cJ2_getChar_3b067 : ByteArray := prog_34_method_5_code
def yJ2_getChar_3b067 : MethodName := ⟨RJ2, "getChar", "([BI)C"⟩
abbrev cJ2_length_9d52b : ByteArray := prog_34_method_6_code
def yJ2_length_9d52b : MethodName := ⟨RJ2, "length", "([B)I"⟩
abbrev cJ2_coderFromArrayLen_85cad : ByteArray := prog_34_method_15_code
def yJ2_coderFromArrayLen_85cad : MethodName := ⟨RJ2, "coderFromArrayLen", "([BI)B"⟩
abbrev cJ2_compress_39247 : ByteArray := prog_34_method_17_code
def yJ2_compress_39247 : MethodName := ⟨RJ2, "compress", "([BII)[B"⟩
abbrev cJ2_compress_5af95 : ByteArray := prog_34_method_22_code
def yJ2_compress_5af95 : MethodName := ⟨RJ2, "compress", "([BI[BII)I"⟩
abbrev cJ2_toBytes_a14e5 : ByteArray := prog_34_method_24_code
def yJ2_toBytes_a14e5 : MethodName := ⟨RJ2, "toBytes", "(C)[B"⟩
abbrev cJ2_indexOf_4cfef : ByteArray := prog_34_method_40_code
def yJ2_indexOf_4cfef : MethodName := ⟨RJ2, "indexOf", "([BIII)I"⟩
abbrev cJ2_indexOfChar_4cfef : ByteArray := prog_34_method_47_code
def yJ2_indexOfChar_4cfef : MethodName := ⟨RJ2, "indexOfChar", "([BIII)I"⟩
abbrev cJ2_indexOfCharUnsafe_4cfef : ByteArray := prog_34_method_48_code
def yJ2_indexOfCharUnsafe_4cfef : MethodName := ⟨RJ2, "indexOfCharUnsafe", "([BIII)I"⟩
abbrev cJ2_indexOfSupplementary_4cfef : ByteArray := prog_34_method_49_code
def yJ2_indexOfSupplementary_4cfef : MethodName := ⟨RJ2, "indexOfSupplementary", "([BIII)I"⟩
abbrev cJ2_putCharSB_b72d1 : ByteArray := prog_34_method_71_code
def yJ2_putCharSB_b72d1 : MethodName := ⟨RJ2, "putCharSB", "([BII)V"⟩
abbrev cJ2_getChars_46870 : ByteArray := prog_34_method_77_code
def yJ2_getChars_46870 : MethodName := ⟨RJ2, "getChars", "(III[B)I"⟩
abbrev cJ2_putCharsAt_cd4e5 : ByteArray := prog_34_method_81_code
def yJ2_putCharsAt_cd4e5 : MethodName := ⟨RJ2, "putCharsAt", "([BICCCC)I"⟩
abbrev cJ2_charAt_3b067 : ByteArray := prog_34_method_83_code
def yJ2_charAt_3b067 : MethodName := ⟨RJ2, "charAt", "([BI)C"⟩
abbrev cJ2_inflate_0e8fd : ByteArray := prog_34_method_86_code
def yJ2_inflate_0e8fd : MethodName := ⟨RJ2, "inflate", "([BI[BII)V"⟩
abbrev cJ2_getChars_ba4f3 : ByteArray := prog_34_method_89_code
def yJ2_getChars_ba4f3 : MethodName := ⟨RJ2, "getChars", "(II[B)I"⟩
abbrev cJ2_checkIndex_2214a : ByteArray := prog_34_method_91_code
def yJ2_checkIndex_2214a : MethodName := ⟨RJ2, "checkIndex", "(I[B)V"⟩
abbrev cJ2_checkBoundsBeginEnd_d044e : ByteArray := prog_34_method_93_code
def yJ2_checkBoundsBeginEnd_d044e : MethodName := ⟨RJ2, "checkBoundsBeginEnd", "(II[B)V"⟩
abbrev cJ2_checkBoundsOffCount_d044e : ByteArray := prog_34_method_94_code
def yJ2_checkBoundsOffCount_d044e : MethodName := ⟨RJ2, "checkBoundsOffCount", "(II[B)V"⟩
def RJ10 : String := "java/lang/System"
def TJ10 : u_T := fun k => match k with
  | _ => ("", "", "", false)
def tyJ10 : Nat → FieldType := fun k => match k with
  | _ => .int
theorem nmJ10 : ∀ a, a < 0 → ∀ b, b < 0 → a ≠ b → (TJ10 a).2.1 ≠ (TJ10 b).2.1 := by decide +kernel
theorem tyJ10_ok : ∀ k, k < 0 → parseFieldDescriptor (TJ10 k).2.2.1 = some (tyJ10 k) := by decide +kernel
def RJxfd54e : String := "java/lang/constant/Constable"
def TJxfd54e : u_T := fun k => match k with
  | _ => ("", "", "", false)
def tyJxfd54e : Nat → FieldType := fun k => match k with
  | _ => .int
theorem nmJxfd54e : ∀ a, a < 0 → ∀ b, b < 0 → a ≠ b → (TJxfd54e a).2.1 ≠ (TJxfd54e b).2.1 := by decide +kernel
theorem tyJxfd54e_ok : ∀ k, k < 0 → parseFieldDescriptor (TJxfd54e k).2.2.1 = some (tyJxfd54e k) := by decide +kernel
def RJx3cf43 : String := "java/lang/constant/ConstantDesc"
def TJx3cf43 : u_T := fun k => match k with
  | _ => ("", "", "", false)
def tyJx3cf43 : Nat → FieldType := fun k => match k with
  | _ => .int
theorem nmJx3cf43 : ∀ a, a < 0 → ∀ b, b < 0 → a ≠ b → (TJx3cf43 a).2.1 ≠ (TJx3cf43 b).2.1 := by decide +kernel
theorem tyJx3cf43_ok : ∀ k, k < 0 → parseFieldDescriptor (TJx3cf43 k).2.2.1 = some (tyJx3cf43 k) := by decide +kernel
def RJ7 : String := "java/util/Arrays"
def TJ7 : u_T := fun k => match k with
  | _ => ("", "", "", false)
def tyJ7 : Nat → FieldType := fun k => match k with
  | _ => .int
theorem nmJ7 : ∀ a, a < 0 → ∀ b, b < 0 → a ≠ b → (TJ7 a).2.1 ≠ (TJ7 b).2.1 := by decide +kernel
theorem tyJ7_ok : ∀ k, k < 0 → parseFieldDescriptor (TJ7 k).2.2.1 = some (tyJ7 k) := by decide +kernel
abbrev cJ7_copyOf_9075b : ByteArray := prog_40_method_121_code
def yJ7_copyOf_9075b : MethodName := ⟨RJ7, "copyOf", "([BI)[B"⟩
abbrev cJ7_checkLength_df160 : ByteArray := prog_40_method_131_code
def yJ7_checkLength_df160 : MethodName := ⟨RJ7, "checkLength", "(II)V"⟩
abbrev cJ7_copyOfRange_39247 : ByteArray := prog_40_method_132_code
def yJ7_copyOfRange_39247 : MethodName := ⟨RJ7, "copyOfRange", "([BII)[B"⟩
abbrev cJ7_copyOfRangeByte_39247 : ByteArray := prog_40_method_133_code
def yJ7_copyOfRangeByte_39247 : MethodName := ⟨RJ7, "copyOfRangeByte", "([BII)[B"⟩
def RJ8 : String := "jdk/internal/util/ArraysSupport"
def TJ8 : u_T := fun k => match k with
  | _ => ("", "", "", false)
def tyJ8 : Nat → FieldType := fun k => match k with
  | _ => .int
theorem nmJ8 : ∀ a, a < 0 → ∀ b, b < 0 → a ≠ b → (TJ8 a).2.1 ≠ (TJ8 b).2.1 := by decide +kernel
theorem tyJ8_ok : ∀ k, k < 0 → parseFieldDescriptor (TJ8 k).2.2.1 = some (tyJ8 k) := by decide +kernel
abbrev cJ8_newLength_cabcc : ByteArray := prog_42_method_27_code
def yJ8_newLength_cabcc : MethodName := ⟨RJ8, "newLength", "(III)I"⟩
abbrev cJ8_hugeLength_7cf53 : ByteArray := prog_42_method_28_code
def yJ8_hugeLength_7cf53 : MethodName := ⟨RJ8, "hugeLength", "(II)I"⟩
def RJ3 : String := "jdk/internal/util/Preconditions"
def TJ3 : u_T := fun k => match k with
  | _ => ("", "", "", false)
def tyJ3 : Nat → FieldType := fun k => match k with
  | _ => .int
theorem nmJ3 : ∀ a, a < 0 → ∀ b, b < 0 → a ≠ b → (TJ3 a).2.1 ≠ (TJ3 b).2.1 := by decide +kernel
theorem tyJ3_ok : ∀ k, k < 0 → parseFieldDescriptor (TJ3 k).2.2.1 = some (tyJ3 k) := by decide +kernel
abbrev cJ3_checkIndex_8e157 : ByteArray := prog_43_method_11_code
def yJ3_checkIndex_8e157 : MethodName := ⟨RJ3, "checkIndex", "(IILjava/util/function/BiFunction;)I"⟩
abbrev cJ3_checkFromToIndex_8c36e : ByteArray := prog_43_method_12_code
def yJ3_checkFromToIndex_8c36e : MethodName := ⟨RJ3, "checkFromToIndex", "(IIILjava/util/function/BiFunction;)I"⟩
abbrev cJ3_checkFromIndexSize_8c36e : ByteArray := prog_43_method_13_code
def yJ3_checkFromIndexSize_8c36e : MethodName := ⟨RJ3, "checkFromIndexSize", "(IIILjava/util/function/BiFunction;)I"⟩
def RL : String := "SchedularyLaw"
abbrev cL_cell : ByteArray := method_2_code
def yL_cell : MethodName := ⟨RL, "cell", "([II)I"⟩
abbrev cL_pick : ByteArray := method_3_code
def yL_pick : MethodName := ⟨RL, "pick", "([III)I"⟩
abbrev cL_told : ByteArray := method_4_code
def yL_told : MethodName := ⟨RL, "told", "(Z)I"⟩
abbrev cL_done : ByteArray := method_5_code
def yL_done : MethodName := ⟨RL, "done", "(LSchedulary;IIII)I"⟩
abbrev cL_asked : ByteArray := method_6_code
def yL_asked : MethodName := ⟨RL, "asked", "(LSchedulary;IIII)I"⟩
abbrev cL_deed : ByteArray := method_7_code
def yL_deed : MethodName := ⟨RL, "deed", "(LSchedulary;IIII)I"⟩
abbrev cL_ask : ByteArray := method_8_code
def yL_ask : MethodName := ⟨RL, "ask", "(LSchedulary;III)I"⟩
abbrev cL_type : ByteArray := method_9_code
def yL_type : MethodName := ⟨RL, "type", "(LSchedulary;Ljava/lang/String;)V"⟩
abbrev cL_add : ByteArray := method_10_code
def yL_add : MethodName := ⟨RL, "add", "(LSchedulary;Ljava/lang/String;)I"⟩
abbrev cL_register : ByteArray := method_11_code
def yL_register : MethodName := ⟨RL, "register", "([II)Ljava/lang/String;"⟩
abbrev cL_index : ByteArray := method_12_code
def yL_index : MethodName := ⟨RL, "index", "([II)Ljava/lang/String;"⟩
abbrev cL_memory : ByteArray := method_13_code
def yL_memory : MethodName := ⟨RL, "memory", "([II)Ljava/lang/String;"⟩
abbrev cL_operand : ByteArray := method_14_code
def yL_operand : MethodName := ⟨RL, "operand", "([II)Ljava/lang/String;"⟩
abbrev cL_statement : ByteArray := method_15_code
def yL_statement : MethodName := ⟨RL, "statement", "([II)Ljava/lang/String;"⟩
abbrev cL_isWritten : ByteArray := method_16_code
def yL_isWritten : MethodName := ⟨RL, "isWritten", "(LSchedulary;[I)Z"⟩
abbrev cL_isSame : ByteArray := method_17_code
def yL_isSame : MethodName := ⟨RL, "isSame", "(LSchedulary;)Z"⟩
abbrev cL_row : ByteArray := method_18_code
def yL_row : MethodName := ⟨RL, "row", "(LSchedulary;I)[I"⟩
abbrev cL_areKept : ByteArray := method_19_code
def yL_areKept : MethodName := ⟨RL, "areKept", "(LSchedulary;)Z"⟩
abbrev cL_units : ByteArray := method_20_code
def yL_units : MethodName := ⟨RL, "units", "(LSchedulary;C)I"⟩
abbrev cL_areUnits : ByteArray := method_21_code
def yL_areUnits : MethodName := ⟨RL, "areUnits", "(LSchedulary;[I[II)Z"⟩
abbrev cL_areProcesses : ByteArray := method_22_code
def yL_areProcesses : MethodName := ⟨RL, "areProcesses", "([II)Z"⟩
abbrev cL_depths : ByteArray := method_23_code
def yL_depths : MethodName := ⟨RL, "depths", "(LSchedulary;I)Z"⟩
abbrev cL_law : ByteArray := code
def yL_law : MethodName := ⟨RL, "law", "([I)Z"⟩
abbrev vwCl : List vw_C := [(RJ0, TJ0, 4), (RJx00060, TJx00060, 6), (RX0, TX0, 5), (RX1, TX1, 2), (RX2, TX2, 5), (RX3, TX3, 13), (RX4, TX4, 6), (RX5, TX5, 7), (RX6, TX6, 9), (RX7, TX7, 5), (RX8, TX8, 4), (RX9, TX9, 7), (RX10, TX10, 3), (RX11, TX11, 11), (RJ4, TJ4, 4)]

def RX0 : String := "SofaDig$Kind"
def TX0 : u_T := fun k => match k with
  | _ => ("", "", "", false)
def tyX0 : Nat → FieldType := fun k => match k with
  | _ => .int
abbrev wsX00 : List Cond := u_ws RX0 TX0 0
theorem nmX0 : ∀ a, a < 0 → ∀ b, b < 0 → a ≠ b → (TX0 a).2.1 ≠ (TX0 b).2.1 := by decide +kernel
theorem tyX0_ok : ∀ k, k < 0 → parseFieldDescriptor (TX0 k).2.2.1 = some (tyX0 k) := by decide +kernel
abbrev cX0_ofWord : ByteArray := prog_2_method_2_code
def yX0_ofWord : MethodName := ⟨RX0, "ofWord", "(LSofaDig$Tape;II)I"⟩
abbrev cX0_isWord : ByteArray := prog_2_method_3_code
def yX0_isWord : MethodName := ⟨RX0, "isWord", "(ILSofaDig$Tape;II)Z"⟩
abbrev cX0_ofSign : ByteArray := prog_2_method_4_code
def yX0_ofSign : MethodName := ⟨RX0, "ofSign", "(II)I"⟩
abbrev cX0_lengthOfSign : ByteArray := prog_2_method_5_code
def yX0_lengthOfSign : MethodName := ⟨RX0, "lengthOfSign", "(I)I"⟩
def RX1 : String := "SofaDig$Plan"
def TX1 : u_T := fun k => match k with
  | 0 => ("SofaDig$Plan", "orders", "I", false)
  | 1 => ("SofaDig$Plan", "steps", "I", false)
  | 2 => ("SofaDig$Plan", "kinds", "[I", true)
  | 3 => ("SofaDig$Plan", "sumEnds", "[I", true)
  | 4 => ("SofaDig$Plan", "testEnds", "[I", true)
  | 5 => ("SofaDig$Plan", "stepKinds", "[I", true)
  | _ => ("SofaDig$Plan", "stepDetails", "[I", true)
def tyX1 : Nat → FieldType := fun k => match k with
  | 0 => .int
  | 1 => .int
  | 2 => .array .int
  | 3 => .array .int
  | 4 => .array .int
  | 5 => .array .int
  | _ => .array .int
abbrev wsX10 : List Cond := u_ws RX1 TX1 7
theorem nmX1 : ∀ a, a < 7 → ∀ b, b < 7 → a ≠ b → (TX1 a).2.1 ≠ (TX1 b).2.1 := by decide +kernel
theorem tyX1_ok : ∀ k, k < 7 → parseFieldDescriptor (TX1 k).2.2.1 = some (tyX1 k) := by decide +kernel
abbrev cX1_init : ByteArray := prog_3_method_1_code
def yX1_init : MethodName := ⟨RX1, "<init>", "()V"⟩
abbrev cX1_clear : ByteArray := prog_3_method_2_code
def yX1_clear : MethodName := ⟨RX1, "clear", "()V"⟩
abbrev cX1_addStep : ByteArray := prog_3_method_3_code
def yX1_addStep : MethodName := ⟨RX1, "addStep", "(II)V"⟩
abbrev cX1_addOrder : ByteArray := prog_3_method_4_code
def yX1_addOrder : MethodName := ⟨RX1, "addOrder", "(II)V"⟩
abbrev cX1_kindOf : ByteArray := prog_3_method_5_code
def yX1_kindOf : MethodName := ⟨RX1, "kindOf", "(I)I"⟩
abbrev cX1_sumStart : ByteArray := prog_3_method_6_code
def yX1_sumStart : MethodName := ⟨RX1, "sumStart", "(I)I"⟩
abbrev cX1_sumEnd : ByteArray := prog_3_method_7_code
def yX1_sumEnd : MethodName := ⟨RX1, "sumEnd", "(I)I"⟩
abbrev cX1_testEnd : ByteArray := prog_3_method_8_code
def yX1_testEnd : MethodName := ⟨RX1, "testEnd", "(I)I"⟩
abbrev cX1_stepKind : ByteArray := prog_3_method_9_code
def yX1_stepKind : MethodName := ⟨RX1, "stepKind", "(I)I"⟩
abbrev cX1_stepDetail : ByteArray := prog_3_method_10_code
def yX1_stepDetail : MethodName := ⟨RX1, "stepDetail", "(I)I"⟩
abbrev cX1_isOrder : ByteArray := prog_3_method_11_code
def yX1_isOrder : MethodName := ⟨RX1, "isOrder", "(I)Z"⟩
abbrev cX1_isStep : ByteArray := prog_3_method_12_code
def yX1_isStep : MethodName := ⟨RX1, "isStep", "(I)Z"⟩
def RX2 : String := "SofaDig$Planner"
def TX2 : u_T := fun k => match k with
  | 0 => ("SofaDig$Planner", "pile", "[I", true)
  | _ => ("SofaDig$Planner", "piled", "I", false)
def tyX2 : Nat → FieldType := fun k => match k with
  | 0 => .array .int
  | _ => .int
abbrev wsX20 : List Cond := u_ws RX2 TX2 2
theorem nmX2 : ∀ a, a < 2 → ∀ b, b < 2 → a ≠ b → (TX2 a).2.1 ≠ (TX2 b).2.1 := by decide +kernel
theorem tyX2_ok : ∀ k, k < 2 → parseFieldDescriptor (TX2 k).2.2.1 = some (tyX2 k) := by decide +kernel
abbrev cX2_init : ByteArray := prog_4_method_1_code
def yX2_init : MethodName := ⟨RX2, "<init>", "()V"⟩
abbrev cX2_liveDays : ByteArray := prog_4_method_2_code
def yX2_liveDays : MethodName := ⟨RX2, "liveDays", "(LSofaDig$Sofa;I)V"⟩
abbrev cX2_isDue : ByteArray := prog_4_method_3_code
def yX2_isDue : MethodName := ⟨RX2, "isDue", "(LSofaDig$Sofa;LSofaDig$Plan;I)Z"⟩
abbrev cX2_carryOut : ByteArray := prog_4_method_4_code
def yX2_carryOut : MethodName := ⟨RX2, "carryOut", "(LSofaDig$Sofa;II)V"⟩
abbrev cX2_reckon : ByteArray := prog_4_method_5_code
def yX2_reckon : MethodName := ⟨RX2, "reckon", "(LSofaDig$Sofa;II)I"⟩
abbrev cX2_takeStep : ByteArray := prog_4_method_6_code
def yX2_takeStep : MethodName := ⟨RX2, "takeStep", "(LSofaDig$Sofa;II)V"⟩
abbrev cX2_join : ByteArray := prog_4_method_7_code
def yX2_join : MethodName := ⟨RX2, "join", "(III)I"⟩
abbrev cX2_compares : ByteArray := prog_4_method_8_code
def yX2_compares : MethodName := ⟨RX2, "compares", "(III)Z"⟩
abbrev cX2_pushTruth : ByteArray := prog_4_method_9_code
def yX2_pushTruth : MethodName := ⟨RX2, "pushTruth", "(Z)V"⟩
abbrev cX2_push : ByteArray := prog_4_method_10_code
def yX2_push : MethodName := ⟨RX2, "push", "(I)V"⟩
abbrev cX2_pull : ByteArray := prog_4_method_11_code
def yX2_pull : MethodName := ⟨RX2, "pull", "()I"⟩
def RX3 : String := "SofaDig$Reader"
def TX3 : u_T := fun k => match k with
  | 0 => ("SofaDig$Reader", "tokens", "LSofaDig$Tokens;", true)
  | 1 => ("SofaDig$Reader", "told", "LSofaDig$Told;", false)
  | 2 => ("SofaDig$Reader", "at", "I", false)
  | 3 => ("SofaDig$Reader", "kind", "I", false)
  | 4 => ("SofaDig$Reader", "error", "I", false)
  | _ => ("SofaDig$Reader", "errorStart", "I", false)
def tyX3 : Nat → FieldType := fun k => match k with
  | 0 => .object "SofaDig$Tokens"
  | 1 => .object "SofaDig$Told"
  | 2 => .int
  | 3 => .int
  | 4 => .int
  | _ => .int
abbrev wsX30 : List Cond := u_ws RX3 TX3 6
theorem nmX3 : ∀ a, a < 6 → ∀ b, b < 6 → a ≠ b → (TX3 a).2.1 ≠ (TX3 b).2.1 := by decide +kernel
theorem tyX3_ok : ∀ k, k < 6 → parseFieldDescriptor (TX3 k).2.2.1 = some (tyX3 k) := by decide +kernel
abbrev cX3_init : ByteArray := prog_5_method_1_code
def yX3_init : MethodName := ⟨RX3, "<init>", "(LSofaDig$Tape;)V"⟩
abbrev cX3_read : ByteArray := prog_5_method_2_code
def yX3_read : MethodName := ⟨RX3, "read", "()I"⟩
abbrev cX3_errorPlace : ByteArray := prog_5_method_3_code
def yX3_errorPlace : MethodName := ⟨RX3, "errorPlace", "()I"⟩
abbrev cX3_exchange : ByteArray := prog_5_method_4_code
def yX3_exchange : MethodName := ⟨RX3, "exchange", "(LSofaDig$Told;)LSofaDig$Told;"⟩
abbrev cX3_advance : ByteArray := prog_5_method_5_code
def yX3_advance : MethodName := ⟨RX3, "advance", "()V"⟩
abbrev cX3_refuse : ByteArray := prog_5_method_6_code
def yX3_refuse : MethodName := ⟨RX3, "refuse", "()V"⟩
abbrev cX3_complain : ByteArray := prog_5_method_7_code
def yX3_complain : MethodName := ⟨RX3, "complain", "(I)V"⟩
abbrev cX3_expect : ByteArray := prog_5_method_8_code
def yX3_expect : MethodName := ⟨RX3, "expect", "(I)V"⟩
abbrev cX3_expectNumber : ByteArray := prog_5_method_9_code
def yX3_expectNumber : MethodName := ⟨RX3, "expectNumber", "(II)I"⟩
abbrev cX3_readSize : ByteArray := prog_5_method_10_code
def yX3_readSize : MethodName := ⟨RX3, "readSize", "()V"⟩
abbrev cX3_readLine : ByteArray := prog_5_method_11_code
def yX3_readLine : MethodName := ⟨RX3, "readLine", "()V"⟩
abbrev cX3_readEmpire : ByteArray := prog_5_method_12_code
def yX3_readEmpire : MethodName := ⟨RX3, "readEmpire", "()V"⟩
abbrev cX3_readCoin : ByteArray := prog_5_method_13_code
def yX3_readCoin : MethodName := ⟨RX3, "readCoin", "()V"⟩
abbrev cX3_readCrumbs : ByteArray := prog_5_method_14_code
def yX3_readCrumbs : MethodName := ⟨RX3, "readCrumbs", "()V"⟩
abbrev cX3_startFind : ByteArray := prog_5_method_15_code
def yX3_startFind : MethodName := ⟨RX3, "startFind", "()V"⟩
abbrev cX3_readSpring : ByteArray := prog_5_method_16_code
def yX3_readSpring : MethodName := ⟨RX3, "readSpring", "()V"⟩
abbrev cX3_readPlace : ByteArray := prog_5_method_17_code
def yX3_readPlace : MethodName := ⟨RX3, "readPlace", "(Z)I"⟩
abbrev cX3_readKnownEmpire : ByteArray := prog_5_method_18_code
def yX3_readKnownEmpire : MethodName := ⟨RX3, "readKnownEmpire", "()I"⟩
abbrev cX3_readOrder : ByteArray := prog_5_method_19_code
def yX3_readOrder : MethodName := ⟨RX3, "readOrder", "()V"⟩
abbrev cX3_readTest : ByteArray := prog_5_method_20_code
def yX3_readTest : MethodName := ⟨RX3, "readTest", "(I)V"⟩
abbrev cX3_readBoth : ByteArray := prog_5_method_21_code
def yX3_readBoth : MethodName := ⟨RX3, "readBoth", "(I)V"⟩
abbrev cX3_readSingle : ByteArray := prog_5_method_22_code
def yX3_readSingle : MethodName := ⟨RX3, "readSingle", "(I)V"⟩
abbrev cX3_expectComparison : ByteArray := prog_5_method_23_code
def yX3_expectComparison : MethodName := ⟨RX3, "expectComparison", "()V"⟩
abbrev cX3_readSum : ByteArray := prog_5_method_24_code
def yX3_readSum : MethodName := ⟨RX3, "readSum", "(I)V"⟩
abbrev cX3_readProduct : ByteArray := prog_5_method_25_code
def yX3_readProduct : MethodName := ⟨RX3, "readProduct", "(I)V"⟩
abbrev cX3_readValue : ByteArray := prog_5_method_26_code
def yX3_readValue : MethodName := ⟨RX3, "readValue", "(I)V"⟩
abbrev cX3_readEnclosed : ByteArray := prog_5_method_27_code
def yX3_readEnclosed : MethodName := ⟨RX3, "readEnclosed", "(I)V"⟩
abbrev cX3_readPair : ByteArray := prog_5_method_28_code
def yX3_readPair : MethodName := ⟨RX3, "readPair", "(I)V"⟩
abbrev cX3_goesDeeper : ByteArray := prog_5_method_29_code
def yX3_goesDeeper : MethodName := ⟨RX3, "goesDeeper", "(II)Z"⟩
def RX4 : String := "SofaDig$Sofa"
def TX4 : u_T := fun k => match k with
  | 0 => ("SofaDig$Sofa", "told", "LSofaDig$Told;", false)
  | 1 => ("SofaDig$Sofa", "stacks", "[I", true)
  | 2 => ("SofaDig$Sofa", "heights", "[I", true)
  | 3 => ("SofaDig$Sofa", "loose", "[Z", true)
  | 4 => ("SofaDig$Sofa", "propped", "[Z", true)
  | 5 => ("SofaDig$Sofa", "foundOnes", "[Z", true)
  | 6 => ("SofaDig$Sofa", "sureOnes", "[Z", true)
  | 7 => ("SofaDig$Sofa", "days", "I", false)
  | 8 => ("SofaDig$Sofa", "carriedOut", "I", false)
  | 9 => ("SofaDig$Sofa", "dug", "I", false)
  | 10 => ("SofaDig$Sofa", "slid", "I", false)
  | 11 => ("SofaDig$Sofa", "foundCount", "I", false)
  | 12 => ("SofaDig$Sofa", "sureCount", "I", false)
  | _ => ("SofaDig$Sofa", "propCount", "I", false)
def tyX4 : Nat → FieldType := fun k => match k with
  | 0 => .object "SofaDig$Told"
  | 1 => .array .int
  | 2 => .array .int
  | 3 => .array .boolean
  | 4 => .array .boolean
  | 5 => .array .boolean
  | 6 => .array .boolean
  | 7 => .int
  | 8 => .int
  | 9 => .int
  | 10 => .int
  | 11 => .int
  | 12 => .int
  | _ => .int
abbrev wsX40 : List Cond := u_ws RX4 TX4 14
theorem nmX4 : ∀ a, a < 14 → ∀ b, b < 14 → a ≠ b → (TX4 a).2.1 ≠ (TX4 b).2.1 := by decide +kernel
theorem tyX4_ok : ∀ k, k < 14 → parseFieldDescriptor (TX4 k).2.2.1 = some (tyX4 k) := by decide +kernel
abbrev cX4_init : ByteArray := prog_6_method_1_code
def yX4_init : MethodName := ⟨RX4, "<init>", "(LSofaDig$Told;)V"⟩
abbrev cX4_begin : ByteArray := prog_6_method_2_code
def yX4_begin : MethodName := ⟨RX4, "begin", "(LSofaDig$Told;)V"⟩
abbrev cX4_copyFrom : ByteArray := prog_6_method_3_code
def yX4_copyFrom : MethodName := ⟨RX4, "copyFrom", "(LSofaDig$Sofa;)V"⟩
abbrev cX4_heightAt : ByteArray := prog_6_method_4_code
def yX4_heightAt : MethodName := ⟨RX4, "heightAt", "(I)I"⟩
abbrev cX4_hasProp : ByteArray := prog_6_method_5_code
def yX4_hasProp : MethodName := ⟨RX4, "hasProp", "(I)Z"⟩
abbrev cX4_topOf : ByteArray := prog_6_method_6_code
def yX4_topOf : MethodName := ⟨RX4, "topOf", "(I)I"⟩
abbrev cX4_isLoose : ByteArray := prog_6_method_7_code
def yX4_isLoose : MethodName := ⟨RX4, "isLoose", "(I)Z"⟩
abbrev cX4_wasFound : ByteArray := prog_6_method_8_code
def yX4_wasFound : MethodName := ⟨RX4, "wasFound", "(I)Z"⟩
abbrev cX4_wasSure : ByteArray := prog_6_method_9_code
def yX4_wasSure : MethodName := ⟨RX4, "wasSure", "(I)Z"⟩
abbrev cX4_findsInStack : ByteArray := prog_6_method_10_code
def yX4_findsInStack : MethodName := ⟨RX4, "findsInStack", "(I)I"⟩
abbrev cX4_cushionsAbove : ByteArray := prog_6_method_11_code
def yX4_cushionsAbove : MethodName := ⟨RX4, "cushionsAbove", "(I)I"⟩
abbrev cX4_earliestYear : ByteArray := prog_6_method_12_code
def yX4_earliestYear : MethodName := ⟨RX4, "earliestYear", "(I)I"⟩
abbrev cX4_sawEmpire : ByteArray := prog_6_method_13_code
def yX4_sawEmpire : MethodName := ⟨RX4, "sawEmpire", "(II)Z"⟩
abbrev cX4_sawEmpireAnywhere : ByteArray := prog_6_method_14_code
def yX4_sawEmpireAnywhere : MethodName := ⟨RX4, "sawEmpireAnywhere", "(I)Z"⟩
abbrev cX4_showsMixture : ByteArray := prog_6_method_15_code
def yX4_showsMixture : MethodName := ⟨RX4, "showsMixture", "(I)Z"⟩
abbrev cX4_digSeat : ByteArray := prog_6_method_16_code
def yX4_digSeat : MethodName := ⟨RX4, "digSeat", "(I)I"⟩
abbrev cX4_canProp : ByteArray := prog_6_method_17_code
def yX4_canProp : MethodName := ⟨RX4, "canProp", "(I)Z"⟩
abbrev cX4_putProp : ByteArray := prog_6_method_18_code
def yX4_putProp : MethodName := ⟨RX4, "putProp", "(I)V"⟩
abbrev cX4_freeSeat : ByteArray := prog_6_method_19_code
def yX4_freeSeat : MethodName := ⟨RX4, "freeSeat", "(I)V"⟩
abbrev cX4_noteFind : ByteArray := prog_6_method_20_code
def yX4_noteFind : MethodName := ⟨RX4, "noteFind", "(IZ)V"⟩
abbrev cX4_settle : ByteArray := prog_6_method_21_code
def yX4_settle : MethodName := ⟨RX4, "settle", "()V"⟩
abbrev cX4_slidesOnto : ByteArray := prog_6_method_22_code
def yX4_slidesOnto : MethodName := ⟨RX4, "slidesOnto", "(II)Z"⟩
abbrev cX4_moveTop : ByteArray := prog_6_method_23_code
def yX4_moveTop : MethodName := ⟨RX4, "moveTop", "(II)V"⟩
abbrev cX4_cushionAt : ByteArray := prog_6_method_24_code
def yX4_cushionAt : MethodName := ⟨RX4, "cushionAt", "(II)I"⟩
def RX5 : String := "SofaDig$Tape"
def TX5 : u_T := fun k => match k with
  | 0 => ("SofaDig$Tape", "bytes", "[B", true)
  | _ => ("SofaDig$Tape", "length", "I", false)
def tyX5 : Nat → FieldType := fun k => match k with
  | 0 => .array .byte
  | _ => .int
abbrev wsX50 : List Cond := u_ws RX5 TX5 2
theorem nmX5 : ∀ a, a < 2 → ∀ b, b < 2 → a ≠ b → (TX5 a).2.1 ≠ (TX5 b).2.1 := by decide +kernel
theorem tyX5_ok : ∀ k, k < 2 → parseFieldDescriptor (TX5 k).2.2.1 = some (tyX5 k) := by decide +kernel
abbrev cX5_init : ByteArray := prog_7_method_1_code
def yX5_init : MethodName := ⟨RX5, "<init>", "()V"⟩
abbrev cX5_append : ByteArray := prog_7_method_2_code
def yX5_append : MethodName := ⟨RX5, "append", "(I)V"⟩
abbrev cX5_byteAt : ByteArray := prog_7_method_3_code
def yX5_byteAt : MethodName := ⟨RX5, "byteAt", "(I)I"⟩
def RX6 : String := "SofaDig$Tokens"
def TX6 : u_T := fun k => match k with
  | 0 => ("SofaDig$Tokens", "kinds", "[I", true)
  | 1 => ("SofaDig$Tokens", "starts", "[I", true)
  | 2 => ("SofaDig$Tokens", "numbers", "[I", true)
  | 3 => ("SofaDig$Tokens", "names", "[J", true)
  | 4 => ("SofaDig$Tokens", "count", "I", false)
  | 5 => ("SofaDig$Tokens", "tape", "LSofaDig$Tape;", true)
  | _ => ("SofaDig$Tokens", "next", "I", false)
def tyX6 : Nat → FieldType := fun k => match k with
  | 0 => .array .int
  | 1 => .array .int
  | 2 => .array .int
  | 3 => .array .long
  | 4 => .int
  | 5 => .object "SofaDig$Tape"
  | _ => .int
abbrev wsX60 : List Cond := u_ws RX6 TX6 7
theorem nmX6 : ∀ a, a < 7 → ∀ b, b < 7 → a ≠ b → (TX6 a).2.1 ≠ (TX6 b).2.1 := by decide +kernel
theorem tyX6_ok : ∀ k, k < 7 → parseFieldDescriptor (TX6 k).2.2.1 = some (tyX6 k) := by decide +kernel
abbrev cX6_init : ByteArray := prog_8_method_1_code
def yX6_init : MethodName := ⟨RX6, "<init>", "(LSofaDig$Tape;)V"⟩
abbrev cX6_readAll : ByteArray := prog_8_method_2_code
def yX6_readAll : MethodName := ⟨RX6, "readAll", "()V"⟩
abbrev cX6_readToken : ByteArray := prog_8_method_3_code
def yX6_readToken : MethodName := ⟨RX6, "readToken", "(I)I"⟩
abbrev cX6_skipBlanks : ByteArray := prog_8_method_4_code
def yX6_skipBlanks : MethodName := ⟨RX6, "skipBlanks", "()V"⟩
abbrev cX6_readWord : ByteArray := prog_8_method_5_code
def yX6_readWord : MethodName := ⟨RX6, "readWord", "()I"⟩
abbrev cX6_readNumber : ByteArray := prog_8_method_6_code
def yX6_readNumber : MethodName := ⟨RX6, "readNumber", "()I"⟩
abbrev cX6_numberOfSign : ByteArray := prog_8_method_7_code
def yX6_numberOfSign : MethodName := ⟨RX6, "numberOfSign", "(I)I"⟩
abbrev cX6_isBlank : ByteArray := prog_8_method_8_code
def yX6_isBlank : MethodName := ⟨RX6, "isBlank", "(I)Z"⟩
abbrev cX6_isLetter : ByteArray := prog_8_method_9_code
def yX6_isLetter : MethodName := ⟨RX6, "isLetter", "(I)Z"⟩
abbrev cX6_isDigit : ByteArray := prog_8_method_10_code
def yX6_isDigit : MethodName := ⟨RX6, "isDigit", "(I)Z"⟩
abbrev cX6_isOfWord : ByteArray := prog_8_method_11_code
def yX6_isOfWord : MethodName := ⟨RX6, "isOfWord", "(I)Z"⟩
def RX7 : String := "SofaDig$Told"
def TX7 : u_T := fun k => match k with
  | 0 => ("SofaDig$Told", "plan", "LSofaDig$Plan;", true)
  | 1 => ("SofaDig$Told", "seats", "I", false)
  | 2 => ("SofaDig$Told", "strata", "I", false)
  | 3 => ("SofaDig$Told", "empires", "I", false)
  | 4 => ("SofaDig$Told", "finds", "I", false)
  | 5 => ("SofaDig$Told", "names", "[J", true)
  | 6 => ("SofaDig$Told", "froms", "[I", true)
  | 7 => ("SofaDig$Told", "tos", "[I", true)
  | 8 => ("SofaDig$Told", "coins", "[Z", true)
  | 9 => ("SofaDig$Told", "cushions", "[I", true)
  | 10 => ("SofaDig$Told", "details", "[I", true)
  | 11 => ("SofaDig$Told", "findsIn", "[I", true)
  | _ => ("SofaDig$Told", "springsIn", "[Z", true)
def tyX7 : Nat → FieldType := fun k => match k with
  | 0 => .object "SofaDig$Plan"
  | 1 => .int
  | 2 => .int
  | 3 => .int
  | 4 => .int
  | 5 => .array .long
  | 6 => .array .int
  | 7 => .array .int
  | 8 => .array .boolean
  | 9 => .array .int
  | 10 => .array .int
  | 11 => .array .int
  | _ => .array .boolean
abbrev wsX70 : List Cond := u_ws RX7 TX7 13
theorem nmX7 : ∀ a, a < 13 → ∀ b, b < 13 → a ≠ b → (TX7 a).2.1 ≠ (TX7 b).2.1 := by decide +kernel
theorem tyX7_ok : ∀ k, k < 13 → parseFieldDescriptor (TX7 k).2.2.1 = some (tyX7 k) := by decide +kernel
abbrev cX7_init : ByteArray := prog_9_method_1_code
def yX7_init : MethodName := ⟨RX7, "<init>", "()V"⟩
abbrev cX7_clear : ByteArray := prog_9_method_2_code
def yX7_clear : MethodName := ⟨RX7, "clear", "()V"⟩
abbrev cX7_resize : ByteArray := prog_9_method_3_code
def yX7_resize : MethodName := ⟨RX7, "resize", "(II)V"⟩
abbrev cX7_addEmpire : ByteArray := prog_9_method_4_code
def yX7_addEmpire : MethodName := ⟨RX7, "addEmpire", "(JII)V"⟩
abbrev cX7_addFind : ByteArray := prog_9_method_5_code
def yX7_addFind : MethodName := ⟨RX7, "addFind", "(ZII)V"⟩
abbrev cX7_addSpring : ByteArray := prog_9_method_6_code
def yX7_addSpring : MethodName := ⟨RX7, "addSpring", "(I)V"⟩
abbrev cX7_empireNamed : ByteArray := prog_9_method_7_code
def yX7_empireNamed : MethodName := ⟨RX7, "empireNamed", "(J)I"⟩
abbrev cX7_seatOfSum : ByteArray := prog_9_method_8_code
def yX7_seatOfSum : MethodName := ⟨RX7, "seatOfSum", "(I)I"⟩
abbrev cX7_cushionTold : ByteArray := prog_9_method_9_code
def yX7_cushionTold : MethodName := ⟨RX7, "cushionTold", "(II)I"⟩
abbrev cX7_stratumOfCushion : ByteArray := prog_9_method_10_code
def yX7_stratumOfCushion : MethodName := ⟨RX7, "stratumOfCushion", "(I)I"⟩
abbrev cX7_findIn : ByteArray := prog_9_method_11_code
def yX7_findIn : MethodName := ⟨RX7, "findIn", "(I)I"⟩
abbrev cX7_hasSpring : ByteArray := prog_9_method_12_code
def yX7_hasSpring : MethodName := ⟨RX7, "hasSpring", "(I)Z"⟩
abbrev cX7_tellsCoin : ByteArray := prog_9_method_13_code
def yX7_tellsCoin : MethodName := ⟨RX7, "tellsCoin", "(I)Z"⟩
abbrev cX7_cushionOf : ByteArray := prog_9_method_14_code
def yX7_cushionOf : MethodName := ⟨RX7, "cushionOf", "(I)I"⟩
abbrev cX7_stratumOfFind : ByteArray := prog_9_method_15_code
def yX7_stratumOfFind : MethodName := ⟨RX7, "stratumOfFind", "(I)I"⟩
abbrev cX7_coinYear : ByteArray := prog_9_method_16_code
def yX7_coinYear : MethodName := ⟨RX7, "coinYear", "(I)I"⟩
abbrev cX7_crumbsEmpire : ByteArray := prog_9_method_17_code
def yX7_crumbsEmpire : MethodName := ⟨RX7, "crumbsEmpire", "(I)I"⟩
abbrev cX7_fromOf : ByteArray := prog_9_method_18_code
def yX7_fromOf : MethodName := ⟨RX7, "fromOf", "(I)I"⟩
abbrev cX7_toOf : ByteArray := prog_9_method_19_code
def yX7_toOf : MethodName := ⟨RX7, "toOf", "(I)I"⟩
abbrev cX7_earliestYearOf : ByteArray := prog_9_method_20_code
def yX7_earliestYearOf : MethodName := ⟨RX7, "earliestYearOf", "(I)I"⟩
abbrev cX7_isEmpire : ByteArray := prog_9_method_21_code
def yX7_isEmpire : MethodName := ⟨RX7, "isEmpire", "(I)Z"⟩
abbrev cX7_isFind : ByteArray := prog_9_method_22_code
def yX7_isFind : MethodName := ⟨RX7, "isFind", "(I)Z"⟩
abbrev cX7_isCushion : ByteArray := prog_9_method_23_code
def yX7_isCushion : MethodName := ⟨RX7, "isCushion", "(I)Z"⟩
def RX8 : String := "SofaDig"
def TX8 : u_T := fun k => match k with
  | 0 => ("SofaDig", "tape", "LSofaDig$Tape;", true)
  | 1 => ("SofaDig", "reader", "LSofaDig$Reader;", true)
  | 2 => ("SofaDig", "planner", "LSofaDig$Planner;", true)
  | 3 => ("SofaDig", "sofa", "LSofaDig$Sofa;", true)
  | 4 => ("SofaDig", "trial", "LSofaDig$Sofa;", true)
  | 5 => ("SofaDig", "told", "LSofaDig$Told;", false)
  | _ => ("SofaDig", "errorPlace", "I", false)
def tyX8 : Nat → FieldType := fun k => match k with
  | 0 => .object "SofaDig$Tape"
  | 1 => .object "SofaDig$Reader"
  | 2 => .object "SofaDig$Planner"
  | 3 => .object "SofaDig$Sofa"
  | 4 => .object "SofaDig$Sofa"
  | 5 => .object "SofaDig$Told"
  | _ => .int
abbrev wsX80 : List Cond := u_ws RX8 TX8 7
theorem nmX8 : ∀ a, a < 7 → ∀ b, b < 7 → a ≠ b → (TX8 a).2.1 ≠ (TX8 b).2.1 := by decide +kernel
theorem tyX8_ok : ∀ k, k < 7 → parseFieldDescriptor (TX8 k).2.2.1 = some (tyX8 k) := by decide +kernel
abbrev cX8_init : ByteArray := prog_1_method_1_code
def yX8_init : MethodName := ⟨RX8, "<init>", "()V"⟩
abbrev cX8_feed : ByteArray := prog_1_method_2_code
def yX8_feed : MethodName := ⟨RX8, "feed", "(IIIII)I"⟩
abbrev cX8_trim : ByteArray := prog_1_method_3_code
def yX8_trim : MethodName := ⟨RX8, "trim", "(I)I"⟩
abbrev cX8_teach : ByteArray := prog_1_method_4_code
def yX8_teach : MethodName := ⟨RX8, "teach", "()I"⟩
abbrev cX8_seats : ByteArray := prog_1_method_6_code
def yX8_seats : MethodName := ⟨RX8, "seats", "()I"⟩
abbrev cX8_strata : ByteArray := prog_1_method_7_code
def yX8_strata : MethodName := ⟨RX8, "strata", "()I"⟩
abbrev cX8_finds : ByteArray := prog_1_method_8_code
def yX8_finds : MethodName := ⟨RX8, "finds", "()I"⟩
abbrev cX8_days : ByteArray := prog_1_method_9_code
def yX8_days : MethodName := ⟨RX8, "days", "()I"⟩
abbrev cX8_ordersCarriedOut : ByteArray := prog_1_method_10_code
def yX8_ordersCarriedOut : MethodName := ⟨RX8, "ordersCarriedOut", "()I"⟩
abbrev cX8_cushionsDug : ByteArray := prog_1_method_11_code
def yX8_cushionsDug : MethodName := ⟨RX8, "cushionsDug", "()I"⟩
abbrev cX8_slides : ByteArray := prog_1_method_12_code
def yX8_slides : MethodName := ⟨RX8, "slides", "()I"⟩
abbrev cX8_found : ByteArray := prog_1_method_13_code
def yX8_found : MethodName := ⟨RX8, "found", "()I"⟩
abbrev cX8_sureFinds : ByteArray := prog_1_method_14_code
def yX8_sureFinds : MethodName := ⟨RX8, "sureFinds", "()I"⟩
abbrev cX8_props : ByteArray := prog_1_method_15_code
def yX8_props : MethodName := ⟨RX8, "props", "()I"⟩
abbrev cX8_heightOf : ByteArray := prog_1_method_16_code
def yX8_heightOf : MethodName := ⟨RX8, "heightOf", "(I)I"⟩
abbrev cX8_isPropped : ByteArray := prog_1_method_17_code
def yX8_isPropped : MethodName := ⟨RX8, "isPropped", "(I)Z"⟩
abbrev cX8_topStratum : ByteArray := prog_1_method_18_code
def yX8_topStratum : MethodName := ⟨RX8, "topStratum", "(I)I"⟩
abbrev cX8_isTopLoose : ByteArray := prog_1_method_19_code
def yX8_isTopLoose : MethodName := ⟨RX8, "isTopLoose", "(I)Z"⟩
abbrev cX8_hasTopSpring : ByteArray := prog_1_method_20_code
def yX8_hasTopSpring : MethodName := ⟨RX8, "hasTopSpring", "(I)Z"⟩
abbrev cX8_findsLeft : ByteArray := prog_1_method_21_code
def yX8_findsLeft : MethodName := ⟨RX8, "findsLeft", "(I)I"⟩
abbrev cX8_isCoin : ByteArray := prog_1_method_22_code
def yX8_isCoin : MethodName := ⟨RX8, "isCoin", "(I)Z"⟩
abbrev cX8_isFound : ByteArray := prog_1_method_23_code
def yX8_isFound : MethodName := ⟨RX8, "isFound", "(I)Z"⟩
abbrev cX8_isSure : ByteArray := prog_1_method_24_code
def yX8_isSure : MethodName := ⟨RX8, "isSure", "(I)Z"⟩
abbrev cX8_stratumOf : ByteArray := prog_1_method_25_code
def yX8_stratumOf : MethodName := ⟨RX8, "stratumOf", "(I)I"⟩
abbrev cX8_yearOf : ByteArray := prog_1_method_26_code
def yX8_yearOf : MethodName := ⟨RX8, "yearOf", "(I)I"⟩
abbrev cX8_empireOf : ByteArray := prog_1_method_27_code
def yX8_empireOf : MethodName := ⟨RX8, "empireOf", "(I)I"⟩
abbrev cX8_buriedUnder : ByteArray := prog_1_method_28_code
def yX8_buriedUnder : MethodName := ⟨RX8, "buriedUnder", "(I)I"⟩
abbrev cX8_notBefore : ByteArray := prog_1_method_29_code
def yX8_notBefore : MethodName := ⟨RX8, "notBefore", "(I)I"⟩
abbrev cX8_isSeenIn : ByteArray := prog_1_method_30_code
def yX8_isSeenIn : MethodName := ⟨RX8, "isSeenIn", "(II)Z"⟩
abbrev cX8_isMixed : ByteArray := prog_1_method_31_code
def yX8_isMixed : MethodName := ⟨RX8, "isMixed", "(I)Z"⟩
abbrev cX8_dig : ByteArray := prog_1_method_32_code
def yX8_dig : MethodName := ⟨RX8, "dig", "(I)I"⟩
abbrev cX8_prop : ByteArray := prog_1_method_33_code
def yX8_prop : MethodName := ⟨RX8, "prop", "(I)I"⟩
abbrev cX8_takeProp : ByteArray := prog_1_method_34_code
def yX8_takeProp : MethodName := ⟨RX8, "takeProp", "(I)I"⟩
abbrev cX8_passDays : ByteArray := prog_1_method_35_code
def yX8_passDays : MethodName := ⟨RX8, "passDays", "(I)I"⟩
abbrev cX8_foundAfter : ByteArray := prog_1_method_36_code
def yX8_foundAfter : MethodName := ⟨RX8, "foundAfter", "(I)I"⟩
abbrev cX8_daysUntilFound : ByteArray := prog_1_method_37_code
def yX8_daysUntilFound : MethodName := ⟨RX8, "daysUntilFound", "(I)I"⟩
abbrev cX8_wouldSlide : ByteArray := prog_1_method_38_code
def yX8_wouldSlide : MethodName := ⟨RX8, "wouldSlide", "(I)I"⟩
abbrev cX8_bestDig : ByteArray := prog_1_method_39_code
def yX8_bestDig : MethodName := ⟨RX8, "bestDig", "()I"⟩
abbrev cX8_meanYear : ByteArray := prog_1_method_40_code
def yX8_meanYear : MethodName := ⟨RX8, "meanYear", "()D"⟩
abbrev cX8_digest : ByteArray := prog_1_method_41_code
def yX8_digest : MethodName := ⟨RX8, "digest", "()J"⟩
abbrev cX8_digestSeats : ByteArray := prog_1_method_42_code
def yX8_digestSeats : MethodName := ⟨RX8, "digestSeats", "(J)J"⟩
abbrev cX8_digestFinds : ByteArray := prog_1_method_43_code
def yX8_digestFinds : MethodName := ⟨RX8, "digestFinds", "(J)J"⟩
abbrev cX8_digestStrata : ByteArray := prog_1_method_44_code
def yX8_digestStrata : MethodName := ⟨RX8, "digestStrata", "(J)J"⟩
abbrev cX8_slidesOfDig : ByteArray := prog_1_method_45_code
def yX8_slidesOfDig : MethodName := ⟨RX8, "slidesOfDig", "(I)I"⟩
abbrev cX8_needSeat : ByteArray := prog_1_method_46_code
def yX8_needSeat : MethodName := ⟨RX8, "needSeat", "(I)V"⟩
abbrev cX8_needCushion : ByteArray := prog_1_method_47_code
def yX8_needCushion : MethodName := ⟨RX8, "needCushion", "(I)V"⟩
abbrev cX8_needFind : ByteArray := prog_1_method_48_code
def yX8_needFind : MethodName := ⟨RX8, "needFind", "(I)V"⟩
abbrev cX8_needStratum : ByteArray := prog_1_method_49_code
def yX8_needStratum : MethodName := ⟨RX8, "needStratum", "(I)V"⟩
abbrev cX8_needDays : ByteArray := prog_1_method_50_code
def yX8_needDays : MethodName := ⟨RX8, "needDays", "(I)V"⟩
def RX9 : String := "SofaDigLaw$Sim"
def TX9 : u_T := fun k => match k with
  | 0 => ("SofaDigLaw$Sim", "strata", "I", false)
  | 1 => ("SofaDigLaw$Sim", "stacks", "[[[I", false)
  | 2 => ("SofaDigLaw$Sim", "finds", "[[I", false)
  | 3 => ("SofaDigLaw$Sim", "empires", "[[I", false)
  | 4 => ("SofaDigLaw$Sim", "isPropped", "[Z", false)
  | 5 => ("SofaDigLaw$Sim", "orders", "[I", false)
  | 6 => ("SofaDigLaw$Sim", "sums", "[LSofaDigLaw$Tree;", false)
  | 7 => ("SofaDigLaw$Sim", "tests", "[LSofaDigLaw$Tree;", false)
  | 8 => ("SofaDigLaw$Sim", "days", "I", false)
  | 9 => ("SofaDigLaw$Sim", "carried", "I", false)
  | 10 => ("SofaDigLaw$Sim", "dug", "I", false)
  | _ => ("SofaDigLaw$Sim", "slides", "I", false)
def tyX9 : Nat → FieldType := fun k => match k with
  | 0 => .int
  | 1 => .array (.array (.array .int))
  | 2 => .array (.array .int)
  | 3 => .array (.array .int)
  | 4 => .array .boolean
  | 5 => .array .int
  | 6 => .array (.object "SofaDigLaw$Tree")
  | 7 => .array (.object "SofaDigLaw$Tree")
  | 8 => .int
  | 9 => .int
  | 10 => .int
  | _ => .int
abbrev wsX90 : List Cond := u_ws RX9 TX9 12
theorem nmX9 : ∀ a, a < 12 → ∀ b, b < 12 → a ≠ b → (TX9 a).2.1 ≠ (TX9 b).2.1 := by decide +kernel
theorem tyX9_ok : ∀ k, k < 12 → parseFieldDescriptor (TX9 k).2.2.1 = some (tyX9 k) := by decide +kernel
abbrev cX9_init : ByteArray := prog_11_method_1_code
def yX9_init : MethodName := ⟨RX9, "<init>", "()V"⟩
abbrev cX9_of : ByteArray := prog_11_method_2_code
def yX9_of : MethodName := ⟨RX9, "of", "(II)LSofaDigLaw$Sim;"⟩
abbrev cX9_with : ByteArray := prog_11_method_4_code
def yX9_with : MethodName := ⟨RX9, "with", "([[I[I)[[I"⟩
abbrev cX9_less : ByteArray := prog_11_method_5_code
def yX9_less : MethodName := ⟨RX9, "less", "([[I)[[I"⟩
abbrev cX9_seat : ByteArray := prog_11_method_6_code
def yX9_seat : MethodName := ⟨RX9, "seat", "(I)I"⟩
abbrev cX9_props : ByteArray := prog_11_method_7_code
def yX9_props : MethodName := ⟨RX9, "props", "()I"⟩
abbrev cX9_found : ByteArray := prog_11_method_8_code
def yX9_found : MethodName := ⟨RX9, "found", "(I)I"⟩
abbrev cX9_isSure : ByteArray := prog_11_method_9_code
def yX9_isSure : MethodName := ⟨RX9, "isSure", "(I)Z"⟩
abbrev cX9_isSeen : ByteArray := prog_11_method_10_code
def yX9_isSeen : MethodName := ⟨RX9, "isSeen", "(I)Z"⟩
abbrev cX9_isSeenIn : ByteArray := prog_11_method_11_code
def yX9_isSeenIn : MethodName := ⟨RX9, "isSeenIn", "(II)Z"⟩
abbrev cX9_notBefore : ByteArray := prog_11_method_12_code
def yX9_notBefore : MethodName := ⟨RX9, "notBefore", "(I)I"⟩
abbrev cX9_isMixed : ByteArray := prog_11_method_13_code
def yX9_isMixed : MethodName := ⟨RX9, "isMixed", "(I)Z"⟩
abbrev cX9_slidesOnto : ByteArray := prog_11_method_14_code
def yX9_slidesOnto : MethodName := ⟨RX9, "slidesOnto", "(II)Z"⟩
abbrev cX9_settle : ByteArray := prog_11_method_15_code
def yX9_settle : MethodName := ⟨RX9, "settle", "()I"⟩
abbrev cX9_dig : ByteArray := prog_11_method_16_code
def yX9_dig : MethodName := ⟨RX9, "dig", "(I)I"⟩
abbrev cX9_pass : ByteArray := prog_11_method_17_code
def yX9_pass : MethodName := ⟨RX9, "pass", "()I"⟩
abbrev cX9_left : ByteArray := prog_11_method_18_code
def yX9_left : MethodName := ⟨RX9, "left", "(I)I"⟩
abbrev cX9_isSame : ByteArray := prog_11_method_19_code
def yX9_isSame : MethodName := ⟨RX9, "isSame", "(LSofaDig;)Z"⟩
def RX10 : String := "SofaDigLaw$Tree"
def TX10 : u_T := fun k => match k with
  | 0 => ("SofaDigLaw$Tree", "kind", "I", false)
  | 1 => ("SofaDigLaw$Tree", "number", "I", false)
  | 2 => ("SofaDigLaw$Tree", "a", "LSofaDigLaw$Tree;", false)
  | _ => ("SofaDigLaw$Tree", "b", "LSofaDigLaw$Tree;", false)
def tyX10 : Nat → FieldType := fun k => match k with
  | 0 => .int
  | 1 => .int
  | 2 => .object "SofaDigLaw$Tree"
  | _ => .object "SofaDigLaw$Tree"
abbrev wsX100 : List Cond := u_ws RX10 TX10 4
theorem nmX10 : ∀ a, a < 4 → ∀ b, b < 4 → a ≠ b → (TX10 a).2.1 ≠ (TX10 b).2.1 := by decide +kernel
theorem tyX10_ok : ∀ k, k < 4 → parseFieldDescriptor (TX10 k).2.2.1 = some (tyX10 k) := by decide +kernel
abbrev cX10_init : ByteArray := prog_12_method_1_code
def yX10_init : MethodName := ⟨RX10, "<init>", "()V"⟩
abbrev cX10_of : ByteArray := prog_12_method_2_code
def yX10_of : MethodName := ⟨RX10, "of", "(LSofaDigLaw$Sim;)I"⟩
abbrev cX10_ofTwo : ByteArray := prog_12_method_3_code
def yX10_ofTwo : MethodName := ⟨RX10, "ofTwo", "(II)I"⟩
abbrev cX10_text : ByteArray := prog_12_method_4_code
def yX10_text : MethodName := ⟨RX10, "text", "()Ljava/lang/String;"⟩
def RX11 : String := "SofaDigModel$Plan"
def TX11 : u_T := fun k => match k with
  | _ => ("", "", "", false)
def tyX11 : Nat → FieldType := fun k => match k with
  | _ => .int
abbrev wsX110 : List Cond := u_ws RX11 TX11 0
theorem nmX11 : ∀ a, a < 0 → ∀ b, b < 0 → a ≠ b → (TX11 a).2.1 ≠ (TX11 b).2.1 := by decide +kernel
theorem tyX11_ok : ∀ k, k < 0 → parseFieldDescriptor (TX11 k).2.2.1 = some (tyX11 k) := by decide +kernel
def RX12 : String := "SofaDigModel"
def TX12 : u_T := fun k => match k with
  | _ => ("", "", "", false)
def tyX12 : Nat → FieldType := fun k => match k with
  | _ => .int
abbrev wsX120 : List Cond := u_ws RX12 TX12 0
theorem nmX12 : ∀ a, a < 0 → ∀ b, b < 0 → a ≠ b → (TX12 a).2.1 ≠ (TX12 b).2.1 := by decide +kernel
theorem tyX12_ok : ∀ k, k < 0 → parseFieldDescriptor (TX12 k).2.2.1 = some (tyX12 k) := by decide +kernel
def RJx145de : String := "java/io/Serializable"
def TJx145de : u_T := fun k => match k with
  | _ => ("", "", "", false)
def tyJx145de : Nat → FieldType := fun k => match k with
  | _ => .int
abbrev wsJx145de0 : List Cond := u_ws RJx145de TJx145de 0
theorem nmJx145de : ∀ a, a < 0 → ∀ b, b < 0 → a ≠ b → (TJx145de a).2.1 ≠ (TJx145de b).2.1 := by decide +kernel
theorem tyJx145de_ok : ∀ k, k < 0 → parseFieldDescriptor (TJx145de k).2.2.1 = some (tyJx145de k) := by decide +kernel
def RJ5 : String := "java/lang/AbstractStringBuilder"
def TJ5 : u_T := fun k => match k with
  | _ => ("", "", "", false)
def tyJ5 : Nat → FieldType := fun k => match k with
  | _ => .int
abbrev wsJ50 : List Cond := u_ws RJ5 TJ5 0
theorem nmJ5 : ∀ a, a < 0 → ∀ b, b < 0 → a ≠ b → (TJ5 a).2.1 ≠ (TJ5 b).2.1 := by decide +kernel
theorem tyJ5_ok : ∀ k, k < 0 → parseFieldDescriptor (TJ5 k).2.2.1 = some (tyJ5 k) := by decide +kernel
abbrev cJ5_init_d00df : ByteArray := prog_15_method_2_code
def yJ5_init_d00df : MethodName := ⟨RJ5, "<init>", "(I)V"⟩
abbrev cJ5_length_8abf5 : ByteArray := prog_15_method_6_code
def yJ5_length_8abf5 : MethodName := ⟨RJ5, "length", "()I"⟩
abbrev cJ5_ensureCapacityInternal_d00df : ByteArray := prog_15_method_9_code
def yJ5_ensureCapacityInternal_d00df : MethodName := ⟨RJ5, "ensureCapacityInternal", "(I)V"⟩
abbrev cJ5_newCapacity_0f7a4 : ByteArray := prog_15_method_10_code
def yJ5_newCapacity_0f7a4 : MethodName := ⟨RJ5, "newCapacity", "(I)I"⟩
abbrev cJ5_inflate_da8c8 : ByteArray := prog_15_method_11_code
def yJ5_inflate_da8c8 : MethodName := ⟨RJ5, "inflate", "()V"⟩
abbrev cJ5_append_cf1ce : ByteArray := prog_15_method_22_code
def yJ5_append_cf1ce : MethodName := ⟨RJ5, "append", "(Ljava/lang/String;)Ljava/lang/AbstractStringBuilder;"⟩
abbrev cJ5_appendNull_278bc : ByteArray := prog_15_method_26_code
def yJ5_appendNull_278bc : MethodName := ⟨RJ5, "appendNull", "()Ljava/lang/AbstractStringBuilder;"⟩
abbrev cJ5_append_c97b9 : ByteArray := prog_15_method_32_code
def yJ5_append_c97b9 : MethodName := ⟨RJ5, "append", "(I)Ljava/lang/AbstractStringBuilder;"⟩
abbrev cJ5_getValue_6d5f1 : ByteArray := prog_15_method_64_code
def yJ5_getValue_6d5f1 : MethodName := ⟨RJ5, "getValue", "()[B"⟩
abbrev cJ5_isLatin1_aae02 : ByteArray := prog_15_method_68_code
def yJ5_isLatin1_aae02 : MethodName := ⟨RJ5, "isLatin1", "()Z"⟩
abbrev cJ5_inflateIfNeededFor_a7421 : ByteArray := prog_15_method_71_code
def yJ5_inflateIfNeededFor_a7421 : MethodName := ⟨RJ5, "inflateIfNeededFor", "(Ljava/lang/String;)V"⟩
abbrev cJ5_putStringAt_47b60 : ByteArray := prog_15_method_73_code
def yJ5_putStringAt_47b60 : MethodName := ⟨RJ5, "putStringAt", "(ILjava/lang/String;)V"⟩
def RJx2cfe8 : String := "java/lang/Appendable"
def TJx2cfe8 : u_T := fun k => match k with
  | _ => ("", "", "", false)
def tyJx2cfe8 : Nat → FieldType := fun k => match k with
  | _ => .int
abbrev wsJx2cfe80 : List Cond := u_ws RJx2cfe8 TJx2cfe8 0
theorem nmJx2cfe8 : ∀ a, a < 0 → ∀ b, b < 0 → a ≠ b → (TJx2cfe8 a).2.1 ≠ (TJx2cfe8 b).2.1 := by decide +kernel
theorem tyJx2cfe8_ok : ∀ k, k < 0 → parseFieldDescriptor (TJx2cfe8 k).2.2.1 = some (tyJx2cfe8 k) := by decide +kernel
def RJx9f9b0 : String := "java/lang/CharSequence"
def TJx9f9b0 : u_T := fun k => match k with
  | _ => ("", "", "", false)
def tyJx9f9b0 : Nat → FieldType := fun k => match k with
  | _ => .int
abbrev wsJx9f9b00 : List Cond := u_ws RJx9f9b0 TJx9f9b0 0
theorem nmJx9f9b0 : ∀ a, a < 0 → ∀ b, b < 0 → a ≠ b → (TJx9f9b0 a).2.1 ≠ (TJx9f9b0 b).2.1 := by decide +kernel
theorem tyJx9f9b0_ok : ∀ k, k < 0 → parseFieldDescriptor (TJx9f9b0 k).2.2.1 = some (tyJx9f9b0 k) := by decide +kernel
def RJx8e188 : String := "java/lang/Cloneable"
def TJx8e188 : u_T := fun k => match k with
  | _ => ("", "", "", false)
def tyJx8e188 : Nat → FieldType := fun k => match k with
  | _ => .int
abbrev wsJx8e1880 : List Cond := u_ws RJx8e188 TJx8e188 0
theorem nmJx8e188 : ∀ a, a < 0 → ∀ b, b < 0 → a ≠ b → (TJx8e188 a).2.1 ≠ (TJx8e188 b).2.1 := by decide +kernel
theorem tyJx8e188_ok : ∀ k, k < 0 → parseFieldDescriptor (TJx8e188 k).2.2.1 = some (tyJx8e188 k) := by decide +kernel
def RJxb160c : String := "java/lang/Comparable"
def TJxb160c : u_T := fun k => match k with
  | _ => ("", "", "", false)
def tyJxb160c : Nat → FieldType := fun k => match k with
  | _ => .int
abbrev wsJxb160c0 : List Cond := u_ws RJxb160c TJxb160c 0
theorem nmJxb160c : ∀ a, a < 0 → ∀ b, b < 0 → a ≠ b → (TJxb160c a).2.1 ≠ (TJxb160c b).2.1 := by decide +kernel
theorem tyJxb160c_ok : ∀ k, k < 0 → parseFieldDescriptor (TJxb160c k).2.2.1 = some (tyJxb160c k) := by decide +kernel
def RJ6 : String := "java/lang/Integer"
def TJ6 : u_T := fun k => match k with
  | _ => ("", "", "", false)
def tyJ6 : Nat → FieldType := fun k => match k with
  | _ => .int
abbrev wsJ60 : List Cond := u_ws RJ6 TJ6 0
theorem nmJ6 : ∀ a, a < 0 → ∀ b, b < 0 → a ≠ b → (TJ6 a).2.1 ≠ (TJ6 b).2.1 := by decide +kernel
theorem tyJ6_ok : ∀ k, k < 0 → parseFieldDescriptor (TJ6 k).2.2.1 = some (tyJ6 k) := by decide +kernel
abbrev cJ6_getChars_ba4f3 : ByteArray := prog_21_method_12_code
def yJ6_getChars_ba4f3 : MethodName := ⟨RJ6, "getChars", "(II[B)I"⟩
abbrev cJ6_stringSize_0f7a4 : ByteArray := prog_21_method_13_code
def yJ6_stringSize_0f7a4 : MethodName := ⟨RJ6, "stringSize", "(I)I"⟩
def RJ9 : String := "java/lang/Math"
def TJ9 : u_T := fun k => match k with
  | _ => ("", "", "", false)
def tyJ9 : Nat → FieldType := fun k => match k with
  | _ => .int
abbrev wsJ90 : List Cond := u_ws RJ9 TJ9 0
theorem nmJ9 : ∀ a, a < 0 → ∀ b, b < 0 → a ≠ b → (TJ9 a).2.1 ≠ (TJ9 b).2.1 := by decide +kernel
theorem tyJ9_ok : ∀ k, k < 0 → parseFieldDescriptor (TJ9 k).2.2.1 = some (tyJ9 k) := by decide +kernel
abbrev cJ9_floorMod_7cf53 : ByteArray := prog_22_method_50_code
def yJ9_floorMod_7cf53 : MethodName := ⟨RJ9, "floorMod", "(II)I"⟩
abbrev cJ9_max_7cf53 : ByteArray := prog_22_method_65_code
def yJ9_max_7cf53 : MethodName := ⟨RJ9, "max", "(II)I"⟩
abbrev cJ9_min_7cf53 : ByteArray := prog_22_method_69_code
def yJ9_min_7cf53 : MethodName := ⟨RJ9, "min", "(II)I"⟩
def RJxd2413 : String := "java/lang/Number"
def TJxd2413 : u_T := fun k => match k with
  | _ => ("", "", "", false)
def tyJxd2413 : Nat → FieldType := fun k => match k with
  | _ => .int
abbrev wsJxd24130 : List Cond := u_ws RJxd2413 TJxd2413 0
theorem nmJxd2413 : ∀ a, a < 0 → ∀ b, b < 0 → a ≠ b → (TJxd2413 a).2.1 ≠ (TJxd2413 b).2.1 := by decide +kernel
theorem tyJxd2413_ok : ∀ k, k < 0 → parseFieldDescriptor (TJxd2413 k).2.2.1 = some (tyJxd2413 k) := by decide +kernel
def RJ0 : String := "java/lang/String"
def TJ0 : u_T := fun k => match k with
  | 0 => ("java/lang/String", "value", "[B", true)
  | 1 => ("java/lang/String", "coder", "B", true)
  | 2 => ("java/lang/String", "hash", "I", false)
  | _ => ("java/lang/String", "hashIsZero", "Z", false)
def tyJ0 : Nat → FieldType := fun k => match k with
  | 0 => .array .byte
  | 1 => .byte
  | 2 => .int
  | _ => .boolean
abbrev wsJ00 : List Cond := u_ws RJ0 TJ0 4
theorem nmJ0 : ∀ a, a < 4 → ∀ b, b < 4 → a ≠ b → (TJ0 a).2.1 ≠ (TJ0 b).2.1 := by decide +kernel
theorem tyJ0_ok : ∀ k, k < 4 → parseFieldDescriptor (TJ0 k).2.2.1 = some (tyJ0 k) := by decide +kernel
abbrev cJ0_init_81219 : ByteArray := prog_25_method_53_code
def yJ0_init_81219 : MethodName := ⟨RJ0, "<init>", "(Ljava/lang/StringBuilder;)V"⟩
abbrev cJ0_length_8abf5 : ByteArray := prog_25_method_54_code
def yJ0_length_8abf5 : MethodName := ⟨RJ0, "length", "()I"⟩
abbrev cJ0_charAt_5068e : ByteArray := prog_25_method_56_code
def yJ0_charAt_5068e : MethodName := ⟨RJ0, "charAt", "(I)C"⟩
abbrev cJ0_getBytes_840e7 : ByteArray := prog_25_method_147_code
def yJ0_getBytes_840e7 : MethodName := ⟨RJ0, "getBytes", "([BIB)V"⟩
abbrev cJ0_init_db425 : ByteArray := prog_25_method_150_code
def yJ0_init_db425 : MethodName := ⟨RJ0, "<init>", "(Ljava/lang/AbstractStringBuilder;Ljava/lang/Void;)V"⟩
abbrev cJ0_coder_7d493 : ByteArray := prog_25_method_152_code
def yJ0_coder_7d493 : MethodName := ⟨RJ0, "coder", "()B"⟩
abbrev cJ0_isLatin1_aae02 : ByteArray := prog_25_method_154_code
def yJ0_isLatin1_aae02 : MethodName := ⟨RJ0, "isLatin1", "()Z"⟩
abbrev cJ0_checkIndex_df160 : ByteArray := prog_25_method_155_code
def yJ0_checkIndex_df160 : MethodName := ⟨RJ0, "checkIndex", "(II)V"⟩
abbrev cJ0_checkBoundsOffCount_cabcc : ByteArray := prog_25_method_157_code
def yJ0_checkBoundsOffCount_cabcc : MethodName := ⟨RJ0, "checkBoundsOffCount", "(III)I"⟩
abbrev cJ0_checkBoundsBeginEnd_23922 : ByteArray := prog_25_method_158_code
def yJ0_checkBoundsBeginEnd_23922 : MethodName := ⟨RJ0, "checkBoundsBeginEnd", "(III)V"⟩
def RJ4 : String := "java/lang/StringBuilder"
def TJ4 : u_T := fun k => match k with
  | 0 => ("java/lang/AbstractStringBuilder", "value", "[B", false)
  | 1 => ("java/lang/AbstractStringBuilder", "coder", "B", false)
  | 2 => ("java/lang/AbstractStringBuilder", "maybeLatin1", "Z", false)
  | _ => ("java/lang/AbstractStringBuilder", "count", "I", false)
def tyJ4 : Nat → FieldType := fun k => match k with
  | 0 => .array .byte
  | 1 => .byte
  | 2 => .boolean
  | _ => .int
abbrev wsJ40 : List Cond := u_ws RJ4 TJ4 4
theorem nmJ4 : ∀ a, a < 4 → ∀ b, b < 4 → a ≠ b → (TJ4 a).2.1 ≠ (TJ4 b).2.1 := by decide +kernel
theorem tyJ4_ok : ∀ k, k < 4 → parseFieldDescriptor (TJ4 k).2.2.1 = some (tyJ4 k) := by decide +kernel
abbrev cJ4_init_da8c8 : ByteArray := prog_26_method_1_code
def yJ4_init_da8c8 : MethodName := ⟨RJ4, "<init>", "()V"⟩
abbrev cJ4_append_15ec4 : ByteArray := prog_26_method_7_code
def yJ4_append_15ec4 : MethodName := ⟨RJ4, "append", "(Ljava/lang/String;)Ljava/lang/StringBuilder;"⟩
abbrev cJ4_append_bf812 : ByteArray := prog_26_method_15_code
def yJ4_append_bf812 : MethodName := ⟨RJ4, "append", "(I)Ljava/lang/StringBuilder;"⟩
abbrev cJ4_toString_0e30d : ByteArray := prog_26_method_42_code
def yJ4_toString_0e30d : MethodName := ⟨RJ4, "toString", "()Ljava/lang/String;"⟩
abbrev cJ4_length_8abf5 : ByteArray := prog_26_method_93_code
def yJ4_length_8abf5 : MethodName := ⟨RJ4, "length", "()I"⟩
def RJ1 : String := "java/lang/StringLatin1"
def TJ1 : u_T := fun k => match k with
  | _ => ("", "", "", false)
def tyJ1 : Nat → FieldType := fun k => match k with
  | _ => .int
abbrev wsJ10 : List Cond := u_ws RJ1 TJ1 0
theorem nmJ1 : ∀ a, a < 0 → ∀ b, b < 0 → a ≠ b → (TJ1 a).2.1 ≠ (TJ1 b).2.1 := by decide +kernel
theorem tyJ1_ok : ∀ k, k < 0 → parseFieldDescriptor (TJ1 k).2.2.1 = some (tyJ1 k) := by decide +kernel
abbrev cJ1_charAt_3b067 : ByteArray := prog_27_method_2_code
def yJ1_charAt_3b067 : MethodName := ⟨RJ1, "charAt", "([BI)C"⟩
abbrev cJ1_inflate_0e8fd : ByteArray := prog_27_method_50_code
def yJ1_inflate_0e8fd : MethodName := ⟨RJ1, "inflate", "([BI[BII)V"⟩
def RJ2 : String := "java/lang/StringUTF16"
def TJ2 : u_T := fun k => match k with
  | _ => ("", "", "", false)
def tyJ2 : Nat → FieldType := fun k => match k with
  | _ => .int
abbrev wsJ20 : List Cond := u_ws RJ2 TJ2 0
theorem nmJ2 : ∀ a, a < 0 → ∀ b, b < 0 → a ≠ b → (TJ2 a).2.1 ≠ (TJ2 b).2.1 := by decide +kernel
theorem tyJ2_ok : ∀ k, k < 0 → parseFieldDescriptor (TJ2 k).2.2.1 = some (tyJ2 k) := by decide +kernel
abbrev cJ2_newBytesFor_77867 : ByteArray := prog_28_method_2_code
def yJ2_newBytesFor_77867 : MethodName := ⟨RJ2, "newBytesFor", "(I)[B"⟩
abbrev cJ2_newBytesLength_0f7a4 : ByteArray := prog_28_method_3_code
def yJ2_newBytesLength_0f7a4 : MethodName := ⟨RJ2, "newBytesLength", "(I)I"⟩
abbrev cJ2_putChar_b72d1 : ByteArray := prog_28_method_4_code
def yJ2_putChar_b72d1 : MethodName := ⟨RJ2, "putChar", "([BII)V"⟩
abbrev cJ2_getChar_3b067 : ByteArray := prog_28_method_5_code
def yJ2_getChar_3b067 : MethodName := ⟨RJ2, "getChar", "([BI)C"⟩
abbrev cJ2_length_9d52b : ByteArray := prog_28_method_6_code
def yJ2_length_9d52b : MethodName := ⟨RJ2, "length", "([B)I"⟩
abbrev cJ2_coderFromArrayLen_85cad : ByteArray := prog_28_method_15_code
def yJ2_coderFromArrayLen_85cad : MethodName := ⟨RJ2, "coderFromArrayLen", "([BI)B"⟩
abbrev cJ2_compress_39247 : ByteArray := prog_28_method_17_code
def yJ2_compress_39247 : MethodName := ⟨RJ2, "compress", "([BII)[B"⟩
abbrev cJ2_compress_5af95 : ByteArray := prog_28_method_22_code
def yJ2_compress_5af95 : MethodName := ⟨RJ2, "compress", "([BI[BII)I"⟩
abbrev cJ2_getChars_46870 : ByteArray := prog_28_method_77_code
def yJ2_getChars_46870 : MethodName := ⟨RJ2, "getChars", "(III[B)I"⟩
abbrev cJ2_putCharsAt_cd4e5 : ByteArray := prog_28_method_81_code
def yJ2_putCharsAt_cd4e5 : MethodName := ⟨RJ2, "putCharsAt", "([BICCCC)I"⟩
abbrev cJ2_charAt_3b067 : ByteArray := prog_28_method_83_code
def yJ2_charAt_3b067 : MethodName := ⟨RJ2, "charAt", "([BI)C"⟩
abbrev cJ2_inflate_0e8fd : ByteArray := prog_28_method_86_code
def yJ2_inflate_0e8fd : MethodName := ⟨RJ2, "inflate", "([BI[BII)V"⟩
abbrev cJ2_getChars_ba4f3 : ByteArray := prog_28_method_89_code
def yJ2_getChars_ba4f3 : MethodName := ⟨RJ2, "getChars", "(II[B)I"⟩
abbrev cJ2_checkIndex_2214a : ByteArray := prog_28_method_91_code
def yJ2_checkIndex_2214a : MethodName := ⟨RJ2, "checkIndex", "(I[B)V"⟩
abbrev cJ2_checkBoundsBeginEnd_d044e : ByteArray := prog_28_method_93_code
def yJ2_checkBoundsBeginEnd_d044e : MethodName := ⟨RJ2, "checkBoundsBeginEnd", "(II[B)V"⟩
abbrev cJ2_checkBoundsOffCount_d044e : ByteArray := prog_28_method_94_code
def yJ2_checkBoundsOffCount_d044e : MethodName := ⟨RJ2, "checkBoundsOffCount", "(II[B)V"⟩
def RJ10 : String := "java/lang/System"
def TJ10 : u_T := fun k => match k with
  | _ => ("", "", "", false)
def tyJ10 : Nat → FieldType := fun k => match k with
  | _ => .int
abbrev wsJ100 : List Cond := u_ws RJ10 TJ10 0
theorem nmJ10 : ∀ a, a < 0 → ∀ b, b < 0 → a ≠ b → (TJ10 a).2.1 ≠ (TJ10 b).2.1 := by decide +kernel
theorem tyJ10_ok : ∀ k, k < 0 → parseFieldDescriptor (TJ10 k).2.2.1 = some (tyJ10 k) := by decide +kernel
def RJxfd54e : String := "java/lang/constant/Constable"
def TJxfd54e : u_T := fun k => match k with
  | _ => ("", "", "", false)
def tyJxfd54e : Nat → FieldType := fun k => match k with
  | _ => .int
abbrev wsJxfd54e0 : List Cond := u_ws RJxfd54e TJxfd54e 0
theorem nmJxfd54e : ∀ a, a < 0 → ∀ b, b < 0 → a ≠ b → (TJxfd54e a).2.1 ≠ (TJxfd54e b).2.1 := by decide +kernel
theorem tyJxfd54e_ok : ∀ k, k < 0 → parseFieldDescriptor (TJxfd54e k).2.2.1 = some (tyJxfd54e k) := by decide +kernel
def RJx3cf43 : String := "java/lang/constant/ConstantDesc"
def TJx3cf43 : u_T := fun k => match k with
  | _ => ("", "", "", false)
def tyJx3cf43 : Nat → FieldType := fun k => match k with
  | _ => .int
abbrev wsJx3cf430 : List Cond := u_ws RJx3cf43 TJx3cf43 0
theorem nmJx3cf43 : ∀ a, a < 0 → ∀ b, b < 0 → a ≠ b → (TJx3cf43 a).2.1 ≠ (TJx3cf43 b).2.1 := by decide +kernel
theorem tyJx3cf43_ok : ∀ k, k < 0 → parseFieldDescriptor (TJx3cf43 k).2.2.1 = some (tyJx3cf43 k) := by decide +kernel
def RJ7 : String := "java/util/Arrays"
def TJ7 : u_T := fun k => match k with
  | _ => ("", "", "", false)
def tyJ7 : Nat → FieldType := fun k => match k with
  | _ => .int
abbrev wsJ70 : List Cond := u_ws RJ7 TJ7 0
theorem nmJ7 : ∀ a, a < 0 → ∀ b, b < 0 → a ≠ b → (TJ7 a).2.1 ≠ (TJ7 b).2.1 := by decide +kernel
theorem tyJ7_ok : ∀ k, k < 0 → parseFieldDescriptor (TJ7 k).2.2.1 = some (tyJ7 k) := by decide +kernel
abbrev cJ7_fill_53178 : ByteArray := prog_31_method_103_code
def yJ7_fill_53178 : MethodName := ⟨RJ7, "fill", "([II)V"⟩
abbrev cJ7_copyOf_9075b : ByteArray := prog_31_method_121_code
def yJ7_copyOf_9075b : MethodName := ⟨RJ7, "copyOf", "([BI)[B"⟩
abbrev cJ7_checkLength_df160 : ByteArray := prog_31_method_131_code
def yJ7_checkLength_df160 : MethodName := ⟨RJ7, "checkLength", "(II)V"⟩
abbrev cJ7_copyOfRange_39247 : ByteArray := prog_31_method_132_code
def yJ7_copyOfRange_39247 : MethodName := ⟨RJ7, "copyOfRange", "([BII)[B"⟩
abbrev cJ7_copyOfRangeByte_39247 : ByteArray := prog_31_method_133_code
def yJ7_copyOfRangeByte_39247 : MethodName := ⟨RJ7, "copyOfRangeByte", "([BII)[B"⟩
def RJ8 : String := "jdk/internal/util/ArraysSupport"
def TJ8 : u_T := fun k => match k with
  | _ => ("", "", "", false)
def tyJ8 : Nat → FieldType := fun k => match k with
  | _ => .int
abbrev wsJ80 : List Cond := u_ws RJ8 TJ8 0
theorem nmJ8 : ∀ a, a < 0 → ∀ b, b < 0 → a ≠ b → (TJ8 a).2.1 ≠ (TJ8 b).2.1 := by decide +kernel
theorem tyJ8_ok : ∀ k, k < 0 → parseFieldDescriptor (TJ8 k).2.2.1 = some (tyJ8 k) := by decide +kernel
abbrev cJ8_newLength_cabcc : ByteArray := prog_32_method_27_code
def yJ8_newLength_cabcc : MethodName := ⟨RJ8, "newLength", "(III)I"⟩
abbrev cJ8_hugeLength_7cf53 : ByteArray := prog_32_method_28_code
def yJ8_hugeLength_7cf53 : MethodName := ⟨RJ8, "hugeLength", "(II)I"⟩
def RJ3 : String := "jdk/internal/util/Preconditions"
def TJ3 : u_T := fun k => match k with
  | _ => ("", "", "", false)
def tyJ3 : Nat → FieldType := fun k => match k with
  | _ => .int
abbrev wsJ30 : List Cond := u_ws RJ3 TJ3 0
theorem nmJ3 : ∀ a, a < 0 → ∀ b, b < 0 → a ≠ b → (TJ3 a).2.1 ≠ (TJ3 b).2.1 := by decide +kernel
theorem tyJ3_ok : ∀ k, k < 0 → parseFieldDescriptor (TJ3 k).2.2.1 = some (tyJ3 k) := by decide +kernel
abbrev cJ3_checkIndex_8e157 : ByteArray := prog_33_method_11_code
def yJ3_checkIndex_8e157 : MethodName := ⟨RJ3, "checkIndex", "(IILjava/util/function/BiFunction;)I"⟩
abbrev cJ3_checkFromToIndex_8c36e : ByteArray := prog_33_method_12_code
def yJ3_checkFromToIndex_8c36e : MethodName := ⟨RJ3, "checkFromToIndex", "(IIILjava/util/function/BiFunction;)I"⟩
abbrev cJ3_checkFromIndexSize_8c36e : ByteArray := prog_33_method_13_code
def yJ3_checkFromIndexSize_8c36e : MethodName := ⟨RJ3, "checkFromIndexSize", "(IIILjava/util/function/BiFunction;)I"⟩
def RL : String := "SofaDigLaw"
abbrev cL_below : ByteArray := method_2_code
def yL_below : MethodName := ⟨RL, "below", "(II)I"⟩
abbrev cL_cell : ByteArray := method_3_code
def yL_cell : MethodName := ⟨RL, "cell", "([II)I"⟩
abbrev cL_taught : ByteArray := method_4_code
def yL_taught : MethodName := ⟨RL, "taught", "(LSofaDig;Ljava/lang/String;)I"⟩
abbrev cL_sum : ByteArray := method_5_code
def yL_sum : MethodName := ⟨RL, "sum", "(III)LSofaDigLaw$Tree;"⟩
abbrev cL_test : ByteArray := method_6_code
def yL_test : MethodName := ⟨RL, "test", "(III)LSofaDigLaw$Tree;"⟩
abbrev cL_told : ByteArray := method_7_code
def yL_told : MethodName := ⟨RL, "told", "([ILjava/lang/StringBuilder;)LSofaDigLaw$Sim;"⟩
abbrev cL_act : ByteArray := method_8_code
def yL_act : MethodName := ⟨RL, "act", "(LSofaDig;LSofaDigLaw$Sim;I)Z"⟩
abbrev cL_law : ByteArray := code
def yL_law : MethodName := ⟨RL, "law", "([I)Z"⟩
theorem inX0 : ∀ w ∈ wsX00, w ∈ lw_tbl := by decide +kernel
theorem inX1 : ∀ w ∈ wsX10, w ∈ lw_tbl := by decide +kernel
theorem inX2 : ∀ w ∈ wsX20, w ∈ lw_tbl := by decide +kernel
theorem inX3 : ∀ w ∈ wsX30, w ∈ lw_tbl := by decide +kernel
theorem inX4 : ∀ w ∈ wsX40, w ∈ lw_tbl := by decide +kernel
theorem inX5 : ∀ w ∈ wsX50, w ∈ lw_tbl := by decide +kernel
theorem inX6 : ∀ w ∈ wsX60, w ∈ lw_tbl := by decide +kernel
theorem inX7 : ∀ w ∈ wsX70, w ∈ lw_tbl := by decide +kernel
theorem inX8 : ∀ w ∈ wsX80, w ∈ lw_tbl := by decide +kernel
theorem inX9 : ∀ w ∈ wsX90, w ∈ lw_tbl := by decide +kernel
theorem inX10 : ∀ w ∈ wsX100, w ∈ lw_tbl := by decide +kernel
theorem inX11 : ∀ w ∈ wsX110, w ∈ lw_tbl := by decide +kernel
theorem inX12 : ∀ w ∈ wsX120, w ∈ lw_tbl := by decide +kernel
theorem inJx145de : ∀ w ∈ wsJx145de0, w ∈ lw_tbl := by decide +kernel
theorem inJ5 : ∀ w ∈ wsJ50, w ∈ lw_tbl := by decide +kernel
theorem inJx2cfe8 : ∀ w ∈ wsJx2cfe80, w ∈ lw_tbl := by decide +kernel
theorem inJx9f9b0 : ∀ w ∈ wsJx9f9b00, w ∈ lw_tbl := by decide +kernel
theorem inJx8e188 : ∀ w ∈ wsJx8e1880, w ∈ lw_tbl := by decide +kernel
theorem inJxb160c : ∀ w ∈ wsJxb160c0, w ∈ lw_tbl := by decide +kernel
theorem inJ6 : ∀ w ∈ wsJ60, w ∈ lw_tbl := by decide +kernel
theorem inJ9 : ∀ w ∈ wsJ90, w ∈ lw_tbl := by decide +kernel
theorem inJxd2413 : ∀ w ∈ wsJxd24130, w ∈ lw_tbl := by decide +kernel
theorem inJ0 : ∀ w ∈ wsJ00, w ∈ lw_tbl := by decide +kernel
theorem inJ4 : ∀ w ∈ wsJ40, w ∈ lw_tbl := by decide +kernel
theorem inJ1 : ∀ w ∈ wsJ10, w ∈ lw_tbl := by decide +kernel
theorem inJ2 : ∀ w ∈ wsJ20, w ∈ lw_tbl := by decide +kernel
theorem inJ10 : ∀ w ∈ wsJ100, w ∈ lw_tbl := by decide +kernel
theorem inJxfd54e : ∀ w ∈ wsJxfd54e0, w ∈ lw_tbl := by decide +kernel
theorem inJx3cf43 : ∀ w ∈ wsJx3cf430, w ∈ lw_tbl := by decide +kernel
theorem inJ7 : ∀ w ∈ wsJ70, w ∈ lw_tbl := by decide +kernel
theorem inJ8 : ∀ w ∈ wsJ80, w ∈ lw_tbl := by decide +kernel
theorem inJ3 : ∀ w ∈ wsJ30, w ∈ lw_tbl := by decide +kernel
abbrev vwCl : List vw_C := [(RX1, TX1, 7), (RX2, TX2, 2), (RX3, TX3, 6), (RX4, TX4, 14), (RX5, TX5, 2), (RX6, TX6, 7), (RX7, TX7, 13), (RX8, TX8, 7), (RX9, TX9, 12), (RX10, TX10, 4), (RJ0, TJ0, 4), (RJ4, TJ4, 4)]

/-- private methods of AbstractStringBuilder, asked of a StringBuilder (shown at the law's entry) -/
def selB : List Cond := [Cond.selects RJ4 yJ5_ensureCapacityInternal_d00df yJ5_ensureCapacityInternal_d00df, Cond.selects RJ4 yJ5_newCapacity_0f7a4 yJ5_newCapacity_0f7a4, Cond.selects RJ4 yJ5_putStringAt_47b60 yJ5_putStringAt_47b60, Cond.selects RJ4 yJ5_inflateIfNeededFor_a7421 yJ5_inflateIfNeededFor_a7421]
def gtbl : List Cond := lw_tbl.filter goodWord ++ selB
theorem gtbl_good : gtbl.all goodWord = true := List.all_eq_true.mpr fun w h => (List.mem_append.mp h).elim (fun h => (List.mem_filter.mp h).2) (fun h => List.all_eq_true.mp (by decide +kernel : selB.all goodWord = true) w h)
theorem gtbl_of {w : Cond} (h : w ∈ lw_tbl) (hg : goodWord w = true) : w ∈ gtbl := List.mem_append_left _ (List.mem_filter.mpr ⟨h, hg⟩)
theorem gtbl_in {w : Cond} (h : w ∈ gtbl) : w ∈ lw_tbl ∨ w ∈ selB := (List.mem_append.mp h).elim (fun h => Or.inl (List.mem_filter.mp h).1) Or.inr

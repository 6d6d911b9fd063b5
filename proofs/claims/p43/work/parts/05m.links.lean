/-! the tables' words by place -/
def CallF (own : String) (idx : Nat) (y : MethodName) (bytes : ByteArray) (maxL : Nat) (ret : Option FieldType) (n : Nat) : Prop := Cond.code y bytes maxL ret ∈ gtbl ∧ Cond.methodLink own idx y ∈ gtbl ∧ Cond.initialized y.cls ∈ gtbl ∧ (y.cls ≠ "java/lang/invoke/MethodHandle" ∧ y.cls ≠ "java/lang/invoke/VarHandle" ∧ (parseMethodDescriptor y.desc).map (fun d => d.parameters.length) = some n)
theorem fl_X5_9 : Cond.fieldLink RX5 9 "SofaDig$Tape" "bytes" "[B" ∈ gtbl := gtbl_of (List.mem_append_right _ (List.mem_of_getElem? (i := 44) (by decide +kernel))) rfl
theorem fl_X8_55 : Cond.fieldLink RX8 55 "SofaDig$Tape" "length" "I" ∈ gtbl := gtbl_of (List.mem_append_right _ (List.mem_of_getElem? (i := 45) (by decide +kernel))) rfl
theorem fl_X5_15 : Cond.fieldLink RX5 15 "SofaDig$Tape" "length" "I" ∈ gtbl := gtbl_of (List.mem_append_right _ (List.mem_of_getElem? (i := 46) (by decide +kernel))) rfl
theorem fl_X1_27 : Cond.fieldLink RX1 27 "SofaDig$Plan" "orders" "I" ∈ gtbl := gtbl_of (List.mem_append_right _ (List.mem_of_getElem? (i := 65) (by decide +kernel))) rfl
theorem fl_X2_27 : Cond.fieldLink RX2 27 "SofaDig$Plan" "orders" "I" ∈ gtbl := gtbl_of (List.mem_append_right _ (List.mem_of_getElem? (i := 66) (by decide +kernel))) rfl
theorem fl_X3_160 : Cond.fieldLink RX3 160 "SofaDig$Plan" "orders" "I" ∈ gtbl := gtbl_of (List.mem_append_right _ (List.mem_of_getElem? (i := 67) (by decide +kernel))) rfl
theorem fl_X1_31 : Cond.fieldLink RX1 31 "SofaDig$Plan" "steps" "I" ∈ gtbl := gtbl_of (List.mem_append_right _ (List.mem_of_getElem? (i := 68) (by decide +kernel))) rfl
theorem fl_X3_168 : Cond.fieldLink RX3 168 "SofaDig$Plan" "steps" "I" ∈ gtbl := gtbl_of (List.mem_append_right _ (List.mem_of_getElem? (i := 69) (by decide +kernel))) rfl
theorem fl_X1_9 : Cond.fieldLink RX1 9 "SofaDig$Plan" "kinds" "[I" ∈ gtbl := gtbl_of (List.mem_append_right _ (List.mem_of_getElem? (i := 70) (by decide +kernel))) rfl
theorem fl_X1_15 : Cond.fieldLink RX1 15 "SofaDig$Plan" "sumEnds" "[I" ∈ gtbl := gtbl_of (List.mem_append_right _ (List.mem_of_getElem? (i := 71) (by decide +kernel))) rfl
theorem fl_X1_18 : Cond.fieldLink RX1 18 "SofaDig$Plan" "testEnds" "[I" ∈ gtbl := gtbl_of (List.mem_append_right _ (List.mem_of_getElem? (i := 72) (by decide +kernel))) rfl
theorem fl_X1_21 : Cond.fieldLink RX1 21 "SofaDig$Plan" "stepKinds" "[I" ∈ gtbl := gtbl_of (List.mem_append_right _ (List.mem_of_getElem? (i := 73) (by decide +kernel))) rfl
theorem fl_X1_24 : Cond.fieldLink RX1 24 "SofaDig$Plan" "stepDetails" "[I" ∈ gtbl := gtbl_of (List.mem_append_right _ (List.mem_of_getElem? (i := 74) (by decide +kernel))) rfl
theorem fl_X7_12 : Cond.fieldLink RX7 12 "SofaDig$Told" "plan" "LSofaDig$Plan;" ∈ gtbl := gtbl_of (List.mem_append_right _ (List.mem_of_getElem? (i := 106) (by decide +kernel))) rfl
theorem fl_X2_21 : Cond.fieldLink RX2 21 "SofaDig$Told" "plan" "LSofaDig$Plan;" ∈ gtbl := gtbl_of (List.mem_append_right _ (List.mem_of_getElem? (i := 107) (by decide +kernel))) rfl
theorem fl_X3_156 : Cond.fieldLink RX3 156 "SofaDig$Told" "plan" "LSofaDig$Plan;" ∈ gtbl := gtbl_of (List.mem_append_right _ (List.mem_of_getElem? (i := 108) (by decide +kernel))) rfl
theorem fl_X4_39 : Cond.fieldLink RX4 39 "SofaDig$Told" "seats" "I" ∈ gtbl := gtbl_of (List.mem_append_right _ (List.mem_of_getElem? (i := 109) (by decide +kernel))) rfl
theorem fl_X7_66 : Cond.fieldLink RX7 66 "SofaDig$Told" "seats" "I" ∈ gtbl := gtbl_of (List.mem_append_right _ (List.mem_of_getElem? (i := 110) (by decide +kernel))) rfl
theorem fl_X8_87 : Cond.fieldLink RX8 87 "SofaDig$Told" "seats" "I" ∈ gtbl := gtbl_of (List.mem_append_right _ (List.mem_of_getElem? (i := 111) (by decide +kernel))) rfl
theorem fl_X3_139 : Cond.fieldLink RX3 139 "SofaDig$Told" "seats" "I" ∈ gtbl := gtbl_of (List.mem_append_right _ (List.mem_of_getElem? (i := 112) (by decide +kernel))) rfl
theorem fl_X4_45 : Cond.fieldLink RX4 45 "SofaDig$Told" "strata" "I" ∈ gtbl := gtbl_of (List.mem_append_right _ (List.mem_of_getElem? (i := 113) (by decide +kernel))) rfl
theorem fl_X7_69 : Cond.fieldLink RX7 69 "SofaDig$Told" "strata" "I" ∈ gtbl := gtbl_of (List.mem_append_right _ (List.mem_of_getElem? (i := 114) (by decide +kernel))) rfl
theorem fl_X8_90 : Cond.fieldLink RX8 90 "SofaDig$Told" "strata" "I" ∈ gtbl := gtbl_of (List.mem_append_right _ (List.mem_of_getElem? (i := 115) (by decide +kernel))) rfl
theorem fl_X3_153 : Cond.fieldLink RX3 153 "SofaDig$Told" "strata" "I" ∈ gtbl := gtbl_of (List.mem_append_right _ (List.mem_of_getElem? (i := 116) (by decide +kernel))) rfl
theorem fl_X7_52 : Cond.fieldLink RX7 52 "SofaDig$Told" "empires" "I" ∈ gtbl := gtbl_of (List.mem_append_right _ (List.mem_of_getElem? (i := 117) (by decide +kernel))) rfl
theorem fl_X3_111 : Cond.fieldLink RX3 111 "SofaDig$Told" "empires" "I" ∈ gtbl := gtbl_of (List.mem_append_right _ (List.mem_of_getElem? (i := 118) (by decide +kernel))) rfl
theorem fl_X4_101 : Cond.fieldLink RX4 101 "SofaDig$Told" "empires" "I" ∈ gtbl := gtbl_of (List.mem_append_right _ (List.mem_of_getElem? (i := 119) (by decide +kernel))) rfl
theorem fl_X8_187 : Cond.fieldLink RX8 187 "SofaDig$Told" "empires" "I" ∈ gtbl := gtbl_of (List.mem_append_right _ (List.mem_of_getElem? (i := 120) (by decide +kernel))) rfl
theorem fl_X7_56 : Cond.fieldLink RX7 56 "SofaDig$Told" "finds" "I" ∈ gtbl := gtbl_of (List.mem_append_right _ (List.mem_of_getElem? (i := 121) (by decide +kernel))) rfl
theorem fl_X8_93 : Cond.fieldLink RX8 93 "SofaDig$Told" "finds" "I" ∈ gtbl := gtbl_of (List.mem_append_right _ (List.mem_of_getElem? (i := 122) (by decide +kernel))) rfl
theorem fl_X4_80 : Cond.fieldLink RX4 80 "SofaDig$Told" "finds" "I" ∈ gtbl := gtbl_of (List.mem_append_right _ (List.mem_of_getElem? (i := 123) (by decide +kernel))) rfl
theorem fl_X3_133 : Cond.fieldLink RX3 133 "SofaDig$Told" "finds" "I" ∈ gtbl := gtbl_of (List.mem_append_right _ (List.mem_of_getElem? (i := 124) (by decide +kernel))) rfl
theorem fl_X7_18 : Cond.fieldLink RX7 18 "SofaDig$Told" "names" "[J" ∈ gtbl := gtbl_of (List.mem_append_right _ (List.mem_of_getElem? (i := 125) (by decide +kernel))) rfl
theorem fl_X7_22 : Cond.fieldLink RX7 22 "SofaDig$Told" "froms" "[I" ∈ gtbl := gtbl_of (List.mem_append_right _ (List.mem_of_getElem? (i := 126) (by decide +kernel))) rfl
theorem fl_X7_26 : Cond.fieldLink RX7 26 "SofaDig$Told" "tos" "[I" ∈ gtbl := gtbl_of (List.mem_append_right _ (List.mem_of_getElem? (i := 127) (by decide +kernel))) rfl
theorem fl_X7_29 : Cond.fieldLink RX7 29 "SofaDig$Told" "coins" "[Z" ∈ gtbl := gtbl_of (List.mem_append_right _ (List.mem_of_getElem? (i := 128) (by decide +kernel))) rfl
theorem fl_X7_33 : Cond.fieldLink RX7 33 "SofaDig$Told" "cushions" "[I" ∈ gtbl := gtbl_of (List.mem_append_right _ (List.mem_of_getElem? (i := 129) (by decide +kernel))) rfl
theorem fl_X7_36 : Cond.fieldLink RX7 36 "SofaDig$Told" "details" "[I" ∈ gtbl := gtbl_of (List.mem_append_right _ (List.mem_of_getElem? (i := 130) (by decide +kernel))) rfl
theorem fl_X7_39 : Cond.fieldLink RX7 39 "SofaDig$Told" "findsIn" "[I" ∈ gtbl := gtbl_of (List.mem_append_right _ (List.mem_of_getElem? (i := 131) (by decide +kernel))) rfl
theorem fl_X7_42 : Cond.fieldLink RX7 42 "SofaDig$Told" "springsIn" "[Z" ∈ gtbl := gtbl_of (List.mem_append_right _ (List.mem_of_getElem? (i := 132) (by decide +kernel))) rfl
theorem fl_X6_9 : Cond.fieldLink RX6 9 "SofaDig$Tokens" "kinds" "[I" ∈ gtbl := gtbl_of (List.mem_append_right _ (List.mem_of_getElem? (i := 174) (by decide +kernel))) rfl
theorem fl_X3_43 : Cond.fieldLink RX3 43 "SofaDig$Tokens" "kinds" "[I" ∈ gtbl := gtbl_of (List.mem_append_right _ (List.mem_of_getElem? (i := 175) (by decide +kernel))) rfl
theorem fl_X6_15 : Cond.fieldLink RX6 15 "SofaDig$Tokens" "starts" "[I" ∈ gtbl := gtbl_of (List.mem_append_right _ (List.mem_of_getElem? (i := 176) (by decide +kernel))) rfl
theorem fl_X3_65 : Cond.fieldLink RX3 65 "SofaDig$Tokens" "starts" "[I" ∈ gtbl := gtbl_of (List.mem_append_right _ (List.mem_of_getElem? (i := 177) (by decide +kernel))) rfl
theorem fl_X6_18 : Cond.fieldLink RX6 18 "SofaDig$Tokens" "numbers" "[I" ∈ gtbl := gtbl_of (List.mem_append_right _ (List.mem_of_getElem? (i := 178) (by decide +kernel))) rfl
theorem fl_X3_74 : Cond.fieldLink RX3 74 "SofaDig$Tokens" "numbers" "[I" ∈ gtbl := gtbl_of (List.mem_append_right _ (List.mem_of_getElem? (i := 179) (by decide +kernel))) rfl
theorem fl_X6_21 : Cond.fieldLink RX6 21 "SofaDig$Tokens" "names" "[J" ∈ gtbl := gtbl_of (List.mem_append_right _ (List.mem_of_getElem? (i := 180) (by decide +kernel))) rfl
theorem fl_X3_103 : Cond.fieldLink RX3 103 "SofaDig$Tokens" "names" "[J" ∈ gtbl := gtbl_of (List.mem_append_right _ (List.mem_of_getElem? (i := 181) (by decide +kernel))) rfl
theorem fl_X6_33 : Cond.fieldLink RX6 33 "SofaDig$Tokens" "count" "I" ∈ gtbl := gtbl_of (List.mem_append_right _ (List.mem_of_getElem? (i := 182) (by decide +kernel))) rfl
theorem fl_X3_62 : Cond.fieldLink RX3 62 "SofaDig$Tokens" "count" "I" ∈ gtbl := gtbl_of (List.mem_append_right _ (List.mem_of_getElem? (i := 183) (by decide +kernel))) rfl
theorem fl_X6_25 : Cond.fieldLink RX6 25 "SofaDig$Tokens" "tape" "LSofaDig$Tape;" ∈ gtbl := gtbl_of (List.mem_append_right _ (List.mem_of_getElem? (i := 184) (by decide +kernel))) rfl
theorem fl_X6_29 : Cond.fieldLink RX6 29 "SofaDig$Tokens" "next" "I" ∈ gtbl := gtbl_of (List.mem_append_right _ (List.mem_of_getElem? (i := 185) (by decide +kernel))) rfl
theorem fl_X3_14 : Cond.fieldLink RX3 14 "SofaDig$Reader" "tokens" "LSofaDig$Tokens;" ∈ gtbl := gtbl_of (List.mem_append_right _ (List.mem_of_getElem? (i := 203) (by decide +kernel))) rfl
theorem fl_X3_23 : Cond.fieldLink RX3 23 "SofaDig$Reader" "told" "LSofaDig$Told;" ∈ gtbl := gtbl_of (List.mem_append_right _ (List.mem_of_getElem? (i := 204) (by decide +kernel))) rfl
theorem fl_X3_40 : Cond.fieldLink RX3 40 "SofaDig$Reader" "at" "I" ∈ gtbl := gtbl_of (List.mem_append_right _ (List.mem_of_getElem? (i := 205) (by decide +kernel))) rfl
theorem fl_X3_47 : Cond.fieldLink RX3 47 "SofaDig$Reader" "kind" "I" ∈ gtbl := gtbl_of (List.mem_append_right _ (List.mem_of_getElem? (i := 206) (by decide +kernel))) rfl
theorem fl_X3_31 : Cond.fieldLink RX3 31 "SofaDig$Reader" "error" "I" ∈ gtbl := gtbl_of (List.mem_append_right _ (List.mem_of_getElem? (i := 207) (by decide +kernel))) rfl
theorem fl_X3_27 : Cond.fieldLink RX3 27 "SofaDig$Reader" "errorStart" "I" ∈ gtbl := gtbl_of (List.mem_append_right _ (List.mem_of_getElem? (i := 208) (by decide +kernel))) rfl
theorem fl_X2_9 : Cond.fieldLink RX2 9 "SofaDig$Planner" "pile" "[I" ∈ gtbl := gtbl_of (List.mem_append_right _ (List.mem_of_getElem? (i := 228) (by decide +kernel))) rfl
theorem fl_X2_89 : Cond.fieldLink RX2 89 "SofaDig$Planner" "piled" "I" ∈ gtbl := gtbl_of (List.mem_append_right _ (List.mem_of_getElem? (i := 229) (by decide +kernel))) rfl
theorem fl_X4_31 : Cond.fieldLink RX4 31 "SofaDig$Sofa" "told" "LSofaDig$Told;" ∈ gtbl := gtbl_of (List.mem_append_right _ (List.mem_of_getElem? (i := 245) (by decide +kernel))) rfl
theorem fl_X2_15 : Cond.fieldLink RX2 15 "SofaDig$Sofa" "told" "LSofaDig$Told;" ∈ gtbl := gtbl_of (List.mem_append_right _ (List.mem_of_getElem? (i := 246) (by decide +kernel))) rfl
theorem fl_X4_9 : Cond.fieldLink RX4 9 "SofaDig$Sofa" "stacks" "[I" ∈ gtbl := gtbl_of (List.mem_append_right _ (List.mem_of_getElem? (i := 247) (by decide +kernel))) rfl
theorem fl_X4_15 : Cond.fieldLink RX4 15 "SofaDig$Sofa" "heights" "[I" ∈ gtbl := gtbl_of (List.mem_append_right _ (List.mem_of_getElem? (i := 248) (by decide +kernel))) rfl
theorem fl_X4_18 : Cond.fieldLink RX4 18 "SofaDig$Sofa" "loose" "[Z" ∈ gtbl := gtbl_of (List.mem_append_right _ (List.mem_of_getElem? (i := 249) (by decide +kernel))) rfl
theorem fl_X4_22 : Cond.fieldLink RX4 22 "SofaDig$Sofa" "propped" "[Z" ∈ gtbl := gtbl_of (List.mem_append_right _ (List.mem_of_getElem? (i := 250) (by decide +kernel))) rfl
theorem fl_X4_25 : Cond.fieldLink RX4 25 "SofaDig$Sofa" "foundOnes" "[Z" ∈ gtbl := gtbl_of (List.mem_append_right _ (List.mem_of_getElem? (i := 251) (by decide +kernel))) rfl
theorem fl_X4_28 : Cond.fieldLink RX4 28 "SofaDig$Sofa" "sureOnes" "[Z" ∈ gtbl := gtbl_of (List.mem_append_right _ (List.mem_of_getElem? (i := 252) (by decide +kernel))) rfl
theorem fl_X2_58 : Cond.fieldLink RX2 58 "SofaDig$Sofa" "days" "I" ∈ gtbl := gtbl_of (List.mem_append_right _ (List.mem_of_getElem? (i := 253) (by decide +kernel))) rfl
theorem fl_X4_48 : Cond.fieldLink RX4 48 "SofaDig$Sofa" "days" "I" ∈ gtbl := gtbl_of (List.mem_append_right _ (List.mem_of_getElem? (i := 254) (by decide +kernel))) rfl
theorem fl_X8_96 : Cond.fieldLink RX8 96 "SofaDig$Sofa" "days" "I" ∈ gtbl := gtbl_of (List.mem_append_right _ (List.mem_of_getElem? (i := 255) (by decide +kernel))) rfl
theorem fl_X4_51 : Cond.fieldLink RX4 51 "SofaDig$Sofa" "carriedOut" "I" ∈ gtbl := gtbl_of (List.mem_append_right _ (List.mem_of_getElem? (i := 256) (by decide +kernel))) rfl
theorem fl_X2_72 : Cond.fieldLink RX2 72 "SofaDig$Sofa" "carriedOut" "I" ∈ gtbl := gtbl_of (List.mem_append_right _ (List.mem_of_getElem? (i := 257) (by decide +kernel))) rfl
theorem fl_X8_99 : Cond.fieldLink RX8 99 "SofaDig$Sofa" "carriedOut" "I" ∈ gtbl := gtbl_of (List.mem_append_right _ (List.mem_of_getElem? (i := 258) (by decide +kernel))) rfl
theorem fl_X4_54 : Cond.fieldLink RX4 54 "SofaDig$Sofa" "dug" "I" ∈ gtbl := gtbl_of (List.mem_append_right _ (List.mem_of_getElem? (i := 259) (by decide +kernel))) rfl
theorem fl_X8_102 : Cond.fieldLink RX8 102 "SofaDig$Sofa" "dug" "I" ∈ gtbl := gtbl_of (List.mem_append_right _ (List.mem_of_getElem? (i := 260) (by decide +kernel))) rfl
theorem fl_X4_57 : Cond.fieldLink RX4 57 "SofaDig$Sofa" "slid" "I" ∈ gtbl := gtbl_of (List.mem_append_right _ (List.mem_of_getElem? (i := 261) (by decide +kernel))) rfl
theorem fl_X2_111 : Cond.fieldLink RX2 111 "SofaDig$Sofa" "slid" "I" ∈ gtbl := gtbl_of (List.mem_append_right _ (List.mem_of_getElem? (i := 262) (by decide +kernel))) rfl
theorem fl_X8_105 : Cond.fieldLink RX8 105 "SofaDig$Sofa" "slid" "I" ∈ gtbl := gtbl_of (List.mem_append_right _ (List.mem_of_getElem? (i := 263) (by decide +kernel))) rfl
theorem fl_X4_60 : Cond.fieldLink RX4 60 "SofaDig$Sofa" "foundCount" "I" ∈ gtbl := gtbl_of (List.mem_append_right _ (List.mem_of_getElem? (i := 264) (by decide +kernel))) rfl
theorem fl_X2_108 : Cond.fieldLink RX2 108 "SofaDig$Sofa" "foundCount" "I" ∈ gtbl := gtbl_of (List.mem_append_right _ (List.mem_of_getElem? (i := 265) (by decide +kernel))) rfl
theorem fl_X8_108 : Cond.fieldLink RX8 108 "SofaDig$Sofa" "foundCount" "I" ∈ gtbl := gtbl_of (List.mem_append_right _ (List.mem_of_getElem? (i := 266) (by decide +kernel))) rfl
theorem fl_X4_63 : Cond.fieldLink RX4 63 "SofaDig$Sofa" "sureCount" "I" ∈ gtbl := gtbl_of (List.mem_append_right _ (List.mem_of_getElem? (i := 267) (by decide +kernel))) rfl
theorem fl_X8_111 : Cond.fieldLink RX8 111 "SofaDig$Sofa" "sureCount" "I" ∈ gtbl := gtbl_of (List.mem_append_right _ (List.mem_of_getElem? (i := 268) (by decide +kernel))) rfl
theorem fl_X4_66 : Cond.fieldLink RX4 66 "SofaDig$Sofa" "propCount" "I" ∈ gtbl := gtbl_of (List.mem_append_right _ (List.mem_of_getElem? (i := 269) (by decide +kernel))) rfl
theorem fl_X2_114 : Cond.fieldLink RX2 114 "SofaDig$Sofa" "propCount" "I" ∈ gtbl := gtbl_of (List.mem_append_right _ (List.mem_of_getElem? (i := 270) (by decide +kernel))) rfl
theorem fl_X8_114 : Cond.fieldLink RX8 114 "SofaDig$Sofa" "propCount" "I" ∈ gtbl := gtbl_of (List.mem_append_right _ (List.mem_of_getElem? (i := 271) (by decide +kernel))) rfl
theorem fl_X8_13 : Cond.fieldLink RX8 13 "SofaDig" "tape" "LSofaDig$Tape;" ∈ gtbl := gtbl_of (List.mem_append_right _ (List.mem_of_getElem? (i := 301) (by decide +kernel))) rfl
theorem fl_X8_24 : Cond.fieldLink RX8 24 "SofaDig" "reader" "LSofaDig$Reader;" ∈ gtbl := gtbl_of (List.mem_append_right _ (List.mem_of_getElem? (i := 302) (by decide +kernel))) rfl
theorem fl_X8_31 : Cond.fieldLink RX8 31 "SofaDig" "planner" "LSofaDig$Planner;" ∈ gtbl := gtbl_of (List.mem_append_right _ (List.mem_of_getElem? (i := 303) (by decide +kernel))) rfl
theorem fl_X8_40 : Cond.fieldLink RX8 40 "SofaDig" "sofa" "LSofaDig$Sofa;" ∈ gtbl := gtbl_of (List.mem_append_right _ (List.mem_of_getElem? (i := 304) (by decide +kernel))) rfl
theorem fl_X8_44 : Cond.fieldLink RX8 44 "SofaDig" "trial" "LSofaDig$Sofa;" ∈ gtbl := gtbl_of (List.mem_append_right _ (List.mem_of_getElem? (i := 305) (by decide +kernel))) rfl
theorem fl_X8_47 : Cond.fieldLink RX8 47 "SofaDig" "told" "LSofaDig$Told;" ∈ gtbl := gtbl_of (List.mem_append_right _ (List.mem_of_getElem? (i := 306) (by decide +kernel))) rfl
theorem fl_X8_51 : Cond.fieldLink RX8 51 "SofaDig" "errorPlace" "I" ∈ gtbl := gtbl_of (List.mem_append_right _ (List.mem_of_getElem? (i := 307) (by decide +kernel))) rfl
theorem fl_J0_38 : Cond.fieldLink RJ0 38 "java/lang/String" "COMPACT_STRINGS" "Z" ∈ gtbl := gtbl_of (List.mem_append_right _ (List.mem_of_getElem? (i := 975) (by decide +kernel))) rfl
theorem fl_J0_1053 : Cond.fieldLink RJ0 1053 "jdk/internal/util/Preconditions" "SIOOBE_FORMATTER" "Ljava/util/function/BiFunction;" ∈ gtbl := gtbl_of (List.mem_append_right _ (List.mem_of_getElem? (i := 991) (by decide +kernel))) rfl
theorem fl_J2_44 : Cond.fieldLink RJ2 44 "java/lang/StringUTF16" "$assertionsDisabled" "Z" ∈ gtbl := gtbl_of (List.mem_append_right _ (List.mem_of_getElem? (i := 1009) (by decide +kernel))) rfl
theorem fl_J2_59 : Cond.fieldLink RJ2 59 "java/lang/StringUTF16" "HI_BYTE_SHIFT" "I" ∈ gtbl := gtbl_of (List.mem_append_right _ (List.mem_of_getElem? (i := 1011) (by decide +kernel))) rfl
theorem fl_J2_63 : Cond.fieldLink RJ2 63 "java/lang/StringUTF16" "LO_BYTE_SHIFT" "I" ∈ gtbl := gtbl_of (List.mem_append_right _ (List.mem_of_getElem? (i := 1013) (by decide +kernel))) rfl
theorem fl_X9_7 : Cond.fieldLink RX9 7 "SofaDigLaw$Sim" "strata" "I" ∈ gtbl := gtbl_of (List.mem_append_right _ (List.mem_of_getElem? (i := 1250) (by decide +kernel))) rfl
theorem fl_X9_15 : Cond.fieldLink RX9 15 "SofaDigLaw$Sim" "stacks" "[[[I" ∈ gtbl := gtbl_of (List.mem_append_right _ (List.mem_of_getElem? (i := 1251) (by decide +kernel))) rfl
theorem fl_X10_36 : Cond.fieldLink RX10 36 "SofaDigLaw$Sim" "stacks" "[[[I" ∈ gtbl := gtbl_of (List.mem_append_right _ (List.mem_of_getElem? (i := 1252) (by decide +kernel))) rfl
theorem fl_L_104 : Cond.fieldLink RL 104 "SofaDigLaw$Sim" "stacks" "[[[I" ∈ gtbl := gtbl_of (List.mem_append_right _ (List.mem_of_getElem? (i := 1253) (by decide +kernel))) rfl
theorem fl_X9_21 : Cond.fieldLink RX9 21 "SofaDigLaw$Sim" "finds" "[[I" ∈ gtbl := gtbl_of (List.mem_append_right _ (List.mem_of_getElem? (i := 1254) (by decide +kernel))) rfl
theorem fl_L_119 : Cond.fieldLink RL 119 "SofaDigLaw$Sim" "finds" "[[I" ∈ gtbl := gtbl_of (List.mem_append_right _ (List.mem_of_getElem? (i := 1255) (by decide +kernel))) rfl
theorem fl_X9_24 : Cond.fieldLink RX9 24 "SofaDigLaw$Sim" "empires" "[[I" ∈ gtbl := gtbl_of (List.mem_append_right _ (List.mem_of_getElem? (i := 1256) (by decide +kernel))) rfl
theorem fl_X10_32 : Cond.fieldLink RX10 32 "SofaDigLaw$Sim" "empires" "[[I" ∈ gtbl := gtbl_of (List.mem_append_right _ (List.mem_of_getElem? (i := 1257) (by decide +kernel))) rfl
theorem fl_L_88 : Cond.fieldLink RL 88 "SofaDigLaw$Sim" "empires" "[[I" ∈ gtbl := gtbl_of (List.mem_append_right _ (List.mem_of_getElem? (i := 1258) (by decide +kernel))) rfl
theorem fl_X9_27 : Cond.fieldLink RX9 27 "SofaDigLaw$Sim" "isPropped" "[Z" ∈ gtbl := gtbl_of (List.mem_append_right _ (List.mem_of_getElem? (i := 1259) (by decide +kernel))) rfl
theorem fl_L_158 : Cond.fieldLink RL 158 "SofaDigLaw$Sim" "isPropped" "[Z" ∈ gtbl := gtbl_of (List.mem_append_right _ (List.mem_of_getElem? (i := 1260) (by decide +kernel))) rfl
theorem fl_X9_31 : Cond.fieldLink RX9 31 "SofaDigLaw$Sim" "orders" "[I" ∈ gtbl := gtbl_of (List.mem_append_right _ (List.mem_of_getElem? (i := 1261) (by decide +kernel))) rfl
theorem fl_L_130 : Cond.fieldLink RL 130 "SofaDigLaw$Sim" "orders" "[I" ∈ gtbl := gtbl_of (List.mem_append_right _ (List.mem_of_getElem? (i := 1262) (by decide +kernel))) rfl
theorem fl_X9_36 : Cond.fieldLink RX9 36 "SofaDigLaw$Sim" "sums" "[LSofaDigLaw$Tree;" ∈ gtbl := gtbl_of (List.mem_append_right _ (List.mem_of_getElem? (i := 1263) (by decide +kernel))) rfl
theorem fl_L_134 : Cond.fieldLink RL 134 "SofaDigLaw$Sim" "sums" "[LSofaDigLaw$Tree;" ∈ gtbl := gtbl_of (List.mem_append_right _ (List.mem_of_getElem? (i := 1264) (by decide +kernel))) rfl
theorem fl_X9_40 : Cond.fieldLink RX9 40 "SofaDigLaw$Sim" "tests" "[LSofaDigLaw$Tree;" ∈ gtbl := gtbl_of (List.mem_append_right _ (List.mem_of_getElem? (i := 1265) (by decide +kernel))) rfl
theorem fl_L_138 : Cond.fieldLink RL 138 "SofaDigLaw$Sim" "tests" "[LSofaDigLaw$Tree;" ∈ gtbl := gtbl_of (List.mem_append_right _ (List.mem_of_getElem? (i := 1266) (by decide +kernel))) rfl
theorem fl_X10_16 : Cond.fieldLink RX10 16 "SofaDigLaw$Sim" "days" "I" ∈ gtbl := gtbl_of (List.mem_append_right _ (List.mem_of_getElem? (i := 1267) (by decide +kernel))) rfl
theorem fl_X9_45 : Cond.fieldLink RX9 45 "SofaDigLaw$Sim" "days" "I" ∈ gtbl := gtbl_of (List.mem_append_right _ (List.mem_of_getElem? (i := 1268) (by decide +kernel))) rfl
theorem fl_X9_48 : Cond.fieldLink RX9 48 "SofaDigLaw$Sim" "carried" "I" ∈ gtbl := gtbl_of (List.mem_append_right _ (List.mem_of_getElem? (i := 1269) (by decide +kernel))) rfl
theorem fl_X9_51 : Cond.fieldLink RX9 51 "SofaDigLaw$Sim" "dug" "I" ∈ gtbl := gtbl_of (List.mem_append_right _ (List.mem_of_getElem? (i := 1270) (by decide +kernel))) rfl
theorem fl_X10_25 : Cond.fieldLink RX10 25 "SofaDigLaw$Sim" "slides" "I" ∈ gtbl := gtbl_of (List.mem_append_right _ (List.mem_of_getElem? (i := 1271) (by decide +kernel))) rfl
theorem fl_X9_54 : Cond.fieldLink RX9 54 "SofaDigLaw$Sim" "slides" "I" ∈ gtbl := gtbl_of (List.mem_append_right _ (List.mem_of_getElem? (i := 1272) (by decide +kernel))) rfl
theorem fl_J5_18 : Cond.fieldLink RJ5 18 "java/lang/String" "COMPACT_STRINGS" "Z" ∈ gtbl := gtbl_of (List.mem_append_right _ (List.mem_of_getElem? (i := 1348) (by decide +kernel))) rfl
theorem fl_J6_83 : Cond.fieldLink RJ6 83 "java/lang/Integer" "DigitOnes" "[B" ∈ gtbl := gtbl_of (List.mem_append_right _ (List.mem_of_getElem? (i := 1419) (by decide +kernel))) rfl
theorem fl_J6_87 : Cond.fieldLink RJ6 87 "java/lang/Integer" "DigitTens" "[B" ∈ gtbl := gtbl_of (List.mem_append_right _ (List.mem_of_getElem? (i := 1421) (by decide +kernel))) rfl
theorem fl_J2_403 : Cond.fieldLink RJ2 403 "java/lang/Integer" "DigitOnes" "[B" ∈ gtbl := gtbl_of (List.mem_append_right _ (List.mem_of_getElem? (i := 1429) (by decide +kernel))) rfl
theorem fl_J2_407 : Cond.fieldLink RJ2 407 "java/lang/Integer" "DigitTens" "[B" ∈ gtbl := gtbl_of (List.mem_append_right _ (List.mem_of_getElem? (i := 1430) (by decide +kernel))) rfl
theorem fl_J5_15 : Cond.fieldLink RJ5 15 "java/lang/AbstractStringBuilder" "value" "[B" ∈ gtbl := gtbl_of (List.mem_append_right _ (List.mem_of_getElem? (i := 1447) (by decide +kernel))) rfl
theorem fl_J5_22 : Cond.fieldLink RJ5 22 "java/lang/AbstractStringBuilder" "coder" "B" ∈ gtbl := gtbl_of (List.mem_append_right _ (List.mem_of_getElem? (i := 1448) (by decide +kernel))) rfl
theorem fl_J0_1048 : Cond.fieldLink RJ0 1048 "java/lang/AbstractStringBuilder" "maybeLatin1" "Z" ∈ gtbl := gtbl_of (List.mem_append_right _ (List.mem_of_getElem? (i := 1449) (by decide +kernel))) rfl
theorem fl_J5_79 : Cond.fieldLink RJ5 79 "java/lang/AbstractStringBuilder" "count" "I" ∈ gtbl := gtbl_of (List.mem_append_right _ (List.mem_of_getElem? (i := 1450) (by decide +kernel))) rfl
theorem fl_J0_9 : Cond.fieldLink RJ0 9 "java/lang/String" "value" "[B" ∈ gtbl := gtbl_of (List.mem_append_right _ (List.mem_of_getElem? (i := 1507) (by decide +kernel))) rfl
theorem fl_J0_15 : Cond.fieldLink RJ0 15 "java/lang/String" "coder" "B" ∈ gtbl := gtbl_of (List.mem_append_right _ (List.mem_of_getElem? (i := 1508) (by decide +kernel))) rfl
theorem fl_X10_7 : Cond.fieldLink RX10 7 "SofaDigLaw$Tree" "kind" "I" ∈ gtbl := gtbl_of (List.mem_append_right _ (List.mem_of_getElem? (i := 1531) (by decide +kernel))) rfl
theorem fl_L_41 : Cond.fieldLink RL 41 "SofaDigLaw$Tree" "kind" "I" ∈ gtbl := gtbl_of (List.mem_append_right _ (List.mem_of_getElem? (i := 1532) (by decide +kernel))) rfl
theorem fl_X10_13 : Cond.fieldLink RX10 13 "SofaDigLaw$Tree" "number" "I" ∈ gtbl := gtbl_of (List.mem_append_right _ (List.mem_of_getElem? (i := 1533) (by decide +kernel))) rfl
theorem fl_L_46 : Cond.fieldLink RL 46 "SofaDigLaw$Tree" "number" "I" ∈ gtbl := gtbl_of (List.mem_append_right _ (List.mem_of_getElem? (i := 1534) (by decide +kernel))) rfl
theorem fl_X10_40 : Cond.fieldLink RX10 40 "SofaDigLaw$Tree" "a" "LSofaDigLaw$Tree;" ∈ gtbl := gtbl_of (List.mem_append_right _ (List.mem_of_getElem? (i := 1535) (by decide +kernel))) rfl
theorem fl_L_53 : Cond.fieldLink RL 53 "SofaDigLaw$Tree" "a" "LSofaDigLaw$Tree;" ∈ gtbl := gtbl_of (List.mem_append_right _ (List.mem_of_getElem? (i := 1536) (by decide +kernel))) rfl
theorem fl_X10_58 : Cond.fieldLink RX10 58 "SofaDigLaw$Tree" "b" "LSofaDigLaw$Tree;" ∈ gtbl := gtbl_of (List.mem_append_right _ (List.mem_of_getElem? (i := 1537) (by decide +kernel))) rfl
theorem fl_L_57 : Cond.fieldLink RL 57 "SofaDigLaw$Tree" "b" "LSofaDigLaw$Tree;" ∈ gtbl := gtbl_of (List.mem_append_right _ (List.mem_of_getElem? (i := 1538) (by decide +kernel))) rfl
theorem cd_X0_ofWord : Cond.code yX0_ofWord cX0_ofWord 4 (some .int) ∈ gtbl := gtbl_of (List.mem_append_right _ (List.mem_of_getElem? (i := 1076) (by decide +kernel))) rfl
theorem st_X0_ofWord : Cond.static yX0_ofWord ∈ gtbl := gtbl_of (List.mem_append_right _ (List.mem_of_getElem? (i := 1075) (by decide +kernel))) rfl
theorem cd_X0_isWord : Cond.code yX0_isWord cX0_isWord 5 (some .boolean) ∈ gtbl := gtbl_of (List.mem_append_right _ (List.mem_of_getElem? (i := 1081) (by decide +kernel))) rfl
theorem st_X0_isWord : Cond.static yX0_isWord ∈ gtbl := gtbl_of (List.mem_append_right _ (List.mem_of_getElem? (i := 1080) (by decide +kernel))) rfl
theorem cd_X0_ofSign : Cond.code yX0_ofSign cX0_ofSign 3 (some .int) ∈ gtbl := gtbl_of (List.mem_append_right _ (List.mem_of_getElem? (i := 1090) (by decide +kernel))) rfl
theorem st_X0_ofSign : Cond.static yX0_ofSign ∈ gtbl := gtbl_of (List.mem_append_right _ (List.mem_of_getElem? (i := 1089) (by decide +kernel))) rfl
theorem cd_X0_lengthOfSign : Cond.code yX0_lengthOfSign cX0_lengthOfSign 1 (some .int) ∈ gtbl := gtbl_of (List.mem_append_right _ (List.mem_of_getElem? (i := 1094) (by decide +kernel))) rfl
theorem st_X0_lengthOfSign : Cond.static yX0_lengthOfSign ∈ gtbl := gtbl_of (List.mem_append_right _ (List.mem_of_getElem? (i := 1093) (by decide +kernel))) rfl
theorem cd_X1_init : Cond.code yX1_init cX1_init 1 none ∈ gtbl := gtbl_of (List.mem_append_right _ (List.mem_of_getElem? (i := 63) (by decide +kernel))) rfl
theorem im_X1_init : Cond.instanceMethod yX1_init ∈ gtbl := gtbl_of (List.mem_append_right _ (List.mem_of_getElem? (i := 62) (by decide +kernel))) rfl
theorem cd_X1_clear : Cond.code yX1_clear cX1_clear 1 none ∈ gtbl := gtbl_of (List.mem_append_right _ (List.mem_of_getElem? (i := 105) (by decide +kernel))) rfl
theorem im_X1_clear : Cond.instanceMethod yX1_clear ∈ gtbl := gtbl_of (List.mem_append_right _ (List.mem_of_getElem? (i := 103) (by decide +kernel))) rfl
theorem se_X1_clear : Cond.selects yX1_clear.cls yX1_clear yX1_clear ∈ gtbl := gtbl_of (List.mem_append_right _ (List.mem_of_getElem? (i := 104) (by decide +kernel))) rfl
theorem cd_X1_addStep : Cond.code yX1_addStep cX1_addStep 3 none ∈ gtbl := gtbl_of (List.mem_append_right _ (List.mem_of_getElem? (i := 1193) (by decide +kernel))) rfl
theorem im_X1_addStep : Cond.instanceMethod yX1_addStep ∈ gtbl := gtbl_of (List.mem_append_right _ (List.mem_of_getElem? (i := 1191) (by decide +kernel))) rfl
theorem se_X1_addStep : Cond.selects yX1_addStep.cls yX1_addStep yX1_addStep ∈ gtbl := gtbl_of (List.mem_append_right _ (List.mem_of_getElem? (i := 1192) (by decide +kernel))) rfl
theorem cd_X1_addOrder : Cond.code yX1_addOrder cX1_addOrder 3 none ∈ gtbl := gtbl_of (List.mem_append_right _ (List.mem_of_getElem? (i := 1225) (by decide +kernel))) rfl
theorem im_X1_addOrder : Cond.instanceMethod yX1_addOrder ∈ gtbl := gtbl_of (List.mem_append_right _ (List.mem_of_getElem? (i := 1223) (by decide +kernel))) rfl
theorem se_X1_addOrder : Cond.selects yX1_addOrder.cls yX1_addOrder yX1_addOrder ∈ gtbl := gtbl_of (List.mem_append_right _ (List.mem_of_getElem? (i := 1224) (by decide +kernel))) rfl
theorem cd_X1_kindOf : Cond.code yX1_kindOf cX1_kindOf 2 (some .int) ∈ gtbl := gtbl_of (List.mem_append_right _ (List.mem_of_getElem? (i := 774) (by decide +kernel))) rfl
theorem im_X1_kindOf : Cond.instanceMethod yX1_kindOf ∈ gtbl := gtbl_of (List.mem_append_right _ (List.mem_of_getElem? (i := 772) (by decide +kernel))) rfl
theorem se_X1_kindOf : Cond.selects yX1_kindOf.cls yX1_kindOf yX1_kindOf ∈ gtbl := gtbl_of (List.mem_append_right _ (List.mem_of_getElem? (i := 773) (by decide +kernel))) rfl
theorem cd_X1_sumStart : Cond.code yX1_sumStart cX1_sumStart 2 (some .int) ∈ gtbl := gtbl_of (List.mem_append_right _ (List.mem_of_getElem? (i := 769) (by decide +kernel))) rfl
theorem im_X1_sumStart : Cond.instanceMethod yX1_sumStart ∈ gtbl := gtbl_of (List.mem_append_right _ (List.mem_of_getElem? (i := 767) (by decide +kernel))) rfl
theorem se_X1_sumStart : Cond.selects yX1_sumStart.cls yX1_sumStart yX1_sumStart ∈ gtbl := gtbl_of (List.mem_append_right _ (List.mem_of_getElem? (i := 768) (by decide +kernel))) rfl
theorem cd_X1_sumEnd : Cond.code yX1_sumEnd cX1_sumEnd 2 (some .int) ∈ gtbl := gtbl_of (List.mem_append_right _ (List.mem_of_getElem? (i := 700) (by decide +kernel))) rfl
theorem im_X1_sumEnd : Cond.instanceMethod yX1_sumEnd ∈ gtbl := gtbl_of (List.mem_append_right _ (List.mem_of_getElem? (i := 698) (by decide +kernel))) rfl
theorem se_X1_sumEnd : Cond.selects yX1_sumEnd.cls yX1_sumEnd yX1_sumEnd ∈ gtbl := gtbl_of (List.mem_append_right _ (List.mem_of_getElem? (i := 699) (by decide +kernel))) rfl
theorem cd_X1_testEnd : Cond.code yX1_testEnd cX1_testEnd 2 (some .int) ∈ gtbl := gtbl_of (List.mem_append_right _ (List.mem_of_getElem? (i := 708) (by decide +kernel))) rfl
theorem im_X1_testEnd : Cond.instanceMethod yX1_testEnd ∈ gtbl := gtbl_of (List.mem_append_right _ (List.mem_of_getElem? (i := 706) (by decide +kernel))) rfl
theorem se_X1_testEnd : Cond.selects yX1_testEnd.cls yX1_testEnd yX1_testEnd ∈ gtbl := gtbl_of (List.mem_append_right _ (List.mem_of_getElem? (i := 707) (by decide +kernel))) rfl
theorem cd_X1_stepKind : Cond.code yX1_stepKind cX1_stepKind 2 (some .int) ∈ gtbl := gtbl_of (List.mem_append_right _ (List.mem_of_getElem? (i := 716) (by decide +kernel))) rfl
theorem im_X1_stepKind : Cond.instanceMethod yX1_stepKind ∈ gtbl := gtbl_of (List.mem_append_right _ (List.mem_of_getElem? (i := 714) (by decide +kernel))) rfl
theorem se_X1_stepKind : Cond.selects yX1_stepKind.cls yX1_stepKind yX1_stepKind ∈ gtbl := gtbl_of (List.mem_append_right _ (List.mem_of_getElem? (i := 715) (by decide +kernel))) rfl
theorem cd_X1_stepDetail : Cond.code yX1_stepDetail cX1_stepDetail 2 (some .int) ∈ gtbl := gtbl_of (List.mem_append_right _ (List.mem_of_getElem? (i := 724) (by decide +kernel))) rfl
theorem im_X1_stepDetail : Cond.instanceMethod yX1_stepDetail ∈ gtbl := gtbl_of (List.mem_append_right _ (List.mem_of_getElem? (i := 722) (by decide +kernel))) rfl
theorem se_X1_stepDetail : Cond.selects yX1_stepDetail.cls yX1_stepDetail yX1_stepDetail ∈ gtbl := gtbl_of (List.mem_append_right _ (List.mem_of_getElem? (i := 723) (by decide +kernel))) rfl
theorem cd_X1_isOrder : Cond.code yX1_isOrder cX1_isOrder 2 (some .boolean) ∈ gtbl := gtbl_of (List.mem_append_right _ (List.mem_of_getElem? (i := 704) (by decide +kernel))) rfl
theorem im_X1_isOrder : Cond.instanceMethod yX1_isOrder ∈ gtbl := gtbl_of (List.mem_append_right _ (List.mem_of_getElem? (i := 703) (by decide +kernel))) rfl
theorem se_X1_isOrder : Cond.selects yX1_isOrder.cls yX1_isOrder yX1_isOrder ∈ gtbl := gtbl_of (List.mem_append_left _ (List.mem_of_getElem? (i := 14) (by decide +kernel))) rfl
theorem cd_X1_isStep : Cond.code yX1_isStep cX1_isStep 2 (some .boolean) ∈ gtbl := gtbl_of (List.mem_append_right _ (List.mem_of_getElem? (i := 720) (by decide +kernel))) rfl
theorem im_X1_isStep : Cond.instanceMethod yX1_isStep ∈ gtbl := gtbl_of (List.mem_append_right _ (List.mem_of_getElem? (i := 719) (by decide +kernel))) rfl
theorem se_X1_isStep : Cond.selects yX1_isStep.cls yX1_isStep yX1_isStep ∈ gtbl := gtbl_of (List.mem_append_left _ (List.mem_of_getElem? (i := 16) (by decide +kernel))) rfl
theorem cd_X2_init : Cond.code yX2_init cX2_init 1 none ∈ gtbl := gtbl_of (List.mem_append_right _ (List.mem_of_getElem? (i := 226) (by decide +kernel))) rfl
theorem im_X2_init : Cond.instanceMethod yX2_init ∈ gtbl := gtbl_of (List.mem_append_right _ (List.mem_of_getElem? (i := 225) (by decide +kernel))) rfl
theorem cd_X2_liveDays : Cond.code yX2_liveDays cX2_liveDays 7 none ∈ gtbl := gtbl_of (List.mem_append_right _ (List.mem_of_getElem? (i := 692) (by decide +kernel))) rfl
theorem im_X2_liveDays : Cond.instanceMethod yX2_liveDays ∈ gtbl := gtbl_of (List.mem_append_right _ (List.mem_of_getElem? (i := 690) (by decide +kernel))) rfl
theorem se_X2_liveDays : Cond.selects yX2_liveDays.cls yX2_liveDays yX2_liveDays ∈ gtbl := gtbl_of (List.mem_append_right _ (List.mem_of_getElem? (i := 691) (by decide +kernel))) rfl
theorem cd_X2_isDue : Cond.code yX2_isDue cX2_isDue 6 (some .boolean) ∈ gtbl := gtbl_of (List.mem_append_right _ (List.mem_of_getElem? (i := 696) (by decide +kernel))) rfl
theorem im_X2_isDue : Cond.instanceMethod yX2_isDue ∈ gtbl := gtbl_of (List.mem_append_right _ (List.mem_of_getElem? (i := 695) (by decide +kernel))) rfl
theorem se_X2_isDue : Cond.selects yX2_isDue.cls yX2_isDue yX2_isDue ∈ gtbl := gtbl_of (List.mem_append_left _ (List.mem_of_getElem? (i := 13) (by decide +kernel))) rfl
theorem cd_X2_carryOut : Cond.code yX2_carryOut cX2_carryOut 3 none ∈ gtbl := gtbl_of (List.mem_append_right _ (List.mem_of_getElem? (i := 777) (by decide +kernel))) rfl
theorem st_X2_carryOut : Cond.static yX2_carryOut ∈ gtbl := gtbl_of (List.mem_append_right _ (List.mem_of_getElem? (i := 776) (by decide +kernel))) rfl
theorem cd_X2_reckon : Cond.code yX2_reckon cX2_reckon 6 (some .int) ∈ gtbl := gtbl_of (List.mem_append_right _ (List.mem_of_getElem? (i := 712) (by decide +kernel))) rfl
theorem im_X2_reckon : Cond.instanceMethod yX2_reckon ∈ gtbl := gtbl_of (List.mem_append_right _ (List.mem_of_getElem? (i := 711) (by decide +kernel))) rfl
theorem se_X2_reckon : Cond.selects yX2_reckon.cls yX2_reckon yX2_reckon ∈ gtbl := gtbl_of (List.mem_append_left _ (List.mem_of_getElem? (i := 15) (by decide +kernel))) rfl
theorem cd_X2_takeStep : Cond.code yX2_takeStep cX2_takeStep 6 none ∈ gtbl := gtbl_of (List.mem_append_right _ (List.mem_of_getElem? (i := 728) (by decide +kernel))) rfl
theorem im_X2_takeStep : Cond.instanceMethod yX2_takeStep ∈ gtbl := gtbl_of (List.mem_append_right _ (List.mem_of_getElem? (i := 727) (by decide +kernel))) rfl
theorem se_X2_takeStep : Cond.selects yX2_takeStep.cls yX2_takeStep yX2_takeStep ∈ gtbl := gtbl_of (List.mem_append_left _ (List.mem_of_getElem? (i := 17) (by decide +kernel))) rfl
theorem cd_X2_join : Cond.code yX2_join cX2_join 3 (some .int) ∈ gtbl := gtbl_of (List.mem_append_right _ (List.mem_of_getElem? (i := 758) (by decide +kernel))) rfl
theorem st_X2_join : Cond.static yX2_join ∈ gtbl := gtbl_of (List.mem_append_right _ (List.mem_of_getElem? (i := 757) (by decide +kernel))) rfl
theorem cd_X2_compares : Cond.code yX2_compares cX2_compares 3 (some .boolean) ∈ gtbl := gtbl_of (List.mem_append_right _ (List.mem_of_getElem? (i := 765) (by decide +kernel))) rfl
theorem st_X2_compares : Cond.static yX2_compares ∈ gtbl := gtbl_of (List.mem_append_right _ (List.mem_of_getElem? (i := 764) (by decide +kernel))) rfl
theorem cd_X2_pushTruth : Cond.code yX2_pushTruth cX2_pushTruth 2 none ∈ gtbl := gtbl_of (List.mem_append_right _ (List.mem_of_getElem? (i := 742) (by decide +kernel))) rfl
theorem im_X2_pushTruth : Cond.instanceMethod yX2_pushTruth ∈ gtbl := gtbl_of (List.mem_append_right _ (List.mem_of_getElem? (i := 741) (by decide +kernel))) rfl
theorem se_X2_pushTruth : Cond.selects yX2_pushTruth.cls yX2_pushTruth yX2_pushTruth ∈ gtbl := gtbl_of (List.mem_append_left _ (List.mem_of_getElem? (i := 19) (by decide +kernel))) rfl
theorem cd_X2_push : Cond.code yX2_push cX2_push 2 none ∈ gtbl := gtbl_of (List.mem_append_right _ (List.mem_of_getElem? (i := 732) (by decide +kernel))) rfl
theorem im_X2_push : Cond.instanceMethod yX2_push ∈ gtbl := gtbl_of (List.mem_append_right _ (List.mem_of_getElem? (i := 731) (by decide +kernel))) rfl
theorem se_X2_push : Cond.selects yX2_push.cls yX2_push yX2_push ∈ gtbl := gtbl_of (List.mem_append_left _ (List.mem_of_getElem? (i := 18) (by decide +kernel))) rfl
theorem cd_X2_pull : Cond.code yX2_pull cX2_pull 1 (some .int) ∈ gtbl := gtbl_of (List.mem_append_right _ (List.mem_of_getElem? (i := 746) (by decide +kernel))) rfl
theorem im_X2_pull : Cond.instanceMethod yX2_pull ∈ gtbl := gtbl_of (List.mem_append_right _ (List.mem_of_getElem? (i := 745) (by decide +kernel))) rfl
theorem se_X2_pull : Cond.selects yX2_pull.cls yX2_pull yX2_pull ∈ gtbl := gtbl_of (List.mem_append_left _ (List.mem_of_getElem? (i := 20) (by decide +kernel))) rfl
theorem cd_X3_init : Cond.code yX3_init cX3_init 2 none ∈ gtbl := gtbl_of (List.mem_append_right _ (List.mem_of_getElem? (i := 166) (by decide +kernel))) rfl
theorem im_X3_init : Cond.instanceMethod yX3_init ∈ gtbl := gtbl_of (List.mem_append_right _ (List.mem_of_getElem? (i := 165) (by decide +kernel))) rfl
theorem cd_X3_read : Cond.code yX3_read cX3_read 2 (some .int) ∈ gtbl := gtbl_of (List.mem_append_right _ (List.mem_of_getElem? (i := 1036) (by decide +kernel))) rfl
theorem im_X3_read : Cond.instanceMethod yX3_read ∈ gtbl := gtbl_of (List.mem_append_right _ (List.mem_of_getElem? (i := 1034) (by decide +kernel))) rfl
theorem se_X3_read : Cond.selects yX3_read.cls yX3_read yX3_read ∈ gtbl := gtbl_of (List.mem_append_right _ (List.mem_of_getElem? (i := 1035) (by decide +kernel))) rfl
theorem cd_X3_errorPlace : Cond.code yX3_errorPlace cX3_errorPlace 1 (some .int) ∈ gtbl := gtbl_of (List.mem_append_right _ (List.mem_of_getElem? (i := 1229) (by decide +kernel))) rfl
theorem im_X3_errorPlace : Cond.instanceMethod yX3_errorPlace ∈ gtbl := gtbl_of (List.mem_append_right _ (List.mem_of_getElem? (i := 1227) (by decide +kernel))) rfl
theorem se_X3_errorPlace : Cond.selects yX3_errorPlace.cls yX3_errorPlace yX3_errorPlace ∈ gtbl := gtbl_of (List.mem_append_right _ (List.mem_of_getElem? (i := 1228) (by decide +kernel))) rfl
theorem cd_X3_exchange : Cond.code yX3_exchange cX3_exchange 3 (some (Jvm.ClassFile.FieldType.object "SofaDig$Told")) ∈ gtbl := gtbl_of (List.mem_append_right _ (List.mem_of_getElem? (i := 1233) (by decide +kernel))) rfl
theorem im_X3_exchange : Cond.instanceMethod yX3_exchange ∈ gtbl := gtbl_of (List.mem_append_right _ (List.mem_of_getElem? (i := 1231) (by decide +kernel))) rfl
theorem se_X3_exchange : Cond.selects yX3_exchange.cls yX3_exchange yX3_exchange ∈ gtbl := gtbl_of (List.mem_append_right _ (List.mem_of_getElem? (i := 1232) (by decide +kernel))) rfl
theorem cd_X3_advance : Cond.code yX3_advance cX3_advance 1 none ∈ gtbl := gtbl_of (List.mem_append_right _ (List.mem_of_getElem? (i := 1106) (by decide +kernel))) rfl
theorem im_X3_advance : Cond.instanceMethod yX3_advance ∈ gtbl := gtbl_of (List.mem_append_right _ (List.mem_of_getElem? (i := 1105) (by decide +kernel))) rfl
theorem se_X3_advance : Cond.selects yX3_advance.cls yX3_advance yX3_advance ∈ gtbl := gtbl_of (List.mem_append_left _ (List.mem_of_getElem? (i := 33) (by decide +kernel))) rfl
theorem cd_X3_refuse : Cond.code yX3_refuse cX3_refuse 1 none ∈ gtbl := gtbl_of (List.mem_append_right _ (List.mem_of_getElem? (i := 1110) (by decide +kernel))) rfl
theorem im_X3_refuse : Cond.instanceMethod yX3_refuse ∈ gtbl := gtbl_of (List.mem_append_right _ (List.mem_of_getElem? (i := 1109) (by decide +kernel))) rfl
theorem se_X3_refuse : Cond.selects yX3_refuse.cls yX3_refuse yX3_refuse ∈ gtbl := gtbl_of (List.mem_append_left _ (List.mem_of_getElem? (i := 34) (by decide +kernel))) rfl
theorem cd_X3_complain : Cond.code yX3_complain cX3_complain 2 none ∈ gtbl := gtbl_of (List.mem_append_right _ (List.mem_of_getElem? (i := 1118) (by decide +kernel))) rfl
theorem im_X3_complain : Cond.instanceMethod yX3_complain ∈ gtbl := gtbl_of (List.mem_append_right _ (List.mem_of_getElem? (i := 1117) (by decide +kernel))) rfl
theorem se_X3_complain : Cond.selects yX3_complain.cls yX3_complain yX3_complain ∈ gtbl := gtbl_of (List.mem_append_left _ (List.mem_of_getElem? (i := 36) (by decide +kernel))) rfl
theorem cd_X3_expect : Cond.code yX3_expect cX3_expect 2 none ∈ gtbl := gtbl_of (List.mem_append_right _ (List.mem_of_getElem? (i := 1102) (by decide +kernel))) rfl
theorem im_X3_expect : Cond.instanceMethod yX3_expect ∈ gtbl := gtbl_of (List.mem_append_right _ (List.mem_of_getElem? (i := 1101) (by decide +kernel))) rfl
theorem se_X3_expect : Cond.selects yX3_expect.cls yX3_expect yX3_expect ∈ gtbl := gtbl_of (List.mem_append_left _ (List.mem_of_getElem? (i := 32) (by decide +kernel))) rfl
theorem cd_X3_expectNumber : Cond.code yX3_expectNumber cX3_expectNumber 4 (some .int) ∈ gtbl := gtbl_of (List.mem_append_right _ (List.mem_of_getElem? (i := 1114) (by decide +kernel))) rfl
theorem im_X3_expectNumber : Cond.instanceMethod yX3_expectNumber ∈ gtbl := gtbl_of (List.mem_append_right _ (List.mem_of_getElem? (i := 1113) (by decide +kernel))) rfl
theorem se_X3_expectNumber : Cond.selects yX3_expectNumber.cls yX3_expectNumber yX3_expectNumber ∈ gtbl := gtbl_of (List.mem_append_left _ (List.mem_of_getElem? (i := 35) (by decide +kernel))) rfl
theorem cd_X3_readSize : Cond.code yX3_readSize cX3_readSize 3 none ∈ gtbl := gtbl_of (List.mem_append_right _ (List.mem_of_getElem? (i := 1098) (by decide +kernel))) rfl
theorem im_X3_readSize : Cond.instanceMethod yX3_readSize ∈ gtbl := gtbl_of (List.mem_append_right _ (List.mem_of_getElem? (i := 1097) (by decide +kernel))) rfl
theorem se_X3_readSize : Cond.selects yX3_readSize.cls yX3_readSize yX3_readSize ∈ gtbl := gtbl_of (List.mem_append_left _ (List.mem_of_getElem? (i := 31) (by decide +kernel))) rfl
theorem cd_X3_readLine : Cond.code yX3_readLine cX3_readLine 1 none ∈ gtbl := gtbl_of (List.mem_append_right _ (List.mem_of_getElem? (i := 1123) (by decide +kernel))) rfl
theorem im_X3_readLine : Cond.instanceMethod yX3_readLine ∈ gtbl := gtbl_of (List.mem_append_right _ (List.mem_of_getElem? (i := 1122) (by decide +kernel))) rfl
theorem se_X3_readLine : Cond.selects yX3_readLine.cls yX3_readLine yX3_readLine ∈ gtbl := gtbl_of (List.mem_append_left _ (List.mem_of_getElem? (i := 37) (by decide +kernel))) rfl
theorem cd_X3_readEmpire : Cond.code yX3_readEmpire cX3_readEmpire 5 none ∈ gtbl := gtbl_of (List.mem_append_right _ (List.mem_of_getElem? (i := 1127) (by decide +kernel))) rfl
theorem im_X3_readEmpire : Cond.instanceMethod yX3_readEmpire ∈ gtbl := gtbl_of (List.mem_append_right _ (List.mem_of_getElem? (i := 1126) (by decide +kernel))) rfl
theorem se_X3_readEmpire : Cond.selects yX3_readEmpire.cls yX3_readEmpire yX3_readEmpire ∈ gtbl := gtbl_of (List.mem_append_left _ (List.mem_of_getElem? (i := 38) (by decide +kernel))) rfl
theorem cd_X3_readCoin : Cond.code yX3_readCoin cX3_readCoin 3 none ∈ gtbl := gtbl_of (List.mem_append_right _ (List.mem_of_getElem? (i := 1139) (by decide +kernel))) rfl
theorem im_X3_readCoin : Cond.instanceMethod yX3_readCoin ∈ gtbl := gtbl_of (List.mem_append_right _ (List.mem_of_getElem? (i := 1138) (by decide +kernel))) rfl
theorem se_X3_readCoin : Cond.selects yX3_readCoin.cls yX3_readCoin yX3_readCoin ∈ gtbl := gtbl_of (List.mem_append_left _ (List.mem_of_getElem? (i := 39) (by decide +kernel))) rfl
theorem cd_X3_readCrumbs : Cond.code yX3_readCrumbs cX3_readCrumbs 3 none ∈ gtbl := gtbl_of (List.mem_append_right _ (List.mem_of_getElem? (i := 1161) (by decide +kernel))) rfl
theorem im_X3_readCrumbs : Cond.instanceMethod yX3_readCrumbs ∈ gtbl := gtbl_of (List.mem_append_right _ (List.mem_of_getElem? (i := 1160) (by decide +kernel))) rfl
theorem se_X3_readCrumbs : Cond.selects yX3_readCrumbs.cls yX3_readCrumbs yX3_readCrumbs ∈ gtbl := gtbl_of (List.mem_append_left _ (List.mem_of_getElem? (i := 42) (by decide +kernel))) rfl
theorem cd_X3_startFind : Cond.code yX3_startFind cX3_startFind 1 none ∈ gtbl := gtbl_of (List.mem_append_right _ (List.mem_of_getElem? (i := 1143) (by decide +kernel))) rfl
theorem im_X3_startFind : Cond.instanceMethod yX3_startFind ∈ gtbl := gtbl_of (List.mem_append_right _ (List.mem_of_getElem? (i := 1142) (by decide +kernel))) rfl
theorem se_X3_startFind : Cond.selects yX3_startFind.cls yX3_startFind yX3_startFind ∈ gtbl := gtbl_of (List.mem_append_left _ (List.mem_of_getElem? (i := 40) (by decide +kernel))) rfl
theorem cd_X3_readSpring : Cond.code yX3_readSpring cX3_readSpring 2 none ∈ gtbl := gtbl_of (List.mem_append_right _ (List.mem_of_getElem? (i := 1169) (by decide +kernel))) rfl
theorem im_X3_readSpring : Cond.instanceMethod yX3_readSpring ∈ gtbl := gtbl_of (List.mem_append_right _ (List.mem_of_getElem? (i := 1168) (by decide +kernel))) rfl
theorem se_X3_readSpring : Cond.selects yX3_readSpring.cls yX3_readSpring yX3_readSpring ∈ gtbl := gtbl_of (List.mem_append_left _ (List.mem_of_getElem? (i := 44) (by decide +kernel))) rfl
theorem cd_X3_readPlace : Cond.code yX3_readPlace cX3_readPlace 4 (some .int) ∈ gtbl := gtbl_of (List.mem_append_right _ (List.mem_of_getElem? (i := 1147) (by decide +kernel))) rfl
theorem im_X3_readPlace : Cond.instanceMethod yX3_readPlace ∈ gtbl := gtbl_of (List.mem_append_right _ (List.mem_of_getElem? (i := 1146) (by decide +kernel))) rfl
theorem se_X3_readPlace : Cond.selects yX3_readPlace.cls yX3_readPlace yX3_readPlace ∈ gtbl := gtbl_of (List.mem_append_left _ (List.mem_of_getElem? (i := 41) (by decide +kernel))) rfl
theorem cd_X3_readKnownEmpire : Cond.code yX3_readKnownEmpire cX3_readKnownEmpire 2 (some .int) ∈ gtbl := gtbl_of (List.mem_append_right _ (List.mem_of_getElem? (i := 1165) (by decide +kernel))) rfl
theorem im_X3_readKnownEmpire : Cond.instanceMethod yX3_readKnownEmpire ∈ gtbl := gtbl_of (List.mem_append_right _ (List.mem_of_getElem? (i := 1164) (by decide +kernel))) rfl
theorem se_X3_readKnownEmpire : Cond.selects yX3_readKnownEmpire.cls yX3_readKnownEmpire yX3_readKnownEmpire ∈ gtbl := gtbl_of (List.mem_append_left _ (List.mem_of_getElem? (i := 43) (by decide +kernel))) rfl
theorem cd_X3_readOrder : Cond.code yX3_readOrder cX3_readOrder 3 none ∈ gtbl := gtbl_of (List.mem_append_right _ (List.mem_of_getElem? (i := 1177) (by decide +kernel))) rfl
theorem im_X3_readOrder : Cond.instanceMethod yX3_readOrder ∈ gtbl := gtbl_of (List.mem_append_right _ (List.mem_of_getElem? (i := 1176) (by decide +kernel))) rfl
theorem se_X3_readOrder : Cond.selects yX3_readOrder.cls yX3_readOrder yX3_readOrder ∈ gtbl := gtbl_of (List.mem_append_left _ (List.mem_of_getElem? (i := 45) (by decide +kernel))) rfl
theorem cd_X3_readTest : Cond.code yX3_readTest cX3_readTest 3 none ∈ gtbl := gtbl_of (List.mem_append_right _ (List.mem_of_getElem? (i := 1209) (by decide +kernel))) rfl
theorem im_X3_readTest : Cond.instanceMethod yX3_readTest ∈ gtbl := gtbl_of (List.mem_append_right _ (List.mem_of_getElem? (i := 1208) (by decide +kernel))) rfl
theorem se_X3_readTest : Cond.selects yX3_readTest.cls yX3_readTest yX3_readTest ∈ gtbl := gtbl_of (List.mem_append_left _ (List.mem_of_getElem? (i := 52) (by decide +kernel))) rfl
theorem cd_X3_readBoth : Cond.code yX3_readBoth cX3_readBoth 3 none ∈ gtbl := gtbl_of (List.mem_append_right _ (List.mem_of_getElem? (i := 1213) (by decide +kernel))) rfl
theorem im_X3_readBoth : Cond.instanceMethod yX3_readBoth ∈ gtbl := gtbl_of (List.mem_append_right _ (List.mem_of_getElem? (i := 1212) (by decide +kernel))) rfl
theorem se_X3_readBoth : Cond.selects yX3_readBoth.cls yX3_readBoth yX3_readBoth ∈ gtbl := gtbl_of (List.mem_append_left _ (List.mem_of_getElem? (i := 53) (by decide +kernel))) rfl
theorem cd_X3_readSingle : Cond.code yX3_readSingle cX3_readSingle 3 none ∈ gtbl := gtbl_of (List.mem_append_right _ (List.mem_of_getElem? (i := 1217) (by decide +kernel))) rfl
theorem im_X3_readSingle : Cond.instanceMethod yX3_readSingle ∈ gtbl := gtbl_of (List.mem_append_right _ (List.mem_of_getElem? (i := 1216) (by decide +kernel))) rfl
theorem se_X3_readSingle : Cond.selects yX3_readSingle.cls yX3_readSingle yX3_readSingle ∈ gtbl := gtbl_of (List.mem_append_left _ (List.mem_of_getElem? (i := 54) (by decide +kernel))) rfl
theorem cd_X3_expectComparison : Cond.code yX3_expectComparison cX3_expectComparison 1 none ∈ gtbl := gtbl_of (List.mem_append_right _ (List.mem_of_getElem? (i := 1221) (by decide +kernel))) rfl
theorem im_X3_expectComparison : Cond.instanceMethod yX3_expectComparison ∈ gtbl := gtbl_of (List.mem_append_right _ (List.mem_of_getElem? (i := 1220) (by decide +kernel))) rfl
theorem se_X3_expectComparison : Cond.selects yX3_expectComparison.cls yX3_expectComparison yX3_expectComparison ∈ gtbl := gtbl_of (List.mem_append_left _ (List.mem_of_getElem? (i := 55) (by decide +kernel))) rfl
theorem cd_X3_readSum : Cond.code yX3_readSum cX3_readSum 4 none ∈ gtbl := gtbl_of (List.mem_append_right _ (List.mem_of_getElem? (i := 1181) (by decide +kernel))) rfl
theorem im_X3_readSum : Cond.instanceMethod yX3_readSum ∈ gtbl := gtbl_of (List.mem_append_right _ (List.mem_of_getElem? (i := 1180) (by decide +kernel))) rfl
theorem se_X3_readSum : Cond.selects yX3_readSum.cls yX3_readSum yX3_readSum ∈ gtbl := gtbl_of (List.mem_append_left _ (List.mem_of_getElem? (i := 46) (by decide +kernel))) rfl
theorem cd_X3_readProduct : Cond.code yX3_readProduct cX3_readProduct 4 none ∈ gtbl := gtbl_of (List.mem_append_right _ (List.mem_of_getElem? (i := 1185) (by decide +kernel))) rfl
theorem im_X3_readProduct : Cond.instanceMethod yX3_readProduct ∈ gtbl := gtbl_of (List.mem_append_right _ (List.mem_of_getElem? (i := 1184) (by decide +kernel))) rfl
theorem se_X3_readProduct : Cond.selects yX3_readProduct.cls yX3_readProduct yX3_readProduct ∈ gtbl := gtbl_of (List.mem_append_left _ (List.mem_of_getElem? (i := 47) (by decide +kernel))) rfl
theorem cd_X3_readValue : Cond.code yX3_readValue cX3_readValue 3 none ∈ gtbl := gtbl_of (List.mem_append_right _ (List.mem_of_getElem? (i := 1189) (by decide +kernel))) rfl
theorem im_X3_readValue : Cond.instanceMethod yX3_readValue ∈ gtbl := gtbl_of (List.mem_append_right _ (List.mem_of_getElem? (i := 1188) (by decide +kernel))) rfl
theorem se_X3_readValue : Cond.selects yX3_readValue.cls yX3_readValue yX3_readValue ∈ gtbl := gtbl_of (List.mem_append_left _ (List.mem_of_getElem? (i := 48) (by decide +kernel))) rfl
theorem cd_X3_readEnclosed : Cond.code yX3_readEnclosed cX3_readEnclosed 2 none ∈ gtbl := gtbl_of (List.mem_append_right _ (List.mem_of_getElem? (i := 1197) (by decide +kernel))) rfl
theorem im_X3_readEnclosed : Cond.instanceMethod yX3_readEnclosed ∈ gtbl := gtbl_of (List.mem_append_right _ (List.mem_of_getElem? (i := 1196) (by decide +kernel))) rfl
theorem se_X3_readEnclosed : Cond.selects yX3_readEnclosed.cls yX3_readEnclosed yX3_readEnclosed ∈ gtbl := gtbl_of (List.mem_append_left _ (List.mem_of_getElem? (i := 49) (by decide +kernel))) rfl
theorem cd_X3_readPair : Cond.code yX3_readPair cX3_readPair 2 none ∈ gtbl := gtbl_of (List.mem_append_right _ (List.mem_of_getElem? (i := 1205) (by decide +kernel))) rfl
theorem im_X3_readPair : Cond.instanceMethod yX3_readPair ∈ gtbl := gtbl_of (List.mem_append_right _ (List.mem_of_getElem? (i := 1204) (by decide +kernel))) rfl
theorem se_X3_readPair : Cond.selects yX3_readPair.cls yX3_readPair yX3_readPair ∈ gtbl := gtbl_of (List.mem_append_left _ (List.mem_of_getElem? (i := 51) (by decide +kernel))) rfl
theorem cd_X3_goesDeeper : Cond.code yX3_goesDeeper cX3_goesDeeper 3 (some .boolean) ∈ gtbl := gtbl_of (List.mem_append_right _ (List.mem_of_getElem? (i := 1201) (by decide +kernel))) rfl
theorem im_X3_goesDeeper : Cond.instanceMethod yX3_goesDeeper ∈ gtbl := gtbl_of (List.mem_append_right _ (List.mem_of_getElem? (i := 1200) (by decide +kernel))) rfl
theorem se_X3_goesDeeper : Cond.selects yX3_goesDeeper.cls yX3_goesDeeper yX3_goesDeeper ∈ gtbl := gtbl_of (List.mem_append_left _ (List.mem_of_getElem? (i := 50) (by decide +kernel))) rfl
theorem cd_X4_init : Cond.code yX4_init cX4_init 2 none ∈ gtbl := gtbl_of (List.mem_append_right _ (List.mem_of_getElem? (i := 239) (by decide +kernel))) rfl
theorem im_X4_init : Cond.instanceMethod yX4_init ∈ gtbl := gtbl_of (List.mem_append_right _ (List.mem_of_getElem? (i := 238) (by decide +kernel))) rfl
theorem cd_X4_begin : Cond.code yX4_begin cX4_begin 3 none ∈ gtbl := gtbl_of (List.mem_append_right _ (List.mem_of_getElem? (i := 244) (by decide +kernel))) rfl
theorem im_X4_begin : Cond.instanceMethod yX4_begin ∈ gtbl := gtbl_of (List.mem_append_right _ (List.mem_of_getElem? (i := 242) (by decide +kernel))) rfl
theorem se_X4_begin : Cond.selects yX4_begin.cls yX4_begin yX4_begin ∈ gtbl := gtbl_of (List.mem_append_right _ (List.mem_of_getElem? (i := 243) (by decide +kernel))) rfl
theorem cd_X4_copyFrom : Cond.code yX4_copyFrom cX4_copyFrom 3 none ∈ gtbl := gtbl_of (List.mem_append_right _ (List.mem_of_getElem? (i := 800) (by decide +kernel))) rfl
theorem im_X4_copyFrom : Cond.instanceMethod yX4_copyFrom ∈ gtbl := gtbl_of (List.mem_append_right _ (List.mem_of_getElem? (i := 798) (by decide +kernel))) rfl
theorem se_X4_copyFrom : Cond.selects yX4_copyFrom.cls yX4_copyFrom yX4_copyFrom ∈ gtbl := gtbl_of (List.mem_append_right _ (List.mem_of_getElem? (i := 799) (by decide +kernel))) rfl
theorem cd_X4_heightAt : Cond.code yX4_heightAt cX4_heightAt 2 (some .int) ∈ gtbl := gtbl_of (List.mem_append_right _ (List.mem_of_getElem? (i := 433) (by decide +kernel))) rfl
theorem im_X4_heightAt : Cond.instanceMethod yX4_heightAt ∈ gtbl := gtbl_of (List.mem_append_right _ (List.mem_of_getElem? (i := 431) (by decide +kernel))) rfl
theorem se_X4_heightAt : Cond.selects yX4_heightAt.cls yX4_heightAt yX4_heightAt ∈ gtbl := gtbl_of (List.mem_append_right _ (List.mem_of_getElem? (i := 432) (by decide +kernel))) rfl
theorem cd_X4_hasProp : Cond.code yX4_hasProp cX4_hasProp 2 (some .boolean) ∈ gtbl := gtbl_of (List.mem_append_right _ (List.mem_of_getElem? (i := 441) (by decide +kernel))) rfl
theorem im_X4_hasProp : Cond.instanceMethod yX4_hasProp ∈ gtbl := gtbl_of (List.mem_append_right _ (List.mem_of_getElem? (i := 439) (by decide +kernel))) rfl
theorem se_X4_hasProp : Cond.selects yX4_hasProp.cls yX4_hasProp yX4_hasProp ∈ gtbl := gtbl_of (List.mem_append_right _ (List.mem_of_getElem? (i := 440) (by decide +kernel))) rfl
theorem cd_X4_topOf : Cond.code yX4_topOf cX4_topOf 2 (some .int) ∈ gtbl := gtbl_of (List.mem_append_right _ (List.mem_of_getElem? (i := 469) (by decide +kernel))) rfl
theorem im_X4_topOf : Cond.instanceMethod yX4_topOf ∈ gtbl := gtbl_of (List.mem_append_right _ (List.mem_of_getElem? (i := 467) (by decide +kernel))) rfl
theorem se_X4_topOf : Cond.selects yX4_topOf.cls yX4_topOf yX4_topOf ∈ gtbl := gtbl_of (List.mem_append_right _ (List.mem_of_getElem? (i := 468) (by decide +kernel))) rfl
theorem cd_X4_isLoose : Cond.code yX4_isLoose cX4_isLoose 2 (some .boolean) ∈ gtbl := gtbl_of (List.mem_append_right _ (List.mem_of_getElem? (i := 489) (by decide +kernel))) rfl
theorem im_X4_isLoose : Cond.instanceMethod yX4_isLoose ∈ gtbl := gtbl_of (List.mem_append_right _ (List.mem_of_getElem? (i := 487) (by decide +kernel))) rfl
theorem se_X4_isLoose : Cond.selects yX4_isLoose.cls yX4_isLoose yX4_isLoose ∈ gtbl := gtbl_of (List.mem_append_right _ (List.mem_of_getElem? (i := 488) (by decide +kernel))) rfl
theorem cd_X4_wasFound : Cond.code yX4_wasFound cX4_wasFound 2 (some .boolean) ∈ gtbl := gtbl_of (List.mem_append_right _ (List.mem_of_getElem? (i := 534) (by decide +kernel))) rfl
theorem im_X4_wasFound : Cond.instanceMethod yX4_wasFound ∈ gtbl := gtbl_of (List.mem_append_right _ (List.mem_of_getElem? (i := 532) (by decide +kernel))) rfl
theorem se_X4_wasFound : Cond.selects yX4_wasFound.cls yX4_wasFound yX4_wasFound ∈ gtbl := gtbl_of (List.mem_append_right _ (List.mem_of_getElem? (i := 533) (by decide +kernel))) rfl
theorem cd_X4_wasSure : Cond.code yX4_wasSure cX4_wasSure 2 (some .boolean) ∈ gtbl := gtbl_of (List.mem_append_right _ (List.mem_of_getElem? (i := 543) (by decide +kernel))) rfl
theorem im_X4_wasSure : Cond.instanceMethod yX4_wasSure ∈ gtbl := gtbl_of (List.mem_append_right _ (List.mem_of_getElem? (i := 541) (by decide +kernel))) rfl
theorem se_X4_wasSure : Cond.selects yX4_wasSure.cls yX4_wasSure yX4_wasSure ∈ gtbl := gtbl_of (List.mem_append_right _ (List.mem_of_getElem? (i := 542) (by decide +kernel))) rfl
theorem cd_X4_findsInStack : Cond.code yX4_findsInStack cX4_findsInStack 4 (some .int) ∈ gtbl := gtbl_of (List.mem_append_right _ (List.mem_of_getElem? (i := 505) (by decide +kernel))) rfl
theorem im_X4_findsInStack : Cond.instanceMethod yX4_findsInStack ∈ gtbl := gtbl_of (List.mem_append_right _ (List.mem_of_getElem? (i := 503) (by decide +kernel))) rfl
theorem se_X4_findsInStack : Cond.selects yX4_findsInStack.cls yX4_findsInStack yX4_findsInStack ∈ gtbl := gtbl_of (List.mem_append_right _ (List.mem_of_getElem? (i := 504) (by decide +kernel))) rfl
theorem cd_X4_cushionsAbove : Cond.code yX4_cushionsAbove cX4_cushionsAbove 4 (some .int) ∈ gtbl := gtbl_of (List.mem_append_right _ (List.mem_of_getElem? (i := 575) (by decide +kernel))) rfl
theorem im_X4_cushionsAbove : Cond.instanceMethod yX4_cushionsAbove ∈ gtbl := gtbl_of (List.mem_append_right _ (List.mem_of_getElem? (i := 573) (by decide +kernel))) rfl
theorem se_X4_cushionsAbove : Cond.selects yX4_cushionsAbove.cls yX4_cushionsAbove yX4_cushionsAbove ∈ gtbl := gtbl_of (List.mem_append_right _ (List.mem_of_getElem? (i := 574) (by decide +kernel))) rfl
theorem cd_X4_earliestYear : Cond.code yX4_earliestYear cX4_earliestYear 4 (some .int) ∈ gtbl := gtbl_of (List.mem_append_right _ (List.mem_of_getElem? (i := 588) (by decide +kernel))) rfl
theorem im_X4_earliestYear : Cond.instanceMethod yX4_earliestYear ∈ gtbl := gtbl_of (List.mem_append_right _ (List.mem_of_getElem? (i := 586) (by decide +kernel))) rfl
theorem se_X4_earliestYear : Cond.selects yX4_earliestYear.cls yX4_earliestYear yX4_earliestYear ∈ gtbl := gtbl_of (List.mem_append_right _ (List.mem_of_getElem? (i := 587) (by decide +kernel))) rfl
theorem cd_X4_sawEmpire : Cond.code yX4_sawEmpire cX4_sawEmpire 4 (some .boolean) ∈ gtbl := gtbl_of (List.mem_append_right _ (List.mem_of_getElem? (i := 620) (by decide +kernel))) rfl
theorem im_X4_sawEmpire : Cond.instanceMethod yX4_sawEmpire ∈ gtbl := gtbl_of (List.mem_append_right _ (List.mem_of_getElem? (i := 618) (by decide +kernel))) rfl
theorem se_X4_sawEmpire : Cond.selects yX4_sawEmpire.cls yX4_sawEmpire yX4_sawEmpire ∈ gtbl := gtbl_of (List.mem_append_right _ (List.mem_of_getElem? (i := 619) (by decide +kernel))) rfl
theorem cd_X4_sawEmpireAnywhere : Cond.code yX4_sawEmpireAnywhere cX4_sawEmpireAnywhere 3 (some .boolean) ∈ gtbl := gtbl_of (List.mem_append_right _ (List.mem_of_getElem? (i := 738) (by decide +kernel))) rfl
theorem im_X4_sawEmpireAnywhere : Cond.instanceMethod yX4_sawEmpireAnywhere ∈ gtbl := gtbl_of (List.mem_append_right _ (List.mem_of_getElem? (i := 736) (by decide +kernel))) rfl
theorem se_X4_sawEmpireAnywhere : Cond.selects yX4_sawEmpireAnywhere.cls yX4_sawEmpireAnywhere yX4_sawEmpireAnywhere ∈ gtbl := gtbl_of (List.mem_append_right _ (List.mem_of_getElem? (i := 737) (by decide +kernel))) rfl
theorem cd_X4_showsMixture : Cond.code yX4_showsMixture cX4_showsMixture 4 (some .boolean) ∈ gtbl := gtbl_of (List.mem_append_right _ (List.mem_of_getElem? (i := 629) (by decide +kernel))) rfl
theorem im_X4_showsMixture : Cond.instanceMethod yX4_showsMixture ∈ gtbl := gtbl_of (List.mem_append_right _ (List.mem_of_getElem? (i := 627) (by decide +kernel))) rfl
theorem se_X4_showsMixture : Cond.selects yX4_showsMixture.cls yX4_showsMixture yX4_showsMixture ∈ gtbl := gtbl_of (List.mem_append_right _ (List.mem_of_getElem? (i := 628) (by decide +kernel))) rfl
theorem cd_X4_digSeat : Cond.code yX4_digSeat cX4_digSeat 4 (some .int) ∈ gtbl := gtbl_of (List.mem_append_right _ (List.mem_of_getElem? (i := 643) (by decide +kernel))) rfl
theorem im_X4_digSeat : Cond.instanceMethod yX4_digSeat ∈ gtbl := gtbl_of (List.mem_append_right _ (List.mem_of_getElem? (i := 641) (by decide +kernel))) rfl
theorem se_X4_digSeat : Cond.selects yX4_digSeat.cls yX4_digSeat yX4_digSeat ∈ gtbl := gtbl_of (List.mem_append_right _ (List.mem_of_getElem? (i := 642) (by decide +kernel))) rfl
theorem cd_X4_canProp : Cond.code yX4_canProp cX4_canProp 2 (some .boolean) ∈ gtbl := gtbl_of (List.mem_append_right _ (List.mem_of_getElem? (i := 782) (by decide +kernel))) rfl
theorem im_X4_canProp : Cond.instanceMethod yX4_canProp ∈ gtbl := gtbl_of (List.mem_append_right _ (List.mem_of_getElem? (i := 780) (by decide +kernel))) rfl
theorem se_X4_canProp : Cond.selects yX4_canProp.cls yX4_canProp yX4_canProp ∈ gtbl := gtbl_of (List.mem_append_right _ (List.mem_of_getElem? (i := 781) (by decide +kernel))) rfl
theorem cd_X4_putProp : Cond.code yX4_putProp cX4_putProp 2 none ∈ gtbl := gtbl_of (List.mem_append_right _ (List.mem_of_getElem? (i := 786) (by decide +kernel))) rfl
theorem im_X4_putProp : Cond.instanceMethod yX4_putProp ∈ gtbl := gtbl_of (List.mem_append_right _ (List.mem_of_getElem? (i := 784) (by decide +kernel))) rfl
theorem se_X4_putProp : Cond.selects yX4_putProp.cls yX4_putProp yX4_putProp ∈ gtbl := gtbl_of (List.mem_append_right _ (List.mem_of_getElem? (i := 785) (by decide +kernel))) rfl
theorem cd_X4_freeSeat : Cond.code yX4_freeSeat cX4_freeSeat 2 none ∈ gtbl := gtbl_of (List.mem_append_right _ (List.mem_of_getElem? (i := 792) (by decide +kernel))) rfl
theorem im_X4_freeSeat : Cond.instanceMethod yX4_freeSeat ∈ gtbl := gtbl_of (List.mem_append_right _ (List.mem_of_getElem? (i := 790) (by decide +kernel))) rfl
theorem se_X4_freeSeat : Cond.selects yX4_freeSeat.cls yX4_freeSeat yX4_freeSeat ∈ gtbl := gtbl_of (List.mem_append_right _ (List.mem_of_getElem? (i := 791) (by decide +kernel))) rfl
theorem cd_X4_noteFind : Cond.code yX4_noteFind cX4_noteFind 3 none ∈ gtbl := gtbl_of (List.mem_append_right _ (List.mem_of_getElem? (i := 649) (by decide +kernel))) rfl
theorem im_X4_noteFind : Cond.instanceMethod yX4_noteFind ∈ gtbl := gtbl_of (List.mem_append_right _ (List.mem_of_getElem? (i := 648) (by decide +kernel))) rfl
theorem se_X4_noteFind : Cond.selects yX4_noteFind.cls yX4_noteFind yX4_noteFind ∈ gtbl := gtbl_of (List.mem_append_left _ (List.mem_of_getElem? (i := 8) (by decide +kernel))) rfl
theorem cd_X4_settle : Cond.code yX4_settle cX4_settle 3 none ∈ gtbl := gtbl_of (List.mem_append_right _ (List.mem_of_getElem? (i := 653) (by decide +kernel))) rfl
theorem im_X4_settle : Cond.instanceMethod yX4_settle ∈ gtbl := gtbl_of (List.mem_append_right _ (List.mem_of_getElem? (i := 652) (by decide +kernel))) rfl
theorem se_X4_settle : Cond.selects yX4_settle.cls yX4_settle yX4_settle ∈ gtbl := gtbl_of (List.mem_append_left _ (List.mem_of_getElem? (i := 9) (by decide +kernel))) rfl
theorem cd_X4_slidesOnto : Cond.code yX4_slidesOnto cX4_slidesOnto 3 (some .boolean) ∈ gtbl := gtbl_of (List.mem_append_right _ (List.mem_of_getElem? (i := 658) (by decide +kernel))) rfl
theorem im_X4_slidesOnto : Cond.instanceMethod yX4_slidesOnto ∈ gtbl := gtbl_of (List.mem_append_right _ (List.mem_of_getElem? (i := 657) (by decide +kernel))) rfl
theorem se_X4_slidesOnto : Cond.selects yX4_slidesOnto.cls yX4_slidesOnto yX4_slidesOnto ∈ gtbl := gtbl_of (List.mem_append_left _ (List.mem_of_getElem? (i := 10) (by decide +kernel))) rfl
theorem cd_X4_moveTop : Cond.code yX4_moveTop cX4_moveTop 5 none ∈ gtbl := gtbl_of (List.mem_append_right _ (List.mem_of_getElem? (i := 664) (by decide +kernel))) rfl
theorem im_X4_moveTop : Cond.instanceMethod yX4_moveTop ∈ gtbl := gtbl_of (List.mem_append_right _ (List.mem_of_getElem? (i := 663) (by decide +kernel))) rfl
theorem se_X4_moveTop : Cond.selects yX4_moveTop.cls yX4_moveTop yX4_moveTop ∈ gtbl := gtbl_of (List.mem_append_left _ (List.mem_of_getElem? (i := 11) (by decide +kernel))) rfl
theorem cd_X4_cushionAt : Cond.code yX4_cushionAt cX4_cushionAt 3 (some .int) ∈ gtbl := gtbl_of (List.mem_append_right _ (List.mem_of_getElem? (i := 474) (by decide +kernel))) rfl
theorem im_X4_cushionAt : Cond.instanceMethod yX4_cushionAt ∈ gtbl := gtbl_of (List.mem_append_right _ (List.mem_of_getElem? (i := 473) (by decide +kernel))) rfl
theorem se_X4_cushionAt : Cond.selects yX4_cushionAt.cls yX4_cushionAt yX4_cushionAt ∈ gtbl := gtbl_of (List.mem_append_left _ (List.mem_of_getElem? (i := 3) (by decide +kernel))) rfl
theorem cd_X5_init : Cond.code yX5_init cX5_init 1 none ∈ gtbl := gtbl_of (List.mem_append_right _ (List.mem_of_getElem? (i := 42) (by decide +kernel))) rfl
theorem im_X5_init : Cond.instanceMethod yX5_init ∈ gtbl := gtbl_of (List.mem_append_right _ (List.mem_of_getElem? (i := 41) (by decide +kernel))) rfl
theorem cd_X5_append : Cond.code yX5_append cX5_append 3 none ∈ gtbl := gtbl_of (List.mem_append_right _ (List.mem_of_getElem? (i := 1023) (by decide +kernel))) rfl
theorem im_X5_append : Cond.instanceMethod yX5_append ∈ gtbl := gtbl_of (List.mem_append_right _ (List.mem_of_getElem? (i := 1021) (by decide +kernel))) rfl
theorem se_X5_append : Cond.selects yX5_append.cls yX5_append yX5_append ∈ gtbl := gtbl_of (List.mem_append_right _ (List.mem_of_getElem? (i := 1022) (by decide +kernel))) rfl
theorem cd_X5_byteAt : Cond.code yX5_byteAt cX5_byteAt 2 (some .int) ∈ gtbl := gtbl_of (List.mem_append_right _ (List.mem_of_getElem? (i := 1049) (by decide +kernel))) rfl
theorem im_X5_byteAt : Cond.instanceMethod yX5_byteAt ∈ gtbl := gtbl_of (List.mem_append_right _ (List.mem_of_getElem? (i := 1047) (by decide +kernel))) rfl
theorem se_X5_byteAt : Cond.selects yX5_byteAt.cls yX5_byteAt yX5_byteAt ∈ gtbl := gtbl_of (List.mem_append_right _ (List.mem_of_getElem? (i := 1048) (by decide +kernel))) rfl
theorem cd_X6_init : Cond.code yX6_init cX6_init 2 none ∈ gtbl := gtbl_of (List.mem_append_right _ (List.mem_of_getElem? (i := 172) (by decide +kernel))) rfl
theorem im_X6_init : Cond.instanceMethod yX6_init ∈ gtbl := gtbl_of (List.mem_append_right _ (List.mem_of_getElem? (i := 171) (by decide +kernel))) rfl
theorem cd_X6_readAll : Cond.code yX6_readAll cX6_readAll 2 none ∈ gtbl := gtbl_of (List.mem_append_right _ (List.mem_of_getElem? (i := 1041) (by decide +kernel))) rfl
theorem im_X6_readAll : Cond.instanceMethod yX6_readAll ∈ gtbl := gtbl_of (List.mem_append_right _ (List.mem_of_getElem? (i := 1039) (by decide +kernel))) rfl
theorem se_X6_readAll : Cond.selects yX6_readAll.cls yX6_readAll yX6_readAll ∈ gtbl := gtbl_of (List.mem_append_right _ (List.mem_of_getElem? (i := 1040) (by decide +kernel))) rfl
theorem cd_X6_readToken : Cond.code yX6_readToken cX6_readToken 3 (some .int) ∈ gtbl := gtbl_of (List.mem_append_right _ (List.mem_of_getElem? (i := 1056) (by decide +kernel))) rfl
theorem im_X6_readToken : Cond.instanceMethod yX6_readToken ∈ gtbl := gtbl_of (List.mem_append_right _ (List.mem_of_getElem? (i := 1055) (by decide +kernel))) rfl
theorem se_X6_readToken : Cond.selects yX6_readToken.cls yX6_readToken yX6_readToken ∈ gtbl := gtbl_of (List.mem_append_left _ (List.mem_of_getElem? (i := 28) (by decide +kernel))) rfl
theorem cd_X6_skipBlanks : Cond.code yX6_skipBlanks cX6_skipBlanks 2 none ∈ gtbl := gtbl_of (List.mem_append_right _ (List.mem_of_getElem? (i := 1045) (by decide +kernel))) rfl
theorem im_X6_skipBlanks : Cond.instanceMethod yX6_skipBlanks ∈ gtbl := gtbl_of (List.mem_append_right _ (List.mem_of_getElem? (i := 1044) (by decide +kernel))) rfl
theorem se_X6_skipBlanks : Cond.selects yX6_skipBlanks.cls yX6_skipBlanks yX6_skipBlanks ∈ gtbl := gtbl_of (List.mem_append_left _ (List.mem_of_getElem? (i := 27) (by decide +kernel))) rfl
theorem cd_X6_readWord : Cond.code yX6_readWord cX6_readWord 5 (some .int) ∈ gtbl := gtbl_of (List.mem_append_right _ (List.mem_of_getElem? (i := 1063) (by decide +kernel))) rfl
theorem im_X6_readWord : Cond.instanceMethod yX6_readWord ∈ gtbl := gtbl_of (List.mem_append_right _ (List.mem_of_getElem? (i := 1062) (by decide +kernel))) rfl
theorem se_X6_readWord : Cond.selects yX6_readWord.cls yX6_readWord yX6_readWord ∈ gtbl := gtbl_of (List.mem_append_left _ (List.mem_of_getElem? (i := 29) (by decide +kernel))) rfl
theorem cd_X6_readNumber : Cond.code yX6_readNumber cX6_readNumber 4 (some .int) ∈ gtbl := gtbl_of (List.mem_append_right _ (List.mem_of_getElem? (i := 1087) (by decide +kernel))) rfl
theorem im_X6_readNumber : Cond.instanceMethod yX6_readNumber ∈ gtbl := gtbl_of (List.mem_append_right _ (List.mem_of_getElem? (i := 1086) (by decide +kernel))) rfl
theorem se_X6_readNumber : Cond.selects yX6_readNumber.cls yX6_readNumber yX6_readNumber ∈ gtbl := gtbl_of (List.mem_append_left _ (List.mem_of_getElem? (i := 30) (by decide +kernel))) rfl
theorem cd_X6_numberOfSign : Cond.code yX6_numberOfSign cX6_numberOfSign 1 (some .int) ∈ gtbl := gtbl_of (List.mem_append_right _ (List.mem_of_getElem? (i := 1073) (by decide +kernel))) rfl
theorem st_X6_numberOfSign : Cond.static yX6_numberOfSign ∈ gtbl := gtbl_of (List.mem_append_right _ (List.mem_of_getElem? (i := 1072) (by decide +kernel))) rfl
theorem cd_X6_isBlank : Cond.code yX6_isBlank cX6_isBlank 1 (some .boolean) ∈ gtbl := gtbl_of (List.mem_append_right _ (List.mem_of_getElem? (i := 1052) (by decide +kernel))) rfl
theorem st_X6_isBlank : Cond.static yX6_isBlank ∈ gtbl := gtbl_of (List.mem_append_right _ (List.mem_of_getElem? (i := 1051) (by decide +kernel))) rfl
theorem cd_X6_isLetter : Cond.code yX6_isLetter cX6_isLetter 1 (some .boolean) ∈ gtbl := gtbl_of (List.mem_append_right _ (List.mem_of_getElem? (i := 1059) (by decide +kernel))) rfl
theorem st_X6_isLetter : Cond.static yX6_isLetter ∈ gtbl := gtbl_of (List.mem_append_right _ (List.mem_of_getElem? (i := 1058) (by decide +kernel))) rfl
theorem cd_X6_isDigit : Cond.code yX6_isDigit cX6_isDigit 1 (some .boolean) ∈ gtbl := gtbl_of (List.mem_append_right _ (List.mem_of_getElem? (i := 1069) (by decide +kernel))) rfl
theorem st_X6_isDigit : Cond.static yX6_isDigit ∈ gtbl := gtbl_of (List.mem_append_right _ (List.mem_of_getElem? (i := 1068) (by decide +kernel))) rfl
theorem cd_X6_isOfWord : Cond.code yX6_isOfWord cX6_isOfWord 1 (some .boolean) ∈ gtbl := gtbl_of (List.mem_append_right _ (List.mem_of_getElem? (i := 1066) (by decide +kernel))) rfl
theorem st_X6_isOfWord : Cond.static yX6_isOfWord ∈ gtbl := gtbl_of (List.mem_append_right _ (List.mem_of_getElem? (i := 1065) (by decide +kernel))) rfl
theorem cd_X7_init : Cond.code yX7_init cX7_init 1 none ∈ gtbl := gtbl_of (List.mem_append_right _ (List.mem_of_getElem? (i := 57) (by decide +kernel))) rfl
theorem im_X7_init : Cond.instanceMethod yX7_init ∈ gtbl := gtbl_of (List.mem_append_right _ (List.mem_of_getElem? (i := 56) (by decide +kernel))) rfl
theorem cd_X7_clear : Cond.code yX7_clear cX7_clear 2 none ∈ gtbl := gtbl_of (List.mem_append_right _ (List.mem_of_getElem? (i := 94) (by decide +kernel))) rfl
theorem im_X7_clear : Cond.instanceMethod yX7_clear ∈ gtbl := gtbl_of (List.mem_append_right _ (List.mem_of_getElem? (i := 92) (by decide +kernel))) rfl
theorem se_X7_clear : Cond.selects yX7_clear.cls yX7_clear yX7_clear ∈ gtbl := gtbl_of (List.mem_append_right _ (List.mem_of_getElem? (i := 93) (by decide +kernel))) rfl
theorem cd_X7_resize : Cond.code yX7_resize cX7_resize 3 none ∈ gtbl := gtbl_of (List.mem_append_right _ (List.mem_of_getElem? (i := 98) (by decide +kernel))) rfl
theorem im_X7_resize : Cond.instanceMethod yX7_resize ∈ gtbl := gtbl_of (List.mem_append_right _ (List.mem_of_getElem? (i := 96) (by decide +kernel))) rfl
theorem se_X7_resize : Cond.selects yX7_resize.cls yX7_resize yX7_resize ∈ gtbl := gtbl_of (List.mem_append_right _ (List.mem_of_getElem? (i := 97) (by decide +kernel))) rfl
theorem cd_X7_addEmpire : Cond.code yX7_addEmpire cX7_addEmpire 5 none ∈ gtbl := gtbl_of (List.mem_append_right _ (List.mem_of_getElem? (i := 1135) (by decide +kernel))) rfl
theorem im_X7_addEmpire : Cond.instanceMethod yX7_addEmpire ∈ gtbl := gtbl_of (List.mem_append_right _ (List.mem_of_getElem? (i := 1133) (by decide +kernel))) rfl
theorem se_X7_addEmpire : Cond.selects yX7_addEmpire.cls yX7_addEmpire yX7_addEmpire ∈ gtbl := gtbl_of (List.mem_append_right _ (List.mem_of_getElem? (i := 1134) (by decide +kernel))) rfl
theorem cd_X7_addFind : Cond.code yX7_addFind cX7_addFind 4 none ∈ gtbl := gtbl_of (List.mem_append_right _ (List.mem_of_getElem? (i := 1157) (by decide +kernel))) rfl
theorem im_X7_addFind : Cond.instanceMethod yX7_addFind ∈ gtbl := gtbl_of (List.mem_append_right _ (List.mem_of_getElem? (i := 1155) (by decide +kernel))) rfl
theorem se_X7_addFind : Cond.selects yX7_addFind.cls yX7_addFind yX7_addFind ∈ gtbl := gtbl_of (List.mem_append_right _ (List.mem_of_getElem? (i := 1156) (by decide +kernel))) rfl
theorem cd_X7_addSpring : Cond.code yX7_addSpring cX7_addSpring 2 none ∈ gtbl := gtbl_of (List.mem_append_right _ (List.mem_of_getElem? (i := 1173) (by decide +kernel))) rfl
theorem im_X7_addSpring : Cond.instanceMethod yX7_addSpring ∈ gtbl := gtbl_of (List.mem_append_right _ (List.mem_of_getElem? (i := 1171) (by decide +kernel))) rfl
theorem se_X7_addSpring : Cond.selects yX7_addSpring.cls yX7_addSpring yX7_addSpring ∈ gtbl := gtbl_of (List.mem_append_right _ (List.mem_of_getElem? (i := 1172) (by decide +kernel))) rfl
theorem cd_X7_empireNamed : Cond.code yX7_empireNamed cX7_empireNamed 4 (some .int) ∈ gtbl := gtbl_of (List.mem_append_right _ (List.mem_of_getElem? (i := 1131) (by decide +kernel))) rfl
theorem im_X7_empireNamed : Cond.instanceMethod yX7_empireNamed ∈ gtbl := gtbl_of (List.mem_append_right _ (List.mem_of_getElem? (i := 1129) (by decide +kernel))) rfl
theorem se_X7_empireNamed : Cond.selects yX7_empireNamed.cls yX7_empireNamed yX7_empireNamed ∈ gtbl := gtbl_of (List.mem_append_right _ (List.mem_of_getElem? (i := 1130) (by decide +kernel))) rfl
theorem cd_X7_seatOfSum : Cond.code yX7_seatOfSum cX7_seatOfSum 2 (some .int) ∈ gtbl := gtbl_of (List.mem_append_right _ (List.mem_of_getElem? (i := 750) (by decide +kernel))) rfl
theorem im_X7_seatOfSum : Cond.instanceMethod yX7_seatOfSum ∈ gtbl := gtbl_of (List.mem_append_right _ (List.mem_of_getElem? (i := 748) (by decide +kernel))) rfl
theorem se_X7_seatOfSum : Cond.selects yX7_seatOfSum.cls yX7_seatOfSum yX7_seatOfSum ∈ gtbl := gtbl_of (List.mem_append_right _ (List.mem_of_getElem? (i := 749) (by decide +kernel))) rfl
theorem cd_X7_cushionTold : Cond.code yX7_cushionTold cX7_cushionTold 3 (some .int) ∈ gtbl := gtbl_of (List.mem_append_right _ (List.mem_of_getElem? (i := 1151) (by decide +kernel))) rfl
theorem im_X7_cushionTold : Cond.instanceMethod yX7_cushionTold ∈ gtbl := gtbl_of (List.mem_append_right _ (List.mem_of_getElem? (i := 1149) (by decide +kernel))) rfl
theorem se_X7_cushionTold : Cond.selects yX7_cushionTold.cls yX7_cushionTold yX7_cushionTold ∈ gtbl := gtbl_of (List.mem_append_right _ (List.mem_of_getElem? (i := 1150) (by decide +kernel))) rfl
theorem cd_X7_stratumOfCushion : Cond.code yX7_stratumOfCushion cX7_stratumOfCushion 2 (some .int) ∈ gtbl := gtbl_of (List.mem_append_right _ (List.mem_of_getElem? (i := 478) (by decide +kernel))) rfl
theorem im_X7_stratumOfCushion : Cond.instanceMethod yX7_stratumOfCushion ∈ gtbl := gtbl_of (List.mem_append_right _ (List.mem_of_getElem? (i := 476) (by decide +kernel))) rfl
theorem se_X7_stratumOfCushion : Cond.selects yX7_stratumOfCushion.cls yX7_stratumOfCushion yX7_stratumOfCushion ∈ gtbl := gtbl_of (List.mem_append_right _ (List.mem_of_getElem? (i := 477) (by decide +kernel))) rfl
theorem cd_X7_findIn : Cond.code yX7_findIn cX7_findIn 2 (some .int) ∈ gtbl := gtbl_of (List.mem_append_right _ (List.mem_of_getElem? (i := 509) (by decide +kernel))) rfl
theorem im_X7_findIn : Cond.instanceMethod yX7_findIn ∈ gtbl := gtbl_of (List.mem_append_right _ (List.mem_of_getElem? (i := 507) (by decide +kernel))) rfl
theorem se_X7_findIn : Cond.selects yX7_findIn.cls yX7_findIn yX7_findIn ∈ gtbl := gtbl_of (List.mem_append_right _ (List.mem_of_getElem? (i := 508) (by decide +kernel))) rfl
theorem cd_X7_hasSpring : Cond.code yX7_hasSpring cX7_hasSpring 2 (some .boolean) ∈ gtbl := gtbl_of (List.mem_append_right _ (List.mem_of_getElem? (i := 497) (by decide +kernel))) rfl
theorem im_X7_hasSpring : Cond.instanceMethod yX7_hasSpring ∈ gtbl := gtbl_of (List.mem_append_right _ (List.mem_of_getElem? (i := 495) (by decide +kernel))) rfl
theorem se_X7_hasSpring : Cond.selects yX7_hasSpring.cls yX7_hasSpring yX7_hasSpring ∈ gtbl := gtbl_of (List.mem_append_right _ (List.mem_of_getElem? (i := 496) (by decide +kernel))) rfl
theorem cd_X7_tellsCoin : Cond.code yX7_tellsCoin cX7_tellsCoin 2 (some .boolean) ∈ gtbl := gtbl_of (List.mem_append_right _ (List.mem_of_getElem? (i := 522) (by decide +kernel))) rfl
theorem im_X7_tellsCoin : Cond.instanceMethod yX7_tellsCoin ∈ gtbl := gtbl_of (List.mem_append_right _ (List.mem_of_getElem? (i := 520) (by decide +kernel))) rfl
theorem se_X7_tellsCoin : Cond.selects yX7_tellsCoin.cls yX7_tellsCoin yX7_tellsCoin ∈ gtbl := gtbl_of (List.mem_append_right _ (List.mem_of_getElem? (i := 521) (by decide +kernel))) rfl
theorem cd_X7_cushionOf : Cond.code yX7_cushionOf cX7_cushionOf 2 (some .int) ∈ gtbl := gtbl_of (List.mem_append_right _ (List.mem_of_getElem? (i := 555) (by decide +kernel))) rfl
theorem im_X7_cushionOf : Cond.instanceMethod yX7_cushionOf ∈ gtbl := gtbl_of (List.mem_append_right _ (List.mem_of_getElem? (i := 553) (by decide +kernel))) rfl
theorem se_X7_cushionOf : Cond.selects yX7_cushionOf.cls yX7_cushionOf yX7_cushionOf ∈ gtbl := gtbl_of (List.mem_append_right _ (List.mem_of_getElem? (i := 554) (by decide +kernel))) rfl
theorem cd_X7_stratumOfFind : Cond.code yX7_stratumOfFind cX7_stratumOfFind 2 (some .int) ∈ gtbl := gtbl_of (List.mem_append_right _ (List.mem_of_getElem? (i := 551) (by decide +kernel))) rfl
theorem im_X7_stratumOfFind : Cond.instanceMethod yX7_stratumOfFind ∈ gtbl := gtbl_of (List.mem_append_right _ (List.mem_of_getElem? (i := 549) (by decide +kernel))) rfl
theorem se_X7_stratumOfFind : Cond.selects yX7_stratumOfFind.cls yX7_stratumOfFind yX7_stratumOfFind ∈ gtbl := gtbl_of (List.mem_append_right _ (List.mem_of_getElem? (i := 550) (by decide +kernel))) rfl
theorem cd_X7_coinYear : Cond.code yX7_coinYear cX7_coinYear 2 (some .int) ∈ gtbl := gtbl_of (List.mem_append_right _ (List.mem_of_getElem? (i := 599) (by decide +kernel))) rfl
theorem im_X7_coinYear : Cond.instanceMethod yX7_coinYear ∈ gtbl := gtbl_of (List.mem_append_right _ (List.mem_of_getElem? (i := 597) (by decide +kernel))) rfl
theorem se_X7_coinYear : Cond.selects yX7_coinYear.cls yX7_coinYear yX7_coinYear ∈ gtbl := gtbl_of (List.mem_append_right _ (List.mem_of_getElem? (i := 598) (by decide +kernel))) rfl
theorem cd_X7_crumbsEmpire : Cond.code yX7_crumbsEmpire cX7_crumbsEmpire 2 (some .int) ∈ gtbl := gtbl_of (List.mem_append_right _ (List.mem_of_getElem? (i := 565) (by decide +kernel))) rfl
theorem im_X7_crumbsEmpire : Cond.instanceMethod yX7_crumbsEmpire ∈ gtbl := gtbl_of (List.mem_append_right _ (List.mem_of_getElem? (i := 563) (by decide +kernel))) rfl
theorem se_X7_crumbsEmpire : Cond.selects yX7_crumbsEmpire.cls yX7_crumbsEmpire yX7_crumbsEmpire ∈ gtbl := gtbl_of (List.mem_append_right _ (List.mem_of_getElem? (i := 564) (by decide +kernel))) rfl
theorem cd_X7_fromOf : Cond.code yX7_fromOf cX7_fromOf 2 (some .int) ∈ gtbl := gtbl_of (List.mem_append_right _ (List.mem_of_getElem? (i := 604) (by decide +kernel))) rfl
theorem im_X7_fromOf : Cond.instanceMethod yX7_fromOf ∈ gtbl := gtbl_of (List.mem_append_right _ (List.mem_of_getElem? (i := 602) (by decide +kernel))) rfl
theorem se_X7_fromOf : Cond.selects yX7_fromOf.cls yX7_fromOf yX7_fromOf ∈ gtbl := gtbl_of (List.mem_append_right _ (List.mem_of_getElem? (i := 603) (by decide +kernel))) rfl
theorem cd_X7_toOf : Cond.code yX7_toOf cX7_toOf 2 (some .int) ∈ gtbl := gtbl_of (List.mem_append_right _ (List.mem_of_getElem? (i := 633) (by decide +kernel))) rfl
theorem im_X7_toOf : Cond.instanceMethod yX7_toOf ∈ gtbl := gtbl_of (List.mem_append_right _ (List.mem_of_getElem? (i := 631) (by decide +kernel))) rfl
theorem se_X7_toOf : Cond.selects yX7_toOf.cls yX7_toOf yX7_toOf ∈ gtbl := gtbl_of (List.mem_append_right _ (List.mem_of_getElem? (i := 632) (by decide +kernel))) rfl
theorem cd_X7_earliestYearOf : Cond.code yX7_earliestYearOf cX7_earliestYearOf 2 (some .int) ∈ gtbl := gtbl_of (List.mem_append_right _ (List.mem_of_getElem? (i := 594) (by decide +kernel))) rfl
theorem im_X7_earliestYearOf : Cond.instanceMethod yX7_earliestYearOf ∈ gtbl := gtbl_of (List.mem_append_right _ (List.mem_of_getElem? (i := 592) (by decide +kernel))) rfl
theorem se_X7_earliestYearOf : Cond.selects yX7_earliestYearOf.cls yX7_earliestYearOf yX7_earliestYearOf ∈ gtbl := gtbl_of (List.mem_append_right _ (List.mem_of_getElem? (i := 593) (by decide +kernel))) rfl
theorem cd_X7_isEmpire : Cond.code yX7_isEmpire cX7_isEmpire 2 (some .boolean) ∈ gtbl := gtbl_of (List.mem_append_right _ (List.mem_of_getElem? (i := 608) (by decide +kernel))) rfl
theorem im_X7_isEmpire : Cond.instanceMethod yX7_isEmpire ∈ gtbl := gtbl_of (List.mem_append_right _ (List.mem_of_getElem? (i := 607) (by decide +kernel))) rfl
theorem se_X7_isEmpire : Cond.selects yX7_isEmpire.cls yX7_isEmpire yX7_isEmpire ∈ gtbl := gtbl_of (List.mem_append_left _ (List.mem_of_getElem? (i := 7) (by decide +kernel))) rfl
theorem cd_X7_isFind : Cond.code yX7_isFind cX7_isFind 2 (some .boolean) ∈ gtbl := gtbl_of (List.mem_append_right _ (List.mem_of_getElem? (i := 526) (by decide +kernel))) rfl
theorem im_X7_isFind : Cond.instanceMethod yX7_isFind ∈ gtbl := gtbl_of (List.mem_append_right _ (List.mem_of_getElem? (i := 525) (by decide +kernel))) rfl
theorem se_X7_isFind : Cond.selects yX7_isFind.cls yX7_isFind yX7_isFind ∈ gtbl := gtbl_of (List.mem_append_left _ (List.mem_of_getElem? (i := 5) (by decide +kernel))) rfl
theorem cd_X7_isCushion : Cond.code yX7_isCushion cX7_isCushion 1 (some .boolean) ∈ gtbl := gtbl_of (List.mem_append_right _ (List.mem_of_getElem? (i := 481) (by decide +kernel))) rfl
theorem st_X7_isCushion : Cond.static yX7_isCushion ∈ gtbl := gtbl_of (List.mem_append_right _ (List.mem_of_getElem? (i := 480) (by decide +kernel))) rfl
theorem cd_X8_init : Cond.code yX8_init cX8_init 3 none ∈ gtbl := gtbl_of (List.mem_append_right _ (List.mem_of_getElem? (i := 34) (by decide +kernel))) rfl
theorem im_X8_init : Cond.instanceMethod yX8_init ∈ gtbl := gtbl_of (List.mem_append_right _ (List.mem_of_getElem? (i := 33) (by decide +kernel))) rfl
theorem cd_X8_feed : Cond.code yX8_feed cX8_feed 6 (some .int) ∈ gtbl := gtbl_of (List.mem_append_right _ (List.mem_of_getElem? (i := 1018) (by decide +kernel))) rfl
theorem im_X8_feed : Cond.instanceMethod yX8_feed ∈ gtbl := gtbl_of (List.mem_append_right _ (List.mem_of_getElem? (i := 1016) (by decide +kernel))) rfl
theorem se_X8_feed : Cond.selects yX8_feed.cls yX8_feed yX8_feed ∈ gtbl := gtbl_of (List.mem_append_right _ (List.mem_of_getElem? (i := 1017) (by decide +kernel))) rfl
theorem cd_X8_trim : Cond.code yX8_trim cX8_trim 2 (some .int) ∈ gtbl := gtbl_of (List.mem_append_right _ (List.mem_of_getElem? (i := 1027) (by decide +kernel))) rfl
theorem im_X8_trim : Cond.instanceMethod yX8_trim ∈ gtbl := gtbl_of (List.mem_append_right _ (List.mem_of_getElem? (i := 1025) (by decide +kernel))) rfl
theorem se_X8_trim : Cond.selects yX8_trim.cls yX8_trim yX8_trim ∈ gtbl := gtbl_of (List.mem_append_right _ (List.mem_of_getElem? (i := 1026) (by decide +kernel))) rfl
theorem cd_X8_teach : Cond.code yX8_teach cX8_teach 2 (some .int) ∈ gtbl := gtbl_of (List.mem_append_right _ (List.mem_of_getElem? (i := 1032) (by decide +kernel))) rfl
theorem im_X8_teach : Cond.instanceMethod yX8_teach ∈ gtbl := gtbl_of (List.mem_append_right _ (List.mem_of_getElem? (i := 1030) (by decide +kernel))) rfl
theorem se_X8_teach : Cond.selects yX8_teach.cls yX8_teach yX8_teach ∈ gtbl := gtbl_of (List.mem_append_right _ (List.mem_of_getElem? (i := 1031) (by decide +kernel))) rfl
theorem cd_X8_seats : Cond.code yX8_seats cX8_seats 1 (some .int) ∈ gtbl := gtbl_of (List.mem_append_right _ (List.mem_of_getElem? (i := 326) (by decide +kernel))) rfl
theorem im_X8_seats : Cond.instanceMethod yX8_seats ∈ gtbl := gtbl_of (List.mem_append_right _ (List.mem_of_getElem? (i := 324) (by decide +kernel))) rfl
theorem se_X8_seats : Cond.selects yX8_seats.cls yX8_seats yX8_seats ∈ gtbl := gtbl_of (List.mem_append_right _ (List.mem_of_getElem? (i := 325) (by decide +kernel))) rfl
theorem cd_X8_strata : Cond.code yX8_strata cX8_strata 1 (some .int) ∈ gtbl := gtbl_of (List.mem_append_right _ (List.mem_of_getElem? (i := 330) (by decide +kernel))) rfl
theorem im_X8_strata : Cond.instanceMethod yX8_strata ∈ gtbl := gtbl_of (List.mem_append_right _ (List.mem_of_getElem? (i := 328) (by decide +kernel))) rfl
theorem se_X8_strata : Cond.selects yX8_strata.cls yX8_strata yX8_strata ∈ gtbl := gtbl_of (List.mem_append_right _ (List.mem_of_getElem? (i := 329) (by decide +kernel))) rfl
theorem cd_X8_finds : Cond.code yX8_finds cX8_finds 1 (some .int) ∈ gtbl := gtbl_of (List.mem_append_right _ (List.mem_of_getElem? (i := 334) (by decide +kernel))) rfl
theorem im_X8_finds : Cond.instanceMethod yX8_finds ∈ gtbl := gtbl_of (List.mem_append_right _ (List.mem_of_getElem? (i := 332) (by decide +kernel))) rfl
theorem se_X8_finds : Cond.selects yX8_finds.cls yX8_finds yX8_finds ∈ gtbl := gtbl_of (List.mem_append_right _ (List.mem_of_getElem? (i := 333) (by decide +kernel))) rfl
theorem cd_X8_days : Cond.code yX8_days cX8_days 1 (some .int) ∈ gtbl := gtbl_of (List.mem_append_right _ (List.mem_of_getElem? (i := 905) (by decide +kernel))) rfl
theorem im_X8_days : Cond.instanceMethod yX8_days ∈ gtbl := gtbl_of (List.mem_append_right _ (List.mem_of_getElem? (i := 903) (by decide +kernel))) rfl
theorem se_X8_days : Cond.selects yX8_days.cls yX8_days yX8_days ∈ gtbl := gtbl_of (List.mem_append_right _ (List.mem_of_getElem? (i := 904) (by decide +kernel))) rfl
theorem cd_X8_ordersCarriedOut : Cond.code yX8_ordersCarriedOut cX8_ordersCarriedOut 1 (some .int) ∈ gtbl := gtbl_of (List.mem_append_right _ (List.mem_of_getElem? (i := 909) (by decide +kernel))) rfl
theorem im_X8_ordersCarriedOut : Cond.instanceMethod yX8_ordersCarriedOut ∈ gtbl := gtbl_of (List.mem_append_right _ (List.mem_of_getElem? (i := 907) (by decide +kernel))) rfl
theorem se_X8_ordersCarriedOut : Cond.selects yX8_ordersCarriedOut.cls yX8_ordersCarriedOut yX8_ordersCarriedOut ∈ gtbl := gtbl_of (List.mem_append_right _ (List.mem_of_getElem? (i := 908) (by decide +kernel))) rfl
theorem cd_X8_cushionsDug : Cond.code yX8_cushionsDug cX8_cushionsDug 1 (some .int) ∈ gtbl := gtbl_of (List.mem_append_right _ (List.mem_of_getElem? (i := 338) (by decide +kernel))) rfl
theorem im_X8_cushionsDug : Cond.instanceMethod yX8_cushionsDug ∈ gtbl := gtbl_of (List.mem_append_right _ (List.mem_of_getElem? (i := 336) (by decide +kernel))) rfl
theorem se_X8_cushionsDug : Cond.selects yX8_cushionsDug.cls yX8_cushionsDug yX8_cushionsDug ∈ gtbl := gtbl_of (List.mem_append_right _ (List.mem_of_getElem? (i := 337) (by decide +kernel))) rfl
theorem cd_X8_slides : Cond.code yX8_slides cX8_slides 1 (some .int) ∈ gtbl := gtbl_of (List.mem_append_right _ (List.mem_of_getElem? (i := 342) (by decide +kernel))) rfl
theorem im_X8_slides : Cond.instanceMethod yX8_slides ∈ gtbl := gtbl_of (List.mem_append_right _ (List.mem_of_getElem? (i := 340) (by decide +kernel))) rfl
theorem se_X8_slides : Cond.selects yX8_slides.cls yX8_slides yX8_slides ∈ gtbl := gtbl_of (List.mem_append_right _ (List.mem_of_getElem? (i := 341) (by decide +kernel))) rfl
theorem cd_X8_found : Cond.code yX8_found cX8_found 1 (some .int) ∈ gtbl := gtbl_of (List.mem_append_right _ (List.mem_of_getElem? (i := 346) (by decide +kernel))) rfl
theorem im_X8_found : Cond.instanceMethod yX8_found ∈ gtbl := gtbl_of (List.mem_append_right _ (List.mem_of_getElem? (i := 344) (by decide +kernel))) rfl
theorem se_X8_found : Cond.selects yX8_found.cls yX8_found yX8_found ∈ gtbl := gtbl_of (List.mem_append_right _ (List.mem_of_getElem? (i := 345) (by decide +kernel))) rfl
theorem cd_X8_sureFinds : Cond.code yX8_sureFinds cX8_sureFinds 1 (some .int) ∈ gtbl := gtbl_of (List.mem_append_right _ (List.mem_of_getElem? (i := 350) (by decide +kernel))) rfl
theorem im_X8_sureFinds : Cond.instanceMethod yX8_sureFinds ∈ gtbl := gtbl_of (List.mem_append_right _ (List.mem_of_getElem? (i := 348) (by decide +kernel))) rfl
theorem se_X8_sureFinds : Cond.selects yX8_sureFinds.cls yX8_sureFinds yX8_sureFinds ∈ gtbl := gtbl_of (List.mem_append_right _ (List.mem_of_getElem? (i := 349) (by decide +kernel))) rfl
theorem cd_X8_props : Cond.code yX8_props cX8_props 1 (some .int) ∈ gtbl := gtbl_of (List.mem_append_right _ (List.mem_of_getElem? (i := 354) (by decide +kernel))) rfl
theorem im_X8_props : Cond.instanceMethod yX8_props ∈ gtbl := gtbl_of (List.mem_append_right _ (List.mem_of_getElem? (i := 352) (by decide +kernel))) rfl
theorem se_X8_props : Cond.selects yX8_props.cls yX8_props yX8_props ∈ gtbl := gtbl_of (List.mem_append_right _ (List.mem_of_getElem? (i := 353) (by decide +kernel))) rfl
theorem cd_X8_heightOf : Cond.code yX8_heightOf cX8_heightOf 2 (some .int) ∈ gtbl := gtbl_of (List.mem_append_right _ (List.mem_of_getElem? (i := 358) (by decide +kernel))) rfl
theorem im_X8_heightOf : Cond.instanceMethod yX8_heightOf ∈ gtbl := gtbl_of (List.mem_append_right _ (List.mem_of_getElem? (i := 356) (by decide +kernel))) rfl
theorem se_X8_heightOf : Cond.selects yX8_heightOf.cls yX8_heightOf yX8_heightOf ∈ gtbl := gtbl_of (List.mem_append_right _ (List.mem_of_getElem? (i := 357) (by decide +kernel))) rfl
theorem cd_X8_isPropped : Cond.code yX8_isPropped cX8_isPropped 2 (some .boolean) ∈ gtbl := gtbl_of (List.mem_append_right _ (List.mem_of_getElem? (i := 437) (by decide +kernel))) rfl
theorem im_X8_isPropped : Cond.instanceMethod yX8_isPropped ∈ gtbl := gtbl_of (List.mem_append_right _ (List.mem_of_getElem? (i := 435) (by decide +kernel))) rfl
theorem se_X8_isPropped : Cond.selects yX8_isPropped.cls yX8_isPropped yX8_isPropped ∈ gtbl := gtbl_of (List.mem_append_right _ (List.mem_of_getElem? (i := 436) (by decide +kernel))) rfl
theorem cd_X8_topStratum : Cond.code yX8_topStratum cX8_topStratum 2 (some .int) ∈ gtbl := gtbl_of (List.mem_append_right _ (List.mem_of_getElem? (i := 445) (by decide +kernel))) rfl
theorem im_X8_topStratum : Cond.instanceMethod yX8_topStratum ∈ gtbl := gtbl_of (List.mem_append_right _ (List.mem_of_getElem? (i := 443) (by decide +kernel))) rfl
theorem se_X8_topStratum : Cond.selects yX8_topStratum.cls yX8_topStratum yX8_topStratum ∈ gtbl := gtbl_of (List.mem_append_right _ (List.mem_of_getElem? (i := 444) (by decide +kernel))) rfl
theorem cd_X8_isTopLoose : Cond.code yX8_isTopLoose cX8_isTopLoose 2 (some .boolean) ∈ gtbl := gtbl_of (List.mem_append_right _ (List.mem_of_getElem? (i := 485) (by decide +kernel))) rfl
theorem im_X8_isTopLoose : Cond.instanceMethod yX8_isTopLoose ∈ gtbl := gtbl_of (List.mem_append_right _ (List.mem_of_getElem? (i := 483) (by decide +kernel))) rfl
theorem se_X8_isTopLoose : Cond.selects yX8_isTopLoose.cls yX8_isTopLoose yX8_isTopLoose ∈ gtbl := gtbl_of (List.mem_append_right _ (List.mem_of_getElem? (i := 484) (by decide +kernel))) rfl
theorem cd_X8_hasTopSpring : Cond.code yX8_hasTopSpring cX8_hasTopSpring 2 (some .boolean) ∈ gtbl := gtbl_of (List.mem_append_right _ (List.mem_of_getElem? (i := 493) (by decide +kernel))) rfl
theorem im_X8_hasTopSpring : Cond.instanceMethod yX8_hasTopSpring ∈ gtbl := gtbl_of (List.mem_append_right _ (List.mem_of_getElem? (i := 491) (by decide +kernel))) rfl
theorem se_X8_hasTopSpring : Cond.selects yX8_hasTopSpring.cls yX8_hasTopSpring yX8_hasTopSpring ∈ gtbl := gtbl_of (List.mem_append_right _ (List.mem_of_getElem? (i := 492) (by decide +kernel))) rfl
theorem cd_X8_findsLeft : Cond.code yX8_findsLeft cX8_findsLeft 2 (some .int) ∈ gtbl := gtbl_of (List.mem_append_right _ (List.mem_of_getElem? (i := 501) (by decide +kernel))) rfl
theorem im_X8_findsLeft : Cond.instanceMethod yX8_findsLeft ∈ gtbl := gtbl_of (List.mem_append_right _ (List.mem_of_getElem? (i := 499) (by decide +kernel))) rfl
theorem se_X8_findsLeft : Cond.selects yX8_findsLeft.cls yX8_findsLeft yX8_findsLeft ∈ gtbl := gtbl_of (List.mem_append_right _ (List.mem_of_getElem? (i := 500) (by decide +kernel))) rfl
theorem cd_X8_isCoin : Cond.code yX8_isCoin cX8_isCoin 2 (some .boolean) ∈ gtbl := gtbl_of (List.mem_append_right _ (List.mem_of_getElem? (i := 513) (by decide +kernel))) rfl
theorem im_X8_isCoin : Cond.instanceMethod yX8_isCoin ∈ gtbl := gtbl_of (List.mem_append_right _ (List.mem_of_getElem? (i := 511) (by decide +kernel))) rfl
theorem se_X8_isCoin : Cond.selects yX8_isCoin.cls yX8_isCoin yX8_isCoin ∈ gtbl := gtbl_of (List.mem_append_right _ (List.mem_of_getElem? (i := 512) (by decide +kernel))) rfl
theorem cd_X8_isFound : Cond.code yX8_isFound cX8_isFound 2 (some .boolean) ∈ gtbl := gtbl_of (List.mem_append_right _ (List.mem_of_getElem? (i := 530) (by decide +kernel))) rfl
theorem im_X8_isFound : Cond.instanceMethod yX8_isFound ∈ gtbl := gtbl_of (List.mem_append_right _ (List.mem_of_getElem? (i := 528) (by decide +kernel))) rfl
theorem se_X8_isFound : Cond.selects yX8_isFound.cls yX8_isFound yX8_isFound ∈ gtbl := gtbl_of (List.mem_append_right _ (List.mem_of_getElem? (i := 529) (by decide +kernel))) rfl
theorem cd_X8_isSure : Cond.code yX8_isSure cX8_isSure 2 (some .boolean) ∈ gtbl := gtbl_of (List.mem_append_right _ (List.mem_of_getElem? (i := 538) (by decide +kernel))) rfl
theorem im_X8_isSure : Cond.instanceMethod yX8_isSure ∈ gtbl := gtbl_of (List.mem_append_right _ (List.mem_of_getElem? (i := 536) (by decide +kernel))) rfl
theorem se_X8_isSure : Cond.selects yX8_isSure.cls yX8_isSure yX8_isSure ∈ gtbl := gtbl_of (List.mem_append_right _ (List.mem_of_getElem? (i := 537) (by decide +kernel))) rfl
theorem cd_X8_stratumOf : Cond.code yX8_stratumOf cX8_stratumOf 2 (some .int) ∈ gtbl := gtbl_of (List.mem_append_right _ (List.mem_of_getElem? (i := 547) (by decide +kernel))) rfl
theorem im_X8_stratumOf : Cond.instanceMethod yX8_stratumOf ∈ gtbl := gtbl_of (List.mem_append_right _ (List.mem_of_getElem? (i := 545) (by decide +kernel))) rfl
theorem se_X8_stratumOf : Cond.selects yX8_stratumOf.cls yX8_stratumOf yX8_stratumOf ∈ gtbl := gtbl_of (List.mem_append_right _ (List.mem_of_getElem? (i := 546) (by decide +kernel))) rfl
theorem cd_X8_yearOf : Cond.code yX8_yearOf cX8_yearOf 2 (some .int) ∈ gtbl := gtbl_of (List.mem_append_right _ (List.mem_of_getElem? (i := 933) (by decide +kernel))) rfl
theorem im_X8_yearOf : Cond.instanceMethod yX8_yearOf ∈ gtbl := gtbl_of (List.mem_append_right _ (List.mem_of_getElem? (i := 931) (by decide +kernel))) rfl
theorem se_X8_yearOf : Cond.selects yX8_yearOf.cls yX8_yearOf yX8_yearOf ∈ gtbl := gtbl_of (List.mem_append_right _ (List.mem_of_getElem? (i := 932) (by decide +kernel))) rfl
theorem cd_X8_empireOf : Cond.code yX8_empireOf cX8_empireOf 2 (some .int) ∈ gtbl := gtbl_of (List.mem_append_right _ (List.mem_of_getElem? (i := 560) (by decide +kernel))) rfl
theorem im_X8_empireOf : Cond.instanceMethod yX8_empireOf ∈ gtbl := gtbl_of (List.mem_append_right _ (List.mem_of_getElem? (i := 558) (by decide +kernel))) rfl
theorem se_X8_empireOf : Cond.selects yX8_empireOf.cls yX8_empireOf yX8_empireOf ∈ gtbl := gtbl_of (List.mem_append_right _ (List.mem_of_getElem? (i := 559) (by decide +kernel))) rfl
theorem cd_X8_buriedUnder : Cond.code yX8_buriedUnder cX8_buriedUnder 2 (some .int) ∈ gtbl := gtbl_of (List.mem_append_right _ (List.mem_of_getElem? (i := 569) (by decide +kernel))) rfl
theorem im_X8_buriedUnder : Cond.instanceMethod yX8_buriedUnder ∈ gtbl := gtbl_of (List.mem_append_right _ (List.mem_of_getElem? (i := 567) (by decide +kernel))) rfl
theorem se_X8_buriedUnder : Cond.selects yX8_buriedUnder.cls yX8_buriedUnder yX8_buriedUnder ∈ gtbl := gtbl_of (List.mem_append_right _ (List.mem_of_getElem? (i := 568) (by decide +kernel))) rfl
theorem cd_X8_notBefore : Cond.code yX8_notBefore cX8_notBefore 2 (some .int) ∈ gtbl := gtbl_of (List.mem_append_right _ (List.mem_of_getElem? (i := 579) (by decide +kernel))) rfl
theorem im_X8_notBefore : Cond.instanceMethod yX8_notBefore ∈ gtbl := gtbl_of (List.mem_append_right _ (List.mem_of_getElem? (i := 577) (by decide +kernel))) rfl
theorem se_X8_notBefore : Cond.selects yX8_notBefore.cls yX8_notBefore yX8_notBefore ∈ gtbl := gtbl_of (List.mem_append_right _ (List.mem_of_getElem? (i := 578) (by decide +kernel))) rfl
theorem cd_X8_isSeenIn : Cond.code yX8_isSeenIn cX8_isSeenIn 3 (some .boolean) ∈ gtbl := gtbl_of (List.mem_append_right _ (List.mem_of_getElem? (i := 615) (by decide +kernel))) rfl
theorem im_X8_isSeenIn : Cond.instanceMethod yX8_isSeenIn ∈ gtbl := gtbl_of (List.mem_append_right _ (List.mem_of_getElem? (i := 613) (by decide +kernel))) rfl
theorem se_X8_isSeenIn : Cond.selects yX8_isSeenIn.cls yX8_isSeenIn yX8_isSeenIn ∈ gtbl := gtbl_of (List.mem_append_right _ (List.mem_of_getElem? (i := 614) (by decide +kernel))) rfl
theorem cd_X8_isMixed : Cond.code yX8_isMixed cX8_isMixed 2 (some .boolean) ∈ gtbl := gtbl_of (List.mem_append_right _ (List.mem_of_getElem? (i := 625) (by decide +kernel))) rfl
theorem im_X8_isMixed : Cond.instanceMethod yX8_isMixed ∈ gtbl := gtbl_of (List.mem_append_right _ (List.mem_of_getElem? (i := 623) (by decide +kernel))) rfl
theorem se_X8_isMixed : Cond.selects yX8_isMixed.cls yX8_isMixed yX8_isMixed ∈ gtbl := gtbl_of (List.mem_append_right _ (List.mem_of_getElem? (i := 624) (by decide +kernel))) rfl
theorem cd_X8_dig : Cond.code yX8_dig cX8_dig 2 (some .int) ∈ gtbl := gtbl_of (List.mem_append_right _ (List.mem_of_getElem? (i := 639) (by decide +kernel))) rfl
theorem im_X8_dig : Cond.instanceMethod yX8_dig ∈ gtbl := gtbl_of (List.mem_append_right _ (List.mem_of_getElem? (i := 637) (by decide +kernel))) rfl
theorem se_X8_dig : Cond.selects yX8_dig.cls yX8_dig yX8_dig ∈ gtbl := gtbl_of (List.mem_append_right _ (List.mem_of_getElem? (i := 638) (by decide +kernel))) rfl
theorem cd_X8_prop : Cond.code yX8_prop cX8_prop 2 (some .int) ∈ gtbl := gtbl_of (List.mem_append_right _ (List.mem_of_getElem? (i := 1607) (by decide +kernel))) rfl
theorem im_X8_prop : Cond.instanceMethod yX8_prop ∈ gtbl := gtbl_of (List.mem_append_right _ (List.mem_of_getElem? (i := 1605) (by decide +kernel))) rfl
theorem se_X8_prop : Cond.selects yX8_prop.cls yX8_prop yX8_prop ∈ gtbl := gtbl_of (List.mem_append_right _ (List.mem_of_getElem? (i := 1606) (by decide +kernel))) rfl
theorem cd_X8_takeProp : Cond.code yX8_takeProp cX8_takeProp 3 (some .int) ∈ gtbl := gtbl_of (List.mem_append_right _ (List.mem_of_getElem? (i := 1614) (by decide +kernel))) rfl
theorem im_X8_takeProp : Cond.instanceMethod yX8_takeProp ∈ gtbl := gtbl_of (List.mem_append_right _ (List.mem_of_getElem? (i := 1612) (by decide +kernel))) rfl
theorem se_X8_takeProp : Cond.selects yX8_takeProp.cls yX8_takeProp yX8_takeProp ∈ gtbl := gtbl_of (List.mem_append_right _ (List.mem_of_getElem? (i := 1613) (by decide +kernel))) rfl
theorem cd_X8_passDays : Cond.code yX8_passDays cX8_passDays 3 (some .int) ∈ gtbl := gtbl_of (List.mem_append_right _ (List.mem_of_getElem? (i := 668) (by decide +kernel))) rfl
theorem im_X8_passDays : Cond.instanceMethod yX8_passDays ∈ gtbl := gtbl_of (List.mem_append_right _ (List.mem_of_getElem? (i := 666) (by decide +kernel))) rfl
theorem se_X8_passDays : Cond.selects yX8_passDays.cls yX8_passDays yX8_passDays ∈ gtbl := gtbl_of (List.mem_append_right _ (List.mem_of_getElem? (i := 667) (by decide +kernel))) rfl
theorem cd_X8_foundAfter : Cond.code yX8_foundAfter cX8_foundAfter 2 (some .int) ∈ gtbl := gtbl_of (List.mem_append_right _ (List.mem_of_getElem? (i := 796) (by decide +kernel))) rfl
theorem im_X8_foundAfter : Cond.instanceMethod yX8_foundAfter ∈ gtbl := gtbl_of (List.mem_append_right _ (List.mem_of_getElem? (i := 794) (by decide +kernel))) rfl
theorem se_X8_foundAfter : Cond.selects yX8_foundAfter.cls yX8_foundAfter yX8_foundAfter ∈ gtbl := gtbl_of (List.mem_append_right _ (List.mem_of_getElem? (i := 795) (by decide +kernel))) rfl
theorem cd_X8_daysUntilFound : Cond.code yX8_daysUntilFound cX8_daysUntilFound 3 (some .int) ∈ gtbl := gtbl_of (List.mem_append_right _ (List.mem_of_getElem? (i := 804) (by decide +kernel))) rfl
theorem im_X8_daysUntilFound : Cond.instanceMethod yX8_daysUntilFound ∈ gtbl := gtbl_of (List.mem_append_right _ (List.mem_of_getElem? (i := 802) (by decide +kernel))) rfl
theorem se_X8_daysUntilFound : Cond.selects yX8_daysUntilFound.cls yX8_daysUntilFound yX8_daysUntilFound ∈ gtbl := gtbl_of (List.mem_append_right _ (List.mem_of_getElem? (i := 803) (by decide +kernel))) rfl
theorem cd_X8_wouldSlide : Cond.code yX8_wouldSlide cX8_wouldSlide 2 (some .int) ∈ gtbl := gtbl_of (List.mem_append_right _ (List.mem_of_getElem? (i := 808) (by decide +kernel))) rfl
theorem im_X8_wouldSlide : Cond.instanceMethod yX8_wouldSlide ∈ gtbl := gtbl_of (List.mem_append_right _ (List.mem_of_getElem? (i := 806) (by decide +kernel))) rfl
theorem se_X8_wouldSlide : Cond.selects yX8_wouldSlide.cls yX8_wouldSlide yX8_wouldSlide ∈ gtbl := gtbl_of (List.mem_append_right _ (List.mem_of_getElem? (i := 807) (by decide +kernel))) rfl
theorem cd_X8_bestDig : Cond.code yX8_bestDig cX8_bestDig 7 (some .int) ∈ gtbl := gtbl_of (List.mem_append_right _ (List.mem_of_getElem? (i := 816) (by decide +kernel))) rfl
theorem im_X8_bestDig : Cond.instanceMethod yX8_bestDig ∈ gtbl := gtbl_of (List.mem_append_right _ (List.mem_of_getElem? (i := 814) (by decide +kernel))) rfl
theorem se_X8_bestDig : Cond.selects yX8_bestDig.cls yX8_bestDig yX8_bestDig ∈ gtbl := gtbl_of (List.mem_append_right _ (List.mem_of_getElem? (i := 815) (by decide +kernel))) rfl
theorem cd_X8_meanYear : Cond.code yX8_meanYear cX8_meanYear 4 (some .double) ∈ gtbl := gtbl_of (List.mem_append_right _ (List.mem_of_getElem? (i := 955) (by decide +kernel))) rfl
theorem im_X8_meanYear : Cond.instanceMethod yX8_meanYear ∈ gtbl := gtbl_of (List.mem_append_right _ (List.mem_of_getElem? (i := 953) (by decide +kernel))) rfl
theorem se_X8_meanYear : Cond.selects yX8_meanYear.cls yX8_meanYear yX8_meanYear ∈ gtbl := gtbl_of (List.mem_append_right _ (List.mem_of_getElem? (i := 954) (by decide +kernel))) rfl
theorem cd_X8_digest : Cond.code yX8_digest cX8_digest 3 (some .long) ∈ gtbl := gtbl_of (List.mem_append_right _ (List.mem_of_getElem? (i := 820) (by decide +kernel))) rfl
theorem im_X8_digest : Cond.instanceMethod yX8_digest ∈ gtbl := gtbl_of (List.mem_append_right _ (List.mem_of_getElem? (i := 818) (by decide +kernel))) rfl
theorem se_X8_digest : Cond.selects yX8_digest.cls yX8_digest yX8_digest ∈ gtbl := gtbl_of (List.mem_append_right _ (List.mem_of_getElem? (i := 819) (by decide +kernel))) rfl
theorem cd_X8_digestSeats : Cond.code yX8_digestSeats cX8_digestSeats 6 (some .long) ∈ gtbl := gtbl_of (List.mem_append_right _ (List.mem_of_getElem? (i := 827) (by decide +kernel))) rfl
theorem im_X8_digestSeats : Cond.instanceMethod yX8_digestSeats ∈ gtbl := gtbl_of (List.mem_append_right _ (List.mem_of_getElem? (i := 826) (by decide +kernel))) rfl
theorem se_X8_digestSeats : Cond.selects yX8_digestSeats.cls yX8_digestSeats yX8_digestSeats ∈ gtbl := gtbl_of (List.mem_append_left _ (List.mem_of_getElem? (i := 22) (by decide +kernel))) rfl
theorem cd_X8_digestFinds : Cond.code yX8_digestFinds cX8_digestFinds 6 (some .long) ∈ gtbl := gtbl_of (List.mem_append_right _ (List.mem_of_getElem? (i := 831) (by decide +kernel))) rfl
theorem im_X8_digestFinds : Cond.instanceMethod yX8_digestFinds ∈ gtbl := gtbl_of (List.mem_append_right _ (List.mem_of_getElem? (i := 830) (by decide +kernel))) rfl
theorem se_X8_digestFinds : Cond.selects yX8_digestFinds.cls yX8_digestFinds yX8_digestFinds ∈ gtbl := gtbl_of (List.mem_append_left _ (List.mem_of_getElem? (i := 23) (by decide +kernel))) rfl
theorem cd_X8_digestStrata : Cond.code yX8_digestStrata cX8_digestStrata 6 (some .long) ∈ gtbl := gtbl_of (List.mem_append_right _ (List.mem_of_getElem? (i := 835) (by decide +kernel))) rfl
theorem im_X8_digestStrata : Cond.instanceMethod yX8_digestStrata ∈ gtbl := gtbl_of (List.mem_append_right _ (List.mem_of_getElem? (i := 834) (by decide +kernel))) rfl
theorem se_X8_digestStrata : Cond.selects yX8_digestStrata.cls yX8_digestStrata yX8_digestStrata ∈ gtbl := gtbl_of (List.mem_append_left _ (List.mem_of_getElem? (i := 24) (by decide +kernel))) rfl
theorem cd_X8_slidesOfDig : Cond.code yX8_slidesOfDig cX8_slidesOfDig 2 (some .int) ∈ gtbl := gtbl_of (List.mem_append_right _ (List.mem_of_getElem? (i := 812) (by decide +kernel))) rfl
theorem im_X8_slidesOfDig : Cond.instanceMethod yX8_slidesOfDig ∈ gtbl := gtbl_of (List.mem_append_right _ (List.mem_of_getElem? (i := 811) (by decide +kernel))) rfl
theorem se_X8_slidesOfDig : Cond.selects yX8_slidesOfDig.cls yX8_slidesOfDig yX8_slidesOfDig ∈ gtbl := gtbl_of (List.mem_append_left _ (List.mem_of_getElem? (i := 21) (by decide +kernel))) rfl
theorem cd_X8_needSeat : Cond.code yX8_needSeat cX8_needSeat 2 none ∈ gtbl := gtbl_of (List.mem_append_right _ (List.mem_of_getElem? (i := 362) (by decide +kernel))) rfl
theorem im_X8_needSeat : Cond.instanceMethod yX8_needSeat ∈ gtbl := gtbl_of (List.mem_append_right _ (List.mem_of_getElem? (i := 361) (by decide +kernel))) rfl
theorem se_X8_needSeat : Cond.selects yX8_needSeat.cls yX8_needSeat yX8_needSeat ∈ gtbl := gtbl_of (List.mem_append_left _ (List.mem_of_getElem? (i := 0) (by decide +kernel))) rfl
theorem cd_X8_needCushion : Cond.code yX8_needCushion cX8_needCushion 2 none ∈ gtbl := gtbl_of (List.mem_append_right _ (List.mem_of_getElem? (i := 449) (by decide +kernel))) rfl
theorem im_X8_needCushion : Cond.instanceMethod yX8_needCushion ∈ gtbl := gtbl_of (List.mem_append_right _ (List.mem_of_getElem? (i := 448) (by decide +kernel))) rfl
theorem se_X8_needCushion : Cond.selects yX8_needCushion.cls yX8_needCushion yX8_needCushion ∈ gtbl := gtbl_of (List.mem_append_left _ (List.mem_of_getElem? (i := 2) (by decide +kernel))) rfl
theorem cd_X8_needFind : Cond.code yX8_needFind cX8_needFind 2 none ∈ gtbl := gtbl_of (List.mem_append_right _ (List.mem_of_getElem? (i := 517) (by decide +kernel))) rfl
theorem im_X8_needFind : Cond.instanceMethod yX8_needFind ∈ gtbl := gtbl_of (List.mem_append_right _ (List.mem_of_getElem? (i := 516) (by decide +kernel))) rfl
theorem se_X8_needFind : Cond.selects yX8_needFind.cls yX8_needFind yX8_needFind ∈ gtbl := gtbl_of (List.mem_append_left _ (List.mem_of_getElem? (i := 4) (by decide +kernel))) rfl
theorem cd_X8_needStratum : Cond.code yX8_needStratum cX8_needStratum 2 none ∈ gtbl := gtbl_of (List.mem_append_right _ (List.mem_of_getElem? (i := 583) (by decide +kernel))) rfl
theorem im_X8_needStratum : Cond.instanceMethod yX8_needStratum ∈ gtbl := gtbl_of (List.mem_append_right _ (List.mem_of_getElem? (i := 582) (by decide +kernel))) rfl
theorem se_X8_needStratum : Cond.selects yX8_needStratum.cls yX8_needStratum yX8_needStratum ∈ gtbl := gtbl_of (List.mem_append_left _ (List.mem_of_getElem? (i := 6) (by decide +kernel))) rfl
theorem cd_X8_needDays : Cond.code yX8_needDays cX8_needDays 2 none ∈ gtbl := gtbl_of (List.mem_append_right _ (List.mem_of_getElem? (i := 672) (by decide +kernel))) rfl
theorem im_X8_needDays : Cond.instanceMethod yX8_needDays ∈ gtbl := gtbl_of (List.mem_append_right _ (List.mem_of_getElem? (i := 671) (by decide +kernel))) rfl
theorem se_X8_needDays : Cond.selects yX8_needDays.cls yX8_needDays yX8_needDays ∈ gtbl := gtbl_of (List.mem_append_left _ (List.mem_of_getElem? (i := 12) (by decide +kernel))) rfl
theorem cd_X9_init : Cond.code yX9_init cX9_init 1 none ∈ gtbl := gtbl_of (List.mem_append_right _ (List.mem_of_getElem? (i := 1244) (by decide +kernel))) rfl
theorem im_X9_init : Cond.instanceMethod yX9_init ∈ gtbl := gtbl_of (List.mem_append_right _ (List.mem_of_getElem? (i := 1243) (by decide +kernel))) rfl
theorem cd_X9_of : Cond.code yX9_of cX9_of 5 (some (Jvm.ClassFile.FieldType.object "SofaDigLaw$Sim")) ∈ gtbl := gtbl_of (List.mem_append_right _ (List.mem_of_getElem? (i := 1240) (by decide +kernel))) rfl
theorem st_X9_of : Cond.static yX9_of ∈ gtbl := gtbl_of (List.mem_append_right _ (List.mem_of_getElem? (i := 1239) (by decide +kernel))) rfl
theorem cd_X9_with : Cond.code yX9_with cX9_with 4 (some (Jvm.ClassFile.FieldType.array (Jvm.ClassFile.FieldType.array Jvm.ClassFile.FieldType.int))) ∈ gtbl := gtbl_of (List.mem_append_right _ (List.mem_of_getElem? (i := 856) (by decide +kernel))) rfl
theorem st_X9_with : Cond.static yX9_with ∈ gtbl := gtbl_of (List.mem_append_right _ (List.mem_of_getElem? (i := 855) (by decide +kernel))) rfl
theorem cd_X9_less : Cond.code yX9_less cX9_less 3 (some (Jvm.ClassFile.FieldType.array (Jvm.ClassFile.FieldType.array Jvm.ClassFile.FieldType.int))) ∈ gtbl := gtbl_of (List.mem_append_right _ (List.mem_of_getElem? (i := 842) (by decide +kernel))) rfl
theorem st_X9_less : Cond.static yX9_less ∈ gtbl := gtbl_of (List.mem_append_right _ (List.mem_of_getElem? (i := 841) (by decide +kernel))) rfl
theorem cd_X9_seat : Cond.code yX9_seat cX9_seat 2 (some .int) ∈ gtbl := gtbl_of (List.mem_append_right _ (List.mem_of_getElem? (i := 878) (by decide +kernel))) rfl
theorem im_X9_seat : Cond.instanceMethod yX9_seat ∈ gtbl := gtbl_of (List.mem_append_right _ (List.mem_of_getElem? (i := 876) (by decide +kernel))) rfl
theorem se_X9_seat : Cond.selects yX9_seat.cls yX9_seat yX9_seat ∈ gtbl := gtbl_of (List.mem_append_right _ (List.mem_of_getElem? (i := 877) (by decide +kernel))) rfl
theorem cd_X9_props : Cond.code yX9_props cX9_props 6 (some .int) ∈ gtbl := gtbl_of (List.mem_append_right _ (List.mem_of_getElem? (i := 873) (by decide +kernel))) rfl
theorem im_X9_props : Cond.instanceMethod yX9_props ∈ gtbl := gtbl_of (List.mem_append_right _ (List.mem_of_getElem? (i := 871) (by decide +kernel))) rfl
theorem se_X9_props : Cond.selects yX9_props.cls yX9_props yX9_props ∈ gtbl := gtbl_of (List.mem_append_right _ (List.mem_of_getElem? (i := 872) (by decide +kernel))) rfl
theorem cd_X9_found : Cond.code yX9_found cX9_found 7 (some .int) ∈ gtbl := gtbl_of (List.mem_append_right _ (List.mem_of_getElem? (i := 864) (by decide +kernel))) rfl
theorem im_X9_found : Cond.instanceMethod yX9_found ∈ gtbl := gtbl_of (List.mem_append_right _ (List.mem_of_getElem? (i := 862) (by decide +kernel))) rfl
theorem se_X9_found : Cond.selects yX9_found.cls yX9_found yX9_found ∈ gtbl := gtbl_of (List.mem_append_right _ (List.mem_of_getElem? (i := 863) (by decide +kernel))) rfl
theorem cd_X9_isSure : Cond.code yX9_isSure cX9_isSure 2 (some .boolean) ∈ gtbl := gtbl_of (List.mem_append_right _ (List.mem_of_getElem? (i := 886) (by decide +kernel))) rfl
theorem im_X9_isSure : Cond.instanceMethod yX9_isSure ∈ gtbl := gtbl_of (List.mem_append_right _ (List.mem_of_getElem? (i := 884) (by decide +kernel))) rfl
theorem se_X9_isSure : Cond.selects yX9_isSure.cls yX9_isSure yX9_isSure ∈ gtbl := gtbl_of (List.mem_append_right _ (List.mem_of_getElem? (i := 885) (by decide +kernel))) rfl
theorem cd_X9_isSeen : Cond.code yX9_isSeen cX9_isSeen 6 (some .boolean) ∈ gtbl := gtbl_of (List.mem_append_right _ (List.mem_of_getElem? (i := 882) (by decide +kernel))) rfl
theorem im_X9_isSeen : Cond.instanceMethod yX9_isSeen ∈ gtbl := gtbl_of (List.mem_append_right _ (List.mem_of_getElem? (i := 880) (by decide +kernel))) rfl
theorem se_X9_isSeen : Cond.selects yX9_isSeen.cls yX9_isSeen yX9_isSeen ∈ gtbl := gtbl_of (List.mem_append_right _ (List.mem_of_getElem? (i := 881) (by decide +kernel))) rfl
theorem cd_X9_isSeenIn : Cond.code yX9_isSeenIn cX9_isSeenIn 7 (some .boolean) ∈ gtbl := gtbl_of (List.mem_append_right _ (List.mem_of_getElem? (i := 950) (by decide +kernel))) rfl
theorem im_X9_isSeenIn : Cond.instanceMethod yX9_isSeenIn ∈ gtbl := gtbl_of (List.mem_append_right _ (List.mem_of_getElem? (i := 948) (by decide +kernel))) rfl
theorem se_X9_isSeenIn : Cond.selects yX9_isSeenIn.cls yX9_isSeenIn yX9_isSeenIn ∈ gtbl := gtbl_of (List.mem_append_right _ (List.mem_of_getElem? (i := 949) (by decide +kernel))) rfl
theorem cd_X9_notBefore : Cond.code yX9_notBefore cX9_notBefore 8 (some .int) ∈ gtbl := gtbl_of (List.mem_append_right _ (List.mem_of_getElem? (i := 941) (by decide +kernel))) rfl
theorem im_X9_notBefore : Cond.instanceMethod yX9_notBefore ∈ gtbl := gtbl_of (List.mem_append_right _ (List.mem_of_getElem? (i := 939) (by decide +kernel))) rfl
theorem se_X9_notBefore : Cond.selects yX9_notBefore.cls yX9_notBefore yX9_notBefore ∈ gtbl := gtbl_of (List.mem_append_right _ (List.mem_of_getElem? (i := 940) (by decide +kernel))) rfl
theorem cd_X9_isMixed : Cond.code yX9_isMixed cX9_isMixed 4 (some .boolean) ∈ gtbl := gtbl_of (List.mem_append_right _ (List.mem_of_getElem? (i := 946) (by decide +kernel))) rfl
theorem im_X9_isMixed : Cond.instanceMethod yX9_isMixed ∈ gtbl := gtbl_of (List.mem_append_right _ (List.mem_of_getElem? (i := 944) (by decide +kernel))) rfl
theorem se_X9_isMixed : Cond.selects yX9_isMixed.cls yX9_isMixed yX9_isMixed ∈ gtbl := gtbl_of (List.mem_append_right _ (List.mem_of_getElem? (i := 945) (by decide +kernel))) rfl
theorem cd_X9_slidesOnto : Cond.code yX9_slidesOnto cX9_slidesOnto 3 (some .boolean) ∈ gtbl := gtbl_of (List.mem_append_right _ (List.mem_of_getElem? (i := 853) (by decide +kernel))) rfl
theorem im_X9_slidesOnto : Cond.instanceMethod yX9_slidesOnto ∈ gtbl := gtbl_of (List.mem_append_right _ (List.mem_of_getElem? (i := 851) (by decide +kernel))) rfl
theorem se_X9_slidesOnto : Cond.selects yX9_slidesOnto.cls yX9_slidesOnto yX9_slidesOnto ∈ gtbl := gtbl_of (List.mem_append_left _ (List.mem_of_getElem? (i := 25) (by decide +kernel))) rfl
theorem cd_X9_settle : Cond.code yX9_settle cX9_settle 5 (some .int) ∈ gtbl := gtbl_of (List.mem_append_right _ (List.mem_of_getElem? (i := 848) (by decide +kernel))) rfl
theorem im_X9_settle : Cond.instanceMethod yX9_settle ∈ gtbl := gtbl_of (List.mem_append_right _ (List.mem_of_getElem? (i := 846) (by decide +kernel))) rfl
theorem se_X9_settle : Cond.selects yX9_settle.cls yX9_settle yX9_settle ∈ gtbl := gtbl_of (List.mem_append_right _ (List.mem_of_getElem? (i := 847) (by decide +kernel))) rfl
theorem cd_X9_dig : Cond.code yX9_dig cX9_dig 3 (some .int) ∈ gtbl := gtbl_of (List.mem_append_right _ (List.mem_of_getElem? (i := 839) (by decide +kernel))) rfl
theorem im_X9_dig : Cond.instanceMethod yX9_dig ∈ gtbl := gtbl_of (List.mem_append_right _ (List.mem_of_getElem? (i := 837) (by decide +kernel))) rfl
theorem se_X9_dig : Cond.selects yX9_dig.cls yX9_dig yX9_dig ∈ gtbl := gtbl_of (List.mem_append_right _ (List.mem_of_getElem? (i := 838) (by decide +kernel))) rfl
theorem cd_X9_pass : Cond.code yX9_pass cX9_pass 5 (some .int) ∈ gtbl := gtbl_of (List.mem_append_right _ (List.mem_of_getElem? (i := 860) (by decide +kernel))) rfl
theorem im_X9_pass : Cond.instanceMethod yX9_pass ∈ gtbl := gtbl_of (List.mem_append_right _ (List.mem_of_getElem? (i := 858) (by decide +kernel))) rfl
theorem se_X9_pass : Cond.selects yX9_pass.cls yX9_pass yX9_pass ∈ gtbl := gtbl_of (List.mem_append_right _ (List.mem_of_getElem? (i := 859) (by decide +kernel))) rfl
theorem cd_X9_left : Cond.code yX9_left cX9_left 7 (some .int) ∈ gtbl := gtbl_of (List.mem_append_right _ (List.mem_of_getElem? (i := 921) (by decide +kernel))) rfl
theorem im_X9_left : Cond.instanceMethod yX9_left ∈ gtbl := gtbl_of (List.mem_append_right _ (List.mem_of_getElem? (i := 919) (by decide +kernel))) rfl
theorem se_X9_left : Cond.selects yX9_left.cls yX9_left yX9_left ∈ gtbl := gtbl_of (List.mem_append_right _ (List.mem_of_getElem? (i := 920) (by decide +kernel))) rfl
theorem cd_X9_isSame : Cond.code yX9_isSame cX9_isSame 6 (some .boolean) ∈ gtbl := gtbl_of (List.mem_append_right _ (List.mem_of_getElem? (i := 898) (by decide +kernel))) rfl
theorem im_X9_isSame : Cond.instanceMethod yX9_isSame ∈ gtbl := gtbl_of (List.mem_append_right _ (List.mem_of_getElem? (i := 896) (by decide +kernel))) rfl
theorem se_X9_isSame : Cond.selects yX9_isSame.cls yX9_isSame yX9_isSame ∈ gtbl := gtbl_of (List.mem_append_right _ (List.mem_of_getElem? (i := 897) (by decide +kernel))) rfl
theorem cd_X10_init : Cond.code yX10_init cX10_init 1 none ∈ gtbl := gtbl_of (List.mem_append_right _ (List.mem_of_getElem? (i := 1529) (by decide +kernel))) rfl
theorem im_X10_init : Cond.instanceMethod yX10_init ∈ gtbl := gtbl_of (List.mem_append_right _ (List.mem_of_getElem? (i := 1528) (by decide +kernel))) rfl
theorem cd_X10_of : Cond.code yX10_of cX10_of 2 (some .int) ∈ gtbl := gtbl_of (List.mem_append_right _ (List.mem_of_getElem? (i := 868) (by decide +kernel))) rfl
theorem im_X10_of : Cond.instanceMethod yX10_of ∈ gtbl := gtbl_of (List.mem_append_right _ (List.mem_of_getElem? (i := 866) (by decide +kernel))) rfl
theorem se_X10_of : Cond.selects yX10_of.cls yX10_of yX10_of ∈ gtbl := gtbl_of (List.mem_append_right _ (List.mem_of_getElem? (i := 867) (by decide +kernel))) rfl
theorem cd_X10_ofTwo : Cond.code yX10_ofTwo cX10_ofTwo 3 (some .int) ∈ gtbl := gtbl_of (List.mem_append_right _ (List.mem_of_getElem? (i := 891) (by decide +kernel))) rfl
theorem im_X10_ofTwo : Cond.instanceMethod yX10_ofTwo ∈ gtbl := gtbl_of (List.mem_append_right _ (List.mem_of_getElem? (i := 889) (by decide +kernel))) rfl
theorem se_X10_ofTwo : Cond.selects yX10_ofTwo.cls yX10_ofTwo yX10_ofTwo ∈ gtbl := gtbl_of (List.mem_append_left _ (List.mem_of_getElem? (i := 26) (by decide +kernel))) rfl
theorem cd_X10_text : Cond.code yX10_text cX10_text 4 (some (Jvm.ClassFile.FieldType.object "java/lang/String")) ∈ gtbl := gtbl_of (List.mem_append_right _ (List.mem_of_getElem? (i := 1558) (by decide +kernel))) rfl
theorem im_X10_text : Cond.instanceMethod yX10_text ∈ gtbl := gtbl_of (List.mem_append_right _ (List.mem_of_getElem? (i := 1556) (by decide +kernel))) rfl
theorem se_X10_text : Cond.selects yX10_text.cls yX10_text yX10_text ∈ gtbl := gtbl_of (List.mem_append_right _ (List.mem_of_getElem? (i := 1557) (by decide +kernel))) rfl
theorem cd_J5_init_d00df : Cond.code yJ5_init_d00df cJ5_init_d00df 2 none ∈ gtbl := gtbl_of (List.mem_append_right _ (List.mem_of_getElem? (i := 1445) (by decide +kernel))) rfl
theorem im_J5_init_d00df : Cond.instanceMethod yJ5_init_d00df ∈ gtbl := gtbl_of (List.mem_append_right _ (List.mem_of_getElem? (i := 1444) (by decide +kernel))) rfl
theorem cd_J5_length_8abf5 : Cond.code yJ5_length_8abf5 cJ5_length_8abf5 1 (some .int) ∈ gtbl := gtbl_of (List.mem_append_right _ (List.mem_of_getElem? (i := 1486) (by decide +kernel))) rfl
theorem im_J5_length_8abf5 : Cond.instanceMethod yJ5_length_8abf5 ∈ gtbl := gtbl_of (List.mem_append_right _ (List.mem_of_getElem? (i := 1480) (by decide +kernel))) rfl
theorem cd_J5_ensureCapacityInternal_d00df : Cond.code yJ5_ensureCapacityInternal_d00df cJ5_ensureCapacityInternal_d00df 3 none ∈ gtbl := gtbl_of (List.mem_append_right _ (List.mem_of_getElem? (i := 1315) (by decide +kernel))) rfl
theorem im_J5_ensureCapacityInternal_d00df : Cond.instanceMethod yJ5_ensureCapacityInternal_d00df ∈ gtbl := gtbl_of (List.mem_append_right _ (List.mem_of_getElem? (i := 1314) (by decide +kernel))) rfl
theorem cd_J5_newCapacity_0f7a4 : Cond.code yJ5_newCapacity_0f7a4 cJ5_newCapacity_0f7a4 6 (some .int) ∈ gtbl := gtbl_of (List.mem_append_right _ (List.mem_of_getElem? (i := 1319) (by decide +kernel))) rfl
theorem im_J5_newCapacity_0f7a4 : Cond.instanceMethod yJ5_newCapacity_0f7a4 ∈ gtbl := gtbl_of (List.mem_append_right _ (List.mem_of_getElem? (i := 1318) (by decide +kernel))) rfl
theorem cd_J5_inflate_da8c8 : Cond.code yJ5_inflate_da8c8 cJ5_inflate_da8c8 2 none ∈ gtbl := gtbl_of (List.mem_append_right _ (List.mem_of_getElem? (i := 1377) (by decide +kernel))) rfl
theorem im_J5_inflate_da8c8 : Cond.instanceMethod yJ5_inflate_da8c8 ∈ gtbl := gtbl_of (List.mem_append_right _ (List.mem_of_getElem? (i := 1376) (by decide +kernel))) rfl
theorem cd_J5_append_cf1ce : Cond.code yJ5_append_cf1ce cJ5_append_cf1ce 3 (some (Jvm.ClassFile.FieldType.object "java/lang/AbstractStringBuilder")) ∈ gtbl := gtbl_of (List.mem_append_right _ (List.mem_of_getElem? (i := 1307) (by decide +kernel))) rfl
theorem im_J5_append_cf1ce : Cond.instanceMethod yJ5_append_cf1ce ∈ gtbl := gtbl_of (List.mem_append_right _ (List.mem_of_getElem? (i := 1306) (by decide +kernel))) rfl
theorem cd_J5_appendNull_278bc : Cond.code yJ5_appendNull_278bc cJ5_appendNull_278bc 3 (some (Jvm.ClassFile.FieldType.object "java/lang/AbstractStringBuilder")) ∈ gtbl := gtbl_of (List.mem_append_right _ (List.mem_of_getElem? (i := 1311) (by decide +kernel))) rfl
theorem im_J5_appendNull_278bc : Cond.instanceMethod yJ5_appendNull_278bc ∈ gtbl := gtbl_of (List.mem_append_right _ (List.mem_of_getElem? (i := 1310) (by decide +kernel))) rfl
theorem cd_J5_append_c97b9 : Cond.code yJ5_append_c97b9 cJ5_append_c97b9 4 (some (Jvm.ClassFile.FieldType.object "java/lang/AbstractStringBuilder")) ∈ gtbl := gtbl_of (List.mem_append_right _ (List.mem_of_getElem? (i := 1412) (by decide +kernel))) rfl
theorem im_J5_append_c97b9 : Cond.instanceMethod yJ5_append_c97b9 ∈ gtbl := gtbl_of (List.mem_append_right _ (List.mem_of_getElem? (i := 1411) (by decide +kernel))) rfl
theorem cd_J5_getValue_6d5f1 : Cond.code yJ5_getValue_6d5f1 cJ5_getValue_6d5f1 1 (some (Jvm.ClassFile.FieldType.array Jvm.ClassFile.FieldType.byte)) ∈ gtbl := gtbl_of (List.mem_append_right _ (List.mem_of_getElem? (i := 1478) (by decide +kernel))) rfl
theorem im_J5_getValue_6d5f1 : Cond.instanceMethod yJ5_getValue_6d5f1 ∈ gtbl := gtbl_of (List.mem_append_right _ (List.mem_of_getElem? (i := 1475) (by decide +kernel))) rfl
theorem cd_J5_isLatin1_aae02 : Cond.code yJ5_isLatin1_aae02 cJ5_isLatin1_aae02 1 (some .boolean) ∈ gtbl := gtbl_of (List.mem_append_right _ (List.mem_of_getElem? (i := 1347) (by decide +kernel))) rfl
theorem im_J5_isLatin1_aae02 : Cond.instanceMethod yJ5_isLatin1_aae02 ∈ gtbl := gtbl_of (List.mem_append_right _ (List.mem_of_getElem? (i := 1344) (by decide +kernel))) rfl
theorem cd_J5_inflateIfNeededFor_a7421 : Cond.code yJ5_inflateIfNeededFor_a7421 cJ5_inflateIfNeededFor_a7421 2 none ∈ gtbl := gtbl_of (List.mem_append_right _ (List.mem_of_getElem? (i := 1372) (by decide +kernel))) rfl
theorem im_J5_inflateIfNeededFor_a7421 : Cond.instanceMethod yJ5_inflateIfNeededFor_a7421 ∈ gtbl := gtbl_of (List.mem_append_right _ (List.mem_of_getElem? (i := 1371) (by decide +kernel))) rfl
theorem cd_J5_putStringAt_47b60 : Cond.code yJ5_putStringAt_47b60 cJ5_putStringAt_47b60 3 none ∈ gtbl := gtbl_of (List.mem_append_right _ (List.mem_of_getElem? (i := 1368) (by decide +kernel))) rfl
theorem im_J5_putStringAt_47b60 : Cond.instanceMethod yJ5_putStringAt_47b60 ∈ gtbl := gtbl_of (List.mem_append_right _ (List.mem_of_getElem? (i := 1367) (by decide +kernel))) rfl
theorem cd_J6_getChars_ba4f3 : Cond.code yJ6_getChars_ba4f3 cJ6_getChars_ba4f3 7 (some .int) ∈ gtbl := gtbl_of (List.mem_append_right _ (List.mem_of_getElem? (i := 1418) (by decide +kernel))) rfl
theorem st_J6_getChars_ba4f3 : Cond.static yJ6_getChars_ba4f3 ∈ gtbl := gtbl_of (List.mem_append_right _ (List.mem_of_getElem? (i := 1417) (by decide +kernel))) rfl
theorem cd_J6_stringSize_0f7a4 : Cond.code yJ6_stringSize_0f7a4 cJ6_stringSize_0f7a4 4 (some .int) ∈ gtbl := gtbl_of (List.mem_append_right _ (List.mem_of_getElem? (i := 1415) (by decide +kernel))) rfl
theorem st_J6_stringSize_0f7a4 : Cond.static yJ6_stringSize_0f7a4 ∈ gtbl := gtbl_of (List.mem_append_right _ (List.mem_of_getElem? (i := 1414) (by decide +kernel))) rfl
theorem cd_J9_floorMod_7cf53 : Cond.code yJ9_floorMod_7cf53 cJ9_floorMod_7cf53 3 (some .int) ∈ gtbl := gtbl_of (List.mem_append_right _ (List.mem_of_getElem? (i := 753) (by decide +kernel))) rfl
theorem st_J9_floorMod_7cf53 : Cond.static yJ9_floorMod_7cf53 ∈ gtbl := gtbl_of (List.mem_append_right _ (List.mem_of_getElem? (i := 752) (by decide +kernel))) rfl
theorem cd_J9_max_7cf53 : Cond.code yJ9_max_7cf53 cJ9_max_7cf53 2 (some .int) ∈ gtbl := gtbl_of (List.mem_append_right _ (List.mem_of_getElem? (i := 611) (by decide +kernel))) rfl
theorem st_J9_max_7cf53 : Cond.static yJ9_max_7cf53 ∈ gtbl := gtbl_of (List.mem_append_right _ (List.mem_of_getElem? (i := 610) (by decide +kernel))) rfl
theorem cd_J9_min_7cf53 : Cond.code yJ9_min_7cf53 cJ9_min_7cf53 2 (some .int) ∈ gtbl := gtbl_of (List.mem_append_right _ (List.mem_of_getElem? (i := 761) (by decide +kernel))) rfl
theorem st_J9_min_7cf53 : Cond.static yJ9_min_7cf53 ∈ gtbl := gtbl_of (List.mem_append_right _ (List.mem_of_getElem? (i := 760) (by decide +kernel))) rfl
theorem cd_J0_init_81219 : Cond.code yJ0_init_81219 cJ0_init_81219 2 none ∈ gtbl := gtbl_of (List.mem_append_right _ (List.mem_of_getElem? (i := 1469) (by decide +kernel))) rfl
theorem im_J0_init_81219 : Cond.instanceMethod yJ0_init_81219 ∈ gtbl := gtbl_of (List.mem_append_right _ (List.mem_of_getElem? (i := 1468) (by decide +kernel))) rfl
theorem cd_J0_length_8abf5 : Cond.code yJ0_length_8abf5 cJ0_length_8abf5 1 (some .int) ∈ gtbl := gtbl_of (List.mem_append_right _ (List.mem_of_getElem? (i := 970) (by decide +kernel))) rfl
theorem im_J0_length_8abf5 : Cond.instanceMethod yJ0_length_8abf5 ∈ gtbl := gtbl_of (List.mem_append_right _ (List.mem_of_getElem? (i := 968) (by decide +kernel))) rfl
theorem se_J0_length_8abf5 : Cond.selects yJ0_length_8abf5.cls yJ0_length_8abf5 yJ0_length_8abf5 ∈ gtbl := gtbl_of (List.mem_append_right _ (List.mem_of_getElem? (i := 969) (by decide +kernel))) rfl
theorem cd_J0_charAt_5068e : Cond.code yJ0_charAt_5068e cJ0_charAt_5068e 2 (some .char) ∈ gtbl := gtbl_of (List.mem_append_right _ (List.mem_of_getElem? (i := 980) (by decide +kernel))) rfl
theorem im_J0_charAt_5068e : Cond.instanceMethod yJ0_charAt_5068e ∈ gtbl := gtbl_of (List.mem_append_right _ (List.mem_of_getElem? (i := 978) (by decide +kernel))) rfl
theorem se_J0_charAt_5068e : Cond.selects yJ0_charAt_5068e.cls yJ0_charAt_5068e yJ0_charAt_5068e ∈ gtbl := gtbl_of (List.mem_append_right _ (List.mem_of_getElem? (i := 979) (by decide +kernel))) rfl
theorem cd_J0_getBytes_840e7 : Cond.code yJ0_getBytes_840e7 cJ0_getBytes_840e7 4 none ∈ gtbl := gtbl_of (List.mem_append_right _ (List.mem_of_getElem? (i := 1403) (by decide +kernel))) rfl
theorem im_J0_getBytes_840e7 : Cond.instanceMethod yJ0_getBytes_840e7 ∈ gtbl := gtbl_of (List.mem_append_right _ (List.mem_of_getElem? (i := 1401) (by decide +kernel))) rfl
theorem se_J0_getBytes_840e7 : Cond.selects yJ0_getBytes_840e7.cls yJ0_getBytes_840e7 yJ0_getBytes_840e7 ∈ gtbl := gtbl_of (List.mem_append_right _ (List.mem_of_getElem? (i := 1402) (by decide +kernel))) rfl
theorem cd_J0_init_db425 : Cond.code yJ0_init_db425 cJ0_init_db425 5 none ∈ gtbl := gtbl_of (List.mem_append_right _ (List.mem_of_getElem? (i := 1472) (by decide +kernel))) rfl
theorem im_J0_init_db425 : Cond.instanceMethod yJ0_init_db425 ∈ gtbl := gtbl_of (List.mem_append_right _ (List.mem_of_getElem? (i := 1471) (by decide +kernel))) rfl
theorem cd_J0_coder_7d493 : Cond.code yJ0_coder_7d493 cJ0_coder_7d493 1 (some .byte) ∈ gtbl := gtbl_of (List.mem_append_right _ (List.mem_of_getElem? (i := 974) (by decide +kernel))) rfl
theorem im_J0_coder_7d493 : Cond.instanceMethod yJ0_coder_7d493 ∈ gtbl := gtbl_of (List.mem_append_right _ (List.mem_of_getElem? (i := 972) (by decide +kernel))) rfl
theorem se_J0_coder_7d493 : Cond.selects yJ0_coder_7d493.cls yJ0_coder_7d493 yJ0_coder_7d493 ∈ gtbl := gtbl_of (List.mem_append_right _ (List.mem_of_getElem? (i := 973) (by decide +kernel))) rfl
theorem cd_J0_isLatin1_aae02 : Cond.code yJ0_isLatin1_aae02 cJ0_isLatin1_aae02 1 (some .boolean) ∈ gtbl := gtbl_of (List.mem_append_right _ (List.mem_of_getElem? (i := 984) (by decide +kernel))) rfl
theorem im_J0_isLatin1_aae02 : Cond.instanceMethod yJ0_isLatin1_aae02 ∈ gtbl := gtbl_of (List.mem_append_right _ (List.mem_of_getElem? (i := 982) (by decide +kernel))) rfl
theorem se_J0_isLatin1_aae02 : Cond.selects yJ0_isLatin1_aae02.cls yJ0_isLatin1_aae02 yJ0_isLatin1_aae02 ∈ gtbl := gtbl_of (List.mem_append_right _ (List.mem_of_getElem? (i := 983) (by decide +kernel))) rfl
theorem cd_J0_checkIndex_df160 : Cond.code yJ0_checkIndex_df160 cJ0_checkIndex_df160 2 none ∈ gtbl := gtbl_of (List.mem_append_right _ (List.mem_of_getElem? (i := 990) (by decide +kernel))) rfl
theorem st_J0_checkIndex_df160 : Cond.static yJ0_checkIndex_df160 ∈ gtbl := gtbl_of (List.mem_append_right _ (List.mem_of_getElem? (i := 989) (by decide +kernel))) rfl
theorem cd_J0_checkBoundsOffCount_cabcc : Cond.code yJ0_checkBoundsOffCount_cabcc cJ0_checkBoundsOffCount_cabcc 3 (some .int) ∈ gtbl := gtbl_of (List.mem_append_right _ (List.mem_of_getElem? (i := 1396) (by decide +kernel))) rfl
theorem st_J0_checkBoundsOffCount_cabcc : Cond.static yJ0_checkBoundsOffCount_cabcc ∈ gtbl := gtbl_of (List.mem_append_right _ (List.mem_of_getElem? (i := 1395) (by decide +kernel))) rfl
theorem cd_J0_checkBoundsBeginEnd_23922 : Cond.code yJ0_checkBoundsBeginEnd_23922 cJ0_checkBoundsBeginEnd_23922 3 none ∈ gtbl := gtbl_of (List.mem_append_right _ (List.mem_of_getElem? (i := 1357) (by decide +kernel))) rfl
theorem st_J0_checkBoundsBeginEnd_23922 : Cond.static yJ0_checkBoundsBeginEnd_23922 ∈ gtbl := gtbl_of (List.mem_append_right _ (List.mem_of_getElem? (i := 1356) (by decide +kernel))) rfl
theorem cd_J4_init_da8c8 : Cond.code yJ4_init_da8c8 cJ4_init_da8c8 1 none ∈ gtbl := gtbl_of (List.mem_append_right _ (List.mem_of_getElem? (i := 1442) (by decide +kernel))) rfl
theorem im_J4_init_da8c8 : Cond.instanceMethod yJ4_init_da8c8 ∈ gtbl := gtbl_of (List.mem_append_right _ (List.mem_of_getElem? (i := 1441) (by decide +kernel))) rfl
theorem cd_J4_append_15ec4 : Cond.code yJ4_append_15ec4 cJ4_append_15ec4 2 (some (Jvm.ClassFile.FieldType.object "java/lang/StringBuilder")) ∈ gtbl := gtbl_of (List.mem_append_right _ (List.mem_of_getElem? (i := 1303) (by decide +kernel))) rfl
theorem im_J4_append_15ec4 : Cond.instanceMethod yJ4_append_15ec4 ∈ gtbl := gtbl_of (List.mem_append_right _ (List.mem_of_getElem? (i := 1301) (by decide +kernel))) rfl
theorem se_J4_append_15ec4 : Cond.selects yJ4_append_15ec4.cls yJ4_append_15ec4 yJ4_append_15ec4 ∈ gtbl := gtbl_of (List.mem_append_right _ (List.mem_of_getElem? (i := 1302) (by decide +kernel))) rfl
theorem cd_J4_append_bf812 : Cond.code yJ4_append_bf812 cJ4_append_bf812 2 (some (Jvm.ClassFile.FieldType.object "java/lang/StringBuilder")) ∈ gtbl := gtbl_of (List.mem_append_right _ (List.mem_of_getElem? (i := 1409) (by decide +kernel))) rfl
theorem im_J4_append_bf812 : Cond.instanceMethod yJ4_append_bf812 ∈ gtbl := gtbl_of (List.mem_append_right _ (List.mem_of_getElem? (i := 1407) (by decide +kernel))) rfl
theorem se_J4_append_bf812 : Cond.selects yJ4_append_bf812.cls yJ4_append_bf812 yJ4_append_bf812 ∈ gtbl := gtbl_of (List.mem_append_right _ (List.mem_of_getElem? (i := 1408) (by decide +kernel))) rfl
theorem cd_J4_toString_0e30d : Cond.code yJ4_toString_0e30d cJ4_toString_0e30d 1 (some (Jvm.ClassFile.FieldType.object "java/lang/String")) ∈ gtbl := gtbl_of (List.mem_append_right _ (List.mem_of_getElem? (i := 1464) (by decide +kernel))) rfl
theorem im_J4_toString_0e30d : Cond.instanceMethod yJ4_toString_0e30d ∈ gtbl := gtbl_of (List.mem_append_right _ (List.mem_of_getElem? (i := 1462) (by decide +kernel))) rfl
theorem se_J4_toString_0e30d : Cond.selects yJ4_toString_0e30d.cls yJ4_toString_0e30d yJ4_toString_0e30d ∈ gtbl := gtbl_of (List.mem_append_right _ (List.mem_of_getElem? (i := 1463) (by decide +kernel))) rfl
theorem cd_J4_length_8abf5 : Cond.code yJ4_length_8abf5 cJ4_length_8abf5 1 (some .int) ∈ gtbl := gtbl_of (List.mem_append_right _ (List.mem_of_getElem? (i := 1484) (by decide +kernel))) rfl
theorem im_J4_length_8abf5 : Cond.instanceMethod yJ4_length_8abf5 ∈ gtbl := gtbl_of (List.mem_append_right _ (List.mem_of_getElem? (i := 1483) (by decide +kernel))) rfl
theorem cd_J1_charAt_3b067 : Cond.code yJ1_charAt_3b067 cJ1_charAt_3b067 2 (some .char) ∈ gtbl := gtbl_of (List.mem_append_right _ (List.mem_of_getElem? (i := 987) (by decide +kernel))) rfl
theorem st_J1_charAt_3b067 : Cond.static yJ1_charAt_3b067 ∈ gtbl := gtbl_of (List.mem_append_right _ (List.mem_of_getElem? (i := 986) (by decide +kernel))) rfl
theorem cd_J1_inflate_0e8fd : Cond.code yJ1_inflate_0e8fd cJ1_inflate_0e8fd 5 none ∈ gtbl := gtbl_of (List.mem_append_right _ (List.mem_of_getElem? (i := 1387) (by decide +kernel))) rfl
theorem st_J1_inflate_0e8fd : Cond.static yJ1_inflate_0e8fd ∈ gtbl := gtbl_of (List.mem_append_right _ (List.mem_of_getElem? (i := 1386) (by decide +kernel))) rfl
theorem cd_J2_newBytesFor_77867 : Cond.code yJ2_newBytesFor_77867 cJ2_newBytesFor_77867 1 (some (Jvm.ClassFile.FieldType.array Jvm.ClassFile.FieldType.byte)) ∈ gtbl := gtbl_of (List.mem_append_right _ (List.mem_of_getElem? (i := 1380) (by decide +kernel))) rfl
theorem st_J2_newBytesFor_77867 : Cond.static yJ2_newBytesFor_77867 ∈ gtbl := gtbl_of (List.mem_append_right _ (List.mem_of_getElem? (i := 1379) (by decide +kernel))) rfl
theorem cd_J2_newBytesLength_0f7a4 : Cond.code yJ2_newBytesLength_0f7a4 cJ2_newBytesLength_0f7a4 1 (some .int) ∈ gtbl := gtbl_of (List.mem_append_right _ (List.mem_of_getElem? (i := 1383) (by decide +kernel))) rfl
theorem st_J2_newBytesLength_0f7a4 : Cond.static yJ2_newBytesLength_0f7a4 ∈ gtbl := gtbl_of (List.mem_append_right _ (List.mem_of_getElem? (i := 1382) (by decide +kernel))) rfl
theorem cd_J2_putChar_b72d1 : Cond.code yJ2_putChar_b72d1 cJ2_putChar_b72d1 3 none ∈ gtbl := gtbl_of (List.mem_append_right _ (List.mem_of_getElem? (i := 1363) (by decide +kernel))) rfl
theorem st_J2_putChar_b72d1 : Cond.static yJ2_putChar_b72d1 ∈ gtbl := gtbl_of (List.mem_append_right _ (List.mem_of_getElem? (i := 1362) (by decide +kernel))) rfl
theorem cd_J2_getChar_3b067 : Cond.code yJ2_getChar_3b067 cJ2_getChar_3b067 2 (some .char) ∈ gtbl := gtbl_of (List.mem_append_right _ (List.mem_of_getElem? (i := 1008) (by decide +kernel))) rfl
theorem st_J2_getChar_3b067 : Cond.static yJ2_getChar_3b067 ∈ gtbl := gtbl_of (List.mem_append_right _ (List.mem_of_getElem? (i := 1007) (by decide +kernel))) rfl
theorem cd_J2_length_9d52b : Cond.code yJ2_length_9d52b cJ2_length_9d52b 1 (some .int) ∈ gtbl := gtbl_of (List.mem_append_right _ (List.mem_of_getElem? (i := 1004) (by decide +kernel))) rfl
theorem st_J2_length_9d52b : Cond.static yJ2_length_9d52b ∈ gtbl := gtbl_of (List.mem_append_right _ (List.mem_of_getElem? (i := 1003) (by decide +kernel))) rfl
theorem cd_J2_coderFromArrayLen_85cad : Cond.code yJ2_coderFromArrayLen_85cad cJ2_coderFromArrayLen_85cad 2 (some .byte) ∈ gtbl := gtbl_of (List.mem_append_right _ (List.mem_of_getElem? (i := 1506) (by decide +kernel))) rfl
theorem st_J2_coderFromArrayLen_85cad : Cond.static yJ2_coderFromArrayLen_85cad ∈ gtbl := gtbl_of (List.mem_append_right _ (List.mem_of_getElem? (i := 1505) (by decide +kernel))) rfl
theorem cd_J2_compress_39247 : Cond.code yJ2_compress_39247 cJ2_compress_39247 6 (some (Jvm.ClassFile.FieldType.array Jvm.ClassFile.FieldType.byte)) ∈ gtbl := gtbl_of (List.mem_append_right _ (List.mem_of_getElem? (i := 1499) (by decide +kernel))) rfl
theorem st_J2_compress_39247 : Cond.static yJ2_compress_39247 ∈ gtbl := gtbl_of (List.mem_append_right _ (List.mem_of_getElem? (i := 1498) (by decide +kernel))) rfl
theorem cd_J2_compress_5af95 : Cond.code yJ2_compress_5af95 cJ2_compress_5af95 7 (some .int) ∈ gtbl := gtbl_of (List.mem_append_right _ (List.mem_of_getElem? (i := 1502) (by decide +kernel))) rfl
theorem st_J2_compress_5af95 : Cond.static yJ2_compress_5af95 ∈ gtbl := gtbl_of (List.mem_append_right _ (List.mem_of_getElem? (i := 1501) (by decide +kernel))) rfl
theorem cd_J2_getChars_46870 : Cond.code yJ2_getChars_46870 cJ2_getChars_46870 5 (some .int) ∈ gtbl := gtbl_of (List.mem_append_right _ (List.mem_of_getElem? (i := 1425) (by decide +kernel))) rfl
theorem st_J2_getChars_46870 : Cond.static yJ2_getChars_46870 ∈ gtbl := gtbl_of (List.mem_append_right _ (List.mem_of_getElem? (i := 1424) (by decide +kernel))) rfl
theorem cd_J2_putCharsAt_cd4e5 : Cond.code yJ2_putCharsAt_cd4e5 cJ2_putCharsAt_cd4e5 7 (some .int) ∈ gtbl := gtbl_of (List.mem_append_right _ (List.mem_of_getElem? (i := 1351) (by decide +kernel))) rfl
theorem st_J2_putCharsAt_cd4e5 : Cond.static yJ2_putCharsAt_cd4e5 ∈ gtbl := gtbl_of (List.mem_append_right _ (List.mem_of_getElem? (i := 1350) (by decide +kernel))) rfl
theorem cd_J2_charAt_3b067 : Cond.code yJ2_charAt_3b067 cJ2_charAt_3b067 2 (some .char) ∈ gtbl := gtbl_of (List.mem_append_right _ (List.mem_of_getElem? (i := 998) (by decide +kernel))) rfl
theorem st_J2_charAt_3b067 : Cond.static yJ2_charAt_3b067 ∈ gtbl := gtbl_of (List.mem_append_right _ (List.mem_of_getElem? (i := 997) (by decide +kernel))) rfl
theorem cd_J2_inflate_0e8fd : Cond.code yJ2_inflate_0e8fd cJ2_inflate_0e8fd 6 none ∈ gtbl := gtbl_of (List.mem_append_right _ (List.mem_of_getElem? (i := 1390) (by decide +kernel))) rfl
theorem st_J2_inflate_0e8fd : Cond.static yJ2_inflate_0e8fd ∈ gtbl := gtbl_of (List.mem_append_right _ (List.mem_of_getElem? (i := 1389) (by decide +kernel))) rfl
theorem cd_J2_getChars_ba4f3 : Cond.code yJ2_getChars_ba4f3 cJ2_getChars_ba4f3 7 (some .int) ∈ gtbl := gtbl_of (List.mem_append_right _ (List.mem_of_getElem? (i := 1428) (by decide +kernel))) rfl
theorem st_J2_getChars_ba4f3 : Cond.static yJ2_getChars_ba4f3 ∈ gtbl := gtbl_of (List.mem_append_right _ (List.mem_of_getElem? (i := 1427) (by decide +kernel))) rfl
theorem cd_J2_checkIndex_2214a : Cond.code yJ2_checkIndex_2214a cJ2_checkIndex_2214a 2 none ∈ gtbl := gtbl_of (List.mem_append_right _ (List.mem_of_getElem? (i := 1001) (by decide +kernel))) rfl
theorem st_J2_checkIndex_2214a : Cond.static yJ2_checkIndex_2214a ∈ gtbl := gtbl_of (List.mem_append_right _ (List.mem_of_getElem? (i := 1000) (by decide +kernel))) rfl
theorem cd_J2_checkBoundsBeginEnd_d044e : Cond.code yJ2_checkBoundsBeginEnd_d044e cJ2_checkBoundsBeginEnd_d044e 3 none ∈ gtbl := gtbl_of (List.mem_append_right _ (List.mem_of_getElem? (i := 1354) (by decide +kernel))) rfl
theorem st_J2_checkBoundsBeginEnd_d044e : Cond.static yJ2_checkBoundsBeginEnd_d044e ∈ gtbl := gtbl_of (List.mem_append_right _ (List.mem_of_getElem? (i := 1353) (by decide +kernel))) rfl
theorem cd_J2_checkBoundsOffCount_d044e : Cond.code yJ2_checkBoundsOffCount_d044e cJ2_checkBoundsOffCount_d044e 3 none ∈ gtbl := gtbl_of (List.mem_append_right _ (List.mem_of_getElem? (i := 1393) (by decide +kernel))) rfl
theorem st_J2_checkBoundsOffCount_d044e : Cond.static yJ2_checkBoundsOffCount_d044e ∈ gtbl := gtbl_of (List.mem_append_right _ (List.mem_of_getElem? (i := 1392) (by decide +kernel))) rfl
theorem cd_J7_fill_53178 : Cond.code yJ7_fill_53178 cJ7_fill_53178 4 none ∈ gtbl := gtbl_of (List.mem_append_right _ (List.mem_of_getElem? (i := 101) (by decide +kernel))) rfl
theorem st_J7_fill_53178 : Cond.static yJ7_fill_53178 ∈ gtbl := gtbl_of (List.mem_append_right _ (List.mem_of_getElem? (i := 100) (by decide +kernel))) rfl
theorem cd_J7_copyOf_9075b : Cond.code yJ7_copyOf_9075b cJ7_copyOf_9075b 3 (some (Jvm.ClassFile.FieldType.array Jvm.ClassFile.FieldType.byte)) ∈ gtbl := gtbl_of (List.mem_append_right _ (List.mem_of_getElem? (i := 1331) (by decide +kernel))) rfl
theorem st_J7_copyOf_9075b : Cond.static yJ7_copyOf_9075b ∈ gtbl := gtbl_of (List.mem_append_right _ (List.mem_of_getElem? (i := 1330) (by decide +kernel))) rfl
theorem cd_J7_checkLength_df160 : Cond.code yJ7_checkLength_df160 cJ7_checkLength_df160 2 none ∈ gtbl := gtbl_of (List.mem_append_right _ (List.mem_of_getElem? (i := 1496) (by decide +kernel))) rfl
theorem st_J7_checkLength_df160 : Cond.static yJ7_checkLength_df160 ∈ gtbl := gtbl_of (List.mem_append_right _ (List.mem_of_getElem? (i := 1495) (by decide +kernel))) rfl
theorem cd_J7_copyOfRange_39247 : Cond.code yJ7_copyOfRange_39247 cJ7_copyOfRange_39247 3 (some (Jvm.ClassFile.FieldType.array Jvm.ClassFile.FieldType.byte)) ∈ gtbl := gtbl_of (List.mem_append_right _ (List.mem_of_getElem? (i := 1490) (by decide +kernel))) rfl
theorem st_J7_copyOfRange_39247 : Cond.static yJ7_copyOfRange_39247 ∈ gtbl := gtbl_of (List.mem_append_right _ (List.mem_of_getElem? (i := 1489) (by decide +kernel))) rfl
theorem cd_J7_copyOfRangeByte_39247 : Cond.code yJ7_copyOfRangeByte_39247 cJ7_copyOfRangeByte_39247 5 (some (Jvm.ClassFile.FieldType.array Jvm.ClassFile.FieldType.byte)) ∈ gtbl := gtbl_of (List.mem_append_right _ (List.mem_of_getElem? (i := 1493) (by decide +kernel))) rfl
theorem st_J7_copyOfRangeByte_39247 : Cond.static yJ7_copyOfRangeByte_39247 ∈ gtbl := gtbl_of (List.mem_append_right _ (List.mem_of_getElem? (i := 1492) (by decide +kernel))) rfl
theorem cd_J8_newLength_cabcc : Cond.code yJ8_newLength_cabcc cJ8_newLength_cabcc 4 (some .int) ∈ gtbl := gtbl_of (List.mem_append_right _ (List.mem_of_getElem? (i := 1322) (by decide +kernel))) rfl
theorem st_J8_newLength_cabcc : Cond.static yJ8_newLength_cabcc ∈ gtbl := gtbl_of (List.mem_append_right _ (List.mem_of_getElem? (i := 1321) (by decide +kernel))) rfl
theorem cd_J8_hugeLength_7cf53 : Cond.code yJ8_hugeLength_7cf53 cJ8_hugeLength_7cf53 3 (some .int) ∈ gtbl := gtbl_of (List.mem_append_right _ (List.mem_of_getElem? (i := 1327) (by decide +kernel))) rfl
theorem st_J8_hugeLength_7cf53 : Cond.static yJ8_hugeLength_7cf53 ∈ gtbl := gtbl_of (List.mem_append_right _ (List.mem_of_getElem? (i := 1326) (by decide +kernel))) rfl
theorem cd_J3_checkIndex_8e157 : Cond.code yJ3_checkIndex_8e157 cJ3_checkIndex_8e157 3 (some .int) ∈ gtbl := gtbl_of (List.mem_append_right _ (List.mem_of_getElem? (i := 995) (by decide +kernel))) rfl
theorem st_J3_checkIndex_8e157 : Cond.static yJ3_checkIndex_8e157 ∈ gtbl := gtbl_of (List.mem_append_right _ (List.mem_of_getElem? (i := 994) (by decide +kernel))) rfl
theorem cd_J3_checkFromToIndex_8c36e : Cond.code yJ3_checkFromToIndex_8c36e cJ3_checkFromToIndex_8c36e 4 (some .int) ∈ gtbl := gtbl_of (List.mem_append_right _ (List.mem_of_getElem? (i := 1360) (by decide +kernel))) rfl
theorem st_J3_checkFromToIndex_8c36e : Cond.static yJ3_checkFromToIndex_8c36e ∈ gtbl := gtbl_of (List.mem_append_right _ (List.mem_of_getElem? (i := 1359) (by decide +kernel))) rfl
theorem cd_J3_checkFromIndexSize_8c36e : Cond.code yJ3_checkFromIndexSize_8c36e cJ3_checkFromIndexSize_8c36e 4 (some .int) ∈ gtbl := gtbl_of (List.mem_append_right _ (List.mem_of_getElem? (i := 1399) (by decide +kernel))) rfl
theorem st_J3_checkFromIndexSize_8c36e : Cond.static yJ3_checkFromIndexSize_8c36e ∈ gtbl := gtbl_of (List.mem_append_right _ (List.mem_of_getElem? (i := 1398) (by decide +kernel))) rfl
theorem cd_L_below : Cond.code yL_below cL_below 2 (some .int) ∈ gtbl := gtbl_of (List.mem_append_right _ (List.mem_of_getElem? (i := 958) (by decide +kernel))) rfl
theorem st_L_below : Cond.static yL_below ∈ gtbl := gtbl_of (List.mem_append_right _ (List.mem_of_getElem? (i := 957) (by decide +kernel))) rfl
theorem cd_L_cell : Cond.code yL_cell cL_cell 2 (some .int) ∈ gtbl := gtbl_of (List.mem_append_right _ (List.mem_of_getElem? (i := 962) (by decide +kernel))) rfl
theorem st_L_cell : Cond.static yL_cell ∈ gtbl := gtbl_of (List.mem_append_right _ (List.mem_of_getElem? (i := 961) (by decide +kernel))) rfl
theorem cd_L_taught : Cond.code yL_taught cL_taught 6 (some .int) ∈ gtbl := gtbl_of (List.mem_append_right _ (List.mem_of_getElem? (i := 966) (by decide +kernel))) rfl
theorem st_L_taught : Cond.static yL_taught ∈ gtbl := gtbl_of (List.mem_append_right _ (List.mem_of_getElem? (i := 965) (by decide +kernel))) rfl
theorem cd_L_sum : Cond.code yL_sum cL_sum 5 (some (Jvm.ClassFile.FieldType.object "SofaDigLaw$Tree")) ∈ gtbl := gtbl_of (List.mem_append_right _ (List.mem_of_getElem? (i := 1526) (by decide +kernel))) rfl
theorem st_L_sum : Cond.static yL_sum ∈ gtbl := gtbl_of (List.mem_append_right _ (List.mem_of_getElem? (i := 1525) (by decide +kernel))) rfl
theorem cd_L_test : Cond.code yL_test cL_test 5 (some (Jvm.ClassFile.FieldType.object "SofaDigLaw$Tree")) ∈ gtbl := gtbl_of (List.mem_append_right _ (List.mem_of_getElem? (i := 1551) (by decide +kernel))) rfl
theorem st_L_test : Cond.static yL_test ∈ gtbl := gtbl_of (List.mem_append_right _ (List.mem_of_getElem? (i := 1550) (by decide +kernel))) rfl
theorem cd_L_told : Cond.code yL_told cL_told 13 (some (Jvm.ClassFile.FieldType.object "SofaDigLaw$Sim")) ∈ gtbl := gtbl_of (List.mem_append_right _ (List.mem_of_getElem? (i := 1237) (by decide +kernel))) rfl
theorem st_L_told : Cond.static yL_told ∈ gtbl := gtbl_of (List.mem_append_right _ (List.mem_of_getElem? (i := 1236) (by decide +kernel))) rfl
theorem cd_L_act : Cond.code yL_act cL_act 7 (some .boolean) ∈ gtbl := gtbl_of (List.mem_append_right _ (List.mem_of_getElem? (i := 1602) (by decide +kernel))) rfl
theorem st_L_act : Cond.static yL_act ∈ gtbl := gtbl_of (List.mem_append_right _ (List.mem_of_getElem? (i := 1601) (by decide +kernel))) rfl
theorem ini_X0 : Cond.initialized RX0 ∈ gtbl := gtbl_of (List.mem_append_right _ (List.mem_of_getElem? (i := 28) (by decide +kernel))) rfl
theorem ini_X1 : Cond.initialized RX1 ∈ gtbl := gtbl_of (List.mem_append_right _ (List.mem_of_getElem? (i := 4) (by decide +kernel))) rfl
theorem ini_X2 : Cond.initialized RX2 ∈ gtbl := gtbl_of (List.mem_append_right _ (List.mem_of_getElem? (i := 8) (by decide +kernel))) rfl
theorem ini_X3 : Cond.initialized RX3 ∈ gtbl := gtbl_of (List.mem_append_right _ (List.mem_of_getElem? (i := 6) (by decide +kernel))) rfl
theorem ini_X4 : Cond.initialized RX4 ∈ gtbl := gtbl_of (List.mem_append_right _ (List.mem_of_getElem? (i := 9) (by decide +kernel))) rfl
theorem ini_X5 : Cond.initialized RX5 ∈ gtbl := gtbl_of (List.mem_append_right _ (List.mem_of_getElem? (i := 2) (by decide +kernel))) rfl
theorem ini_X6 : Cond.initialized RX6 ∈ gtbl := gtbl_of (List.mem_append_right _ (List.mem_of_getElem? (i := 7) (by decide +kernel))) rfl
theorem ini_X7 : Cond.initialized RX7 ∈ gtbl := gtbl_of (List.mem_append_right _ (List.mem_of_getElem? (i := 3) (by decide +kernel))) rfl
theorem ini_X8 : Cond.initialized RX8 ∈ gtbl := gtbl_of (List.mem_append_right _ (List.mem_of_getElem? (i := 1) (by decide +kernel))) rfl
theorem ini_X9 : Cond.initialized RX9 ∈ gtbl := gtbl_of (List.mem_append_right _ (List.mem_of_getElem? (i := 14) (by decide +kernel))) rfl
theorem ini_X10 : Cond.initialized RX10 ∈ gtbl := gtbl_of (List.mem_append_right _ (List.mem_of_getElem? (i := 22) (by decide +kernel))) rfl
theorem ini_J5 : Cond.initialized RJ5 ∈ gtbl := gtbl_of (List.mem_append_right _ (List.mem_of_getElem? (i := 10) (by decide +kernel))) rfl
theorem ini_J6 : Cond.initialized RJ6 ∈ gtbl := gtbl_of (List.mem_append_right _ (List.mem_of_getElem? (i := 21) (by decide +kernel))) rfl
theorem ini_J9 : Cond.initialized RJ9 ∈ gtbl := gtbl_of (List.mem_append_right _ (List.mem_of_getElem? (i := 16) (by decide +kernel))) rfl
theorem ini_J0 : Cond.initialized RJ0 ∈ gtbl := gtbl_of (List.mem_append_right _ (List.mem_of_getElem? (i := 12) (by decide +kernel))) rfl
theorem ini_J4 : Cond.initialized RJ4 ∈ gtbl := gtbl_of (List.mem_append_right _ (List.mem_of_getElem? (i := 11) (by decide +kernel))) rfl
theorem ini_J1 : Cond.initialized RJ1 ∈ gtbl := gtbl_of (List.mem_append_right _ (List.mem_of_getElem? (i := 19) (by decide +kernel))) rfl
theorem ini_J2 : Cond.initialized RJ2 ∈ gtbl := gtbl_of (List.mem_append_right _ (List.mem_of_getElem? (i := 13) (by decide +kernel))) rfl
theorem ini_J10 : Cond.initialized RJ10 ∈ gtbl := gtbl_of (List.mem_append_right _ (List.mem_of_getElem? (i := 17) (by decide +kernel))) rfl
theorem ini_J7 : Cond.initialized RJ7 ∈ gtbl := gtbl_of (List.mem_append_right _ (List.mem_of_getElem? (i := 5) (by decide +kernel))) rfl
theorem ini_J8 : Cond.initialized RJ8 ∈ gtbl := gtbl_of (List.mem_append_right _ (List.mem_of_getElem? (i := 15) (by decide +kernel))) rfl
theorem ini_J3 : Cond.initialized RJ3 ∈ gtbl := gtbl_of (List.mem_append_right _ (List.mem_of_getElem? (i := 18) (by decide +kernel))) rfl
theorem ini_L : Cond.initialized RL ∈ gtbl := gtbl_of (List.mem_append_right _ (List.mem_of_getElem? (i := 0) (by decide +kernel))) rfl
theorem cf_L_180 : CallF RL 180 yX8_init cX8_init 3 none 0 := ⟨cd_X8_init, gtbl_of (List.mem_append_right _ (List.mem_of_getElem? (i := 32) (by decide +kernel))) rfl, ini_X8, by decide +kernel⟩
theorem cf_X8_12 : CallF RX8 12 yX7_init cX7_init 1 none 0 := ⟨cd_X7_init, gtbl_of (List.mem_append_right _ (List.mem_of_getElem? (i := 55) (by decide +kernel))) rfl, ini_X7, by decide +kernel⟩
theorem cf_X7_45 : CallF RX7 45 yX7_clear cX7_clear 2 none 0 := ⟨cd_X7_clear, gtbl_of (List.mem_append_right _ (List.mem_of_getElem? (i := 91) (by decide +kernel))) rfl, ini_X7, by decide +kernel⟩
theorem cf_X7_48 : CallF RX7 48 yX7_resize cX7_resize 3 none 2 := ⟨cd_X7_resize, gtbl_of (List.mem_append_right _ (List.mem_of_getElem? (i := 95) (by decide +kernel))) rfl, ini_X7, by decide +kernel⟩
theorem cf_X7_59 : CallF RX7 59 yJ7_fill_53178 cJ7_fill_53178 4 none 2 := ⟨cd_J7_fill_53178, gtbl_of (List.mem_append_right _ (List.mem_of_getElem? (i := 99) (by decide +kernel))) rfl, ini_J7, by decide +kernel⟩
theorem cf_X7_65 : CallF RX7 65 yX1_clear cX1_clear 1 none 0 := ⟨cd_X1_clear, gtbl_of (List.mem_append_right _ (List.mem_of_getElem? (i := 102) (by decide +kernel))) rfl, ini_X1, by decide +kernel⟩
theorem cf_X8_21 : CallF RX8 21 yX3_init cX3_init 2 none 1 := ⟨cd_X3_init, gtbl_of (List.mem_append_right _ (List.mem_of_getElem? (i := 164) (by decide +kernel))) rfl, ini_X3, by decide +kernel⟩
theorem cf_X3_11 : CallF RX3 11 yX6_init cX6_init 2 none 1 := ⟨cd_X6_init, gtbl_of (List.mem_append_right _ (List.mem_of_getElem? (i := 170) (by decide +kernel))) rfl, ini_X6, by decide +kernel⟩
theorem cf_X3_22 : CallF RX3 22 yX7_init cX7_init 1 none 0 := ⟨cd_X7_init, gtbl_of (List.mem_append_right _ (List.mem_of_getElem? (i := 202) (by decide +kernel))) rfl, ini_X7, by decide +kernel⟩
theorem cf_X8_37 : CallF RX8 37 yX4_init cX4_init 2 none 1 := ⟨cd_X4_init, gtbl_of (List.mem_append_right _ (List.mem_of_getElem? (i := 237) (by decide +kernel))) rfl, ini_X4, by decide +kernel⟩
theorem cf_X4_35 : CallF RX4 35 yX4_begin cX4_begin 3 none 1 := ⟨cd_X4_begin, gtbl_of (List.mem_append_right _ (List.mem_of_getElem? (i := 241) (by decide +kernel))) rfl, ini_X4, by decide +kernel⟩
theorem cf_L_189 : CallF RL 189 yX8_seats cX8_seats 1 (some .int) 0 := ⟨cd_X8_seats, gtbl_of (List.mem_append_right _ (List.mem_of_getElem? (i := 323) (by decide +kernel))) rfl, ini_X8, by decide +kernel⟩
theorem cf_L_192 : CallF RL 192 yX8_strata cX8_strata 1 (some .int) 0 := ⟨cd_X8_strata, gtbl_of (List.mem_append_right _ (List.mem_of_getElem? (i := 327) (by decide +kernel))) rfl, ini_X8, by decide +kernel⟩
theorem cf_L_232 : CallF RL 232 yX8_finds cX8_finds 1 (some .int) 0 := ⟨cd_X8_finds, gtbl_of (List.mem_append_right _ (List.mem_of_getElem? (i := 331) (by decide +kernel))) rfl, ini_X8, by decide +kernel⟩
theorem cf_L_226 : CallF RL 226 yX8_cushionsDug cX8_cushionsDug 1 (some .int) 0 := ⟨cd_X8_cushionsDug, gtbl_of (List.mem_append_right _ (List.mem_of_getElem? (i := 335) (by decide +kernel))) rfl, ini_X8, by decide +kernel⟩
theorem cf_L_278 : CallF RL 278 yX8_slides cX8_slides 1 (some .int) 0 := ⟨cd_X8_slides, gtbl_of (List.mem_append_right _ (List.mem_of_getElem? (i := 339) (by decide +kernel))) rfl, ini_X8, by decide +kernel⟩
theorem cf_L_229 : CallF RL 229 yX8_found cX8_found 1 (some .int) 0 := ⟨cd_X8_found, gtbl_of (List.mem_append_right _ (List.mem_of_getElem? (i := 343) (by decide +kernel))) rfl, ini_X8, by decide +kernel⟩
theorem cf_L_235 : CallF RL 235 yX8_sureFinds cX8_sureFinds 1 (some .int) 0 := ⟨cd_X8_sureFinds, gtbl_of (List.mem_append_right _ (List.mem_of_getElem? (i := 347) (by decide +kernel))) rfl, ini_X8, by decide +kernel⟩
theorem cf_L_234 : CallF RL 234 yX8_props cX8_props 1 (some .int) 0 := ⟨cd_X8_props, gtbl_of (List.mem_append_right _ (List.mem_of_getElem? (i := 351) (by decide +kernel))) rfl, ini_X8, by decide +kernel⟩
theorem cf_L_203 : CallF RL 203 yX8_heightOf cX8_heightOf 2 (some .int) 1 := ⟨cd_X8_heightOf, gtbl_of (List.mem_append_right _ (List.mem_of_getElem? (i := 355) (by decide +kernel))) rfl, ini_X8, by decide +kernel⟩
theorem cf_X8_117 : CallF RX8 117 yX8_needSeat cX8_needSeat 2 none 1 := ⟨cd_X8_needSeat, gtbl_of (List.mem_append_right _ (List.mem_of_getElem? (i := 359) (by decide +kernel))) rfl, ini_X8, by decide +kernel⟩
theorem cf_X8_120 : CallF RX8 120 yX4_heightAt cX4_heightAt 2 (some .int) 1 := ⟨cd_X4_heightAt, gtbl_of (List.mem_append_right _ (List.mem_of_getElem? (i := 430) (by decide +kernel))) rfl, ini_X4, by decide +kernel⟩
theorem cf_L_209 : CallF RL 209 yX8_isPropped cX8_isPropped 2 (some .boolean) 1 := ⟨cd_X8_isPropped, gtbl_of (List.mem_append_right _ (List.mem_of_getElem? (i := 434) (by decide +kernel))) rfl, ini_X8, by decide +kernel⟩
theorem cf_X8_124 : CallF RX8 124 yX4_hasProp cX4_hasProp 2 (some .boolean) 1 := ⟨cd_X4_hasProp, gtbl_of (List.mem_append_right _ (List.mem_of_getElem? (i := 438) (by decide +kernel))) rfl, ini_X4, by decide +kernel⟩
theorem cf_L_212 : CallF RL 212 yX8_topStratum cX8_topStratum 2 (some .int) 1 := ⟨cd_X8_topStratum, gtbl_of (List.mem_append_right _ (List.mem_of_getElem? (i := 442) (by decide +kernel))) rfl, ini_X8, by decide +kernel⟩
theorem cf_X8_128 : CallF RX8 128 yX8_needCushion cX8_needCushion 2 none 1 := ⟨cd_X8_needCushion, gtbl_of (List.mem_append_right _ (List.mem_of_getElem? (i := 446) (by decide +kernel))) rfl, ini_X8, by decide +kernel⟩
theorem cf_X8_131 : CallF RX8 131 yX4_topOf cX4_topOf 2 (some .int) 1 := ⟨cd_X4_topOf, gtbl_of (List.mem_append_right _ (List.mem_of_getElem? (i := 466) (by decide +kernel))) rfl, ini_X4, by decide +kernel⟩
theorem cf_X4_69 : CallF RX4 69 yX4_heightAt cX4_heightAt 2 (some .int) 1 := ⟨cd_X4_heightAt, gtbl_of (List.mem_append_right _ (List.mem_of_getElem? (i := 470) (by decide +kernel))) rfl, ini_X4, by decide +kernel⟩
theorem cf_X4_73 : CallF RX4 73 yX4_cushionAt cX4_cushionAt 3 (some .int) 2 := ⟨cd_X4_cushionAt, gtbl_of (List.mem_append_right _ (List.mem_of_getElem? (i := 471) (by decide +kernel))) rfl, ini_X4, by decide +kernel⟩
theorem cf_X8_134 : CallF RX8 134 yX7_stratumOfCushion cX7_stratumOfCushion 2 (some .int) 1 := ⟨cd_X7_stratumOfCushion, gtbl_of (List.mem_append_right _ (List.mem_of_getElem? (i := 475) (by decide +kernel))) rfl, ini_X7, by decide +kernel⟩
theorem cf_X7_72 : CallF RX7 72 yX7_isCushion cX7_isCushion 1 (some .boolean) 1 := ⟨cd_X7_isCushion, gtbl_of (List.mem_append_right _ (List.mem_of_getElem? (i := 479) (by decide +kernel))) rfl, ini_X7, by decide +kernel⟩
theorem cf_L_281 : CallF RL 281 yX8_isTopLoose cX8_isTopLoose 2 (some .boolean) 1 := ⟨cd_X8_isTopLoose, gtbl_of (List.mem_append_right _ (List.mem_of_getElem? (i := 482) (by decide +kernel))) rfl, ini_X8, by decide +kernel⟩
theorem cf_X8_137 : CallF RX8 137 yX4_isLoose cX4_isLoose 2 (some .boolean) 1 := ⟨cd_X4_isLoose, gtbl_of (List.mem_append_right _ (List.mem_of_getElem? (i := 486) (by decide +kernel))) rfl, ini_X4, by decide +kernel⟩
theorem cf_L_223 : CallF RL 223 yX8_hasTopSpring cX8_hasTopSpring 2 (some .boolean) 1 := ⟨cd_X8_hasTopSpring, gtbl_of (List.mem_append_right _ (List.mem_of_getElem? (i := 490) (by decide +kernel))) rfl, ini_X8, by decide +kernel⟩
theorem cf_X8_140 : CallF RX8 140 yX7_hasSpring cX7_hasSpring 2 (some .boolean) 1 := ⟨cd_X7_hasSpring, gtbl_of (List.mem_append_right _ (List.mem_of_getElem? (i := 494) (by decide +kernel))) rfl, ini_X7, by decide +kernel⟩
theorem cf_L_206 : CallF RL 206 yX8_findsLeft cX8_findsLeft 2 (some .int) 1 := ⟨cd_X8_findsLeft, gtbl_of (List.mem_append_right _ (List.mem_of_getElem? (i := 498) (by decide +kernel))) rfl, ini_X8, by decide +kernel⟩
theorem cf_X8_143 : CallF RX8 143 yX4_findsInStack cX4_findsInStack 4 (some .int) 1 := ⟨cd_X4_findsInStack, gtbl_of (List.mem_append_right _ (List.mem_of_getElem? (i := 502) (by decide +kernel))) rfl, ini_X4, by decide +kernel⟩
theorem cf_X4_77 : CallF RX4 77 yX7_findIn cX7_findIn 2 (some .int) 1 := ⟨cd_X7_findIn, gtbl_of (List.mem_append_right _ (List.mem_of_getElem? (i := 506) (by decide +kernel))) rfl, ini_X7, by decide +kernel⟩
theorem cf_L_253 : CallF RL 253 yX8_isCoin cX8_isCoin 2 (some .boolean) 1 := ⟨cd_X8_isCoin, gtbl_of (List.mem_append_right _ (List.mem_of_getElem? (i := 510) (by decide +kernel))) rfl, ini_X8, by decide +kernel⟩
theorem cf_X8_146 : CallF RX8 146 yX8_needFind cX8_needFind 2 none 1 := ⟨cd_X8_needFind, gtbl_of (List.mem_append_right _ (List.mem_of_getElem? (i := 514) (by decide +kernel))) rfl, ini_X8, by decide +kernel⟩
theorem cf_X8_149 : CallF RX8 149 yX7_tellsCoin cX7_tellsCoin 2 (some .boolean) 1 := ⟨cd_X7_tellsCoin, gtbl_of (List.mem_append_right _ (List.mem_of_getElem? (i := 519) (by decide +kernel))) rfl, ini_X7, by decide +kernel⟩
theorem cf_X7_82 : CallF RX7 82 yX7_isFind cX7_isFind 2 (some .boolean) 1 := ⟨cd_X7_isFind, gtbl_of (List.mem_append_right _ (List.mem_of_getElem? (i := 523) (by decide +kernel))) rfl, ini_X7, by decide +kernel⟩
theorem cf_L_238 : CallF RL 238 yX8_isFound cX8_isFound 2 (some .boolean) 1 := ⟨cd_X8_isFound, gtbl_of (List.mem_append_right _ (List.mem_of_getElem? (i := 527) (by decide +kernel))) rfl, ini_X8, by decide +kernel⟩
theorem cf_X8_152 : CallF RX8 152 yX4_wasFound cX4_wasFound 2 (some .boolean) 1 := ⟨cd_X4_wasFound, gtbl_of (List.mem_append_right _ (List.mem_of_getElem? (i := 531) (by decide +kernel))) rfl, ini_X4, by decide +kernel⟩
theorem cf_L_241 : CallF RL 241 yX8_isSure cX8_isSure 2 (some .boolean) 1 := ⟨cd_X8_isSure, gtbl_of (List.mem_append_right _ (List.mem_of_getElem? (i := 535) (by decide +kernel))) rfl, ini_X8, by decide +kernel⟩
theorem cf_X8_157 : CallF RX8 157 yX4_wasSure cX4_wasSure 2 (some .boolean) 1 := ⟨cd_X4_wasSure, gtbl_of (List.mem_append_right _ (List.mem_of_getElem? (i := 540) (by decide +kernel))) rfl, ini_X4, by decide +kernel⟩
theorem cf_L_247 : CallF RL 247 yX8_stratumOf cX8_stratumOf 2 (some .int) 1 := ⟨cd_X8_stratumOf, gtbl_of (List.mem_append_right _ (List.mem_of_getElem? (i := 544) (by decide +kernel))) rfl, ini_X8, by decide +kernel⟩
theorem cf_X8_160 : CallF RX8 160 yX7_stratumOfFind cX7_stratumOfFind 2 (some .int) 1 := ⟨cd_X7_stratumOfFind, gtbl_of (List.mem_append_right _ (List.mem_of_getElem? (i := 548) (by decide +kernel))) rfl, ini_X7, by decide +kernel⟩
theorem cf_X7_85 : CallF RX7 85 yX7_cushionOf cX7_cushionOf 2 (some .int) 1 := ⟨cd_X7_cushionOf, gtbl_of (List.mem_append_right _ (List.mem_of_getElem? (i := 552) (by decide +kernel))) rfl, ini_X7, by decide +kernel⟩
theorem cf_X7_89 : CallF RX7 89 yX7_stratumOfCushion cX7_stratumOfCushion 2 (some .int) 1 := ⟨cd_X7_stratumOfCushion, gtbl_of (List.mem_append_right _ (List.mem_of_getElem? (i := 556) (by decide +kernel))) rfl, ini_X7, by decide +kernel⟩
theorem cf_L_256 : CallF RL 256 yX8_empireOf cX8_empireOf 2 (some .int) 1 := ⟨cd_X8_empireOf, gtbl_of (List.mem_append_right _ (List.mem_of_getElem? (i := 557) (by decide +kernel))) rfl, ini_X8, by decide +kernel⟩
theorem cf_X8_170 : CallF RX8 170 yX7_crumbsEmpire cX7_crumbsEmpire 2 (some .int) 1 := ⟨cd_X7_crumbsEmpire, gtbl_of (List.mem_append_right _ (List.mem_of_getElem? (i := 562) (by decide +kernel))) rfl, ini_X7, by decide +kernel⟩
theorem cf_L_244 : CallF RL 244 yX8_buriedUnder cX8_buriedUnder 2 (some .int) 1 := ⟨cd_X8_buriedUnder, gtbl_of (List.mem_append_right _ (List.mem_of_getElem? (i := 566) (by decide +kernel))) rfl, ini_X8, by decide +kernel⟩
theorem cf_X8_175 : CallF RX8 175 yX7_cushionOf cX7_cushionOf 2 (some .int) 1 := ⟨cd_X7_cushionOf, gtbl_of (List.mem_append_right _ (List.mem_of_getElem? (i := 571) (by decide +kernel))) rfl, ini_X7, by decide +kernel⟩
theorem cf_X8_178 : CallF RX8 178 yX4_cushionsAbove cX4_cushionsAbove 4 (some .int) 1 := ⟨cd_X4_cushionsAbove, gtbl_of (List.mem_append_right _ (List.mem_of_getElem? (i := 572) (by decide +kernel))) rfl, ini_X4, by decide +kernel⟩
theorem cf_L_266 : CallF RL 266 yX8_notBefore cX8_notBefore 2 (some .int) 1 := ⟨cd_X8_notBefore, gtbl_of (List.mem_append_right _ (List.mem_of_getElem? (i := 576) (by decide +kernel))) rfl, ini_X8, by decide +kernel⟩
theorem cf_X8_181 : CallF RX8 181 yX8_needStratum cX8_needStratum 2 none 1 := ⟨cd_X8_needStratum, gtbl_of (List.mem_append_right _ (List.mem_of_getElem? (i := 580) (by decide +kernel))) rfl, ini_X8, by decide +kernel⟩
theorem cf_X8_184 : CallF RX8 184 yX4_earliestYear cX4_earliestYear 4 (some .int) 1 := ⟨cd_X4_earliestYear, gtbl_of (List.mem_append_right _ (List.mem_of_getElem? (i := 585) (by decide +kernel))) rfl, ini_X4, by decide +kernel⟩
theorem cf_X4_83 : CallF RX4 83 yX4_wasSure cX4_wasSure 2 (some .boolean) 1 := ⟨cd_X4_wasSure, gtbl_of (List.mem_append_right _ (List.mem_of_getElem? (i := 589) (by decide +kernel))) rfl, ini_X4, by decide +kernel⟩
theorem cf_X4_87 : CallF RX4 87 yX7_stratumOfFind cX7_stratumOfFind 2 (some .int) 1 := ⟨cd_X7_stratumOfFind, gtbl_of (List.mem_append_right _ (List.mem_of_getElem? (i := 590) (by decide +kernel))) rfl, ini_X7, by decide +kernel⟩
theorem cf_X4_90 : CallF RX4 90 yX7_earliestYearOf cX7_earliestYearOf 2 (some .int) 1 := ⟨cd_X7_earliestYearOf, gtbl_of (List.mem_append_right _ (List.mem_of_getElem? (i := 591) (by decide +kernel))) rfl, ini_X7, by decide +kernel⟩
theorem cf_X7_92 : CallF RX7 92 yX7_tellsCoin cX7_tellsCoin 2 (some .boolean) 1 := ⟨cd_X7_tellsCoin, gtbl_of (List.mem_append_right _ (List.mem_of_getElem? (i := 595) (by decide +kernel))) rfl, ini_X7, by decide +kernel⟩
theorem cf_X7_98 : CallF RX7 98 yX7_coinYear cX7_coinYear 2 (some .int) 1 := ⟨cd_X7_coinYear, gtbl_of (List.mem_append_right _ (List.mem_of_getElem? (i := 596) (by decide +kernel))) rfl, ini_X7, by decide +kernel⟩
theorem cf_X7_101 : CallF RX7 101 yX7_crumbsEmpire cX7_crumbsEmpire 2 (some .int) 1 := ⟨cd_X7_crumbsEmpire, gtbl_of (List.mem_append_right _ (List.mem_of_getElem? (i := 600) (by decide +kernel))) rfl, ini_X7, by decide +kernel⟩
theorem cf_X7_104 : CallF RX7 104 yX7_fromOf cX7_fromOf 2 (some .int) 1 := ⟨cd_X7_fromOf, gtbl_of (List.mem_append_right _ (List.mem_of_getElem? (i := 601) (by decide +kernel))) rfl, ini_X7, by decide +kernel⟩
theorem cf_X7_95 : CallF RX7 95 yX7_isEmpire cX7_isEmpire 2 (some .boolean) 1 := ⟨cd_X7_isEmpire, gtbl_of (List.mem_append_right _ (List.mem_of_getElem? (i := 605) (by decide +kernel))) rfl, ini_X7, by decide +kernel⟩
theorem cf_X4_93 : CallF RX4 93 yJ9_max_7cf53 cJ9_max_7cf53 2 (some .int) 2 := ⟨cd_J9_max_7cf53, gtbl_of (List.mem_append_right _ (List.mem_of_getElem? (i := 609) (by decide +kernel))) rfl, ini_J9, by decide +kernel⟩
theorem cf_L_259 : CallF RL 259 yX8_isSeenIn cX8_isSeenIn 3 (some .boolean) 2 := ⟨cd_X8_isSeenIn, gtbl_of (List.mem_append_right _ (List.mem_of_getElem? (i := 612) (by decide +kernel))) rfl, ini_X8, by decide +kernel⟩
theorem cf_X8_195 : CallF RX8 195 yX4_sawEmpire cX4_sawEmpire 4 (some .boolean) 2 := ⟨cd_X4_sawEmpire, gtbl_of (List.mem_append_right _ (List.mem_of_getElem? (i := 617) (by decide +kernel))) rfl, ini_X4, by decide +kernel⟩
theorem cf_X4_98 : CallF RX4 98 yX7_crumbsEmpire cX7_crumbsEmpire 2 (some .int) 1 := ⟨cd_X7_crumbsEmpire, gtbl_of (List.mem_append_right _ (List.mem_of_getElem? (i := 621) (by decide +kernel))) rfl, ini_X7, by decide +kernel⟩
theorem cf_L_263 : CallF RL 263 yX8_isMixed cX8_isMixed 2 (some .boolean) 1 := ⟨cd_X8_isMixed, gtbl_of (List.mem_append_right _ (List.mem_of_getElem? (i := 622) (by decide +kernel))) rfl, ini_X8, by decide +kernel⟩
theorem cf_X8_199 : CallF RX8 199 yX4_showsMixture cX4_showsMixture 4 (some .boolean) 1 := ⟨cd_X4_showsMixture, gtbl_of (List.mem_append_right _ (List.mem_of_getElem? (i := 626) (by decide +kernel))) rfl, ini_X4, by decide +kernel⟩
theorem cf_X4_104 : CallF RX4 104 yX7_toOf cX7_toOf 2 (some .int) 1 := ⟨cd_X7_toOf, gtbl_of (List.mem_append_right _ (List.mem_of_getElem? (i := 630) (by decide +kernel))) rfl, ini_X7, by decide +kernel⟩
theorem cf_X4_107 : CallF RX4 107 yX7_fromOf cX7_fromOf 2 (some .int) 1 := ⟨cd_X7_fromOf, gtbl_of (List.mem_append_right _ (List.mem_of_getElem? (i := 634) (by decide +kernel))) rfl, ini_X7, by decide +kernel⟩
theorem cf_X4_110 : CallF RX4 110 yX4_sawEmpire cX4_sawEmpire 4 (some .boolean) 2 := ⟨cd_X4_sawEmpire, gtbl_of (List.mem_append_right _ (List.mem_of_getElem? (i := 635) (by decide +kernel))) rfl, ini_X4, by decide +kernel⟩
theorem cf_L_154 : CallF RL 154 yX8_dig cX8_dig 2 (some .int) 1 := ⟨cd_X8_dig, gtbl_of (List.mem_append_right _ (List.mem_of_getElem? (i := 636) (by decide +kernel))) rfl, ini_X8, by decide +kernel⟩
theorem cf_X8_202 : CallF RX8 202 yX4_digSeat cX4_digSeat 4 (some .int) 1 := ⟨cd_X4_digSeat, gtbl_of (List.mem_append_right _ (List.mem_of_getElem? (i := 640) (by decide +kernel))) rfl, ini_X4, by decide +kernel⟩
theorem cf_X4_114 : CallF RX4 114 yX4_topOf cX4_topOf 2 (some .int) 1 := ⟨cd_X4_topOf, gtbl_of (List.mem_append_right _ (List.mem_of_getElem? (i := 644) (by decide +kernel))) rfl, ini_X4, by decide +kernel⟩
theorem cf_X4_117 : CallF RX4 117 yX4_isLoose cX4_isLoose 2 (some .boolean) 1 := ⟨cd_X4_isLoose, gtbl_of (List.mem_append_right _ (List.mem_of_getElem? (i := 645) (by decide +kernel))) rfl, ini_X4, by decide +kernel⟩
theorem cf_X4_120 : CallF RX4 120 yX4_noteFind cX4_noteFind 3 none 2 := ⟨cd_X4_noteFind, gtbl_of (List.mem_append_right _ (List.mem_of_getElem? (i := 646) (by decide +kernel))) rfl, ini_X4, by decide +kernel⟩
theorem cf_X4_124 : CallF RX4 124 yX4_settle cX4_settle 3 none 0 := ⟨cd_X4_settle, gtbl_of (List.mem_append_right _ (List.mem_of_getElem? (i := 650) (by decide +kernel))) rfl, ini_X4, by decide +kernel⟩
theorem cf_X4_134 : CallF RX4 134 yX4_slidesOnto cX4_slidesOnto 3 (some .boolean) 2 := ⟨cd_X4_slidesOnto, gtbl_of (List.mem_append_right _ (List.mem_of_getElem? (i := 655) (by decide +kernel))) rfl, ini_X4, by decide +kernel⟩
theorem cf_X4_127 : CallF RX4 127 yX4_hasProp cX4_hasProp 2 (some .boolean) 1 := ⟨cd_X4_hasProp, gtbl_of (List.mem_append_right _ (List.mem_of_getElem? (i := 659) (by decide +kernel))) rfl, ini_X4, by decide +kernel⟩
theorem cf_X4_141 : CallF RX4 141 yX7_hasSpring cX7_hasSpring 2 (some .boolean) 1 := ⟨cd_X7_hasSpring, gtbl_of (List.mem_append_right _ (List.mem_of_getElem? (i := 660) (by decide +kernel))) rfl, ini_X7, by decide +kernel⟩
theorem cf_X4_137 : CallF RX4 137 yX4_moveTop cX4_moveTop 5 none 2 := ⟨cd_X4_moveTop, gtbl_of (List.mem_append_right _ (List.mem_of_getElem? (i := 661) (by decide +kernel))) rfl, ini_X4, by decide +kernel⟩
theorem cf_L_177 : CallF RL 177 yX8_passDays cX8_passDays 3 (some .int) 1 := ⟨cd_X8_passDays, gtbl_of (List.mem_append_right _ (List.mem_of_getElem? (i := 665) (by decide +kernel))) rfl, ini_X8, by decide +kernel⟩
theorem cf_X8_218 : CallF RX8 218 yX8_needDays cX8_needDays 2 none 1 := ⟨cd_X8_needDays, gtbl_of (List.mem_append_right _ (List.mem_of_getElem? (i := 669) (by decide +kernel))) rfl, ini_X8, by decide +kernel⟩
theorem cf_X8_221 : CallF RX8 221 yX2_liveDays cX2_liveDays 7 none 2 := ⟨cd_X2_liveDays, gtbl_of (List.mem_append_right _ (List.mem_of_getElem? (i := 689) (by decide +kernel))) rfl, ini_X2, by decide +kernel⟩
theorem cf_X2_33 : CallF RX2 33 yX2_isDue cX2_isDue 6 (some .boolean) 3 := ⟨cd_X2_isDue, gtbl_of (List.mem_append_right _ (List.mem_of_getElem? (i := 693) (by decide +kernel))) rfl, ini_X2, by decide +kernel⟩
theorem cf_X2_41 : CallF RX2 41 yX1_sumEnd cX1_sumEnd 2 (some .int) 1 := ⟨cd_X1_sumEnd, gtbl_of (List.mem_append_right _ (List.mem_of_getElem? (i := 697) (by decide +kernel))) rfl, ini_X1, by decide +kernel⟩
theorem cf_X1_34 : CallF RX1 34 yX1_isOrder cX1_isOrder 2 (some .boolean) 1 := ⟨cd_X1_isOrder, gtbl_of (List.mem_append_right _ (List.mem_of_getElem? (i := 701) (by decide +kernel))) rfl, ini_X1, by decide +kernel⟩
theorem cf_X2_61 : CallF RX2 61 yX1_testEnd cX1_testEnd 2 (some .int) 1 := ⟨cd_X1_testEnd, gtbl_of (List.mem_append_right _ (List.mem_of_getElem? (i := 705) (by decide +kernel))) rfl, ini_X1, by decide +kernel⟩
theorem cf_X2_44 : CallF RX2 44 yX2_reckon cX2_reckon 6 (some .int) 3 := ⟨cd_X2_reckon, gtbl_of (List.mem_append_right _ (List.mem_of_getElem? (i := 709) (by decide +kernel))) rfl, ini_X2, by decide +kernel⟩
theorem cf_X2_92 : CallF RX2 92 yX1_stepKind cX1_stepKind 2 (some .int) 1 := ⟨cd_X1_stepKind, gtbl_of (List.mem_append_right _ (List.mem_of_getElem? (i := 713) (by decide +kernel))) rfl, ini_X1, by decide +kernel⟩
theorem cf_X1_44 : CallF RX1 44 yX1_isStep cX1_isStep 2 (some .boolean) 1 := ⟨cd_X1_isStep, gtbl_of (List.mem_append_right _ (List.mem_of_getElem? (i := 717) (by decide +kernel))) rfl, ini_X1, by decide +kernel⟩
theorem cf_X2_95 : CallF RX2 95 yX1_stepDetail cX1_stepDetail 2 (some .int) 1 := ⟨cd_X1_stepDetail, gtbl_of (List.mem_append_right _ (List.mem_of_getElem? (i := 721) (by decide +kernel))) rfl, ini_X1, by decide +kernel⟩
theorem cf_X2_98 : CallF RX2 98 yX2_takeStep cX2_takeStep 6 none 3 := ⟨cd_X2_takeStep, gtbl_of (List.mem_append_right _ (List.mem_of_getElem? (i := 725) (by decide +kernel))) rfl, ini_X2, by decide +kernel⟩
theorem cf_X2_105 : CallF RX2 105 yX2_push cX2_push 2 none 1 := ⟨cd_X2_push, gtbl_of (List.mem_append_right _ (List.mem_of_getElem? (i := 729) (by decide +kernel))) rfl, ini_X2, by decide +kernel⟩
theorem cf_X2_117 : CallF RX2 117 yX7_fromOf cX7_fromOf 2 (some .int) 1 := ⟨cd_X7_fromOf, gtbl_of (List.mem_append_right _ (List.mem_of_getElem? (i := 733) (by decide +kernel))) rfl, ini_X7, by decide +kernel⟩
theorem cf_X2_120 : CallF RX2 120 yX7_toOf cX7_toOf 2 (some .int) 1 := ⟨cd_X7_toOf, gtbl_of (List.mem_append_right _ (List.mem_of_getElem? (i := 734) (by decide +kernel))) rfl, ini_X7, by decide +kernel⟩
theorem cf_X2_123 : CallF RX2 123 yX4_sawEmpireAnywhere cX4_sawEmpireAnywhere 3 (some .boolean) 1 := ⟨cd_X4_sawEmpireAnywhere, gtbl_of (List.mem_append_right _ (List.mem_of_getElem? (i := 735) (by decide +kernel))) rfl, ini_X4, by decide +kernel⟩
theorem cf_X2_126 : CallF RX2 126 yX2_pushTruth cX2_pushTruth 2 none 1 := ⟨cd_X2_pushTruth, gtbl_of (List.mem_append_right _ (List.mem_of_getElem? (i := 739) (by decide +kernel))) rfl, ini_X2, by decide +kernel⟩
theorem cf_X2_101 : CallF RX2 101 yX2_pull cX2_pull 1 (some .int) 0 := ⟨cd_X2_pull, gtbl_of (List.mem_append_right _ (List.mem_of_getElem? (i := 743) (by decide +kernel))) rfl, ini_X2, by decide +kernel⟩
theorem cf_X2_51 : CallF RX2 51 yX7_seatOfSum cX7_seatOfSum 2 (some .int) 1 := ⟨cd_X7_seatOfSum, gtbl_of (List.mem_append_right _ (List.mem_of_getElem? (i := 747) (by decide +kernel))) rfl, ini_X7, by decide +kernel⟩
theorem cf_X7_76 : CallF RX7 76 yJ9_floorMod_7cf53 cJ9_floorMod_7cf53 3 (some .int) 2 := ⟨cd_J9_floorMod_7cf53, gtbl_of (List.mem_append_right _ (List.mem_of_getElem? (i := 751) (by decide +kernel))) rfl, ini_J9, by decide +kernel⟩
theorem cf_X2_66 : CallF RX2 66 yX4_heightAt cX4_heightAt 2 (some .int) 1 := ⟨cd_X4_heightAt, gtbl_of (List.mem_append_right _ (List.mem_of_getElem? (i := 754) (by decide +kernel))) rfl, ini_X4, by decide +kernel⟩
theorem cf_X2_130 : CallF RX2 130 yX4_wasSure cX4_wasSure 2 (some .boolean) 1 := ⟨cd_X4_wasSure, gtbl_of (List.mem_append_right _ (List.mem_of_getElem? (i := 755) (by decide +kernel))) rfl, ini_X4, by decide +kernel⟩
theorem cf_X2_133 : CallF RX2 133 yX2_join cX2_join 3 (some .int) 3 := ⟨cd_X2_join, gtbl_of (List.mem_append_right _ (List.mem_of_getElem? (i := 756) (by decide +kernel))) rfl, ini_X2, by decide +kernel⟩
theorem cf_X2_137 : CallF RX2 137 yJ9_min_7cf53 cJ9_min_7cf53 2 (some .int) 2 := ⟨cd_J9_min_7cf53, gtbl_of (List.mem_append_right _ (List.mem_of_getElem? (i := 759) (by decide +kernel))) rfl, ini_J9, by decide +kernel⟩
theorem cf_X2_143 : CallF RX2 143 yJ9_max_7cf53 cJ9_max_7cf53 2 (some .int) 2 := ⟨cd_J9_max_7cf53, gtbl_of (List.mem_append_right _ (List.mem_of_getElem? (i := 762) (by decide +kernel))) rfl, ini_J9, by decide +kernel⟩
theorem cf_X2_146 : CallF RX2 146 yX2_compares cX2_compares 3 (some .boolean) 3 := ⟨cd_X2_compares, gtbl_of (List.mem_append_right _ (List.mem_of_getElem? (i := 763) (by decide +kernel))) rfl, ini_X2, by decide +kernel⟩
theorem cf_X2_37 : CallF RX2 37 yX1_sumStart cX1_sumStart 2 (some .int) 1 := ⟨cd_X1_sumStart, gtbl_of (List.mem_append_right _ (List.mem_of_getElem? (i := 766) (by decide +kernel))) rfl, ini_X1, by decide +kernel⟩
theorem cf_X1_40 : CallF RX1 40 yX1_testEnd cX1_testEnd 2 (some .int) 1 := ⟨cd_X1_testEnd, gtbl_of (List.mem_append_right _ (List.mem_of_getElem? (i := 770) (by decide +kernel))) rfl, ini_X1, by decide +kernel⟩
theorem cf_X2_48 : CallF RX2 48 yX1_kindOf cX1_kindOf 2 (some .int) 1 := ⟨cd_X1_kindOf, gtbl_of (List.mem_append_right _ (List.mem_of_getElem? (i := 771) (by decide +kernel))) rfl, ini_X1, by decide +kernel⟩
theorem cf_X2_54 : CallF RX2 54 yX2_carryOut cX2_carryOut 3 none 3 := ⟨cd_X2_carryOut, gtbl_of (List.mem_append_right _ (List.mem_of_getElem? (i := 775) (by decide +kernel))) rfl, ini_X2, by decide +kernel⟩
theorem cf_X2_69 : CallF RX2 69 yX4_digSeat cX4_digSeat 4 (some .int) 1 := ⟨cd_X4_digSeat, gtbl_of (List.mem_append_right _ (List.mem_of_getElem? (i := 778) (by decide +kernel))) rfl, ini_X4, by decide +kernel⟩
theorem cf_X2_75 : CallF RX2 75 yX4_canProp cX4_canProp 2 (some .boolean) 1 := ⟨cd_X4_canProp, gtbl_of (List.mem_append_right _ (List.mem_of_getElem? (i := 779) (by decide +kernel))) rfl, ini_X4, by decide +kernel⟩
theorem cf_X2_79 : CallF RX2 79 yX4_putProp cX4_putProp 2 none 1 := ⟨cd_X4_putProp, gtbl_of (List.mem_append_right _ (List.mem_of_getElem? (i := 783) (by decide +kernel))) rfl, ini_X4, by decide +kernel⟩
theorem cf_X4_130 : CallF RX4 130 yX4_canProp cX4_canProp 2 (some .boolean) 1 := ⟨cd_X4_canProp, gtbl_of (List.mem_append_right _ (List.mem_of_getElem? (i := 787) (by decide +kernel))) rfl, ini_X4, by decide +kernel⟩
theorem cf_X2_83 : CallF RX2 83 yX4_hasProp cX4_hasProp 2 (some .boolean) 1 := ⟨cd_X4_hasProp, gtbl_of (List.mem_append_right _ (List.mem_of_getElem? (i := 788) (by decide +kernel))) rfl, ini_X4, by decide +kernel⟩
theorem cf_X2_86 : CallF RX2 86 yX4_freeSeat cX4_freeSeat 2 none 1 := ⟨cd_X4_freeSeat, gtbl_of (List.mem_append_right _ (List.mem_of_getElem? (i := 789) (by decide +kernel))) rfl, ini_X4, by decide +kernel⟩
theorem cf_L_275 : CallF RL 275 yX8_foundAfter cX8_foundAfter 2 (some .int) 1 := ⟨cd_X8_foundAfter, gtbl_of (List.mem_append_right _ (List.mem_of_getElem? (i := 793) (by decide +kernel))) rfl, ini_X8, by decide +kernel⟩
theorem cf_X8_225 : CallF RX8 225 yX4_copyFrom cX4_copyFrom 3 none 1 := ⟨cd_X4_copyFrom, gtbl_of (List.mem_append_right _ (List.mem_of_getElem? (i := 797) (by decide +kernel))) rfl, ini_X4, by decide +kernel⟩
theorem cf_L_250 : CallF RL 250 yX8_daysUntilFound cX8_daysUntilFound 3 (some .int) 1 := ⟨cd_X8_daysUntilFound, gtbl_of (List.mem_append_right _ (List.mem_of_getElem? (i := 801) (by decide +kernel))) rfl, ini_X8, by decide +kernel⟩
theorem cf_L_272 : CallF RL 272 yX8_wouldSlide cX8_wouldSlide 2 (some .int) 1 := ⟨cd_X8_wouldSlide, gtbl_of (List.mem_append_right _ (List.mem_of_getElem? (i := 805) (by decide +kernel))) rfl, ini_X8, by decide +kernel⟩
theorem cf_X8_229 : CallF RX8 229 yX8_slidesOfDig cX8_slidesOfDig 2 (some .int) 1 := ⟨cd_X8_slidesOfDig, gtbl_of (List.mem_append_right _ (List.mem_of_getElem? (i := 809) (by decide +kernel))) rfl, ini_X8, by decide +kernel⟩
theorem cf_L_269 : CallF RL 269 yX8_bestDig cX8_bestDig 7 (some .int) 0 := ⟨cd_X8_bestDig, gtbl_of (List.mem_append_right _ (List.mem_of_getElem? (i := 813) (by decide +kernel))) rfl, ini_X8, by decide +kernel⟩
theorem cf_L_199 : CallF RL 199 yX8_digest cX8_digest 3 (some .long) 0 := ⟨cd_X8_digest, gtbl_of (List.mem_append_right _ (List.mem_of_getElem? (i := 817) (by decide +kernel))) rfl, ini_X8, by decide +kernel⟩
theorem cf_X8_236 : CallF RX8 236 yX8_bestDig cX8_bestDig 7 (some .int) 0 := ⟨cd_X8_bestDig, gtbl_of (List.mem_append_right _ (List.mem_of_getElem? (i := 823) (by decide +kernel))) rfl, ini_X8, by decide +kernel⟩
theorem cf_X8_239 : CallF RX8 239 yX8_digestSeats cX8_digestSeats 6 (some .long) 1 := ⟨cd_X8_digestSeats, gtbl_of (List.mem_append_right _ (List.mem_of_getElem? (i := 824) (by decide +kernel))) rfl, ini_X8, by decide +kernel⟩
theorem cf_X8_243 : CallF RX8 243 yX8_digestFinds cX8_digestFinds 6 (some .long) 1 := ⟨cd_X8_digestFinds, gtbl_of (List.mem_append_right _ (List.mem_of_getElem? (i := 828) (by decide +kernel))) rfl, ini_X8, by decide +kernel⟩
theorem cf_X8_246 : CallF RX8 246 yX8_digestStrata cX8_digestStrata 6 (some .long) 1 := ⟨cd_X8_digestStrata, gtbl_of (List.mem_append_right _ (List.mem_of_getElem? (i := 832) (by decide +kernel))) rfl, ini_X8, by decide +kernel⟩
theorem cf_L_157 : CallF RL 157 yX9_dig cX9_dig 3 (some .int) 1 := ⟨cd_X9_dig, gtbl_of (List.mem_append_right _ (List.mem_of_getElem? (i := 836) (by decide +kernel))) rfl, ini_X9, by decide +kernel⟩
theorem cf_X9_68 : CallF RX9 68 yX9_less cX9_less 3 (some (Jvm.ClassFile.FieldType.array (Jvm.ClassFile.FieldType.array Jvm.ClassFile.FieldType.int))) 1 := ⟨cd_X9_less, gtbl_of (List.mem_append_right _ (List.mem_of_getElem? (i := 840) (by decide +kernel))) rfl, ini_X9, by decide +kernel⟩
theorem cf_X9_72 : CallF RX9 72 yX9_settle cX9_settle 5 (some .int) 0 := ⟨cd_X9_settle, gtbl_of (List.mem_append_right _ (List.mem_of_getElem? (i := 845) (by decide +kernel))) rfl, ini_X9, by decide +kernel⟩
theorem cf_X9_65 : CallF RX9 65 yX9_slidesOnto cX9_slidesOnto 3 (some .boolean) 2 := ⟨cd_X9_slidesOnto, gtbl_of (List.mem_append_right _ (List.mem_of_getElem? (i := 849) (by decide +kernel))) rfl, ini_X9, by decide +kernel⟩
theorem cf_X9_57 : CallF RX9 57 yX9_with cX9_with 4 (some (Jvm.ClassFile.FieldType.array (Jvm.ClassFile.FieldType.array Jvm.ClassFile.FieldType.int))) 2 := ⟨cd_X9_with, gtbl_of (List.mem_append_right _ (List.mem_of_getElem? (i := 854) (by decide +kernel))) rfl, ini_X9, by decide +kernel⟩
theorem cf_L_174 : CallF RL 174 yX9_pass cX9_pass 5 (some .int) 0 := ⟨cd_X9_pass, gtbl_of (List.mem_append_right _ (List.mem_of_getElem? (i := 857) (by decide +kernel))) rfl, ini_X9, by decide +kernel⟩
theorem cf_X9_76 : CallF RX9 76 yX9_found cX9_found 7 (some .int) 1 := ⟨cd_X9_found, gtbl_of (List.mem_append_right _ (List.mem_of_getElem? (i := 861) (by decide +kernel))) rfl, ini_X9, by decide +kernel⟩
theorem cf_X9_80 : CallF RX9 80 yX10_of cX10_of 2 (some .int) 1 := ⟨cd_X10_of, gtbl_of (List.mem_append_right _ (List.mem_of_getElem? (i := 865) (by decide +kernel))) rfl, ini_X10, by decide +kernel⟩
theorem cf_X10_21 : CallF RX10 21 yX9_found cX9_found 7 (some .int) 1 := ⟨cd_X9_found, gtbl_of (List.mem_append_right _ (List.mem_of_getElem? (i := 869) (by decide +kernel))) rfl, ini_X9, by decide +kernel⟩
theorem cf_X10_28 : CallF RX10 28 yX9_props cX9_props 6 (some .int) 0 := ⟨cd_X9_props, gtbl_of (List.mem_append_right _ (List.mem_of_getElem? (i := 870) (by decide +kernel))) rfl, ini_X9, by decide +kernel⟩
theorem cf_X10_44 : CallF RX10 44 yX10_of cX10_of 2 (some .int) 1 := ⟨cd_X10_of, gtbl_of (List.mem_append_right _ (List.mem_of_getElem? (i := 874) (by decide +kernel))) rfl, ini_X10, by decide +kernel⟩
theorem cf_X10_48 : CallF RX10 48 yX9_seat cX9_seat 2 (some .int) 1 := ⟨cd_X9_seat, gtbl_of (List.mem_append_right _ (List.mem_of_getElem? (i := 875) (by decide +kernel))) rfl, ini_X9, by decide +kernel⟩
theorem cf_X10_51 : CallF RX10 51 yX9_isSeen cX9_isSeen 6 (some .boolean) 1 := ⟨cd_X9_isSeen, gtbl_of (List.mem_append_right _ (List.mem_of_getElem? (i := 879) (by decide +kernel))) rfl, ini_X9, by decide +kernel⟩
theorem cf_X10_55 : CallF RX10 55 yX9_isSure cX9_isSure 2 (some .boolean) 1 := ⟨cd_X9_isSure, gtbl_of (List.mem_append_right _ (List.mem_of_getElem? (i := 883) (by decide +kernel))) rfl, ini_X9, by decide +kernel⟩
theorem cf_X10_61 : CallF RX10 61 yX10_ofTwo cX10_ofTwo 3 (some .int) 2 := ⟨cd_X10_ofTwo, gtbl_of (List.mem_append_right _ (List.mem_of_getElem? (i := 887) (by decide +kernel))) rfl, ini_X10, by decide +kernel⟩
theorem cf_X9_84 : CallF RX9 84 yX9_seat cX9_seat 2 (some .int) 1 := ⟨cd_X9_seat, gtbl_of (List.mem_append_right _ (List.mem_of_getElem? (i := 892) (by decide +kernel))) rfl, ini_X9, by decide +kernel⟩
theorem cf_X9_87 : CallF RX9 87 yX9_props cX9_props 6 (some .int) 0 := ⟨cd_X9_props, gtbl_of (List.mem_append_right _ (List.mem_of_getElem? (i := 893) (by decide +kernel))) rfl, ini_X9, by decide +kernel⟩
theorem cf_X9_90 : CallF RX9 90 yX9_dig cX9_dig 3 (some .int) 1 := ⟨cd_X9_dig, gtbl_of (List.mem_append_right _ (List.mem_of_getElem? (i := 894) (by decide +kernel))) rfl, ini_X9, by decide +kernel⟩
theorem cf_L_284 : CallF RL 284 yX9_isSame cX9_isSame 6 (some .boolean) 1 := ⟨cd_X9_isSame, gtbl_of (List.mem_append_right _ (List.mem_of_getElem? (i := 895) (by decide +kernel))) rfl, ini_X9, by decide +kernel⟩
theorem cf_X9_93 : CallF RX9 93 yX8_seats cX8_seats 1 (some .int) 0 := ⟨cd_X8_seats, gtbl_of (List.mem_append_right _ (List.mem_of_getElem? (i := 899) (by decide +kernel))) rfl, ini_X8, by decide +kernel⟩
theorem cf_X9_98 : CallF RX9 98 yX8_strata cX8_strata 1 (some .int) 0 := ⟨cd_X8_strata, gtbl_of (List.mem_append_right _ (List.mem_of_getElem? (i := 900) (by decide +kernel))) rfl, ini_X8, by decide +kernel⟩
theorem cf_X9_100 : CallF RX9 100 yX8_finds cX8_finds 1 (some .int) 0 := ⟨cd_X8_finds, gtbl_of (List.mem_append_right _ (List.mem_of_getElem? (i := 901) (by decide +kernel))) rfl, ini_X8, by decide +kernel⟩
theorem cf_X9_102 : CallF RX9 102 yX8_days cX8_days 1 (some .int) 0 := ⟨cd_X8_days, gtbl_of (List.mem_append_right _ (List.mem_of_getElem? (i := 902) (by decide +kernel))) rfl, ini_X8, by decide +kernel⟩
theorem cf_X9_104 : CallF RX9 104 yX8_ordersCarriedOut cX8_ordersCarriedOut 1 (some .int) 0 := ⟨cd_X8_ordersCarriedOut, gtbl_of (List.mem_append_right _ (List.mem_of_getElem? (i := 906) (by decide +kernel))) rfl, ini_X8, by decide +kernel⟩
theorem cf_X9_107 : CallF RX9 107 yX8_cushionsDug cX8_cushionsDug 1 (some .int) 0 := ⟨cd_X8_cushionsDug, gtbl_of (List.mem_append_right _ (List.mem_of_getElem? (i := 910) (by decide +kernel))) rfl, ini_X8, by decide +kernel⟩
theorem cf_X9_110 : CallF RX9 110 yX8_slides cX8_slides 1 (some .int) 0 := ⟨cd_X8_slides, gtbl_of (List.mem_append_right _ (List.mem_of_getElem? (i := 911) (by decide +kernel))) rfl, ini_X8, by decide +kernel⟩
theorem cf_X9_112 : CallF RX9 112 yX8_found cX8_found 1 (some .int) 0 := ⟨cd_X8_found, gtbl_of (List.mem_append_right _ (List.mem_of_getElem? (i := 912) (by decide +kernel))) rfl, ini_X8, by decide +kernel⟩
theorem cf_X9_114 : CallF RX9 114 yX8_sureFinds cX8_sureFinds 1 (some .int) 0 := ⟨cd_X8_sureFinds, gtbl_of (List.mem_append_right _ (List.mem_of_getElem? (i := 913) (by decide +kernel))) rfl, ini_X8, by decide +kernel⟩
theorem cf_X9_117 : CallF RX9 117 yX8_props cX8_props 1 (some .int) 0 := ⟨cd_X8_props, gtbl_of (List.mem_append_right _ (List.mem_of_getElem? (i := 914) (by decide +kernel))) rfl, ini_X8, by decide +kernel⟩
theorem cf_X9_118 : CallF RX9 118 yX8_heightOf cX8_heightOf 2 (some .int) 1 := ⟨cd_X8_heightOf, gtbl_of (List.mem_append_right _ (List.mem_of_getElem? (i := 915) (by decide +kernel))) rfl, ini_X8, by decide +kernel⟩
theorem cf_X9_121 : CallF RX9 121 yX8_isPropped cX8_isPropped 2 (some .boolean) 1 := ⟨cd_X8_isPropped, gtbl_of (List.mem_append_right _ (List.mem_of_getElem? (i := 916) (by decide +kernel))) rfl, ini_X8, by decide +kernel⟩
theorem cf_X9_124 : CallF RX9 124 yX8_findsLeft cX8_findsLeft 2 (some .int) 1 := ⟨cd_X8_findsLeft, gtbl_of (List.mem_append_right _ (List.mem_of_getElem? (i := 917) (by decide +kernel))) rfl, ini_X8, by decide +kernel⟩
theorem cf_X9_127 : CallF RX9 127 yX9_left cX9_left 7 (some .int) 1 := ⟨cd_X9_left, gtbl_of (List.mem_append_right _ (List.mem_of_getElem? (i := 918) (by decide +kernel))) rfl, ini_X9, by decide +kernel⟩
theorem cf_X9_130 : CallF RX9 130 yX8_topStratum cX8_topStratum 2 (some .int) 1 := ⟨cd_X8_topStratum, gtbl_of (List.mem_append_right _ (List.mem_of_getElem? (i := 922) (by decide +kernel))) rfl, ini_X8, by decide +kernel⟩
theorem cf_X9_133 : CallF RX9 133 yX8_isTopLoose cX8_isTopLoose 2 (some .boolean) 1 := ⟨cd_X8_isTopLoose, gtbl_of (List.mem_append_right _ (List.mem_of_getElem? (i := 923) (by decide +kernel))) rfl, ini_X8, by decide +kernel⟩
theorem cf_X9_136 : CallF RX9 136 yX8_hasTopSpring cX8_hasTopSpring 2 (some .boolean) 1 := ⟨cd_X8_hasTopSpring, gtbl_of (List.mem_append_right _ (List.mem_of_getElem? (i := 924) (by decide +kernel))) rfl, ini_X8, by decide +kernel⟩
theorem cf_X9_139 : CallF RX9 139 yX8_buriedUnder cX8_buriedUnder 2 (some .int) 1 := ⟨cd_X8_buriedUnder, gtbl_of (List.mem_append_right _ (List.mem_of_getElem? (i := 925) (by decide +kernel))) rfl, ini_X8, by decide +kernel⟩
theorem cf_X9_142 : CallF RX9 142 yX8_isCoin cX8_isCoin 2 (some .boolean) 1 := ⟨cd_X8_isCoin, gtbl_of (List.mem_append_right _ (List.mem_of_getElem? (i := 926) (by decide +kernel))) rfl, ini_X8, by decide +kernel⟩
theorem cf_X9_145 : CallF RX9 145 yX8_isFound cX8_isFound 2 (some .boolean) 1 := ⟨cd_X8_isFound, gtbl_of (List.mem_append_right _ (List.mem_of_getElem? (i := 927) (by decide +kernel))) rfl, ini_X8, by decide +kernel⟩
theorem cf_X9_148 : CallF RX9 148 yX8_isSure cX8_isSure 2 (some .boolean) 1 := ⟨cd_X8_isSure, gtbl_of (List.mem_append_right _ (List.mem_of_getElem? (i := 928) (by decide +kernel))) rfl, ini_X8, by decide +kernel⟩
theorem cf_X9_151 : CallF RX9 151 yX8_stratumOf cX8_stratumOf 2 (some .int) 1 := ⟨cd_X8_stratumOf, gtbl_of (List.mem_append_right _ (List.mem_of_getElem? (i := 929) (by decide +kernel))) rfl, ini_X8, by decide +kernel⟩
theorem cf_X9_154 : CallF RX9 154 yX8_yearOf cX8_yearOf 2 (some .int) 1 := ⟨cd_X8_yearOf, gtbl_of (List.mem_append_right _ (List.mem_of_getElem? (i := 930) (by decide +kernel))) rfl, ini_X8, by decide +kernel⟩
theorem cf_X8_165 : CallF RX8 165 yX7_coinYear cX7_coinYear 2 (some .int) 1 := ⟨cd_X7_coinYear, gtbl_of (List.mem_append_right _ (List.mem_of_getElem? (i := 935) (by decide +kernel))) rfl, ini_X7, by decide +kernel⟩
theorem cf_X9_157 : CallF RX9 157 yX8_empireOf cX8_empireOf 2 (some .int) 1 := ⟨cd_X8_empireOf, gtbl_of (List.mem_append_right _ (List.mem_of_getElem? (i := 936) (by decide +kernel))) rfl, ini_X8, by decide +kernel⟩
theorem cf_X9_160 : CallF RX9 160 yX8_notBefore cX8_notBefore 2 (some .int) 1 := ⟨cd_X8_notBefore, gtbl_of (List.mem_append_right _ (List.mem_of_getElem? (i := 937) (by decide +kernel))) rfl, ini_X8, by decide +kernel⟩
theorem cf_X9_163 : CallF RX9 163 yX9_notBefore cX9_notBefore 8 (some .int) 1 := ⟨cd_X9_notBefore, gtbl_of (List.mem_append_right _ (List.mem_of_getElem? (i := 938) (by decide +kernel))) rfl, ini_X9, by decide +kernel⟩
theorem cf_X9_164 : CallF RX9 164 yX8_isMixed cX8_isMixed 2 (some .boolean) 1 := ⟨cd_X8_isMixed, gtbl_of (List.mem_append_right _ (List.mem_of_getElem? (i := 942) (by decide +kernel))) rfl, ini_X8, by decide +kernel⟩
theorem cf_X9_167 : CallF RX9 167 yX9_isMixed cX9_isMixed 4 (some .boolean) 1 := ⟨cd_X9_isMixed, gtbl_of (List.mem_append_right _ (List.mem_of_getElem? (i := 943) (by decide +kernel))) rfl, ini_X9, by decide +kernel⟩
theorem cf_X9_61 : CallF RX9 61 yX9_isSeenIn cX9_isSeenIn 7 (some .boolean) 2 := ⟨cd_X9_isSeenIn, gtbl_of (List.mem_append_right _ (List.mem_of_getElem? (i := 947) (by decide +kernel))) rfl, ini_X9, by decide +kernel⟩
theorem cf_X9_168 : CallF RX9 168 yX8_isSeenIn cX8_isSeenIn 3 (some .boolean) 2 := ⟨cd_X8_isSeenIn, gtbl_of (List.mem_append_right _ (List.mem_of_getElem? (i := 951) (by decide +kernel))) rfl, ini_X8, by decide +kernel⟩
theorem cf_X9_169 : CallF RX9 169 yX8_meanYear cX8_meanYear 4 (some .double) 0 := ⟨cd_X8_meanYear, gtbl_of (List.mem_append_right _ (List.mem_of_getElem? (i := 952) (by decide +kernel))) rfl, ini_X8, by decide +kernel⟩
theorem cf_L_35 : CallF RL 35 yL_below cL_below 2 (some .int) 2 := ⟨cd_L_below, gtbl_of (List.mem_append_right _ (List.mem_of_getElem? (i := 956) (by decide +kernel))) rfl, ini_L, by decide +kernel⟩
theorem cf_L_63 : CallF RL 63 yL_cell cL_cell 2 (some .int) 2 := ⟨cd_L_cell, gtbl_of (List.mem_append_right _ (List.mem_of_getElem? (i := 960) (by decide +kernel))) rfl, ini_L, by decide +kernel⟩
theorem cf_L_185 : CallF RL 185 yL_taught cL_taught 6 (some .int) 2 := ⟨cd_L_taught, gtbl_of (List.mem_append_right _ (List.mem_of_getElem? (i := 964) (by decide +kernel))) rfl, ini_L, by decide +kernel⟩
theorem cf_L_9 : CallF RL 9 yJ0_length_8abf5 cJ0_length_8abf5 1 (some .int) 0 := ⟨cd_J0_length_8abf5, gtbl_of (List.mem_append_right _ (List.mem_of_getElem? (i := 967) (by decide +kernel))) rfl, ini_J0, by decide +kernel⟩
theorem cf_J0_335 : CallF RJ0 335 yJ0_coder_7d493 cJ0_coder_7d493 1 (some .byte) 0 := ⟨cd_J0_coder_7d493, gtbl_of (List.mem_append_right _ (List.mem_of_getElem? (i := 971) (by decide +kernel))) rfl, ini_J0, by decide +kernel⟩
theorem cf_L_15 : CallF RL 15 yJ0_charAt_5068e cJ0_charAt_5068e 2 (some .char) 1 := ⟨cd_J0_charAt_5068e, gtbl_of (List.mem_append_right _ (List.mem_of_getElem? (i := 977) (by decide +kernel))) rfl, ini_J0, by decide +kernel⟩
theorem cf_J0_492 : CallF RJ0 492 yJ0_isLatin1_aae02 cJ0_isLatin1_aae02 1 (some .boolean) 0 := ⟨cd_J0_isLatin1_aae02, gtbl_of (List.mem_append_right _ (List.mem_of_getElem? (i := 981) (by decide +kernel))) rfl, ini_J0, by decide +kernel⟩
theorem cf_J0_495 : CallF RJ0 495 yJ1_charAt_3b067 cJ1_charAt_3b067 2 (some .char) 2 := ⟨cd_J1_charAt_3b067, gtbl_of (List.mem_append_right _ (List.mem_of_getElem? (i := 985) (by decide +kernel))) rfl, ini_J1, by decide +kernel⟩
theorem cf_J1_9 : CallF RJ1 9 yJ0_checkIndex_df160 cJ0_checkIndex_df160 2 none 2 := ⟨cd_J0_checkIndex_df160, gtbl_of (List.mem_append_right _ (List.mem_of_getElem? (i := 988) (by decide +kernel))) rfl, ini_J0, by decide +kernel⟩
theorem cf_J0_1059 : CallF RJ0 1059 yJ3_checkIndex_8e157 cJ3_checkIndex_8e157 3 (some .int) 3 := ⟨cd_J3_checkIndex_8e157, gtbl_of (List.mem_append_right _ (List.mem_of_getElem? (i := 993) (by decide +kernel))) rfl, ini_J3, by decide +kernel⟩
theorem cf_J0_498 : CallF RJ0 498 yJ2_charAt_3b067 cJ2_charAt_3b067 2 (some .char) 2 := ⟨cd_J2_charAt_3b067, gtbl_of (List.mem_append_right _ (List.mem_of_getElem? (i := 996) (by decide +kernel))) rfl, ini_J2, by decide +kernel⟩
theorem cf_J2_67 : CallF RJ2 67 yJ2_checkIndex_2214a cJ2_checkIndex_2214a 2 none 2 := ⟨cd_J2_checkIndex_2214a, gtbl_of (List.mem_append_right _ (List.mem_of_getElem? (i := 999) (by decide +kernel))) rfl, ini_J2, by decide +kernel⟩
theorem cf_J2_48 : CallF RJ2 48 yJ2_length_9d52b cJ2_length_9d52b 1 (some .int) 1 := ⟨cd_J2_length_9d52b, gtbl_of (List.mem_append_right _ (List.mem_of_getElem? (i := 1002) (by decide +kernel))) rfl, ini_J2, by decide +kernel⟩
theorem cf_J2_414 : CallF RJ2 414 yJ0_checkIndex_df160 cJ0_checkIndex_df160 2 none 2 := ⟨cd_J0_checkIndex_df160, gtbl_of (List.mem_append_right _ (List.mem_of_getElem? (i := 1005) (by decide +kernel))) rfl, ini_J0, by decide +kernel⟩
theorem cf_J2_71 : CallF RJ2 71 yJ2_getChar_3b067 cJ2_getChar_3b067 2 (some .char) 2 := ⟨cd_J2_getChar_3b067, gtbl_of (List.mem_append_right _ (List.mem_of_getElem? (i := 1006) (by decide +kernel))) rfl, ini_J2, by decide +kernel⟩
theorem cf_L_19 : CallF RL 19 yX8_feed cX8_feed 6 (some .int) 5 := ⟨cd_X8_feed, gtbl_of (List.mem_append_right _ (List.mem_of_getElem? (i := 1015) (by decide +kernel))) rfl, ini_X8, by decide +kernel⟩
theorem cf_X8_65 : CallF RX8 65 yX5_append cX5_append 3 none 1 := ⟨cd_X5_append, gtbl_of (List.mem_append_right _ (List.mem_of_getElem? (i := 1020) (by decide +kernel))) rfl, ini_X5, by decide +kernel⟩
theorem cf_L_25 : CallF RL 25 yX8_trim cX8_trim 2 (some .int) 1 := ⟨cd_X8_trim, gtbl_of (List.mem_append_right _ (List.mem_of_getElem? (i := 1024) (by decide +kernel))) rfl, ini_X8, by decide +kernel⟩
theorem cf_L_29 : CallF RL 29 yX8_teach cX8_teach 2 (some .int) 0 := ⟨cd_X8_teach, gtbl_of (List.mem_append_right _ (List.mem_of_getElem? (i := 1029) (by decide +kernel))) rfl, ini_X8, by decide +kernel⟩
theorem cf_X8_74 : CallF RX8 74 yX3_read cX3_read 2 (some .int) 0 := ⟨cd_X3_read, gtbl_of (List.mem_append_right _ (List.mem_of_getElem? (i := 1033) (by decide +kernel))) rfl, ini_X3, by decide +kernel⟩
theorem cf_X3_34 : CallF RX3 34 yX7_clear cX7_clear 2 none 0 := ⟨cd_X7_clear, gtbl_of (List.mem_append_right _ (List.mem_of_getElem? (i := 1037) (by decide +kernel))) rfl, ini_X7, by decide +kernel⟩
theorem cf_X3_37 : CallF RX3 37 yX6_readAll cX6_readAll 2 none 0 := ⟨cd_X6_readAll, gtbl_of (List.mem_append_right _ (List.mem_of_getElem? (i := 1038) (by decide +kernel))) rfl, ini_X6, by decide +kernel⟩
theorem cf_X6_38 : CallF RX6 38 yX6_skipBlanks cX6_skipBlanks 2 none 0 := ⟨cd_X6_skipBlanks, gtbl_of (List.mem_append_right _ (List.mem_of_getElem? (i := 1042) (by decide +kernel))) rfl, ini_X6, by decide +kernel⟩
theorem cf_X6_41 : CallF RX6 41 yX5_byteAt cX5_byteAt 2 (some .int) 1 := ⟨cd_X5_byteAt, gtbl_of (List.mem_append_right _ (List.mem_of_getElem? (i := 1046) (by decide +kernel))) rfl, ini_X5, by decide +kernel⟩
theorem cf_X6_71 : CallF RX6 71 yX6_isBlank cX6_isBlank 1 (some .boolean) 1 := ⟨cd_X6_isBlank, gtbl_of (List.mem_append_right _ (List.mem_of_getElem? (i := 1050) (by decide +kernel))) rfl, ini_X6, by decide +kernel⟩
theorem cf_X6_47 : CallF RX6 47 yX6_readToken cX6_readToken 3 (some .int) 1 := ⟨cd_X6_readToken, gtbl_of (List.mem_append_right _ (List.mem_of_getElem? (i := 1053) (by decide +kernel))) rfl, ini_X6, by decide +kernel⟩
theorem cf_X6_50 : CallF RX6 50 yX6_isLetter cX6_isLetter 1 (some .boolean) 1 := ⟨cd_X6_isLetter, gtbl_of (List.mem_append_right _ (List.mem_of_getElem? (i := 1057) (by decide +kernel))) rfl, ini_X6, by decide +kernel⟩
theorem cf_X6_54 : CallF RX6 54 yX6_readWord cX6_readWord 5 (some .int) 0 := ⟨cd_X6_readWord, gtbl_of (List.mem_append_right _ (List.mem_of_getElem? (i := 1060) (by decide +kernel))) rfl, ini_X6, by decide +kernel⟩
theorem cf_X6_74 : CallF RX6 74 yX6_isOfWord cX6_isOfWord 1 (some .boolean) 1 := ⟨cd_X6_isOfWord, gtbl_of (List.mem_append_right _ (List.mem_of_getElem? (i := 1064) (by decide +kernel))) rfl, ini_X6, by decide +kernel⟩
theorem cf_X6_58 : CallF RX6 58 yX6_isDigit cX6_isDigit 1 (some .boolean) 1 := ⟨cd_X6_isDigit, gtbl_of (List.mem_append_right _ (List.mem_of_getElem? (i := 1067) (by decide +kernel))) rfl, ini_X6, by decide +kernel⟩
theorem cf_X6_79 : CallF RX6 79 yX6_numberOfSign cX6_numberOfSign 1 (some .int) 1 := ⟨cd_X6_numberOfSign, gtbl_of (List.mem_append_right _ (List.mem_of_getElem? (i := 1071) (by decide +kernel))) rfl, ini_X6, by decide +kernel⟩
theorem cf_X6_82 : CallF RX6 82 yX0_ofWord cX0_ofWord 4 (some .int) 3 := ⟨cd_X0_ofWord, gtbl_of (List.mem_append_right _ (List.mem_of_getElem? (i := 1074) (by decide +kernel))) rfl, ini_X0, by decide +kernel⟩
theorem cf_X0_11 : CallF RX0 11 yJ0_length_8abf5 cJ0_length_8abf5 1 (some .int) 0 := ⟨cd_J0_length_8abf5, gtbl_of (List.mem_append_right _ (List.mem_of_getElem? (i := 1078) (by decide +kernel))) rfl, ini_J0, by decide +kernel⟩
theorem cf_X0_17 : CallF RX0 17 yX0_isWord cX0_isWord 5 (some .boolean) 4 := ⟨cd_X0_isWord, gtbl_of (List.mem_append_right _ (List.mem_of_getElem? (i := 1079) (by decide +kernel))) rfl, ini_X0, by decide +kernel⟩
theorem cf_X0_21 : CallF RX0 21 yJ0_charAt_5068e cJ0_charAt_5068e 2 (some .char) 1 := ⟨cd_J0_charAt_5068e, gtbl_of (List.mem_append_right _ (List.mem_of_getElem? (i := 1082) (by decide +kernel))) rfl, ini_J0, by decide +kernel⟩
theorem cf_X0_25 : CallF RX0 25 yX5_byteAt cX5_byteAt 2 (some .int) 1 := ⟨cd_X5_byteAt, gtbl_of (List.mem_append_right _ (List.mem_of_getElem? (i := 1083) (by decide +kernel))) rfl, ini_X5, by decide +kernel⟩
theorem cf_X6_61 : CallF RX6 61 yX6_readNumber cX6_readNumber 4 (some .int) 0 := ⟨cd_X6_readNumber, gtbl_of (List.mem_append_right _ (List.mem_of_getElem? (i := 1084) (by decide +kernel))) rfl, ini_X6, by decide +kernel⟩
theorem cf_X6_64 : CallF RX6 64 yX0_ofSign cX0_ofSign 3 (some .int) 2 := ⟨cd_X0_ofSign, gtbl_of (List.mem_append_right _ (List.mem_of_getElem? (i := 1088) (by decide +kernel))) rfl, ini_X0, by decide +kernel⟩
theorem cf_X6_68 : CallF RX6 68 yX0_lengthOfSign cX0_lengthOfSign 1 (some .int) 1 := ⟨cd_X0_lengthOfSign, gtbl_of (List.mem_append_right _ (List.mem_of_getElem? (i := 1092) (by decide +kernel))) rfl, ini_X0, by decide +kernel⟩
theorem cf_X3_50 : CallF RX3 50 yX3_readSize cX3_readSize 3 none 0 := ⟨cd_X3_readSize, gtbl_of (List.mem_append_right _ (List.mem_of_getElem? (i := 1095) (by decide +kernel))) rfl, ini_X3, by decide +kernel⟩
theorem cf_X3_58 : CallF RX3 58 yX3_expect cX3_expect 2 none 1 := ⟨cd_X3_expect, gtbl_of (List.mem_append_right _ (List.mem_of_getElem? (i := 1099) (by decide +kernel))) rfl, ini_X3, by decide +kernel⟩
theorem cf_X3_68 : CallF RX3 68 yX3_advance cX3_advance 1 none 0 := ⟨cd_X3_advance, gtbl_of (List.mem_append_right _ (List.mem_of_getElem? (i := 1103) (by decide +kernel))) rfl, ini_X3, by decide +kernel⟩
theorem cf_X3_71 : CallF RX3 71 yX3_refuse cX3_refuse 1 none 0 := ⟨cd_X3_refuse, gtbl_of (List.mem_append_right _ (List.mem_of_getElem? (i := 1107) (by decide +kernel))) rfl, ini_X3, by decide +kernel⟩
theorem cf_X3_80 : CallF RX3 80 yX3_expectNumber cX3_expectNumber 4 (some .int) 2 := ⟨cd_X3_expectNumber, gtbl_of (List.mem_append_right _ (List.mem_of_getElem? (i := 1111) (by decide +kernel))) rfl, ini_X3, by decide +kernel⟩
theorem cf_X3_77 : CallF RX3 77 yX3_complain cX3_complain 2 none 1 := ⟨cd_X3_complain, gtbl_of (List.mem_append_right _ (List.mem_of_getElem? (i := 1115) (by decide +kernel))) rfl, ini_X3, by decide +kernel⟩
theorem cf_X3_84 : CallF RX3 84 yX7_resize cX7_resize 3 none 2 := ⟨cd_X7_resize, gtbl_of (List.mem_append_right _ (List.mem_of_getElem? (i := 1119) (by decide +kernel))) rfl, ini_X7, by decide +kernel⟩
theorem cf_X3_55 : CallF RX3 55 yX3_readLine cX3_readLine 1 none 0 := ⟨cd_X3_readLine, gtbl_of (List.mem_append_right _ (List.mem_of_getElem? (i := 1120) (by decide +kernel))) rfl, ini_X3, by decide +kernel⟩
theorem cf_X3_88 : CallF RX3 88 yX3_readEmpire cX3_readEmpire 5 none 0 := ⟨cd_X3_readEmpire, gtbl_of (List.mem_append_right _ (List.mem_of_getElem? (i := 1124) (by decide +kernel))) rfl, ini_X3, by decide +kernel⟩
theorem cf_X3_107 : CallF RX3 107 yX7_empireNamed cX7_empireNamed 4 (some .int) 1 := ⟨cd_X7_empireNamed, gtbl_of (List.mem_append_right _ (List.mem_of_getElem? (i := 1128) (by decide +kernel))) rfl, ini_X7, by decide +kernel⟩
theorem cf_X3_114 : CallF RX3 114 yX7_addEmpire cX7_addEmpire 5 none 3 := ⟨cd_X7_addEmpire, gtbl_of (List.mem_append_right _ (List.mem_of_getElem? (i := 1132) (by decide +kernel))) rfl, ini_X7, by decide +kernel⟩
theorem cf_X3_91 : CallF RX3 91 yX3_readCoin cX3_readCoin 3 none 0 := ⟨cd_X3_readCoin, gtbl_of (List.mem_append_right _ (List.mem_of_getElem? (i := 1136) (by decide +kernel))) rfl, ini_X3, by decide +kernel⟩
theorem cf_X3_118 : CallF RX3 118 yX3_startFind cX3_startFind 1 none 0 := ⟨cd_X3_startFind, gtbl_of (List.mem_append_right _ (List.mem_of_getElem? (i := 1140) (by decide +kernel))) rfl, ini_X3, by decide +kernel⟩
theorem cf_X3_121 : CallF RX3 121 yX3_readPlace cX3_readPlace 4 (some .int) 1 := ⟨cd_X3_readPlace, gtbl_of (List.mem_append_right _ (List.mem_of_getElem? (i := 1144) (by decide +kernel))) rfl, ini_X3, by decide +kernel⟩
theorem cf_X3_142 : CallF RX3 142 yX7_cushionTold cX7_cushionTold 3 (some .int) 2 := ⟨cd_X7_cushionTold, gtbl_of (List.mem_append_right _ (List.mem_of_getElem? (i := 1148) (by decide +kernel))) rfl, ini_X7, by decide +kernel⟩
theorem cf_X3_145 : CallF RX3 145 yX7_hasSpring cX7_hasSpring 2 (some .boolean) 1 := ⟨cd_X7_hasSpring, gtbl_of (List.mem_append_right _ (List.mem_of_getElem? (i := 1152) (by decide +kernel))) rfl, ini_X7, by decide +kernel⟩
theorem cf_X3_149 : CallF RX3 149 yX7_findIn cX7_findIn 2 (some .int) 1 := ⟨cd_X7_findIn, gtbl_of (List.mem_append_right _ (List.mem_of_getElem? (i := 1153) (by decide +kernel))) rfl, ini_X7, by decide +kernel⟩
theorem cf_X3_125 : CallF RX3 125 yX7_addFind cX7_addFind 4 none 3 := ⟨cd_X7_addFind, gtbl_of (List.mem_append_right _ (List.mem_of_getElem? (i := 1154) (by decide +kernel))) rfl, ini_X7, by decide +kernel⟩
theorem cf_X3_94 : CallF RX3 94 yX3_readCrumbs cX3_readCrumbs 3 none 0 := ⟨cd_X3_readCrumbs, gtbl_of (List.mem_append_right _ (List.mem_of_getElem? (i := 1158) (by decide +kernel))) rfl, ini_X3, by decide +kernel⟩
theorem cf_X3_129 : CallF RX3 129 yX3_readKnownEmpire cX3_readKnownEmpire 2 (some .int) 0 := ⟨cd_X3_readKnownEmpire, gtbl_of (List.mem_append_right _ (List.mem_of_getElem? (i := 1162) (by decide +kernel))) rfl, ini_X3, by decide +kernel⟩
theorem cf_X3_97 : CallF RX3 97 yX3_readSpring cX3_readSpring 2 none 0 := ⟨cd_X3_readSpring, gtbl_of (List.mem_append_right _ (List.mem_of_getElem? (i := 1166) (by decide +kernel))) rfl, ini_X3, by decide +kernel⟩
theorem cf_X3_136 : CallF RX3 136 yX7_addSpring cX7_addSpring 2 none 1 := ⟨cd_X7_addSpring, gtbl_of (List.mem_append_right _ (List.mem_of_getElem? (i := 1170) (by decide +kernel))) rfl, ini_X7, by decide +kernel⟩
theorem cf_X3_100 : CallF RX3 100 yX3_readOrder cX3_readOrder 3 none 0 := ⟨cd_X3_readOrder, gtbl_of (List.mem_append_right _ (List.mem_of_getElem? (i := 1174) (by decide +kernel))) rfl, ini_X3, by decide +kernel⟩
theorem cf_X3_165 : CallF RX3 165 yX3_readSum cX3_readSum 4 none 1 := ⟨cd_X3_readSum, gtbl_of (List.mem_append_right _ (List.mem_of_getElem? (i := 1178) (by decide +kernel))) rfl, ini_X3, by decide +kernel⟩
theorem cf_X3_193 : CallF RX3 193 yX3_readProduct cX3_readProduct 4 none 1 := ⟨cd_X3_readProduct, gtbl_of (List.mem_append_right _ (List.mem_of_getElem? (i := 1182) (by decide +kernel))) rfl, ini_X3, by decide +kernel⟩
theorem cf_X3_196 : CallF RX3 196 yX3_readValue cX3_readValue 3 none 1 := ⟨cd_X3_readValue, gtbl_of (List.mem_append_right _ (List.mem_of_getElem? (i := 1186) (by decide +kernel))) rfl, ini_X3, by decide +kernel⟩
theorem cf_X3_180 : CallF RX3 180 yX1_addStep cX1_addStep 3 none 2 := ⟨cd_X1_addStep, gtbl_of (List.mem_append_right _ (List.mem_of_getElem? (i := 1190) (by decide +kernel))) rfl, ini_X1, by decide +kernel⟩
theorem cf_X3_199 : CallF RX3 199 yX3_readEnclosed cX3_readEnclosed 2 none 1 := ⟨cd_X3_readEnclosed, gtbl_of (List.mem_append_right _ (List.mem_of_getElem? (i := 1194) (by decide +kernel))) rfl, ini_X3, by decide +kernel⟩
theorem cf_X3_186 : CallF RX3 186 yX3_goesDeeper cX3_goesDeeper 3 (some .boolean) 2 := ⟨cd_X3_goesDeeper, gtbl_of (List.mem_append_right _ (List.mem_of_getElem? (i := 1198) (by decide +kernel))) rfl, ini_X3, by decide +kernel⟩
theorem cf_X3_202 : CallF RX3 202 yX3_readPair cX3_readPair 2 none 1 := ⟨cd_X3_readPair, gtbl_of (List.mem_append_right _ (List.mem_of_getElem? (i := 1202) (by decide +kernel))) rfl, ini_X3, by decide +kernel⟩
theorem cf_X3_171 : CallF RX3 171 yX3_readTest cX3_readTest 3 none 1 := ⟨cd_X3_readTest, gtbl_of (List.mem_append_right _ (List.mem_of_getElem? (i := 1206) (by decide +kernel))) rfl, ini_X3, by decide +kernel⟩
theorem cf_X3_177 : CallF RX3 177 yX3_readBoth cX3_readBoth 3 none 1 := ⟨cd_X3_readBoth, gtbl_of (List.mem_append_right _ (List.mem_of_getElem? (i := 1210) (by decide +kernel))) rfl, ini_X3, by decide +kernel⟩
theorem cf_X3_183 : CallF RX3 183 yX3_readSingle cX3_readSingle 3 none 1 := ⟨cd_X3_readSingle, gtbl_of (List.mem_append_right _ (List.mem_of_getElem? (i := 1214) (by decide +kernel))) rfl, ini_X3, by decide +kernel⟩
theorem cf_X3_190 : CallF RX3 190 yX3_expectComparison cX3_expectComparison 1 none 0 := ⟨cd_X3_expectComparison, gtbl_of (List.mem_append_right _ (List.mem_of_getElem? (i := 1218) (by decide +kernel))) rfl, ini_X3, by decide +kernel⟩
theorem cf_X3_174 : CallF RX3 174 yX1_addOrder cX1_addOrder 3 none 2 := ⟨cd_X1_addOrder, gtbl_of (List.mem_append_right _ (List.mem_of_getElem? (i := 1222) (by decide +kernel))) rfl, ini_X1, by decide +kernel⟩
theorem cf_X8_78 : CallF RX8 78 yX3_errorPlace cX3_errorPlace 1 (some .int) 0 := ⟨cd_X3_errorPlace, gtbl_of (List.mem_append_right _ (List.mem_of_getElem? (i := 1226) (by decide +kernel))) rfl, ini_X3, by decide +kernel⟩
theorem cf_X8_80 : CallF RX8 80 yX3_exchange cX3_exchange 3 (some (Jvm.ClassFile.FieldType.object "SofaDig$Told")) 1 := ⟨cd_X3_exchange, gtbl_of (List.mem_append_right _ (List.mem_of_getElem? (i := 1230) (by decide +kernel))) rfl, ini_X3, by decide +kernel⟩
theorem cf_X8_84 : CallF RX8 84 yX4_begin cX4_begin 3 none 1 := ⟨cd_X4_begin, gtbl_of (List.mem_append_right _ (List.mem_of_getElem? (i := 1234) (by decide +kernel))) rfl, ini_X4, by decide +kernel⟩
theorem cf_L_181 : CallF RL 181 yL_told cL_told 13 (some (Jvm.ClassFile.FieldType.object "SofaDigLaw$Sim")) 2 := ⟨cd_L_told, gtbl_of (List.mem_append_right _ (List.mem_of_getElem? (i := 1235) (by decide +kernel))) rfl, ini_L, by decide +kernel⟩
theorem cf_L_67 : CallF RL 67 yX9_of cX9_of 5 (some (Jvm.ClassFile.FieldType.object "SofaDigLaw$Sim")) 2 := ⟨cd_X9_of, gtbl_of (List.mem_append_right _ (List.mem_of_getElem? (i := 1238) (by decide +kernel))) rfl, ini_X9, by decide +kernel⟩
theorem cf_X9_43 : CallF RX9 43 yX9_init cX9_init 1 none 0 := ⟨cd_X9_init, gtbl_of (List.mem_append_right _ (List.mem_of_getElem? (i := 1242) (by decide +kernel))) rfl, ini_X9, by decide +kernel⟩
theorem cf_L_75 : CallF RL 75 yJ4_append_15ec4 cJ4_append_15ec4 2 (some (Jvm.ClassFile.FieldType.object "java/lang/StringBuilder")) 1 := ⟨cd_J4_append_15ec4, gtbl_of (List.mem_append_right _ (List.mem_of_getElem? (i := 1300) (by decide +kernel))) rfl, ini_J4, by decide +kernel⟩
theorem cf_J4_29 : CallF RJ4 29 yJ5_append_cf1ce cJ5_append_cf1ce 3 (some (Jvm.ClassFile.FieldType.object "java/lang/AbstractStringBuilder")) 1 := ⟨cd_J5_append_cf1ce, gtbl_of (List.mem_append_right _ (List.mem_of_getElem? (i := 1304) (by decide +kernel))) rfl, ini_J5, by decide +kernel⟩
theorem cf_J5_204 : CallF RJ5 204 yJ5_appendNull_278bc cJ5_appendNull_278bc 3 (some (Jvm.ClassFile.FieldType.object "java/lang/AbstractStringBuilder")) 0 := ⟨cd_J5_appendNull_278bc, gtbl_of (List.mem_append_right _ (List.mem_of_getElem? (i := 1308) (by decide +kernel))) rfl, ini_J5, by decide +kernel⟩
theorem cf_J5_100 : CallF RJ5 100 yJ5_ensureCapacityInternal_d00df cJ5_ensureCapacityInternal_d00df 3 none 1 := ⟨cd_J5_ensureCapacityInternal_d00df, gtbl_of (List.mem_append_right _ (List.mem_of_getElem? (i := 1312) (by decide +kernel))) rfl, ini_J5, by decide +kernel⟩
theorem cf_J5_104 : CallF RJ5 104 yJ5_newCapacity_0f7a4 cJ5_newCapacity_0f7a4 6 (some .int) 1 := ⟨cd_J5_newCapacity_0f7a4, gtbl_of (List.mem_append_right _ (List.mem_of_getElem? (i := 1316) (by decide +kernel))) rfl, ini_J5, by decide +kernel⟩
theorem cf_J5_114 : CallF RJ5 114 yJ8_newLength_cabcc cJ8_newLength_cabcc 4 (some .int) 3 := ⟨cd_J8_newLength_cabcc, gtbl_of (List.mem_append_right _ (List.mem_of_getElem? (i := 1320) (by decide +kernel))) rfl, ini_J8, by decide +kernel⟩
theorem cf_J8_194 : CallF RJ8 194 yJ9_max_7cf53 cJ9_max_7cf53 2 (some .int) 2 := ⟨cd_J9_max_7cf53, gtbl_of (List.mem_append_right _ (List.mem_of_getElem? (i := 1323) (by decide +kernel))) rfl, ini_J9, by decide +kernel⟩
theorem cf_J8_201 : CallF RJ8 201 yJ8_hugeLength_7cf53 cJ8_hugeLength_7cf53 3 (some .int) 2 := ⟨cd_J8_hugeLength_7cf53, gtbl_of (List.mem_append_right _ (List.mem_of_getElem? (i := 1325) (by decide +kernel))) rfl, ini_J8, by decide +kernel⟩
theorem cf_J5_108 : CallF RJ5 108 yJ7_copyOf_9075b cJ7_copyOf_9075b 3 (some (Jvm.ClassFile.FieldType.array Jvm.ClassFile.FieldType.byte)) 2 := ⟨cd_J7_copyOf_9075b, gtbl_of (List.mem_append_right _ (List.mem_of_getElem? (i := 1329) (by decide +kernel))) rfl, ini_J7, by decide +kernel⟩
theorem cf_J7_304 : CallF RJ7 304 yJ9_min_7cf53 cJ9_min_7cf53 2 (some .int) 2 := ⟨cd_J9_min_7cf53, gtbl_of (List.mem_append_right _ (List.mem_of_getElem? (i := 1339) (by decide +kernel))) rfl, ini_J9, by decide +kernel⟩
theorem cf_J5_83 : CallF RJ5 83 yJ5_isLatin1_aae02 cJ5_isLatin1_aae02 1 (some .boolean) 0 := ⟨cd_J5_isLatin1_aae02, gtbl_of (List.mem_append_right _ (List.mem_of_getElem? (i := 1343) (by decide +kernel))) rfl, ini_J5, by decide +kernel⟩
theorem cf_J5_226 : CallF RJ5 226 yJ2_putCharsAt_cd4e5 cJ2_putCharsAt_cd4e5 7 (some .int) 6 := ⟨cd_J2_putCharsAt_cd4e5, gtbl_of (List.mem_append_right _ (List.mem_of_getElem? (i := 1349) (by decide +kernel))) rfl, ini_J2, by decide +kernel⟩
theorem cf_J2_96 : CallF RJ2 96 yJ2_checkBoundsBeginEnd_d044e cJ2_checkBoundsBeginEnd_d044e 3 none 3 := ⟨cd_J2_checkBoundsBeginEnd_d044e, gtbl_of (List.mem_append_right _ (List.mem_of_getElem? (i := 1352) (by decide +kernel))) rfl, ini_J2, by decide +kernel⟩
theorem cf_J2_241 : CallF RJ2 241 yJ0_checkBoundsBeginEnd_23922 cJ0_checkBoundsBeginEnd_23922 3 none 3 := ⟨cd_J0_checkBoundsBeginEnd_23922, gtbl_of (List.mem_append_right _ (List.mem_of_getElem? (i := 1355) (by decide +kernel))) rfl, ini_J0, by decide +kernel⟩
theorem cf_J0_1062 : CallF RJ0 1062 yJ3_checkFromToIndex_8c36e cJ3_checkFromToIndex_8c36e 4 (some .int) 4 := ⟨cd_J3_checkFromToIndex_8c36e, gtbl_of (List.mem_append_right _ (List.mem_of_getElem? (i := 1358) (by decide +kernel))) rfl, ini_J3, by decide +kernel⟩
theorem cf_J2_111 : CallF RJ2 111 yJ2_putChar_b72d1 cJ2_putChar_b72d1 3 none 3 := ⟨cd_J2_putChar_b72d1, gtbl_of (List.mem_append_right _ (List.mem_of_getElem? (i := 1361) (by decide +kernel))) rfl, ini_J2, by decide +kernel⟩
theorem cf_J5_32 : CallF RJ5 32 yJ0_length_8abf5 cJ0_length_8abf5 1 (some .int) 0 := ⟨cd_J0_length_8abf5, gtbl_of (List.mem_append_right _ (List.mem_of_getElem? (i := 1364) (by decide +kernel))) rfl, ini_J0, by decide +kernel⟩
theorem cf_J5_208 : CallF RJ5 208 yJ5_putStringAt_47b60 cJ5_putStringAt_47b60 3 none 2 := ⟨cd_J5_putStringAt_47b60, gtbl_of (List.mem_append_right _ (List.mem_of_getElem? (i := 1365) (by decide +kernel))) rfl, ini_J5, by decide +kernel⟩
theorem cf_J5_397 : CallF RJ5 397 yJ5_inflateIfNeededFor_a7421 cJ5_inflateIfNeededFor_a7421 2 none 1 := ⟨cd_J5_inflateIfNeededFor_a7421, gtbl_of (List.mem_append_right _ (List.mem_of_getElem? (i := 1369) (by decide +kernel))) rfl, ini_J5, by decide +kernel⟩
theorem cf_J5_40 : CallF RJ5 40 yJ0_coder_7d493 cJ0_coder_7d493 1 (some .byte) 0 := ⟨cd_J0_coder_7d493, gtbl_of (List.mem_append_right _ (List.mem_of_getElem? (i := 1373) (by decide +kernel))) rfl, ini_J0, by decide +kernel⟩
theorem cf_J5_195 : CallF RJ5 195 yJ5_inflate_da8c8 cJ5_inflate_da8c8 2 none 0 := ⟨cd_J5_inflate_da8c8, gtbl_of (List.mem_append_right _ (List.mem_of_getElem? (i := 1374) (by decide +kernel))) rfl, ini_J5, by decide +kernel⟩
theorem cf_J5_26 : CallF RJ5 26 yJ2_newBytesFor_77867 cJ2_newBytesFor_77867 1 (some (Jvm.ClassFile.FieldType.array Jvm.ClassFile.FieldType.byte)) 1 := ⟨cd_J2_newBytesFor_77867, gtbl_of (List.mem_append_right _ (List.mem_of_getElem? (i := 1378) (by decide +kernel))) rfl, ini_J2, by decide +kernel⟩
theorem cf_J2_11 : CallF RJ2 11 yJ2_newBytesLength_0f7a4 cJ2_newBytesLength_0f7a4 1 (some .int) 1 := ⟨cd_J2_newBytesLength_0f7a4, gtbl_of (List.mem_append_right _ (List.mem_of_getElem? (i := 1381) (by decide +kernel))) rfl, ini_J2, by decide +kernel⟩
theorem cf_J5_125 : CallF RJ5 125 yJ1_inflate_0e8fd cJ1_inflate_0e8fd 5 none 5 := ⟨cd_J1_inflate_0e8fd, gtbl_of (List.mem_append_right _ (List.mem_of_getElem? (i := 1385) (by decide +kernel))) rfl, ini_J1, by decide +kernel⟩
theorem cf_J1_240 : CallF RJ1 240 yJ2_inflate_0e8fd cJ2_inflate_0e8fd 6 none 5 := ⟨cd_J2_inflate_0e8fd, gtbl_of (List.mem_append_right _ (List.mem_of_getElem? (i := 1388) (by decide +kernel))) rfl, ini_J2, by decide +kernel⟩
theorem cf_J2_173 : CallF RJ2 173 yJ2_checkBoundsOffCount_d044e cJ2_checkBoundsOffCount_d044e 3 none 3 := ⟨cd_J2_checkBoundsOffCount_d044e, gtbl_of (List.mem_append_right _ (List.mem_of_getElem? (i := 1391) (by decide +kernel))) rfl, ini_J2, by decide +kernel⟩
theorem cf_J2_419 : CallF RJ2 419 yJ0_checkBoundsOffCount_cabcc cJ0_checkBoundsOffCount_cabcc 3 (some .int) 3 := ⟨cd_J0_checkBoundsOffCount_cabcc, gtbl_of (List.mem_append_right _ (List.mem_of_getElem? (i := 1394) (by decide +kernel))) rfl, ini_J0, by decide +kernel⟩
theorem cf_J0_1065 : CallF RJ0 1065 yJ3_checkFromIndexSize_8c36e cJ3_checkFromIndexSize_8c36e 4 (some .int) 4 := ⟨cd_J3_checkFromIndexSize_8c36e, gtbl_of (List.mem_append_right _ (List.mem_of_getElem? (i := 1397) (by decide +kernel))) rfl, ini_J3, by decide +kernel⟩
theorem cf_J5_399 : CallF RJ5 399 yJ0_getBytes_840e7 cJ0_getBytes_840e7 4 none 3 := ⟨cd_J0_getBytes_840e7, gtbl_of (List.mem_append_right _ (List.mem_of_getElem? (i := 1400) (by decide +kernel))) rfl, ini_J0, by decide +kernel⟩
theorem cf_J0_106 : CallF RJ0 106 yJ1_inflate_0e8fd cJ1_inflate_0e8fd 5 none 5 := ⟨cd_J1_inflate_0e8fd, gtbl_of (List.mem_append_right _ (List.mem_of_getElem? (i := 1405) (by decide +kernel))) rfl, ini_J1, by decide +kernel⟩
theorem cf_L_81 : CallF RL 81 yJ4_append_bf812 cJ4_append_bf812 2 (some (Jvm.ClassFile.FieldType.object "java/lang/StringBuilder")) 1 := ⟨cd_J4_append_bf812, gtbl_of (List.mem_append_right _ (List.mem_of_getElem? (i := 1406) (by decide +kernel))) rfl, ini_J4, by decide +kernel⟩
theorem cf_J4_53 : CallF RJ4 53 yJ5_append_c97b9 cJ5_append_c97b9 4 (some (Jvm.ClassFile.FieldType.object "java/lang/AbstractStringBuilder")) 1 := ⟨cd_J5_append_c97b9, gtbl_of (List.mem_append_right _ (List.mem_of_getElem? (i := 1410) (by decide +kernel))) rfl, ini_J5, by decide +kernel⟩
theorem cf_J5_245 : CallF RJ5 245 yJ6_stringSize_0f7a4 cJ6_stringSize_0f7a4 4 (some .int) 1 := ⟨cd_J6_stringSize_0f7a4, gtbl_of (List.mem_append_right _ (List.mem_of_getElem? (i := 1413) (by decide +kernel))) rfl, ini_J6, by decide +kernel⟩
theorem cf_J5_248 : CallF RJ5 248 yJ6_getChars_ba4f3 cJ6_getChars_ba4f3 7 (some .int) 3 := ⟨cd_J6_getChars_ba4f3, gtbl_of (List.mem_append_right _ (List.mem_of_getElem? (i := 1416) (by decide +kernel))) rfl, ini_J6, by decide +kernel⟩
theorem cf_J5_251 : CallF RJ5 251 yJ2_getChars_46870 cJ2_getChars_46870 5 (some .int) 4 := ⟨cd_J2_getChars_46870, gtbl_of (List.mem_append_right _ (List.mem_of_getElem? (i := 1423) (by decide +kernel))) rfl, ini_J2, by decide +kernel⟩
theorem cf_J2_393 : CallF RJ2 393 yJ2_getChars_ba4f3 cJ2_getChars_ba4f3 7 (some .int) 3 := ⟨cd_J2_getChars_ba4f3, gtbl_of (List.mem_append_right _ (List.mem_of_getElem? (i := 1426) (by decide +kernel))) rfl, ini_J2, by decide +kernel⟩
theorem cf_L_92 : CallF RL 92 yX9_with cX9_with 4 (some (Jvm.ClassFile.FieldType.array (Jvm.ClassFile.FieldType.array Jvm.ClassFile.FieldType.int))) 2 := ⟨cd_X9_with, gtbl_of (List.mem_append_right _ (List.mem_of_getElem? (i := 1433) (by decide +kernel))) rfl, ini_X9, by decide +kernel⟩
theorem cf_L_108 : CallF RL 108 yJ4_init_da8c8 cJ4_init_da8c8 1 none 0 := ⟨cd_J4_init_da8c8, gtbl_of (List.mem_append_right _ (List.mem_of_getElem? (i := 1440) (by decide +kernel))) rfl, ini_J4, by decide +kernel⟩
theorem cf_J4_1 : CallF RJ4 1 yJ5_init_d00df cJ5_init_d00df 2 none 1 := ⟨cd_J5_init_d00df, gtbl_of (List.mem_append_right _ (List.mem_of_getElem? (i := 1443) (by decide +kernel))) rfl, ini_J5, by decide +kernel⟩
theorem cf_L_113 : CallF RL 113 yJ4_toString_0e30d cJ4_toString_0e30d 1 (some (Jvm.ClassFile.FieldType.object "java/lang/String")) 0 := ⟨cd_J4_toString_0e30d, gtbl_of (List.mem_append_right _ (List.mem_of_getElem? (i := 1461) (by decide +kernel))) rfl, ini_J4, by decide +kernel⟩
theorem cf_J4_137 : CallF RJ4 137 yJ0_init_81219 cJ0_init_81219 2 none 1 := ⟨cd_J0_init_81219, gtbl_of (List.mem_append_right _ (List.mem_of_getElem? (i := 1467) (by decide +kernel))) rfl, ini_J0, by decide +kernel⟩
theorem cf_J0_489 : CallF RJ0 489 yJ0_init_db425 cJ0_init_db425 5 none 2 := ⟨cd_J0_init_db425, gtbl_of (List.mem_append_right _ (List.mem_of_getElem? (i := 1470) (by decide +kernel))) rfl, ini_J0, by decide +kernel⟩
theorem cf_J0_552 : CallF RJ0 552 yJ5_getValue_6d5f1 cJ5_getValue_6d5f1 1 (some (Jvm.ClassFile.FieldType.array Jvm.ClassFile.FieldType.byte)) 0 := ⟨cd_J5_getValue_6d5f1, gtbl_of (List.mem_append_right _ (List.mem_of_getElem? (i := 1474) (by decide +kernel))) rfl, ini_J5, by decide +kernel⟩
theorem cf_J0_549 : CallF RJ0 549 yJ5_length_8abf5 cJ5_length_8abf5 1 (some .int) 0 := ⟨cd_J5_length_8abf5, gtbl_of (List.mem_append_right _ (List.mem_of_getElem? (i := 1479) (by decide +kernel))) rfl, ini_J5, by decide +kernel⟩
theorem cf_J4_343 : CallF RJ4 343 yJ5_length_8abf5 cJ5_length_8abf5 1 (some .int) 0 := ⟨cd_J5_length_8abf5, gtbl_of (List.mem_append_right _ (List.mem_of_getElem? (i := 1485) (by decide +kernel))) rfl, ini_J5, by decide +kernel⟩
theorem cf_J0_1047 : CallF RJ0 1047 yJ5_isLatin1_aae02 cJ5_isLatin1_aae02 1 (some .boolean) 0 := ⟨cd_J5_isLatin1_aae02, gtbl_of (List.mem_append_right _ (List.mem_of_getElem? (i := 1487) (by decide +kernel))) rfl, ini_J5, by decide +kernel⟩
theorem cf_J0_54 : CallF RJ0 54 yJ7_copyOfRange_39247 cJ7_copyOfRange_39247 3 (some (Jvm.ClassFile.FieldType.array Jvm.ClassFile.FieldType.byte)) 3 := ⟨cd_J7_copyOfRange_39247, gtbl_of (List.mem_append_right _ (List.mem_of_getElem? (i := 1488) (by decide +kernel))) rfl, ini_J7, by decide +kernel⟩
theorem cf_J7_339 : CallF RJ7 339 yJ7_copyOfRangeByte_39247 cJ7_copyOfRangeByte_39247 5 (some (Jvm.ClassFile.FieldType.array Jvm.ClassFile.FieldType.byte)) 3 := ⟨cd_J7_copyOfRangeByte_39247, gtbl_of (List.mem_append_right _ (List.mem_of_getElem? (i := 1491) (by decide +kernel))) rfl, ini_J7, by decide +kernel⟩
theorem cf_J7_343 : CallF RJ7 343 yJ7_checkLength_df160 cJ7_checkLength_df160 2 none 2 := ⟨cd_J7_checkLength_df160, gtbl_of (List.mem_append_right _ (List.mem_of_getElem? (i := 1494) (by decide +kernel))) rfl, ini_J7, by decide +kernel⟩
theorem cf_J0_1051 : CallF RJ0 1051 yJ2_compress_39247 cJ2_compress_39247 6 (some (Jvm.ClassFile.FieldType.array Jvm.ClassFile.FieldType.byte)) 3 := ⟨cd_J2_compress_39247, gtbl_of (List.mem_append_right _ (List.mem_of_getElem? (i := 1497) (by decide +kernel))) rfl, ini_J2, by decide +kernel⟩
theorem cf_J2_123 : CallF RJ2 123 yJ2_compress_5af95 cJ2_compress_5af95 7 (some .int) 5 := ⟨cd_J2_compress_5af95, gtbl_of (List.mem_append_right _ (List.mem_of_getElem? (i := 1500) (by decide +kernel))) rfl, ini_J2, by decide +kernel⟩
theorem cf_J2_126 : CallF RJ2 126 yJ7_copyOfRange_39247 cJ7_copyOfRange_39247 3 (some (Jvm.ClassFile.FieldType.array Jvm.ClassFile.FieldType.byte)) 3 := ⟨cd_J7_copyOfRange_39247, gtbl_of (List.mem_append_right _ (List.mem_of_getElem? (i := 1503) (by decide +kernel))) rfl, ini_J7, by decide +kernel⟩
theorem cf_J0_47 : CallF RJ0 47 yJ2_coderFromArrayLen_85cad cJ2_coderFromArrayLen_85cad 2 (some .byte) 2 := ⟨cd_J2_coderFromArrayLen_85cad, gtbl_of (List.mem_append_right _ (List.mem_of_getElem? (i := 1504) (by decide +kernel))) rfl, ini_J2, by decide +kernel⟩
theorem cf_L_49 : CallF RL 49 yL_sum cL_sum 5 (some (Jvm.ClassFile.FieldType.object "SofaDigLaw$Tree")) 3 := ⟨cd_L_sum, gtbl_of (List.mem_append_right _ (List.mem_of_getElem? (i := 1524) (by decide +kernel))) rfl, ini_L, by decide +kernel⟩
theorem cf_L_60 : CallF RL 60 yL_test cL_test 5 (some (Jvm.ClassFile.FieldType.object "SofaDigLaw$Tree")) 3 := ⟨cd_L_test, gtbl_of (List.mem_append_right _ (List.mem_of_getElem? (i := 1549) (by decide +kernel))) rfl, ini_L, by decide +kernel⟩
theorem cf_L_147 : CallF RL 147 yX10_text cX10_text 4 (some (Jvm.ClassFile.FieldType.object "java/lang/String")) 0 := ⟨cd_X10_text, gtbl_of (List.mem_append_right _ (List.mem_of_getElem? (i := 1555) (by decide +kernel))) rfl, ini_X10, by decide +kernel⟩
theorem cf_X10_105 : CallF RX10 105 yJ4_init_da8c8 cJ4_init_da8c8 1 none 0 := ⟨cd_J4_init_da8c8, gtbl_of (List.mem_append_right _ (List.mem_of_getElem? (i := 1580) (by decide +kernel))) rfl, ini_J4, by decide +kernel⟩
theorem cf_X10_106 : CallF RX10 106 yJ4_append_15ec4 cJ4_append_15ec4 2 (some (Jvm.ClassFile.FieldType.object "java/lang/StringBuilder")) 1 := ⟨cd_J4_append_15ec4, gtbl_of (List.mem_append_right _ (List.mem_of_getElem? (i := 1581) (by decide +kernel))) rfl, ini_J4, by decide +kernel⟩
theorem cf_X10_110 : CallF RX10 110 yJ4_append_bf812 cJ4_append_bf812 2 (some (Jvm.ClassFile.FieldType.object "java/lang/StringBuilder")) 1 := ⟨cd_J4_append_bf812, gtbl_of (List.mem_append_right _ (List.mem_of_getElem? (i := 1582) (by decide +kernel))) rfl, ini_J4, by decide +kernel⟩
theorem cf_X10_113 : CallF RX10 113 yJ4_toString_0e30d cJ4_toString_0e30d 1 (some (Jvm.ClassFile.FieldType.object "java/lang/String")) 0 := ⟨cd_J4_toString_0e30d, gtbl_of (List.mem_append_right _ (List.mem_of_getElem? (i := 1583) (by decide +kernel))) rfl, ini_J4, by decide +kernel⟩
theorem cf_X10_121 : CallF RX10 121 yX10_text cX10_text 4 (some (Jvm.ClassFile.FieldType.object "java/lang/String")) 0 := ⟨cd_X10_text, gtbl_of (List.mem_append_right _ (List.mem_of_getElem? (i := 1586) (by decide +kernel))) rfl, ini_X10, by decide +kernel⟩
theorem cf_L_195 : CallF RL 195 yL_act cL_act 7 (some .boolean) 3 := ⟨cd_L_act, gtbl_of (List.mem_append_right _ (List.mem_of_getElem? (i := 1600) (by decide +kernel))) rfl, ini_L, by decide +kernel⟩
theorem cf_L_162 : CallF RL 162 yX9_props cX9_props 6 (some .int) 0 := ⟨cd_X9_props, gtbl_of (List.mem_append_right _ (List.mem_of_getElem? (i := 1603) (by decide +kernel))) rfl, ini_X9, by decide +kernel⟩
theorem cf_L_165 : CallF RL 165 yX8_prop cX8_prop 2 (some .int) 1 := ⟨cd_X8_prop, gtbl_of (List.mem_append_right _ (List.mem_of_getElem? (i := 1604) (by decide +kernel))) rfl, ini_X8, by decide +kernel⟩
theorem cf_X8_205 : CallF RX8 205 yX4_canProp cX4_canProp 2 (some .boolean) 1 := ⟨cd_X4_canProp, gtbl_of (List.mem_append_right _ (List.mem_of_getElem? (i := 1608) (by decide +kernel))) rfl, ini_X4, by decide +kernel⟩
theorem cf_X8_210 : CallF RX8 210 yX4_putProp cX4_putProp 2 none 1 := ⟨cd_X4_putProp, gtbl_of (List.mem_append_right _ (List.mem_of_getElem? (i := 1610) (by decide +kernel))) rfl, ini_X4, by decide +kernel⟩
theorem cf_L_168 : CallF RL 168 yX8_takeProp cX8_takeProp 3 (some .int) 1 := ⟨cd_X8_takeProp, gtbl_of (List.mem_append_right _ (List.mem_of_getElem? (i := 1611) (by decide +kernel))) rfl, ini_X8, by decide +kernel⟩
theorem cf_X8_215 : CallF RX8 215 yX4_freeSeat cX4_freeSeat 2 none 1 := ⟨cd_X4_freeSeat, gtbl_of (List.mem_append_right _ (List.mem_of_getElem? (i := 1616) (by decide +kernel))) rfl, ini_X4, by decide +kernel⟩
theorem cf_L_171 : CallF RL 171 yX9_settle cX9_settle 5 (some .int) 0 := ⟨cd_X9_settle, gtbl_of (List.mem_append_right _ (List.mem_of_getElem? (i := 1617) (by decide +kernel))) rfl, ini_X9, by decide +kernel⟩
theorem cf_L_215 : CallF RL 215 yJ9_max_7cf53 cJ9_max_7cf53 2 (some .int) 2 := ⟨cd_J9_max_7cf53, gtbl_of (List.mem_append_right _ (List.mem_of_getElem? (i := 1618) (by decide +kernel))) rfl, ini_J9, by decide +kernel⟩
theorem cf_L_220 : CallF RL 220 yJ9_min_7cf53 cJ9_min_7cf53 2 (some .int) 2 := ⟨cd_J9_min_7cf53, gtbl_of (List.mem_append_right _ (List.mem_of_getElem? (i := 1619) (by decide +kernel))) rfl, ini_J9, by decide +kernel⟩
theorem co_X4_133 : Cond.constant RX4 133 1000000 ∈ gtbl := gtbl_of (List.mem_append_right _ (List.mem_of_getElem? (i := 654) (by decide +kernel))) rfl
theorem co_L_7 : Cond.constant RL 7 2147483647 ∈ gtbl := gtbl_of (List.mem_append_right _ (List.mem_of_getElem? (i := 959) (by decide +kernel))) rfl
theorem co_L_8 : Cond.constant RL 8 790386105 ∈ gtbl := gtbl_of (List.mem_append_right _ (List.mem_of_getElem? (i := 963) (by decide +kernel))) rfl
theorem co_J8_200 : Cond.constant RJ8 200 2147483639 ∈ gtbl := gtbl_of (List.mem_append_right _ (List.mem_of_getElem? (i := 1324) (by decide +kernel))) rfl
theorem co_J5_39 : Cond.constant RJ5 39 2147483647 ∈ gtbl := gtbl_of (List.mem_append_right _ (List.mem_of_getElem? (i := 1328) (by decide +kernel))) rfl
theorem co_J2_20 : Cond.constant RJ2 20 1073741823 ∈ gtbl := gtbl_of (List.mem_append_right _ (List.mem_of_getElem? (i := 1384) (by decide +kernel))) rfl
theorem co_L_45 : Cond.constant RL 45 1000000 ∈ gtbl := gtbl_of (List.mem_append_right _ (List.mem_of_getElem? (i := 1548) (by decide +kernel))) rfl
theorem cj_X8_232 : Cond.constantLong RX8 232 1021 ∈ gtbl := gtbl_of (List.mem_append_right _ (List.mem_of_getElem? (i := 821) (by decide +kernel))) rfl
theorem cj_X8_234 : Cond.constantLong RX8 234 31 ∈ gtbl := gtbl_of (List.mem_append_right _ (List.mem_of_getElem? (i := 822) (by decide +kernel))) rfl
theorem cj_X6_77 : Cond.constantLong RX6 77 37 ∈ gtbl := gtbl_of (List.mem_append_right _ (List.mem_of_getElem? (i := 1070) (by decide +kernel))) rfl

/-! the tables' words by place -/
def CallF (own : String) (idx : Nat) (y : MethodName) (bytes : ByteArray) (maxL : Nat) (ret : Option FieldType) (n : Nat) : Prop := Cond.code y bytes maxL ret ∈ gtbl ∧ Cond.methodLink own idx y ∈ gtbl ∧ Cond.initialized y.cls ∈ gtbl ∧ (y.cls ≠ "java/lang/invoke/MethodHandle" ∧ y.cls ≠ "java/lang/invoke/VarHandle" ∧ (parseMethodDescriptor y.desc).map (fun d => d.parameters.length) = some n)
theorem fl_X5_9 : Cond.fieldLink RX5 9 "SofaDig$Tape" "bytes" "[B" ∈ gtbl := gtbl_of (List.mem_append_right _ (List.mem_of_getElem? (i := 44) (by decide +kernel))) rfl
theorem fl_X8_55 : Cond.fieldLink RX8 55 "SofaDig$Tape" "length" "I" ∈ gtbl := gtbl_of (List.mem_append_right _ (List.mem_of_getElem? (i := 45) (by decide +kernel))) rfl
theorem fl_X5_15 : Cond.fieldLink RX5 15 "SofaDig$Tape" "length" "I" ∈ gtbl := gtbl_of (List.mem_append_right _ (List.mem_of_getElem? (i := 46) (by decide +kernel))) rfl
theorem fl_X1_27 : Cond.fieldLink RX1 27 "SofaDig$Plan" "orders" "I" ∈ gtbl := gtbl_of (List.mem_append_right _ (List.mem_of_getElem? (i := 65) (by decide +kernel))) rfl
theorem fl_X2_27 : Cond.fieldLink RX2 27 "SofaDig$Plan" "orders" "I" ∈ gtbl := gtbl_of (List.mem_append_right _ (List.mem_of_getElem? (i := 66) (by decide +kernel))) rfl
theorem fl_X3_160 : Cond.fieldLink RX3 160 "SofaDig$Plan" "orders" "I" ∈ gtbl := gtbl_of (List.mem_append_right _ (List.mem_of_getElem? (i := 67) (by decide +kernel))) rfl
theorem fl_X1_31 : Cond.fieldLink RX1 31 "SofaDig$Plan" "steps" "I" ∈ gtbl := gtbl_of (List.mem_append_right _ (List.mem_of_getElem? (i := 68) (by decide +kernel))) rfl
theorem fl_X3_168 : Cond.fieldLink RX3 168 "SofaDig$Plan" "steps" "I" ∈ gtbl := gtbl_of (List.mem_append_right _ (List.mem_of_getElem? (i := 69) (by decide +kernel))) rfl
theorem fl_X1_9 : Cond.fieldLink RX1 9 "SofaDig$Plan" "kinds" "[I" ∈ gtbl := gtbl_of (List.mem_append_right _ (List.mem_of_getElem? (i := 70) (by decide +kernel))) rfl
theorem fl_X1_15 : Cond.fieldLink RX1 15 "SofaDig$Plan" "sumEnds" "[I" ∈ gtbl := gtbl_of (List.mem_append_right _ (List.mem_of_getElem? (i := 71) (by decide +kernel))) rfl
theorem fl_X1_18 : Cond.fieldLink RX1 18 "SofaDig$Plan" "testEnds" "[I" ∈ gtbl := gtbl_of (List.mem_append_right _ (List.mem_of_getElem? (i := 72) (by decide +kernel))) rfl
theorem fl_X1_21 : Cond.fieldLink RX1 21 "SofaDig$Plan" "stepKinds" "[I" ∈ gtbl := gtbl_of (List.mem_append_right _ (List.mem_of_getElem? (i := 73) (by decide +kernel))) rfl
theorem fl_X1_24 : Cond.fieldLink RX1 24 "SofaDig$Plan" "stepDetails" "[I" ∈ gtbl := gtbl_of (List.mem_append_right _ (List.mem_of_getElem? (i := 74) (by decide +kernel))) rfl
theorem fl_X7_12 : Cond.fieldLink RX7 12 "SofaDig$Told" "plan" "LSofaDig$Plan;" ∈ gtbl := gtbl_of (List.mem_append_right _ (List.mem_of_getElem? (i := 106) (by decide +kernel))) rfl
theorem fl_X2_21 : Cond.fieldLink RX2 21 "SofaDig$Told" "plan" "LSofaDig$Plan;" ∈ gtbl := gtbl_of (List.mem_append_right _ (List.mem_of_getElem? (i := 107) (by decide +kernel))) rfl
theorem fl_X3_156 : Cond.fieldLink RX3 156 "SofaDig$Told" "plan" "LSofaDig$Plan;" ∈ gtbl := gtbl_of (List.mem_append_right _ (List.mem_of_getElem? (i := 108) (by decide +kernel))) rfl
theorem fl_X4_39 : Cond.fieldLink RX4 39 "SofaDig$Told" "seats" "I" ∈ gtbl := gtbl_of (List.mem_append_right _ (List.mem_of_getElem? (i := 109) (by decide +kernel))) rfl
theorem fl_X7_66 : Cond.fieldLink RX7 66 "SofaDig$Told" "seats" "I" ∈ gtbl := gtbl_of (List.mem_append_right _ (List.mem_of_getElem? (i := 110) (by decide +kernel))) rfl
theorem fl_X8_87 : Cond.fieldLink RX8 87 "SofaDig$Told" "seats" "I" ∈ gtbl := gtbl_of (List.mem_append_right _ (List.mem_of_getElem? (i := 111) (by decide +kernel))) rfl
theorem fl_X3_139 : Cond.fieldLink RX3 139 "SofaDig$Told" "seats" "I" ∈ gtbl := gtbl_of (List.mem_append_right _ (List.mem_of_getElem? (i := 112) (by decide +kernel))) rfl
theorem fl_X4_45 : Cond.fieldLink RX4 45 "SofaDig$Told" "strata" "I" ∈ gtbl := gtbl_of (List.mem_append_right _ (List.mem_of_getElem? (i := 113) (by decide +kernel))) rfl
theorem fl_X7_69 : Cond.fieldLink RX7 69 "SofaDig$Told" "strata" "I" ∈ gtbl := gtbl_of (List.mem_append_right _ (List.mem_of_getElem? (i := 114) (by decide +kernel))) rfl
theorem fl_X8_90 : Cond.fieldLink RX8 90 "SofaDig$Told" "strata" "I" ∈ gtbl := gtbl_of (List.mem_append_right _ (List.mem_of_getElem? (i := 115) (by decide +kernel))) rfl
theorem fl_X3_153 : Cond.fieldLink RX3 153 "SofaDig$Told" "strata" "I" ∈ gtbl := gtbl_of (List.mem_append_right _ (List.mem_of_getElem? (i := 116) (by decide +kernel))) rfl
theorem fl_X7_52 : Cond.fieldLink RX7 52 "SofaDig$Told" "empires" "I" ∈ gtbl := gtbl_of (List.mem_append_right _ (List.mem_of_getElem? (i := 117) (by decide +kernel))) rfl
theorem fl_X3_111 : Cond.fieldLink RX3 111 "SofaDig$Told" "empires" "I" ∈ gtbl := gtbl_of (List.mem_append_right _ (List.mem_of_getElem? (i := 118) (by decide +kernel))) rfl
theorem fl_X4_101 : Cond.fieldLink RX4 101 "SofaDig$Told" "empires" "I" ∈ gtbl := gtbl_of (List.mem_append_right _ (List.mem_of_getElem? (i := 119) (by decide +kernel))) rfl
theorem fl_X8_187 : Cond.fieldLink RX8 187 "SofaDig$Told" "empires" "I" ∈ gtbl := gtbl_of (List.mem_append_right _ (List.mem_of_getElem? (i := 120) (by decide +kernel))) rfl
theorem fl_X7_56 : Cond.fieldLink RX7 56 "SofaDig$Told" "finds" "I" ∈ gtbl := gtbl_of (List.mem_append_right _ (List.mem_of_getElem? (i := 121) (by decide +kernel))) rfl
theorem fl_X8_93 : Cond.fieldLink RX8 93 "SofaDig$Told" "finds" "I" ∈ gtbl := gtbl_of (List.mem_append_right _ (List.mem_of_getElem? (i := 122) (by decide +kernel))) rfl
theorem fl_X4_80 : Cond.fieldLink RX4 80 "SofaDig$Told" "finds" "I" ∈ gtbl := gtbl_of (List.mem_append_right _ (List.mem_of_getElem? (i := 123) (by decide +kernel))) rfl
theorem fl_X3_133 : Cond.fieldLink RX3 133 "SofaDig$Told" "finds" "I" ∈ gtbl := gtbl_of (List.mem_append_right _ (List.mem_of_getElem? (i := 124) (by decide +kernel))) rfl
theorem fl_X7_18 : Cond.fieldLink RX7 18 "SofaDig$Told" "names" "[J" ∈ gtbl := gtbl_of (List.mem_append_right _ (List.mem_of_getElem? (i := 125) (by decide +kernel))) rfl
theorem fl_X7_22 : Cond.fieldLink RX7 22 "SofaDig$Told" "froms" "[I" ∈ gtbl := gtbl_of (List.mem_append_right _ (List.mem_of_getElem? (i := 126) (by decide +kernel))) rfl
theorem fl_X7_26 : Cond.fieldLink RX7 26 "SofaDig$Told" "tos" "[I" ∈ gtbl := gtbl_of (List.mem_append_right _ (List.mem_of_getElem? (i := 127) (by decide +kernel))) rfl
theorem fl_X7_29 : Cond.fieldLink RX7 29 "SofaDig$Told" "coins" "[Z" ∈ gtbl := gtbl_of (List.mem_append_right _ (List.mem_of_getElem? (i := 128) (by decide +kernel))) rfl
theorem fl_X7_33 : Cond.fieldLink RX7 33 "SofaDig$Told" "cushions" "[I" ∈ gtbl := gtbl_of (List.mem_append_right _ (List.mem_of_getElem? (i := 129) (by decide +kernel))) rfl
theorem fl_X7_36 : Cond.fieldLink RX7 36 "SofaDig$Told" "details" "[I" ∈ gtbl := gtbl_of (List.mem_append_right _ (List.mem_of_getElem? (i := 130) (by decide +kernel))) rfl
theorem fl_X7_39 : Cond.fieldLink RX7 39 "SofaDig$Told" "findsIn" "[I" ∈ gtbl := gtbl_of (List.mem_append_right _ (List.mem_of_getElem? (i := 131) (by decide +kernel))) rfl
theorem fl_X7_42 : Cond.fieldLink RX7 42 "SofaDig$Told" "springsIn" "[Z" ∈ gtbl := gtbl_of (List.mem_append_right _ (List.mem_of_getElem? (i := 132) (by decide +kernel))) rfl
theorem fl_X6_9 : Cond.fieldLink RX6 9 "SofaDig$Tokens" "kinds" "[I" ∈ gtbl := gtbl_of (List.mem_append_right _ (List.mem_of_getElem? (i := 174) (by decide +kernel))) rfl
theorem fl_X3_43 : Cond.fieldLink RX3 43 "SofaDig$Tokens" "kinds" "[I" ∈ gtbl := gtbl_of (List.mem_append_right _ (List.mem_of_getElem? (i := 175) (by decide +kernel))) rfl
theorem fl_X6_15 : Cond.fieldLink RX6 15 "SofaDig$Tokens" "starts" "[I" ∈ gtbl := gtbl_of (List.mem_append_right _ (List.mem_of_getElem? (i := 176) (by decide +kernel))) rfl
theorem fl_X3_65 : Cond.fieldLink RX3 65 "SofaDig$Tokens" "starts" "[I" ∈ gtbl := gtbl_of (List.mem_append_right _ (List.mem_of_getElem? (i := 177) (by decide +kernel))) rfl
theorem fl_X6_18 : Cond.fieldLink RX6 18 "SofaDig$Tokens" "numbers" "[I" ∈ gtbl := gtbl_of (List.mem_append_right _ (List.mem_of_getElem? (i := 178) (by decide +kernel))) rfl
theorem fl_X3_74 : Cond.fieldLink RX3 74 "SofaDig$Tokens" "numbers" "[I" ∈ gtbl := gtbl_of (List.mem_append_right _ (List.mem_of_getElem? (i := 179) (by decide +kernel))) rfl
theorem fl_X6_21 : Cond.fieldLink RX6 21 "SofaDig$Tokens" "names" "[J" ∈ gtbl := gtbl_of (List.mem_append_right _ (List.mem_of_getElem? (i := 180) (by decide +kernel))) rfl
theorem fl_X3_103 : Cond.fieldLink RX3 103 "SofaDig$Tokens" "names" "[J" ∈ gtbl := gtbl_of (List.mem_append_right _ (List.mem_of_getElem? (i := 181) (by decide +kernel))) rfl
theorem fl_X6_33 : Cond.fieldLink RX6 33 "SofaDig$Tokens" "count" "I" ∈ gtbl := gtbl_of (List.mem_append_right _ (List.mem_of_getElem? (i := 182) (by decide +kernel))) rfl
theorem fl_X3_62 : Cond.fieldLink RX3 62 "SofaDig$Tokens" "count" "I" ∈ gtbl := gtbl_of (List.mem_append_right _ (List.mem_of_getElem? (i := 183) (by decide +kernel))) rfl
theorem fl_X6_25 : Cond.fieldLink RX6 25 "SofaDig$Tokens" "tape" "LSofaDig$Tape;" ∈ gtbl := gtbl_of (List.mem_append_right _ (List.mem_of_getElem? (i := 184) (by decide +kernel))) rfl
theorem fl_X6_29 : Cond.fieldLink RX6 29 "SofaDig$Tokens" "next" "I" ∈ gtbl := gtbl_of (List.mem_append_right _ (List.mem_of_getElem? (i := 185) (by decide +kernel))) rfl
theorem fl_X3_14 : Cond.fieldLink RX3 14 "SofaDig$Reader" "tokens" "LSofaDig$Tokens;" ∈ gtbl := gtbl_of (List.mem_append_right _ (List.mem_of_getElem? (i := 203) (by decide +kernel))) rfl
theorem fl_X3_23 : Cond.fieldLink RX3 23 "SofaDig$Reader" "told" "LSofaDig$Told;" ∈ gtbl := gtbl_of (List.mem_append_right _ (List.mem_of_getElem? (i := 204) (by decide +kernel))) rfl
theorem fl_X3_40 : Cond.fieldLink RX3 40 "SofaDig$Reader" "at" "I" ∈ gtbl := gtbl_of (List.mem_append_right _ (List.mem_of_getElem? (i := 205) (by decide +kernel))) rfl
theorem fl_X3_47 : Cond.fieldLink RX3 47 "SofaDig$Reader" "kind" "I" ∈ gtbl := gtbl_of (List.mem_append_right _ (List.mem_of_getElem? (i := 206) (by decide +kernel))) rfl
theorem fl_X3_31 : Cond.fieldLink RX3 31 "SofaDig$Reader" "error" "I" ∈ gtbl := gtbl_of (List.mem_append_right _ (List.mem_of_getElem? (i := 207) (by decide +kernel))) rfl
theorem fl_X3_27 : Cond.fieldLink RX3 27 "SofaDig$Reader" "errorStart" "I" ∈ gtbl := gtbl_of (List.mem_append_right _ (List.mem_of_getElem? (i := 208) (by decide +kernel))) rfl
theorem fl_X2_9 : Cond.fieldLink RX2 9 "SofaDig$Planner" "pile" "[I" ∈ gtbl := gtbl_of (List.mem_append_right _ (List.mem_of_getElem? (i := 228) (by decide +kernel))) rfl
theorem fl_X2_89 : Cond.fieldLink RX2 89 "SofaDig$Planner" "piled" "I" ∈ gtbl := gtbl_of (List.mem_append_right _ (List.mem_of_getElem? (i := 229) (by decide +kernel))) rfl
theorem fl_X4_31 : Cond.fieldLink RX4 31 "SofaDig$Sofa" "told" "LSofaDig$Told;" ∈ gtbl := gtbl_of (List.mem_append_right _ (List.mem_of_getElem? (i := 245) (by decide +kernel))) rfl
theorem fl_X2_15 : Cond.fieldLink RX2 15 "SofaDig$Sofa" "told" "LSofaDig$Told;" ∈ gtbl := gtbl_of (List.mem_append_right _ (List.mem_of_getElem? (i := 246) (by decide +kernel))) rfl
theorem fl_X4_9 : Cond.fieldLink RX4 9 "SofaDig$Sofa" "stacks" "[I" ∈ gtbl := gtbl_of (List.mem_append_right _ (List.mem_of_getElem? (i := 247) (by decide +kernel))) rfl
theorem fl_X4_15 : Cond.fieldLink RX4 15 "SofaDig$Sofa" "heights" "[I" ∈ gtbl := gtbl_of (List.mem_append_right _ (List.mem_of_getElem? (i := 248) (by decide +kernel))) rfl
theorem fl_X4_18 : Cond.fieldLink RX4 18 "SofaDig$Sofa" "loose" "[Z" ∈ gtbl := gtbl_of (List.mem_append_right _ (List.mem_of_getElem? (i := 249) (by decide +kernel))) rfl
theorem fl_X4_22 : Cond.fieldLink RX4 22 "SofaDig$Sofa" "propped" "[Z" ∈ gtbl := gtbl_of (List.mem_append_right _ (List.mem_of_getElem? (i := 250) (by decide +kernel))) rfl
theorem fl_X4_25 : Cond.fieldLink RX4 25 "SofaDig$Sofa" "foundOnes" "[Z" ∈ gtbl := gtbl_of (List.mem_append_right _ (List.mem_of_getElem? (i := 251) (by decide +kernel))) rfl
theorem fl_X4_28 : Cond.fieldLink RX4 28 "SofaDig$Sofa" "sureOnes" "[Z" ∈ gtbl := gtbl_of (List.mem_append_right _ (List.mem_of_getElem? (i := 252) (by decide +kernel))) rfl
theorem fl_X2_58 : Cond.fieldLink RX2 58 "SofaDig$Sofa" "days" "I" ∈ gtbl := gtbl_of (List.mem_append_right _ (List.mem_of_getElem? (i := 253) (by decide +kernel))) rfl
theorem fl_X4_48 : Cond.fieldLink RX4 48 "SofaDig$Sofa" "days" "I" ∈ gtbl := gtbl_of (List.mem_append_right _ (List.mem_of_getElem? (i := 254) (by decide +kernel))) rfl
theorem fl_X8_96 : Cond.fieldLink RX8 96 "SofaDig$Sofa" "days" "I" ∈ gtbl := gtbl_of (List.mem_append_right _ (List.mem_of_getElem? (i := 255) (by decide +kernel))) rfl
theorem fl_X4_51 : Cond.fieldLink RX4 51 "SofaDig$Sofa" "carriedOut" "I" ∈ gtbl := gtbl_of (List.mem_append_right _ (List.mem_of_getElem? (i := 256) (by decide +kernel))) rfl
theorem fl_X2_72 : Cond.fieldLink RX2 72 "SofaDig$Sofa" "carriedOut" "I" ∈ gtbl := gtbl_of (List.mem_append_right _ (List.mem_of_getElem? (i := 257) (by decide +kernel))) rfl
theorem fl_X8_99 : Cond.fieldLink RX8 99 "SofaDig$Sofa" "carriedOut" "I" ∈ gtbl := gtbl_of (List.mem_append_right _ (List.mem_of_getElem? (i := 258) (by decide +kernel))) rfl
theorem fl_X4_54 : Cond.fieldLink RX4 54 "SofaDig$Sofa" "dug" "I" ∈ gtbl := gtbl_of (List.mem_append_right _ (List.mem_of_getElem? (i := 259) (by decide +kernel))) rfl
theorem fl_X8_102 : Cond.fieldLink RX8 102 "SofaDig$Sofa" "dug" "I" ∈ gtbl := gtbl_of (List.mem_append_right _ (List.mem_of_getElem? (i := 260) (by decide +kernel))) rfl
theorem fl_X4_57 : Cond.fieldLink RX4 57 "SofaDig$Sofa" "slid" "I" ∈ gtbl := gtbl_of (List.mem_append_right _ (List.mem_of_getElem? (i := 261) (by decide +kernel))) rfl
theorem fl_X2_111 : Cond.fieldLink RX2 111 "SofaDig$Sofa" "slid" "I" ∈ gtbl := gtbl_of (List.mem_append_right _ (List.mem_of_getElem? (i := 262) (by decide +kernel))) rfl
theorem fl_X8_105 : Cond.fieldLink RX8 105 "SofaDig$Sofa" "slid" "I" ∈ gtbl := gtbl_of (List.mem_append_right _ (List.mem_of_getElem? (i := 263) (by decide +kernel))) rfl
theorem fl_X4_60 : Cond.fieldLink RX4 60 "SofaDig$Sofa" "foundCount" "I" ∈ gtbl := gtbl_of (List.mem_append_right _ (List.mem_of_getElem? (i := 264) (by decide +kernel))) rfl
theorem fl_X2_108 : Cond.fieldLink RX2 108 "SofaDig$Sofa" "foundCount" "I" ∈ gtbl := gtbl_of (List.mem_append_right _ (List.mem_of_getElem? (i := 265) (by decide +kernel))) rfl
theorem fl_X8_108 : Cond.fieldLink RX8 108 "SofaDig$Sofa" "foundCount" "I" ∈ gtbl := gtbl_of (List.mem_append_right _ (List.mem_of_getElem? (i := 266) (by decide +kernel))) rfl
theorem fl_X4_63 : Cond.fieldLink RX4 63 "SofaDig$Sofa" "sureCount" "I" ∈ gtbl := gtbl_of (List.mem_append_right _ (List.mem_of_getElem? (i := 267) (by decide +kernel))) rfl
theorem fl_X8_111 : Cond.fieldLink RX8 111 "SofaDig$Sofa" "sureCount" "I" ∈ gtbl := gtbl_of (List.mem_append_right _ (List.mem_of_getElem? (i := 268) (by decide +kernel))) rfl
theorem fl_X4_66 : Cond.fieldLink RX4 66 "SofaDig$Sofa" "propCount" "I" ∈ gtbl := gtbl_of (List.mem_append_right _ (List.mem_of_getElem? (i := 269) (by decide +kernel))) rfl
theorem fl_X2_114 : Cond.fieldLink RX2 114 "SofaDig$Sofa" "propCount" "I" ∈ gtbl := gtbl_of (List.mem_append_right _ (List.mem_of_getElem? (i := 270) (by decide +kernel))) rfl
theorem fl_X8_114 : Cond.fieldLink RX8 114 "SofaDig$Sofa" "propCount" "I" ∈ gtbl := gtbl_of (List.mem_append_right _ (List.mem_of_getElem? (i := 271) (by decide +kernel))) rfl
theorem fl_X8_13 : Cond.fieldLink RX8 13 "SofaDig" "tape" "LSofaDig$Tape;" ∈ gtbl := gtbl_of (List.mem_append_right _ (List.mem_of_getElem? (i := 301) (by decide +kernel))) rfl
theorem fl_X8_24 : Cond.fieldLink RX8 24 "SofaDig" "reader" "LSofaDig$Reader;" ∈ gtbl := gtbl_of (List.mem_append_right _ (List.mem_of_getElem? (i := 302) (by decide +kernel))) rfl
theorem fl_X8_31 : Cond.fieldLink RX8 31 "SofaDig" "planner" "LSofaDig$Planner;" ∈ gtbl := gtbl_of (List.mem_append_right _ (List.mem_of_getElem? (i := 303) (by decide +kernel))) rfl
theorem fl_X8_40 : Cond.fieldLink RX8 40 "SofaDig" "sofa" "LSofaDig$Sofa;" ∈ gtbl := gtbl_of (List.mem_append_right _ (List.mem_of_getElem? (i := 304) (by decide +kernel))) rfl
theorem fl_X8_44 : Cond.fieldLink RX8 44 "SofaDig" "trial" "LSofaDig$Sofa;" ∈ gtbl := gtbl_of (List.mem_append_right _ (List.mem_of_getElem? (i := 305) (by decide +kernel))) rfl
theorem fl_X8_47 : Cond.fieldLink RX8 47 "SofaDig" "told" "LSofaDig$Told;" ∈ gtbl := gtbl_of (List.mem_append_right _ (List.mem_of_getElem? (i := 306) (by decide +kernel))) rfl
theorem fl_X8_51 : Cond.fieldLink RX8 51 "SofaDig" "errorPlace" "I" ∈ gtbl := gtbl_of (List.mem_append_right _ (List.mem_of_getElem? (i := 307) (by decide +kernel))) rfl
theorem fl_J0_38 : Cond.fieldLink RJ0 38 "java/lang/String" "COMPACT_STRINGS" "Z" ∈ gtbl := gtbl_of (List.mem_append_right _ (List.mem_of_getElem? (i := 975) (by decide +kernel))) rfl
theorem fl_J0_1053 : Cond.fieldLink RJ0 1053 "jdk/internal/util/Preconditions" "SIOOBE_FORMATTER" "Ljava/util/function/BiFunction;" ∈ gtbl := gtbl_of (List.mem_append_right _ (List.mem_of_getElem? (i := 991) (by decide +kernel))) rfl
theorem fl_J2_44 : Cond.fieldLink RJ2 44 "java/lang/StringUTF16" "$assertionsDisabled" "Z" ∈ gtbl := gtbl_of (List.mem_append_right _ (List.mem_of_getElem? (i := 1009) (by decide +kernel))) rfl
theorem fl_J2_59 : Cond.fieldLink RJ2 59 "java/lang/StringUTF16" "HI_BYTE_SHIFT" "I" ∈ gtbl := gtbl_of (List.mem_append_right _ (List.mem_of_getElem? (i := 1011) (by decide +kernel))) rfl
theorem fl_J2_63 : Cond.fieldLink RJ2 63 "java/lang/StringUTF16" "LO_BYTE_SHIFT" "I" ∈ gtbl := gtbl_of (List.mem_append_right _ (List.mem_of_getElem? (i := 1013) (by decide +kernel))) rfl
theorem fl_X9_7 : Cond.fieldLink RX9 7 "SofaDigLaw$Sim" "strata" "I" ∈ gtbl := gtbl_of (List.mem_append_right _ (List.mem_of_getElem? (i := 1250) (by decide +kernel))) rfl
theorem fl_X9_15 : Cond.fieldLink RX9 15 "SofaDigLaw$Sim" "stacks" "[[[I" ∈ gtbl := gtbl_of (List.mem_append_right _ (List.mem_of_getElem? (i := 1251) (by decide +kernel))) rfl
theorem fl_X10_36 : Cond.fieldLink RX10 36 "SofaDigLaw$Sim" "stacks" "[[[I" ∈ gtbl := gtbl_of (List.mem_append_right _ (List.mem_of_getElem? (i := 1252) (by decide +kernel))) rfl
theorem fl_L_104 : Cond.fieldLink RL 104 "SofaDigLaw$Sim" "stacks" "[[[I" ∈ gtbl := gtbl_of (List.mem_append_right _ (List.mem_of_getElem? (i := 1253) (by decide +kernel))) rfl
theorem fl_X9_21 : Cond.fieldLink RX9 21 "SofaDigLaw$Sim" "finds" "[[I" ∈ gtbl := gtbl_of (List.mem_append_right _ (List.mem_of_getElem? (i := 1254) (by decide +kernel))) rfl
theorem fl_L_119 : Cond.fieldLink RL 119 "SofaDigLaw$Sim" "finds" "[[I" ∈ gtbl := gtbl_of (List.mem_append_right _ (List.mem_of_getElem? (i := 1255) (by decide +kernel))) rfl
theorem fl_X9_24 : Cond.fieldLink RX9 24 "SofaDigLaw$Sim" "empires" "[[I" ∈ gtbl := gtbl_of (List.mem_append_right _ (List.mem_of_getElem? (i := 1256) (by decide +kernel))) rfl
theorem fl_X10_32 : Cond.fieldLink RX10 32 "SofaDigLaw$Sim" "empires" "[[I" ∈ gtbl := gtbl_of (List.mem_append_right _ (List.mem_of_getElem? (i := 1257) (by decide +kernel))) rfl
theorem fl_L_88 : Cond.fieldLink RL 88 "SofaDigLaw$Sim" "empires" "[[I" ∈ gtbl := gtbl_of (List.mem_append_right _ (List.mem_of_getElem? (i := 1258) (by decide +kernel))) rfl
theorem fl_X9_27 : Cond.fieldLink RX9 27 "SofaDigLaw$Sim" "isPropped" "[Z" ∈ gtbl := gtbl_of (List.mem_append_right _ (List.mem_of_getElem? (i := 1259) (by decide +kernel))) rfl
theorem fl_L_158 : Cond.fieldLink RL 158 "SofaDigLaw$Sim" "isPropped" "[Z" ∈ gtbl := gtbl_of (List.mem_append_right _ (List.mem_of_getElem? (i := 1260) (by decide +kernel))) rfl
theorem fl_X9_31 : Cond.fieldLink RX9 31 "SofaDigLaw$Sim" "orders" "[I" ∈ gtbl := gtbl_of (List.mem_append_right _ (List.mem_of_getElem? (i := 1261) (by decide +kernel))) rfl
theorem fl_L_130 : Cond.fieldLink RL 130 "SofaDigLaw$Sim" "orders" "[I" ∈ gtbl := gtbl_of (List.mem_append_right _ (List.mem_of_getElem? (i := 1262) (by decide +kernel))) rfl
theorem fl_X9_36 : Cond.fieldLink RX9 36 "SofaDigLaw$Sim" "sums" "[LSofaDigLaw$Tree;" ∈ gtbl := gtbl_of (List.mem_append_right _ (List.mem_of_getElem? (i := 1263) (by decide +kernel))) rfl
theorem fl_L_134 : Cond.fieldLink RL 134 "SofaDigLaw$Sim" "sums" "[LSofaDigLaw$Tree;" ∈ gtbl := gtbl_of (List.mem_append_right _ (List.mem_of_getElem? (i := 1264) (by decide +kernel))) rfl
theorem fl_X9_40 : Cond.fieldLink RX9 40 "SofaDigLaw$Sim" "tests" "[LSofaDigLaw$Tree;" ∈ gtbl := gtbl_of (List.mem_append_right _ (List.mem_of_getElem? (i := 1265) (by decide +kernel))) rfl
theorem fl_L_138 : Cond.fieldLink RL 138 "SofaDigLaw$Sim" "tests" "[LSofaDigLaw$Tree;" ∈ gtbl := gtbl_of (List.mem_append_right _ (List.mem_of_getElem? (i := 1266) (by decide +kernel))) rfl
theorem fl_X10_16 : Cond.fieldLink RX10 16 "SofaDigLaw$Sim" "days" "I" ∈ gtbl := gtbl_of (List.mem_append_right _ (List.mem_of_getElem? (i := 1267) (by decide +kernel))) rfl
theorem fl_X9_45 : Cond.fieldLink RX9 45 "SofaDigLaw$Sim" "days" "I" ∈ gtbl := gtbl_of (List.mem_append_right _ (List.mem_of_getElem? (i := 1268) (by decide +kernel))) rfl
theorem fl_X9_48 : Cond.fieldLink RX9 48 "SofaDigLaw$Sim" "carried" "I" ∈ gtbl := gtbl_of (List.mem_append_right _ (List.mem_of_getElem? (i := 1269) (by decide +kernel))) rfl
theorem fl_X9_51 : Cond.fieldLink RX9 51 "SofaDigLaw$Sim" "dug" "I" ∈ gtbl := gtbl_of (List.mem_append_right _ (List.mem_of_getElem? (i := 1270) (by decide +kernel))) rfl
theorem fl_X10_25 : Cond.fieldLink RX10 25 "SofaDigLaw$Sim" "slides" "I" ∈ gtbl := gtbl_of (List.mem_append_right _ (List.mem_of_getElem? (i := 1271) (by decide +kernel))) rfl
theorem fl_X9_54 : Cond.fieldLink RX9 54 "SofaDigLaw$Sim" "slides" "I" ∈ gtbl := gtbl_of (List.mem_append_right _ (List.mem_of_getElem? (i := 1272) (by decide +kernel))) rfl
theorem fl_J5_18 : Cond.fieldLink RJ5 18 "java/lang/String" "COMPACT_STRINGS" "Z" ∈ gtbl := gtbl_of (List.mem_append_right _ (List.mem_of_getElem? (i := 1348) (by decide +kernel))) rfl
theorem fl_J6_83 : Cond.fieldLink RJ6 83 "java/lang/Integer" "DigitOnes" "[B" ∈ gtbl := gtbl_of (List.mem_append_right _ (List.mem_of_getElem? (i := 1419) (by decide +kernel))) rfl
theorem fl_J6_87 : Cond.fieldLink RJ6 87 "java/lang/Integer" "DigitTens" "[B" ∈ gtbl := gtbl_of (List.mem_append_right _ (List.mem_of_getElem? (i := 1421) (by decide +kernel))) rfl
theorem fl_J2_403 : Cond.fieldLink RJ2 403 "java/lang/Integer" "DigitOnes" "[B" ∈ gtbl := gtbl_of (List.mem_append_right _ (List.mem_of_getElem? (i := 1429) (by decide +kernel))) rfl
theorem fl_J2_407 : Cond.fieldLink RJ2 407 "java/lang/Integer" "DigitTens" "[B" ∈ gtbl := gtbl_of (List.mem_append_right _ (List.mem_of_getElem? (i := 1430) (by decide +kernel))) rfl
theorem fl_J5_15 : Cond.fieldLink RJ5 15 "java/lang/AbstractStringBuilder" "value" "[B" ∈ gtbl := gtbl_of (List.mem_append_right _ (List.mem_of_getElem? (i := 1447) (by decide +kernel))) rfl
theorem fl_J5_22 : Cond.fieldLink RJ5 22 "java/lang/AbstractStringBuilder" "coder" "B" ∈ gtbl := gtbl_of (List.mem_append_right _ (List.mem_of_getElem? (i := 1448) (by decide +kernel))) rfl
theorem fl_J0_1048 : Cond.fieldLink RJ0 1048 "java/lang/AbstractStringBuilder" "maybeLatin1" "Z" ∈ gtbl := gtbl_of (List.mem_append_right _ (List.mem_of_getElem? (i := 1449) (by decide +kernel))) rfl
theorem fl_J5_79 : Cond.fieldLink RJ5 79 "java/lang/AbstractStringBuilder" "count" "I" ∈ gtbl := gtbl_of (List.mem_append_right _ (List.mem_of_getElem? (i := 1450) (by decide +kernel))) rfl
theorem fl_J0_9 : Cond.fieldLink RJ0 9 "java/lang/String" "value" "[B" ∈ gtbl := gtbl_of (List.mem_append_right _ (List.mem_of_getElem? (i := 1507) (by decide +kernel))) rfl
theorem fl_J0_15 : Cond.fieldLink RJ0 15 "java/lang/String" "coder" "B" ∈ gtbl := gtbl_of (List.mem_append_right _ (List.mem_of_getElem? (i := 1508) (by decide +kernel))) rfl
theorem fl_X10_7 : Cond.fieldLink RX10 7 "SofaDigLaw$Tree" "kind" "I" ∈ gtbl := gtbl_of (List.mem_append_right _ (List.mem_of_getElem? (i := 1531) (by decide +kernel))) rfl
theorem fl_L_41 : Cond.fieldLink RL 41 "SofaDigLaw$Tree" "kind" "I" ∈ gtbl := gtbl_of (List.mem_append_right _ (List.mem_of_getElem? (i := 1532) (by decide +kernel))) rfl
theorem fl_X10_13 : Cond.fieldLink RX10 13 "SofaDigLaw$Tree" "number" "I" ∈ gtbl := gtbl_of (List.mem_append_right _ (List.mem_of_getElem? (i := 1533) (by decide +kernel))) rfl
theorem fl_L_46 : Cond.fieldLink RL 46 "SofaDigLaw$Tree" "number" "I" ∈ gtbl := gtbl_of (List.mem_append_right _ (List.mem_of_getElem? (i := 1534) (by decide +kernel))) rfl
theorem fl_X10_40 : Cond.fieldLink RX10 40 "SofaDigLaw$Tree" "a" "LSofaDigLaw$Tree;" ∈ gtbl := gtbl_of (List.mem_append_right _ (List.mem_of_getElem? (i := 1535) (by decide +kernel))) rfl
theorem fl_L_53 : Cond.fieldLink RL 53 "SofaDigLaw$Tree" "a" "LSofaDigLaw$Tree;" ∈ gtbl := gtbl_of (List.mem_append_right _ (List.mem_of_getElem? (i := 1536) (by decide +kernel))) rfl
theorem fl_X10_58 : Cond.fieldLink RX10 58 "SofaDigLaw$Tree" "b" "LSofaDigLaw$Tree;" ∈ gtbl := gtbl_of (List.mem_append_right _ (List.mem_of_getElem? (i := 1537) (by decide +kernel))) rfl
theorem fl_L_57 : Cond.fieldLink RL 57 "SofaDigLaw$Tree" "b" "LSofaDigLaw$Tree;" ∈ gtbl := gtbl_of (List.mem_append_right _ (List.mem_of_getElem? (i := 1538) (by decide +kernel))) rfl
theorem cd_X0_ofWord : Cond.code yX0_ofWord cX0_ofWord 4 (some .int) ∈ gtbl := gtbl_of (List.mem_append_right _ (List.mem_of_getElem? (i := 1076) (by decide +kernel))) rfl
theorem st_X0_ofWord : Cond.static yX0_ofWord ∈ gtbl := gtbl_of (List.mem_append_right _ (List.mem_of_getElem? (i := 1075) (by decide +kernel))) rfl
theorem cd_X0_isWord : Cond.code yX0_isWord cX0_isWord 5 (some .boolean) ∈ gtbl := gtbl_of (List.mem_append_right _ (List.mem_of_getElem? (i := 1081) (by decide +kernel))) rfl
theorem st_X0_isWord : Cond.static yX0_isWord ∈ gtbl := gtbl_of (List.mem_append_right _ (List.mem_of_getElem? (i := 1080) (by decide +kernel))) rfl
theorem cd_X0_ofSign : Cond.code yX0_ofSign cX0_ofSign 3 (some .int) ∈ gtbl := gtbl_of (List.mem_append_right _ (List.mem_of_getElem? (i := 1090) (by decide +kernel))) rfl
theorem st_X0_ofSign : Cond.static yX0_ofSign ∈ gtbl := gtbl_of (List.mem_append_right _ (List.mem_of_getElem? (i := 1089) (by decide +kernel))) rfl
theorem cd_X0_lengthOfSign : Cond.code yX0_lengthOfSign cX0_lengthOfSign 1 (some .int) ∈ gtbl := gtbl_of (List.mem_append_right _ (List.mem_of_getElem? (i := 1094) (by decide +kernel))) rfl
theorem st_X0_lengthOfSign : Cond.static yX0_lengthOfSign ∈ gtbl := gtbl_of (List.mem_append_right _ (List.mem_of_getElem? (i := 1093) (by decide +kernel))) rfl
theorem cd_X1_init : Cond.code yX1_init cX1_init 1 none ∈ gtbl := gtbl_of (List.mem_append_right _ (List.mem_of_getElem? (i := 63) (by decide +kernel))) rfl
theorem im_X1_init : Cond.instanceMethod yX1_init ∈ gtbl := gtbl_of (List.mem_append_right _ (List.mem_of_getElem? (i := 62) (by decide +kernel))) rfl
theorem cd_X1_clear : Cond.code yX1_clear cX1_clear 1 none ∈ gtbl := gtbl_of (List.mem_append_right _ (List.mem_of_getElem? (i := 105) (by decide +kernel))) rfl
theorem im_X1_clear : Cond.instanceMethod yX1_clear ∈ gtbl := gtbl_of (List.mem_append_right _ (List.mem_of_getElem? (i := 103) (by decide +kernel))) rfl
theorem se_X1_clear : Cond.selects yX1_clear.cls yX1_clear yX1_clear ∈ gtbl := gtbl_of (List.mem_append_right _ (List.mem_of_getElem? (i := 104) (by decide +kernel))) rfl
theorem cd_X1_addStep : Cond.code yX1_addStep cX1_addStep 3 none ∈ gtbl := gtbl_of (List.mem_append_right _ (List.mem_of_getElem? (i := 1193) (by decide +kernel))) rfl
theorem im_X1_addStep : Cond.instanceMethod yX1_addStep ∈ gtbl := gtbl_of (List.mem_append_right _ (List.mem_of_getElem? (i := 1191) (by decide +kernel))) rfl
theorem se_X1_addStep : Cond.selects yX1_addStep.cls yX1_addStep yX1_addStep ∈ gtbl := gtbl_of (List.mem_append_right _ (List.mem_of_getElem? (i := 1192) (by decide +kernel))) rfl
theorem cd_X1_addOrder : Cond.code yX1_addOrder cX1_addOrder 3 none ∈ gtbl := gtbl_of (List.mem_append_right _ (List.mem_of_getElem? (i := 1225) (by decide +kernel))) rfl
theorem im_X1_addOrder : Cond.instanceMethod yX1_addOrder ∈ gtbl := gtbl_of (List.mem_append_right _ (List.mem_of_getElem? (i := 1223) (by decide +kernel))) rfl
theorem se_X1_addOrder : Cond.selects yX1_addOrder.cls yX1_addOrder yX1_addOrder ∈ gtbl := gtbl_of (List.mem_append_right _ (List.mem_of_getElem? (i := 1224) (by decide +kernel))) rfl
theorem cd_X1_kindOf : Cond.code yX1_kindOf cX1_kindOf 2 (some .int) ∈ gtbl := gtbl_of (List.mem_append_right _ (List.mem_of_getElem? (i := 774) (by decide +kernel))) rfl
theorem im_X1_kindOf : Cond.instanceMethod yX1_kindOf ∈ gtbl := gtbl_of (List.mem_append_right _ (List.mem_of_getElem? (i := 772) (by decide +kernel))) rfl
theorem se_X1_kindOf : Cond.selects yX1_kindOf.cls yX1_kindOf yX1_kindOf ∈ gtbl := gtbl_of (List.mem_append_right _ (List.mem_of_getElem? (i := 773) (by decide +kernel))) rfl
theorem cd_X1_sumStart : Cond.code yX1_sumStart cX1_sumStart 2 (some .int) ∈ gtbl := gtbl_of (List.mem_append_right _ (List.mem_of_getElem? (i := 769) (by decide +kernel))) rfl
theorem im_X1_sumStart : Cond.instanceMethod yX1_sumStart ∈ gtbl := gtbl_of (List.mem_append_right _ (List.mem_of_getElem? (i := 767) (by decide +kernel))) rfl
theorem se_X1_sumStart : Cond.selects yX1_sumStart.cls yX1_sumStart yX1_sumStart ∈ gtbl := gtbl_of (List.mem_append_right _ (List.mem_of_getElem? (i := 768) (by decide +kernel))) rfl
theorem cd_X1_sumEnd : Cond.code yX1_sumEnd cX1_sumEnd 2 (some .int) ∈ gtbl := gtbl_of (List.mem_append_right _ (List.mem_of_getElem? (i := 700) (by decide +kernel))) rfl
theorem im_X1_sumEnd : Cond.instanceMethod yX1_sumEnd ∈ gtbl := gtbl_of (List.mem_append_right _ (List.mem_of_getElem? (i := 698) (by decide +kernel))) rfl
theorem se_X1_sumEnd : Cond.selects yX1_sumEnd.cls yX1_sumEnd yX1_sumEnd ∈ gtbl := gtbl_of (List.mem_append_right _ (List.mem_of_getElem? (i := 699) (by decide +kernel))) rfl
theorem cd_X1_testEnd : Cond.code yX1_testEnd cX1_testEnd 2 (some .int) ∈ gtbl := gtbl_of (List.mem_append_right _ (List.mem_of_getElem? (i := 708) (by decide +kernel))) rfl
theorem im_X1_testEnd : Cond.instanceMethod yX1_testEnd ∈ gtbl := gtbl_of (List.mem_append_right _ (List.mem_of_getElem? (i := 706) (by decide +kernel))) rfl
theorem se_X1_testEnd : Cond.selects yX1_testEnd.cls yX1_testEnd yX1_testEnd ∈ gtbl := gtbl_of (List.mem_append_right _ (List.mem_of_getElem? (i := 707) (by decide +kernel))) rfl
theorem cd_X1_stepKind : Cond.code yX1_stepKind cX1_stepKind 2 (some .int) ∈ gtbl := gtbl_of (List.mem_append_right _ (List.mem_of_getElem? (i := 716) (by decide +kernel))) rfl
theorem im_X1_stepKind : Cond.instanceMethod yX1_stepKind ∈ gtbl := gtbl_of (List.mem_append_right _ (List.mem_of_getElem? (i := 714) (by decide +kernel))) rfl
theorem se_X1_stepKind : Cond.selects yX1_stepKind.cls yX1_stepKind yX1_stepKind ∈ gtbl := gtbl_of (List.mem_append_right _ (List.mem_of_getElem? (i := 715) (by decide +kernel))) rfl
theorem cd_X1_stepDetail : Cond.code yX1_stepDetail cX1_stepDetail 2 (some .int) ∈ gtbl := gtbl_of (List.mem_append_right _ (List.mem_of_getElem? (i := 724) (by decide +kernel))) rfl
theorem im_X1_stepDetail : Cond.instanceMethod yX1_stepDetail ∈ gtbl := gtbl_of (List.mem_append_right _ (List.mem_of_getElem? (i := 722) (by decide +kernel))) rfl
theorem se_X1_stepDetail : Cond.selects yX1_stepDetail.cls yX1_stepDetail yX1_stepDetail ∈ gtbl := gtbl_of (List.mem_append_right _ (List.mem_of_getElem? (i := 723) (by decide +kernel))) rfl
theorem cd_X1_isOrder : Cond.code yX1_isOrder cX1_isOrder 2 (some .boolean) ∈ gtbl := gtbl_of (List.mem_append_right _ (List.mem_of_getElem? (i := 704) (by decide +kernel))) rfl
theorem im_X1_isOrder : Cond.instanceMethod yX1_isOrder ∈ gtbl := gtbl_of (List.mem_append_right _ (List.mem_of_getElem? (i := 703) (by decide +kernel))) rfl
theorem se_X1_isOrder : Cond.selects yX1_isOrder.cls yX1_isOrder yX1_isOrder ∈ gtbl := gtbl_of (List.mem_append_left _ (List.mem_of_getElem? (i := 14) (by decide +kernel))) rfl
theorem cd_X1_isStep : Cond.code yX1_isStep cX1_isStep 2 (some .boolean) ∈ gtbl := gtbl_of (List.mem_append_right _ (List.mem_of_getElem? (i := 720) (by decide +kernel))) rfl
theorem im_X1_isStep : Cond.instanceMethod yX1_isStep ∈ gtbl := gtbl_of (List.mem_append_right _ (List.mem_of_getElem? (i := 719) (by decide +kernel))) rfl
theorem se_X1_isStep : Cond.selects yX1_isStep.cls yX1_isStep yX1_isStep ∈ gtbl := gtbl_of (List.mem_append_left _ (List.mem_of_getElem? (i := 16) (by decide +kernel))) rfl
theorem cd_X2_init : Cond.code yX2_init cX2_init 1 none ∈ gtbl := gtbl_of (List.mem_append_right _ (List.mem_of_getElem? (i := 226) (by decide +kernel))) rfl
theorem im_X2_init : Cond.instanceMethod yX2_init ∈ gtbl := gtbl_of (List.mem_append_right _ (List.mem_of_getElem? (i := 225) (by decide +kernel))) rfl
theorem cd_X2_liveDays : Cond.code yX2_liveDays cX2_liveDays 7 none ∈ gtbl := gtbl_of (List.mem_append_right _ (List.mem_of_getElem? (i := 692) (by decide +kernel))) rfl
theorem im_X2_liveDays : Cond.instanceMethod yX2_liveDays ∈ gtbl := gtbl_of (List.mem_append_right _ (List.mem_of_getElem? (i := 690) (by decide +kernel))) rfl
theorem se_X2_liveDays : Cond.selects yX2_liveDays.cls yX2_liveDays yX2_liveDays ∈ gtbl := gtbl_of (List.mem_append_right _ (List.mem_of_getElem? (i := 691) (by decide +kernel))) rfl
theorem cd_X2_isDue : Cond.code yX2_isDue cX2_isDue 6 (some .boolean) ∈ gtbl := gtbl_of (List.mem_append_right _ (List.mem_of_getElem? (i := 696) (by decide +kernel))) rfl
theorem im_X2_isDue : Cond.instanceMethod yX2_isDue ∈ gtbl := gtbl_of (List.mem_append_right _ (List.mem_of_getElem? (i := 695) (by decide +kernel))) rfl
theorem se_X2_isDue : Cond.selects yX2_isDue.cls yX2_isDue yX2_isDue ∈ gtbl := gtbl_of (List.mem_append_left _ (List.mem_of_getElem? (i := 13) (by decide +kernel))) rfl
theorem cd_X2_carryOut : Cond.code yX2_carryOut cX2_carryOut 3 none ∈ gtbl := gtbl_of (List.mem_append_right _ (List.mem_of_getElem? (i := 777) (by decide +kernel))) rfl
theorem st_X2_carryOut : Cond.static yX2_carryOut ∈ gtbl := gtbl_of (List.mem_append_right _ (List.mem_of_getElem? (i := 776) (by decide +kernel))) rfl
theorem cd_X2_reckon : Cond.code yX2_reckon cX2_reckon 6 (some .int) ∈ gtbl := gtbl_of (List.mem_append_right _ (List.mem_of_getElem? (i := 712) (by decide +kernel))) rfl
theorem im_X2_reckon : Cond.instanceMethod yX2_reckon ∈ gtbl := gtbl_of (List.mem_append_right _ (List.mem_of_getElem? (i := 711) (by decide +kernel))) rfl
theorem se_X2_reckon : Cond.selects yX2_reckon.cls yX2_reckon yX2_reckon ∈ gtbl := gtbl_of (List.mem_append_left _ (List.mem_of_getElem? (i := 15) (by decide +kernel))) rfl
theorem cd_X2_takeStep : Cond.code yX2_takeStep cX2_takeStep 6 none ∈ gtbl := gtbl_of (List.mem_append_right _ (List.mem_of_getElem? (i := 728) (by decide +kernel))) rfl
theorem im_X2_takeStep : Cond.instanceMethod yX2_takeStep ∈ gtbl := gtbl_of (List.mem_append_right _ (List.mem_of_getElem? (i := 727) (by decide +kernel))) rfl
theorem se_X2_takeStep : Cond.selects yX2_takeStep.cls yX2_takeStep yX2_takeStep ∈ gtbl := gtbl_of (List.mem_append_left _ (List.mem_of_getElem? (i := 17) (by decide +kernel))) rfl
theorem cd_X2_join : Cond.code yX2_join cX2_join 3 (some .int) ∈ gtbl := gtbl_of (List.mem_append_right _ (List.mem_of_getElem? (i := 758) (by decide +kernel))) rfl
theorem st_X2_join : Cond.static yX2_join ∈ gtbl := gtbl_of (List.mem_append_right _ (List.mem_of_getElem? (i := 757) (by decide +kernel))) rfl
theorem cd_X2_compares : Cond.code yX2_compares cX2_compares 3 (some .boolean) ∈ gtbl := gtbl_of (List.mem_append_right _ (List.mem_of_getElem? (i := 765) (by decide +kernel))) rfl
theorem st_X2_compares : Cond.static yX2_compares ∈ gtbl := gtbl_of (List.mem_append_right _ (List.mem_of_getElem? (i := 764) (by decide +kernel))) rfl
theorem cd_X2_pushTruth : Cond.code yX2_pushTruth cX2_pushTruth 2 none ∈ gtbl := gtbl_of (List.mem_append_right _ (List.mem_of_getElem? (i := 742) (by decide +kernel))) rfl
theorem im_X2_pushTruth : Cond.instanceMethod yX2_pushTruth ∈ gtbl := gtbl_of (List.mem_append_right _ (List.mem_of_getElem? (i := 741) (by decide +kernel))) rfl
theorem se_X2_pushTruth : Cond.selects yX2_pushTruth.cls yX2_pushTruth yX2_pushTruth ∈ gtbl := gtbl_of (List.mem_append_left _ (List.mem_of_getElem? (i := 19) (by decide +kernel))) rfl
theorem cd_X2_push : Cond.code yX2_push cX2_push 2 none ∈ gtbl := gtbl_of (List.mem_append_right _ (List.mem_of_getElem? (i := 732) (by decide +kernel))) rfl
theorem im_X2_push : Cond.instanceMethod yX2_push ∈ gtbl := gtbl_of (List.mem_append_right _ (List.mem_of_getElem? (i := 731) (by decide +kernel))) rfl
theorem se_X2_push : Cond.selects yX2_push.cls yX2_push yX2_push ∈ gtbl := gtbl_of (List.mem_append_left _ (List.mem_of_getElem? (i := 18) (by decide +kernel))) rfl
theorem cd_X2_pull : Cond.code yX2_pull cX2_pull 1 (some .int) ∈ gtbl := gtbl_of (List.mem_append_right _ (List.mem_of_getElem? (i := 746) (by decide +kernel))) rfl
theorem im_X2_pull : Cond.instanceMethod yX2_pull ∈ gtbl := gtbl_of (List.mem_append_right _ (List.mem_of_getElem? (i := 745) (by decide +kernel))) rfl
theorem se_X2_pull : Cond.selects yX2_pull.cls yX2_pull yX2_pull ∈ gtbl := gtbl_of (List.mem_append_left _ (List.mem_of_getElem? (i := 20) (by decide +kernel))) rfl
theorem cd_X3_init : Cond.code yX3_init cX3_init 2 none ∈ gtbl := gtbl_of (List.mem_append_right _ (List.mem_of_getElem? (i := 166) (by decide +kernel))) rfl
theorem im_X3_init : Cond.instanceMethod yX3_init ∈ gtbl := gtbl_of (List.mem_append_right _ (List.mem_of_getElem? (i := 165) (by decide +kernel))) rfl
theorem cd_X3_read : Cond.code yX3_read cX3_read 2 (some .int) ∈ gtbl := gtbl_of (List.mem_append_right _ (List.mem_of_getElem? (i := 1036) (by decide +kernel))) rfl
theorem im_X3_read : Cond.instanceMethod yX3_read ∈ gtbl := gtbl_of (List.mem_append_right _ (List.mem_of_getElem? (i := 1034) (by decide +kernel))) rfl
theorem se_X3_read : Cond.selects yX3_read.cls yX3_read yX3_read ∈ gtbl := gtbl_of (List.mem_append_right _ (List.mem_of_getElem? (i := 1035) (by decide +kernel))) rfl
theorem cd_X3_errorPlace : Cond.code yX3_errorPlace cX3_errorPlace 1 (some .int) ∈ gtbl := gtbl_of (List.mem_append_right _ (List.mem_of_getElem? (i := 1229) (by decide +kernel))) rfl
theorem im_X3_errorPlace : Cond.instanceMethod yX3_errorPlace ∈ gtbl := gtbl_of (List.mem_append_right _ (List.mem_of_getElem? (i := 1227) (by decide +kernel))) rfl
theorem se_X3_errorPlace : Cond.selects yX3_errorPlace.cls yX3_errorPlace yX3_errorPlace ∈ gtbl := gtbl_of (List.mem_append_right _ (List.mem_of_getElem? (i := 1228) (by decide +kernel))) rfl
theorem cd_X3_exchange : Cond.code yX3_exchange cX3_exchange 3 (some (Jvm.ClassFile.FieldType.object "SofaDig$Told")) ∈ gtbl := gtbl_of (List.mem_append_right _ (List.mem_of_getElem? (i := 1233) (by decide +kernel))) rfl
theorem im_X3_exchange : Cond.instanceMethod yX3_exchange ∈ gtbl := gtbl_of (List.mem_append_right _ (List.mem_of_getElem? (i := 1231) (by decide +kernel))) rfl
theorem se_X3_exchange : Cond.selects yX3_exchange.cls yX3_exchange yX3_exchange ∈ gtbl := gtbl_of (List.mem_append_right _ (List.mem_of_getElem? (i := 1232) (by decide +kernel))) rfl
theorem cd_X3_advance : Cond.code yX3_advance cX3_advance 1 none ∈ gtbl := gtbl_of (List.mem_append_right _ (List.mem_of_getElem? (i := 1106) (by decide +kernel))) rfl
theorem im_X3_advance : Cond.instanceMethod yX3_advance ∈ gtbl := gtbl_of (List.mem_append_right _ (List.mem_of_getElem? (i := 1105) (by decide +kernel))) rfl
theorem se_X3_advance : Cond.selects yX3_advance.cls yX3_advance yX3_advance ∈ gtbl := gtbl_of (List.mem_append_left _ (List.mem_of_getElem? (i := 33) (by decide +kernel))) rfl
theorem cd_X3_refuse : Cond.code yX3_refuse cX3_refuse 1 none ∈ gtbl := gtbl_of (List.mem_append_right _ (List.mem_of_getElem? (i := 1110) (by decide +kernel))) rfl
theorem im_X3_refuse : Cond.instanceMethod yX3_refuse ∈ gtbl := gtbl_of (List.mem_append_right _ (List.mem_of_getElem? (i := 1109) (by decide +kernel))) rfl
theorem se_X3_refuse : Cond.selects yX3_refuse.cls yX3_refuse yX3_refuse ∈ gtbl := gtbl_of (List.mem_append_left _ (List.mem_of_getElem? (i := 34) (by decide +kernel))) rfl
theorem cd_X3_complain : Cond.code yX3_complain cX3_complain 2 none ∈ gtbl := gtbl_of (List.mem_append_right _ (List.mem_of_getElem? (i := 1118) (by decide +kernel))) rfl
theorem im_X3_complain : Cond.instanceMethod yX3_complain ∈ gtbl := gtbl_of (List.mem_append_right _ (List.mem_of_getElem? (i := 1117) (by decide +kernel))) rfl
theorem se_X3_complain : Cond.selects yX3_complain.cls yX3_complain yX3_complain ∈ gtbl := gtbl_of (List.mem_append_left _ (List.mem_of_getElem? (i := 36) (by decide +kernel))) rfl
theorem cd_X3_expect : Cond.code yX3_expect cX3_expect 2 none ∈ gtbl := gtbl_of (List.mem_append_right _ (List.mem_of_getElem? (i := 1102) (by decide +kernel))) rfl
theorem im_X3_expect : Cond.instanceMethod yX3_expect ∈ gtbl := gtbl_of (List.mem_append_right _ (List.mem_of_getElem? (i := 1101) (by decide +kernel))) rfl
theorem se_X3_expect : Cond.selects yX3_expect.cls yX3_expect yX3_expect ∈ gtbl := gtbl_of (List.mem_append_left _ (List.mem_of_getElem? (i := 32) (by decide +kernel))) rfl
theorem cd_X3_expectNumber : Cond.code yX3_expectNumber cX3_expectNumber 4 (some .int) ∈ gtbl := gtbl_of (List.mem_append_right _ (List.mem_of_getElem? (i := 1114) (by decide +kernel))) rfl
theorem im_X3_expectNumber : Cond.instanceMethod yX3_expectNumber ∈ gtbl := gtbl_of (List.mem_append_right _ (List.mem_of_getElem? (i := 1113) (by decide +kernel))) rfl
theorem se_X3_expectNumber : Cond.selects yX3_expectNumber.cls yX3_expectNumber yX3_expectNumber ∈ gtbl := gtbl_of (List.mem_append_left _ (List.mem_of_getElem? (i := 35) (by decide +kernel))) rfl
theorem cd_X3_readSize : Cond.code yX3_readSize cX3_readSize 3 none ∈ gtbl := gtbl_of (List.mem_append_right _ (List.mem_of_getElem? (i := 1098) (by decide +kernel))) rfl
theorem im_X3_readSize : Cond.instanceMethod yX3_readSize ∈ gtbl := gtbl_of (List.mem_append_right _ (List.mem_of_getElem? (i := 1097) (by decide +kernel))) rfl
theorem se_X3_readSize : Cond.selects yX3_readSize.cls yX3_readSize yX3_readSize ∈ gtbl := gtbl_of (List.mem_append_left _ (List.mem_of_getElem? (i := 31) (by decide +kernel))) rfl
theorem cd_X3_readLine : Cond.code yX3_readLine cX3_readLine 1 none ∈ gtbl := gtbl_of (List.mem_append_right _ (List.mem_of_getElem? (i := 1123) (by decide +kernel))) rfl
theorem im_X3_readLine : Cond.instanceMethod yX3_readLine ∈ gtbl := gtbl_of (List.mem_append_right _ (List.mem_of_getElem? (i := 1122) (by decide +kernel))) rfl
theorem se_X3_readLine : Cond.selects yX3_readLine.cls yX3_readLine yX3_readLine ∈ gtbl := gtbl_of (List.mem_append_left _ (List.mem_of_getElem? (i := 37) (by decide +kernel))) rfl
theorem cd_X3_readEmpire : Cond.code yX3_readEmpire cX3_readEmpire 5 none ∈ gtbl := gtbl_of (List.mem_append_right _ (List.mem_of_getElem? (i := 1127) (by decide +kernel))) rfl
theorem im_X3_readEmpire : Cond.instanceMethod yX3_readEmpire ∈ gtbl := gtbl_of (List.mem_append_right _ (List.mem_of_getElem? (i := 1126) (by decide +kernel))) rfl
theorem se_X3_readEmpire : Cond.selects yX3_readEmpire.cls yX3_readEmpire yX3_readEmpire ∈ gtbl := gtbl_of (List.mem_append_left _ (List.mem_of_getElem? (i := 38) (by decide +kernel))) rfl
theorem cd_X3_readCoin : Cond.code yX3_readCoin cX3_readCoin 3 none ∈ gtbl := gtbl_of (List.mem_append_right _ (List.mem_of_getElem? (i := 1139) (by decide +kernel))) rfl
theorem im_X3_readCoin : Cond.instanceMethod yX3_readCoin ∈ gtbl := gtbl_of (List.mem_append_right _ (List.mem_of_getElem? (i := 1138) (by decide +kernel))) rfl
theorem se_X3_readCoin : Cond.selects yX3_readCoin.cls yX3_readCoin yX3_readCoin ∈ gtbl := gtbl_of (List.mem_append_left _ (List.mem_of_getElem? (i := 39) (by decide +kernel))) rfl
theorem cd_X3_readCrumbs : Cond.code yX3_readCrumbs cX3_readCrumbs 3 none ∈ gtbl := gtbl_of (List.mem_append_right _ (List.mem_of_getElem? (i := 1161) (by decide +kernel))) rfl
theorem im_X3_readCrumbs : Cond.instanceMethod yX3_readCrumbs ∈ gtbl := gtbl_of (List.mem_append_right _ (List.mem_of_getElem? (i := 1160) (by decide +kernel))) rfl
theorem se_X3_readCrumbs : Cond.selects yX3_readCrumbs.cls yX3_readCrumbs yX3_readCrumbs ∈ gtbl := gtbl_of (List.mem_append_left _ (List.mem_of_getElem? (i := 42) (by decide +kernel))) rfl
theorem cd_X3_startFind : Cond.code yX3_startFind cX3_startFind 1 none ∈ gtbl := gtbl_of (List.mem_append_right _ (List.mem_of_getElem? (i := 1143) (by decide +kernel))) rfl
theorem im_X3_startFind : Cond.instanceMethod yX3_startFind ∈ gtbl := gtbl_of (List.mem_append_right _ (List.mem_of_getElem? (i := 1142) (by decide +kernel))) rfl
theorem se_X3_startFind : Cond.selects yX3_startFind.cls yX3_startFind yX3_startFind ∈ gtbl := gtbl_of (List.mem_append_left _ (List.mem_of_getElem? (i := 40) (by decide +kernel))) rfl
theorem cd_X3_readSpring : Cond.code yX3_readSpring cX3_readSpring 2 none ∈ gtbl := gtbl_of (List.mem_append_right _ (List.mem_of_getElem? (i := 1169) (by decide +kernel))) rfl
theorem im_X3_readSpring : Cond.instanceMethod yX3_readSpring ∈ gtbl := gtbl_of (List.mem_append_right _ (List.mem_of_getElem? (i := 1168) (by decide +kernel))) rfl
theorem se_X3_readSpring : Cond.selects yX3_readSpring.cls yX3_readSpring yX3_readSpring ∈ gtbl := gtbl_of (List.mem_append_left _ (List.mem_of_getElem? (i := 44) (by decide +kernel))) rfl
theorem cd_X3_readPlace : Cond.code yX3_readPlace cX3_readPlace 4 (some .int) ∈ gtbl := gtbl_of (List.mem_append_right _ (List.mem_of_getElem? (i := 1147) (by decide +kernel))) rfl
theorem im_X3_readPlace : Cond.instanceMethod yX3_readPlace ∈ gtbl := gtbl_of (List.mem_append_right _ (List.mem_of_getElem? (i := 1146) (by decide +kernel))) rfl
theorem se_X3_readPlace : Cond.selects yX3_readPlace.cls yX3_readPlace yX3_readPlace ∈ gtbl := gtbl_of (List.mem_append_left _ (List.mem_of_getElem? (i := 41) (by decide +kernel))) rfl
theorem cd_X3_readKnownEmpire : Cond.code yX3_readKnownEmpire cX3_readKnownEmpire 2 (some .int) ∈ gtbl := gtbl_of (List.mem_append_right _ (List.mem_of_getElem? (i := 1165) (by decide +kernel))) rfl
theorem im_X3_readKnownEmpire : Cond.instanceMethod yX3_readKnownEmpire ∈ gtbl := gtbl_of (List.mem_append_right _ (List.mem_of_getElem? (i := 1164) (by decide +kernel))) rfl
theorem se_X3_readKnownEmpire : Cond.selects yX3_readKnownEmpire.cls yX3_readKnownEmpire yX3_readKnownEmpire ∈ gtbl := gtbl_of (List.mem_append_left _ (List.mem_of_getElem? (i := 43) (by decide +kernel))) rfl
theorem cd_X3_readOrder : Cond.code yX3_readOrder cX3_readOrder 3 none ∈ gtbl := gtbl_of (List.mem_append_right _ (List.mem_of_getElem? (i := 1177) (by decide +kernel))) rfl
theorem im_X3_readOrder : Cond.instanceMethod yX3_readOrder ∈ gtbl := gtbl_of (List.mem_append_right _ (List.mem_of_getElem? (i := 1176) (by decide +kernel))) rfl
theorem se_X3_readOrder : Cond.selects yX3_readOrder.cls yX3_readOrder yX3_readOrder ∈ gtbl := gtbl_of (List.mem_append_left _ (List.mem_of_getElem? (i := 45) (by decide +kernel))) rfl
theorem cd_X3_readTest : Cond.code yX3_readTest cX3_readTest 3 none ∈ gtbl := gtbl_of (List.mem_append_right _ (List.mem_of_getElem? (i := 1209) (by decide +kernel))) rfl
theorem im_X3_readTest : Cond.instanceMethod yX3_readTest ∈ gtbl := gtbl_of (List.mem_append_right _ (List.mem_of_getElem? (i := 1208) (by decide +kernel))) rfl
theorem se_X3_readTest : Cond.selects yX3_readTest.cls yX3_readTest yX3_readTest ∈ gtbl := gtbl_of (List.mem_append_left _ (List.mem_of_getElem? (i := 52) (by decide +kernel))) rfl
theorem cd_X3_readBoth : Cond.code yX3_readBoth cX3_readBoth 3 none ∈ gtbl := gtbl_of (List.mem_append_right _ (List.mem_of_getElem? (i := 1213) (by decide +kernel))) rfl
theorem im_X3_readBoth : Cond.instanceMethod yX3_readBoth ∈ gtbl := gtbl_of (List.mem_append_right _ (List.mem_of_getElem? (i := 1212) (by decide +kernel))) rfl
theorem se_X3_readBoth : Cond.selects yX3_readBoth.cls yX3_readBoth yX3_readBoth ∈ gtbl := gtbl_of (List.mem_append_left _ (List.mem_of_getElem? (i := 53) (by decide +kernel))) rfl
theorem cd_X3_readSingle : Cond.code yX3_readSingle cX3_readSingle 3 none ∈ gtbl := gtbl_of (List.mem_append_right _ (List.mem_of_getElem? (i := 1217) (by decide +kernel))) rfl
theorem im_X3_readSingle : Cond.instanceMethod yX3_readSingle ∈ gtbl := gtbl_of (List.mem_append_right _ (List.mem_of_getElem? (i := 1216) (by decide +kernel))) rfl
theorem se_X3_readSingle : Cond.selects yX3_readSingle.cls yX3_readSingle yX3_readSingle ∈ gtbl := gtbl_of (List.mem_append_left _ (List.mem_of_getElem? (i := 54) (by decide +kernel))) rfl
theorem cd_X3_expectComparison : Cond.code yX3_expectComparison cX3_expectComparison 1 none ∈ gtbl := gtbl_of (List.mem_append_right _ (List.mem_of_getElem? (i := 1221) (by decide +kernel))) rfl
theorem im_X3_expectComparison : Cond.instanceMethod yX3_expectComparison ∈ gtbl := gtbl_of (List.mem_append_right _ (List.mem_of_getElem? (i := 1220) (by decide +kernel))) rfl
theorem se_X3_expectComparison : Cond.selects yX3_expectComparison.cls yX3_expectComparison yX3_expectComparison ∈ gtbl := gtbl_of (List.mem_append_left _ (List.mem_of_getElem? (i := 55) (by decide +kernel))) rfl
theorem cd_X3_readSum : Cond.code yX3_readSum cX3_readSum 4 none ∈ gtbl := gtbl_of (List.mem_append_right _ (List.mem_of_getElem? (i := 1181) (by decide +kernel))) rfl
theorem im_X3_readSum : Cond.instanceMethod yX3_readSum ∈ gtbl := gtbl_of (List.mem_append_right _ (List.mem_of_getElem? (i := 1180) (by decide +kernel))) rfl
theorem se_X3_readSum : Cond.selects yX3_readSum.cls yX3_readSum yX3_readSum ∈ gtbl := gtbl_of (List.mem_append_left _ (List.mem_of_getElem? (i := 46) (by decide +kernel))) rfl
theorem cd_X3_readProduct : Cond.code yX3_readProduct cX3_readProduct 4 none ∈ gtbl := gtbl_of (List.mem_append_right _ (List.mem_of_getElem? (i := 1185) (by decide +kernel))) rfl
theorem im_X3_readProduct : Cond.instanceMethod yX3_readProduct ∈ gtbl := gtbl_of (List.mem_append_right _ (List.mem_of_getElem? (i := 1184) (by decide +kernel))) rfl
theorem se_X3_readProduct : Cond.selects yX3_readProduct.cls yX3_readProduct yX3_readProduct ∈ gtbl := gtbl_of (List.mem_append_left _ (List.mem_of_getElem? (i := 47) (by decide +kernel))) rfl
theorem cd_X3_readValue : Cond.code yX3_readValue cX3_readValue 3 none ∈ gtbl := gtbl_of (List.mem_append_right _ (List.mem_of_getElem? (i := 1189) (by decide +kernel))) rfl
theorem im_X3_readValue : Cond.instanceMethod yX3_readValue ∈ gtbl := gtbl_of (List.mem_append_right _ (List.mem_of_getElem? (i := 1188) (by decide +kernel))) rfl
theorem se_X3_readValue : Cond.selects yX3_readValue.cls yX3_readValue yX3_readValue ∈ gtbl := gtbl_of (List.mem_append_left _ (List.mem_of_getElem? (i := 48) (by decide +kernel))) rfl
theorem cd_X3_readEnclosed : Cond.code yX3_readEnclosed cX3_readEnclosed 2 none ∈ gtbl := gtbl_of (List.mem_append_right _ (List.mem_of_getElem? (i := 1197) (by decide +kernel))) rfl
theorem im_X3_readEnclosed : Cond.instanceMethod yX3_readEnclosed ∈ gtbl := gtbl_of (List.mem_append_right _ (List.mem_of_getElem? (i := 1196) (by decide +kernel))) rfl
theorem se_X3_readEnclosed : Cond.selects yX3_readEnclosed.cls yX3_readEnclosed yX3_readEnclosed ∈ gtbl := gtbl_of (List.mem_append_left _ (List.mem_of_getElem? (i := 49) (by decide +kernel))) rfl
theorem cd_X3_readPair : Cond.code yX3_readPair cX3_readPair 2 none ∈ gtbl := gtbl_of (List.mem_append_right _ (List.mem_of_getElem? (i := 1205) (by decide +kernel))) rfl
theorem im_X3_readPair : Cond.instanceMethod yX3_readPair ∈ gtbl := gtbl_of (List.mem_append_right _ (List.mem_of_getElem? (i := 1204) (by decide +kernel))) rfl
theorem se_X3_readPair : Cond.selects yX3_readPair.cls yX3_readPair yX3_readPair ∈ gtbl := gtbl_of (List.mem_append_left _ (List.mem_of_getElem? (i := 51) (by decide +kernel))) rfl
theorem cd_X3_goesDeeper : Cond.code yX3_goesDeeper cX3_goesDeeper 3 (some .boolean) ∈ gtbl := gtbl_of (List.mem_append_right _ (List.mem_of_getElem? (i := 1201) (by decide +kernel))) rfl
theorem im_X3_goesDeeper : Cond.instanceMethod yX3_goesDeeper ∈ gtbl := gtbl_of (List.mem_append_right _ (List.mem_of_getElem? (i := 1200) (by decide +kernel))) rfl

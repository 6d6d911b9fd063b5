/-! the tables' words by place -/
def CallF (own : String) (idx : Nat) (y : MethodName) (bytes : ByteArray) (maxL : Nat) (ret : Option FieldType) (n : Nat) : Prop := Cond.code y bytes maxL ret ∈ gtbl ∧ Cond.methodLink own idx y ∈ gtbl ∧ Cond.initialized y.cls ∈ gtbl ∧ (y.cls ≠ "java/lang/invoke/MethodHandle" ∧ y.cls ≠ "java/lang/invoke/VarHandle" ∧ (parseMethodDescriptor y.desc).map (fun d => d.parameters.length) = some n)
theorem fl_X5_9 : Cond.fieldLink RX5 9 "SofaDig$Tape" "bytes" "[B" ∈ gtbl := gtbl_of (List.mem_append_right _ (List.mem_of_getElem? (i := 40) (by decide +kernel))) rfl
theorem fl_X8_55 : Cond.fieldLink RX8 55 "SofaDig$Tape" "length" "I" ∈ gtbl := gtbl_of (List.mem_append_right _ (List.mem_of_getElem? (i := 41) (by decide +kernel))) rfl
theorem fl_X5_15 : Cond.fieldLink RX5 15 "SofaDig$Tape" "length" "I" ∈ gtbl := gtbl_of (List.mem_append_right _ (List.mem_of_getElem? (i := 42) (by decide +kernel))) rfl
theorem fl_X1_27 : Cond.fieldLink RX1 27 "SofaDig$Plan" "orders" "I" ∈ gtbl := gtbl_of (List.mem_append_right _ (List.mem_of_getElem? (i := 61) (by decide +kernel))) rfl
theorem fl_X2_27 : Cond.fieldLink RX2 27 "SofaDig$Plan" "orders" "I" ∈ gtbl := gtbl_of (List.mem_append_right _ (List.mem_of_getElem? (i := 62) (by decide +kernel))) rfl
theorem fl_X3_160 : Cond.fieldLink RX3 160 "SofaDig$Plan" "orders" "I" ∈ gtbl := gtbl_of (List.mem_append_right _ (List.mem_of_getElem? (i := 63) (by decide +kernel))) rfl
theorem fl_X1_31 : Cond.fieldLink RX1 31 "SofaDig$Plan" "steps" "I" ∈ gtbl := gtbl_of (List.mem_append_right _ (List.mem_of_getElem? (i := 64) (by decide +kernel))) rfl
theorem fl_X3_168 : Cond.fieldLink RX3 168 "SofaDig$Plan" "steps" "I" ∈ gtbl := gtbl_of (List.mem_append_right _ (List.mem_of_getElem? (i := 65) (by decide +kernel))) rfl
theorem fl_X1_9 : Cond.fieldLink RX1 9 "SofaDig$Plan" "kinds" "[I" ∈ gtbl := gtbl_of (List.mem_append_right _ (List.mem_of_getElem? (i := 66) (by decide +kernel))) rfl
theorem fl_X1_15 : Cond.fieldLink RX1 15 "SofaDig$Plan" "sumEnds" "[I" ∈ gtbl := gtbl_of (List.mem_append_right _ (List.mem_of_getElem? (i := 67) (by decide +kernel))) rfl
theorem fl_X1_18 : Cond.fieldLink RX1 18 "SofaDig$Plan" "testEnds" "[I" ∈ gtbl := gtbl_of (List.mem_append_right _ (List.mem_of_getElem? (i := 68) (by decide +kernel))) rfl
theorem fl_X1_21 : Cond.fieldLink RX1 21 "SofaDig$Plan" "stepKinds" "[I" ∈ gtbl := gtbl_of (List.mem_append_right _ (List.mem_of_getElem? (i := 69) (by decide +kernel))) rfl
theorem fl_X1_24 : Cond.fieldLink RX1 24 "SofaDig$Plan" "stepDetails" "[I" ∈ gtbl := gtbl_of (List.mem_append_right _ (List.mem_of_getElem? (i := 70) (by decide +kernel))) rfl
theorem fl_X7_12 : Cond.fieldLink RX7 12 "SofaDig$Told" "plan" "LSofaDig$Plan;" ∈ gtbl := gtbl_of (List.mem_append_right _ (List.mem_of_getElem? (i := 102) (by decide +kernel))) rfl
theorem fl_X2_21 : Cond.fieldLink RX2 21 "SofaDig$Told" "plan" "LSofaDig$Plan;" ∈ gtbl := gtbl_of (List.mem_append_right _ (List.mem_of_getElem? (i := 103) (by decide +kernel))) rfl
theorem fl_X3_156 : Cond.fieldLink RX3 156 "SofaDig$Told" "plan" "LSofaDig$Plan;" ∈ gtbl := gtbl_of (List.mem_append_right _ (List.mem_of_getElem? (i := 104) (by decide +kernel))) rfl
theorem fl_X4_39 : Cond.fieldLink RX4 39 "SofaDig$Told" "seats" "I" ∈ gtbl := gtbl_of (List.mem_append_right _ (List.mem_of_getElem? (i := 105) (by decide +kernel))) rfl
theorem fl_X7_66 : Cond.fieldLink RX7 66 "SofaDig$Told" "seats" "I" ∈ gtbl := gtbl_of (List.mem_append_right _ (List.mem_of_getElem? (i := 106) (by decide +kernel))) rfl
theorem fl_X8_87 : Cond.fieldLink RX8 87 "SofaDig$Told" "seats" "I" ∈ gtbl := gtbl_of (List.mem_append_right _ (List.mem_of_getElem? (i := 107) (by decide +kernel))) rfl
theorem fl_X3_139 : Cond.fieldLink RX3 139 "SofaDig$Told" "seats" "I" ∈ gtbl := gtbl_of (List.mem_append_right _ (List.mem_of_getElem? (i := 108) (by decide +kernel))) rfl
theorem fl_X4_45 : Cond.fieldLink RX4 45 "SofaDig$Told" "strata" "I" ∈ gtbl := gtbl_of (List.mem_append_right _ (List.mem_of_getElem? (i := 109) (by decide +kernel))) rfl
theorem fl_X7_69 : Cond.fieldLink RX7 69 "SofaDig$Told" "strata" "I" ∈ gtbl := gtbl_of (List.mem_append_right _ (List.mem_of_getElem? (i := 110) (by decide +kernel))) rfl
theorem fl_X8_90 : Cond.fieldLink RX8 90 "SofaDig$Told" "strata" "I" ∈ gtbl := gtbl_of (List.mem_append_right _ (List.mem_of_getElem? (i := 111) (by decide +kernel))) rfl
theorem fl_X3_153 : Cond.fieldLink RX3 153 "SofaDig$Told" "strata" "I" ∈ gtbl := gtbl_of (List.mem_append_right _ (List.mem_of_getElem? (i := 112) (by decide +kernel))) rfl
theorem fl_X7_52 : Cond.fieldLink RX7 52 "SofaDig$Told" "empires" "I" ∈ gtbl := gtbl_of (List.mem_append_right _ (List.mem_of_getElem? (i := 113) (by decide +kernel))) rfl
theorem fl_X3_111 : Cond.fieldLink RX3 111 "SofaDig$Told" "empires" "I" ∈ gtbl := gtbl_of (List.mem_append_right _ (List.mem_of_getElem? (i := 114) (by decide +kernel))) rfl
theorem fl_X4_101 : Cond.fieldLink RX4 101 "SofaDig$Told" "empires" "I" ∈ gtbl := gtbl_of (List.mem_append_right _ (List.mem_of_getElem? (i := 115) (by decide +kernel))) rfl
theorem fl_X8_187 : Cond.fieldLink RX8 187 "SofaDig$Told" "empires" "I" ∈ gtbl := gtbl_of (List.mem_append_right _ (List.mem_of_getElem? (i := 116) (by decide +kernel))) rfl
theorem fl_X7_56 : Cond.fieldLink RX7 56 "SofaDig$Told" "finds" "I" ∈ gtbl := gtbl_of (List.mem_append_right _ (List.mem_of_getElem? (i := 117) (by decide +kernel))) rfl
theorem fl_X8_93 : Cond.fieldLink RX8 93 "SofaDig$Told" "finds" "I" ∈ gtbl := gtbl_of (List.mem_append_right _ (List.mem_of_getElem? (i := 118) (by decide +kernel))) rfl
theorem fl_X4_80 : Cond.fieldLink RX4 80 "SofaDig$Told" "finds" "I" ∈ gtbl := gtbl_of (List.mem_append_right _ (List.mem_of_getElem? (i := 119) (by decide +kernel))) rfl
theorem fl_X3_133 : Cond.fieldLink RX3 133 "SofaDig$Told" "finds" "I" ∈ gtbl := gtbl_of (List.mem_append_right _ (List.mem_of_getElem? (i := 120) (by decide +kernel))) rfl
theorem fl_X7_18 : Cond.fieldLink RX7 18 "SofaDig$Told" "names" "[J" ∈ gtbl := gtbl_of (List.mem_append_right _ (List.mem_of_getElem? (i := 121) (by decide +kernel))) rfl
theorem fl_X7_22 : Cond.fieldLink RX7 22 "SofaDig$Told" "froms" "[I" ∈ gtbl := gtbl_of (List.mem_append_right _ (List.mem_of_getElem? (i := 122) (by decide +kernel))) rfl
theorem fl_X7_26 : Cond.fieldLink RX7 26 "SofaDig$Told" "tos" "[I" ∈ gtbl := gtbl_of (List.mem_append_right _ (List.mem_of_getElem? (i := 123) (by decide +kernel))) rfl
theorem fl_X7_29 : Cond.fieldLink RX7 29 "SofaDig$Told" "coins" "[Z" ∈ gtbl := gtbl_of (List.mem_append_right _ (List.mem_of_getElem? (i := 124) (by decide +kernel))) rfl
theorem fl_X7_33 : Cond.fieldLink RX7 33 "SofaDig$Told" "cushions" "[I" ∈ gtbl := gtbl_of (List.mem_append_right _ (List.mem_of_getElem? (i := 125) (by decide +kernel))) rfl
theorem fl_X7_36 : Cond.fieldLink RX7 36 "SofaDig$Told" "details" "[I" ∈ gtbl := gtbl_of (List.mem_append_right _ (List.mem_of_getElem? (i := 126) (by decide +kernel))) rfl
theorem fl_X7_39 : Cond.fieldLink RX7 39 "SofaDig$Told" "findsIn" "[I" ∈ gtbl := gtbl_of (List.mem_append_right _ (List.mem_of_getElem? (i := 127) (by decide +kernel))) rfl
theorem fl_X7_42 : Cond.fieldLink RX7 42 "SofaDig$Told" "springsIn" "[Z" ∈ gtbl := gtbl_of (List.mem_append_right _ (List.mem_of_getElem? (i := 128) (by decide +kernel))) rfl
theorem fl_X6_9 : Cond.fieldLink RX6 9 "SofaDig$Tokens" "kinds" "[I" ∈ gtbl := gtbl_of (List.mem_append_right _ (List.mem_of_getElem? (i := 170) (by decide +kernel))) rfl
theorem fl_X3_43 : Cond.fieldLink RX3 43 "SofaDig$Tokens" "kinds" "[I" ∈ gtbl := gtbl_of (List.mem_append_right _ (List.mem_of_getElem? (i := 171) (by decide +kernel))) rfl
theorem fl_X6_15 : Cond.fieldLink RX6 15 "SofaDig$Tokens" "starts" "[I" ∈ gtbl := gtbl_of (List.mem_append_right _ (List.mem_of_getElem? (i := 172) (by decide +kernel))) rfl
theorem fl_X3_65 : Cond.fieldLink RX3 65 "SofaDig$Tokens" "starts" "[I" ∈ gtbl := gtbl_of (List.mem_append_right _ (List.mem_of_getElem? (i := 173) (by decide +kernel))) rfl
theorem fl_X6_18 : Cond.fieldLink RX6 18 "SofaDig$Tokens" "numbers" "[I" ∈ gtbl := gtbl_of (List.mem_append_right _ (List.mem_of_getElem? (i := 174) (by decide +kernel))) rfl
theorem fl_X3_74 : Cond.fieldLink RX3 74 "SofaDig$Tokens" "numbers" "[I" ∈ gtbl := gtbl_of (List.mem_append_right _ (List.mem_of_getElem? (i := 175) (by decide +kernel))) rfl
theorem fl_X6_21 : Cond.fieldLink RX6 21 "SofaDig$Tokens" "names" "[J" ∈ gtbl := gtbl_of (List.mem_append_right _ (List.mem_of_getElem? (i := 176) (by decide +kernel))) rfl
theorem fl_X3_103 : Cond.fieldLink RX3 103 "SofaDig$Tokens" "names" "[J" ∈ gtbl := gtbl_of (List.mem_append_right _ (List.mem_of_getElem? (i := 177) (by decide +kernel))) rfl
theorem fl_X6_33 : Cond.fieldLink RX6 33 "SofaDig$Tokens" "count" "I" ∈ gtbl := gtbl_of (List.mem_append_right _ (List.mem_of_getElem? (i := 178) (by decide +kernel))) rfl
theorem fl_X3_62 : Cond.fieldLink RX3 62 "SofaDig$Tokens" "count" "I" ∈ gtbl := gtbl_of (List.mem_append_right _ (List.mem_of_getElem? (i := 179) (by decide +kernel))) rfl
theorem fl_X6_25 : Cond.fieldLink RX6 25 "SofaDig$Tokens" "tape" "LSofaDig$Tape;" ∈ gtbl := gtbl_of (List.mem_append_right _ (List.mem_of_getElem? (i := 180) (by decide +kernel))) rfl
theorem fl_X6_29 : Cond.fieldLink RX6 29 "SofaDig$Tokens" "next" "I" ∈ gtbl := gtbl_of (List.mem_append_right _ (List.mem_of_getElem? (i := 181) (by decide +kernel))) rfl
theorem fl_X3_14 : Cond.fieldLink RX3 14 "SofaDig$Reader" "tokens" "LSofaDig$Tokens;" ∈ gtbl := gtbl_of (List.mem_append_right _ (List.mem_of_getElem? (i := 199) (by decide +kernel))) rfl
theorem fl_X3_23 : Cond.fieldLink RX3 23 "SofaDig$Reader" "told" "LSofaDig$Told;" ∈ gtbl := gtbl_of (List.mem_append_right _ (List.mem_of_getElem? (i := 200) (by decide +kernel))) rfl
theorem fl_X3_40 : Cond.fieldLink RX3 40 "SofaDig$Reader" "at" "I" ∈ gtbl := gtbl_of (List.mem_append_right _ (List.mem_of_getElem? (i := 201) (by decide +kernel))) rfl
theorem fl_X3_47 : Cond.fieldLink RX3 47 "SofaDig$Reader" "kind" "I" ∈ gtbl := gtbl_of (List.mem_append_right _ (List.mem_of_getElem? (i := 202) (by decide +kernel))) rfl
theorem fl_X3_31 : Cond.fieldLink RX3 31 "SofaDig$Reader" "error" "I" ∈ gtbl := gtbl_of (List.mem_append_right _ (List.mem_of_getElem? (i := 203) (by decide +kernel))) rfl
theorem fl_X3_27 : Cond.fieldLink RX3 27 "SofaDig$Reader" "errorStart" "I" ∈ gtbl := gtbl_of (List.mem_append_right _ (List.mem_of_getElem? (i := 204) (by decide +kernel))) rfl
theorem fl_X2_9 : Cond.fieldLink RX2 9 "SofaDig$Planner" "pile" "[I" ∈ gtbl := gtbl_of (List.mem_append_right _ (List.mem_of_getElem? (i := 224) (by decide +kernel))) rfl
theorem fl_X2_89 : Cond.fieldLink RX2 89 "SofaDig$Planner" "piled" "I" ∈ gtbl := gtbl_of (List.mem_append_right _ (List.mem_of_getElem? (i := 225) (by decide +kernel))) rfl
theorem fl_X4_31 : Cond.fieldLink RX4 31 "SofaDig$Sofa" "told" "LSofaDig$Told;" ∈ gtbl := gtbl_of (List.mem_append_right _ (List.mem_of_getElem? (i := 241) (by decide +kernel))) rfl
theorem fl_X2_15 : Cond.fieldLink RX2 15 "SofaDig$Sofa" "told" "LSofaDig$Told;" ∈ gtbl := gtbl_of (List.mem_append_right _ (List.mem_of_getElem? (i := 242) (by decide +kernel))) rfl
theorem fl_X4_9 : Cond.fieldLink RX4 9 "SofaDig$Sofa" "stacks" "[I" ∈ gtbl := gtbl_of (List.mem_append_right _ (List.mem_of_getElem? (i := 243) (by decide +kernel))) rfl
theorem fl_X4_15 : Cond.fieldLink RX4 15 "SofaDig$Sofa" "heights" "[I" ∈ gtbl := gtbl_of (List.mem_append_right _ (List.mem_of_getElem? (i := 244) (by decide +kernel))) rfl
theorem fl_X4_18 : Cond.fieldLink RX4 18 "SofaDig$Sofa" "loose" "[Z" ∈ gtbl := gtbl_of (List.mem_append_right _ (List.mem_of_getElem? (i := 245) (by decide +kernel))) rfl
theorem fl_X4_22 : Cond.fieldLink RX4 22 "SofaDig$Sofa" "propped" "[Z" ∈ gtbl := gtbl_of (List.mem_append_right _ (List.mem_of_getElem? (i := 246) (by decide +kernel))) rfl
theorem fl_X4_25 : Cond.fieldLink RX4 25 "SofaDig$Sofa" "foundOnes" "[Z" ∈ gtbl := gtbl_of (List.mem_append_right _ (List.mem_of_getElem? (i := 247) (by decide +kernel))) rfl
theorem fl_X4_28 : Cond.fieldLink RX4 28 "SofaDig$Sofa" "sureOnes" "[Z" ∈ gtbl := gtbl_of (List.mem_append_right _ (List.mem_of_getElem? (i := 248) (by decide +kernel))) rfl
theorem fl_X2_58 : Cond.fieldLink RX2 58 "SofaDig$Sofa" "days" "I" ∈ gtbl := gtbl_of (List.mem_append_right _ (List.mem_of_getElem? (i := 249) (by decide +kernel))) rfl
theorem fl_X4_48 : Cond.fieldLink RX4 48 "SofaDig$Sofa" "days" "I" ∈ gtbl := gtbl_of (List.mem_append_right _ (List.mem_of_getElem? (i := 250) (by decide +kernel))) rfl
theorem fl_X8_96 : Cond.fieldLink RX8 96 "SofaDig$Sofa" "days" "I" ∈ gtbl := gtbl_of (List.mem_append_right _ (List.mem_of_getElem? (i := 251) (by decide +kernel))) rfl
theorem fl_X4_51 : Cond.fieldLink RX4 51 "SofaDig$Sofa" "carriedOut" "I" ∈ gtbl := gtbl_of (List.mem_append_right _ (List.mem_of_getElem? (i := 252) (by decide +kernel))) rfl
theorem fl_X2_72 : Cond.fieldLink RX2 72 "SofaDig$Sofa" "carriedOut" "I" ∈ gtbl := gtbl_of (List.mem_append_right _ (List.mem_of_getElem? (i := 253) (by decide +kernel))) rfl
theorem fl_X8_99 : Cond.fieldLink RX8 99 "SofaDig$Sofa" "carriedOut" "I" ∈ gtbl := gtbl_of (List.mem_append_right _ (List.mem_of_getElem? (i := 254) (by decide +kernel))) rfl
theorem fl_X4_54 : Cond.fieldLink RX4 54 "SofaDig$Sofa" "dug" "I" ∈ gtbl := gtbl_of (List.mem_append_right _ (List.mem_of_getElem? (i := 255) (by decide +kernel))) rfl
theorem fl_X8_102 : Cond.fieldLink RX8 102 "SofaDig$Sofa" "dug" "I" ∈ gtbl := gtbl_of (List.mem_append_right _ (List.mem_of_getElem? (i := 256) (by decide +kernel))) rfl
theorem fl_X4_57 : Cond.fieldLink RX4 57 "SofaDig$Sofa" "slid" "I" ∈ gtbl := gtbl_of (List.mem_append_right _ (List.mem_of_getElem? (i := 257) (by decide +kernel))) rfl
theorem fl_X2_111 : Cond.fieldLink RX2 111 "SofaDig$Sofa" "slid" "I" ∈ gtbl := gtbl_of (List.mem_append_right _ (List.mem_of_getElem? (i := 258) (by decide +kernel))) rfl
theorem fl_X8_105 : Cond.fieldLink RX8 105 "SofaDig$Sofa" "slid" "I" ∈ gtbl := gtbl_of (List.mem_append_right _ (List.mem_of_getElem? (i := 259) (by decide +kernel))) rfl
theorem fl_X4_60 : Cond.fieldLink RX4 60 "SofaDig$Sofa" "foundCount" "I" ∈ gtbl := gtbl_of (List.mem_append_right _ (List.mem_of_getElem? (i := 260) (by decide +kernel))) rfl
theorem fl_X2_108 : Cond.fieldLink RX2 108 "SofaDig$Sofa" "foundCount" "I" ∈ gtbl := gtbl_of (List.mem_append_right _ (List.mem_of_getElem? (i := 261) (by decide +kernel))) rfl
theorem fl_X8_108 : Cond.fieldLink RX8 108 "SofaDig$Sofa" "foundCount" "I" ∈ gtbl := gtbl_of (List.mem_append_right _ (List.mem_of_getElem? (i := 262) (by decide +kernel))) rfl
theorem fl_X4_63 : Cond.fieldLink RX4 63 "SofaDig$Sofa" "sureCount" "I" ∈ gtbl := gtbl_of (List.mem_append_right _ (List.mem_of_getElem? (i := 263) (by decide +kernel))) rfl
theorem fl_X8_111 : Cond.fieldLink RX8 111 "SofaDig$Sofa" "sureCount" "I" ∈ gtbl := gtbl_of (List.mem_append_right _ (List.mem_of_getElem? (i := 264) (by decide +kernel))) rfl
theorem fl_X4_66 : Cond.fieldLink RX4 66 "SofaDig$Sofa" "propCount" "I" ∈ gtbl := gtbl_of (List.mem_append_right _ (List.mem_of_getElem? (i := 265) (by decide +kernel))) rfl
theorem fl_X2_114 : Cond.fieldLink RX2 114 "SofaDig$Sofa" "propCount" "I" ∈ gtbl := gtbl_of (List.mem_append_right _ (List.mem_of_getElem? (i := 266) (by decide +kernel))) rfl
theorem fl_X8_114 : Cond.fieldLink RX8 114 "SofaDig$Sofa" "propCount" "I" ∈ gtbl := gtbl_of (List.mem_append_right _ (List.mem_of_getElem? (i := 267) (by decide +kernel))) rfl
theorem fl_X8_13 : Cond.fieldLink RX8 13 "SofaDig" "tape" "LSofaDig$Tape;" ∈ gtbl := gtbl_of (List.mem_append_right _ (List.mem_of_getElem? (i := 297) (by decide +kernel))) rfl
theorem fl_X8_24 : Cond.fieldLink RX8 24 "SofaDig" "reader" "LSofaDig$Reader;" ∈ gtbl := gtbl_of (List.mem_append_right _ (List.mem_of_getElem? (i := 298) (by decide +kernel))) rfl
theorem fl_X8_31 : Cond.fieldLink RX8 31 "SofaDig" "planner" "LSofaDig$Planner;" ∈ gtbl := gtbl_of (List.mem_append_right _ (List.mem_of_getElem? (i := 299) (by decide +kernel))) rfl
theorem fl_X8_40 : Cond.fieldLink RX8 40 "SofaDig" "sofa" "LSofaDig$Sofa;" ∈ gtbl := gtbl_of (List.mem_append_right _ (List.mem_of_getElem? (i := 300) (by decide +kernel))) rfl
theorem fl_X8_44 : Cond.fieldLink RX8 44 "SofaDig" "trial" "LSofaDig$Sofa;" ∈ gtbl := gtbl_of (List.mem_append_right _ (List.mem_of_getElem? (i := 301) (by decide +kernel))) rfl
theorem fl_X8_47 : Cond.fieldLink RX8 47 "SofaDig" "told" "LSofaDig$Told;" ∈ gtbl := gtbl_of (List.mem_append_right _ (List.mem_of_getElem? (i := 302) (by decide +kernel))) rfl
theorem fl_X8_51 : Cond.fieldLink RX8 51 "SofaDig" "errorPlace" "I" ∈ gtbl := gtbl_of (List.mem_append_right _ (List.mem_of_getElem? (i := 303) (by decide +kernel))) rfl
theorem fl_X9_9 : Cond.fieldLink RX9 9 "SofaDigModel$Plan" "seats" "I" ∈ gtbl := gtbl_of (List.mem_append_right _ (List.mem_of_getElem? (i := 1223) (by decide +kernel))) rfl
theorem fl_X9_15 : Cond.fieldLink RX9 15 "SofaDigModel$Plan" "strata" "I" ∈ gtbl := gtbl_of (List.mem_append_right _ (List.mem_of_getElem? (i := 1225) (by decide +kernel))) rfl
theorem fl_X9_18 : Cond.fieldLink RX9 18 "SofaDigModel$Plan" "empire" "[J" ∈ gtbl := gtbl_of (List.mem_append_right _ (List.mem_of_getElem? (i := 1228) (by decide +kernel))) rfl
theorem fl_X9_22 : Cond.fieldLink RX9 22 "SofaDigModel$Plan" "begin" "[I" ∈ gtbl := gtbl_of (List.mem_append_right _ (List.mem_of_getElem? (i := 1230) (by decide +kernel))) rfl
theorem fl_X9_26 : Cond.fieldLink RX9 26 "SofaDigModel$Plan" "end" "[I" ∈ gtbl := gtbl_of (List.mem_append_right _ (List.mem_of_getElem? (i := 1232) (by decide +kernel))) rfl
theorem fl_X9_29 : Cond.fieldLink RX9 29 "SofaDigModel$Plan" "isCoin" "[Z" ∈ gtbl := gtbl_of (List.mem_append_right _ (List.mem_of_getElem? (i := 1235) (by decide +kernel))) rfl
theorem fl_X9_33 : Cond.fieldLink RX9 33 "SofaDigModel$Plan" "cushion" "[I" ∈ gtbl := gtbl_of (List.mem_append_right _ (List.mem_of_getElem? (i := 1237) (by decide +kernel))) rfl
theorem fl_X9_36 : Cond.fieldLink RX9 36 "SofaDigModel$Plan" "what" "[I" ∈ gtbl := gtbl_of (List.mem_append_right _ (List.mem_of_getElem? (i := 1239) (by decide +kernel))) rfl
theorem fl_X9_39 : Cond.fieldLink RX9 39 "SofaDigModel$Plan" "find" "[I" ∈ gtbl := gtbl_of (List.mem_append_right _ (List.mem_of_getElem? (i := 1241) (by decide +kernel))) rfl
theorem fl_X9_42 : Cond.fieldLink RX9 42 "SofaDigModel$Plan" "spring" "[Z" ∈ gtbl := gtbl_of (List.mem_append_right _ (List.mem_of_getElem? (i := 1243) (by decide +kernel))) rfl
theorem fl_X9_45 : Cond.fieldLink RX9 45 "SofaDigModel$Plan" "does" "[I" ∈ gtbl := gtbl_of (List.mem_append_right _ (List.mem_of_getElem? (i := 1246) (by decide +kernel))) rfl
theorem fl_X9_48 : Cond.fieldLink RX9 48 "SofaDigModel$Plan" "begins" "[I" ∈ gtbl := gtbl_of (List.mem_append_right _ (List.mem_of_getElem? (i := 1248) (by decide +kernel))) rfl
theorem fl_X9_51 : Cond.fieldLink RX9 51 "SofaDigModel$Plan" "ends" "[I" ∈ gtbl := gtbl_of (List.mem_append_right _ (List.mem_of_getElem? (i := 1250) (by decide +kernel))) rfl
theorem fl_X9_54 : Cond.fieldLink RX9 54 "SofaDigModel$Plan" "order" "[I" ∈ gtbl := gtbl_of (List.mem_append_right _ (List.mem_of_getElem? (i := 1252) (by decide +kernel))) rfl
theorem fl_X9_57 : Cond.fieldLink RX9 57 "SofaDigModel$Plan" "with" "[I" ∈ gtbl := gtbl_of (List.mem_append_right _ (List.mem_of_getElem? (i := 1254) (by decide +kernel))) rfl
theorem fl_X10_58 : Cond.fieldLink RX10 58 "SofaDigModel" "thrown" "I" ∈ gtbl := gtbl_of (List.mem_append_right _ (List.mem_of_getElem? (i := 1300) (by decide +kernel))) rfl
theorem fl_X10_9 : Cond.fieldLink RX10 9 "SofaDigModel" "tape" "[I" ∈ gtbl := gtbl_of (List.mem_append_right _ (List.mem_of_getElem? (i := 1301) (by decide +kernel))) rfl
theorem fl_X10_210 : Cond.fieldLink RX10 210 "SofaDigModel" "size" "I" ∈ gtbl := gtbl_of (List.mem_append_right _ (List.mem_of_getElem? (i := 1302) (by decide +kernel))) rfl
theorem fl_X10_13 : Cond.fieldLink RX10 13 "SofaDigModel" "errorAt" "I" ∈ gtbl := gtbl_of (List.mem_append_right _ (List.mem_of_getElem? (i := 1303) (by decide +kernel))) rfl
theorem fl_X10_20 : Cond.fieldLink RX10 20 "SofaDigModel" "plan" "LSofaDigModel$Plan;" ∈ gtbl := gtbl_of (List.mem_append_right _ (List.mem_of_getElem? (i := 1304) (by decide +kernel))) rfl
theorem fl_X10_24 : Cond.fieldLink RX10 24 "SofaDigModel" "kind" "[I" ∈ gtbl := gtbl_of (List.mem_append_right _ (List.mem_of_getElem? (i := 1305) (by decide +kernel))) rfl
theorem fl_X10_27 : Cond.fieldLink RX10 27 "SofaDigModel" "from" "[I" ∈ gtbl := gtbl_of (List.mem_append_right _ (List.mem_of_getElem? (i := 1306) (by decide +kernel))) rfl
theorem fl_X10_30 : Cond.fieldLink RX10 30 "SofaDigModel" "means" "[I" ∈ gtbl := gtbl_of (List.mem_append_right _ (List.mem_of_getElem? (i := 1307) (by decide +kernel))) rfl
theorem fl_X10_33 : Cond.fieldLink RX10 33 "SofaDigModel" "value" "[J" ∈ gtbl := gtbl_of (List.mem_append_right _ (List.mem_of_getElem? (i := 1308) (by decide +kernel))) rfl
theorem fl_X10_37 : Cond.fieldLink RX10 37 "SofaDigModel" "who" "[I" ∈ gtbl := gtbl_of (List.mem_append_right _ (List.mem_of_getElem? (i := 1309) (by decide +kernel))) rfl
theorem fl_X10_256 : Cond.fieldLink RX10 256 "SofaDigModel" "token" "I" ∈ gtbl := gtbl_of (List.mem_append_right _ (List.mem_of_getElem? (i := 1310) (by decide +kernel))) rfl
theorem fl_X10_262 : Cond.fieldLink RX10 262 "SofaDigModel" "depth" "I" ∈ gtbl := gtbl_of (List.mem_append_right _ (List.mem_of_getElem? (i := 1311) (by decide +kernel))) rfl
theorem fl_X10_313 : Cond.fieldLink RX10 313 "SofaDigModel" "ordersRead" "I" ∈ gtbl := gtbl_of (List.mem_append_right _ (List.mem_of_getElem? (i := 1312) (by decide +kernel))) rfl
theorem fl_X10_337 : Cond.fieldLink RX10 337 "SofaDigModel" "isSpring" "Z" ∈ gtbl := gtbl_of (List.mem_append_right _ (List.mem_of_getElem? (i := 1313) (by decide +kernel))) rfl
theorem fl_X10_341 : Cond.fieldLink RX10 341 "SofaDigModel" "itsSeat" "I" ∈ gtbl := gtbl_of (List.mem_append_right _ (List.mem_of_getElem? (i := 1314) (by decide +kernel))) rfl
theorem fl_X10_40 : Cond.fieldLink RX10 40 "SofaDigModel" "now" "[I" ∈ gtbl := gtbl_of (List.mem_append_right _ (List.mem_of_getElem? (i := 1315) (by decide +kernel))) rfl
theorem fl_X10_43 : Cond.fieldLink RX10 43 "SofaDigModel" "kept" "[I" ∈ gtbl := gtbl_of (List.mem_append_right _ (List.mem_of_getElem? (i := 1316) (by decide +kernel))) rfl
theorem fl_X10_46 : Cond.fieldLink RX10 46 "SofaDigModel" "stack" "[I" ∈ gtbl := gtbl_of (List.mem_append_right _ (List.mem_of_getElem? (i := 1317) (by decide +kernel))) rfl
theorem fl_X10_242 : Cond.fieldLink RX10 242 "SofaDigModel" "WORDS" "[Ljava/lang/String;" ∈ gtbl := gtbl_of (List.mem_append_right _ (List.mem_of_getElem? (i := 1416) (by decide +kernel))) rfl
theorem cd_X0_ofWord : Cond.code yX0_ofWord cX0_ofWord 4 (some .int) ∈ gtbl := gtbl_of (List.mem_append_right _ (List.mem_of_getElem? (i := 366) (by decide +kernel))) rfl
theorem st_X0_ofWord : Cond.static yX0_ofWord ∈ gtbl := gtbl_of (List.mem_append_right _ (List.mem_of_getElem? (i := 365) (by decide +kernel))) rfl
theorem cd_X0_isWord : Cond.code yX0_isWord cX0_isWord 5 (some .boolean) ∈ gtbl := gtbl_of (List.mem_append_right _ (List.mem_of_getElem? (i := 380) (by decide +kernel))) rfl
theorem st_X0_isWord : Cond.static yX0_isWord ∈ gtbl := gtbl_of (List.mem_append_right _ (List.mem_of_getElem? (i := 379) (by decide +kernel))) rfl
theorem cd_X0_ofSign : Cond.code yX0_ofSign cX0_ofSign 3 (some .int) ∈ gtbl := gtbl_of (List.mem_append_right _ (List.mem_of_getElem? (i := 426) (by decide +kernel))) rfl
theorem st_X0_ofSign : Cond.static yX0_ofSign ∈ gtbl := gtbl_of (List.mem_append_right _ (List.mem_of_getElem? (i := 425) (by decide +kernel))) rfl
theorem cd_X0_lengthOfSign : Cond.code yX0_lengthOfSign cX0_lengthOfSign 1 (some .int) ∈ gtbl := gtbl_of (List.mem_append_right _ (List.mem_of_getElem? (i := 430) (by decide +kernel))) rfl
theorem st_X0_lengthOfSign : Cond.static yX0_lengthOfSign ∈ gtbl := gtbl_of (List.mem_append_right _ (List.mem_of_getElem? (i := 429) (by decide +kernel))) rfl
theorem cd_X1_init : Cond.code yX1_init cX1_init 1 none ∈ gtbl := gtbl_of (List.mem_append_right _ (List.mem_of_getElem? (i := 59) (by decide +kernel))) rfl
theorem im_X1_init : Cond.instanceMethod yX1_init ∈ gtbl := gtbl_of (List.mem_append_right _ (List.mem_of_getElem? (i := 58) (by decide +kernel))) rfl
theorem cd_X1_clear : Cond.code yX1_clear cX1_clear 1 none ∈ gtbl := gtbl_of (List.mem_append_right _ (List.mem_of_getElem? (i := 101) (by decide +kernel))) rfl
theorem im_X1_clear : Cond.instanceMethod yX1_clear ∈ gtbl := gtbl_of (List.mem_append_right _ (List.mem_of_getElem? (i := 99) (by decide +kernel))) rfl
theorem se_X1_clear : Cond.selects yX1_clear.cls yX1_clear yX1_clear ∈ gtbl := gtbl_of (List.mem_append_right _ (List.mem_of_getElem? (i := 100) (by decide +kernel))) rfl
theorem cd_X1_addStep : Cond.code yX1_addStep cX1_addStep 3 none ∈ gtbl := gtbl_of (List.mem_append_right _ (List.mem_of_getElem? (i := 538) (by decide +kernel))) rfl
theorem im_X1_addStep : Cond.instanceMethod yX1_addStep ∈ gtbl := gtbl_of (List.mem_append_right _ (List.mem_of_getElem? (i := 536) (by decide +kernel))) rfl
theorem se_X1_addStep : Cond.selects yX1_addStep.cls yX1_addStep yX1_addStep ∈ gtbl := gtbl_of (List.mem_append_right _ (List.mem_of_getElem? (i := 537) (by decide +kernel))) rfl
theorem cd_X1_addOrder : Cond.code yX1_addOrder cX1_addOrder 3 none ∈ gtbl := gtbl_of (List.mem_append_right _ (List.mem_of_getElem? (i := 570) (by decide +kernel))) rfl
theorem im_X1_addOrder : Cond.instanceMethod yX1_addOrder ∈ gtbl := gtbl_of (List.mem_append_right _ (List.mem_of_getElem? (i := 568) (by decide +kernel))) rfl
theorem se_X1_addOrder : Cond.selects yX1_addOrder.cls yX1_addOrder yX1_addOrder ∈ gtbl := gtbl_of (List.mem_append_right _ (List.mem_of_getElem? (i := 569) (by decide +kernel))) rfl
theorem cd_X1_kindOf : Cond.code yX1_kindOf cX1_kindOf 2 (some .int) ∈ gtbl := gtbl_of (List.mem_append_right _ (List.mem_of_getElem? (i := 1181) (by decide +kernel))) rfl
theorem im_X1_kindOf : Cond.instanceMethod yX1_kindOf ∈ gtbl := gtbl_of (List.mem_append_right _ (List.mem_of_getElem? (i := 1179) (by decide +kernel))) rfl
theorem se_X1_kindOf : Cond.selects yX1_kindOf.cls yX1_kindOf yX1_kindOf ∈ gtbl := gtbl_of (List.mem_append_right _ (List.mem_of_getElem? (i := 1180) (by decide +kernel))) rfl
theorem cd_X1_sumStart : Cond.code yX1_sumStart cX1_sumStart 2 (some .int) ∈ gtbl := gtbl_of (List.mem_append_right _ (List.mem_of_getElem? (i := 1176) (by decide +kernel))) rfl
theorem im_X1_sumStart : Cond.instanceMethod yX1_sumStart ∈ gtbl := gtbl_of (List.mem_append_right _ (List.mem_of_getElem? (i := 1174) (by decide +kernel))) rfl
theorem se_X1_sumStart : Cond.selects yX1_sumStart.cls yX1_sumStart yX1_sumStart ∈ gtbl := gtbl_of (List.mem_append_right _ (List.mem_of_getElem? (i := 1175) (by decide +kernel))) rfl
theorem cd_X1_sumEnd : Cond.code yX1_sumEnd cX1_sumEnd 2 (some .int) ∈ gtbl := gtbl_of (List.mem_append_right _ (List.mem_of_getElem? (i := 1107) (by decide +kernel))) rfl
theorem im_X1_sumEnd : Cond.instanceMethod yX1_sumEnd ∈ gtbl := gtbl_of (List.mem_append_right _ (List.mem_of_getElem? (i := 1105) (by decide +kernel))) rfl
theorem se_X1_sumEnd : Cond.selects yX1_sumEnd.cls yX1_sumEnd yX1_sumEnd ∈ gtbl := gtbl_of (List.mem_append_right _ (List.mem_of_getElem? (i := 1106) (by decide +kernel))) rfl
theorem cd_X1_testEnd : Cond.code yX1_testEnd cX1_testEnd 2 (some .int) ∈ gtbl := gtbl_of (List.mem_append_right _ (List.mem_of_getElem? (i := 1115) (by decide +kernel))) rfl
theorem im_X1_testEnd : Cond.instanceMethod yX1_testEnd ∈ gtbl := gtbl_of (List.mem_append_right _ (List.mem_of_getElem? (i := 1113) (by decide +kernel))) rfl
theorem se_X1_testEnd : Cond.selects yX1_testEnd.cls yX1_testEnd yX1_testEnd ∈ gtbl := gtbl_of (List.mem_append_right _ (List.mem_of_getElem? (i := 1114) (by decide +kernel))) rfl
theorem cd_X1_stepKind : Cond.code yX1_stepKind cX1_stepKind 2 (some .int) ∈ gtbl := gtbl_of (List.mem_append_right _ (List.mem_of_getElem? (i := 1123) (by decide +kernel))) rfl
theorem im_X1_stepKind : Cond.instanceMethod yX1_stepKind ∈ gtbl := gtbl_of (List.mem_append_right _ (List.mem_of_getElem? (i := 1121) (by decide +kernel))) rfl
theorem se_X1_stepKind : Cond.selects yX1_stepKind.cls yX1_stepKind yX1_stepKind ∈ gtbl := gtbl_of (List.mem_append_right _ (List.mem_of_getElem? (i := 1122) (by decide +kernel))) rfl
theorem cd_X1_stepDetail : Cond.code yX1_stepDetail cX1_stepDetail 2 (some .int) ∈ gtbl := gtbl_of (List.mem_append_right _ (List.mem_of_getElem? (i := 1131) (by decide +kernel))) rfl
theorem im_X1_stepDetail : Cond.instanceMethod yX1_stepDetail ∈ gtbl := gtbl_of (List.mem_append_right _ (List.mem_of_getElem? (i := 1129) (by decide +kernel))) rfl
theorem se_X1_stepDetail : Cond.selects yX1_stepDetail.cls yX1_stepDetail yX1_stepDetail ∈ gtbl := gtbl_of (List.mem_append_right _ (List.mem_of_getElem? (i := 1130) (by decide +kernel))) rfl
theorem cd_X1_isOrder : Cond.code yX1_isOrder cX1_isOrder 2 (some .boolean) ∈ gtbl := gtbl_of (List.mem_append_right _ (List.mem_of_getElem? (i := 1111) (by decide +kernel))) rfl
theorem im_X1_isOrder : Cond.instanceMethod yX1_isOrder ∈ gtbl := gtbl_of (List.mem_append_right _ (List.mem_of_getElem? (i := 1110) (by decide +kernel))) rfl
theorem se_X1_isOrder : Cond.selects yX1_isOrder.cls yX1_isOrder yX1_isOrder ∈ gtbl := gtbl_of (List.mem_append_left _ (List.mem_of_getElem? (i := 47) (by decide +kernel))) rfl
theorem cd_X1_isStep : Cond.code yX1_isStep cX1_isStep 2 (some .boolean) ∈ gtbl := gtbl_of (List.mem_append_right _ (List.mem_of_getElem? (i := 1127) (by decide +kernel))) rfl
theorem im_X1_isStep : Cond.instanceMethod yX1_isStep ∈ gtbl := gtbl_of (List.mem_append_right _ (List.mem_of_getElem? (i := 1126) (by decide +kernel))) rfl
theorem se_X1_isStep : Cond.selects yX1_isStep.cls yX1_isStep yX1_isStep ∈ gtbl := gtbl_of (List.mem_append_left _ (List.mem_of_getElem? (i := 49) (by decide +kernel))) rfl
theorem cd_X2_init : Cond.code yX2_init cX2_init 1 none ∈ gtbl := gtbl_of (List.mem_append_right _ (List.mem_of_getElem? (i := 222) (by decide +kernel))) rfl
theorem im_X2_init : Cond.instanceMethod yX2_init ∈ gtbl := gtbl_of (List.mem_append_right _ (List.mem_of_getElem? (i := 221) (by decide +kernel))) rfl
theorem cd_X2_liveDays : Cond.code yX2_liveDays cX2_liveDays 7 none ∈ gtbl := gtbl_of (List.mem_append_right _ (List.mem_of_getElem? (i := 1099) (by decide +kernel))) rfl
theorem im_X2_liveDays : Cond.instanceMethod yX2_liveDays ∈ gtbl := gtbl_of (List.mem_append_right _ (List.mem_of_getElem? (i := 1097) (by decide +kernel))) rfl
theorem se_X2_liveDays : Cond.selects yX2_liveDays.cls yX2_liveDays yX2_liveDays ∈ gtbl := gtbl_of (List.mem_append_right _ (List.mem_of_getElem? (i := 1098) (by decide +kernel))) rfl
theorem cd_X2_isDue : Cond.code yX2_isDue cX2_isDue 6 (some .boolean) ∈ gtbl := gtbl_of (List.mem_append_right _ (List.mem_of_getElem? (i := 1103) (by decide +kernel))) rfl
theorem im_X2_isDue : Cond.instanceMethod yX2_isDue ∈ gtbl := gtbl_of (List.mem_append_right _ (List.mem_of_getElem? (i := 1102) (by decide +kernel))) rfl
theorem se_X2_isDue : Cond.selects yX2_isDue.cls yX2_isDue yX2_isDue ∈ gtbl := gtbl_of (List.mem_append_left _ (List.mem_of_getElem? (i := 46) (by decide +kernel))) rfl
theorem cd_X2_carryOut : Cond.code yX2_carryOut cX2_carryOut 3 none ∈ gtbl := gtbl_of (List.mem_append_right _ (List.mem_of_getElem? (i := 1184) (by decide +kernel))) rfl
theorem st_X2_carryOut : Cond.static yX2_carryOut ∈ gtbl := gtbl_of (List.mem_append_right _ (List.mem_of_getElem? (i := 1183) (by decide +kernel))) rfl
theorem cd_X2_reckon : Cond.code yX2_reckon cX2_reckon 6 (some .int) ∈ gtbl := gtbl_of (List.mem_append_right _ (List.mem_of_getElem? (i := 1119) (by decide +kernel))) rfl
theorem im_X2_reckon : Cond.instanceMethod yX2_reckon ∈ gtbl := gtbl_of (List.mem_append_right _ (List.mem_of_getElem? (i := 1118) (by decide +kernel))) rfl
theorem se_X2_reckon : Cond.selects yX2_reckon.cls yX2_reckon yX2_reckon ∈ gtbl := gtbl_of (List.mem_append_left _ (List.mem_of_getElem? (i := 48) (by decide +kernel))) rfl
theorem cd_X2_takeStep : Cond.code yX2_takeStep cX2_takeStep 6 none ∈ gtbl := gtbl_of (List.mem_append_right _ (List.mem_of_getElem? (i := 1135) (by decide +kernel))) rfl
theorem im_X2_takeStep : Cond.instanceMethod yX2_takeStep ∈ gtbl := gtbl_of (List.mem_append_right _ (List.mem_of_getElem? (i := 1134) (by decide +kernel))) rfl
theorem se_X2_takeStep : Cond.selects yX2_takeStep.cls yX2_takeStep yX2_takeStep ∈ gtbl := gtbl_of (List.mem_append_left _ (List.mem_of_getElem? (i := 50) (by decide +kernel))) rfl
theorem cd_X2_join : Cond.code yX2_join cX2_join 3 (some .int) ∈ gtbl := gtbl_of (List.mem_append_right _ (List.mem_of_getElem? (i := 1165) (by decide +kernel))) rfl
theorem st_X2_join : Cond.static yX2_join ∈ gtbl := gtbl_of (List.mem_append_right _ (List.mem_of_getElem? (i := 1164) (by decide +kernel))) rfl
theorem cd_X2_compares : Cond.code yX2_compares cX2_compares 3 (some .boolean) ∈ gtbl := gtbl_of (List.mem_append_right _ (List.mem_of_getElem? (i := 1172) (by decide +kernel))) rfl
theorem st_X2_compares : Cond.static yX2_compares ∈ gtbl := gtbl_of (List.mem_append_right _ (List.mem_of_getElem? (i := 1171) (by decide +kernel))) rfl
theorem cd_X2_pushTruth : Cond.code yX2_pushTruth cX2_pushTruth 2 none ∈ gtbl := gtbl_of (List.mem_append_right _ (List.mem_of_getElem? (i := 1149) (by decide +kernel))) rfl
theorem im_X2_pushTruth : Cond.instanceMethod yX2_pushTruth ∈ gtbl := gtbl_of (List.mem_append_right _ (List.mem_of_getElem? (i := 1148) (by decide +kernel))) rfl
theorem se_X2_pushTruth : Cond.selects yX2_pushTruth.cls yX2_pushTruth yX2_pushTruth ∈ gtbl := gtbl_of (List.mem_append_left _ (List.mem_of_getElem? (i := 52) (by decide +kernel))) rfl
theorem cd_X2_push : Cond.code yX2_push cX2_push 2 none ∈ gtbl := gtbl_of (List.mem_append_right _ (List.mem_of_getElem? (i := 1139) (by decide +kernel))) rfl
theorem im_X2_push : Cond.instanceMethod yX2_push ∈ gtbl := gtbl_of (List.mem_append_right _ (List.mem_of_getElem? (i := 1138) (by decide +kernel))) rfl
theorem se_X2_push : Cond.selects yX2_push.cls yX2_push yX2_push ∈ gtbl := gtbl_of (List.mem_append_left _ (List.mem_of_getElem? (i := 51) (by decide +kernel))) rfl
theorem cd_X2_pull : Cond.code yX2_pull cX2_pull 1 (some .int) ∈ gtbl := gtbl_of (List.mem_append_right _ (List.mem_of_getElem? (i := 1153) (by decide +kernel))) rfl
theorem im_X2_pull : Cond.instanceMethod yX2_pull ∈ gtbl := gtbl_of (List.mem_append_right _ (List.mem_of_getElem? (i := 1152) (by decide +kernel))) rfl
theorem se_X2_pull : Cond.selects yX2_pull.cls yX2_pull yX2_pull ∈ gtbl := gtbl_of (List.mem_append_left _ (List.mem_of_getElem? (i := 53) (by decide +kernel))) rfl
theorem cd_X3_init : Cond.code yX3_init cX3_init 2 none ∈ gtbl := gtbl_of (List.mem_append_right _ (List.mem_of_getElem? (i := 162) (by decide +kernel))) rfl
theorem im_X3_init : Cond.instanceMethod yX3_init ∈ gtbl := gtbl_of (List.mem_append_right _ (List.mem_of_getElem? (i := 161) (by decide +kernel))) rfl
theorem cd_X3_read : Cond.code yX3_read cX3_read 2 (some .int) ∈ gtbl := gtbl_of (List.mem_append_right _ (List.mem_of_getElem? (i := 326) (by decide +kernel))) rfl
theorem im_X3_read : Cond.instanceMethod yX3_read ∈ gtbl := gtbl_of (List.mem_append_right _ (List.mem_of_getElem? (i := 324) (by decide +kernel))) rfl
theorem se_X3_read : Cond.selects yX3_read.cls yX3_read yX3_read ∈ gtbl := gtbl_of (List.mem_append_right _ (List.mem_of_getElem? (i := 325) (by decide +kernel))) rfl
theorem cd_X3_errorPlace : Cond.code yX3_errorPlace cX3_errorPlace 1 (some .int) ∈ gtbl := gtbl_of (List.mem_append_right _ (List.mem_of_getElem? (i := 574) (by decide +kernel))) rfl
theorem im_X3_errorPlace : Cond.instanceMethod yX3_errorPlace ∈ gtbl := gtbl_of (List.mem_append_right _ (List.mem_of_getElem? (i := 572) (by decide +kernel))) rfl
theorem se_X3_errorPlace : Cond.selects yX3_errorPlace.cls yX3_errorPlace yX3_errorPlace ∈ gtbl := gtbl_of (List.mem_append_right _ (List.mem_of_getElem? (i := 573) (by decide +kernel))) rfl
theorem cd_X3_exchange : Cond.code yX3_exchange cX3_exchange 3 (some (Jvm.ClassFile.FieldType.object "SofaDig$Told")) ∈ gtbl := gtbl_of (List.mem_append_right _ (List.mem_of_getElem? (i := 578) (by decide +kernel))) rfl
theorem im_X3_exchange : Cond.instanceMethod yX3_exchange ∈ gtbl := gtbl_of (List.mem_append_right _ (List.mem_of_getElem? (i := 576) (by decide +kernel))) rfl
theorem se_X3_exchange : Cond.selects yX3_exchange.cls yX3_exchange yX3_exchange ∈ gtbl := gtbl_of (List.mem_append_right _ (List.mem_of_getElem? (i := 577) (by decide +kernel))) rfl
theorem cd_X3_advance : Cond.code yX3_advance cX3_advance 1 none ∈ gtbl := gtbl_of (List.mem_append_right _ (List.mem_of_getElem? (i := 442) (by decide +kernel))) rfl
theorem im_X3_advance : Cond.instanceMethod yX3_advance ∈ gtbl := gtbl_of (List.mem_append_right _ (List.mem_of_getElem? (i := 441) (by decide +kernel))) rfl
theorem se_X3_advance : Cond.selects yX3_advance.cls yX3_advance yX3_advance ∈ gtbl := gtbl_of (List.mem_append_left _ (List.mem_of_getElem? (i := 6) (by decide +kernel))) rfl
theorem cd_X3_refuse : Cond.code yX3_refuse cX3_refuse 1 none ∈ gtbl := gtbl_of (List.mem_append_right _ (List.mem_of_getElem? (i := 446) (by decide +kernel))) rfl
theorem im_X3_refuse : Cond.instanceMethod yX3_refuse ∈ gtbl := gtbl_of (List.mem_append_right _ (List.mem_of_getElem? (i := 445) (by decide +kernel))) rfl
theorem se_X3_refuse : Cond.selects yX3_refuse.cls yX3_refuse yX3_refuse ∈ gtbl := gtbl_of (List.mem_append_left _ (List.mem_of_getElem? (i := 7) (by decide +kernel))) rfl
theorem cd_X3_complain : Cond.code yX3_complain cX3_complain 2 none ∈ gtbl := gtbl_of (List.mem_append_right _ (List.mem_of_getElem? (i := 454) (by decide +kernel))) rfl
theorem im_X3_complain : Cond.instanceMethod yX3_complain ∈ gtbl := gtbl_of (List.mem_append_right _ (List.mem_of_getElem? (i := 453) (by decide +kernel))) rfl
theorem se_X3_complain : Cond.selects yX3_complain.cls yX3_complain yX3_complain ∈ gtbl := gtbl_of (List.mem_append_left _ (List.mem_of_getElem? (i := 9) (by decide +kernel))) rfl
theorem cd_X3_expect : Cond.code yX3_expect cX3_expect 2 none ∈ gtbl := gtbl_of (List.mem_append_right _ (List.mem_of_getElem? (i := 438) (by decide +kernel))) rfl
theorem im_X3_expect : Cond.instanceMethod yX3_expect ∈ gtbl := gtbl_of (List.mem_append_right _ (List.mem_of_getElem? (i := 437) (by decide +kernel))) rfl
theorem se_X3_expect : Cond.selects yX3_expect.cls yX3_expect yX3_expect ∈ gtbl := gtbl_of (List.mem_append_left _ (List.mem_of_getElem? (i := 5) (by decide +kernel))) rfl
theorem cd_X3_expectNumber : Cond.code yX3_expectNumber cX3_expectNumber 4 (some .int) ∈ gtbl := gtbl_of (List.mem_append_right _ (List.mem_of_getElem? (i := 450) (by decide +kernel))) rfl
theorem im_X3_expectNumber : Cond.instanceMethod yX3_expectNumber ∈ gtbl := gtbl_of (List.mem_append_right _ (List.mem_of_getElem? (i := 449) (by decide +kernel))) rfl
theorem se_X3_expectNumber : Cond.selects yX3_expectNumber.cls yX3_expectNumber yX3_expectNumber ∈ gtbl := gtbl_of (List.mem_append_left _ (List.mem_of_getElem? (i := 8) (by decide +kernel))) rfl
theorem cd_X3_readSize : Cond.code yX3_readSize cX3_readSize 3 none ∈ gtbl := gtbl_of (List.mem_append_right _ (List.mem_of_getElem? (i := 434) (by decide +kernel))) rfl
theorem im_X3_readSize : Cond.instanceMethod yX3_readSize ∈ gtbl := gtbl_of (List.mem_append_right _ (List.mem_of_getElem? (i := 433) (by decide +kernel))) rfl
theorem se_X3_readSize : Cond.selects yX3_readSize.cls yX3_readSize yX3_readSize ∈ gtbl := gtbl_of (List.mem_append_left _ (List.mem_of_getElem? (i := 4) (by decide +kernel))) rfl
theorem cd_X3_readLine : Cond.code yX3_readLine cX3_readLine 1 none ∈ gtbl := gtbl_of (List.mem_append_right _ (List.mem_of_getElem? (i := 459) (by decide +kernel))) rfl
theorem im_X3_readLine : Cond.instanceMethod yX3_readLine ∈ gtbl := gtbl_of (List.mem_append_right _ (List.mem_of_getElem? (i := 458) (by decide +kernel))) rfl
theorem se_X3_readLine : Cond.selects yX3_readLine.cls yX3_readLine yX3_readLine ∈ gtbl := gtbl_of (List.mem_append_left _ (List.mem_of_getElem? (i := 10) (by decide +kernel))) rfl
theorem cd_X3_readEmpire : Cond.code yX3_readEmpire cX3_readEmpire 5 none ∈ gtbl := gtbl_of (List.mem_append_right _ (List.mem_of_getElem? (i := 463) (by decide +kernel))) rfl
theorem im_X3_readEmpire : Cond.instanceMethod yX3_readEmpire ∈ gtbl := gtbl_of (List.mem_append_right _ (List.mem_of_getElem? (i := 462) (by decide +kernel))) rfl
theorem se_X3_readEmpire : Cond.selects yX3_readEmpire.cls yX3_readEmpire yX3_readEmpire ∈ gtbl := gtbl_of (List.mem_append_left _ (List.mem_of_getElem? (i := 11) (by decide +kernel))) rfl
theorem cd_X3_readCoin : Cond.code yX3_readCoin cX3_readCoin 3 none ∈ gtbl := gtbl_of (List.mem_append_right _ (List.mem_of_getElem? (i := 475) (by decide +kernel))) rfl
theorem im_X3_readCoin : Cond.instanceMethod yX3_readCoin ∈ gtbl := gtbl_of (List.mem_append_right _ (List.mem_of_getElem? (i := 474) (by decide +kernel))) rfl
theorem se_X3_readCoin : Cond.selects yX3_readCoin.cls yX3_readCoin yX3_readCoin ∈ gtbl := gtbl_of (List.mem_append_left _ (List.mem_of_getElem? (i := 12) (by decide +kernel))) rfl
theorem cd_X3_readCrumbs : Cond.code yX3_readCrumbs cX3_readCrumbs 3 none ∈ gtbl := gtbl_of (List.mem_append_right _ (List.mem_of_getElem? (i := 506) (by decide +kernel))) rfl
theorem im_X3_readCrumbs : Cond.instanceMethod yX3_readCrumbs ∈ gtbl := gtbl_of (List.mem_append_right _ (List.mem_of_getElem? (i := 505) (by decide +kernel))) rfl
theorem se_X3_readCrumbs : Cond.selects yX3_readCrumbs.cls yX3_readCrumbs yX3_readCrumbs ∈ gtbl := gtbl_of (List.mem_append_left _ (List.mem_of_getElem? (i := 15) (by decide +kernel))) rfl
theorem cd_X3_startFind : Cond.code yX3_startFind cX3_startFind 1 none ∈ gtbl := gtbl_of (List.mem_append_right _ (List.mem_of_getElem? (i := 479) (by decide +kernel))) rfl
theorem im_X3_startFind : Cond.instanceMethod yX3_startFind ∈ gtbl := gtbl_of (List.mem_append_right _ (List.mem_of_getElem? (i := 478) (by decide +kernel))) rfl
theorem se_X3_startFind : Cond.selects yX3_startFind.cls yX3_startFind yX3_startFind ∈ gtbl := gtbl_of (List.mem_append_left _ (List.mem_of_getElem? (i := 13) (by decide +kernel))) rfl
theorem cd_X3_readSpring : Cond.code yX3_readSpring cX3_readSpring 2 none ∈ gtbl := gtbl_of (List.mem_append_right _ (List.mem_of_getElem? (i := 514) (by decide +kernel))) rfl
theorem im_X3_readSpring : Cond.instanceMethod yX3_readSpring ∈ gtbl := gtbl_of (List.mem_append_right _ (List.mem_of_getElem? (i := 513) (by decide +kernel))) rfl
theorem se_X3_readSpring : Cond.selects yX3_readSpring.cls yX3_readSpring yX3_readSpring ∈ gtbl := gtbl_of (List.mem_append_left _ (List.mem_of_getElem? (i := 17) (by decide +kernel))) rfl
theorem cd_X3_readPlace : Cond.code yX3_readPlace cX3_readPlace 4 (some .int) ∈ gtbl := gtbl_of (List.mem_append_right _ (List.mem_of_getElem? (i := 483) (by decide +kernel))) rfl
theorem im_X3_readPlace : Cond.instanceMethod yX3_readPlace ∈ gtbl := gtbl_of (List.mem_append_right _ (List.mem_of_getElem? (i := 482) (by decide +kernel))) rfl
theorem se_X3_readPlace : Cond.selects yX3_readPlace.cls yX3_readPlace yX3_readPlace ∈ gtbl := gtbl_of (List.mem_append_left _ (List.mem_of_getElem? (i := 14) (by decide +kernel))) rfl
theorem cd_X3_readKnownEmpire : Cond.code yX3_readKnownEmpire cX3_readKnownEmpire 2 (some .int) ∈ gtbl := gtbl_of (List.mem_append_right _ (List.mem_of_getElem? (i := 510) (by decide +kernel))) rfl
theorem im_X3_readKnownEmpire : Cond.instanceMethod yX3_readKnownEmpire ∈ gtbl := gtbl_of (List.mem_append_right _ (List.mem_of_getElem? (i := 509) (by decide +kernel))) rfl
theorem se_X3_readKnownEmpire : Cond.selects yX3_readKnownEmpire.cls yX3_readKnownEmpire yX3_readKnownEmpire ∈ gtbl := gtbl_of (List.mem_append_left _ (List.mem_of_getElem? (i := 16) (by decide +kernel))) rfl
theorem cd_X3_readOrder : Cond.code yX3_readOrder cX3_readOrder 3 none ∈ gtbl := gtbl_of (List.mem_append_right _ (List.mem_of_getElem? (i := 522) (by decide +kernel))) rfl
theorem im_X3_readOrder : Cond.instanceMethod yX3_readOrder ∈ gtbl := gtbl_of (List.mem_append_right _ (List.mem_of_getElem? (i := 521) (by decide +kernel))) rfl
theorem se_X3_readOrder : Cond.selects yX3_readOrder.cls yX3_readOrder yX3_readOrder ∈ gtbl := gtbl_of (List.mem_append_left _ (List.mem_of_getElem? (i := 18) (by decide +kernel))) rfl
theorem cd_X3_readTest : Cond.code yX3_readTest cX3_readTest 3 none ∈ gtbl := gtbl_of (List.mem_append_right _ (List.mem_of_getElem? (i := 554) (by decide +kernel))) rfl
theorem im_X3_readTest : Cond.instanceMethod yX3_readTest ∈ gtbl := gtbl_of (List.mem_append_right _ (List.mem_of_getElem? (i := 553) (by decide +kernel))) rfl
theorem se_X3_readTest : Cond.selects yX3_readTest.cls yX3_readTest yX3_readTest ∈ gtbl := gtbl_of (List.mem_append_left _ (List.mem_of_getElem? (i := 25) (by decide +kernel))) rfl
theorem cd_X3_readBoth : Cond.code yX3_readBoth cX3_readBoth 3 none ∈ gtbl := gtbl_of (List.mem_append_right _ (List.mem_of_getElem? (i := 558) (by decide +kernel))) rfl
theorem im_X3_readBoth : Cond.instanceMethod yX3_readBoth ∈ gtbl := gtbl_of (List.mem_append_right _ (List.mem_of_getElem? (i := 557) (by decide +kernel))) rfl
theorem se_X3_readBoth : Cond.selects yX3_readBoth.cls yX3_readBoth yX3_readBoth ∈ gtbl := gtbl_of (List.mem_append_left _ (List.mem_of_getElem? (i := 26) (by decide +kernel))) rfl
theorem cd_X3_readSingle : Cond.code yX3_readSingle cX3_readSingle 3 none ∈ gtbl := gtbl_of (List.mem_append_right _ (List.mem_of_getElem? (i := 562) (by decide +kernel))) rfl
theorem im_X3_readSingle : Cond.instanceMethod yX3_readSingle ∈ gtbl := gtbl_of (List.mem_append_right _ (List.mem_of_getElem? (i := 561) (by decide +kernel))) rfl
theorem se_X3_readSingle : Cond.selects yX3_readSingle.cls yX3_readSingle yX3_readSingle ∈ gtbl := gtbl_of (List.mem_append_left _ (List.mem_of_getElem? (i := 27) (by decide +kernel))) rfl
theorem cd_X3_expectComparison : Cond.code yX3_expectComparison cX3_expectComparison 1 none ∈ gtbl := gtbl_of (List.mem_append_right _ (List.mem_of_getElem? (i := 566) (by decide +kernel))) rfl
theorem im_X3_expectComparison : Cond.instanceMethod yX3_expectComparison ∈ gtbl := gtbl_of (List.mem_append_right _ (List.mem_of_getElem? (i := 565) (by decide +kernel))) rfl
theorem se_X3_expectComparison : Cond.selects yX3_expectComparison.cls yX3_expectComparison yX3_expectComparison ∈ gtbl := gtbl_of (List.mem_append_left _ (List.mem_of_getElem? (i := 28) (by decide +kernel))) rfl
theorem cd_X3_readSum : Cond.code yX3_readSum cX3_readSum 4 none ∈ gtbl := gtbl_of (List.mem_append_right _ (List.mem_of_getElem? (i := 526) (by decide +kernel))) rfl
theorem im_X3_readSum : Cond.instanceMethod yX3_readSum ∈ gtbl := gtbl_of (List.mem_append_right _ (List.mem_of_getElem? (i := 525) (by decide +kernel))) rfl
theorem se_X3_readSum : Cond.selects yX3_readSum.cls yX3_readSum yX3_readSum ∈ gtbl := gtbl_of (List.mem_append_left _ (List.mem_of_getElem? (i := 19) (by decide +kernel))) rfl
theorem cd_X3_readProduct : Cond.code yX3_readProduct cX3_readProduct 4 none ∈ gtbl := gtbl_of (List.mem_append_right _ (List.mem_of_getElem? (i := 530) (by decide +kernel))) rfl
theorem im_X3_readProduct : Cond.instanceMethod yX3_readProduct ∈ gtbl := gtbl_of (List.mem_append_right _ (List.mem_of_getElem? (i := 529) (by decide +kernel))) rfl
theorem se_X3_readProduct : Cond.selects yX3_readProduct.cls yX3_readProduct yX3_readProduct ∈ gtbl := gtbl_of (List.mem_append_left _ (List.mem_of_getElem? (i := 20) (by decide +kernel))) rfl
theorem cd_X3_readValue : Cond.code yX3_readValue cX3_readValue 3 none ∈ gtbl := gtbl_of (List.mem_append_right _ (List.mem_of_getElem? (i := 534) (by decide +kernel))) rfl
theorem im_X3_readValue : Cond.instanceMethod yX3_readValue ∈ gtbl := gtbl_of (List.mem_append_right _ (List.mem_of_getElem? (i := 533) (by decide +kernel))) rfl
theorem se_X3_readValue : Cond.selects yX3_readValue.cls yX3_readValue yX3_readValue ∈ gtbl := gtbl_of (List.mem_append_left _ (List.mem_of_getElem? (i := 21) (by decide +kernel))) rfl
theorem cd_X3_readEnclosed : Cond.code yX3_readEnclosed cX3_readEnclosed 2 none ∈ gtbl := gtbl_of (List.mem_append_right _ (List.mem_of_getElem? (i := 542) (by decide +kernel))) rfl
theorem im_X3_readEnclosed : Cond.instanceMethod yX3_readEnclosed ∈ gtbl := gtbl_of (List.mem_append_right _ (List.mem_of_getElem? (i := 541) (by decide +kernel))) rfl
theorem se_X3_readEnclosed : Cond.selects yX3_readEnclosed.cls yX3_readEnclosed yX3_readEnclosed ∈ gtbl := gtbl_of (List.mem_append_left _ (List.mem_of_getElem? (i := 22) (by decide +kernel))) rfl
theorem cd_X3_readPair : Cond.code yX3_readPair cX3_readPair 2 none ∈ gtbl := gtbl_of (List.mem_append_right _ (List.mem_of_getElem? (i := 550) (by decide +kernel))) rfl
theorem im_X3_readPair : Cond.instanceMethod yX3_readPair ∈ gtbl := gtbl_of (List.mem_append_right _ (List.mem_of_getElem? (i := 549) (by decide +kernel))) rfl
theorem se_X3_readPair : Cond.selects yX3_readPair.cls yX3_readPair yX3_readPair ∈ gtbl := gtbl_of (List.mem_append_left _ (List.mem_of_getElem? (i := 24) (by decide +kernel))) rfl
theorem cd_X3_goesDeeper : Cond.code yX3_goesDeeper cX3_goesDeeper 3 (some .boolean) ∈ gtbl := gtbl_of (List.mem_append_right _ (List.mem_of_getElem? (i := 546) (by decide +kernel))) rfl
theorem im_X3_goesDeeper : Cond.instanceMethod yX3_goesDeeper ∈ gtbl := gtbl_of (List.mem_append_right _ (List.mem_of_getElem? (i := 545) (by decide +kernel))) rfl
theorem se_X3_goesDeeper : Cond.selects yX3_goesDeeper.cls yX3_goesDeeper yX3_goesDeeper ∈ gtbl := gtbl_of (List.mem_append_left _ (List.mem_of_getElem? (i := 23) (by decide +kernel))) rfl
theorem cd_X4_init : Cond.code yX4_init cX4_init 2 none ∈ gtbl := gtbl_of (List.mem_append_right _ (List.mem_of_getElem? (i := 235) (by decide +kernel))) rfl
theorem im_X4_init : Cond.instanceMethod yX4_init ∈ gtbl := gtbl_of (List.mem_append_right _ (List.mem_of_getElem? (i := 234) (by decide +kernel))) rfl
theorem cd_X4_begin : Cond.code yX4_begin cX4_begin 3 none ∈ gtbl := gtbl_of (List.mem_append_right _ (List.mem_of_getElem? (i := 240) (by decide +kernel))) rfl
theorem im_X4_begin : Cond.instanceMethod yX4_begin ∈ gtbl := gtbl_of (List.mem_append_right _ (List.mem_of_getElem? (i := 238) (by decide +kernel))) rfl
theorem se_X4_begin : Cond.selects yX4_begin.cls yX4_begin yX4_begin ∈ gtbl := gtbl_of (List.mem_append_right _ (List.mem_of_getElem? (i := 239) (by decide +kernel))) rfl
theorem cd_X4_copyFrom : Cond.code yX4_copyFrom cX4_copyFrom 3 none ∈ gtbl := gtbl_of (List.mem_append_right _ (List.mem_of_getElem? (i := 639) (by decide +kernel))) rfl
theorem im_X4_copyFrom : Cond.instanceMethod yX4_copyFrom ∈ gtbl := gtbl_of (List.mem_append_right _ (List.mem_of_getElem? (i := 637) (by decide +kernel))) rfl
theorem se_X4_copyFrom : Cond.selects yX4_copyFrom.cls yX4_copyFrom yX4_copyFrom ∈ gtbl := gtbl_of (List.mem_append_right _ (List.mem_of_getElem? (i := 638) (by decide +kernel))) rfl
theorem cd_X4_heightAt : Cond.code yX4_heightAt cX4_heightAt 2 (some .int) ∈ gtbl := gtbl_of (List.mem_append_right _ (List.mem_of_getElem? (i := 631) (by decide +kernel))) rfl
theorem im_X4_heightAt : Cond.instanceMethod yX4_heightAt ∈ gtbl := gtbl_of (List.mem_append_right _ (List.mem_of_getElem? (i := 629) (by decide +kernel))) rfl
theorem se_X4_heightAt : Cond.selects yX4_heightAt.cls yX4_heightAt yX4_heightAt ∈ gtbl := gtbl_of (List.mem_append_right _ (List.mem_of_getElem? (i := 630) (by decide +kernel))) rfl
theorem cd_X4_hasProp : Cond.code yX4_hasProp cX4_hasProp 2 (some .boolean) ∈ gtbl := gtbl_of (List.mem_append_right _ (List.mem_of_getElem? (i := 674) (by decide +kernel))) rfl
theorem im_X4_hasProp : Cond.instanceMethod yX4_hasProp ∈ gtbl := gtbl_of (List.mem_append_right _ (List.mem_of_getElem? (i := 672) (by decide +kernel))) rfl
theorem se_X4_hasProp : Cond.selects yX4_hasProp.cls yX4_hasProp yX4_hasProp ∈ gtbl := gtbl_of (List.mem_append_right _ (List.mem_of_getElem? (i := 673) (by decide +kernel))) rfl
theorem cd_X4_topOf : Cond.code yX4_topOf cX4_topOf 2 (some .int) ∈ gtbl := gtbl_of (List.mem_append_right _ (List.mem_of_getElem? (i := 647) (by decide +kernel))) rfl
theorem im_X4_topOf : Cond.instanceMethod yX4_topOf ∈ gtbl := gtbl_of (List.mem_append_right _ (List.mem_of_getElem? (i := 645) (by decide +kernel))) rfl
theorem se_X4_topOf : Cond.selects yX4_topOf.cls yX4_topOf yX4_topOf ∈ gtbl := gtbl_of (List.mem_append_right _ (List.mem_of_getElem? (i := 646) (by decide +kernel))) rfl
theorem cd_X4_isLoose : Cond.code yX4_isLoose cX4_isLoose 2 (some .boolean) ∈ gtbl := gtbl_of (List.mem_append_right _ (List.mem_of_getElem? (i := 657) (by decide +kernel))) rfl
theorem im_X4_isLoose : Cond.instanceMethod yX4_isLoose ∈ gtbl := gtbl_of (List.mem_append_right _ (List.mem_of_getElem? (i := 655) (by decide +kernel))) rfl
theorem se_X4_isLoose : Cond.selects yX4_isLoose.cls yX4_isLoose yX4_isLoose ∈ gtbl := gtbl_of (List.mem_append_right _ (List.mem_of_getElem? (i := 656) (by decide +kernel))) rfl
theorem cd_X4_wasFound : Cond.code yX4_wasFound cX4_wasFound 2 (some .boolean) ∈ gtbl := gtbl_of (List.mem_append_right _ (List.mem_of_getElem? (i := 729) (by decide +kernel))) rfl
theorem im_X4_wasFound : Cond.instanceMethod yX4_wasFound ∈ gtbl := gtbl_of (List.mem_append_right _ (List.mem_of_getElem? (i := 727) (by decide +kernel))) rfl
theorem se_X4_wasFound : Cond.selects yX4_wasFound.cls yX4_wasFound yX4_wasFound ∈ gtbl := gtbl_of (List.mem_append_right _ (List.mem_of_getElem? (i := 728) (by decide +kernel))) rfl
theorem cd_X4_wasSure : Cond.code yX4_wasSure cX4_wasSure 2 (some .boolean) ∈ gtbl := gtbl_of (List.mem_append_right _ (List.mem_of_getElem? (i := 699) (by decide +kernel))) rfl
theorem im_X4_wasSure : Cond.instanceMethod yX4_wasSure ∈ gtbl := gtbl_of (List.mem_append_right _ (List.mem_of_getElem? (i := 697) (by decide +kernel))) rfl
theorem se_X4_wasSure : Cond.selects yX4_wasSure.cls yX4_wasSure yX4_wasSure ∈ gtbl := gtbl_of (List.mem_append_right _ (List.mem_of_getElem? (i := 698) (by decide +kernel))) rfl
theorem cd_X4_findsInStack : Cond.code yX4_findsInStack cX4_findsInStack 4 (some .int) ∈ gtbl := gtbl_of (List.mem_append_right _ (List.mem_of_getElem? (i := 683) (by decide +kernel))) rfl
theorem im_X4_findsInStack : Cond.instanceMethod yX4_findsInStack ∈ gtbl := gtbl_of (List.mem_append_right _ (List.mem_of_getElem? (i := 681) (by decide +kernel))) rfl
theorem se_X4_findsInStack : Cond.selects yX4_findsInStack.cls yX4_findsInStack yX4_findsInStack ∈ gtbl := gtbl_of (List.mem_append_right _ (List.mem_of_getElem? (i := 682) (by decide +kernel))) rfl
theorem cd_X4_cushionsAbove : Cond.code yX4_cushionsAbove cX4_cushionsAbove 4 (some .int) ∈ gtbl := gtbl_of (List.mem_append_right _ (List.mem_of_getElem? (i := 1019) (by decide +kernel))) rfl
theorem im_X4_cushionsAbove : Cond.instanceMethod yX4_cushionsAbove ∈ gtbl := gtbl_of (List.mem_append_right _ (List.mem_of_getElem? (i := 1017) (by decide +kernel))) rfl
theorem se_X4_cushionsAbove : Cond.selects yX4_cushionsAbove.cls yX4_cushionsAbove yX4_cushionsAbove ∈ gtbl := gtbl_of (List.mem_append_right _ (List.mem_of_getElem? (i := 1018) (by decide +kernel))) rfl
theorem cd_X4_earliestYear : Cond.code yX4_earliestYear cX4_earliestYear 4 (some .int) ∈ gtbl := gtbl_of (List.mem_append_right _ (List.mem_of_getElem? (i := 737) (by decide +kernel))) rfl
theorem im_X4_earliestYear : Cond.instanceMethod yX4_earliestYear ∈ gtbl := gtbl_of (List.mem_append_right _ (List.mem_of_getElem? (i := 735) (by decide +kernel))) rfl
theorem se_X4_earliestYear : Cond.selects yX4_earliestYear.cls yX4_earliestYear yX4_earliestYear ∈ gtbl := gtbl_of (List.mem_append_right _ (List.mem_of_getElem? (i := 736) (by decide +kernel))) rfl
theorem cd_X4_sawEmpire : Cond.code yX4_sawEmpire cX4_sawEmpire 4 (some .boolean) ∈ gtbl := gtbl_of (List.mem_append_right _ (List.mem_of_getElem? (i := 780) (by decide +kernel))) rfl
theorem im_X4_sawEmpire : Cond.instanceMethod yX4_sawEmpire ∈ gtbl := gtbl_of (List.mem_append_right _ (List.mem_of_getElem? (i := 778) (by decide +kernel))) rfl
theorem se_X4_sawEmpire : Cond.selects yX4_sawEmpire.cls yX4_sawEmpire yX4_sawEmpire ∈ gtbl := gtbl_of (List.mem_append_right _ (List.mem_of_getElem? (i := 779) (by decide +kernel))) rfl
theorem cd_X4_sawEmpireAnywhere : Cond.code yX4_sawEmpireAnywhere cX4_sawEmpireAnywhere 3 (some .boolean) ∈ gtbl := gtbl_of (List.mem_append_right _ (List.mem_of_getElem? (i := 1145) (by decide +kernel))) rfl
theorem im_X4_sawEmpireAnywhere : Cond.instanceMethod yX4_sawEmpireAnywhere ∈ gtbl := gtbl_of (List.mem_append_right _ (List.mem_of_getElem? (i := 1143) (by decide +kernel))) rfl
theorem se_X4_sawEmpireAnywhere : Cond.selects yX4_sawEmpireAnywhere.cls yX4_sawEmpireAnywhere yX4_sawEmpireAnywhere ∈ gtbl := gtbl_of (List.mem_append_right _ (List.mem_of_getElem? (i := 1144) (by decide +kernel))) rfl
theorem cd_X4_showsMixture : Cond.code yX4_showsMixture cX4_showsMixture 4 (some .boolean) ∈ gtbl := gtbl_of (List.mem_append_right _ (List.mem_of_getElem? (i := 771) (by decide +kernel))) rfl
theorem im_X4_showsMixture : Cond.instanceMethod yX4_showsMixture ∈ gtbl := gtbl_of (List.mem_append_right _ (List.mem_of_getElem? (i := 769) (by decide +kernel))) rfl
theorem se_X4_showsMixture : Cond.selects yX4_showsMixture.cls yX4_showsMixture yX4_showsMixture ∈ gtbl := gtbl_of (List.mem_append_right _ (List.mem_of_getElem? (i := 770) (by decide +kernel))) rfl
theorem cd_X4_digSeat : Cond.code yX4_digSeat cX4_digSeat 4 (some .int) ∈ gtbl := gtbl_of (List.mem_append_right _ (List.mem_of_getElem? (i := 643) (by decide +kernel))) rfl
theorem im_X4_digSeat : Cond.instanceMethod yX4_digSeat ∈ gtbl := gtbl_of (List.mem_append_right _ (List.mem_of_getElem? (i := 641) (by decide +kernel))) rfl
theorem se_X4_digSeat : Cond.selects yX4_digSeat.cls yX4_digSeat yX4_digSeat ∈ gtbl := gtbl_of (List.mem_append_right _ (List.mem_of_getElem? (i := 642) (by decide +kernel))) rfl
theorem cd_X4_canProp : Cond.code yX4_canProp cX4_canProp 2 (some .boolean) ∈ gtbl := gtbl_of (List.mem_append_right _ (List.mem_of_getElem? (i := 1065) (by decide +kernel))) rfl
theorem im_X4_canProp : Cond.instanceMethod yX4_canProp ∈ gtbl := gtbl_of (List.mem_append_right _ (List.mem_of_getElem? (i := 1063) (by decide +kernel))) rfl
theorem se_X4_canProp : Cond.selects yX4_canProp.cls yX4_canProp yX4_canProp ∈ gtbl := gtbl_of (List.mem_append_right _ (List.mem_of_getElem? (i := 1064) (by decide +kernel))) rfl
theorem cd_X4_putProp : Cond.code yX4_putProp cX4_putProp 2 none ∈ gtbl := gtbl_of (List.mem_append_right _ (List.mem_of_getElem? (i := 1070) (by decide +kernel))) rfl
theorem im_X4_putProp : Cond.instanceMethod yX4_putProp ∈ gtbl := gtbl_of (List.mem_append_right _ (List.mem_of_getElem? (i := 1068) (by decide +kernel))) rfl
theorem se_X4_putProp : Cond.selects yX4_putProp.cls yX4_putProp yX4_putProp ∈ gtbl := gtbl_of (List.mem_append_right _ (List.mem_of_getElem? (i := 1069) (by decide +kernel))) rfl
theorem cd_X4_freeSeat : Cond.code yX4_freeSeat cX4_freeSeat 2 none ∈ gtbl := gtbl_of (List.mem_append_right _ (List.mem_of_getElem? (i := 1083) (by decide +kernel))) rfl
theorem im_X4_freeSeat : Cond.instanceMethod yX4_freeSeat ∈ gtbl := gtbl_of (List.mem_append_right _ (List.mem_of_getElem? (i := 1081) (by decide +kernel))) rfl
theorem se_X4_freeSeat : Cond.selects yX4_freeSeat.cls yX4_freeSeat yX4_freeSeat ∈ gtbl := gtbl_of (List.mem_append_right _ (List.mem_of_getElem? (i := 1082) (by decide +kernel))) rfl
theorem cd_X4_noteFind : Cond.code yX4_noteFind cX4_noteFind 3 none ∈ gtbl := gtbl_of (List.mem_append_right _ (List.mem_of_getElem? (i := 661) (by decide +kernel))) rfl
theorem im_X4_noteFind : Cond.instanceMethod yX4_noteFind ∈ gtbl := gtbl_of (List.mem_append_right _ (List.mem_of_getElem? (i := 660) (by decide +kernel))) rfl
theorem se_X4_noteFind : Cond.selects yX4_noteFind.cls yX4_noteFind yX4_noteFind ∈ gtbl := gtbl_of (List.mem_append_left _ (List.mem_of_getElem? (i := 31) (by decide +kernel))) rfl
theorem cd_X4_settle : Cond.code yX4_settle cX4_settle 3 none ∈ gtbl := gtbl_of (List.mem_append_right _ (List.mem_of_getElem? (i := 665) (by decide +kernel))) rfl
theorem im_X4_settle : Cond.instanceMethod yX4_settle ∈ gtbl := gtbl_of (List.mem_append_right _ (List.mem_of_getElem? (i := 664) (by decide +kernel))) rfl
theorem se_X4_settle : Cond.selects yX4_settle.cls yX4_settle yX4_settle ∈ gtbl := gtbl_of (List.mem_append_left _ (List.mem_of_getElem? (i := 32) (by decide +kernel))) rfl
theorem cd_X4_slidesOnto : Cond.code yX4_slidesOnto cX4_slidesOnto 3 (some .boolean) ∈ gtbl := gtbl_of (List.mem_append_right _ (List.mem_of_getElem? (i := 670) (by decide +kernel))) rfl
theorem im_X4_slidesOnto : Cond.instanceMethod yX4_slidesOnto ∈ gtbl := gtbl_of (List.mem_append_right _ (List.mem_of_getElem? (i := 669) (by decide +kernel))) rfl
theorem se_X4_slidesOnto : Cond.selects yX4_slidesOnto.cls yX4_slidesOnto yX4_slidesOnto ∈ gtbl := gtbl_of (List.mem_append_left _ (List.mem_of_getElem? (i := 33) (by decide +kernel))) rfl
theorem cd_X4_moveTop : Cond.code yX4_moveTop cX4_moveTop 5 none ∈ gtbl := gtbl_of (List.mem_append_right _ (List.mem_of_getElem? (i := 679) (by decide +kernel))) rfl
theorem im_X4_moveTop : Cond.instanceMethod yX4_moveTop ∈ gtbl := gtbl_of (List.mem_append_right _ (List.mem_of_getElem? (i := 678) (by decide +kernel))) rfl
theorem se_X4_moveTop : Cond.selects yX4_moveTop.cls yX4_moveTop yX4_moveTop ∈ gtbl := gtbl_of (List.mem_append_left _ (List.mem_of_getElem? (i := 34) (by decide +kernel))) rfl
theorem cd_X4_cushionAt : Cond.code yX4_cushionAt cX4_cushionAt 3 (some .int) ∈ gtbl := gtbl_of (List.mem_append_right _ (List.mem_of_getElem? (i := 652) (by decide +kernel))) rfl
theorem im_X4_cushionAt : Cond.instanceMethod yX4_cushionAt ∈ gtbl := gtbl_of (List.mem_append_right _ (List.mem_of_getElem? (i := 651) (by decide +kernel))) rfl
theorem se_X4_cushionAt : Cond.selects yX4_cushionAt.cls yX4_cushionAt yX4_cushionAt ∈ gtbl := gtbl_of (List.mem_append_left _ (List.mem_of_getElem? (i := 30) (by decide +kernel))) rfl
theorem cd_X5_init : Cond.code yX5_init cX5_init 1 none ∈ gtbl := gtbl_of (List.mem_append_right _ (List.mem_of_getElem? (i := 38) (by decide +kernel))) rfl
theorem im_X5_init : Cond.instanceMethod yX5_init ∈ gtbl := gtbl_of (List.mem_append_right _ (List.mem_of_getElem? (i := 37) (by decide +kernel))) rfl
theorem cd_X5_append : Cond.code yX5_append cX5_append 3 none ∈ gtbl := gtbl_of (List.mem_append_right _ (List.mem_of_getElem? (i := 860) (by decide +kernel))) rfl
theorem im_X5_append : Cond.instanceMethod yX5_append ∈ gtbl := gtbl_of (List.mem_append_right _ (List.mem_of_getElem? (i := 858) (by decide +kernel))) rfl
theorem se_X5_append : Cond.selects yX5_append.cls yX5_append yX5_append ∈ gtbl := gtbl_of (List.mem_append_right _ (List.mem_of_getElem? (i := 859) (by decide +kernel))) rfl
theorem cd_X5_byteAt : Cond.code yX5_byteAt cX5_byteAt 2 (some .int) ∈ gtbl := gtbl_of (List.mem_append_right _ (List.mem_of_getElem? (i := 339) (by decide +kernel))) rfl
theorem im_X5_byteAt : Cond.instanceMethod yX5_byteAt ∈ gtbl := gtbl_of (List.mem_append_right _ (List.mem_of_getElem? (i := 337) (by decide +kernel))) rfl
theorem se_X5_byteAt : Cond.selects yX5_byteAt.cls yX5_byteAt yX5_byteAt ∈ gtbl := gtbl_of (List.mem_append_right _ (List.mem_of_getElem? (i := 338) (by decide +kernel))) rfl
theorem cd_X6_init : Cond.code yX6_init cX6_init 2 none ∈ gtbl := gtbl_of (List.mem_append_right _ (List.mem_of_getElem? (i := 168) (by decide +kernel))) rfl
theorem im_X6_init : Cond.instanceMethod yX6_init ∈ gtbl := gtbl_of (List.mem_append_right _ (List.mem_of_getElem? (i := 167) (by decide +kernel))) rfl
theorem cd_X6_readAll : Cond.code yX6_readAll cX6_readAll 2 none ∈ gtbl := gtbl_of (List.mem_append_right _ (List.mem_of_getElem? (i := 331) (by decide +kernel))) rfl
theorem im_X6_readAll : Cond.instanceMethod yX6_readAll ∈ gtbl := gtbl_of (List.mem_append_right _ (List.mem_of_getElem? (i := 329) (by decide +kernel))) rfl
theorem se_X6_readAll : Cond.selects yX6_readAll.cls yX6_readAll yX6_readAll ∈ gtbl := gtbl_of (List.mem_append_right _ (List.mem_of_getElem? (i := 330) (by decide +kernel))) rfl
theorem cd_X6_readToken : Cond.code yX6_readToken cX6_readToken 3 (some .int) ∈ gtbl := gtbl_of (List.mem_append_right _ (List.mem_of_getElem? (i := 346) (by decide +kernel))) rfl
theorem im_X6_readToken : Cond.instanceMethod yX6_readToken ∈ gtbl := gtbl_of (List.mem_append_right _ (List.mem_of_getElem? (i := 345) (by decide +kernel))) rfl
theorem se_X6_readToken : Cond.selects yX6_readToken.cls yX6_readToken yX6_readToken ∈ gtbl := gtbl_of (List.mem_append_left _ (List.mem_of_getElem? (i := 1) (by decide +kernel))) rfl
theorem cd_X6_skipBlanks : Cond.code yX6_skipBlanks cX6_skipBlanks 2 none ∈ gtbl := gtbl_of (List.mem_append_right _ (List.mem_of_getElem? (i := 335) (by decide +kernel))) rfl
theorem im_X6_skipBlanks : Cond.instanceMethod yX6_skipBlanks ∈ gtbl := gtbl_of (List.mem_append_right _ (List.mem_of_getElem? (i := 334) (by decide +kernel))) rfl
theorem se_X6_skipBlanks : Cond.selects yX6_skipBlanks.cls yX6_skipBlanks yX6_skipBlanks ∈ gtbl := gtbl_of (List.mem_append_left _ (List.mem_of_getElem? (i := 0) (by decide +kernel))) rfl
theorem cd_X6_readWord : Cond.code yX6_readWord cX6_readWord 5 (some .int) ∈ gtbl := gtbl_of (List.mem_append_right _ (List.mem_of_getElem? (i := 353) (by decide +kernel))) rfl
theorem im_X6_readWord : Cond.instanceMethod yX6_readWord ∈ gtbl := gtbl_of (List.mem_append_right _ (List.mem_of_getElem? (i := 352) (by decide +kernel))) rfl
theorem se_X6_readWord : Cond.selects yX6_readWord.cls yX6_readWord yX6_readWord ∈ gtbl := gtbl_of (List.mem_append_left _ (List.mem_of_getElem? (i := 2) (by decide +kernel))) rfl
theorem cd_X6_readNumber : Cond.code yX6_readNumber cX6_readNumber 4 (some .int) ∈ gtbl := gtbl_of (List.mem_append_right _ (List.mem_of_getElem? (i := 423) (by decide +kernel))) rfl
theorem im_X6_readNumber : Cond.instanceMethod yX6_readNumber ∈ gtbl := gtbl_of (List.mem_append_right _ (List.mem_of_getElem? (i := 422) (by decide +kernel))) rfl
theorem se_X6_readNumber : Cond.selects yX6_readNumber.cls yX6_readNumber yX6_readNumber ∈ gtbl := gtbl_of (List.mem_append_left _ (List.mem_of_getElem? (i := 3) (by decide +kernel))) rfl
theorem cd_X6_numberOfSign : Cond.code yX6_numberOfSign cX6_numberOfSign 1 (some .int) ∈ gtbl := gtbl_of (List.mem_append_right _ (List.mem_of_getElem? (i := 363) (by decide +kernel))) rfl
theorem st_X6_numberOfSign : Cond.static yX6_numberOfSign ∈ gtbl := gtbl_of (List.mem_append_right _ (List.mem_of_getElem? (i := 362) (by decide +kernel))) rfl
theorem cd_X6_isBlank : Cond.code yX6_isBlank cX6_isBlank 1 (some .boolean) ∈ gtbl := gtbl_of (List.mem_append_right _ (List.mem_of_getElem? (i := 342) (by decide +kernel))) rfl
theorem st_X6_isBlank : Cond.static yX6_isBlank ∈ gtbl := gtbl_of (List.mem_append_right _ (List.mem_of_getElem? (i := 341) (by decide +kernel))) rfl
theorem cd_X6_isLetter : Cond.code yX6_isLetter cX6_isLetter 1 (some .boolean) ∈ gtbl := gtbl_of (List.mem_append_right _ (List.mem_of_getElem? (i := 349) (by decide +kernel))) rfl
theorem st_X6_isLetter : Cond.static yX6_isLetter ∈ gtbl := gtbl_of (List.mem_append_right _ (List.mem_of_getElem? (i := 348) (by decide +kernel))) rfl
theorem cd_X6_isDigit : Cond.code yX6_isDigit cX6_isDigit 1 (some .boolean) ∈ gtbl := gtbl_of (List.mem_append_right _ (List.mem_of_getElem? (i := 359) (by decide +kernel))) rfl
theorem st_X6_isDigit : Cond.static yX6_isDigit ∈ gtbl := gtbl_of (List.mem_append_right _ (List.mem_of_getElem? (i := 358) (by decide +kernel))) rfl
theorem cd_X6_isOfWord : Cond.code yX6_isOfWord cX6_isOfWord 1 (some .boolean) ∈ gtbl := gtbl_of (List.mem_append_right _ (List.mem_of_getElem? (i := 356) (by decide +kernel))) rfl
theorem st_X6_isOfWord : Cond.static yX6_isOfWord ∈ gtbl := gtbl_of (List.mem_append_right _ (List.mem_of_getElem? (i := 355) (by decide +kernel))) rfl
theorem cd_X7_init : Cond.code yX7_init cX7_init 1 none ∈ gtbl := gtbl_of (List.mem_append_right _ (List.mem_of_getElem? (i := 53) (by decide +kernel))) rfl
theorem im_X7_init : Cond.instanceMethod yX7_init ∈ gtbl := gtbl_of (List.mem_append_right _ (List.mem_of_getElem? (i := 52) (by decide +kernel))) rfl
theorem cd_X7_clear : Cond.code yX7_clear cX7_clear 2 none ∈ gtbl := gtbl_of (List.mem_append_right _ (List.mem_of_getElem? (i := 90) (by decide +kernel))) rfl
theorem im_X7_clear : Cond.instanceMethod yX7_clear ∈ gtbl := gtbl_of (List.mem_append_right _ (List.mem_of_getElem? (i := 88) (by decide +kernel))) rfl
theorem se_X7_clear : Cond.selects yX7_clear.cls yX7_clear yX7_clear ∈ gtbl := gtbl_of (List.mem_append_right _ (List.mem_of_getElem? (i := 89) (by decide +kernel))) rfl
theorem cd_X7_resize : Cond.code yX7_resize cX7_resize 3 none ∈ gtbl := gtbl_of (List.mem_append_right _ (List.mem_of_getElem? (i := 94) (by decide +kernel))) rfl
theorem im_X7_resize : Cond.instanceMethod yX7_resize ∈ gtbl := gtbl_of (List.mem_append_right _ (List.mem_of_getElem? (i := 92) (by decide +kernel))) rfl
theorem se_X7_resize : Cond.selects yX7_resize.cls yX7_resize yX7_resize ∈ gtbl := gtbl_of (List.mem_append_right _ (List.mem_of_getElem? (i := 93) (by decide +kernel))) rfl
theorem cd_X7_addEmpire : Cond.code yX7_addEmpire cX7_addEmpire 5 none ∈ gtbl := gtbl_of (List.mem_append_right _ (List.mem_of_getElem? (i := 471) (by decide +kernel))) rfl
theorem im_X7_addEmpire : Cond.instanceMethod yX7_addEmpire ∈ gtbl := gtbl_of (List.mem_append_right _ (List.mem_of_getElem? (i := 469) (by decide +kernel))) rfl
theorem se_X7_addEmpire : Cond.selects yX7_addEmpire.cls yX7_addEmpire yX7_addEmpire ∈ gtbl := gtbl_of (List.mem_append_right _ (List.mem_of_getElem? (i := 470) (by decide +kernel))) rfl
theorem cd_X7_addFind : Cond.code yX7_addFind cX7_addFind 4 none ∈ gtbl := gtbl_of (List.mem_append_right _ (List.mem_of_getElem? (i := 502) (by decide +kernel))) rfl
theorem im_X7_addFind : Cond.instanceMethod yX7_addFind ∈ gtbl := gtbl_of (List.mem_append_right _ (List.mem_of_getElem? (i := 500) (by decide +kernel))) rfl
theorem se_X7_addFind : Cond.selects yX7_addFind.cls yX7_addFind yX7_addFind ∈ gtbl := gtbl_of (List.mem_append_right _ (List.mem_of_getElem? (i := 501) (by decide +kernel))) rfl
theorem cd_X7_addSpring : Cond.code yX7_addSpring cX7_addSpring 2 none ∈ gtbl := gtbl_of (List.mem_append_right _ (List.mem_of_getElem? (i := 518) (by decide +kernel))) rfl
theorem im_X7_addSpring : Cond.instanceMethod yX7_addSpring ∈ gtbl := gtbl_of (List.mem_append_right _ (List.mem_of_getElem? (i := 516) (by decide +kernel))) rfl
theorem se_X7_addSpring : Cond.selects yX7_addSpring.cls yX7_addSpring yX7_addSpring ∈ gtbl := gtbl_of (List.mem_append_right _ (List.mem_of_getElem? (i := 517) (by decide +kernel))) rfl
theorem cd_X7_empireNamed : Cond.code yX7_empireNamed cX7_empireNamed 4 (some .int) ∈ gtbl := gtbl_of (List.mem_append_right _ (List.mem_of_getElem? (i := 467) (by decide +kernel))) rfl
theorem im_X7_empireNamed : Cond.instanceMethod yX7_empireNamed ∈ gtbl := gtbl_of (List.mem_append_right _ (List.mem_of_getElem? (i := 465) (by decide +kernel))) rfl
theorem se_X7_empireNamed : Cond.selects yX7_empireNamed.cls yX7_empireNamed yX7_empireNamed ∈ gtbl := gtbl_of (List.mem_append_right _ (List.mem_of_getElem? (i := 466) (by decide +kernel))) rfl
theorem cd_X7_seatOfSum : Cond.code yX7_seatOfSum cX7_seatOfSum 2 (some .int) ∈ gtbl := gtbl_of (List.mem_append_right _ (List.mem_of_getElem? (i := 1157) (by decide +kernel))) rfl
theorem im_X7_seatOfSum : Cond.instanceMethod yX7_seatOfSum ∈ gtbl := gtbl_of (List.mem_append_right _ (List.mem_of_getElem? (i := 1155) (by decide +kernel))) rfl
theorem se_X7_seatOfSum : Cond.selects yX7_seatOfSum.cls yX7_seatOfSum yX7_seatOfSum ∈ gtbl := gtbl_of (List.mem_append_right _ (List.mem_of_getElem? (i := 1156) (by decide +kernel))) rfl
theorem cd_X7_cushionTold : Cond.code yX7_cushionTold cX7_cushionTold 3 (some .int) ∈ gtbl := gtbl_of (List.mem_append_right _ (List.mem_of_getElem? (i := 487) (by decide +kernel))) rfl
theorem im_X7_cushionTold : Cond.instanceMethod yX7_cushionTold ∈ gtbl := gtbl_of (List.mem_append_right _ (List.mem_of_getElem? (i := 485) (by decide +kernel))) rfl
theorem se_X7_cushionTold : Cond.selects yX7_cushionTold.cls yX7_cushionTold yX7_cushionTold ∈ gtbl := gtbl_of (List.mem_append_right _ (List.mem_of_getElem? (i := 486) (by decide +kernel))) rfl
theorem cd_X7_stratumOfCushion : Cond.code yX7_stratumOfCushion cX7_stratumOfCushion 2 (some .int) ∈ gtbl := gtbl_of (List.mem_append_right _ (List.mem_of_getElem? (i := 721) (by decide +kernel))) rfl
theorem im_X7_stratumOfCushion : Cond.instanceMethod yX7_stratumOfCushion ∈ gtbl := gtbl_of (List.mem_append_right _ (List.mem_of_getElem? (i := 719) (by decide +kernel))) rfl
theorem se_X7_stratumOfCushion : Cond.selects yX7_stratumOfCushion.cls yX7_stratumOfCushion yX7_stratumOfCushion ∈ gtbl := gtbl_of (List.mem_append_right _ (List.mem_of_getElem? (i := 720) (by decide +kernel))) rfl
theorem cd_X7_findIn : Cond.code yX7_findIn cX7_findIn 2 (some .int) ∈ gtbl := gtbl_of (List.mem_append_right _ (List.mem_of_getElem? (i := 498) (by decide +kernel))) rfl
theorem im_X7_findIn : Cond.instanceMethod yX7_findIn ∈ gtbl := gtbl_of (List.mem_append_right _ (List.mem_of_getElem? (i := 496) (by decide +kernel))) rfl
theorem se_X7_findIn : Cond.selects yX7_findIn.cls yX7_findIn yX7_findIn ∈ gtbl := gtbl_of (List.mem_append_right _ (List.mem_of_getElem? (i := 497) (by decide +kernel))) rfl
theorem cd_X7_hasSpring : Cond.code yX7_hasSpring cX7_hasSpring 2 (some .boolean) ∈ gtbl := gtbl_of (List.mem_append_right _ (List.mem_of_getElem? (i := 491) (by decide +kernel))) rfl
theorem im_X7_hasSpring : Cond.instanceMethod yX7_hasSpring ∈ gtbl := gtbl_of (List.mem_append_right _ (List.mem_of_getElem? (i := 489) (by decide +kernel))) rfl
theorem se_X7_hasSpring : Cond.selects yX7_hasSpring.cls yX7_hasSpring yX7_hasSpring ∈ gtbl := gtbl_of (List.mem_append_right _ (List.mem_of_getElem? (i := 490) (by decide +kernel))) rfl
theorem cd_X7_tellsCoin : Cond.code yX7_tellsCoin cX7_tellsCoin 2 (some .boolean) ∈ gtbl := gtbl_of (List.mem_append_right _ (List.mem_of_getElem? (i := 691) (by decide +kernel))) rfl
theorem im_X7_tellsCoin : Cond.instanceMethod yX7_tellsCoin ∈ gtbl := gtbl_of (List.mem_append_right _ (List.mem_of_getElem? (i := 689) (by decide +kernel))) rfl
theorem se_X7_tellsCoin : Cond.selects yX7_tellsCoin.cls yX7_tellsCoin yX7_tellsCoin ∈ gtbl := gtbl_of (List.mem_append_right _ (List.mem_of_getElem? (i := 690) (by decide +kernel))) rfl
theorem cd_X7_cushionOf : Cond.code yX7_cushionOf cX7_cushionOf 2 (some .int) ∈ gtbl := gtbl_of (List.mem_append_right _ (List.mem_of_getElem? (i := 746) (by decide +kernel))) rfl
theorem im_X7_cushionOf : Cond.instanceMethod yX7_cushionOf ∈ gtbl := gtbl_of (List.mem_append_right _ (List.mem_of_getElem? (i := 744) (by decide +kernel))) rfl
theorem se_X7_cushionOf : Cond.selects yX7_cushionOf.cls yX7_cushionOf yX7_cushionOf ∈ gtbl := gtbl_of (List.mem_append_right _ (List.mem_of_getElem? (i := 745) (by decide +kernel))) rfl
theorem cd_X7_stratumOfFind : Cond.code yX7_stratumOfFind cX7_stratumOfFind 2 (some .int) ∈ gtbl := gtbl_of (List.mem_append_right _ (List.mem_of_getElem? (i := 742) (by decide +kernel))) rfl
theorem im_X7_stratumOfFind : Cond.instanceMethod yX7_stratumOfFind ∈ gtbl := gtbl_of (List.mem_append_right _ (List.mem_of_getElem? (i := 740) (by decide +kernel))) rfl
theorem se_X7_stratumOfFind : Cond.selects yX7_stratumOfFind.cls yX7_stratumOfFind yX7_stratumOfFind ∈ gtbl := gtbl_of (List.mem_append_right _ (List.mem_of_getElem? (i := 741) (by decide +kernel))) rfl
theorem cd_X7_coinYear : Cond.code yX7_coinYear cX7_coinYear 2 (some .int) ∈ gtbl := gtbl_of (List.mem_append_right _ (List.mem_of_getElem? (i := 703) (by decide +kernel))) rfl
theorem im_X7_coinYear : Cond.instanceMethod yX7_coinYear ∈ gtbl := gtbl_of (List.mem_append_right _ (List.mem_of_getElem? (i := 701) (by decide +kernel))) rfl
theorem se_X7_coinYear : Cond.selects yX7_coinYear.cls yX7_coinYear yX7_coinYear ∈ gtbl := gtbl_of (List.mem_append_right _ (List.mem_of_getElem? (i := 702) (by decide +kernel))) rfl
theorem cd_X7_crumbsEmpire : Cond.code yX7_crumbsEmpire cX7_crumbsEmpire 2 (some .int) ∈ gtbl := gtbl_of (List.mem_append_right _ (List.mem_of_getElem? (i := 756) (by decide +kernel))) rfl
theorem im_X7_crumbsEmpire : Cond.instanceMethod yX7_crumbsEmpire ∈ gtbl := gtbl_of (List.mem_append_right _ (List.mem_of_getElem? (i := 754) (by decide +kernel))) rfl
theorem se_X7_crumbsEmpire : Cond.selects yX7_crumbsEmpire.cls yX7_crumbsEmpire yX7_crumbsEmpire ∈ gtbl := gtbl_of (List.mem_append_right _ (List.mem_of_getElem? (i := 755) (by decide +kernel))) rfl
theorem cd_X7_fromOf : Cond.code yX7_fromOf cX7_fromOf 2 (some .int) ∈ gtbl := gtbl_of (List.mem_append_right _ (List.mem_of_getElem? (i := 760) (by decide +kernel))) rfl
theorem im_X7_fromOf : Cond.instanceMethod yX7_fromOf ∈ gtbl := gtbl_of (List.mem_append_right _ (List.mem_of_getElem? (i := 758) (by decide +kernel))) rfl
theorem se_X7_fromOf : Cond.selects yX7_fromOf.cls yX7_fromOf yX7_fromOf ∈ gtbl := gtbl_of (List.mem_append_right _ (List.mem_of_getElem? (i := 759) (by decide +kernel))) rfl
theorem cd_X7_toOf : Cond.code yX7_toOf cX7_toOf 2 (some .int) ∈ gtbl := gtbl_of (List.mem_append_right _ (List.mem_of_getElem? (i := 775) (by decide +kernel))) rfl
theorem im_X7_toOf : Cond.instanceMethod yX7_toOf ∈ gtbl := gtbl_of (List.mem_append_right _ (List.mem_of_getElem? (i := 773) (by decide +kernel))) rfl
theorem se_X7_toOf : Cond.selects yX7_toOf.cls yX7_toOf yX7_toOf ∈ gtbl := gtbl_of (List.mem_append_right _ (List.mem_of_getElem? (i := 774) (by decide +kernel))) rfl
theorem cd_X7_earliestYearOf : Cond.code yX7_earliestYearOf cX7_earliestYearOf 2 (some .int) ∈ gtbl := gtbl_of (List.mem_append_right _ (List.mem_of_getElem? (i := 751) (by decide +kernel))) rfl
theorem im_X7_earliestYearOf : Cond.instanceMethod yX7_earliestYearOf ∈ gtbl := gtbl_of (List.mem_append_right _ (List.mem_of_getElem? (i := 749) (by decide +kernel))) rfl
theorem se_X7_earliestYearOf : Cond.selects yX7_earliestYearOf.cls yX7_earliestYearOf yX7_earliestYearOf ∈ gtbl := gtbl_of (List.mem_append_right _ (List.mem_of_getElem? (i := 750) (by decide +kernel))) rfl
theorem cd_X7_isEmpire : Cond.code yX7_isEmpire cX7_isEmpire 2 (some .boolean) ∈ gtbl := gtbl_of (List.mem_append_right _ (List.mem_of_getElem? (i := 764) (by decide +kernel))) rfl
theorem im_X7_isEmpire : Cond.instanceMethod yX7_isEmpire ∈ gtbl := gtbl_of (List.mem_append_right _ (List.mem_of_getElem? (i := 763) (by decide +kernel))) rfl
theorem se_X7_isEmpire : Cond.selects yX7_isEmpire.cls yX7_isEmpire yX7_isEmpire ∈ gtbl := gtbl_of (List.mem_append_left _ (List.mem_of_getElem? (i := 39) (by decide +kernel))) rfl
theorem cd_X7_isFind : Cond.code yX7_isFind cX7_isFind 2 (some .boolean) ∈ gtbl := gtbl_of (List.mem_append_right _ (List.mem_of_getElem? (i := 695) (by decide +kernel))) rfl
theorem im_X7_isFind : Cond.instanceMethod yX7_isFind ∈ gtbl := gtbl_of (List.mem_append_right _ (List.mem_of_getElem? (i := 694) (by decide +kernel))) rfl
theorem se_X7_isFind : Cond.selects yX7_isFind.cls yX7_isFind yX7_isFind ∈ gtbl := gtbl_of (List.mem_append_left _ (List.mem_of_getElem? (i := 35) (by decide +kernel))) rfl
theorem cd_X7_isCushion : Cond.code yX7_isCushion cX7_isCushion 1 (some .boolean) ∈ gtbl := gtbl_of (List.mem_append_right _ (List.mem_of_getElem? (i := 494) (by decide +kernel))) rfl
theorem st_X7_isCushion : Cond.static yX7_isCushion ∈ gtbl := gtbl_of (List.mem_append_right _ (List.mem_of_getElem? (i := 493) (by decide +kernel))) rfl
theorem cd_X8_init : Cond.code yX8_init cX8_init 3 none ∈ gtbl := gtbl_of (List.mem_append_right _ (List.mem_of_getElem? (i := 30) (by decide +kernel))) rfl
theorem im_X8_init : Cond.instanceMethod yX8_init ∈ gtbl := gtbl_of (List.mem_append_right _ (List.mem_of_getElem? (i := 29) (by decide +kernel))) rfl
theorem cd_X8_feed : Cond.code yX8_feed cX8_feed 6 (some .int) ∈ gtbl := gtbl_of (List.mem_append_right _ (List.mem_of_getElem? (i := 789) (by decide +kernel))) rfl
theorem im_X8_feed : Cond.instanceMethod yX8_feed ∈ gtbl := gtbl_of (List.mem_append_right _ (List.mem_of_getElem? (i := 787) (by decide +kernel))) rfl
theorem se_X8_feed : Cond.selects yX8_feed.cls yX8_feed yX8_feed ∈ gtbl := gtbl_of (List.mem_append_right _ (List.mem_of_getElem? (i := 788) (by decide +kernel))) rfl
theorem cd_X8_trim : Cond.code yX8_trim cX8_trim 2 (some .int) ∈ gtbl := gtbl_of (List.mem_append_right _ (List.mem_of_getElem? (i := 868) (by decide +kernel))) rfl
theorem im_X8_trim : Cond.instanceMethod yX8_trim ∈ gtbl := gtbl_of (List.mem_append_right _ (List.mem_of_getElem? (i := 866) (by decide +kernel))) rfl
theorem se_X8_trim : Cond.selects yX8_trim.cls yX8_trim yX8_trim ∈ gtbl := gtbl_of (List.mem_append_right _ (List.mem_of_getElem? (i := 867) (by decide +kernel))) rfl
theorem cd_X8_teach : Cond.code yX8_teach cX8_teach 2 (some .int) ∈ gtbl := gtbl_of (List.mem_append_right _ (List.mem_of_getElem? (i := 322) (by decide +kernel))) rfl
theorem im_X8_teach : Cond.instanceMethod yX8_teach ∈ gtbl := gtbl_of (List.mem_append_right _ (List.mem_of_getElem? (i := 320) (by decide +kernel))) rfl
theorem se_X8_teach : Cond.selects yX8_teach.cls yX8_teach yX8_teach ∈ gtbl := gtbl_of (List.mem_append_right _ (List.mem_of_getElem? (i := 321) (by decide +kernel))) rfl
theorem cd_X8_errorAt : Cond.code yX8_errorAt cX8_errorAt 1 (some .int) ∈ gtbl := gtbl_of (List.mem_append_right _ (List.mem_of_getElem? (i := 583) (by decide +kernel))) rfl
theorem im_X8_errorAt : Cond.instanceMethod yX8_errorAt ∈ gtbl := gtbl_of (List.mem_append_right _ (List.mem_of_getElem? (i := 581) (by decide +kernel))) rfl
theorem se_X8_errorAt : Cond.selects yX8_errorAt.cls yX8_errorAt yX8_errorAt ∈ gtbl := gtbl_of (List.mem_append_right _ (List.mem_of_getElem? (i := 582) (by decide +kernel))) rfl
theorem cd_X8_seats : Cond.code yX8_seats cX8_seats 1 (some .int) ∈ gtbl := gtbl_of (List.mem_append_right _ (List.mem_of_getElem? (i := 587) (by decide +kernel))) rfl
theorem im_X8_seats : Cond.instanceMethod yX8_seats ∈ gtbl := gtbl_of (List.mem_append_right _ (List.mem_of_getElem? (i := 585) (by decide +kernel))) rfl
theorem se_X8_seats : Cond.selects yX8_seats.cls yX8_seats yX8_seats ∈ gtbl := gtbl_of (List.mem_append_right _ (List.mem_of_getElem? (i := 586) (by decide +kernel))) rfl
theorem cd_X8_strata : Cond.code yX8_strata cX8_strata 1 (some .int) ∈ gtbl := gtbl_of (List.mem_append_right _ (List.mem_of_getElem? (i := 591) (by decide +kernel))) rfl
theorem im_X8_strata : Cond.instanceMethod yX8_strata ∈ gtbl := gtbl_of (List.mem_append_right _ (List.mem_of_getElem? (i := 589) (by decide +kernel))) rfl
theorem se_X8_strata : Cond.selects yX8_strata.cls yX8_strata yX8_strata ∈ gtbl := gtbl_of (List.mem_append_right _ (List.mem_of_getElem? (i := 590) (by decide +kernel))) rfl
theorem cd_X8_finds : Cond.code yX8_finds cX8_finds 1 (some .int) ∈ gtbl := gtbl_of (List.mem_append_right _ (List.mem_of_getElem? (i := 595) (by decide +kernel))) rfl
theorem im_X8_finds : Cond.instanceMethod yX8_finds ∈ gtbl := gtbl_of (List.mem_append_right _ (List.mem_of_getElem? (i := 593) (by decide +kernel))) rfl
theorem se_X8_finds : Cond.selects yX8_finds.cls yX8_finds yX8_finds ∈ gtbl := gtbl_of (List.mem_append_right _ (List.mem_of_getElem? (i := 594) (by decide +kernel))) rfl
theorem cd_X8_days : Cond.code yX8_days cX8_days 1 (some .int) ∈ gtbl := gtbl_of (List.mem_append_right _ (List.mem_of_getElem? (i := 599) (by decide +kernel))) rfl
theorem im_X8_days : Cond.instanceMethod yX8_days ∈ gtbl := gtbl_of (List.mem_append_right _ (List.mem_of_getElem? (i := 597) (by decide +kernel))) rfl
theorem se_X8_days : Cond.selects yX8_days.cls yX8_days yX8_days ∈ gtbl := gtbl_of (List.mem_append_right _ (List.mem_of_getElem? (i := 598) (by decide +kernel))) rfl
theorem cd_X8_ordersCarriedOut : Cond.code yX8_ordersCarriedOut cX8_ordersCarriedOut 1 (some .int) ∈ gtbl := gtbl_of (List.mem_append_right _ (List.mem_of_getElem? (i := 603) (by decide +kernel))) rfl
theorem im_X8_ordersCarriedOut : Cond.instanceMethod yX8_ordersCarriedOut ∈ gtbl := gtbl_of (List.mem_append_right _ (List.mem_of_getElem? (i := 601) (by decide +kernel))) rfl
theorem se_X8_ordersCarriedOut : Cond.selects yX8_ordersCarriedOut.cls yX8_ordersCarriedOut yX8_ordersCarriedOut ∈ gtbl := gtbl_of (List.mem_append_right _ (List.mem_of_getElem? (i := 602) (by decide +kernel))) rfl
theorem cd_X8_cushionsDug : Cond.code yX8_cushionsDug cX8_cushionsDug 1 (some .int) ∈ gtbl := gtbl_of (List.mem_append_right _ (List.mem_of_getElem? (i := 607) (by decide +kernel))) rfl
theorem im_X8_cushionsDug : Cond.instanceMethod yX8_cushionsDug ∈ gtbl := gtbl_of (List.mem_append_right _ (List.mem_of_getElem? (i := 605) (by decide +kernel))) rfl
theorem se_X8_cushionsDug : Cond.selects yX8_cushionsDug.cls yX8_cushionsDug yX8_cushionsDug ∈ gtbl := gtbl_of (List.mem_append_right _ (List.mem_of_getElem? (i := 606) (by decide +kernel))) rfl
theorem cd_X8_slides : Cond.code yX8_slides cX8_slides 1 (some .int) ∈ gtbl := gtbl_of (List.mem_append_right _ (List.mem_of_getElem? (i := 611) (by decide +kernel))) rfl
theorem im_X8_slides : Cond.instanceMethod yX8_slides ∈ gtbl := gtbl_of (List.mem_append_right _ (List.mem_of_getElem? (i := 609) (by decide +kernel))) rfl
theorem se_X8_slides : Cond.selects yX8_slides.cls yX8_slides yX8_slides ∈ gtbl := gtbl_of (List.mem_append_right _ (List.mem_of_getElem? (i := 610) (by decide +kernel))) rfl
theorem cd_X8_found : Cond.code yX8_found cX8_found 1 (some .int) ∈ gtbl := gtbl_of (List.mem_append_right _ (List.mem_of_getElem? (i := 615) (by decide +kernel))) rfl
theorem im_X8_found : Cond.instanceMethod yX8_found ∈ gtbl := gtbl_of (List.mem_append_right _ (List.mem_of_getElem? (i := 613) (by decide +kernel))) rfl
theorem se_X8_found : Cond.selects yX8_found.cls yX8_found yX8_found ∈ gtbl := gtbl_of (List.mem_append_right _ (List.mem_of_getElem? (i := 614) (by decide +kernel))) rfl
theorem cd_X8_sureFinds : Cond.code yX8_sureFinds cX8_sureFinds 1 (some .int) ∈ gtbl := gtbl_of (List.mem_append_right _ (List.mem_of_getElem? (i := 619) (by decide +kernel))) rfl
theorem im_X8_sureFinds : Cond.instanceMethod yX8_sureFinds ∈ gtbl := gtbl_of (List.mem_append_right _ (List.mem_of_getElem? (i := 617) (by decide +kernel))) rfl
theorem se_X8_sureFinds : Cond.selects yX8_sureFinds.cls yX8_sureFinds yX8_sureFinds ∈ gtbl := gtbl_of (List.mem_append_right _ (List.mem_of_getElem? (i := 618) (by decide +kernel))) rfl
theorem cd_X8_props : Cond.code yX8_props cX8_props 1 (some .int) ∈ gtbl := gtbl_of (List.mem_append_right _ (List.mem_of_getElem? (i := 623) (by decide +kernel))) rfl
theorem im_X8_props : Cond.instanceMethod yX8_props ∈ gtbl := gtbl_of (List.mem_append_right _ (List.mem_of_getElem? (i := 621) (by decide +kernel))) rfl
theorem se_X8_props : Cond.selects yX8_props.cls yX8_props yX8_props ∈ gtbl := gtbl_of (List.mem_append_right _ (List.mem_of_getElem? (i := 622) (by decide +kernel))) rfl
theorem cd_X8_heightOf : Cond.code yX8_heightOf cX8_heightOf 2 (some .int) ∈ gtbl := gtbl_of (List.mem_append_right _ (List.mem_of_getElem? (i := 892) (by decide +kernel))) rfl
theorem im_X8_heightOf : Cond.instanceMethod yX8_heightOf ∈ gtbl := gtbl_of (List.mem_append_right _ (List.mem_of_getElem? (i := 890) (by decide +kernel))) rfl
theorem se_X8_heightOf : Cond.selects yX8_heightOf.cls yX8_heightOf yX8_heightOf ∈ gtbl := gtbl_of (List.mem_append_right _ (List.mem_of_getElem? (i := 891) (by decide +kernel))) rfl
theorem cd_X8_isPropped : Cond.code yX8_isPropped cX8_isPropped 2 (some .boolean) ∈ gtbl := gtbl_of (List.mem_append_right _ (List.mem_of_getElem? (i := 919) (by decide +kernel))) rfl
theorem im_X8_isPropped : Cond.instanceMethod yX8_isPropped ∈ gtbl := gtbl_of (List.mem_append_right _ (List.mem_of_getElem? (i := 917) (by decide +kernel))) rfl
theorem se_X8_isPropped : Cond.selects yX8_isPropped.cls yX8_isPropped yX8_isPropped ∈ gtbl := gtbl_of (List.mem_append_right _ (List.mem_of_getElem? (i := 918) (by decide +kernel))) rfl
theorem cd_X8_topStratum : Cond.code yX8_topStratum cX8_topStratum 2 (some .int) ∈ gtbl := gtbl_of (List.mem_append_right _ (List.mem_of_getElem? (i := 926) (by decide +kernel))) rfl
theorem im_X8_topStratum : Cond.instanceMethod yX8_topStratum ∈ gtbl := gtbl_of (List.mem_append_right _ (List.mem_of_getElem? (i := 924) (by decide +kernel))) rfl
theorem se_X8_topStratum : Cond.selects yX8_topStratum.cls yX8_topStratum yX8_topStratum ∈ gtbl := gtbl_of (List.mem_append_right _ (List.mem_of_getElem? (i := 925) (by decide +kernel))) rfl
theorem cd_X8_isTopLoose : Cond.code yX8_isTopLoose cX8_isTopLoose 2 (some .boolean) ∈ gtbl := gtbl_of (List.mem_append_right _ (List.mem_of_getElem? (i := 938) (by decide +kernel))) rfl
theorem im_X8_isTopLoose : Cond.instanceMethod yX8_isTopLoose ∈ gtbl := gtbl_of (List.mem_append_right _ (List.mem_of_getElem? (i := 936) (by decide +kernel))) rfl
theorem se_X8_isTopLoose : Cond.selects yX8_isTopLoose.cls yX8_isTopLoose yX8_isTopLoose ∈ gtbl := gtbl_of (List.mem_append_right _ (List.mem_of_getElem? (i := 937) (by decide +kernel))) rfl
theorem cd_X8_hasTopSpring : Cond.code yX8_hasTopSpring cX8_hasTopSpring 2 (some .boolean) ∈ gtbl := gtbl_of (List.mem_append_right _ (List.mem_of_getElem? (i := 946) (by decide +kernel))) rfl
theorem im_X8_hasTopSpring : Cond.instanceMethod yX8_hasTopSpring ∈ gtbl := gtbl_of (List.mem_append_right _ (List.mem_of_getElem? (i := 944) (by decide +kernel))) rfl
theorem se_X8_hasTopSpring : Cond.selects yX8_hasTopSpring.cls yX8_hasTopSpring yX8_hasTopSpring ∈ gtbl := gtbl_of (List.mem_append_right _ (List.mem_of_getElem? (i := 945) (by decide +kernel))) rfl
theorem cd_X8_findsLeft : Cond.code yX8_findsLeft cX8_findsLeft 2 (some .int) ∈ gtbl := gtbl_of (List.mem_append_right _ (List.mem_of_getElem? (i := 954) (by decide +kernel))) rfl
theorem im_X8_findsLeft : Cond.instanceMethod yX8_findsLeft ∈ gtbl := gtbl_of (List.mem_append_right _ (List.mem_of_getElem? (i := 952) (by decide +kernel))) rfl
theorem se_X8_findsLeft : Cond.selects yX8_findsLeft.cls yX8_findsLeft yX8_findsLeft ∈ gtbl := gtbl_of (List.mem_append_right _ (List.mem_of_getElem? (i := 953) (by decide +kernel))) rfl
theorem cd_X8_isCoin : Cond.code yX8_isCoin cX8_isCoin 2 (some .boolean) ∈ gtbl := gtbl_of (List.mem_append_right _ (List.mem_of_getElem? (i := 961) (by decide +kernel))) rfl
theorem im_X8_isCoin : Cond.instanceMethod yX8_isCoin ∈ gtbl := gtbl_of (List.mem_append_right _ (List.mem_of_getElem? (i := 959) (by decide +kernel))) rfl
theorem se_X8_isCoin : Cond.selects yX8_isCoin.cls yX8_isCoin yX8_isCoin ∈ gtbl := gtbl_of (List.mem_append_right _ (List.mem_of_getElem? (i := 960) (by decide +kernel))) rfl
theorem cd_X8_isFound : Cond.code yX8_isFound cX8_isFound 2 (some .boolean) ∈ gtbl := gtbl_of (List.mem_append_right _ (List.mem_of_getElem? (i := 973) (by decide +kernel))) rfl
theorem im_X8_isFound : Cond.instanceMethod yX8_isFound ∈ gtbl := gtbl_of (List.mem_append_right _ (List.mem_of_getElem? (i := 971) (by decide +kernel))) rfl
theorem se_X8_isFound : Cond.selects yX8_isFound.cls yX8_isFound yX8_isFound ∈ gtbl := gtbl_of (List.mem_append_right _ (List.mem_of_getElem? (i := 972) (by decide +kernel))) rfl
theorem cd_X8_isSure : Cond.code yX8_isSure cX8_isSure 2 (some .boolean) ∈ gtbl := gtbl_of (List.mem_append_right _ (List.mem_of_getElem? (i := 980) (by decide +kernel))) rfl
theorem im_X8_isSure : Cond.instanceMethod yX8_isSure ∈ gtbl := gtbl_of (List.mem_append_right _ (List.mem_of_getElem? (i := 978) (by decide +kernel))) rfl
theorem se_X8_isSure : Cond.selects yX8_isSure.cls yX8_isSure yX8_isSure ∈ gtbl := gtbl_of (List.mem_append_right _ (List.mem_of_getElem? (i := 979) (by decide +kernel))) rfl
theorem cd_X8_stratumOf : Cond.code yX8_stratumOf cX8_stratumOf 2 (some .int) ∈ gtbl := gtbl_of (List.mem_append_right _ (List.mem_of_getElem? (i := 988) (by decide +kernel))) rfl
theorem im_X8_stratumOf : Cond.instanceMethod yX8_stratumOf ∈ gtbl := gtbl_of (List.mem_append_right _ (List.mem_of_getElem? (i := 986) (by decide +kernel))) rfl
theorem se_X8_stratumOf : Cond.selects yX8_stratumOf.cls yX8_stratumOf yX8_stratumOf ∈ gtbl := gtbl_of (List.mem_append_right _ (List.mem_of_getElem? (i := 987) (by decide +kernel))) rfl
theorem cd_X8_yearOf : Cond.code yX8_yearOf cX8_yearOf 2 (some .int) ∈ gtbl := gtbl_of (List.mem_append_right _ (List.mem_of_getElem? (i := 996) (by decide +kernel))) rfl
theorem im_X8_yearOf : Cond.instanceMethod yX8_yearOf ∈ gtbl := gtbl_of (List.mem_append_right _ (List.mem_of_getElem? (i := 994) (by decide +kernel))) rfl
theorem se_X8_yearOf : Cond.selects yX8_yearOf.cls yX8_yearOf yX8_yearOf ∈ gtbl := gtbl_of (List.mem_append_right _ (List.mem_of_getElem? (i := 995) (by decide +kernel))) rfl
theorem cd_X8_empireOf : Cond.code yX8_empireOf cX8_empireOf 2 (some .int) ∈ gtbl := gtbl_of (List.mem_append_right _ (List.mem_of_getElem? (i := 1004) (by decide +kernel))) rfl
theorem im_X8_empireOf : Cond.instanceMethod yX8_empireOf ∈ gtbl := gtbl_of (List.mem_append_right _ (List.mem_of_getElem? (i := 1002) (by decide +kernel))) rfl
theorem se_X8_empireOf : Cond.selects yX8_empireOf.cls yX8_empireOf yX8_empireOf ∈ gtbl := gtbl_of (List.mem_append_right _ (List.mem_of_getElem? (i := 1003) (by decide +kernel))) rfl
theorem cd_X8_buriedUnder : Cond.code yX8_buriedUnder cX8_buriedUnder 2 (some .int) ∈ gtbl := gtbl_of (List.mem_append_right _ (List.mem_of_getElem? (i := 1013) (by decide +kernel))) rfl
theorem im_X8_buriedUnder : Cond.instanceMethod yX8_buriedUnder ∈ gtbl := gtbl_of (List.mem_append_right _ (List.mem_of_getElem? (i := 1011) (by decide +kernel))) rfl
theorem se_X8_buriedUnder : Cond.selects yX8_buriedUnder.cls yX8_buriedUnder yX8_buriedUnder ∈ gtbl := gtbl_of (List.mem_append_right _ (List.mem_of_getElem? (i := 1012) (by decide +kernel))) rfl
theorem cd_X8_notBefore : Cond.code yX8_notBefore cX8_notBefore 2 (some .int) ∈ gtbl := gtbl_of (List.mem_append_right _ (List.mem_of_getElem? (i := 1026) (by decide +kernel))) rfl
theorem im_X8_notBefore : Cond.instanceMethod yX8_notBefore ∈ gtbl := gtbl_of (List.mem_append_right _ (List.mem_of_getElem? (i := 1024) (by decide +kernel))) rfl
theorem se_X8_notBefore : Cond.selects yX8_notBefore.cls yX8_notBefore yX8_notBefore ∈ gtbl := gtbl_of (List.mem_append_right _ (List.mem_of_getElem? (i := 1025) (by decide +kernel))) rfl
theorem cd_X8_isSeenIn : Cond.code yX8_isSeenIn cX8_isSeenIn 3 (some .boolean) ∈ gtbl := gtbl_of (List.mem_append_right _ (List.mem_of_getElem? (i := 1038) (by decide +kernel))) rfl
theorem im_X8_isSeenIn : Cond.instanceMethod yX8_isSeenIn ∈ gtbl := gtbl_of (List.mem_append_right _ (List.mem_of_getElem? (i := 1036) (by decide +kernel))) rfl
theorem se_X8_isSeenIn : Cond.selects yX8_isSeenIn.cls yX8_isSeenIn yX8_isSeenIn ∈ gtbl := gtbl_of (List.mem_append_right _ (List.mem_of_getElem? (i := 1037) (by decide +kernel))) rfl
theorem cd_X8_isMixed : Cond.code yX8_isMixed cX8_isMixed 2 (some .boolean) ∈ gtbl := gtbl_of (List.mem_append_right _ (List.mem_of_getElem? (i := 1047) (by decide +kernel))) rfl
theorem im_X8_isMixed : Cond.instanceMethod yX8_isMixed ∈ gtbl := gtbl_of (List.mem_append_right _ (List.mem_of_getElem? (i := 1045) (by decide +kernel))) rfl
theorem se_X8_isMixed : Cond.selects yX8_isMixed.cls yX8_isMixed yX8_isMixed ∈ gtbl := gtbl_of (List.mem_append_right _ (List.mem_of_getElem? (i := 1046) (by decide +kernel))) rfl
theorem cd_X8_dig : Cond.code yX8_dig cX8_dig 2 (some .int) ∈ gtbl := gtbl_of (List.mem_append_right _ (List.mem_of_getElem? (i := 1054) (by decide +kernel))) rfl
theorem im_X8_dig : Cond.instanceMethod yX8_dig ∈ gtbl := gtbl_of (List.mem_append_right _ (List.mem_of_getElem? (i := 1052) (by decide +kernel))) rfl
theorem se_X8_dig : Cond.selects yX8_dig.cls yX8_dig yX8_dig ∈ gtbl := gtbl_of (List.mem_append_right _ (List.mem_of_getElem? (i := 1053) (by decide +kernel))) rfl
theorem cd_X8_prop : Cond.code yX8_prop cX8_prop 2 (some .int) ∈ gtbl := gtbl_of (List.mem_append_right _ (List.mem_of_getElem? (i := 1061) (by decide +kernel))) rfl
theorem im_X8_prop : Cond.instanceMethod yX8_prop ∈ gtbl := gtbl_of (List.mem_append_right _ (List.mem_of_getElem? (i := 1059) (by decide +kernel))) rfl
theorem se_X8_prop : Cond.selects yX8_prop.cls yX8_prop yX8_prop ∈ gtbl := gtbl_of (List.mem_append_right _ (List.mem_of_getElem? (i := 1060) (by decide +kernel))) rfl
theorem cd_X8_takeProp : Cond.code yX8_takeProp cX8_takeProp 3 (some .int) ∈ gtbl := gtbl_of (List.mem_append_right _ (List.mem_of_getElem? (i := 1078) (by decide +kernel))) rfl
theorem im_X8_takeProp : Cond.instanceMethod yX8_takeProp ∈ gtbl := gtbl_of (List.mem_append_right _ (List.mem_of_getElem? (i := 1076) (by decide +kernel))) rfl
theorem se_X8_takeProp : Cond.selects yX8_takeProp.cls yX8_takeProp yX8_takeProp ∈ gtbl := gtbl_of (List.mem_append_right _ (List.mem_of_getElem? (i := 1077) (by decide +kernel))) rfl
theorem cd_X8_passDays : Cond.code yX8_passDays cX8_passDays 3 (some .int) ∈ gtbl := gtbl_of (List.mem_append_right _ (List.mem_of_getElem? (i := 1090) (by decide +kernel))) rfl
theorem im_X8_passDays : Cond.instanceMethod yX8_passDays ∈ gtbl := gtbl_of (List.mem_append_right _ (List.mem_of_getElem? (i := 1088) (by decide +kernel))) rfl
theorem se_X8_passDays : Cond.selects yX8_passDays.cls yX8_passDays yX8_passDays ∈ gtbl := gtbl_of (List.mem_append_right _ (List.mem_of_getElem? (i := 1089) (by decide +kernel))) rfl
theorem cd_X8_foundAfter : Cond.code yX8_foundAfter cX8_foundAfter 2 (some .int) ∈ gtbl := gtbl_of (List.mem_append_right _ (List.mem_of_getElem? (i := 1196) (by decide +kernel))) rfl
theorem im_X8_foundAfter : Cond.instanceMethod yX8_foundAfter ∈ gtbl := gtbl_of (List.mem_append_right _ (List.mem_of_getElem? (i := 1194) (by decide +kernel))) rfl
theorem se_X8_foundAfter : Cond.selects yX8_foundAfter.cls yX8_foundAfter yX8_foundAfter ∈ gtbl := gtbl_of (List.mem_append_right _ (List.mem_of_getElem? (i := 1195) (by decide +kernel))) rfl
theorem cd_X8_daysUntilFound : Cond.code yX8_daysUntilFound cX8_daysUntilFound 3 (some .int) ∈ gtbl := gtbl_of (List.mem_append_right _ (List.mem_of_getElem? (i := 1203) (by decide +kernel))) rfl
theorem im_X8_daysUntilFound : Cond.instanceMethod yX8_daysUntilFound ∈ gtbl := gtbl_of (List.mem_append_right _ (List.mem_of_getElem? (i := 1201) (by decide +kernel))) rfl
theorem se_X8_daysUntilFound : Cond.selects yX8_daysUntilFound.cls yX8_daysUntilFound yX8_daysUntilFound ∈ gtbl := gtbl_of (List.mem_append_right _ (List.mem_of_getElem? (i := 1202) (by decide +kernel))) rfl
theorem cd_X8_wouldSlide : Cond.code yX8_wouldSlide cX8_wouldSlide 2 (some .int) ∈ gtbl := gtbl_of (List.mem_append_right _ (List.mem_of_getElem? (i := 1210) (by decide +kernel))) rfl
theorem im_X8_wouldSlide : Cond.instanceMethod yX8_wouldSlide ∈ gtbl := gtbl_of (List.mem_append_right _ (List.mem_of_getElem? (i := 1208) (by decide +kernel))) rfl
theorem se_X8_wouldSlide : Cond.selects yX8_wouldSlide.cls yX8_wouldSlide yX8_wouldSlide ∈ gtbl := gtbl_of (List.mem_append_right _ (List.mem_of_getElem? (i := 1209) (by decide +kernel))) rfl
theorem cd_X8_bestDig : Cond.code yX8_bestDig cX8_bestDig 7 (some .int) ∈ gtbl := gtbl_of (List.mem_append_right _ (List.mem_of_getElem? (i := 627) (by decide +kernel))) rfl
theorem im_X8_bestDig : Cond.instanceMethod yX8_bestDig ∈ gtbl := gtbl_of (List.mem_append_right _ (List.mem_of_getElem? (i := 625) (by decide +kernel))) rfl
theorem se_X8_bestDig : Cond.selects yX8_bestDig.cls yX8_bestDig yX8_bestDig ∈ gtbl := gtbl_of (List.mem_append_right _ (List.mem_of_getElem? (i := 626) (by decide +kernel))) rfl
theorem cd_X8_meanYear : Cond.code yX8_meanYear cX8_meanYear 4 (some .double) ∈ gtbl := gtbl_of (List.mem_append_right _ (List.mem_of_getElem? (i := 687) (by decide +kernel))) rfl
theorem im_X8_meanYear : Cond.instanceMethod yX8_meanYear ∈ gtbl := gtbl_of (List.mem_append_right _ (List.mem_of_getElem? (i := 685) (by decide +kernel))) rfl
theorem se_X8_meanYear : Cond.selects yX8_meanYear.cls yX8_meanYear yX8_meanYear ∈ gtbl := gtbl_of (List.mem_append_right _ (List.mem_of_getElem? (i := 686) (by decide +kernel))) rfl
theorem cd_X8_digest : Cond.code yX8_digest cX8_digest 3 (some .long) ∈ gtbl := gtbl_of (List.mem_append_right _ (List.mem_of_getElem? (i := 708) (by decide +kernel))) rfl
theorem im_X8_digest : Cond.instanceMethod yX8_digest ∈ gtbl := gtbl_of (List.mem_append_right _ (List.mem_of_getElem? (i := 706) (by decide +kernel))) rfl
theorem se_X8_digest : Cond.selects yX8_digest.cls yX8_digest yX8_digest ∈ gtbl := gtbl_of (List.mem_append_right _ (List.mem_of_getElem? (i := 707) (by decide +kernel))) rfl
theorem cd_X8_digestSeats : Cond.code yX8_digestSeats cX8_digestSeats 6 (some .long) ∈ gtbl := gtbl_of (List.mem_append_right _ (List.mem_of_getElem? (i := 715) (by decide +kernel))) rfl
theorem im_X8_digestSeats : Cond.instanceMethod yX8_digestSeats ∈ gtbl := gtbl_of (List.mem_append_right _ (List.mem_of_getElem? (i := 714) (by decide +kernel))) rfl
theorem se_X8_digestSeats : Cond.selects yX8_digestSeats.cls yX8_digestSeats yX8_digestSeats ∈ gtbl := gtbl_of (List.mem_append_left _ (List.mem_of_getElem? (i := 36) (by decide +kernel))) rfl
theorem cd_X8_digestFinds : Cond.code yX8_digestFinds cX8_digestFinds 6 (some .long) ∈ gtbl := gtbl_of (List.mem_append_right _ (List.mem_of_getElem? (i := 725) (by decide +kernel))) rfl
theorem im_X8_digestFinds : Cond.instanceMethod yX8_digestFinds ∈ gtbl := gtbl_of (List.mem_append_right _ (List.mem_of_getElem? (i := 724) (by decide +kernel))) rfl
theorem se_X8_digestFinds : Cond.selects yX8_digestFinds.cls yX8_digestFinds yX8_digestFinds ∈ gtbl := gtbl_of (List.mem_append_left _ (List.mem_of_getElem? (i := 37) (by decide +kernel))) rfl
theorem cd_X8_digestStrata : Cond.code yX8_digestStrata cX8_digestStrata 6 (some .long) ∈ gtbl := gtbl_of (List.mem_append_right _ (List.mem_of_getElem? (i := 733) (by decide +kernel))) rfl
theorem im_X8_digestStrata : Cond.instanceMethod yX8_digestStrata ∈ gtbl := gtbl_of (List.mem_append_right _ (List.mem_of_getElem? (i := 732) (by decide +kernel))) rfl
theorem se_X8_digestStrata : Cond.selects yX8_digestStrata.cls yX8_digestStrata yX8_digestStrata ∈ gtbl := gtbl_of (List.mem_append_left _ (List.mem_of_getElem? (i := 38) (by decide +kernel))) rfl
theorem cd_X8_slidesOfDig : Cond.code yX8_slidesOfDig cX8_slidesOfDig 2 (some .int) ∈ gtbl := gtbl_of (List.mem_append_right _ (List.mem_of_getElem? (i := 635) (by decide +kernel))) rfl
theorem im_X8_slidesOfDig : Cond.instanceMethod yX8_slidesOfDig ∈ gtbl := gtbl_of (List.mem_append_right _ (List.mem_of_getElem? (i := 634) (by decide +kernel))) rfl
theorem se_X8_slidesOfDig : Cond.selects yX8_slidesOfDig.cls yX8_slidesOfDig yX8_slidesOfDig ∈ gtbl := gtbl_of (List.mem_append_left _ (List.mem_of_getElem? (i := 29) (by decide +kernel))) rfl
theorem cd_X8_needSeat : Cond.code yX8_needSeat cX8_needSeat 2 none ∈ gtbl := gtbl_of (List.mem_append_right _ (List.mem_of_getElem? (i := 896) (by decide +kernel))) rfl
theorem im_X8_needSeat : Cond.instanceMethod yX8_needSeat ∈ gtbl := gtbl_of (List.mem_append_right _ (List.mem_of_getElem? (i := 895) (by decide +kernel))) rfl
theorem se_X8_needSeat : Cond.selects yX8_needSeat.cls yX8_needSeat yX8_needSeat ∈ gtbl := gtbl_of (List.mem_append_left _ (List.mem_of_getElem? (i := 41) (by decide +kernel))) rfl
theorem cd_X8_needCushion : Cond.code yX8_needCushion cX8_needCushion 2 none ∈ gtbl := gtbl_of (List.mem_append_right _ (List.mem_of_getElem? (i := 930) (by decide +kernel))) rfl
theorem im_X8_needCushion : Cond.instanceMethod yX8_needCushion ∈ gtbl := gtbl_of (List.mem_append_right _ (List.mem_of_getElem? (i := 929) (by decide +kernel))) rfl
theorem se_X8_needCushion : Cond.selects yX8_needCushion.cls yX8_needCushion yX8_needCushion ∈ gtbl := gtbl_of (List.mem_append_left _ (List.mem_of_getElem? (i := 42) (by decide +kernel))) rfl
theorem cd_X8_needFind : Cond.code yX8_needFind cX8_needFind 2 none ∈ gtbl := gtbl_of (List.mem_append_right _ (List.mem_of_getElem? (i := 965) (by decide +kernel))) rfl
theorem im_X8_needFind : Cond.instanceMethod yX8_needFind ∈ gtbl := gtbl_of (List.mem_append_right _ (List.mem_of_getElem? (i := 964) (by decide +kernel))) rfl
theorem se_X8_needFind : Cond.selects yX8_needFind.cls yX8_needFind yX8_needFind ∈ gtbl := gtbl_of (List.mem_append_left _ (List.mem_of_getElem? (i := 43) (by decide +kernel))) rfl
theorem cd_X8_needStratum : Cond.code yX8_needStratum cX8_needStratum 2 none ∈ gtbl := gtbl_of (List.mem_append_right _ (List.mem_of_getElem? (i := 1030) (by decide +kernel))) rfl
theorem im_X8_needStratum : Cond.instanceMethod yX8_needStratum ∈ gtbl := gtbl_of (List.mem_append_right _ (List.mem_of_getElem? (i := 1029) (by decide +kernel))) rfl
theorem se_X8_needStratum : Cond.selects yX8_needStratum.cls yX8_needStratum yX8_needStratum ∈ gtbl := gtbl_of (List.mem_append_left _ (List.mem_of_getElem? (i := 44) (by decide +kernel))) rfl
theorem cd_X8_needDays : Cond.code yX8_needDays cX8_needDays 2 none ∈ gtbl := gtbl_of (List.mem_append_right _ (List.mem_of_getElem? (i := 1094) (by decide +kernel))) rfl
theorem im_X8_needDays : Cond.instanceMethod yX8_needDays ∈ gtbl := gtbl_of (List.mem_append_right _ (List.mem_of_getElem? (i := 1093) (by decide +kernel))) rfl
theorem se_X8_needDays : Cond.selects yX8_needDays.cls yX8_needDays yX8_needDays ∈ gtbl := gtbl_of (List.mem_append_left _ (List.mem_of_getElem? (i := 45) (by decide +kernel))) rfl
theorem cd_X9_init : Cond.code yX9_init cX9_init 2 none ∈ gtbl := gtbl_of (List.mem_append_right _ (List.mem_of_getElem? (i := 1221) (by decide +kernel))) rfl
theorem im_X9_init : Cond.instanceMethod yX9_init ∈ gtbl := gtbl_of (List.mem_append_right _ (List.mem_of_getElem? (i := 1220) (by decide +kernel))) rfl
theorem cd_X10_init : Cond.code yX10_init cX10_init 1 none ∈ gtbl := gtbl_of (List.mem_append_right _ (List.mem_of_getElem? (i := 1215) (by decide +kernel))) rfl
theorem im_X10_init : Cond.instanceMethod yX10_init ∈ gtbl := gtbl_of (List.mem_append_right _ (List.mem_of_getElem? (i := 1214) (by decide +kernel))) rfl
theorem cd_X10_fill : Cond.code yX10_fill cX10_fill 3 none ∈ gtbl := gtbl_of (List.mem_append_right _ (List.mem_of_getElem? (i := 1299) (by decide +kernel))) rfl
theorem im_X10_fill : Cond.instanceMethod yX10_fill ∈ gtbl := gtbl_of (List.mem_append_right _ (List.mem_of_getElem? (i := 1298) (by decide +kernel))) rfl
theorem se_X10_fill : Cond.selects yX10_fill.cls yX10_fill yX10_fill ∈ gtbl := gtbl_of (List.mem_append_left _ (List.mem_of_getElem? (i := 54) (by decide +kernel))) rfl
theorem cd_X10_thrown : Cond.code yX10_thrown cX10_thrown 1 (some .int) ∈ gtbl := gtbl_of (List.mem_append_right _ (List.mem_of_getElem? (i := 1358) (by decide +kernel))) rfl
theorem im_X10_thrown : Cond.instanceMethod yX10_thrown ∈ gtbl := gtbl_of (List.mem_append_right _ (List.mem_of_getElem? (i := 1356) (by decide +kernel))) rfl
theorem se_X10_thrown : Cond.selects yX10_thrown.cls yX10_thrown yX10_thrown ∈ gtbl := gtbl_of (List.mem_append_right _ (List.mem_of_getElem? (i := 1357) (by decide +kernel))) rfl
theorem cd_X10_no : Cond.code yX10_no cX10_no 2 (some .int) ∈ gtbl := gtbl_of (List.mem_append_right _ (List.mem_of_getElem? (i := 1366) (by decide +kernel))) rfl
theorem im_X10_no : Cond.instanceMethod yX10_no ∈ gtbl := gtbl_of (List.mem_append_right _ (List.mem_of_getElem? (i := 1365) (by decide +kernel))) rfl
theorem se_X10_no : Cond.selects yX10_no.cls yX10_no yX10_no ∈ gtbl := gtbl_of (List.mem_append_left _ (List.mem_of_getElem? (i := 55) (by decide +kernel))) rfl
theorem cd_X10_isNot : Cond.code yX10_isNot cX10_isNot 2 (some .boolean) ∈ gtbl := gtbl_of (List.mem_append_right _ (List.mem_of_getElem? (i := 1643) (by decide +kernel))) rfl
theorem im_X10_isNot : Cond.instanceMethod yX10_isNot ∈ gtbl := gtbl_of (List.mem_append_right _ (List.mem_of_getElem? (i := 1642) (by decide +kernel))) rfl
theorem se_X10_isNot : Cond.selects yX10_isNot.cls yX10_isNot yX10_isNot ∈ gtbl := gtbl_of (List.mem_append_left _ (List.mem_of_getElem? (i := 100) (by decide +kernel))) rfl
theorem cd_X10_ok : Cond.code yX10_ok cX10_ok 2 (some .int) ∈ gtbl := gtbl_of (List.mem_append_right _ (List.mem_of_getElem? (i := 1566) (by decide +kernel))) rfl
theorem im_X10_ok : Cond.instanceMethod yX10_ok ∈ gtbl := gtbl_of (List.mem_append_right _ (List.mem_of_getElem? (i := 1565) (by decide +kernel))) rfl
theorem se_X10_ok : Cond.selects yX10_ok.cls yX10_ok yX10_ok ∈ gtbl := gtbl_of (List.mem_append_left _ (List.mem_of_getElem? (i := 95) (by decide +kernel))) rfl
theorem cd_X10_isIn : Cond.code yX10_isIn cX10_isIn 3 (some .boolean) ∈ gtbl := gtbl_of (List.mem_append_right _ (List.mem_of_getElem? (i := 1373) (by decide +kernel))) rfl
theorem st_X10_isIn : Cond.static yX10_isIn ∈ gtbl := gtbl_of (List.mem_append_right _ (List.mem_of_getElem? (i := 1372) (by decide +kernel))) rfl
theorem cd_X10_one : Cond.code yX10_one cX10_one 1 (some .int) ∈ gtbl := gtbl_of (List.mem_append_right _ (List.mem_of_getElem? (i := 1605) (by decide +kernel))) rfl
theorem st_X10_one : Cond.static yX10_one ∈ gtbl := gtbl_of (List.mem_append_right _ (List.mem_of_getElem? (i := 1604) (by decide +kernel))) rfl
theorem cd_X10_isSeat : Cond.code yX10_isSeat cX10_isSeat 2 (some .boolean) ∈ gtbl := gtbl_of (List.mem_append_right _ (List.mem_of_getElem? (i := 1627) (by decide +kernel))) rfl
theorem im_X10_isSeat : Cond.instanceMethod yX10_isSeat ∈ gtbl := gtbl_of (List.mem_append_right _ (List.mem_of_getElem? (i := 1626) (by decide +kernel))) rfl
theorem se_X10_isSeat : Cond.selects yX10_isSeat.cls yX10_isSeat yX10_isSeat ∈ gtbl := gtbl_of (List.mem_append_left _ (List.mem_of_getElem? (i := 97) (by decide +kernel))) rfl
theorem cd_X10_isFind : Cond.code yX10_isFind cX10_isFind 2 (some .boolean) ∈ gtbl := gtbl_of (List.mem_append_right _ (List.mem_of_getElem? (i := 1679) (by decide +kernel))) rfl
theorem im_X10_isFind : Cond.instanceMethod yX10_isFind ∈ gtbl := gtbl_of (List.mem_append_right _ (List.mem_of_getElem? (i := 1678) (by decide +kernel))) rfl
theorem se_X10_isFind : Cond.selects yX10_isFind.cls yX10_isFind yX10_isFind ∈ gtbl := gtbl_of (List.mem_append_left _ (List.mem_of_getElem? (i := 104) (by decide +kernel))) rfl
theorem cd_X10_isStratum : Cond.code yX10_isStratum cX10_isStratum 2 (some .boolean) ∈ gtbl := gtbl_of (List.mem_append_right _ (List.mem_of_getElem? (i := 1727) (by decide +kernel))) rfl
theorem im_X10_isStratum : Cond.instanceMethod yX10_isStratum ∈ gtbl := gtbl_of (List.mem_append_right _ (List.mem_of_getElem? (i := 1726) (by decide +kernel))) rfl
theorem se_X10_isStratum : Cond.selects yX10_isStratum.cls yX10_isStratum yX10_isStratum ∈ gtbl := gtbl_of (List.mem_append_left _ (List.mem_of_getElem? (i := 109) (by decide +kernel))) rfl
theorem cd_X10_keep : Cond.code yX10_keep cX10_keep 1 none ∈ gtbl := gtbl_of (List.mem_append_right _ (List.mem_of_getElem? (i := 1826) (by decide +kernel))) rfl
theorem im_X10_keep : Cond.instanceMethod yX10_keep ∈ gtbl := gtbl_of (List.mem_append_right _ (List.mem_of_getElem? (i := 1825) (by decide +kernel))) rfl
theorem se_X10_keep : Cond.selects yX10_keep.cls yX10_keep yX10_keep ∈ gtbl := gtbl_of (List.mem_append_left _ (List.mem_of_getElem? (i := 124) (by decide +kernel))) rfl
theorem cd_X10_bringBack : Cond.code yX10_bringBack cX10_bringBack 1 none ∈ gtbl := gtbl_of (List.mem_append_right _ (List.mem_of_getElem? (i := 1833) (by decide +kernel))) rfl
theorem im_X10_bringBack : Cond.instanceMethod yX10_bringBack ∈ gtbl := gtbl_of (List.mem_append_right _ (List.mem_of_getElem? (i := 1832) (by decide +kernel))) rfl
theorem se_X10_bringBack : Cond.selects yX10_bringBack.cls yX10_bringBack yX10_bringBack ∈ gtbl := gtbl_of (List.mem_append_left _ (List.mem_of_getElem? (i := 125) (by decide +kernel))) rfl
theorem cd_X10_tall : Cond.code yX10_tall cX10_tall 2 (some .int) ∈ gtbl := gtbl_of (List.mem_append_right _ (List.mem_of_getElem? (i := 1631) (by decide +kernel))) rfl
theorem im_X10_tall : Cond.instanceMethod yX10_tall ∈ gtbl := gtbl_of (List.mem_append_right _ (List.mem_of_getElem? (i := 1630) (by decide +kernel))) rfl
theorem se_X10_tall : Cond.selects yX10_tall.cls yX10_tall yX10_tall ∈ gtbl := gtbl_of (List.mem_append_left _ (List.mem_of_getElem? (i := 98) (by decide +kernel))) rfl
theorem cd_X10_top : Cond.code yX10_top cX10_top 2 (some .int) ∈ gtbl := gtbl_of (List.mem_append_right _ (List.mem_of_getElem? (i := 1655) (by decide +kernel))) rfl
theorem im_X10_top : Cond.instanceMethod yX10_top ∈ gtbl := gtbl_of (List.mem_append_right _ (List.mem_of_getElem? (i := 1654) (by decide +kernel))) rfl
theorem se_X10_top : Cond.selects yX10_top.cls yX10_top yX10_top ∈ gtbl := gtbl_of (List.mem_append_left _ (List.mem_of_getElem? (i := 102) (by decide +kernel))) rfl
theorem cd_X10_hasProp : Cond.code yX10_hasProp cX10_hasProp 2 (some .boolean) ∈ gtbl := gtbl_of (List.mem_append_right _ (List.mem_of_getElem? (i := 1639) (by decide +kernel))) rfl
theorem im_X10_hasProp : Cond.instanceMethod yX10_hasProp ∈ gtbl := gtbl_of (List.mem_append_right _ (List.mem_of_getElem? (i := 1638) (by decide +kernel))) rfl
theorem se_X10_hasProp : Cond.selects yX10_hasProp.cls yX10_hasProp yX10_hasProp ∈ gtbl := gtbl_of (List.mem_append_left _ (List.mem_of_getElem? (i := 99) (by decide +kernel))) rfl
theorem cd_X10_canSlide : Cond.code yX10_canSlide cX10_canSlide 3 (some .boolean) ∈ gtbl := gtbl_of (List.mem_append_right _ (List.mem_of_getElem? (i := 1768) (by decide +kernel))) rfl
theorem im_X10_canSlide : Cond.instanceMethod yX10_canSlide ∈ gtbl := gtbl_of (List.mem_append_right _ (List.mem_of_getElem? (i := 1767) (by decide +kernel))) rfl
theorem se_X10_canSlide : Cond.selects yX10_canSlide.cls yX10_canSlide yX10_canSlide ∈ gtbl := gtbl_of (List.mem_append_left _ (List.mem_of_getElem? (i := 116) (by decide +kernel))) rfl
theorem cd_X10_next : Cond.code yX10_next cX10_next 2 (some .int) ∈ gtbl := gtbl_of (List.mem_append_right _ (List.mem_of_getElem? (i := 1764) (by decide +kernel))) rfl
theorem im_X10_next : Cond.instanceMethod yX10_next ∈ gtbl := gtbl_of (List.mem_append_right _ (List.mem_of_getElem? (i := 1763) (by decide +kernel))) rfl
theorem se_X10_next : Cond.selects yX10_next.cls yX10_next yX10_next ∈ gtbl := gtbl_of (List.mem_append_left _ (List.mem_of_getElem? (i := 115) (by decide +kernel))) rfl
theorem cd_X10_settle : Cond.code yX10_settle cX10_settle 5 (some .int) ∈ gtbl := gtbl_of (List.mem_append_right _ (List.mem_of_getElem? (i := 1760) (by decide +kernel))) rfl
theorem im_X10_settle : Cond.instanceMethod yX10_settle ∈ gtbl := gtbl_of (List.mem_append_right _ (List.mem_of_getElem? (i := 1759) (by decide +kernel))) rfl
theorem se_X10_settle : Cond.selects yX10_settle.cls yX10_settle yX10_settle ∈ gtbl := gtbl_of (List.mem_append_left _ (List.mem_of_getElem? (i := 114) (by decide +kernel))) rfl
theorem cd_X10_digs : Cond.code yX10_digs cX10_digs 4 (some .int) ∈ gtbl := gtbl_of (List.mem_append_right _ (List.mem_of_getElem? (i := 1756) (by decide +kernel))) rfl
theorem im_X10_digs : Cond.instanceMethod yX10_digs ∈ gtbl := gtbl_of (List.mem_append_right _ (List.mem_of_getElem? (i := 1755) (by decide +kernel))) rfl
theorem se_X10_digs : Cond.selects yX10_digs.cls yX10_digs yX10_digs ∈ gtbl := gtbl_of (List.mem_append_left _ (List.mem_of_getElem? (i := 113) (by decide +kernel))) rfl
theorem cd_X10_left : Cond.code yX10_left cX10_left 4 (some .int) ∈ gtbl := gtbl_of (List.mem_append_right _ (List.mem_of_getElem? (i := 1671) (by decide +kernel))) rfl
theorem im_X10_left : Cond.instanceMethod yX10_left ∈ gtbl := gtbl_of (List.mem_append_right _ (List.mem_of_getElem? (i := 1670) (by decide +kernel))) rfl
theorem se_X10_left : Cond.selects yX10_left.cls yX10_left yX10_left ∈ gtbl := gtbl_of (List.mem_append_left _ (List.mem_of_getElem? (i := 103) (by decide +kernel))) rfl
theorem cd_X10_buried : Cond.code yX10_buried cX10_buried 4 (some .int) ∈ gtbl := gtbl_of (List.mem_append_right _ (List.mem_of_getElem? (i := 1719) (by decide +kernel))) rfl
theorem im_X10_buried : Cond.instanceMethod yX10_buried ∈ gtbl := gtbl_of (List.mem_append_right _ (List.mem_of_getElem? (i := 1718) (by decide +kernel))) rfl
theorem se_X10_buried : Cond.selects yX10_buried.cls yX10_buried yX10_buried ∈ gtbl := gtbl_of (List.mem_append_left _ (List.mem_of_getElem? (i := 108) (by decide +kernel))) rfl
theorem cd_X10_foundNow : Cond.code yX10_foundNow cX10_foundNow 4 (some .int) ∈ gtbl := gtbl_of (List.mem_append_right _ (List.mem_of_getElem? (i := 1602) (by decide +kernel))) rfl
theorem im_X10_foundNow : Cond.instanceMethod yX10_foundNow ∈ gtbl := gtbl_of (List.mem_append_right _ (List.mem_of_getElem? (i := 1601) (by decide +kernel))) rfl
theorem se_X10_foundNow : Cond.selects yX10_foundNow.cls yX10_foundNow yX10_foundNow ∈ gtbl := gtbl_of (List.mem_append_left _ (List.mem_of_getElem? (i := 96) (by decide +kernel))) rfl
theorem cd_X10_sure : Cond.code yX10_sure cX10_sure 2 (some .boolean) ∈ gtbl := gtbl_of (List.mem_append_right _ (List.mem_of_getElem? (i := 1691) (by decide +kernel))) rfl
theorem im_X10_sure : Cond.instanceMethod yX10_sure ∈ gtbl := gtbl_of (List.mem_append_right _ (List.mem_of_getElem? (i := 1690) (by decide +kernel))) rfl
theorem se_X10_sure : Cond.selects yX10_sure.cls yX10_sure yX10_sure ∈ gtbl := gtbl_of (List.mem_append_left _ (List.mem_of_getElem? (i := 105) (by decide +kernel))) rfl
theorem cd_X10_stratum : Cond.code yX10_stratum cX10_stratum 2 (some .int) ∈ gtbl := gtbl_of (List.mem_append_right _ (List.mem_of_getElem? (i := 1699) (by decide +kernel))) rfl
theorem im_X10_stratum : Cond.instanceMethod yX10_stratum ∈ gtbl := gtbl_of (List.mem_append_right _ (List.mem_of_getElem? (i := 1698) (by decide +kernel))) rfl
theorem se_X10_stratum : Cond.selects yX10_stratum.cls yX10_stratum yX10_stratum ∈ gtbl := gtbl_of (List.mem_append_left _ (List.mem_of_getElem? (i := 106) (by decide +kernel))) rfl
theorem cd_X10_notBeforeNow : Cond.code yX10_notBeforeNow cX10_notBeforeNow 4 (some .int) ∈ gtbl := gtbl_of (List.mem_append_right _ (List.mem_of_getElem? (i := 1731) (by decide +kernel))) rfl
theorem im_X10_notBeforeNow : Cond.instanceMethod yX10_notBeforeNow ∈ gtbl := gtbl_of (List.mem_append_right _ (List.mem_of_getElem? (i := 1730) (by decide +kernel))) rfl
theorem se_X10_notBeforeNow : Cond.selects yX10_notBeforeNow.cls yX10_notBeforeNow yX10_notBeforeNow ∈ gtbl := gtbl_of (List.mem_append_left _ (List.mem_of_getElem? (i := 110) (by decide +kernel))) rfl
theorem cd_X10_seenIn : Cond.code yX10_seenIn cX10_seenIn 4 (some .boolean) ∈ gtbl := gtbl_of (List.mem_append_right _ (List.mem_of_getElem? (i := 1740) (by decide +kernel))) rfl
theorem im_X10_seenIn : Cond.instanceMethod yX10_seenIn ∈ gtbl := gtbl_of (List.mem_append_right _ (List.mem_of_getElem? (i := 1739) (by decide +kernel))) rfl
theorem se_X10_seenIn : Cond.selects yX10_seenIn.cls yX10_seenIn yX10_seenIn ∈ gtbl := gtbl_of (List.mem_append_left _ (List.mem_of_getElem? (i := 111) (by decide +kernel))) rfl
theorem cd_X10_seen : Cond.code yX10_seen cX10_seen 3 (some .boolean) ∈ gtbl := gtbl_of (List.mem_append_right _ (List.mem_of_getElem? (i := 1807) (by decide +kernel))) rfl
theorem im_X10_seen : Cond.instanceMethod yX10_seen ∈ gtbl := gtbl_of (List.mem_append_right _ (List.mem_of_getElem? (i := 1806) (by decide +kernel))) rfl
theorem se_X10_seen : Cond.selects yX10_seen.cls yX10_seen yX10_seen ∈ gtbl := gtbl_of (List.mem_append_left _ (List.mem_of_getElem? (i := 122) (by decide +kernel))) rfl
theorem cd_X10_mixed : Cond.code yX10_mixed cX10_mixed 4 (some .boolean) ∈ gtbl := gtbl_of (List.mem_append_right _ (List.mem_of_getElem? (i := 1748) (by decide +kernel))) rfl
theorem im_X10_mixed : Cond.instanceMethod yX10_mixed ∈ gtbl := gtbl_of (List.mem_append_right _ (List.mem_of_getElem? (i := 1747) (by decide +kernel))) rfl
theorem se_X10_mixed : Cond.selects yX10_mixed.cls yX10_mixed yX10_mixed ∈ gtbl := gtbl_of (List.mem_append_left _ (List.mem_of_getElem? (i := 112) (by decide +kernel))) rfl
theorem cd_X10_isPropped3 : Cond.code yX10_isPropped3 cX10_isPropped3 1 (some .boolean) ∈ gtbl := gtbl_of (List.mem_append_right _ (List.mem_of_getElem? (i := 1776) (by decide +kernel))) rfl
theorem im_X10_isPropped3 : Cond.instanceMethod yX10_isPropped3 ∈ gtbl := gtbl_of (List.mem_append_right _ (List.mem_of_getElem? (i := 1775) (by decide +kernel))) rfl
theorem se_X10_isPropped3 : Cond.selects yX10_isPropped3.cls yX10_isPropped3 yX10_isPropped3 ∈ gtbl := gtbl_of (List.mem_append_left _ (List.mem_of_getElem? (i := 117) (by decide +kernel))) rfl
theorem cd_X10_isCarriedOut : Cond.code yX10_isCarriedOut cX10_isCarriedOut 3 (some .boolean) ∈ gtbl := gtbl_of (List.mem_append_right _ (List.mem_of_getElem? (i := 1792) (by decide +kernel))) rfl
theorem im_X10_isCarriedOut : Cond.instanceMethod yX10_isCarriedOut ∈ gtbl := gtbl_of (List.mem_append_right _ (List.mem_of_getElem? (i := 1791) (by decide +kernel))) rfl
theorem se_X10_isCarriedOut : Cond.selects yX10_isCarriedOut.cls yX10_isCarriedOut yX10_isCarriedOut ∈ gtbl := gtbl_of (List.mem_append_left _ (List.mem_of_getElem? (i := 119) (by decide +kernel))) rfl
theorem cd_X10_go : Cond.code yX10_go cX10_go 5 (some .int) ∈ gtbl := gtbl_of (List.mem_append_right _ (List.mem_of_getElem? (i := 1788) (by decide +kernel))) rfl
theorem im_X10_go : Cond.instanceMethod yX10_go ∈ gtbl := gtbl_of (List.mem_append_right _ (List.mem_of_getElem? (i := 1787) (by decide +kernel))) rfl
theorem se_X10_go : Cond.selects yX10_go.cls yX10_go yX10_go ∈ gtbl := gtbl_of (List.mem_append_left _ (List.mem_of_getElem? (i := 118) (by decide +kernel))) rfl
theorem cd_X10_ask : Cond.code yX10_ask cX10_ask 3 (some .int) ∈ gtbl := gtbl_of (List.mem_append_right _ (List.mem_of_getElem? (i := 1803) (by decide +kernel))) rfl
theorem im_X10_ask : Cond.instanceMethod yX10_ask ∈ gtbl := gtbl_of (List.mem_append_right _ (List.mem_of_getElem? (i := 1802) (by decide +kernel))) rfl
theorem se_X10_ask : Cond.selects yX10_ask.cls yX10_ask yX10_ask ∈ gtbl := gtbl_of (List.mem_append_left _ (List.mem_of_getElem? (i := 121) (by decide +kernel))) rfl
theorem cd_X10_isAsked : Cond.code yX10_isAsked cX10_isAsked 1 (some .boolean) ∈ gtbl := gtbl_of (List.mem_append_right _ (List.mem_of_getElem? (i := 1799) (by decide +kernel))) rfl
theorem st_X10_isAsked : Cond.static yX10_isAsked ∈ gtbl := gtbl_of (List.mem_append_right _ (List.mem_of_getElem? (i := 1798) (by decide +kernel))) rfl
theorem cd_X10_turned : Cond.code yX10_turned cX10_turned 3 (some .int) ∈ gtbl := gtbl_of (List.mem_append_right _ (List.mem_of_getElem? (i := 1814) (by decide +kernel))) rfl
theorem im_X10_turned : Cond.instanceMethod yX10_turned ∈ gtbl := gtbl_of (List.mem_append_right _ (List.mem_of_getElem? (i := 1813) (by decide +kernel))) rfl
theorem se_X10_turned : Cond.selects yX10_turned.cls yX10_turned yX10_turned ∈ gtbl := gtbl_of (List.mem_append_left _ (List.mem_of_getElem? (i := 123) (by decide +kernel))) rfl
theorem cd_X10_isOfOneNow : Cond.code yX10_isOfOneNow cX10_isOfOneNow 1 (some .boolean) ∈ gtbl := gtbl_of (List.mem_append_right _ (List.mem_of_getElem? (i := 1810) (by decide +kernel))) rfl
theorem st_X10_isOfOneNow : Cond.static yX10_isOfOneNow ∈ gtbl := gtbl_of (List.mem_append_right _ (List.mem_of_getElem? (i := 1809) (by decide +kernel))) rfl
theorem cd_X10_reckon : Cond.code yX10_reckon cX10_reckon 3 (some .int) ∈ gtbl := gtbl_of (List.mem_append_right _ (List.mem_of_getElem? (i := 1818) (by decide +kernel))) rfl
theorem st_X10_reckon : Cond.static yX10_reckon ∈ gtbl := gtbl_of (List.mem_append_right _ (List.mem_of_getElem? (i := 1817) (by decide +kernel))) rfl
theorem cd_X10_reckonPart : Cond.code yX10_reckonPart cX10_reckonPart 5 (some .int) ∈ gtbl := gtbl_of (List.mem_append_right _ (List.mem_of_getElem? (i := 1796) (by decide +kernel))) rfl
theorem im_X10_reckonPart : Cond.instanceMethod yX10_reckonPart ∈ gtbl := gtbl_of (List.mem_append_right _ (List.mem_of_getElem? (i := 1795) (by decide +kernel))) rfl
theorem se_X10_reckonPart : Cond.selects yX10_reckonPart.cls yX10_reckonPart yX10_reckonPart ∈ gtbl := gtbl_of (List.mem_append_left _ (List.mem_of_getElem? (i := 120) (by decide +kernel))) rfl
theorem cd_X10_byteOf : Cond.code yX10_byteOf cX10_byteOf 2 (some .int) ∈ gtbl := gtbl_of (List.mem_append_right _ (List.mem_of_getElem? (i := 1389) (by decide +kernel))) rfl
theorem im_X10_byteOf : Cond.instanceMethod yX10_byteOf ∈ gtbl := gtbl_of (List.mem_append_right _ (List.mem_of_getElem? (i := 1388) (by decide +kernel))) rfl
theorem se_X10_byteOf : Cond.selects yX10_byteOf.cls yX10_byteOf yX10_byteOf ∈ gtbl := gtbl_of (List.mem_append_left _ (List.mem_of_getElem? (i := 58) (by decide +kernel))) rfl
theorem cd_X10_isSmall : Cond.code yX10_isSmall cX10_isSmall 1 (some .boolean) ∈ gtbl := gtbl_of (List.mem_append_right _ (List.mem_of_getElem? (i := 1396) (by decide +kernel))) rfl
theorem st_X10_isSmall : Cond.static yX10_isSmall ∈ gtbl := gtbl_of (List.mem_append_right _ (List.mem_of_getElem? (i := 1395) (by decide +kernel))) rfl
theorem cd_X10_isDigit : Cond.code yX10_isDigit cX10_isDigit 1 (some .boolean) ∈ gtbl := gtbl_of (List.mem_append_right _ (List.mem_of_getElem? (i := 1399) (by decide +kernel))) rfl
theorem st_X10_isDigit : Cond.static yX10_isDigit ∈ gtbl := gtbl_of (List.mem_append_right _ (List.mem_of_getElem? (i := 1398) (by decide +kernel))) rfl
theorem cd_X10_endOf : Cond.code yX10_endOf cX10_endOf 4 (some .int) ∈ gtbl := gtbl_of (List.mem_append_right _ (List.mem_of_getElem? (i := 1393) (by decide +kernel))) rfl
theorem im_X10_endOf : Cond.instanceMethod yX10_endOf ∈ gtbl := gtbl_of (List.mem_append_right _ (List.mem_of_getElem? (i := 1392) (by decide +kernel))) rfl
theorem se_X10_endOf : Cond.selects yX10_endOf.cls yX10_endOf yX10_endOf ∈ gtbl := gtbl_of (List.mem_append_left _ (List.mem_of_getElem? (i := 59) (by decide +kernel))) rfl
theorem cd_X10_kindOf : Cond.code yX10_kindOf cX10_kindOf 5 (some .int) ∈ gtbl := gtbl_of (List.mem_append_right _ (List.mem_of_getElem? (i := 1403) (by decide +kernel))) rfl
theorem im_X10_kindOf : Cond.instanceMethod yX10_kindOf ∈ gtbl := gtbl_of (List.mem_append_right _ (List.mem_of_getElem? (i := 1402) (by decide +kernel))) rfl
theorem se_X10_kindOf : Cond.selects yX10_kindOf.cls yX10_kindOf yX10_kindOf ∈ gtbl := gtbl_of (List.mem_append_left _ (List.mem_of_getElem? (i := 60) (by decide +kernel))) rfl
theorem cd_X10_numberAt : Cond.code yX10_numberAt cX10_numberAt 6 (some .int) ∈ gtbl := gtbl_of (List.mem_append_right _ (List.mem_of_getElem? (i := 1407) (by decide +kernel))) rfl
theorem im_X10_numberAt : Cond.instanceMethod yX10_numberAt ∈ gtbl := gtbl_of (List.mem_append_right _ (List.mem_of_getElem? (i := 1406) (by decide +kernel))) rfl
theorem se_X10_numberAt : Cond.selects yX10_numberAt.cls yX10_numberAt yX10_numberAt ∈ gtbl := gtbl_of (List.mem_append_left _ (List.mem_of_getElem? (i := 61) (by decide +kernel))) rfl
theorem cd_X10_letter : Cond.code yX10_letter cX10_letter 1 (some .int) ∈ gtbl := gtbl_of (List.mem_append_right _ (List.mem_of_getElem? (i := 1415) (by decide +kernel))) rfl
theorem st_X10_letter : Cond.static yX10_letter ∈ gtbl := gtbl_of (List.mem_append_right _ (List.mem_of_getElem? (i := 1414) (by decide +kernel))) rfl
theorem cd_X10_nameOf : Cond.code yX10_nameOf cX10_nameOf 4 (some .long) ∈ gtbl := gtbl_of (List.mem_append_right _ (List.mem_of_getElem? (i := 1420) (by decide +kernel))) rfl
theorem st_X10_nameOf : Cond.static yX10_nameOf ∈ gtbl := gtbl_of (List.mem_append_right _ (List.mem_of_getElem? (i := 1419) (by decide +kernel))) rfl
theorem cd_X10_wordAt : Cond.code yX10_wordAt cX10_wordAt 7 (some .int) ∈ gtbl := gtbl_of (List.mem_append_right _ (List.mem_of_getElem? (i := 1411) (by decide +kernel))) rfl
theorem im_X10_wordAt : Cond.instanceMethod yX10_wordAt ∈ gtbl := gtbl_of (List.mem_append_right _ (List.mem_of_getElem? (i := 1410) (by decide +kernel))) rfl
theorem se_X10_wordAt : Cond.selects yX10_wordAt.cls yX10_wordAt yX10_wordAt ∈ gtbl := gtbl_of (List.mem_append_left _ (List.mem_of_getElem? (i := 62) (by decide +kernel))) rfl
theorem cd_X10_cutIntoTokens : Cond.code yX10_cutIntoTokens cX10_cutIntoTokens 4 none ∈ gtbl := gtbl_of (List.mem_append_right _ (List.mem_of_getElem? (i := 1385) (by decide +kernel))) rfl
theorem im_X10_cutIntoTokens : Cond.instanceMethod yX10_cutIntoTokens ∈ gtbl := gtbl_of (List.mem_append_right _ (List.mem_of_getElem? (i := 1384) (by decide +kernel))) rfl
theorem se_X10_cutIntoTokens : Cond.selects yX10_cutIntoTokens.cls yX10_cutIntoTokens yX10_cutIntoTokens ∈ gtbl := gtbl_of (List.mem_append_left _ (List.mem_of_getElem? (i := 57) (by decide +kernel))) rfl
theorem cd_X10_eat : Cond.code yX10_eat cX10_eat 2 (some .boolean) ∈ gtbl := gtbl_of (List.mem_append_right _ (List.mem_of_getElem? (i := 1430) (by decide +kernel))) rfl
theorem im_X10_eat : Cond.instanceMethod yX10_eat ∈ gtbl := gtbl_of (List.mem_append_right _ (List.mem_of_getElem? (i := 1429) (by decide +kernel))) rfl
theorem se_X10_eat : Cond.selects yX10_eat.cls yX10_eat yX10_eat ∈ gtbl := gtbl_of (List.mem_append_left _ (List.mem_of_getElem? (i := 64) (by decide +kernel))) rfl
theorem cd_X10_eatAs : Cond.code yX10_eatAs cX10_eatAs 3 (some .boolean) ∈ gtbl := gtbl_of (List.mem_append_right _ (List.mem_of_getElem? (i := 1434) (by decide +kernel))) rfl
theorem im_X10_eatAs : Cond.instanceMethod yX10_eatAs ∈ gtbl := gtbl_of (List.mem_append_right _ (List.mem_of_getElem? (i := 1433) (by decide +kernel))) rfl
theorem se_X10_eatAs : Cond.selects yX10_eatAs.cls yX10_eatAs yX10_eatAs ∈ gtbl := gtbl_of (List.mem_append_left _ (List.mem_of_getElem? (i := 65) (by decide +kernel))) rfl
theorem cd_X10_deeper : Cond.code yX10_deeper cX10_deeper 2 (some .boolean) ∈ gtbl := gtbl_of (List.mem_append_right _ (List.mem_of_getElem? (i := 1463) (by decide +kernel))) rfl
theorem im_X10_deeper : Cond.instanceMethod yX10_deeper ∈ gtbl := gtbl_of (List.mem_append_right _ (List.mem_of_getElem? (i := 1462) (by decide +kernel))) rfl
theorem se_X10_deeper : Cond.selects yX10_deeper.cls yX10_deeper yX10_deeper ∈ gtbl := gtbl_of (List.mem_append_left _ (List.mem_of_getElem? (i := 72) (by decide +kernel))) rfl
theorem cd_X10_closes : Cond.code yX10_closes cX10_closes 2 (some .boolean) ∈ gtbl := gtbl_of (List.mem_append_right _ (List.mem_of_getElem? (i := 1471) (by decide +kernel))) rfl
theorem im_X10_closes : Cond.instanceMethod yX10_closes ∈ gtbl := gtbl_of (List.mem_append_right _ (List.mem_of_getElem? (i := 1470) (by decide +kernel))) rfl
theorem se_X10_closes : Cond.selects yX10_closes.cls yX10_closes yX10_closes ∈ gtbl := gtbl_of (List.mem_append_left _ (List.mem_of_getElem? (i := 74) (by decide +kernel))) rfl
theorem cd_X10_put : Cond.code yX10_put cX10_put 4 none ∈ gtbl := gtbl_of (List.mem_append_right _ (List.mem_of_getElem? (i := 1467) (by decide +kernel))) rfl
theorem im_X10_put : Cond.instanceMethod yX10_put ∈ gtbl := gtbl_of (List.mem_append_right _ (List.mem_of_getElem? (i := 1466) (by decide +kernel))) rfl
theorem se_X10_put : Cond.selects yX10_put.cls yX10_put yX10_put ∈ gtbl := gtbl_of (List.mem_append_left _ (List.mem_of_getElem? (i := 73) (by decide +kernel))) rfl
theorem cd_X10_isAbout : Cond.code yX10_isAbout cX10_isAbout 3 (some .boolean) ∈ gtbl := gtbl_of (List.mem_append_right _ (List.mem_of_getElem? (i := 1475) (by decide +kernel))) rfl
theorem im_X10_isAbout : Cond.instanceMethod yX10_isAbout ∈ gtbl := gtbl_of (List.mem_append_right _ (List.mem_of_getElem? (i := 1474) (by decide +kernel))) rfl
theorem se_X10_isAbout : Cond.selects yX10_isAbout.cls yX10_isAbout yX10_isAbout ∈ gtbl := gtbl_of (List.mem_append_left _ (List.mem_of_getElem? (i := 75) (by decide +kernel))) rfl
theorem cd_X10_isOfOne : Cond.code yX10_isOfOne cX10_isOfOne 3 (some .boolean) ∈ gtbl := gtbl_of (List.mem_append_right _ (List.mem_of_getElem? (i := 1479) (by decide +kernel))) rfl
theorem im_X10_isOfOne : Cond.instanceMethod yX10_isOfOne ∈ gtbl := gtbl_of (List.mem_append_right _ (List.mem_of_getElem? (i := 1478) (by decide +kernel))) rfl
theorem se_X10_isOfOne : Cond.selects yX10_isOfOne.cls yX10_isOfOne yX10_isOfOne ∈ gtbl := gtbl_of (List.mem_append_left _ (List.mem_of_getElem? (i := 76) (by decide +kernel))) rfl
theorem cd_X10_isTest : Cond.code yX10_isTest cX10_isTest 2 (some .boolean) ∈ gtbl := gtbl_of (List.mem_append_right _ (List.mem_of_getElem? (i := 1451) (by decide +kernel))) rfl
theorem im_X10_isTest : Cond.instanceMethod yX10_isTest ∈ gtbl := gtbl_of (List.mem_append_right _ (List.mem_of_getElem? (i := 1450) (by decide +kernel))) rfl
theorem se_X10_isTest : Cond.selects yX10_isTest.cls yX10_isTest yX10_isTest ∈ gtbl := gtbl_of (List.mem_append_left _ (List.mem_of_getElem? (i := 69) (by decide +kernel))) rfl
theorem cd_X10_isBoth : Cond.code yX10_isBoth cX10_isBoth 2 (some .boolean) ∈ gtbl := gtbl_of (List.mem_append_right _ (List.mem_of_getElem? (i := 1455) (by decide +kernel))) rfl
theorem im_X10_isBoth : Cond.instanceMethod yX10_isBoth ∈ gtbl := gtbl_of (List.mem_append_right _ (List.mem_of_getElem? (i := 1454) (by decide +kernel))) rfl
theorem se_X10_isBoth : Cond.selects yX10_isBoth.cls yX10_isBoth yX10_isBoth ∈ gtbl := gtbl_of (List.mem_append_left _ (List.mem_of_getElem? (i := 70) (by decide +kernel))) rfl
theorem cd_X10_isSingle : Cond.code yX10_isSingle cX10_isSingle 3 (some .boolean) ∈ gtbl := gtbl_of (List.mem_append_right _ (List.mem_of_getElem? (i := 1459) (by decide +kernel))) rfl
theorem im_X10_isSingle : Cond.instanceMethod yX10_isSingle ∈ gtbl := gtbl_of (List.mem_append_right _ (List.mem_of_getElem? (i := 1458) (by decide +kernel))) rfl
theorem se_X10_isSingle : Cond.selects yX10_isSingle.cls yX10_isSingle yX10_isSingle ∈ gtbl := gtbl_of (List.mem_append_left _ (List.mem_of_getElem? (i := 71) (by decide +kernel))) rfl
theorem cd_X10_isCompare : Cond.code yX10_isCompare cX10_isCompare 4 (some .boolean) ∈ gtbl := gtbl_of (List.mem_append_right _ (List.mem_of_getElem? (i := 1499) (by decide +kernel))) rfl
theorem im_X10_isCompare : Cond.instanceMethod yX10_isCompare ∈ gtbl := gtbl_of (List.mem_append_right _ (List.mem_of_getElem? (i := 1498) (by decide +kernel))) rfl
theorem se_X10_isCompare : Cond.selects yX10_isCompare.cls yX10_isCompare yX10_isCompare ∈ gtbl := gtbl_of (List.mem_append_left _ (List.mem_of_getElem? (i := 81) (by decide +kernel))) rfl
theorem cd_X10_isSum : Cond.code yX10_isSum cX10_isSum 3 (some .boolean) ∈ gtbl := gtbl_of (List.mem_append_right _ (List.mem_of_getElem? (i := 1483) (by decide +kernel))) rfl
theorem im_X10_isSum : Cond.instanceMethod yX10_isSum ∈ gtbl := gtbl_of (List.mem_append_right _ (List.mem_of_getElem? (i := 1482) (by decide +kernel))) rfl
theorem se_X10_isSum : Cond.selects yX10_isSum.cls yX10_isSum yX10_isSum ∈ gtbl := gtbl_of (List.mem_append_left _ (List.mem_of_getElem? (i := 77) (by decide +kernel))) rfl
theorem cd_X10_isProduct : Cond.code yX10_isProduct cX10_isProduct 3 (some .boolean) ∈ gtbl := gtbl_of (List.mem_append_right _ (List.mem_of_getElem? (i := 1487) (by decide +kernel))) rfl
theorem im_X10_isProduct : Cond.instanceMethod yX10_isProduct ∈ gtbl := gtbl_of (List.mem_append_right _ (List.mem_of_getElem? (i := 1486) (by decide +kernel))) rfl
theorem se_X10_isProduct : Cond.selects yX10_isProduct.cls yX10_isProduct yX10_isProduct ∈ gtbl := gtbl_of (List.mem_append_left _ (List.mem_of_getElem? (i := 78) (by decide +kernel))) rfl
theorem cd_X10_isValue : Cond.code yX10_isValue cX10_isValue 3 (some .boolean) ∈ gtbl := gtbl_of (List.mem_append_right _ (List.mem_of_getElem? (i := 1491) (by decide +kernel))) rfl
theorem im_X10_isValue : Cond.instanceMethod yX10_isValue ∈ gtbl := gtbl_of (List.mem_append_right _ (List.mem_of_getElem? (i := 1490) (by decide +kernel))) rfl
theorem se_X10_isValue : Cond.selects yX10_isValue.cls yX10_isValue yX10_isValue ∈ gtbl := gtbl_of (List.mem_append_left _ (List.mem_of_getElem? (i := 79) (by decide +kernel))) rfl
theorem cd_X10_isOfTwo : Cond.code yX10_isOfTwo cX10_isOfTwo 3 (some .boolean) ∈ gtbl := gtbl_of (List.mem_append_right _ (List.mem_of_getElem? (i := 1495) (by decide +kernel))) rfl
theorem im_X10_isOfTwo : Cond.instanceMethod yX10_isOfTwo ∈ gtbl := gtbl_of (List.mem_append_right _ (List.mem_of_getElem? (i := 1494) (by decide +kernel))) rfl
theorem se_X10_isOfTwo : Cond.selects yX10_isOfTwo.cls yX10_isOfTwo yX10_isOfTwo ∈ gtbl := gtbl_of (List.mem_append_left _ (List.mem_of_getElem? (i := 80) (by decide +kernel))) rfl
theorem cd_X10_isPart : Cond.code yX10_isPart cX10_isPart 4 (some .boolean) ∈ gtbl := gtbl_of (List.mem_append_right _ (List.mem_of_getElem? (i := 1447) (by decide +kernel))) rfl
theorem im_X10_isPart : Cond.instanceMethod yX10_isPart ∈ gtbl := gtbl_of (List.mem_append_right _ (List.mem_of_getElem? (i := 1446) (by decide +kernel))) rfl
theorem se_X10_isPart : Cond.selects yX10_isPart.cls yX10_isPart yX10_isPart ∈ gtbl := gtbl_of (List.mem_append_left _ (List.mem_of_getElem? (i := 68) (by decide +kernel))) rfl
theorem cd_X10_isOrder : Cond.code yX10_isOrder cX10_isOrder 3 (some .boolean) ∈ gtbl := gtbl_of (List.mem_append_right _ (List.mem_of_getElem? (i := 1442) (by decide +kernel))) rfl
theorem im_X10_isOrder : Cond.instanceMethod yX10_isOrder ∈ gtbl := gtbl_of (List.mem_append_right _ (List.mem_of_getElem? (i := 1441) (by decide +kernel))) rfl
theorem se_X10_isOrder : Cond.selects yX10_isOrder.cls yX10_isOrder yX10_isOrder ∈ gtbl := gtbl_of (List.mem_append_left _ (List.mem_of_getElem? (i := 67) (by decide +kernel))) rfl
theorem cd_X10_isPlace : Cond.code yX10_isPlace cX10_isPlace 1 (some .boolean) ∈ gtbl := gtbl_of (List.mem_append_right _ (List.mem_of_getElem? (i := 1503) (by decide +kernel))) rfl
theorem im_X10_isPlace : Cond.instanceMethod yX10_isPlace ∈ gtbl := gtbl_of (List.mem_append_right _ (List.mem_of_getElem? (i := 1502) (by decide +kernel))) rfl
theorem se_X10_isPlace : Cond.selects yX10_isPlace.cls yX10_isPlace yX10_isPlace ∈ gtbl := gtbl_of (List.mem_append_left _ (List.mem_of_getElem? (i := 82) (by decide +kernel))) rfl
theorem cd_X10_isLine : Cond.code yX10_isLine cX10_isLine 3 (some .boolean) ∈ gtbl := gtbl_of (List.mem_append_right _ (List.mem_of_getElem? (i := 1438) (by decide +kernel))) rfl
theorem im_X10_isLine : Cond.instanceMethod yX10_isLine ∈ gtbl := gtbl_of (List.mem_append_right _ (List.mem_of_getElem? (i := 1437) (by decide +kernel))) rfl
theorem se_X10_isLine : Cond.selects yX10_isLine.cls yX10_isLine yX10_isLine ∈ gtbl := gtbl_of (List.mem_append_left _ (List.mem_of_getElem? (i := 66) (by decide +kernel))) rfl
theorem cd_X10_isBook : Cond.code yX10_isBook cX10_isBook 2 (some .boolean) ∈ gtbl := gtbl_of (List.mem_append_right _ (List.mem_of_getElem? (i := 1426) (by decide +kernel))) rfl
theorem im_X10_isBook : Cond.instanceMethod yX10_isBook ∈ gtbl := gtbl_of (List.mem_append_right _ (List.mem_of_getElem? (i := 1425) (by decide +kernel))) rfl
theorem se_X10_isBook : Cond.selects yX10_isBook.cls yX10_isBook yX10_isBook ∈ gtbl := gtbl_of (List.mem_append_left _ (List.mem_of_getElem? (i := 63) (by decide +kernel))) rfl
theorem cd_X10_find : Cond.code yX10_find cX10_find 4 (some .int) ∈ gtbl := gtbl_of (List.mem_append_right _ (List.mem_of_getElem? (i := 1525) (by decide +kernel))) rfl
theorem st_X10_find : Cond.static yX10_find ∈ gtbl := gtbl_of (List.mem_append_right _ (List.mem_of_getElem? (i := 1524) (by decide +kernel))) rfl
theorem cd_X10_newEmpire : Cond.code yX10_newEmpire cX10_newEmpire 4 (some .int) ∈ gtbl := gtbl_of (List.mem_append_right _ (List.mem_of_getElem? (i := 1522) (by decide +kernel))) rfl
theorem im_X10_newEmpire : Cond.instanceMethod yX10_newEmpire ∈ gtbl := gtbl_of (List.mem_append_right _ (List.mem_of_getElem? (i := 1521) (by decide +kernel))) rfl
theorem se_X10_newEmpire : Cond.selects yX10_newEmpire.cls yX10_newEmpire yX10_newEmpire ∈ gtbl := gtbl_of (List.mem_append_left _ (List.mem_of_getElem? (i := 86) (by decide +kernel))) rfl
theorem cd_X10_itsYears : Cond.code yX10_itsYears cX10_itsYears 6 (some .int) ∈ gtbl := gtbl_of (List.mem_append_right _ (List.mem_of_getElem? (i := 1529) (by decide +kernel))) rfl
theorem im_X10_itsYears : Cond.instanceMethod yX10_itsYears ∈ gtbl := gtbl_of (List.mem_append_right _ (List.mem_of_getElem? (i := 1528) (by decide +kernel))) rfl
theorem se_X10_itsYears : Cond.selects yX10_itsYears.cls yX10_itsYears yX10_itsYears ∈ gtbl := gtbl_of (List.mem_append_left _ (List.mem_of_getElem? (i := 87) (by decide +kernel))) rfl
theorem cd_X10_newFind : Cond.code yX10_newFind cX10_newFind 3 (some .int) ∈ gtbl := gtbl_of (List.mem_append_right _ (List.mem_of_getElem? (i := 1534) (by decide +kernel))) rfl
theorem im_X10_newFind : Cond.instanceMethod yX10_newFind ∈ gtbl := gtbl_of (List.mem_append_right _ (List.mem_of_getElem? (i := 1533) (by decide +kernel))) rfl
theorem se_X10_newFind : Cond.selects yX10_newFind.cls yX10_newFind yX10_newFind ∈ gtbl := gtbl_of (List.mem_append_left _ (List.mem_of_getElem? (i := 88) (by decide +kernel))) rfl
theorem cd_X10_itsSeat : Cond.code yX10_itsSeat cX10_itsSeat 3 (some .int) ∈ gtbl := gtbl_of (List.mem_append_right _ (List.mem_of_getElem? (i := 1538) (by decide +kernel))) rfl
theorem im_X10_itsSeat : Cond.instanceMethod yX10_itsSeat ∈ gtbl := gtbl_of (List.mem_append_right _ (List.mem_of_getElem? (i := 1537) (by decide +kernel))) rfl
theorem se_X10_itsSeat : Cond.selects yX10_itsSeat.cls yX10_itsSeat yX10_itsSeat ∈ gtbl := gtbl_of (List.mem_append_left _ (List.mem_of_getElem? (i := 89) (by decide +kernel))) rfl
theorem cd_X10_itsStratum : Cond.code yX10_itsStratum cX10_itsStratum 5 (some .int) ∈ gtbl := gtbl_of (List.mem_append_right _ (List.mem_of_getElem? (i := 1542) (by decide +kernel))) rfl
theorem im_X10_itsStratum : Cond.instanceMethod yX10_itsStratum ∈ gtbl := gtbl_of (List.mem_append_right _ (List.mem_of_getElem? (i := 1541) (by decide +kernel))) rfl
theorem se_X10_itsStratum : Cond.selects yX10_itsStratum.cls yX10_itsStratum yX10_itsStratum ∈ gtbl := gtbl_of (List.mem_append_left _ (List.mem_of_getElem? (i := 90) (by decide +kernel))) rfl
theorem cd_X10_itsYear : Cond.code yX10_itsYear cX10_itsYear 4 (some .int) ∈ gtbl := gtbl_of (List.mem_append_right _ (List.mem_of_getElem? (i := 1546) (by decide +kernel))) rfl
theorem im_X10_itsYear : Cond.instanceMethod yX10_itsYear ∈ gtbl := gtbl_of (List.mem_append_right _ (List.mem_of_getElem? (i := 1545) (by decide +kernel))) rfl
theorem se_X10_itsYear : Cond.selects yX10_itsYear.cls yX10_itsYear yX10_itsYear ∈ gtbl := gtbl_of (List.mem_append_left _ (List.mem_of_getElem? (i := 91) (by decide +kernel))) rfl
theorem cd_X10_anEmpire : Cond.code yX10_anEmpire cX10_anEmpire 3 (some .int) ∈ gtbl := gtbl_of (List.mem_append_right _ (List.mem_of_getElem? (i := 1554) (by decide +kernel))) rfl
theorem im_X10_anEmpire : Cond.instanceMethod yX10_anEmpire ∈ gtbl := gtbl_of (List.mem_append_right _ (List.mem_of_getElem? (i := 1553) (by decide +kernel))) rfl
theorem se_X10_anEmpire : Cond.selects yX10_anEmpire.cls yX10_anEmpire yX10_anEmpire ∈ gtbl := gtbl_of (List.mem_append_left _ (List.mem_of_getElem? (i := 93) (by decide +kernel))) rfl
theorem cd_X10_newOrder : Cond.code yX10_newOrder cX10_newOrder 2 (some .int) ∈ gtbl := gtbl_of (List.mem_append_right _ (List.mem_of_getElem? (i := 1550) (by decide +kernel))) rfl
theorem im_X10_newOrder : Cond.instanceMethod yX10_newOrder ∈ gtbl := gtbl_of (List.mem_append_right _ (List.mem_of_getElem? (i := 1549) (by decide +kernel))) rfl
theorem se_X10_newOrder : Cond.selects yX10_newOrder.cls yX10_newOrder yX10_newOrder ∈ gtbl := gtbl_of (List.mem_append_left _ (List.mem_of_getElem? (i := 92) (by decide +kernel))) rfl
theorem cd_X10_itsSeats : Cond.code yX10_itsSeats cX10_itsSeats 4 (some .int) ∈ gtbl := gtbl_of (List.mem_append_right _ (List.mem_of_getElem? (i := 1511) (by decide +kernel))) rfl
theorem im_X10_itsSeats : Cond.instanceMethod yX10_itsSeats ∈ gtbl := gtbl_of (List.mem_append_right _ (List.mem_of_getElem? (i := 1510) (by decide +kernel))) rfl
theorem se_X10_itsSeats : Cond.selects yX10_itsSeats.cls yX10_itsSeats yX10_itsSeats ∈ gtbl := gtbl_of (List.mem_append_left _ (List.mem_of_getElem? (i := 84) (by decide +kernel))) rfl
theorem cd_X10_itsLayers : Cond.code yX10_itsLayers cX10_itsLayers 4 (some .int) ∈ gtbl := gtbl_of (List.mem_append_right _ (List.mem_of_getElem? (i := 1517) (by decide +kernel))) rfl
theorem im_X10_itsLayers : Cond.instanceMethod yX10_itsLayers ∈ gtbl := gtbl_of (List.mem_append_right _ (List.mem_of_getElem? (i := 1516) (by decide +kernel))) rfl
theorem se_X10_itsLayers : Cond.selects yX10_itsLayers.cls yX10_itsLayers yX10_itsLayers ∈ gtbl := gtbl_of (List.mem_append_left _ (List.mem_of_getElem? (i := 85) (by decide +kernel))) rfl
theorem cd_X10_errorOf : Cond.code yX10_errorOf cX10_errorOf 3 (some .int) ∈ gtbl := gtbl_of (List.mem_append_right _ (List.mem_of_getElem? (i := 1507) (by decide +kernel))) rfl
theorem im_X10_errorOf : Cond.instanceMethod yX10_errorOf ∈ gtbl := gtbl_of (List.mem_append_right _ (List.mem_of_getElem? (i := 1506) (by decide +kernel))) rfl
theorem se_X10_errorOf : Cond.selects yX10_errorOf.cls yX10_errorOf yX10_errorOf ∈ gtbl := gtbl_of (List.mem_append_left _ (List.mem_of_getElem? (i := 83) (by decide +kernel))) rfl
theorem cd_X10_settle_ : Cond.code yX10_settle_ cX10_settle_ 4 none ∈ gtbl := gtbl_of (List.mem_append_right _ (List.mem_of_getElem? (i := 1558) (by decide +kernel))) rfl
theorem im_X10_settle_ : Cond.instanceMethod yX10_settle_ ∈ gtbl := gtbl_of (List.mem_append_right _ (List.mem_of_getElem? (i := 1557) (by decide +kernel))) rfl
theorem se_X10_settle_ : Cond.selects yX10_settle_.cls yX10_settle_ yX10_settle_ ∈ gtbl := gtbl_of (List.mem_append_left _ (List.mem_of_getElem? (i := 94) (by decide +kernel))) rfl
theorem cd_X10_read : Cond.code yX10_read cX10_read 4 (some .int) ∈ gtbl := gtbl_of (List.mem_append_right _ (List.mem_of_getElem? (i := 1381) (by decide +kernel))) rfl
theorem im_X10_read : Cond.instanceMethod yX10_read ∈ gtbl := gtbl_of (List.mem_append_right _ (List.mem_of_getElem? (i := 1380) (by decide +kernel))) rfl
theorem se_X10_read : Cond.selects yX10_read.cls yX10_read yX10_read ∈ gtbl := gtbl_of (List.mem_append_left _ (List.mem_of_getElem? (i := 56) (by decide +kernel))) rfl
theorem cd_X10_feed : Cond.code yX10_feed cX10_feed 8 (some .int) ∈ gtbl := gtbl_of (List.mem_append_right _ (List.mem_of_getElem? (i := 1362) (by decide +kernel))) rfl
theorem im_X10_feed : Cond.instanceMethod yX10_feed ∈ gtbl := gtbl_of (List.mem_append_right _ (List.mem_of_getElem? (i := 1360) (by decide +kernel))) rfl
theorem se_X10_feed : Cond.selects yX10_feed.cls yX10_feed yX10_feed ∈ gtbl := gtbl_of (List.mem_append_right _ (List.mem_of_getElem? (i := 1361) (by decide +kernel))) rfl
theorem cd_X10_trim : Cond.code yX10_trim cX10_trim 2 (some .int) ∈ gtbl := gtbl_of (List.mem_append_right _ (List.mem_of_getElem? (i := 1370) (by decide +kernel))) rfl
theorem im_X10_trim : Cond.instanceMethod yX10_trim ∈ gtbl := gtbl_of (List.mem_append_right _ (List.mem_of_getElem? (i := 1368) (by decide +kernel))) rfl
theorem se_X10_trim : Cond.selects yX10_trim.cls yX10_trim yX10_trim ∈ gtbl := gtbl_of (List.mem_append_right _ (List.mem_of_getElem? (i := 1369) (by decide +kernel))) rfl
theorem cd_X10_teach : Cond.code yX10_teach cX10_teach 3 (some .int) ∈ gtbl := gtbl_of (List.mem_append_right _ (List.mem_of_getElem? (i := 1377) (by decide +kernel))) rfl
theorem im_X10_teach : Cond.instanceMethod yX10_teach ∈ gtbl := gtbl_of (List.mem_append_right _ (List.mem_of_getElem? (i := 1375) (by decide +kernel))) rfl
theorem se_X10_teach : Cond.selects yX10_teach.cls yX10_teach yX10_teach ∈ gtbl := gtbl_of (List.mem_append_right _ (List.mem_of_getElem? (i := 1376) (by decide +kernel))) rfl
theorem cd_X10_errorAt : Cond.code yX10_errorAt cX10_errorAt 1 (some .int) ∈ gtbl := gtbl_of (List.mem_append_right _ (List.mem_of_getElem? (i := 1562) (by decide +kernel))) rfl
theorem im_X10_errorAt : Cond.instanceMethod yX10_errorAt ∈ gtbl := gtbl_of (List.mem_append_right _ (List.mem_of_getElem? (i := 1560) (by decide +kernel))) rfl
theorem se_X10_errorAt : Cond.selects yX10_errorAt.cls yX10_errorAt yX10_errorAt ∈ gtbl := gtbl_of (List.mem_append_right _ (List.mem_of_getElem? (i := 1561) (by decide +kernel))) rfl
theorem cd_X10_seats : Cond.code yX10_seats cX10_seats 1 (some .int) ∈ gtbl := gtbl_of (List.mem_append_right _ (List.mem_of_getElem? (i := 1570) (by decide +kernel))) rfl
theorem im_X10_seats : Cond.instanceMethod yX10_seats ∈ gtbl := gtbl_of (List.mem_append_right _ (List.mem_of_getElem? (i := 1568) (by decide +kernel))) rfl
theorem se_X10_seats : Cond.selects yX10_seats.cls yX10_seats yX10_seats ∈ gtbl := gtbl_of (List.mem_append_right _ (List.mem_of_getElem? (i := 1569) (by decide +kernel))) rfl
theorem cd_X10_strata : Cond.code yX10_strata cX10_strata 1 (some .int) ∈ gtbl := gtbl_of (List.mem_append_right _ (List.mem_of_getElem? (i := 1574) (by decide +kernel))) rfl
theorem im_X10_strata : Cond.instanceMethod yX10_strata ∈ gtbl := gtbl_of (List.mem_append_right _ (List.mem_of_getElem? (i := 1572) (by decide +kernel))) rfl
theorem se_X10_strata : Cond.selects yX10_strata.cls yX10_strata yX10_strata ∈ gtbl := gtbl_of (List.mem_append_right _ (List.mem_of_getElem? (i := 1573) (by decide +kernel))) rfl
theorem cd_X10_finds : Cond.code yX10_finds cX10_finds 1 (some .int) ∈ gtbl := gtbl_of (List.mem_append_right _ (List.mem_of_getElem? (i := 1578) (by decide +kernel))) rfl
theorem im_X10_finds : Cond.instanceMethod yX10_finds ∈ gtbl := gtbl_of (List.mem_append_right _ (List.mem_of_getElem? (i := 1576) (by decide +kernel))) rfl
theorem se_X10_finds : Cond.selects yX10_finds.cls yX10_finds yX10_finds ∈ gtbl := gtbl_of (List.mem_append_right _ (List.mem_of_getElem? (i := 1577) (by decide +kernel))) rfl
theorem cd_X10_days : Cond.code yX10_days cX10_days 1 (some .int) ∈ gtbl := gtbl_of (List.mem_append_right _ (List.mem_of_getElem? (i := 1582) (by decide +kernel))) rfl
theorem im_X10_days : Cond.instanceMethod yX10_days ∈ gtbl := gtbl_of (List.mem_append_right _ (List.mem_of_getElem? (i := 1580) (by decide +kernel))) rfl
theorem se_X10_days : Cond.selects yX10_days.cls yX10_days yX10_days ∈ gtbl := gtbl_of (List.mem_append_right _ (List.mem_of_getElem? (i := 1581) (by decide +kernel))) rfl
theorem cd_X10_ordersCarriedOut : Cond.code yX10_ordersCarriedOut cX10_ordersCarriedOut 1 (some .int) ∈ gtbl := gtbl_of (List.mem_append_right _ (List.mem_of_getElem? (i := 1586) (by decide +kernel))) rfl
theorem im_X10_ordersCarriedOut : Cond.instanceMethod yX10_ordersCarriedOut ∈ gtbl := gtbl_of (List.mem_append_right _ (List.mem_of_getElem? (i := 1584) (by decide +kernel))) rfl
theorem se_X10_ordersCarriedOut : Cond.selects yX10_ordersCarriedOut.cls yX10_ordersCarriedOut yX10_ordersCarriedOut ∈ gtbl := gtbl_of (List.mem_append_right _ (List.mem_of_getElem? (i := 1585) (by decide +kernel))) rfl
theorem cd_X10_cushionsDug : Cond.code yX10_cushionsDug cX10_cushionsDug 1 (some .int) ∈ gtbl := gtbl_of (List.mem_append_right _ (List.mem_of_getElem? (i := 1590) (by decide +kernel))) rfl
theorem im_X10_cushionsDug : Cond.instanceMethod yX10_cushionsDug ∈ gtbl := gtbl_of (List.mem_append_right _ (List.mem_of_getElem? (i := 1588) (by decide +kernel))) rfl
theorem se_X10_cushionsDug : Cond.selects yX10_cushionsDug.cls yX10_cushionsDug yX10_cushionsDug ∈ gtbl := gtbl_of (List.mem_append_right _ (List.mem_of_getElem? (i := 1589) (by decide +kernel))) rfl
theorem cd_X10_slides : Cond.code yX10_slides cX10_slides 1 (some .int) ∈ gtbl := gtbl_of (List.mem_append_right _ (List.mem_of_getElem? (i := 1594) (by decide +kernel))) rfl
theorem im_X10_slides : Cond.instanceMethod yX10_slides ∈ gtbl := gtbl_of (List.mem_append_right _ (List.mem_of_getElem? (i := 1592) (by decide +kernel))) rfl
theorem se_X10_slides : Cond.selects yX10_slides.cls yX10_slides yX10_slides ∈ gtbl := gtbl_of (List.mem_append_right _ (List.mem_of_getElem? (i := 1593) (by decide +kernel))) rfl
theorem cd_X10_found : Cond.code yX10_found cX10_found 1 (some .int) ∈ gtbl := gtbl_of (List.mem_append_right _ (List.mem_of_getElem? (i := 1598) (by decide +kernel))) rfl
theorem im_X10_found : Cond.instanceMethod yX10_found ∈ gtbl := gtbl_of (List.mem_append_right _ (List.mem_of_getElem? (i := 1596) (by decide +kernel))) rfl
theorem se_X10_found : Cond.selects yX10_found.cls yX10_found yX10_found ∈ gtbl := gtbl_of (List.mem_append_right _ (List.mem_of_getElem? (i := 1597) (by decide +kernel))) rfl
theorem cd_X10_sureFinds : Cond.code yX10_sureFinds cX10_sureFinds 1 (some .int) ∈ gtbl := gtbl_of (List.mem_append_right _ (List.mem_of_getElem? (i := 1609) (by decide +kernel))) rfl
theorem im_X10_sureFinds : Cond.instanceMethod yX10_sureFinds ∈ gtbl := gtbl_of (List.mem_append_right _ (List.mem_of_getElem? (i := 1607) (by decide +kernel))) rfl
theorem se_X10_sureFinds : Cond.selects yX10_sureFinds.cls yX10_sureFinds yX10_sureFinds ∈ gtbl := gtbl_of (List.mem_append_right _ (List.mem_of_getElem? (i := 1608) (by decide +kernel))) rfl
theorem cd_X10_props : Cond.code yX10_props cX10_props 1 (some .int) ∈ gtbl := gtbl_of (List.mem_append_right _ (List.mem_of_getElem? (i := 1613) (by decide +kernel))) rfl
theorem im_X10_props : Cond.instanceMethod yX10_props ∈ gtbl := gtbl_of (List.mem_append_right _ (List.mem_of_getElem? (i := 1611) (by decide +kernel))) rfl
theorem se_X10_props : Cond.selects yX10_props.cls yX10_props yX10_props ∈ gtbl := gtbl_of (List.mem_append_right _ (List.mem_of_getElem? (i := 1612) (by decide +kernel))) rfl
theorem cd_X10_heightOf : Cond.code yX10_heightOf cX10_heightOf 2 (some .int) ∈ gtbl := gtbl_of (List.mem_append_right _ (List.mem_of_getElem? (i := 1623) (by decide +kernel))) rfl
theorem im_X10_heightOf : Cond.instanceMethod yX10_heightOf ∈ gtbl := gtbl_of (List.mem_append_right _ (List.mem_of_getElem? (i := 1621) (by decide +kernel))) rfl
theorem se_X10_heightOf : Cond.selects yX10_heightOf.cls yX10_heightOf yX10_heightOf ∈ gtbl := gtbl_of (List.mem_append_right _ (List.mem_of_getElem? (i := 1622) (by decide +kernel))) rfl
theorem cd_X10_isPropped : Cond.code yX10_isPropped cX10_isPropped 2 (some .boolean) ∈ gtbl := gtbl_of (List.mem_append_right _ (List.mem_of_getElem? (i := 1635) (by decide +kernel))) rfl
theorem im_X10_isPropped : Cond.instanceMethod yX10_isPropped ∈ gtbl := gtbl_of (List.mem_append_right _ (List.mem_of_getElem? (i := 1633) (by decide +kernel))) rfl
theorem se_X10_isPropped : Cond.selects yX10_isPropped.cls yX10_isPropped yX10_isPropped ∈ gtbl := gtbl_of (List.mem_append_right _ (List.mem_of_getElem? (i := 1634) (by decide +kernel))) rfl
theorem cd_X10_hasTop : Cond.code yX10_hasTop cX10_hasTop 2 (some .boolean) ∈ gtbl := gtbl_of (List.mem_append_right _ (List.mem_of_getElem? (i := 1651) (by decide +kernel))) rfl
theorem im_X10_hasTop : Cond.instanceMethod yX10_hasTop ∈ gtbl := gtbl_of (List.mem_append_right _ (List.mem_of_getElem? (i := 1650) (by decide +kernel))) rfl
theorem se_X10_hasTop : Cond.selects yX10_hasTop.cls yX10_hasTop yX10_hasTop ∈ gtbl := gtbl_of (List.mem_append_left _ (List.mem_of_getElem? (i := 101) (by decide +kernel))) rfl
theorem cd_X10_topStratum : Cond.code yX10_topStratum cX10_topStratum 2 (some .int) ∈ gtbl := gtbl_of (List.mem_append_right _ (List.mem_of_getElem? (i := 1647) (by decide +kernel))) rfl
theorem im_X10_topStratum : Cond.instanceMethod yX10_topStratum ∈ gtbl := gtbl_of (List.mem_append_right _ (List.mem_of_getElem? (i := 1645) (by decide +kernel))) rfl
theorem se_X10_topStratum : Cond.selects yX10_topStratum.cls yX10_topStratum yX10_topStratum ∈ gtbl := gtbl_of (List.mem_append_right _ (List.mem_of_getElem? (i := 1646) (by decide +kernel))) rfl
theorem cd_X10_isTopLoose : Cond.code yX10_isTopLoose cX10_isTopLoose 2 (some .boolean) ∈ gtbl := gtbl_of (List.mem_append_right _ (List.mem_of_getElem? (i := 1659) (by decide +kernel))) rfl
theorem im_X10_isTopLoose : Cond.instanceMethod yX10_isTopLoose ∈ gtbl := gtbl_of (List.mem_append_right _ (List.mem_of_getElem? (i := 1657) (by decide +kernel))) rfl
theorem se_X10_isTopLoose : Cond.selects yX10_isTopLoose.cls yX10_isTopLoose yX10_isTopLoose ∈ gtbl := gtbl_of (List.mem_append_right _ (List.mem_of_getElem? (i := 1658) (by decide +kernel))) rfl
theorem cd_X10_hasTopSpring : Cond.code yX10_hasTopSpring cX10_hasTopSpring 2 (some .boolean) ∈ gtbl := gtbl_of (List.mem_append_right _ (List.mem_of_getElem? (i := 1663) (by decide +kernel))) rfl
theorem im_X10_hasTopSpring : Cond.instanceMethod yX10_hasTopSpring ∈ gtbl := gtbl_of (List.mem_append_right _ (List.mem_of_getElem? (i := 1661) (by decide +kernel))) rfl
theorem se_X10_hasTopSpring : Cond.selects yX10_hasTopSpring.cls yX10_hasTopSpring yX10_hasTopSpring ∈ gtbl := gtbl_of (List.mem_append_right _ (List.mem_of_getElem? (i := 1662) (by decide +kernel))) rfl
theorem cd_X10_findsLeft : Cond.code yX10_findsLeft cX10_findsLeft 2 (some .int) ∈ gtbl := gtbl_of (List.mem_append_right _ (List.mem_of_getElem? (i := 1667) (by decide +kernel))) rfl
theorem im_X10_findsLeft : Cond.instanceMethod yX10_findsLeft ∈ gtbl := gtbl_of (List.mem_append_right _ (List.mem_of_getElem? (i := 1665) (by decide +kernel))) rfl
theorem se_X10_findsLeft : Cond.selects yX10_findsLeft.cls yX10_findsLeft yX10_findsLeft ∈ gtbl := gtbl_of (List.mem_append_right _ (List.mem_of_getElem? (i := 1666) (by decide +kernel))) rfl
theorem cd_X10_isCoin : Cond.code yX10_isCoin cX10_isCoin 2 (some .boolean) ∈ gtbl := gtbl_of (List.mem_append_right _ (List.mem_of_getElem? (i := 1675) (by decide +kernel))) rfl
theorem im_X10_isCoin : Cond.instanceMethod yX10_isCoin ∈ gtbl := gtbl_of (List.mem_append_right _ (List.mem_of_getElem? (i := 1673) (by decide +kernel))) rfl
theorem se_X10_isCoin : Cond.selects yX10_isCoin.cls yX10_isCoin yX10_isCoin ∈ gtbl := gtbl_of (List.mem_append_right _ (List.mem_of_getElem? (i := 1674) (by decide +kernel))) rfl
theorem cd_X10_isFound : Cond.code yX10_isFound cX10_isFound 2 (some .boolean) ∈ gtbl := gtbl_of (List.mem_append_right _ (List.mem_of_getElem? (i := 1683) (by decide +kernel))) rfl
theorem im_X10_isFound : Cond.instanceMethod yX10_isFound ∈ gtbl := gtbl_of (List.mem_append_right _ (List.mem_of_getElem? (i := 1681) (by decide +kernel))) rfl
theorem se_X10_isFound : Cond.selects yX10_isFound.cls yX10_isFound yX10_isFound ∈ gtbl := gtbl_of (List.mem_append_right _ (List.mem_of_getElem? (i := 1682) (by decide +kernel))) rfl
theorem cd_X10_isSure : Cond.code yX10_isSure cX10_isSure 2 (some .boolean) ∈ gtbl := gtbl_of (List.mem_append_right _ (List.mem_of_getElem? (i := 1687) (by decide +kernel))) rfl
theorem im_X10_isSure : Cond.instanceMethod yX10_isSure ∈ gtbl := gtbl_of (List.mem_append_right _ (List.mem_of_getElem? (i := 1685) (by decide +kernel))) rfl
theorem se_X10_isSure : Cond.selects yX10_isSure.cls yX10_isSure yX10_isSure ∈ gtbl := gtbl_of (List.mem_append_right _ (List.mem_of_getElem? (i := 1686) (by decide +kernel))) rfl
theorem cd_X10_stratumOf : Cond.code yX10_stratumOf cX10_stratumOf 2 (some .int) ∈ gtbl := gtbl_of (List.mem_append_right _ (List.mem_of_getElem? (i := 1695) (by decide +kernel))) rfl
theorem im_X10_stratumOf : Cond.instanceMethod yX10_stratumOf ∈ gtbl := gtbl_of (List.mem_append_right _ (List.mem_of_getElem? (i := 1693) (by decide +kernel))) rfl
theorem se_X10_stratumOf : Cond.selects yX10_stratumOf.cls yX10_stratumOf yX10_stratumOf ∈ gtbl := gtbl_of (List.mem_append_right _ (List.mem_of_getElem? (i := 1694) (by decide +kernel))) rfl
theorem cd_X10_whatOf : Cond.code yX10_whatOf cX10_whatOf 3 (some .int) ∈ gtbl := gtbl_of (List.mem_append_right _ (List.mem_of_getElem? (i := 1707) (by decide +kernel))) rfl
theorem im_X10_whatOf : Cond.instanceMethod yX10_whatOf ∈ gtbl := gtbl_of (List.mem_append_right _ (List.mem_of_getElem? (i := 1706) (by decide +kernel))) rfl
theorem se_X10_whatOf : Cond.selects yX10_whatOf.cls yX10_whatOf yX10_whatOf ∈ gtbl := gtbl_of (List.mem_append_left _ (List.mem_of_getElem? (i := 107) (by decide +kernel))) rfl
theorem cd_X10_yearOf : Cond.code yX10_yearOf cX10_yearOf 2 (some .int) ∈ gtbl := gtbl_of (List.mem_append_right _ (List.mem_of_getElem? (i := 1703) (by decide +kernel))) rfl
theorem im_X10_yearOf : Cond.instanceMethod yX10_yearOf ∈ gtbl := gtbl_of (List.mem_append_right _ (List.mem_of_getElem? (i := 1701) (by decide +kernel))) rfl
theorem se_X10_yearOf : Cond.selects yX10_yearOf.cls yX10_yearOf yX10_yearOf ∈ gtbl := gtbl_of (List.mem_append_right _ (List.mem_of_getElem? (i := 1702) (by decide +kernel))) rfl
theorem cd_X10_empireOf : Cond.code yX10_empireOf cX10_empireOf 2 (some .int) ∈ gtbl := gtbl_of (List.mem_append_right _ (List.mem_of_getElem? (i := 1711) (by decide +kernel))) rfl
theorem im_X10_empireOf : Cond.instanceMethod yX10_empireOf ∈ gtbl := gtbl_of (List.mem_append_right _ (List.mem_of_getElem? (i := 1709) (by decide +kernel))) rfl
theorem se_X10_empireOf : Cond.selects yX10_empireOf.cls yX10_empireOf yX10_empireOf ∈ gtbl := gtbl_of (List.mem_append_right _ (List.mem_of_getElem? (i := 1710) (by decide +kernel))) rfl
theorem cd_X10_buriedUnder : Cond.code yX10_buriedUnder cX10_buriedUnder 2 (some .int) ∈ gtbl := gtbl_of (List.mem_append_right _ (List.mem_of_getElem? (i := 1715) (by decide +kernel))) rfl
theorem im_X10_buriedUnder : Cond.instanceMethod yX10_buriedUnder ∈ gtbl := gtbl_of (List.mem_append_right _ (List.mem_of_getElem? (i := 1713) (by decide +kernel))) rfl
theorem se_X10_buriedUnder : Cond.selects yX10_buriedUnder.cls yX10_buriedUnder yX10_buriedUnder ∈ gtbl := gtbl_of (List.mem_append_right _ (List.mem_of_getElem? (i := 1714) (by decide +kernel))) rfl
theorem cd_X10_notBefore : Cond.code yX10_notBefore cX10_notBefore 2 (some .int) ∈ gtbl := gtbl_of (List.mem_append_right _ (List.mem_of_getElem? (i := 1723) (by decide +kernel))) rfl
theorem im_X10_notBefore : Cond.instanceMethod yX10_notBefore ∈ gtbl := gtbl_of (List.mem_append_right _ (List.mem_of_getElem? (i := 1721) (by decide +kernel))) rfl
theorem se_X10_notBefore : Cond.selects yX10_notBefore.cls yX10_notBefore yX10_notBefore ∈ gtbl := gtbl_of (List.mem_append_right _ (List.mem_of_getElem? (i := 1722) (by decide +kernel))) rfl
theorem cd_X10_isSeenIn : Cond.code yX10_isSeenIn cX10_isSeenIn 3 (some .boolean) ∈ gtbl := gtbl_of (List.mem_append_right _ (List.mem_of_getElem? (i := 1736) (by decide +kernel))) rfl
theorem im_X10_isSeenIn : Cond.instanceMethod yX10_isSeenIn ∈ gtbl := gtbl_of (List.mem_append_right _ (List.mem_of_getElem? (i := 1734) (by decide +kernel))) rfl
theorem se_X10_isSeenIn : Cond.selects yX10_isSeenIn.cls yX10_isSeenIn yX10_isSeenIn ∈ gtbl := gtbl_of (List.mem_append_right _ (List.mem_of_getElem? (i := 1735) (by decide +kernel))) rfl
theorem cd_X10_isMixed : Cond.code yX10_isMixed cX10_isMixed 2 (some .boolean) ∈ gtbl := gtbl_of (List.mem_append_right _ (List.mem_of_getElem? (i := 1744) (by decide +kernel))) rfl
theorem im_X10_isMixed : Cond.instanceMethod yX10_isMixed ∈ gtbl := gtbl_of (List.mem_append_right _ (List.mem_of_getElem? (i := 1742) (by decide +kernel))) rfl
theorem se_X10_isMixed : Cond.selects yX10_isMixed.cls yX10_isMixed yX10_isMixed ∈ gtbl := gtbl_of (List.mem_append_right _ (List.mem_of_getElem? (i := 1743) (by decide +kernel))) rfl
theorem cd_X10_dig : Cond.code yX10_dig cX10_dig 2 (some .int) ∈ gtbl := gtbl_of (List.mem_append_right _ (List.mem_of_getElem? (i := 1752) (by decide +kernel))) rfl
theorem im_X10_dig : Cond.instanceMethod yX10_dig ∈ gtbl := gtbl_of (List.mem_append_right _ (List.mem_of_getElem? (i := 1750) (by decide +kernel))) rfl
theorem se_X10_dig : Cond.selects yX10_dig.cls yX10_dig yX10_dig ∈ gtbl := gtbl_of (List.mem_append_right _ (List.mem_of_getElem? (i := 1751) (by decide +kernel))) rfl
theorem cd_X10_prop : Cond.code yX10_prop cX10_prop 2 (some .int) ∈ gtbl := gtbl_of (List.mem_append_right _ (List.mem_of_getElem? (i := 1772) (by decide +kernel))) rfl
theorem im_X10_prop : Cond.instanceMethod yX10_prop ∈ gtbl := gtbl_of (List.mem_append_right _ (List.mem_of_getElem? (i := 1770) (by decide +kernel))) rfl
theorem se_X10_prop : Cond.selects yX10_prop.cls yX10_prop yX10_prop ∈ gtbl := gtbl_of (List.mem_append_right _ (List.mem_of_getElem? (i := 1771) (by decide +kernel))) rfl
theorem cd_X10_takeProp : Cond.code yX10_takeProp cX10_takeProp 2 (some .int) ∈ gtbl := gtbl_of (List.mem_append_right _ (List.mem_of_getElem? (i := 1780) (by decide +kernel))) rfl
theorem im_X10_takeProp : Cond.instanceMethod yX10_takeProp ∈ gtbl := gtbl_of (List.mem_append_right _ (List.mem_of_getElem? (i := 1778) (by decide +kernel))) rfl
theorem se_X10_takeProp : Cond.selects yX10_takeProp.cls yX10_takeProp yX10_takeProp ∈ gtbl := gtbl_of (List.mem_append_right _ (List.mem_of_getElem? (i := 1779) (by decide +kernel))) rfl
theorem cd_X10_passDays : Cond.code yX10_passDays cX10_passDays 2 (some .int) ∈ gtbl := gtbl_of (List.mem_append_right _ (List.mem_of_getElem? (i := 1784) (by decide +kernel))) rfl
theorem im_X10_passDays : Cond.instanceMethod yX10_passDays ∈ gtbl := gtbl_of (List.mem_append_right _ (List.mem_of_getElem? (i := 1782) (by decide +kernel))) rfl
theorem se_X10_passDays : Cond.selects yX10_passDays.cls yX10_passDays yX10_passDays ∈ gtbl := gtbl_of (List.mem_append_right _ (List.mem_of_getElem? (i := 1783) (by decide +kernel))) rfl
theorem cd_X10_foundAfter : Cond.code yX10_foundAfter cX10_foundAfter 3 (some .int) ∈ gtbl := gtbl_of (List.mem_append_right _ (List.mem_of_getElem? (i := 1822) (by decide +kernel))) rfl
theorem im_X10_foundAfter : Cond.instanceMethod yX10_foundAfter ∈ gtbl := gtbl_of (List.mem_append_right _ (List.mem_of_getElem? (i := 1820) (by decide +kernel))) rfl
theorem se_X10_foundAfter : Cond.selects yX10_foundAfter.cls yX10_foundAfter yX10_foundAfter ∈ gtbl := gtbl_of (List.mem_append_right _ (List.mem_of_getElem? (i := 1821) (by decide +kernel))) rfl
theorem cd_X10_daysUntilFound : Cond.code yX10_daysUntilFound cX10_daysUntilFound 3 (some .int) ∈ gtbl := gtbl_of (List.mem_append_right _ (List.mem_of_getElem? (i := 1837) (by decide +kernel))) rfl
theorem im_X10_daysUntilFound : Cond.instanceMethod yX10_daysUntilFound ∈ gtbl := gtbl_of (List.mem_append_right _ (List.mem_of_getElem? (i := 1835) (by decide +kernel))) rfl
theorem se_X10_daysUntilFound : Cond.selects yX10_daysUntilFound.cls yX10_daysUntilFound yX10_daysUntilFound ∈ gtbl := gtbl_of (List.mem_append_right _ (List.mem_of_getElem? (i := 1836) (by decide +kernel))) rfl
theorem cd_X10_slideBy : Cond.code yX10_slideBy cX10_slideBy 4 (some .int) ∈ gtbl := gtbl_of (List.mem_append_right _ (List.mem_of_getElem? (i := 1845) (by decide +kernel))) rfl
theorem im_X10_slideBy : Cond.instanceMethod yX10_slideBy ∈ gtbl := gtbl_of (List.mem_append_right _ (List.mem_of_getElem? (i := 1844) (by decide +kernel))) rfl
theorem se_X10_slideBy : Cond.selects yX10_slideBy.cls yX10_slideBy yX10_slideBy ∈ gtbl := gtbl_of (List.mem_append_left _ (List.mem_of_getElem? (i := 126) (by decide +kernel))) rfl
theorem cd_X10_wouldSlide : Cond.code yX10_wouldSlide cX10_wouldSlide 2 (some .int) ∈ gtbl := gtbl_of (List.mem_append_right _ (List.mem_of_getElem? (i := 1841) (by decide +kernel))) rfl
theorem im_X10_wouldSlide : Cond.instanceMethod yX10_wouldSlide ∈ gtbl := gtbl_of (List.mem_append_right _ (List.mem_of_getElem? (i := 1839) (by decide +kernel))) rfl
theorem se_X10_wouldSlide : Cond.selects yX10_wouldSlide.cls yX10_wouldSlide yX10_wouldSlide ∈ gtbl := gtbl_of (List.mem_append_right _ (List.mem_of_getElem? (i := 1840) (by decide +kernel))) rfl
theorem cd_X10_best : Cond.code yX10_best cX10_best 5 (some .int) ∈ gtbl := gtbl_of (List.mem_append_right _ (List.mem_of_getElem? (i := 1853) (by decide +kernel))) rfl
theorem im_X10_best : Cond.instanceMethod yX10_best ∈ gtbl := gtbl_of (List.mem_append_right _ (List.mem_of_getElem? (i := 1852) (by decide +kernel))) rfl
theorem se_X10_best : Cond.selects yX10_best.cls yX10_best yX10_best ∈ gtbl := gtbl_of (List.mem_append_left _ (List.mem_of_getElem? (i := 127) (by decide +kernel))) rfl
theorem cd_X10_bestDig : Cond.code yX10_bestDig cX10_bestDig 1 (some .int) ∈ gtbl := gtbl_of (List.mem_append_right _ (List.mem_of_getElem? (i := 1849) (by decide +kernel))) rfl
theorem im_X10_bestDig : Cond.instanceMethod yX10_bestDig ∈ gtbl := gtbl_of (List.mem_append_right _ (List.mem_of_getElem? (i := 1847) (by decide +kernel))) rfl
theorem se_X10_bestDig : Cond.selects yX10_bestDig.cls yX10_bestDig yX10_bestDig ∈ gtbl := gtbl_of (List.mem_append_right _ (List.mem_of_getElem? (i := 1848) (by decide +kernel))) rfl
theorem cd_X10_meanYear : Cond.code yX10_meanYear cX10_meanYear 4 (some .double) ∈ gtbl := gtbl_of (List.mem_append_right _ (List.mem_of_getElem? (i := 1857) (by decide +kernel))) rfl
theorem im_X10_meanYear : Cond.instanceMethod yX10_meanYear ∈ gtbl := gtbl_of (List.mem_append_right _ (List.mem_of_getElem? (i := 1855) (by decide +kernel))) rfl
theorem se_X10_meanYear : Cond.selects yX10_meanYear.cls yX10_meanYear yX10_meanYear ∈ gtbl := gtbl_of (List.mem_append_right _ (List.mem_of_getElem? (i := 1856) (by decide +kernel))) rfl
theorem cd_X10_digest : Cond.code yX10_digest cX10_digest 8 (some .long) ∈ gtbl := gtbl_of (List.mem_append_right _ (List.mem_of_getElem? (i := 1861) (by decide +kernel))) rfl
theorem im_X10_digest : Cond.instanceMethod yX10_digest ∈ gtbl := gtbl_of (List.mem_append_right _ (List.mem_of_getElem? (i := 1859) (by decide +kernel))) rfl
theorem se_X10_digest : Cond.selects yX10_digest.cls yX10_digest yX10_digest ∈ gtbl := gtbl_of (List.mem_append_right _ (List.mem_of_getElem? (i := 1860) (by decide +kernel))) rfl
theorem cd_J6_bitCount_0f7a4 : Cond.code yJ6_bitCount_0f7a4 cJ6_bitCount_0f7a4 1 (some .int) ∈ gtbl := gtbl_of (List.mem_append_right _ (List.mem_of_getElem? (i := 1616) (by decide +kernel))) rfl
theorem st_J6_bitCount_0f7a4 : Cond.static yJ6_bitCount_0f7a4 ∈ gtbl := gtbl_of (List.mem_append_right _ (List.mem_of_getElem? (i := 1615) (by decide +kernel))) rfl
theorem cd_J9_floorMod_7cf53 : Cond.code yJ9_floorMod_7cf53 cJ9_floorMod_7cf53 3 (some .int) ∈ gtbl := gtbl_of (List.mem_append_right _ (List.mem_of_getElem? (i := 1160) (by decide +kernel))) rfl
theorem st_J9_floorMod_7cf53 : Cond.static yJ9_floorMod_7cf53 ∈ gtbl := gtbl_of (List.mem_append_right _ (List.mem_of_getElem? (i := 1159) (by decide +kernel))) rfl
theorem cd_J9_max_7cf53 : Cond.code yJ9_max_7cf53 cJ9_max_7cf53 2 (some .int) ∈ gtbl := gtbl_of (List.mem_append_right _ (List.mem_of_getElem? (i := 767) (by decide +kernel))) rfl
theorem st_J9_max_7cf53 : Cond.static yJ9_max_7cf53 ∈ gtbl := gtbl_of (List.mem_append_right _ (List.mem_of_getElem? (i := 766) (by decide +kernel))) rfl
theorem cd_J9_min_7cf53 : Cond.code yJ9_min_7cf53 cJ9_min_7cf53 2 (some .int) ∈ gtbl := gtbl_of (List.mem_append_right _ (List.mem_of_getElem? (i := 1168) (by decide +kernel))) rfl
theorem st_J9_min_7cf53 : Cond.static yJ9_min_7cf53 ∈ gtbl := gtbl_of (List.mem_append_right _ (List.mem_of_getElem? (i := 1167) (by decide +kernel))) rfl
theorem cd_J0_length_8abf5 : Cond.code yJ0_length_8abf5 cJ0_length_8abf5 1 (some .int) ∈ gtbl := gtbl_of (List.mem_append_right _ (List.mem_of_getElem? (i := 371) (by decide +kernel))) rfl
theorem im_J0_length_8abf5 : Cond.instanceMethod yJ0_length_8abf5 ∈ gtbl := gtbl_of (List.mem_append_right _ (List.mem_of_getElem? (i := 369) (by decide +kernel))) rfl
theorem se_J0_length_8abf5 : Cond.selects yJ0_length_8abf5.cls yJ0_length_8abf5 yJ0_length_8abf5 ∈ gtbl := gtbl_of (List.mem_append_right _ (List.mem_of_getElem? (i := 370) (by decide +kernel))) rfl
theorem cd_J0_charAt_5068e : Cond.code yJ0_charAt_5068e cJ0_charAt_5068e 2 (some .char) ∈ gtbl := gtbl_of (List.mem_append_right _ (List.mem_of_getElem? (i := 384) (by decide +kernel))) rfl
theorem im_J0_charAt_5068e : Cond.instanceMethod yJ0_charAt_5068e ∈ gtbl := gtbl_of (List.mem_append_right _ (List.mem_of_getElem? (i := 382) (by decide +kernel))) rfl
theorem se_J0_charAt_5068e : Cond.selects yJ0_charAt_5068e.cls yJ0_charAt_5068e yJ0_charAt_5068e ∈ gtbl := gtbl_of (List.mem_append_right _ (List.mem_of_getElem? (i := 383) (by decide +kernel))) rfl
theorem cd_J0_coder_7d493 : Cond.code yJ0_coder_7d493 cJ0_coder_7d493 1 (some .byte) ∈ gtbl := gtbl_of (List.mem_append_right _ (List.mem_of_getElem? (i := 375) (by decide +kernel))) rfl
theorem im_J0_coder_7d493 : Cond.instanceMethod yJ0_coder_7d493 ∈ gtbl := gtbl_of (List.mem_append_right _ (List.mem_of_getElem? (i := 373) (by decide +kernel))) rfl
theorem se_J0_coder_7d493 : Cond.selects yJ0_coder_7d493.cls yJ0_coder_7d493 yJ0_coder_7d493 ∈ gtbl := gtbl_of (List.mem_append_right _ (List.mem_of_getElem? (i := 374) (by decide +kernel))) rfl
theorem cd_J0_isLatin1_aae02 : Cond.code yJ0_isLatin1_aae02 cJ0_isLatin1_aae02 1 (some .boolean) ∈ gtbl := gtbl_of (List.mem_append_right _ (List.mem_of_getElem? (i := 388) (by decide +kernel))) rfl
theorem im_J0_isLatin1_aae02 : Cond.instanceMethod yJ0_isLatin1_aae02 ∈ gtbl := gtbl_of (List.mem_append_right _ (List.mem_of_getElem? (i := 386) (by decide +kernel))) rfl
theorem se_J0_isLatin1_aae02 : Cond.selects yJ0_isLatin1_aae02.cls yJ0_isLatin1_aae02 yJ0_isLatin1_aae02 ∈ gtbl := gtbl_of (List.mem_append_right _ (List.mem_of_getElem? (i := 387) (by decide +kernel))) rfl
theorem cd_J0_checkIndex_df160 : Cond.code yJ0_checkIndex_df160 cJ0_checkIndex_df160 2 none ∈ gtbl := gtbl_of (List.mem_append_right _ (List.mem_of_getElem? (i := 394) (by decide +kernel))) rfl
theorem st_J0_checkIndex_df160 : Cond.static yJ0_checkIndex_df160 ∈ gtbl := gtbl_of (List.mem_append_right _ (List.mem_of_getElem? (i := 393) (by decide +kernel))) rfl
theorem cd_J7_fill_53178 : Cond.code yJ7_fill_53178 cJ7_fill_53178 4 none ∈ gtbl := gtbl_of (List.mem_append_right _ (List.mem_of_getElem? (i := 97) (by decide +kernel))) rfl
theorem st_J7_fill_53178 : Cond.static yJ7_fill_53178 ∈ gtbl := gtbl_of (List.mem_append_right _ (List.mem_of_getElem? (i := 96) (by decide +kernel))) rfl
theorem ini_X0 : Cond.initialized RX0 ∈ gtbl := gtbl_of (List.mem_append_right _ (List.mem_of_getElem? (i := 17) (by decide +kernel))) rfl
theorem ini_X1 : Cond.initialized RX1 ∈ gtbl := gtbl_of (List.mem_append_right _ (List.mem_of_getElem? (i := 4) (by decide +kernel))) rfl
theorem ini_X2 : Cond.initialized RX2 ∈ gtbl := gtbl_of (List.mem_append_right _ (List.mem_of_getElem? (i := 8) (by decide +kernel))) rfl
theorem ini_X3 : Cond.initialized RX3 ∈ gtbl := gtbl_of (List.mem_append_right _ (List.mem_of_getElem? (i := 6) (by decide +kernel))) rfl
theorem ini_X4 : Cond.initialized RX4 ∈ gtbl := gtbl_of (List.mem_append_right _ (List.mem_of_getElem? (i := 9) (by decide +kernel))) rfl
theorem ini_X5 : Cond.initialized RX5 ∈ gtbl := gtbl_of (List.mem_append_right _ (List.mem_of_getElem? (i := 2) (by decide +kernel))) rfl
theorem ini_X6 : Cond.initialized RX6 ∈ gtbl := gtbl_of (List.mem_append_right _ (List.mem_of_getElem? (i := 7) (by decide +kernel))) rfl
theorem ini_X7 : Cond.initialized RX7 ∈ gtbl := gtbl_of (List.mem_append_right _ (List.mem_of_getElem? (i := 3) (by decide +kernel))) rfl
theorem ini_X8 : Cond.initialized RX8 ∈ gtbl := gtbl_of (List.mem_append_right _ (List.mem_of_getElem? (i := 1) (by decide +kernel))) rfl
theorem ini_X9 : Cond.initialized RX9 ∈ gtbl := gtbl_of (List.mem_append_right _ (List.mem_of_getElem? (i := 11) (by decide +kernel))) rfl
theorem ini_X10 : Cond.initialized RX10 ∈ gtbl := gtbl_of (List.mem_append_right _ (List.mem_of_getElem? (i := 10) (by decide +kernel))) rfl
theorem ini_L : Cond.initialized RL ∈ gtbl := gtbl_of (List.mem_append_right _ (List.mem_of_getElem? (i := 0) (by decide +kernel))) rfl
theorem ini_J6 : Cond.initialized RJ6 ∈ gtbl := gtbl_of (List.mem_append_right _ (List.mem_of_getElem? (i := 23) (by decide +kernel))) rfl
theorem ini_J9 : Cond.initialized RJ9 ∈ gtbl := gtbl_of (List.mem_append_right _ (List.mem_of_getElem? (i := 22) (by decide +kernel))) rfl
theorem ini_J7 : Cond.initialized RJ7 ∈ gtbl := gtbl_of (List.mem_append_right _ (List.mem_of_getElem? (i := 5) (by decide +kernel))) rfl
theorem ini_J0 : Cond.initialized RJ0 ∈ gtbl := gtbl_of (List.mem_append_right _ (List.mem_of_getElem? (i := 18) (by decide +kernel))) rfl
theorem cf_L_94 : CallF RL 94 yX8_init cX8_init 3 none 0 := ⟨cd_X8_init, gtbl_of (List.mem_append_right _ (List.mem_of_getElem? (i := 28) (by decide +kernel))) rfl, ini_X8, by decide +kernel⟩
theorem cf_X8_12 : CallF RX8 12 yX7_init cX7_init 1 none 0 := ⟨cd_X7_init, gtbl_of (List.mem_append_right _ (List.mem_of_getElem? (i := 51) (by decide +kernel))) rfl, ini_X7, by decide +kernel⟩
theorem cf_X7_45 : CallF RX7 45 yX7_clear cX7_clear 2 none 0 := ⟨cd_X7_clear, gtbl_of (List.mem_append_right _ (List.mem_of_getElem? (i := 87) (by decide +kernel))) rfl, ini_X7, by decide +kernel⟩
theorem cf_X7_48 : CallF RX7 48 yX7_resize cX7_resize 3 none 2 := ⟨cd_X7_resize, gtbl_of (List.mem_append_right _ (List.mem_of_getElem? (i := 91) (by decide +kernel))) rfl, ini_X7, by decide +kernel⟩
theorem cf_X7_59 : CallF RX7 59 yJ7_fill_53178 cJ7_fill_53178 4 none 2 := ⟨cd_J7_fill_53178, gtbl_of (List.mem_append_right _ (List.mem_of_getElem? (i := 95) (by decide +kernel))) rfl, ini_J7, by decide +kernel⟩
theorem cf_X7_65 : CallF RX7 65 yX1_clear cX1_clear 1 none 0 := ⟨cd_X1_clear, gtbl_of (List.mem_append_right _ (List.mem_of_getElem? (i := 98) (by decide +kernel))) rfl, ini_X1, by decide +kernel⟩
theorem cf_X8_21 : CallF RX8 21 yX3_init cX3_init 2 none 1 := ⟨cd_X3_init, gtbl_of (List.mem_append_right _ (List.mem_of_getElem? (i := 160) (by decide +kernel))) rfl, ini_X3, by decide +kernel⟩
theorem cf_X3_11 : CallF RX3 11 yX6_init cX6_init 2 none 1 := ⟨cd_X6_init, gtbl_of (List.mem_append_right _ (List.mem_of_getElem? (i := 166) (by decide +kernel))) rfl, ini_X6, by decide +kernel⟩
theorem cf_X3_22 : CallF RX3 22 yX7_init cX7_init 1 none 0 := ⟨cd_X7_init, gtbl_of (List.mem_append_right _ (List.mem_of_getElem? (i := 198) (by decide +kernel))) rfl, ini_X7, by decide +kernel⟩
theorem cf_X8_37 : CallF RX8 37 yX4_init cX4_init 2 none 1 := ⟨cd_X4_init, gtbl_of (List.mem_append_right _ (List.mem_of_getElem? (i := 233) (by decide +kernel))) rfl, ini_X4, by decide +kernel⟩
theorem cf_X4_35 : CallF RX4 35 yX4_begin cX4_begin 3 none 1 := ⟨cd_X4_begin, gtbl_of (List.mem_append_right _ (List.mem_of_getElem? (i := 237) (by decide +kernel))) rfl, ini_X4, by decide +kernel⟩
theorem cf_L_112 : CallF RL 112 yX8_teach cX8_teach 2 (some .int) 0 := ⟨cd_X8_teach, gtbl_of (List.mem_append_right _ (List.mem_of_getElem? (i := 319) (by decide +kernel))) rfl, ini_X8, by decide +kernel⟩
theorem cf_X8_74 : CallF RX8 74 yX3_read cX3_read 2 (some .int) 0 := ⟨cd_X3_read, gtbl_of (List.mem_append_right _ (List.mem_of_getElem? (i := 323) (by decide +kernel))) rfl, ini_X3, by decide +kernel⟩
theorem cf_X3_34 : CallF RX3 34 yX7_clear cX7_clear 2 none 0 := ⟨cd_X7_clear, gtbl_of (List.mem_append_right _ (List.mem_of_getElem? (i := 327) (by decide +kernel))) rfl, ini_X7, by decide +kernel⟩
theorem cf_X3_37 : CallF RX3 37 yX6_readAll cX6_readAll 2 none 0 := ⟨cd_X6_readAll, gtbl_of (List.mem_append_right _ (List.mem_of_getElem? (i := 328) (by decide +kernel))) rfl, ini_X6, by decide +kernel⟩
theorem cf_X6_38 : CallF RX6 38 yX6_skipBlanks cX6_skipBlanks 2 none 0 := ⟨cd_X6_skipBlanks, gtbl_of (List.mem_append_right _ (List.mem_of_getElem? (i := 332) (by decide +kernel))) rfl, ini_X6, by decide +kernel⟩
theorem cf_X6_41 : CallF RX6 41 yX5_byteAt cX5_byteAt 2 (some .int) 1 := ⟨cd_X5_byteAt, gtbl_of (List.mem_append_right _ (List.mem_of_getElem? (i := 336) (by decide +kernel))) rfl, ini_X5, by decide +kernel⟩
theorem cf_X6_71 : CallF RX6 71 yX6_isBlank cX6_isBlank 1 (some .boolean) 1 := ⟨cd_X6_isBlank, gtbl_of (List.mem_append_right _ (List.mem_of_getElem? (i := 340) (by decide +kernel))) rfl, ini_X6, by decide +kernel⟩
theorem cf_X6_47 : CallF RX6 47 yX6_readToken cX6_readToken 3 (some .int) 1 := ⟨cd_X6_readToken, gtbl_of (List.mem_append_right _ (List.mem_of_getElem? (i := 343) (by decide +kernel))) rfl, ini_X6, by decide +kernel⟩
theorem cf_X6_50 : CallF RX6 50 yX6_isLetter cX6_isLetter 1 (some .boolean) 1 := ⟨cd_X6_isLetter, gtbl_of (List.mem_append_right _ (List.mem_of_getElem? (i := 347) (by decide +kernel))) rfl, ini_X6, by decide +kernel⟩
theorem cf_X6_54 : CallF RX6 54 yX6_readWord cX6_readWord 5 (some .int) 0 := ⟨cd_X6_readWord, gtbl_of (List.mem_append_right _ (List.mem_of_getElem? (i := 350) (by decide +kernel))) rfl, ini_X6, by decide +kernel⟩
theorem cf_X6_74 : CallF RX6 74 yX6_isOfWord cX6_isOfWord 1 (some .boolean) 1 := ⟨cd_X6_isOfWord, gtbl_of (List.mem_append_right _ (List.mem_of_getElem? (i := 354) (by decide +kernel))) rfl, ini_X6, by decide +kernel⟩
theorem cf_X6_58 : CallF RX6 58 yX6_isDigit cX6_isDigit 1 (some .boolean) 1 := ⟨cd_X6_isDigit, gtbl_of (List.mem_append_right _ (List.mem_of_getElem? (i := 357) (by decide +kernel))) rfl, ini_X6, by decide +kernel⟩
theorem cf_X6_79 : CallF RX6 79 yX6_numberOfSign cX6_numberOfSign 1 (some .int) 1 := ⟨cd_X6_numberOfSign, gtbl_of (List.mem_append_right _ (List.mem_of_getElem? (i := 361) (by decide +kernel))) rfl, ini_X6, by decide +kernel⟩
theorem cf_X6_82 : CallF RX6 82 yX0_ofWord cX0_ofWord 4 (some .int) 3 := ⟨cd_X0_ofWord, gtbl_of (List.mem_append_right _ (List.mem_of_getElem? (i := 364) (by decide +kernel))) rfl, ini_X0, by decide +kernel⟩
theorem cf_X0_11 : CallF RX0 11 yJ0_length_8abf5 cJ0_length_8abf5 1 (some .int) 0 := ⟨cd_J0_length_8abf5, gtbl_of (List.mem_append_right _ (List.mem_of_getElem? (i := 368) (by decide +kernel))) rfl, ini_J0, by decide +kernel⟩
theorem cf_X0_17 : CallF RX0 17 yX0_isWord cX0_isWord 5 (some .boolean) 4 := ⟨cd_X0_isWord, gtbl_of (List.mem_append_right _ (List.mem_of_getElem? (i := 378) (by decide +kernel))) rfl, ini_X0, by decide +kernel⟩
theorem cf_X0_21 : CallF RX0 21 yJ0_charAt_5068e cJ0_charAt_5068e 2 (some .char) 1 := ⟨cd_J0_charAt_5068e, gtbl_of (List.mem_append_right _ (List.mem_of_getElem? (i := 381) (by decide +kernel))) rfl, ini_J0, by decide +kernel⟩
theorem cf_X0_25 : CallF RX0 25 yX5_byteAt cX5_byteAt 2 (some .int) 1 := ⟨cd_X5_byteAt, gtbl_of (List.mem_append_right _ (List.mem_of_getElem? (i := 419) (by decide +kernel))) rfl, ini_X5, by decide +kernel⟩
theorem cf_X6_61 : CallF RX6 61 yX6_readNumber cX6_readNumber 4 (some .int) 0 := ⟨cd_X6_readNumber, gtbl_of (List.mem_append_right _ (List.mem_of_getElem? (i := 420) (by decide +kernel))) rfl, ini_X6, by decide +kernel⟩
theorem cf_X6_64 : CallF RX6 64 yX0_ofSign cX0_ofSign 3 (some .int) 2 := ⟨cd_X0_ofSign, gtbl_of (List.mem_append_right _ (List.mem_of_getElem? (i := 424) (by decide +kernel))) rfl, ini_X0, by decide +kernel⟩
theorem cf_X6_68 : CallF RX6 68 yX0_lengthOfSign cX0_lengthOfSign 1 (some .int) 1 := ⟨cd_X0_lengthOfSign, gtbl_of (List.mem_append_right _ (List.mem_of_getElem? (i := 428) (by decide +kernel))) rfl, ini_X0, by decide +kernel⟩
theorem cf_X3_50 : CallF RX3 50 yX3_readSize cX3_readSize 3 none 0 := ⟨cd_X3_readSize, gtbl_of (List.mem_append_right _ (List.mem_of_getElem? (i := 431) (by decide +kernel))) rfl, ini_X3, by decide +kernel⟩
theorem cf_X3_58 : CallF RX3 58 yX3_expect cX3_expect 2 none 1 := ⟨cd_X3_expect, gtbl_of (List.mem_append_right _ (List.mem_of_getElem? (i := 435) (by decide +kernel))) rfl, ini_X3, by decide +kernel⟩
theorem cf_X3_68 : CallF RX3 68 yX3_advance cX3_advance 1 none 0 := ⟨cd_X3_advance, gtbl_of (List.mem_append_right _ (List.mem_of_getElem? (i := 439) (by decide +kernel))) rfl, ini_X3, by decide +kernel⟩
theorem cf_X3_71 : CallF RX3 71 yX3_refuse cX3_refuse 1 none 0 := ⟨cd_X3_refuse, gtbl_of (List.mem_append_right _ (List.mem_of_getElem? (i := 443) (by decide +kernel))) rfl, ini_X3, by decide +kernel⟩
theorem cf_X3_80 : CallF RX3 80 yX3_expectNumber cX3_expectNumber 4 (some .int) 2 := ⟨cd_X3_expectNumber, gtbl_of (List.mem_append_right _ (List.mem_of_getElem? (i := 447) (by decide +kernel))) rfl, ini_X3, by decide +kernel⟩
theorem cf_X3_77 : CallF RX3 77 yX3_complain cX3_complain 2 none 1 := ⟨cd_X3_complain, gtbl_of (List.mem_append_right _ (List.mem_of_getElem? (i := 451) (by decide +kernel))) rfl, ini_X3, by decide +kernel⟩
theorem cf_X3_84 : CallF RX3 84 yX7_resize cX7_resize 3 none 2 := ⟨cd_X7_resize, gtbl_of (List.mem_append_right _ (List.mem_of_getElem? (i := 455) (by decide +kernel))) rfl, ini_X7, by decide +kernel⟩
theorem cf_X3_55 : CallF RX3 55 yX3_readLine cX3_readLine 1 none 0 := ⟨cd_X3_readLine, gtbl_of (List.mem_append_right _ (List.mem_of_getElem? (i := 456) (by decide +kernel))) rfl, ini_X3, by decide +kernel⟩
theorem cf_X3_88 : CallF RX3 88 yX3_readEmpire cX3_readEmpire 5 none 0 := ⟨cd_X3_readEmpire, gtbl_of (List.mem_append_right _ (List.mem_of_getElem? (i := 460) (by decide +kernel))) rfl, ini_X3, by decide +kernel⟩
theorem cf_X3_107 : CallF RX3 107 yX7_empireNamed cX7_empireNamed 4 (some .int) 1 := ⟨cd_X7_empireNamed, gtbl_of (List.mem_append_right _ (List.mem_of_getElem? (i := 464) (by decide +kernel))) rfl, ini_X7, by decide +kernel⟩
theorem cf_X3_114 : CallF RX3 114 yX7_addEmpire cX7_addEmpire 5 none 3 := ⟨cd_X7_addEmpire, gtbl_of (List.mem_append_right _ (List.mem_of_getElem? (i := 468) (by decide +kernel))) rfl, ini_X7, by decide +kernel⟩
theorem cf_X3_91 : CallF RX3 91 yX3_readCoin cX3_readCoin 3 none 0 := ⟨cd_X3_readCoin, gtbl_of (List.mem_append_right _ (List.mem_of_getElem? (i := 472) (by decide +kernel))) rfl, ini_X3, by decide +kernel⟩
theorem cf_X3_118 : CallF RX3 118 yX3_startFind cX3_startFind 1 none 0 := ⟨cd_X3_startFind, gtbl_of (List.mem_append_right _ (List.mem_of_getElem? (i := 476) (by decide +kernel))) rfl, ini_X3, by decide +kernel⟩
theorem cf_X3_121 : CallF RX3 121 yX3_readPlace cX3_readPlace 4 (some .int) 1 := ⟨cd_X3_readPlace, gtbl_of (List.mem_append_right _ (List.mem_of_getElem? (i := 480) (by decide +kernel))) rfl, ini_X3, by decide +kernel⟩
theorem cf_X3_142 : CallF RX3 142 yX7_cushionTold cX7_cushionTold 3 (some .int) 2 := ⟨cd_X7_cushionTold, gtbl_of (List.mem_append_right _ (List.mem_of_getElem? (i := 484) (by decide +kernel))) rfl, ini_X7, by decide +kernel⟩
theorem cf_X3_145 : CallF RX3 145 yX7_hasSpring cX7_hasSpring 2 (some .boolean) 1 := ⟨cd_X7_hasSpring, gtbl_of (List.mem_append_right _ (List.mem_of_getElem? (i := 488) (by decide +kernel))) rfl, ini_X7, by decide +kernel⟩
theorem cf_X7_72 : CallF RX7 72 yX7_isCushion cX7_isCushion 1 (some .boolean) 1 := ⟨cd_X7_isCushion, gtbl_of (List.mem_append_right _ (List.mem_of_getElem? (i := 492) (by decide +kernel))) rfl, ini_X7, by decide +kernel⟩
theorem cf_X3_149 : CallF RX3 149 yX7_findIn cX7_findIn 2 (some .int) 1 := ⟨cd_X7_findIn, gtbl_of (List.mem_append_right _ (List.mem_of_getElem? (i := 495) (by decide +kernel))) rfl, ini_X7, by decide +kernel⟩
theorem cf_X3_125 : CallF RX3 125 yX7_addFind cX7_addFind 4 none 3 := ⟨cd_X7_addFind, gtbl_of (List.mem_append_right _ (List.mem_of_getElem? (i := 499) (by decide +kernel))) rfl, ini_X7, by decide +kernel⟩
theorem cf_X3_94 : CallF RX3 94 yX3_readCrumbs cX3_readCrumbs 3 none 0 := ⟨cd_X3_readCrumbs, gtbl_of (List.mem_append_right _ (List.mem_of_getElem? (i := 503) (by decide +kernel))) rfl, ini_X3, by decide +kernel⟩
theorem cf_X3_129 : CallF RX3 129 yX3_readKnownEmpire cX3_readKnownEmpire 2 (some .int) 0 := ⟨cd_X3_readKnownEmpire, gtbl_of (List.mem_append_right _ (List.mem_of_getElem? (i := 507) (by decide +kernel))) rfl, ini_X3, by decide +kernel⟩
theorem cf_X3_97 : CallF RX3 97 yX3_readSpring cX3_readSpring 2 none 0 := ⟨cd_X3_readSpring, gtbl_of (List.mem_append_right _ (List.mem_of_getElem? (i := 511) (by decide +kernel))) rfl, ini_X3, by decide +kernel⟩
theorem cf_X3_136 : CallF RX3 136 yX7_addSpring cX7_addSpring 2 none 1 := ⟨cd_X7_addSpring, gtbl_of (List.mem_append_right _ (List.mem_of_getElem? (i := 515) (by decide +kernel))) rfl, ini_X7, by decide +kernel⟩
theorem cf_X3_100 : CallF RX3 100 yX3_readOrder cX3_readOrder 3 none 0 := ⟨cd_X3_readOrder, gtbl_of (List.mem_append_right _ (List.mem_of_getElem? (i := 519) (by decide +kernel))) rfl, ini_X3, by decide +kernel⟩
theorem cf_X3_165 : CallF RX3 165 yX3_readSum cX3_readSum 4 none 1 := ⟨cd_X3_readSum, gtbl_of (List.mem_append_right _ (List.mem_of_getElem? (i := 523) (by decide +kernel))) rfl, ini_X3, by decide +kernel⟩
theorem cf_X3_193 : CallF RX3 193 yX3_readProduct cX3_readProduct 4 none 1 := ⟨cd_X3_readProduct, gtbl_of (List.mem_append_right _ (List.mem_of_getElem? (i := 527) (by decide +kernel))) rfl, ini_X3, by decide +kernel⟩
theorem cf_X3_196 : CallF RX3 196 yX3_readValue cX3_readValue 3 none 1 := ⟨cd_X3_readValue, gtbl_of (List.mem_append_right _ (List.mem_of_getElem? (i := 531) (by decide +kernel))) rfl, ini_X3, by decide +kernel⟩
theorem cf_X3_180 : CallF RX3 180 yX1_addStep cX1_addStep 3 none 2 := ⟨cd_X1_addStep, gtbl_of (List.mem_append_right _ (List.mem_of_getElem? (i := 535) (by decide +kernel))) rfl, ini_X1, by decide +kernel⟩
theorem cf_X3_199 : CallF RX3 199 yX3_readEnclosed cX3_readEnclosed 2 none 1 := ⟨cd_X3_readEnclosed, gtbl_of (List.mem_append_right _ (List.mem_of_getElem? (i := 539) (by decide +kernel))) rfl, ini_X3, by decide +kernel⟩
theorem cf_X3_186 : CallF RX3 186 yX3_goesDeeper cX3_goesDeeper 3 (some .boolean) 2 := ⟨cd_X3_goesDeeper, gtbl_of (List.mem_append_right _ (List.mem_of_getElem? (i := 543) (by decide +kernel))) rfl, ini_X3, by decide +kernel⟩
theorem cf_X3_202 : CallF RX3 202 yX3_readPair cX3_readPair 2 none 1 := ⟨cd_X3_readPair, gtbl_of (List.mem_append_right _ (List.mem_of_getElem? (i := 547) (by decide +kernel))) rfl, ini_X3, by decide +kernel⟩
theorem cf_X3_171 : CallF RX3 171 yX3_readTest cX3_readTest 3 none 1 := ⟨cd_X3_readTest, gtbl_of (List.mem_append_right _ (List.mem_of_getElem? (i := 551) (by decide +kernel))) rfl, ini_X3, by decide +kernel⟩
theorem cf_X3_177 : CallF RX3 177 yX3_readBoth cX3_readBoth 3 none 1 := ⟨cd_X3_readBoth, gtbl_of (List.mem_append_right _ (List.mem_of_getElem? (i := 555) (by decide +kernel))) rfl, ini_X3, by decide +kernel⟩
theorem cf_X3_183 : CallF RX3 183 yX3_readSingle cX3_readSingle 3 none 1 := ⟨cd_X3_readSingle, gtbl_of (List.mem_append_right _ (List.mem_of_getElem? (i := 559) (by decide +kernel))) rfl, ini_X3, by decide +kernel⟩
theorem cf_X3_190 : CallF RX3 190 yX3_expectComparison cX3_expectComparison 1 none 0 := ⟨cd_X3_expectComparison, gtbl_of (List.mem_append_right _ (List.mem_of_getElem? (i := 563) (by decide +kernel))) rfl, ini_X3, by decide +kernel⟩
theorem cf_X3_174 : CallF RX3 174 yX1_addOrder cX1_addOrder 3 none 2 := ⟨cd_X1_addOrder, gtbl_of (List.mem_append_right _ (List.mem_of_getElem? (i := 567) (by decide +kernel))) rfl, ini_X1, by decide +kernel⟩
theorem cf_X8_78 : CallF RX8 78 yX3_errorPlace cX3_errorPlace 1 (some .int) 0 := ⟨cd_X3_errorPlace, gtbl_of (List.mem_append_right _ (List.mem_of_getElem? (i := 571) (by decide +kernel))) rfl, ini_X3, by decide +kernel⟩
theorem cf_X8_80 : CallF RX8 80 yX3_exchange cX3_exchange 3 (some (Jvm.ClassFile.FieldType.object "SofaDig$Told")) 1 := ⟨cd_X3_exchange, gtbl_of (List.mem_append_right _ (List.mem_of_getElem? (i := 575) (by decide +kernel))) rfl, ini_X3, by decide +kernel⟩
theorem cf_X8_84 : CallF RX8 84 yX4_begin cX4_begin 3 none 1 := ⟨cd_X4_begin, gtbl_of (List.mem_append_right _ (List.mem_of_getElem? (i := 579) (by decide +kernel))) rfl, ini_X4, by decide +kernel⟩
theorem cf_L_116 : CallF RL 116 yX8_errorAt cX8_errorAt 1 (some .int) 0 := ⟨cd_X8_errorAt, gtbl_of (List.mem_append_right _ (List.mem_of_getElem? (i := 580) (by decide +kernel))) rfl, ini_X8, by decide +kernel⟩
theorem cf_L_120 : CallF RL 120 yX8_seats cX8_seats 1 (some .int) 0 := ⟨cd_X8_seats, gtbl_of (List.mem_append_right _ (List.mem_of_getElem? (i := 584) (by decide +kernel))) rfl, ini_X8, by decide +kernel⟩
theorem cf_L_124 : CallF RL 124 yX8_strata cX8_strata 1 (some .int) 0 := ⟨cd_X8_strata, gtbl_of (List.mem_append_right _ (List.mem_of_getElem? (i := 588) (by decide +kernel))) rfl, ini_X8, by decide +kernel⟩
theorem cf_L_128 : CallF RL 128 yX8_finds cX8_finds 1 (some .int) 0 := ⟨cd_X8_finds, gtbl_of (List.mem_append_right _ (List.mem_of_getElem? (i := 592) (by decide +kernel))) rfl, ini_X8, by decide +kernel⟩
theorem cf_L_132 : CallF RL 132 yX8_days cX8_days 1 (some .int) 0 := ⟨cd_X8_days, gtbl_of (List.mem_append_right _ (List.mem_of_getElem? (i := 596) (by decide +kernel))) rfl, ini_X8, by decide +kernel⟩
theorem cf_L_136 : CallF RL 136 yX8_ordersCarriedOut cX8_ordersCarriedOut 1 (some .int) 0 := ⟨cd_X8_ordersCarriedOut, gtbl_of (List.mem_append_right _ (List.mem_of_getElem? (i := 600) (by decide +kernel))) rfl, ini_X8, by decide +kernel⟩
theorem cf_L_140 : CallF RL 140 yX8_cushionsDug cX8_cushionsDug 1 (some .int) 0 := ⟨cd_X8_cushionsDug, gtbl_of (List.mem_append_right _ (List.mem_of_getElem? (i := 604) (by decide +kernel))) rfl, ini_X8, by decide +kernel⟩
theorem cf_L_144 : CallF RL 144 yX8_slides cX8_slides 1 (some .int) 0 := ⟨cd_X8_slides, gtbl_of (List.mem_append_right _ (List.mem_of_getElem? (i := 608) (by decide +kernel))) rfl, ini_X8, by decide +kernel⟩
theorem cf_L_148 : CallF RL 148 yX8_found cX8_found 1 (some .int) 0 := ⟨cd_X8_found, gtbl_of (List.mem_append_right _ (List.mem_of_getElem? (i := 612) (by decide +kernel))) rfl, ini_X8, by decide +kernel⟩
theorem cf_L_152 : CallF RL 152 yX8_sureFinds cX8_sureFinds 1 (some .int) 0 := ⟨cd_X8_sureFinds, gtbl_of (List.mem_append_right _ (List.mem_of_getElem? (i := 616) (by decide +kernel))) rfl, ini_X8, by decide +kernel⟩
theorem cf_L_156 : CallF RL 156 yX8_props cX8_props 1 (some .int) 0 := ⟨cd_X8_props, gtbl_of (List.mem_append_right _ (List.mem_of_getElem? (i := 620) (by decide +kernel))) rfl, ini_X8, by decide +kernel⟩
theorem cf_L_230 : CallF RL 230 yX8_bestDig cX8_bestDig 7 (some .int) 0 := ⟨cd_X8_bestDig, gtbl_of (List.mem_append_right _ (List.mem_of_getElem? (i := 624) (by decide +kernel))) rfl, ini_X8, by decide +kernel⟩
theorem cf_X8_120 : CallF RX8 120 yX4_heightAt cX4_heightAt 2 (some .int) 1 := ⟨cd_X4_heightAt, gtbl_of (List.mem_append_right _ (List.mem_of_getElem? (i := 628) (by decide +kernel))) rfl, ini_X4, by decide +kernel⟩
theorem cf_X8_229 : CallF RX8 229 yX8_slidesOfDig cX8_slidesOfDig 2 (some .int) 1 := ⟨cd_X8_slidesOfDig, gtbl_of (List.mem_append_right _ (List.mem_of_getElem? (i := 632) (by decide +kernel))) rfl, ini_X8, by decide +kernel⟩
theorem cf_X8_225 : CallF RX8 225 yX4_copyFrom cX4_copyFrom 3 none 1 := ⟨cd_X4_copyFrom, gtbl_of (List.mem_append_right _ (List.mem_of_getElem? (i := 636) (by decide +kernel))) rfl, ini_X4, by decide +kernel⟩
theorem cf_X8_202 : CallF RX8 202 yX4_digSeat cX4_digSeat 4 (some .int) 1 := ⟨cd_X4_digSeat, gtbl_of (List.mem_append_right _ (List.mem_of_getElem? (i := 640) (by decide +kernel))) rfl, ini_X4, by decide +kernel⟩
theorem cf_X4_114 : CallF RX4 114 yX4_topOf cX4_topOf 2 (some .int) 1 := ⟨cd_X4_topOf, gtbl_of (List.mem_append_right _ (List.mem_of_getElem? (i := 644) (by decide +kernel))) rfl, ini_X4, by decide +kernel⟩
theorem cf_X4_69 : CallF RX4 69 yX4_heightAt cX4_heightAt 2 (some .int) 1 := ⟨cd_X4_heightAt, gtbl_of (List.mem_append_right _ (List.mem_of_getElem? (i := 648) (by decide +kernel))) rfl, ini_X4, by decide +kernel⟩
theorem cf_X4_73 : CallF RX4 73 yX4_cushionAt cX4_cushionAt 3 (some .int) 2 := ⟨cd_X4_cushionAt, gtbl_of (List.mem_append_right _ (List.mem_of_getElem? (i := 649) (by decide +kernel))) rfl, ini_X4, by decide +kernel⟩
theorem cf_X4_77 : CallF RX4 77 yX7_findIn cX7_findIn 2 (some .int) 1 := ⟨cd_X7_findIn, gtbl_of (List.mem_append_right _ (List.mem_of_getElem? (i := 653) (by decide +kernel))) rfl, ini_X7, by decide +kernel⟩
theorem cf_X4_117 : CallF RX4 117 yX4_isLoose cX4_isLoose 2 (some .boolean) 1 := ⟨cd_X4_isLoose, gtbl_of (List.mem_append_right _ (List.mem_of_getElem? (i := 654) (by decide +kernel))) rfl, ini_X4, by decide +kernel⟩
theorem cf_X4_120 : CallF RX4 120 yX4_noteFind cX4_noteFind 3 none 2 := ⟨cd_X4_noteFind, gtbl_of (List.mem_append_right _ (List.mem_of_getElem? (i := 658) (by decide +kernel))) rfl, ini_X4, by decide +kernel⟩
theorem cf_X4_124 : CallF RX4 124 yX4_settle cX4_settle 3 none 0 := ⟨cd_X4_settle, gtbl_of (List.mem_append_right _ (List.mem_of_getElem? (i := 662) (by decide +kernel))) rfl, ini_X4, by decide +kernel⟩
theorem cf_X4_134 : CallF RX4 134 yX4_slidesOnto cX4_slidesOnto 3 (some .boolean) 2 := ⟨cd_X4_slidesOnto, gtbl_of (List.mem_append_right _ (List.mem_of_getElem? (i := 667) (by decide +kernel))) rfl, ini_X4, by decide +kernel⟩
theorem cf_X4_127 : CallF RX4 127 yX4_hasProp cX4_hasProp 2 (some .boolean) 1 := ⟨cd_X4_hasProp, gtbl_of (List.mem_append_right _ (List.mem_of_getElem? (i := 671) (by decide +kernel))) rfl, ini_X4, by decide +kernel⟩
theorem cf_X4_141 : CallF RX4 141 yX7_hasSpring cX7_hasSpring 2 (some .boolean) 1 := ⟨cd_X7_hasSpring, gtbl_of (List.mem_append_right _ (List.mem_of_getElem? (i := 675) (by decide +kernel))) rfl, ini_X7, by decide +kernel⟩
theorem cf_X4_137 : CallF RX4 137 yX4_moveTop cX4_moveTop 5 none 2 := ⟨cd_X4_moveTop, gtbl_of (List.mem_append_right _ (List.mem_of_getElem? (i := 676) (by decide +kernel))) rfl, ini_X4, by decide +kernel⟩
theorem cf_X8_143 : CallF RX8 143 yX4_findsInStack cX4_findsInStack 4 (some .int) 1 := ⟨cd_X4_findsInStack, gtbl_of (List.mem_append_right _ (List.mem_of_getElem? (i := 680) (by decide +kernel))) rfl, ini_X4, by decide +kernel⟩
theorem cf_L_234 : CallF RL 234 yX8_meanYear cX8_meanYear 4 (some .double) 0 := ⟨cd_X8_meanYear, gtbl_of (List.mem_append_right _ (List.mem_of_getElem? (i := 684) (by decide +kernel))) rfl, ini_X8, by decide +kernel⟩
theorem cf_X8_149 : CallF RX8 149 yX7_tellsCoin cX7_tellsCoin 2 (some .boolean) 1 := ⟨cd_X7_tellsCoin, gtbl_of (List.mem_append_right _ (List.mem_of_getElem? (i := 688) (by decide +kernel))) rfl, ini_X7, by decide +kernel⟩
theorem cf_X7_82 : CallF RX7 82 yX7_isFind cX7_isFind 2 (some .boolean) 1 := ⟨cd_X7_isFind, gtbl_of (List.mem_append_right _ (List.mem_of_getElem? (i := 692) (by decide +kernel))) rfl, ini_X7, by decide +kernel⟩
theorem cf_X8_157 : CallF RX8 157 yX4_wasSure cX4_wasSure 2 (some .boolean) 1 := ⟨cd_X4_wasSure, gtbl_of (List.mem_append_right _ (List.mem_of_getElem? (i := 696) (by decide +kernel))) rfl, ini_X4, by decide +kernel⟩
theorem cf_X8_165 : CallF RX8 165 yX7_coinYear cX7_coinYear 2 (some .int) 1 := ⟨cd_X7_coinYear, gtbl_of (List.mem_append_right _ (List.mem_of_getElem? (i := 700) (by decide +kernel))) rfl, ini_X7, by decide +kernel⟩
theorem cf_X7_92 : CallF RX7 92 yX7_tellsCoin cX7_tellsCoin 2 (some .boolean) 1 := ⟨cd_X7_tellsCoin, gtbl_of (List.mem_append_right _ (List.mem_of_getElem? (i := 704) (by decide +kernel))) rfl, ini_X7, by decide +kernel⟩
theorem cf_L_239 : CallF RL 239 yX8_digest cX8_digest 3 (some .long) 0 := ⟨cd_X8_digest, gtbl_of (List.mem_append_right _ (List.mem_of_getElem? (i := 705) (by decide +kernel))) rfl, ini_X8, by decide +kernel⟩
theorem cf_X8_236 : CallF RX8 236 yX8_bestDig cX8_bestDig 7 (some .int) 0 := ⟨cd_X8_bestDig, gtbl_of (List.mem_append_right _ (List.mem_of_getElem? (i := 711) (by decide +kernel))) rfl, ini_X8, by decide +kernel⟩
theorem cf_X8_239 : CallF RX8 239 yX8_digestSeats cX8_digestSeats 6 (some .long) 1 := ⟨cd_X8_digestSeats, gtbl_of (List.mem_append_right _ (List.mem_of_getElem? (i := 712) (by decide +kernel))) rfl, ini_X8, by decide +kernel⟩
theorem cf_X8_124 : CallF RX8 124 yX4_hasProp cX4_hasProp 2 (some .boolean) 1 := ⟨cd_X4_hasProp, gtbl_of (List.mem_append_right _ (List.mem_of_getElem? (i := 716) (by decide +kernel))) rfl, ini_X4, by decide +kernel⟩
theorem cf_X8_131 : CallF RX8 131 yX4_topOf cX4_topOf 2 (some .int) 1 := ⟨cd_X4_topOf, gtbl_of (List.mem_append_right _ (List.mem_of_getElem? (i := 717) (by decide +kernel))) rfl, ini_X4, by decide +kernel⟩
theorem cf_X8_134 : CallF RX8 134 yX7_stratumOfCushion cX7_stratumOfCushion 2 (some .int) 1 := ⟨cd_X7_stratumOfCushion, gtbl_of (List.mem_append_right _ (List.mem_of_getElem? (i := 718) (by decide +kernel))) rfl, ini_X7, by decide +kernel⟩
theorem cf_X8_243 : CallF RX8 243 yX8_digestFinds cX8_digestFinds 6 (some .long) 1 := ⟨cd_X8_digestFinds, gtbl_of (List.mem_append_right _ (List.mem_of_getElem? (i := 722) (by decide +kernel))) rfl, ini_X8, by decide +kernel⟩
theorem cf_X8_152 : CallF RX8 152 yX4_wasFound cX4_wasFound 2 (some .boolean) 1 := ⟨cd_X4_wasFound, gtbl_of (List.mem_append_right _ (List.mem_of_getElem? (i := 726) (by decide +kernel))) rfl, ini_X4, by decide +kernel⟩
theorem cf_X8_246 : CallF RX8 246 yX8_digestStrata cX8_digestStrata 6 (some .long) 1 := ⟨cd_X8_digestStrata, gtbl_of (List.mem_append_right _ (List.mem_of_getElem? (i := 730) (by decide +kernel))) rfl, ini_X8, by decide +kernel⟩
theorem cf_X8_184 : CallF RX8 184 yX4_earliestYear cX4_earliestYear 4 (some .int) 1 := ⟨cd_X4_earliestYear, gtbl_of (List.mem_append_right _ (List.mem_of_getElem? (i := 734) (by decide +kernel))) rfl, ini_X4, by decide +kernel⟩
theorem cf_X4_83 : CallF RX4 83 yX4_wasSure cX4_wasSure 2 (some .boolean) 1 := ⟨cd_X4_wasSure, gtbl_of (List.mem_append_right _ (List.mem_of_getElem? (i := 738) (by decide +kernel))) rfl, ini_X4, by decide +kernel⟩
theorem cf_X4_87 : CallF RX4 87 yX7_stratumOfFind cX7_stratumOfFind 2 (some .int) 1 := ⟨cd_X7_stratumOfFind, gtbl_of (List.mem_append_right _ (List.mem_of_getElem? (i := 739) (by decide +kernel))) rfl, ini_X7, by decide +kernel⟩
theorem cf_X7_85 : CallF RX7 85 yX7_cushionOf cX7_cushionOf 2 (some .int) 1 := ⟨cd_X7_cushionOf, gtbl_of (List.mem_append_right _ (List.mem_of_getElem? (i := 743) (by decide +kernel))) rfl, ini_X7, by decide +kernel⟩
theorem cf_X7_89 : CallF RX7 89 yX7_stratumOfCushion cX7_stratumOfCushion 2 (some .int) 1 := ⟨cd_X7_stratumOfCushion, gtbl_of (List.mem_append_right _ (List.mem_of_getElem? (i := 747) (by decide +kernel))) rfl, ini_X7, by decide +kernel⟩
theorem cf_X4_90 : CallF RX4 90 yX7_earliestYearOf cX7_earliestYearOf 2 (some .int) 1 := ⟨cd_X7_earliestYearOf, gtbl_of (List.mem_append_right _ (List.mem_of_getElem? (i := 748) (by decide +kernel))) rfl, ini_X7, by decide +kernel⟩
theorem cf_X7_98 : CallF RX7 98 yX7_coinYear cX7_coinYear 2 (some .int) 1 := ⟨cd_X7_coinYear, gtbl_of (List.mem_append_right _ (List.mem_of_getElem? (i := 752) (by decide +kernel))) rfl, ini_X7, by decide +kernel⟩
theorem cf_X7_101 : CallF RX7 101 yX7_crumbsEmpire cX7_crumbsEmpire 2 (some .int) 1 := ⟨cd_X7_crumbsEmpire, gtbl_of (List.mem_append_right _ (List.mem_of_getElem? (i := 753) (by decide +kernel))) rfl, ini_X7, by decide +kernel⟩
theorem cf_X7_104 : CallF RX7 104 yX7_fromOf cX7_fromOf 2 (some .int) 1 := ⟨cd_X7_fromOf, gtbl_of (List.mem_append_right _ (List.mem_of_getElem? (i := 757) (by decide +kernel))) rfl, ini_X7, by decide +kernel⟩
theorem cf_X7_95 : CallF RX7 95 yX7_isEmpire cX7_isEmpire 2 (some .boolean) 1 := ⟨cd_X7_isEmpire, gtbl_of (List.mem_append_right _ (List.mem_of_getElem? (i := 761) (by decide +kernel))) rfl, ini_X7, by decide +kernel⟩
theorem cf_X4_93 : CallF RX4 93 yJ9_max_7cf53 cJ9_max_7cf53 2 (some .int) 2 := ⟨cd_J9_max_7cf53, gtbl_of (List.mem_append_right _ (List.mem_of_getElem? (i := 765) (by decide +kernel))) rfl, ini_J9, by decide +kernel⟩
theorem cf_X8_199 : CallF RX8 199 yX4_showsMixture cX4_showsMixture 4 (some .boolean) 1 := ⟨cd_X4_showsMixture, gtbl_of (List.mem_append_right _ (List.mem_of_getElem? (i := 768) (by decide +kernel))) rfl, ini_X4, by decide +kernel⟩
theorem cf_X4_104 : CallF RX4 104 yX7_toOf cX7_toOf 2 (some .int) 1 := ⟨cd_X7_toOf, gtbl_of (List.mem_append_right _ (List.mem_of_getElem? (i := 772) (by decide +kernel))) rfl, ini_X7, by decide +kernel⟩
theorem cf_X4_107 : CallF RX4 107 yX7_fromOf cX7_fromOf 2 (some .int) 1 := ⟨cd_X7_fromOf, gtbl_of (List.mem_append_right _ (List.mem_of_getElem? (i := 776) (by decide +kernel))) rfl, ini_X7, by decide +kernel⟩
theorem cf_X4_110 : CallF RX4 110 yX4_sawEmpire cX4_sawEmpire 4 (some .boolean) 2 := ⟨cd_X4_sawEmpire, gtbl_of (List.mem_append_right _ (List.mem_of_getElem? (i := 777) (by decide +kernel))) rfl, ini_X4, by decide +kernel⟩
theorem cf_X4_98 : CallF RX4 98 yX7_crumbsEmpire cX7_crumbsEmpire 2 (some .int) 1 := ⟨cd_X7_crumbsEmpire, gtbl_of (List.mem_append_right _ (List.mem_of_getElem? (i := 781) (by decide +kernel))) rfl, ini_X7, by decide +kernel⟩
theorem cf_L_7 : CallF RL 7 yX8_feed cX8_feed 6 (some .int) 5 := ⟨cd_X8_feed, gtbl_of (List.mem_append_right _ (List.mem_of_getElem? (i := 786) (by decide +kernel))) rfl, ini_X8, by decide +kernel⟩
theorem cf_X8_65 : CallF RX8 65 yX5_append cX5_append 3 none 1 := ⟨cd_X5_append, gtbl_of (List.mem_append_right _ (List.mem_of_getElem? (i := 857) (by decide +kernel))) rfl, ini_X5, by decide +kernel⟩
theorem cf_L_15 : CallF RL 15 yX8_trim cX8_trim 2 (some .int) 1 := ⟨cd_X8_trim, gtbl_of (List.mem_append_right _ (List.mem_of_getElem? (i := 865) (by decide +kernel))) rfl, ini_X8, by decide +kernel⟩
theorem cf_L_21 : CallF RL 21 yX8_heightOf cX8_heightOf 2 (some .int) 1 := ⟨cd_X8_heightOf, gtbl_of (List.mem_append_right _ (List.mem_of_getElem? (i := 889) (by decide +kernel))) rfl, ini_X8, by decide +kernel⟩
theorem cf_X8_117 : CallF RX8 117 yX8_needSeat cX8_needSeat 2 none 1 := ⟨cd_X8_needSeat, gtbl_of (List.mem_append_right _ (List.mem_of_getElem? (i := 893) (by decide +kernel))) rfl, ini_X8, by decide +kernel⟩
theorem cf_L_26 : CallF RL 26 yX8_isPropped cX8_isPropped 2 (some .boolean) 1 := ⟨cd_X8_isPropped, gtbl_of (List.mem_append_right _ (List.mem_of_getElem? (i := 916) (by decide +kernel))) rfl, ini_X8, by decide +kernel⟩
theorem cf_L_30 : CallF RL 30 yX8_topStratum cX8_topStratum 2 (some .int) 1 := ⟨cd_X8_topStratum, gtbl_of (List.mem_append_right _ (List.mem_of_getElem? (i := 923) (by decide +kernel))) rfl, ini_X8, by decide +kernel⟩
theorem cf_X8_128 : CallF RX8 128 yX8_needCushion cX8_needCushion 2 none 1 := ⟨cd_X8_needCushion, gtbl_of (List.mem_append_right _ (List.mem_of_getElem? (i := 927) (by decide +kernel))) rfl, ini_X8, by decide +kernel⟩
theorem cf_L_33 : CallF RL 33 yX8_isTopLoose cX8_isTopLoose 2 (some .boolean) 1 := ⟨cd_X8_isTopLoose, gtbl_of (List.mem_append_right _ (List.mem_of_getElem? (i := 935) (by decide +kernel))) rfl, ini_X8, by decide +kernel⟩
theorem cf_X8_137 : CallF RX8 137 yX4_isLoose cX4_isLoose 2 (some .boolean) 1 := ⟨cd_X4_isLoose, gtbl_of (List.mem_append_right _ (List.mem_of_getElem? (i := 939) (by decide +kernel))) rfl, ini_X4, by decide +kernel⟩
theorem cf_L_36 : CallF RL 36 yX8_hasTopSpring cX8_hasTopSpring 2 (some .boolean) 1 := ⟨cd_X8_hasTopSpring, gtbl_of (List.mem_append_right _ (List.mem_of_getElem? (i := 943) (by decide +kernel))) rfl, ini_X8, by decide +kernel⟩
theorem cf_X8_140 : CallF RX8 140 yX7_hasSpring cX7_hasSpring 2 (some .boolean) 1 := ⟨cd_X7_hasSpring, gtbl_of (List.mem_append_right _ (List.mem_of_getElem? (i := 947) (by decide +kernel))) rfl, ini_X7, by decide +kernel⟩
theorem cf_L_39 : CallF RL 39 yX8_findsLeft cX8_findsLeft 2 (some .int) 1 := ⟨cd_X8_findsLeft, gtbl_of (List.mem_append_right _ (List.mem_of_getElem? (i := 951) (by decide +kernel))) rfl, ini_X8, by decide +kernel⟩
theorem cf_L_42 : CallF RL 42 yX8_isCoin cX8_isCoin 2 (some .boolean) 1 := ⟨cd_X8_isCoin, gtbl_of (List.mem_append_right _ (List.mem_of_getElem? (i := 958) (by decide +kernel))) rfl, ini_X8, by decide +kernel⟩
theorem cf_X8_146 : CallF RX8 146 yX8_needFind cX8_needFind 2 none 1 := ⟨cd_X8_needFind, gtbl_of (List.mem_append_right _ (List.mem_of_getElem? (i := 962) (by decide +kernel))) rfl, ini_X8, by decide +kernel⟩
theorem cf_L_45 : CallF RL 45 yX8_isFound cX8_isFound 2 (some .boolean) 1 := ⟨cd_X8_isFound, gtbl_of (List.mem_append_right _ (List.mem_of_getElem? (i := 970) (by decide +kernel))) rfl, ini_X8, by decide +kernel⟩
theorem cf_L_48 : CallF RL 48 yX8_isSure cX8_isSure 2 (some .boolean) 1 := ⟨cd_X8_isSure, gtbl_of (List.mem_append_right _ (List.mem_of_getElem? (i := 977) (by decide +kernel))) rfl, ini_X8, by decide +kernel⟩
theorem cf_L_51 : CallF RL 51 yX8_stratumOf cX8_stratumOf 2 (some .int) 1 := ⟨cd_X8_stratumOf, gtbl_of (List.mem_append_right _ (List.mem_of_getElem? (i := 985) (by decide +kernel))) rfl, ini_X8, by decide +kernel⟩
theorem cf_X8_160 : CallF RX8 160 yX7_stratumOfFind cX7_stratumOfFind 2 (some .int) 1 := ⟨cd_X7_stratumOfFind, gtbl_of (List.mem_append_right _ (List.mem_of_getElem? (i := 989) (by decide +kernel))) rfl, ini_X7, by decide +kernel⟩
theorem cf_L_54 : CallF RL 54 yX8_yearOf cX8_yearOf 2 (some .int) 1 := ⟨cd_X8_yearOf, gtbl_of (List.mem_append_right _ (List.mem_of_getElem? (i := 993) (by decide +kernel))) rfl, ini_X8, by decide +kernel⟩
theorem cf_L_57 : CallF RL 57 yX8_empireOf cX8_empireOf 2 (some .int) 1 := ⟨cd_X8_empireOf, gtbl_of (List.mem_append_right _ (List.mem_of_getElem? (i := 1001) (by decide +kernel))) rfl, ini_X8, by decide +kernel⟩
theorem cf_X8_170 : CallF RX8 170 yX7_crumbsEmpire cX7_crumbsEmpire 2 (some .int) 1 := ⟨cd_X7_crumbsEmpire, gtbl_of (List.mem_append_right _ (List.mem_of_getElem? (i := 1006) (by decide +kernel))) rfl, ini_X7, by decide +kernel⟩
theorem cf_L_60 : CallF RL 60 yX8_buriedUnder cX8_buriedUnder 2 (some .int) 1 := ⟨cd_X8_buriedUnder, gtbl_of (List.mem_append_right _ (List.mem_of_getElem? (i := 1010) (by decide +kernel))) rfl, ini_X8, by decide +kernel⟩
theorem cf_X8_175 : CallF RX8 175 yX7_cushionOf cX7_cushionOf 2 (some .int) 1 := ⟨cd_X7_cushionOf, gtbl_of (List.mem_append_right _ (List.mem_of_getElem? (i := 1015) (by decide +kernel))) rfl, ini_X7, by decide +kernel⟩
theorem cf_X8_178 : CallF RX8 178 yX4_cushionsAbove cX4_cushionsAbove 4 (some .int) 1 := ⟨cd_X4_cushionsAbove, gtbl_of (List.mem_append_right _ (List.mem_of_getElem? (i := 1016) (by decide +kernel))) rfl, ini_X4, by decide +kernel⟩
theorem cf_L_63 : CallF RL 63 yX8_notBefore cX8_notBefore 2 (some .int) 1 := ⟨cd_X8_notBefore, gtbl_of (List.mem_append_right _ (List.mem_of_getElem? (i := 1023) (by decide +kernel))) rfl, ini_X8, by decide +kernel⟩
theorem cf_X8_181 : CallF RX8 181 yX8_needStratum cX8_needStratum 2 none 1 := ⟨cd_X8_needStratum, gtbl_of (List.mem_append_right _ (List.mem_of_getElem? (i := 1027) (by decide +kernel))) rfl, ini_X8, by decide +kernel⟩
theorem cf_L_66 : CallF RL 66 yX8_isSeenIn cX8_isSeenIn 3 (some .boolean) 2 := ⟨cd_X8_isSeenIn, gtbl_of (List.mem_append_right _ (List.mem_of_getElem? (i := 1035) (by decide +kernel))) rfl, ini_X8, by decide +kernel⟩
theorem cf_X8_195 : CallF RX8 195 yX4_sawEmpire cX4_sawEmpire 4 (some .boolean) 2 := ⟨cd_X4_sawEmpire, gtbl_of (List.mem_append_right _ (List.mem_of_getElem? (i := 1040) (by decide +kernel))) rfl, ini_X4, by decide +kernel⟩
theorem cf_L_70 : CallF RL 70 yX8_isMixed cX8_isMixed 2 (some .boolean) 1 := ⟨cd_X8_isMixed, gtbl_of (List.mem_append_right _ (List.mem_of_getElem? (i := 1044) (by decide +kernel))) rfl, ini_X8, by decide +kernel⟩
theorem cf_L_73 : CallF RL 73 yX8_dig cX8_dig 2 (some .int) 1 := ⟨cd_X8_dig, gtbl_of (List.mem_append_right _ (List.mem_of_getElem? (i := 1051) (by decide +kernel))) rfl, ini_X8, by decide +kernel⟩
theorem cf_L_76 : CallF RL 76 yX8_prop cX8_prop 2 (some .int) 1 := ⟨cd_X8_prop, gtbl_of (List.mem_append_right _ (List.mem_of_getElem? (i := 1058) (by decide +kernel))) rfl, ini_X8, by decide +kernel⟩
theorem cf_X8_205 : CallF RX8 205 yX4_canProp cX4_canProp 2 (some .boolean) 1 := ⟨cd_X4_canProp, gtbl_of (List.mem_append_right _ (List.mem_of_getElem? (i := 1062) (by decide +kernel))) rfl, ini_X4, by decide +kernel⟩
theorem cf_X8_210 : CallF RX8 210 yX4_putProp cX4_putProp 2 none 1 := ⟨cd_X4_putProp, gtbl_of (List.mem_append_right _ (List.mem_of_getElem? (i := 1067) (by decide +kernel))) rfl, ini_X4, by decide +kernel⟩
theorem cf_X4_130 : CallF RX4 130 yX4_canProp cX4_canProp 2 (some .boolean) 1 := ⟨cd_X4_canProp, gtbl_of (List.mem_append_right _ (List.mem_of_getElem? (i := 1071) (by decide +kernel))) rfl, ini_X4, by decide +kernel⟩
theorem cf_L_79 : CallF RL 79 yX8_takeProp cX8_takeProp 3 (some .int) 1 := ⟨cd_X8_takeProp, gtbl_of (List.mem_append_right _ (List.mem_of_getElem? (i := 1075) (by decide +kernel))) rfl, ini_X8, by decide +kernel⟩
theorem cf_X8_215 : CallF RX8 215 yX4_freeSeat cX4_freeSeat 2 none 1 := ⟨cd_X4_freeSeat, gtbl_of (List.mem_append_right _ (List.mem_of_getElem? (i := 1080) (by decide +kernel))) rfl, ini_X4, by decide +kernel⟩
theorem cf_L_82 : CallF RL 82 yX8_passDays cX8_passDays 3 (some .int) 1 := ⟨cd_X8_passDays, gtbl_of (List.mem_append_right _ (List.mem_of_getElem? (i := 1087) (by decide +kernel))) rfl, ini_X8, by decide +kernel⟩
theorem cf_X8_218 : CallF RX8 218 yX8_needDays cX8_needDays 2 none 1 := ⟨cd_X8_needDays, gtbl_of (List.mem_append_right _ (List.mem_of_getElem? (i := 1091) (by decide +kernel))) rfl, ini_X8, by decide +kernel⟩
theorem cf_X8_221 : CallF RX8 221 yX2_liveDays cX2_liveDays 7 none 2 := ⟨cd_X2_liveDays, gtbl_of (List.mem_append_right _ (List.mem_of_getElem? (i := 1096) (by decide +kernel))) rfl, ini_X2, by decide +kernel⟩
theorem cf_X2_33 : CallF RX2 33 yX2_isDue cX2_isDue 6 (some .boolean) 3 := ⟨cd_X2_isDue, gtbl_of (List.mem_append_right _ (List.mem_of_getElem? (i := 1100) (by decide +kernel))) rfl, ini_X2, by decide +kernel⟩
theorem cf_X2_41 : CallF RX2 41 yX1_sumEnd cX1_sumEnd 2 (some .int) 1 := ⟨cd_X1_sumEnd, gtbl_of (List.mem_append_right _ (List.mem_of_getElem? (i := 1104) (by decide +kernel))) rfl, ini_X1, by decide +kernel⟩
theorem cf_X1_34 : CallF RX1 34 yX1_isOrder cX1_isOrder 2 (some .boolean) 1 := ⟨cd_X1_isOrder, gtbl_of (List.mem_append_right _ (List.mem_of_getElem? (i := 1108) (by decide +kernel))) rfl, ini_X1, by decide +kernel⟩
theorem cf_X2_61 : CallF RX2 61 yX1_testEnd cX1_testEnd 2 (some .int) 1 := ⟨cd_X1_testEnd, gtbl_of (List.mem_append_right _ (List.mem_of_getElem? (i := 1112) (by decide +kernel))) rfl, ini_X1, by decide +kernel⟩
theorem cf_X2_44 : CallF RX2 44 yX2_reckon cX2_reckon 6 (some .int) 3 := ⟨cd_X2_reckon, gtbl_of (List.mem_append_right _ (List.mem_of_getElem? (i := 1116) (by decide +kernel))) rfl, ini_X2, by decide +kernel⟩
theorem cf_X2_92 : CallF RX2 92 yX1_stepKind cX1_stepKind 2 (some .int) 1 := ⟨cd_X1_stepKind, gtbl_of (List.mem_append_right _ (List.mem_of_getElem? (i := 1120) (by decide +kernel))) rfl, ini_X1, by decide +kernel⟩
theorem cf_X1_44 : CallF RX1 44 yX1_isStep cX1_isStep 2 (some .boolean) 1 := ⟨cd_X1_isStep, gtbl_of (List.mem_append_right _ (List.mem_of_getElem? (i := 1124) (by decide +kernel))) rfl, ini_X1, by decide +kernel⟩
theorem cf_X2_95 : CallF RX2 95 yX1_stepDetail cX1_stepDetail 2 (some .int) 1 := ⟨cd_X1_stepDetail, gtbl_of (List.mem_append_right _ (List.mem_of_getElem? (i := 1128) (by decide +kernel))) rfl, ini_X1, by decide +kernel⟩
theorem cf_X2_98 : CallF RX2 98 yX2_takeStep cX2_takeStep 6 none 3 := ⟨cd_X2_takeStep, gtbl_of (List.mem_append_right _ (List.mem_of_getElem? (i := 1132) (by decide +kernel))) rfl, ini_X2, by decide +kernel⟩
theorem cf_X2_105 : CallF RX2 105 yX2_push cX2_push 2 none 1 := ⟨cd_X2_push, gtbl_of (List.mem_append_right _ (List.mem_of_getElem? (i := 1136) (by decide +kernel))) rfl, ini_X2, by decide +kernel⟩
theorem cf_X2_117 : CallF RX2 117 yX7_fromOf cX7_fromOf 2 (some .int) 1 := ⟨cd_X7_fromOf, gtbl_of (List.mem_append_right _ (List.mem_of_getElem? (i := 1140) (by decide +kernel))) rfl, ini_X7, by decide +kernel⟩
theorem cf_X2_120 : CallF RX2 120 yX7_toOf cX7_toOf 2 (some .int) 1 := ⟨cd_X7_toOf, gtbl_of (List.mem_append_right _ (List.mem_of_getElem? (i := 1141) (by decide +kernel))) rfl, ini_X7, by decide +kernel⟩
theorem cf_X2_123 : CallF RX2 123 yX4_sawEmpireAnywhere cX4_sawEmpireAnywhere 3 (some .boolean) 1 := ⟨cd_X4_sawEmpireAnywhere, gtbl_of (List.mem_append_right _ (List.mem_of_getElem? (i := 1142) (by decide +kernel))) rfl, ini_X4, by decide +kernel⟩
theorem cf_X2_126 : CallF RX2 126 yX2_pushTruth cX2_pushTruth 2 none 1 := ⟨cd_X2_pushTruth, gtbl_of (List.mem_append_right _ (List.mem_of_getElem? (i := 1146) (by decide +kernel))) rfl, ini_X2, by decide +kernel⟩
theorem cf_X2_101 : CallF RX2 101 yX2_pull cX2_pull 1 (some .int) 0 := ⟨cd_X2_pull, gtbl_of (List.mem_append_right _ (List.mem_of_getElem? (i := 1150) (by decide +kernel))) rfl, ini_X2, by decide +kernel⟩
theorem cf_X2_51 : CallF RX2 51 yX7_seatOfSum cX7_seatOfSum 2 (some .int) 1 := ⟨cd_X7_seatOfSum, gtbl_of (List.mem_append_right _ (List.mem_of_getElem? (i := 1154) (by decide +kernel))) rfl, ini_X7, by decide +kernel⟩
theorem cf_X7_76 : CallF RX7 76 yJ9_floorMod_7cf53 cJ9_floorMod_7cf53 3 (some .int) 2 := ⟨cd_J9_floorMod_7cf53, gtbl_of (List.mem_append_right _ (List.mem_of_getElem? (i := 1158) (by decide +kernel))) rfl, ini_J9, by decide +kernel⟩
theorem cf_X2_66 : CallF RX2 66 yX4_heightAt cX4_heightAt 2 (some .int) 1 := ⟨cd_X4_heightAt, gtbl_of (List.mem_append_right _ (List.mem_of_getElem? (i := 1161) (by decide +kernel))) rfl, ini_X4, by decide +kernel⟩
theorem cf_X2_130 : CallF RX2 130 yX4_wasSure cX4_wasSure 2 (some .boolean) 1 := ⟨cd_X4_wasSure, gtbl_of (List.mem_append_right _ (List.mem_of_getElem? (i := 1162) (by decide +kernel))) rfl, ini_X4, by decide +kernel⟩
theorem cf_X2_133 : CallF RX2 133 yX2_join cX2_join 3 (some .int) 3 := ⟨cd_X2_join, gtbl_of (List.mem_append_right _ (List.mem_of_getElem? (i := 1163) (by decide +kernel))) rfl, ini_X2, by decide +kernel⟩
theorem cf_X2_137 : CallF RX2 137 yJ9_min_7cf53 cJ9_min_7cf53 2 (some .int) 2 := ⟨cd_J9_min_7cf53, gtbl_of (List.mem_append_right _ (List.mem_of_getElem? (i := 1166) (by decide +kernel))) rfl, ini_J9, by decide +kernel⟩
theorem cf_X2_143 : CallF RX2 143 yJ9_max_7cf53 cJ9_max_7cf53 2 (some .int) 2 := ⟨cd_J9_max_7cf53, gtbl_of (List.mem_append_right _ (List.mem_of_getElem? (i := 1169) (by decide +kernel))) rfl, ini_J9, by decide +kernel⟩
theorem cf_X2_146 : CallF RX2 146 yX2_compares cX2_compares 3 (some .boolean) 3 := ⟨cd_X2_compares, gtbl_of (List.mem_append_right _ (List.mem_of_getElem? (i := 1170) (by decide +kernel))) rfl, ini_X2, by decide +kernel⟩
theorem cf_X2_37 : CallF RX2 37 yX1_sumStart cX1_sumStart 2 (some .int) 1 := ⟨cd_X1_sumStart, gtbl_of (List.mem_append_right _ (List.mem_of_getElem? (i := 1173) (by decide +kernel))) rfl, ini_X1, by decide +kernel⟩
theorem cf_X1_40 : CallF RX1 40 yX1_testEnd cX1_testEnd 2 (some .int) 1 := ⟨cd_X1_testEnd, gtbl_of (List.mem_append_right _ (List.mem_of_getElem? (i := 1177) (by decide +kernel))) rfl, ini_X1, by decide +kernel⟩
theorem cf_X2_48 : CallF RX2 48 yX1_kindOf cX1_kindOf 2 (some .int) 1 := ⟨cd_X1_kindOf, gtbl_of (List.mem_append_right _ (List.mem_of_getElem? (i := 1178) (by decide +kernel))) rfl, ini_X1, by decide +kernel⟩
theorem cf_X2_54 : CallF RX2 54 yX2_carryOut cX2_carryOut 3 none 3 := ⟨cd_X2_carryOut, gtbl_of (List.mem_append_right _ (List.mem_of_getElem? (i := 1182) (by decide +kernel))) rfl, ini_X2, by decide +kernel⟩
theorem cf_X2_69 : CallF RX2 69 yX4_digSeat cX4_digSeat 4 (some .int) 1 := ⟨cd_X4_digSeat, gtbl_of (List.mem_append_right _ (List.mem_of_getElem? (i := 1185) (by decide +kernel))) rfl, ini_X4, by decide +kernel⟩
theorem cf_X2_75 : CallF RX2 75 yX4_canProp cX4_canProp 2 (some .boolean) 1 := ⟨cd_X4_canProp, gtbl_of (List.mem_append_right _ (List.mem_of_getElem? (i := 1186) (by decide +kernel))) rfl, ini_X4, by decide +kernel⟩
theorem cf_X2_79 : CallF RX2 79 yX4_putProp cX4_putProp 2 none 1 := ⟨cd_X4_putProp, gtbl_of (List.mem_append_right _ (List.mem_of_getElem? (i := 1187) (by decide +kernel))) rfl, ini_X4, by decide +kernel⟩
theorem cf_X2_83 : CallF RX2 83 yX4_hasProp cX4_hasProp 2 (some .boolean) 1 := ⟨cd_X4_hasProp, gtbl_of (List.mem_append_right _ (List.mem_of_getElem? (i := 1188) (by decide +kernel))) rfl, ini_X4, by decide +kernel⟩
theorem cf_X2_86 : CallF RX2 86 yX4_freeSeat cX4_freeSeat 2 none 1 := ⟨cd_X4_freeSeat, gtbl_of (List.mem_append_right _ (List.mem_of_getElem? (i := 1189) (by decide +kernel))) rfl, ini_X4, by decide +kernel⟩
theorem cf_L_85 : CallF RL 85 yX8_foundAfter cX8_foundAfter 2 (some .int) 1 := ⟨cd_X8_foundAfter, gtbl_of (List.mem_append_right _ (List.mem_of_getElem? (i := 1193) (by decide +kernel))) rfl, ini_X8, by decide +kernel⟩
theorem cf_L_88 : CallF RL 88 yX8_daysUntilFound cX8_daysUntilFound 3 (some .int) 1 := ⟨cd_X8_daysUntilFound, gtbl_of (List.mem_append_right _ (List.mem_of_getElem? (i := 1200) (by decide +kernel))) rfl, ini_X8, by decide +kernel⟩
theorem cf_L_91 : CallF RL 91 yX8_wouldSlide cX8_wouldSlide 2 (some .int) 1 := ⟨cd_X8_wouldSlide, gtbl_of (List.mem_append_right _ (List.mem_of_getElem? (i := 1207) (by decide +kernel))) rfl, ini_X8, by decide +kernel⟩
theorem cf_L_97 : CallF RL 97 yX10_init cX10_init 1 none 0 := ⟨cd_X10_init, gtbl_of (List.mem_append_right _ (List.mem_of_getElem? (i := 1213) (by decide +kernel))) rfl, ini_X10, by decide +kernel⟩
theorem cf_X10_19 : CallF RX10 19 yX9_init cX9_init 2 none 0 := ⟨cd_X9_init, gtbl_of (List.mem_append_right _ (List.mem_of_getElem? (i := 1219) (by decide +kernel))) rfl, ini_X9, by decide +kernel⟩
theorem cf_X10_49 : CallF RX10 49 yX10_fill cX10_fill 3 none 0 := ⟨cd_X10_fill, gtbl_of (List.mem_append_right _ (List.mem_of_getElem? (i := 1296) (by decide +kernel))) rfl, ini_X10, by decide +kernel⟩
theorem cf_L_104 : CallF RL 104 yX10_thrown cX10_thrown 1 (some .int) 0 := ⟨cd_X10_thrown, gtbl_of (List.mem_append_right _ (List.mem_of_getElem? (i := 1355) (by decide +kernel))) rfl, ini_X10, by decide +kernel⟩
theorem cf_L_103 : CallF RL 103 yX10_feed cX10_feed 8 (some .int) 5 := ⟨cd_X10_feed, gtbl_of (List.mem_append_right _ (List.mem_of_getElem? (i := 1359) (by decide +kernel))) rfl, ini_X10, by decide +kernel⟩
theorem cf_X10_395 : CallF RX10 395 yX10_no cX10_no 2 (some .int) 1 := ⟨cd_X10_no, gtbl_of (List.mem_append_right _ (List.mem_of_getElem? (i := 1363) (by decide +kernel))) rfl, ini_X10, by decide +kernel⟩
theorem cf_L_111 : CallF RL 111 yX10_trim cX10_trim 2 (some .int) 1 := ⟨cd_X10_trim, gtbl_of (List.mem_append_right _ (List.mem_of_getElem? (i := 1367) (by decide +kernel))) rfl, ini_X10, by decide +kernel⟩
theorem cf_X10_61 : CallF RX10 61 yX10_isIn cX10_isIn 3 (some .boolean) 3 := ⟨cd_X10_isIn, gtbl_of (List.mem_append_right _ (List.mem_of_getElem? (i := 1371) (by decide +kernel))) rfl, ini_X10, by decide +kernel⟩
theorem cf_L_115 : CallF RL 115 yX10_teach cX10_teach 3 (some .int) 0 := ⟨cd_X10_teach, gtbl_of (List.mem_append_right _ (List.mem_of_getElem? (i := 1374) (by decide +kernel))) rfl, ini_X10, by decide +kernel⟩
theorem cf_X10_398 : CallF RX10 398 yX10_read cX10_read 4 (some .int) 1 := ⟨cd_X10_read, gtbl_of (List.mem_append_right _ (List.mem_of_getElem? (i := 1378) (by decide +kernel))) rfl, ini_X10, by decide +kernel⟩
theorem cf_X10_383 : CallF RX10 383 yX10_cutIntoTokens cX10_cutIntoTokens 4 none 0 := ⟨cd_X10_cutIntoTokens, gtbl_of (List.mem_append_right _ (List.mem_of_getElem? (i := 1382) (by decide +kernel))) rfl, ini_X10, by decide +kernel⟩
theorem cf_X10_213 : CallF RX10 213 yX10_byteOf cX10_byteOf 2 (some .int) 1 := ⟨cd_X10_byteOf, gtbl_of (List.mem_append_right _ (List.mem_of_getElem? (i := 1386) (by decide +kernel))) rfl, ini_X10, by decide +kernel⟩
theorem cf_X10_250 : CallF RX10 250 yX10_endOf cX10_endOf 4 (some .int) 1 := ⟨cd_X10_endOf, gtbl_of (List.mem_append_right _ (List.mem_of_getElem? (i := 1390) (by decide +kernel))) rfl, ini_X10, by decide +kernel⟩
theorem cf_X10_216 : CallF RX10 216 yX10_isSmall cX10_isSmall 1 (some .boolean) 1 := ⟨cd_X10_isSmall, gtbl_of (List.mem_append_right _ (List.mem_of_getElem? (i := 1394) (by decide +kernel))) rfl, ini_X10, by decide +kernel⟩
theorem cf_X10_219 : CallF RX10 219 yX10_isDigit cX10_isDigit 1 (some .boolean) 1 := ⟨cd_X10_isDigit, gtbl_of (List.mem_append_right _ (List.mem_of_getElem? (i := 1397) (by decide +kernel))) rfl, ini_X10, by decide +kernel⟩
theorem cf_X10_253 : CallF RX10 253 yX10_kindOf cX10_kindOf 5 (some .int) 3 := ⟨cd_X10_kindOf, gtbl_of (List.mem_append_right _ (List.mem_of_getElem? (i := 1400) (by decide +kernel))) rfl, ini_X10, by decide +kernel⟩
theorem cf_X10_222 : CallF RX10 222 yX10_numberAt cX10_numberAt 6 (some .int) 3 := ⟨cd_X10_numberAt, gtbl_of (List.mem_append_right _ (List.mem_of_getElem? (i := 1404) (by decide +kernel))) rfl, ini_X10, by decide +kernel⟩
theorem cf_X10_225 : CallF RX10 225 yX10_wordAt cX10_wordAt 7 (some .int) 3 := ⟨cd_X10_wordAt, gtbl_of (List.mem_append_right _ (List.mem_of_getElem? (i := 1408) (by decide +kernel))) rfl, ini_X10, by decide +kernel⟩
theorem cf_X10_239 : CallF RX10 239 yX10_letter cX10_letter 1 (some .int) 1 := ⟨cd_X10_letter, gtbl_of (List.mem_append_right _ (List.mem_of_getElem? (i := 1413) (by decide +kernel))) rfl, ini_X10, by decide +kernel⟩
theorem cf_X10_246 : CallF RX10 246 yX10_nameOf cX10_nameOf 4 (some .long) 1 := ⟨cd_X10_nameOf, gtbl_of (List.mem_append_right _ (List.mem_of_getElem? (i := 1418) (by decide +kernel))) rfl, ini_X10, by decide +kernel⟩
theorem cf_X10_228 : CallF RX10 228 yJ0_length_8abf5 cJ0_length_8abf5 1 (some .int) 0 := ⟨cd_J0_length_8abf5, gtbl_of (List.mem_append_right _ (List.mem_of_getElem? (i := 1421) (by decide +kernel))) rfl, ini_J0, by decide +kernel⟩
theorem cf_X10_235 : CallF RX10 235 yJ0_charAt_5068e cJ0_charAt_5068e 2 (some .char) 1 := ⟨cd_J0_charAt_5068e, gtbl_of (List.mem_append_right _ (List.mem_of_getElem? (i := 1422) (by decide +kernel))) rfl, ini_J0, by decide +kernel⟩
theorem cf_X10_386 : CallF RX10 386 yX10_isBook cX10_isBook 2 (some .boolean) 1 := ⟨cd_X10_isBook, gtbl_of (List.mem_append_right _ (List.mem_of_getElem? (i := 1423) (by decide +kernel))) rfl, ini_X10, by decide +kernel⟩
theorem cf_X10_259 : CallF RX10 259 yX10_eat cX10_eat 2 (some .boolean) 1 := ⟨cd_X10_eat, gtbl_of (List.mem_append_right _ (List.mem_of_getElem? (i := 1427) (by decide +kernel))) rfl, ini_X10, by decide +kernel⟩
theorem cf_X10_272 : CallF RX10 272 yX10_eatAs cX10_eatAs 3 (some .boolean) 2 := ⟨cd_X10_eatAs, gtbl_of (List.mem_append_right _ (List.mem_of_getElem? (i := 1431) (by decide +kernel))) rfl, ini_X10, by decide +kernel⟩
theorem cf_X10_326 : CallF RX10 326 yX10_isLine cX10_isLine 3 (some .boolean) 1 := ⟨cd_X10_isLine, gtbl_of (List.mem_append_right _ (List.mem_of_getElem? (i := 1435) (by decide +kernel))) rfl, ini_X10, by decide +kernel⟩
theorem cf_X10_320 : CallF RX10 320 yX10_isOrder cX10_isOrder 3 (some .boolean) 1 := ⟨cd_X10_isOrder, gtbl_of (List.mem_append_right _ (List.mem_of_getElem? (i := 1439) (by decide +kernel))) rfl, ini_X10, by decide +kernel⟩
theorem cf_X10_179 : CallF RX10 179 yJ9_min_7cf53 cJ9_min_7cf53 2 (some .int) 2 := ⟨cd_J9_min_7cf53, gtbl_of (List.mem_append_right _ (List.mem_of_getElem? (i := 1443) (by decide +kernel))) rfl, ini_J9, by decide +kernel⟩
theorem cf_X10_316 : CallF RX10 316 yX10_isPart cX10_isPart 4 (some .boolean) 3 := ⟨cd_X10_isPart, gtbl_of (List.mem_append_right _ (List.mem_of_getElem? (i := 1444) (by decide +kernel))) rfl, ini_X10, by decide +kernel⟩
theorem cf_X10_291 : CallF RX10 291 yX10_isTest cX10_isTest 2 (some .boolean) 1 := ⟨cd_X10_isTest, gtbl_of (List.mem_append_right _ (List.mem_of_getElem? (i := 1448) (by decide +kernel))) rfl, ini_X10, by decide +kernel⟩
theorem cf_X10_285 : CallF RX10 285 yX10_isBoth cX10_isBoth 2 (some .boolean) 1 := ⟨cd_X10_isBoth, gtbl_of (List.mem_append_right _ (List.mem_of_getElem? (i := 1452) (by decide +kernel))) rfl, ini_X10, by decide +kernel⟩
theorem cf_X10_288 : CallF RX10 288 yX10_isSingle cX10_isSingle 3 (some .boolean) 1 := ⟨cd_X10_isSingle, gtbl_of (List.mem_append_right _ (List.mem_of_getElem? (i := 1456) (by decide +kernel))) rfl, ini_X10, by decide +kernel⟩
theorem cf_X10_275 : CallF RX10 275 yX10_deeper cX10_deeper 2 (some .boolean) 1 := ⟨cd_X10_deeper, gtbl_of (List.mem_append_right _ (List.mem_of_getElem? (i := 1460) (by decide +kernel))) rfl, ini_X10, by decide +kernel⟩
theorem cf_X10_268 : CallF RX10 268 yX10_put cX10_put 4 none 3 := ⟨cd_X10_put, gtbl_of (List.mem_append_right _ (List.mem_of_getElem? (i := 1464) (by decide +kernel))) rfl, ini_X10, by decide +kernel⟩
theorem cf_X10_282 : CallF RX10 282 yX10_closes cX10_closes 2 (some .boolean) 1 := ⟨cd_X10_closes, gtbl_of (List.mem_append_right _ (List.mem_of_getElem? (i := 1468) (by decide +kernel))) rfl, ini_X10, by decide +kernel⟩
theorem cf_X10_294 : CallF RX10 294 yX10_isAbout cX10_isAbout 3 (some .boolean) 2 := ⟨cd_X10_isAbout, gtbl_of (List.mem_append_right _ (List.mem_of_getElem? (i := 1472) (by decide +kernel))) rfl, ini_X10, by decide +kernel⟩
theorem cf_X10_298 : CallF RX10 298 yX10_isOfOne cX10_isOfOne 3 (some .boolean) 2 := ⟨cd_X10_isOfOne, gtbl_of (List.mem_append_right _ (List.mem_of_getElem? (i := 1476) (by decide +kernel))) rfl, ini_X10, by decide +kernel⟩
theorem cf_X10_278 : CallF RX10 278 yX10_isSum cX10_isSum 3 (some .boolean) 1 := ⟨cd_X10_isSum, gtbl_of (List.mem_append_right _ (List.mem_of_getElem? (i := 1480) (by decide +kernel))) rfl, ini_X10, by decide +kernel⟩
theorem cf_X10_304 : CallF RX10 304 yX10_isProduct cX10_isProduct 3 (some .boolean) 1 := ⟨cd_X10_isProduct, gtbl_of (List.mem_append_right _ (List.mem_of_getElem? (i := 1484) (by decide +kernel))) rfl, ini_X10, by decide +kernel⟩
theorem cf_X10_307 : CallF RX10 307 yX10_isValue cX10_isValue 3 (some .boolean) 1 := ⟨cd_X10_isValue, gtbl_of (List.mem_append_right _ (List.mem_of_getElem? (i := 1488) (by decide +kernel))) rfl, ini_X10, by decide +kernel⟩
theorem cf_X10_310 : CallF RX10 310 yX10_isOfTwo cX10_isOfTwo 3 (some .boolean) 2 := ⟨cd_X10_isOfTwo, gtbl_of (List.mem_append_right _ (List.mem_of_getElem? (i := 1492) (by decide +kernel))) rfl, ini_X10, by decide +kernel⟩
theorem cf_X10_301 : CallF RX10 301 yX10_isCompare cX10_isCompare 4 (some .boolean) 1 := ⟨cd_X10_isCompare, gtbl_of (List.mem_append_right _ (List.mem_of_getElem? (i := 1496) (by decide +kernel))) rfl, ini_X10, by decide +kernel⟩
theorem cf_X10_323 : CallF RX10 323 yX10_isPlace cX10_isPlace 1 (some .boolean) 0 := ⟨cd_X10_isPlace, gtbl_of (List.mem_append_right _ (List.mem_of_getElem? (i := 1500) (by decide +kernel))) rfl, ini_X10, by decide +kernel⟩
theorem cf_X10_389 : CallF RX10 389 yX10_errorOf cX10_errorOf 3 (some .int) 2 := ⟨cd_X10_errorOf, gtbl_of (List.mem_append_right _ (List.mem_of_getElem? (i := 1504) (by decide +kernel))) rfl, ini_X10, by decide +kernel⟩
theorem cf_X10_350 : CallF RX10 350 yX10_itsSeats cX10_itsSeats 4 (some .int) 2 := ⟨cd_X10_itsSeats, gtbl_of (List.mem_append_right _ (List.mem_of_getElem? (i := 1508) (by decide +kernel))) rfl, ini_X10, by decide +kernel⟩
theorem cf_X10_353 : CallF RX10 353 yX10_itsLayers cX10_itsLayers 4 (some .int) 2 := ⟨cd_X10_itsLayers, gtbl_of (List.mem_append_right _ (List.mem_of_getElem? (i := 1514) (by decide +kernel))) rfl, ini_X10, by decide +kernel⟩
theorem cf_X10_356 : CallF RX10 356 yX10_newEmpire cX10_newEmpire 4 (some .int) 2 := ⟨cd_X10_newEmpire, gtbl_of (List.mem_append_right _ (List.mem_of_getElem? (i := 1519) (by decide +kernel))) rfl, ini_X10, by decide +kernel⟩
theorem cf_X10_332 : CallF RX10 332 yX10_find cX10_find 4 (some .int) 2 := ⟨cd_X10_find, gtbl_of (List.mem_append_right _ (List.mem_of_getElem? (i := 1523) (by decide +kernel))) rfl, ini_X10, by decide +kernel⟩
theorem cf_X10_359 : CallF RX10 359 yX10_itsYears cX10_itsYears 6 (some .int) 3 := ⟨cd_X10_itsYears, gtbl_of (List.mem_append_right _ (List.mem_of_getElem? (i := 1526) (by decide +kernel))) rfl, ini_X10, by decide +kernel⟩
theorem cf_X10_363 : CallF RX10 363 yX10_newFind cX10_newFind 3 (some .int) 2 := ⟨cd_X10_newFind, gtbl_of (List.mem_append_right _ (List.mem_of_getElem? (i := 1531) (by decide +kernel))) rfl, ini_X10, by decide +kernel⟩
theorem cf_X10_367 : CallF RX10 367 yX10_itsSeat cX10_itsSeat 3 (some .int) 2 := ⟨cd_X10_itsSeat, gtbl_of (List.mem_append_right _ (List.mem_of_getElem? (i := 1535) (by decide +kernel))) rfl, ini_X10, by decide +kernel⟩
theorem cf_X10_370 : CallF RX10 370 yX10_itsStratum cX10_itsStratum 5 (some .int) 2 := ⟨cd_X10_itsStratum, gtbl_of (List.mem_append_right _ (List.mem_of_getElem? (i := 1539) (by decide +kernel))) rfl, ini_X10, by decide +kernel⟩
theorem cf_X10_373 : CallF RX10 373 yX10_itsYear cX10_itsYear 4 (some .int) 2 := ⟨cd_X10_itsYear, gtbl_of (List.mem_append_right _ (List.mem_of_getElem? (i := 1543) (by decide +kernel))) rfl, ini_X10, by decide +kernel⟩
theorem cf_X10_376 : CallF RX10 376 yX10_newOrder cX10_newOrder 2 (some .int) 1 := ⟨cd_X10_newOrder, gtbl_of (List.mem_append_right _ (List.mem_of_getElem? (i := 1547) (by decide +kernel))) rfl, ini_X10, by decide +kernel⟩
theorem cf_X10_380 : CallF RX10 380 yX10_anEmpire cX10_anEmpire 3 (some .int) 2 := ⟨cd_X10_anEmpire, gtbl_of (List.mem_append_right _ (List.mem_of_getElem? (i := 1551) (by decide +kernel))) rfl, ini_X10, by decide +kernel⟩
theorem cf_X10_392 : CallF RX10 392 yX10_settle_ cX10_settle_ 4 none 1 := ⟨cd_X10_settle_, gtbl_of (List.mem_append_right _ (List.mem_of_getElem? (i := 1555) (by decide +kernel))) rfl, ini_X10, by decide +kernel⟩
theorem cf_L_119 : CallF RL 119 yX10_errorAt cX10_errorAt 1 (some .int) 0 := ⟨cd_X10_errorAt, gtbl_of (List.mem_append_right _ (List.mem_of_getElem? (i := 1559) (by decide +kernel))) rfl, ini_X10, by decide +kernel⟩
theorem cf_X10_401 : CallF RX10 401 yX10_ok cX10_ok 2 (some .int) 1 := ⟨cd_X10_ok, gtbl_of (List.mem_append_right _ (List.mem_of_getElem? (i := 1563) (by decide +kernel))) rfl, ini_X10, by decide +kernel⟩
theorem cf_L_123 : CallF RL 123 yX10_seats cX10_seats 1 (some .int) 0 := ⟨cd_X10_seats, gtbl_of (List.mem_append_right _ (List.mem_of_getElem? (i := 1567) (by decide +kernel))) rfl, ini_X10, by decide +kernel⟩
theorem cf_L_127 : CallF RL 127 yX10_strata cX10_strata 1 (some .int) 0 := ⟨cd_X10_strata, gtbl_of (List.mem_append_right _ (List.mem_of_getElem? (i := 1571) (by decide +kernel))) rfl, ini_X10, by decide +kernel⟩
theorem cf_L_131 : CallF RL 131 yX10_finds cX10_finds 1 (some .int) 0 := ⟨cd_X10_finds, gtbl_of (List.mem_append_right _ (List.mem_of_getElem? (i := 1575) (by decide +kernel))) rfl, ini_X10, by decide +kernel⟩
theorem cf_L_135 : CallF RL 135 yX10_days cX10_days 1 (some .int) 0 := ⟨cd_X10_days, gtbl_of (List.mem_append_right _ (List.mem_of_getElem? (i := 1579) (by decide +kernel))) rfl, ini_X10, by decide +kernel⟩
theorem cf_L_139 : CallF RL 139 yX10_ordersCarriedOut cX10_ordersCarriedOut 1 (some .int) 0 := ⟨cd_X10_ordersCarriedOut, gtbl_of (List.mem_append_right _ (List.mem_of_getElem? (i := 1583) (by decide +kernel))) rfl, ini_X10, by decide +kernel⟩
theorem cf_L_143 : CallF RL 143 yX10_cushionsDug cX10_cushionsDug 1 (some .int) 0 := ⟨cd_X10_cushionsDug, gtbl_of (List.mem_append_right _ (List.mem_of_getElem? (i := 1587) (by decide +kernel))) rfl, ini_X10, by decide +kernel⟩
theorem cf_L_147 : CallF RL 147 yX10_slides cX10_slides 1 (some .int) 0 := ⟨cd_X10_slides, gtbl_of (List.mem_append_right _ (List.mem_of_getElem? (i := 1591) (by decide +kernel))) rfl, ini_X10, by decide +kernel⟩
theorem cf_L_151 : CallF RL 151 yX10_found cX10_found 1 (some .int) 0 := ⟨cd_X10_found, gtbl_of (List.mem_append_right _ (List.mem_of_getElem? (i := 1595) (by decide +kernel))) rfl, ini_X10, by decide +kernel⟩
theorem cf_X10_164 : CallF RX10 164 yX10_foundNow cX10_foundNow 4 (some .int) 1 := ⟨cd_X10_foundNow, gtbl_of (List.mem_append_right _ (List.mem_of_getElem? (i := 1599) (by decide +kernel))) rfl, ini_X10, by decide +kernel⟩
theorem cf_X10_106 : CallF RX10 106 yX10_one cX10_one 1 (some .int) 1 := ⟨cd_X10_one, gtbl_of (List.mem_append_right _ (List.mem_of_getElem? (i := 1603) (by decide +kernel))) rfl, ini_X10, by decide +kernel⟩
theorem cf_L_155 : CallF RL 155 yX10_sureFinds cX10_sureFinds 1 (some .int) 0 := ⟨cd_X10_sureFinds, gtbl_of (List.mem_append_right _ (List.mem_of_getElem? (i := 1606) (by decide +kernel))) rfl, ini_X10, by decide +kernel⟩
theorem cf_L_159 : CallF RL 159 yX10_props cX10_props 1 (some .int) 0 := ⟨cd_X10_props, gtbl_of (List.mem_append_right _ (List.mem_of_getElem? (i := 1610) (by decide +kernel))) rfl, ini_X10, by decide +kernel⟩
theorem cf_X10_143 : CallF RX10 143 yJ6_bitCount_0f7a4 cJ6_bitCount_0f7a4 1 (some .int) 1 := ⟨cd_J6_bitCount_0f7a4, gtbl_of (List.mem_append_right _ (List.mem_of_getElem? (i := 1614) (by decide +kernel))) rfl, ini_J6, by decide +kernel⟩
theorem cf_L_162 : CallF RL 162 yX10_heightOf cX10_heightOf 2 (some .int) 1 := ⟨cd_X10_heightOf, gtbl_of (List.mem_append_right _ (List.mem_of_getElem? (i := 1620) (by decide +kernel))) rfl, ini_X10, by decide +kernel⟩
theorem cf_X10_78 : CallF RX10 78 yX10_isSeat cX10_isSeat 2 (some .boolean) 1 := ⟨cd_X10_isSeat, gtbl_of (List.mem_append_right _ (List.mem_of_getElem? (i := 1624) (by decide +kernel))) rfl, ini_X10, by decide +kernel⟩
theorem cf_X10_74 : CallF RX10 74 yX10_tall cX10_tall 2 (some .int) 1 := ⟨cd_X10_tall, gtbl_of (List.mem_append_right _ (List.mem_of_getElem? (i := 1628) (by decide +kernel))) rfl, ini_X10, by decide +kernel⟩
theorem cf_L_165 : CallF RL 165 yX10_isPropped cX10_isPropped 2 (some .boolean) 1 := ⟨cd_X10_isPropped, gtbl_of (List.mem_append_right _ (List.mem_of_getElem? (i := 1632) (by decide +kernel))) rfl, ini_X10, by decide +kernel⟩
theorem cf_X10_82 : CallF RX10 82 yX10_hasProp cX10_hasProp 2 (some .boolean) 1 := ⟨cd_X10_hasProp, gtbl_of (List.mem_append_right _ (List.mem_of_getElem? (i := 1636) (by decide +kernel))) rfl, ini_X10, by decide +kernel⟩
theorem cf_X10_404 : CallF RX10 404 yX10_isNot cX10_isNot 2 (some .boolean) 1 := ⟨cd_X10_isNot, gtbl_of (List.mem_append_right _ (List.mem_of_getElem? (i := 1640) (by decide +kernel))) rfl, ini_X10, by decide +kernel⟩
theorem cf_L_168 : CallF RL 168 yX10_topStratum cX10_topStratum 2 (some .int) 1 := ⟨cd_X10_topStratum, gtbl_of (List.mem_append_right _ (List.mem_of_getElem? (i := 1644) (by decide +kernel))) rfl, ini_X10, by decide +kernel⟩
theorem cf_X10_407 : CallF RX10 407 yX10_hasTop cX10_hasTop 2 (some .boolean) 1 := ⟨cd_X10_hasTop, gtbl_of (List.mem_append_right _ (List.mem_of_getElem? (i := 1648) (by decide +kernel))) rfl, ini_X10, by decide +kernel⟩
theorem cf_X10_89 : CallF RX10 89 yX10_top cX10_top 2 (some .int) 1 := ⟨cd_X10_top, gtbl_of (List.mem_append_right _ (List.mem_of_getElem? (i := 1652) (by decide +kernel))) rfl, ini_X10, by decide +kernel⟩
theorem cf_L_171 : CallF RL 171 yX10_isTopLoose cX10_isTopLoose 2 (some .boolean) 1 := ⟨cd_X10_isTopLoose, gtbl_of (List.mem_append_right _ (List.mem_of_getElem? (i := 1656) (by decide +kernel))) rfl, ini_X10, by decide +kernel⟩
theorem cf_L_174 : CallF RL 174 yX10_hasTopSpring cX10_hasTopSpring 2 (some .boolean) 1 := ⟨cd_X10_hasTopSpring, gtbl_of (List.mem_append_right _ (List.mem_of_getElem? (i := 1660) (by decide +kernel))) rfl, ini_X10, by decide +kernel⟩
theorem cf_L_177 : CallF RL 177 yX10_findsLeft cX10_findsLeft 2 (some .int) 1 := ⟨cd_X10_findsLeft, gtbl_of (List.mem_append_right _ (List.mem_of_getElem? (i := 1664) (by decide +kernel))) rfl, ini_X10, by decide +kernel⟩
theorem cf_X10_410 : CallF RX10 410 yX10_left cX10_left 4 (some .int) 1 := ⟨cd_X10_left, gtbl_of (List.mem_append_right _ (List.mem_of_getElem? (i := 1668) (by decide +kernel))) rfl, ini_X10, by decide +kernel⟩
theorem cf_L_180 : CallF RL 180 yX10_isCoin cX10_isCoin 2 (some .boolean) 1 := ⟨cd_X10_isCoin, gtbl_of (List.mem_append_right _ (List.mem_of_getElem? (i := 1672) (by decide +kernel))) rfl, ini_X10, by decide +kernel⟩
theorem cf_X10_176 : CallF RX10 176 yX10_isFind cX10_isFind 2 (some .boolean) 1 := ⟨cd_X10_isFind, gtbl_of (List.mem_append_right _ (List.mem_of_getElem? (i := 1676) (by decide +kernel))) rfl, ini_X10, by decide +kernel⟩
theorem cf_L_183 : CallF RL 183 yX10_isFound cX10_isFound 2 (some .boolean) 1 := ⟨cd_X10_isFound, gtbl_of (List.mem_append_right _ (List.mem_of_getElem? (i := 1680) (by decide +kernel))) rfl, ini_X10, by decide +kernel⟩
theorem cf_L_186 : CallF RL 186 yX10_isSure cX10_isSure 2 (some .boolean) 1 := ⟨cd_X10_isSure, gtbl_of (List.mem_append_right _ (List.mem_of_getElem? (i := 1684) (by decide +kernel))) rfl, ini_X10, by decide +kernel⟩
theorem cf_X10_113 : CallF RX10 113 yX10_sure cX10_sure 2 (some .boolean) 1 := ⟨cd_X10_sure, gtbl_of (List.mem_append_right _ (List.mem_of_getElem? (i := 1688) (by decide +kernel))) rfl, ini_X10, by decide +kernel⟩
theorem cf_L_189 : CallF RL 189 yX10_stratumOf cX10_stratumOf 2 (some .int) 1 := ⟨cd_X10_stratumOf, gtbl_of (List.mem_append_right _ (List.mem_of_getElem? (i := 1692) (by decide +kernel))) rfl, ini_X10, by decide +kernel⟩
theorem cf_X10_116 : CallF RX10 116 yX10_stratum cX10_stratum 2 (some .int) 1 := ⟨cd_X10_stratum, gtbl_of (List.mem_append_right _ (List.mem_of_getElem? (i := 1696) (by decide +kernel))) rfl, ini_X10, by decide +kernel⟩
theorem cf_L_192 : CallF RL 192 yX10_yearOf cX10_yearOf 2 (some .int) 1 := ⟨cd_X10_yearOf, gtbl_of (List.mem_append_right _ (List.mem_of_getElem? (i := 1700) (by decide +kernel))) rfl, ini_X10, by decide +kernel⟩
theorem cf_X10_413 : CallF RX10 413 yX10_whatOf cX10_whatOf 3 (some .int) 2 := ⟨cd_X10_whatOf, gtbl_of (List.mem_append_right _ (List.mem_of_getElem? (i := 1704) (by decide +kernel))) rfl, ini_X10, by decide +kernel⟩
theorem cf_L_195 : CallF RL 195 yX10_empireOf cX10_empireOf 2 (some .int) 1 := ⟨cd_X10_empireOf, gtbl_of (List.mem_append_right _ (List.mem_of_getElem? (i := 1708) (by decide +kernel))) rfl, ini_X10, by decide +kernel⟩
theorem cf_L_198 : CallF RL 198 yX10_buriedUnder cX10_buriedUnder 2 (some .int) 1 := ⟨cd_X10_buriedUnder, gtbl_of (List.mem_append_right _ (List.mem_of_getElem? (i := 1712) (by decide +kernel))) rfl, ini_X10, by decide +kernel⟩
theorem cf_X10_417 : CallF RX10 417 yX10_buried cX10_buried 4 (some .int) 1 := ⟨cd_X10_buried, gtbl_of (List.mem_append_right _ (List.mem_of_getElem? (i := 1716) (by decide +kernel))) rfl, ini_X10, by decide +kernel⟩
theorem cf_L_201 : CallF RL 201 yX10_notBefore cX10_notBefore 2 (some .int) 1 := ⟨cd_X10_notBefore, gtbl_of (List.mem_append_right _ (List.mem_of_getElem? (i := 1720) (by decide +kernel))) rfl, ini_X10, by decide +kernel⟩
theorem cf_X10_420 : CallF RX10 420 yX10_isStratum cX10_isStratum 2 (some .boolean) 1 := ⟨cd_X10_isStratum, gtbl_of (List.mem_append_right _ (List.mem_of_getElem? (i := 1724) (by decide +kernel))) rfl, ini_X10, by decide +kernel⟩
theorem cf_X10_423 : CallF RX10 423 yX10_notBeforeNow cX10_notBeforeNow 4 (some .int) 1 := ⟨cd_X10_notBeforeNow, gtbl_of (List.mem_append_right _ (List.mem_of_getElem? (i := 1728) (by decide +kernel))) rfl, ini_X10, by decide +kernel⟩
theorem cf_X10_128 : CallF RX10 128 yJ9_max_7cf53 cJ9_max_7cf53 2 (some .int) 2 := ⟨cd_J9_max_7cf53, gtbl_of (List.mem_append_right _ (List.mem_of_getElem? (i := 1732) (by decide +kernel))) rfl, ini_J9, by decide +kernel⟩
theorem cf_L_205 : CallF RL 205 yX10_isSeenIn cX10_isSeenIn 3 (some .boolean) 2 := ⟨cd_X10_isSeenIn, gtbl_of (List.mem_append_right _ (List.mem_of_getElem? (i := 1733) (by decide +kernel))) rfl, ini_X10, by decide +kernel⟩
theorem cf_X10_134 : CallF RX10 134 yX10_seenIn cX10_seenIn 4 (some .boolean) 2 := ⟨cd_X10_seenIn, gtbl_of (List.mem_append_right _ (List.mem_of_getElem? (i := 1737) (by decide +kernel))) rfl, ini_X10, by decide +kernel⟩
theorem cf_L_208 : CallF RL 208 yX10_isMixed cX10_isMixed 2 (some .boolean) 1 := ⟨cd_X10_isMixed, gtbl_of (List.mem_append_right _ (List.mem_of_getElem? (i := 1741) (by decide +kernel))) rfl, ini_X10, by decide +kernel⟩
theorem cf_X10_426 : CallF RX10 426 yX10_mixed cX10_mixed 4 (some .boolean) 1 := ⟨cd_X10_mixed, gtbl_of (List.mem_append_right _ (List.mem_of_getElem? (i := 1745) (by decide +kernel))) rfl, ini_X10, by decide +kernel⟩
theorem cf_L_211 : CallF RL 211 yX10_dig cX10_dig 2 (some .int) 1 := ⟨cd_X10_dig, gtbl_of (List.mem_append_right _ (List.mem_of_getElem? (i := 1749) (by decide +kernel))) rfl, ini_X10, by decide +kernel⟩
theorem cf_X10_157 : CallF RX10 157 yX10_digs cX10_digs 4 (some .int) 1 := ⟨cd_X10_digs, gtbl_of (List.mem_append_right _ (List.mem_of_getElem? (i := 1753) (by decide +kernel))) rfl, ini_X10, by decide +kernel⟩
theorem cf_X10_103 : CallF RX10 103 yX10_settle cX10_settle 5 (some .int) 0 := ⟨cd_X10_settle, gtbl_of (List.mem_append_right _ (List.mem_of_getElem? (i := 1757) (by decide +kernel))) rfl, ini_X10, by decide +kernel⟩
theorem cf_X10_96 : CallF RX10 96 yX10_next cX10_next 2 (some .int) 0 := ⟨cd_X10_next, gtbl_of (List.mem_append_right _ (List.mem_of_getElem? (i := 1761) (by decide +kernel))) rfl, ini_X10, by decide +kernel⟩
theorem cf_X10_92 : CallF RX10 92 yX10_canSlide cX10_canSlide 3 (some .boolean) 2 := ⟨cd_X10_canSlide, gtbl_of (List.mem_append_right _ (List.mem_of_getElem? (i := 1765) (by decide +kernel))) rfl, ini_X10, by decide +kernel⟩
theorem cf_L_214 : CallF RL 214 yX10_prop cX10_prop 2 (some .int) 1 := ⟨cd_X10_prop, gtbl_of (List.mem_append_right _ (List.mem_of_getElem? (i := 1769) (by decide +kernel))) rfl, ini_X10, by decide +kernel⟩
theorem cf_X10_160 : CallF RX10 160 yX10_isPropped3 cX10_isPropped3 1 (some .boolean) 0 := ⟨cd_X10_isPropped3, gtbl_of (List.mem_append_right _ (List.mem_of_getElem? (i := 1773) (by decide +kernel))) rfl, ini_X10, by decide +kernel⟩
theorem cf_L_217 : CallF RL 217 yX10_takeProp cX10_takeProp 2 (some .int) 1 := ⟨cd_X10_takeProp, gtbl_of (List.mem_append_right _ (List.mem_of_getElem? (i := 1777) (by decide +kernel))) rfl, ini_X10, by decide +kernel⟩
theorem cf_L_220 : CallF RL 220 yX10_passDays cX10_passDays 2 (some .int) 1 := ⟨cd_X10_passDays, gtbl_of (List.mem_append_right _ (List.mem_of_getElem? (i := 1781) (by decide +kernel))) rfl, ini_X10, by decide +kernel⟩
theorem cf_X10_429 : CallF RX10 429 yX10_go cX10_go 5 (some .int) 1 := ⟨cd_X10_go, gtbl_of (List.mem_append_right _ (List.mem_of_getElem? (i := 1785) (by decide +kernel))) rfl, ini_X10, by decide +kernel⟩
theorem cf_X10_170 : CallF RX10 170 yX10_isCarriedOut cX10_isCarriedOut 3 (some .boolean) 1 := ⟨cd_X10_isCarriedOut, gtbl_of (List.mem_append_right _ (List.mem_of_getElem? (i := 1789) (by decide +kernel))) rfl, ini_X10, by decide +kernel⟩
theorem cf_X10_148 : CallF RX10 148 yX10_reckonPart cX10_reckonPart 5 (some .int) 1 := ⟨cd_X10_reckonPart, gtbl_of (List.mem_append_right _ (List.mem_of_getElem? (i := 1793) (by decide +kernel))) rfl, ini_X10, by decide +kernel⟩
theorem cf_X10_191 : CallF RX10 191 yX10_isAsked cX10_isAsked 1 (some .boolean) 1 := ⟨cd_X10_isAsked, gtbl_of (List.mem_append_right _ (List.mem_of_getElem? (i := 1797) (by decide +kernel))) rfl, ini_X10, by decide +kernel⟩
theorem cf_X10_197 : CallF RX10 197 yX10_ask cX10_ask 3 (some .int) 2 := ⟨cd_X10_ask, gtbl_of (List.mem_append_right _ (List.mem_of_getElem? (i := 1800) (by decide +kernel))) rfl, ini_X10, by decide +kernel⟩
theorem cf_X10_173 : CallF RX10 173 yX10_seen cX10_seen 3 (some .boolean) 1 := ⟨cd_X10_seen, gtbl_of (List.mem_append_right _ (List.mem_of_getElem? (i := 1804) (by decide +kernel))) rfl, ini_X10, by decide +kernel⟩
theorem cf_X10_200 : CallF RX10 200 yX10_isOfOneNow cX10_isOfOneNow 1 (some .boolean) 1 := ⟨cd_X10_isOfOneNow, gtbl_of (List.mem_append_right _ (List.mem_of_getElem? (i := 1808) (by decide +kernel))) rfl, ini_X10, by decide +kernel⟩
theorem cf_X10_203 : CallF RX10 203 yX10_turned cX10_turned 3 (some .int) 2 := ⟨cd_X10_turned, gtbl_of (List.mem_append_right _ (List.mem_of_getElem? (i := 1811) (by decide +kernel))) rfl, ini_X10, by decide +kernel⟩
theorem cf_X10_151 : CallF RX10 151 yJ9_floorMod_7cf53 cJ9_floorMod_7cf53 3 (some .int) 2 := ⟨cd_J9_floorMod_7cf53, gtbl_of (List.mem_append_right _ (List.mem_of_getElem? (i := 1815) (by decide +kernel))) rfl, ini_J9, by decide +kernel⟩
theorem cf_X10_206 : CallF RX10 206 yX10_reckon cX10_reckon 3 (some .int) 3 := ⟨cd_X10_reckon, gtbl_of (List.mem_append_right _ (List.mem_of_getElem? (i := 1816) (by decide +kernel))) rfl, ini_X10, by decide +kernel⟩
theorem cf_L_223 : CallF RL 223 yX10_foundAfter cX10_foundAfter 3 (some .int) 1 := ⟨cd_X10_foundAfter, gtbl_of (List.mem_append_right _ (List.mem_of_getElem? (i := 1819) (by decide +kernel))) rfl, ini_X10, by decide +kernel⟩
theorem cf_X10_432 : CallF RX10 432 yX10_keep cX10_keep 1 none 0 := ⟨cd_X10_keep, gtbl_of (List.mem_append_right _ (List.mem_of_getElem? (i := 1823) (by decide +kernel))) rfl, ini_X10, by decide +kernel⟩
theorem cf_X10_435 : CallF RX10 435 yX10_bringBack cX10_bringBack 1 none 0 := ⟨cd_X10_bringBack, gtbl_of (List.mem_append_right _ (List.mem_of_getElem? (i := 1830) (by decide +kernel))) rfl, ini_X10, by decide +kernel⟩
theorem cf_L_226 : CallF RL 226 yX10_daysUntilFound cX10_daysUntilFound 3 (some .int) 1 := ⟨cd_X10_daysUntilFound, gtbl_of (List.mem_append_right _ (List.mem_of_getElem? (i := 1834) (by decide +kernel))) rfl, ini_X10, by decide +kernel⟩
theorem cf_L_229 : CallF RL 229 yX10_wouldSlide cX10_wouldSlide 2 (some .int) 1 := ⟨cd_X10_wouldSlide, gtbl_of (List.mem_append_right _ (List.mem_of_getElem? (i := 1838) (by decide +kernel))) rfl, ini_X10, by decide +kernel⟩
theorem cf_X10_438 : CallF RX10 438 yX10_slideBy cX10_slideBy 4 (some .int) 1 := ⟨cd_X10_slideBy, gtbl_of (List.mem_append_right _ (List.mem_of_getElem? (i := 1842) (by decide +kernel))) rfl, ini_X10, by decide +kernel⟩
theorem cf_L_233 : CallF RL 233 yX10_bestDig cX10_bestDig 1 (some .int) 0 := ⟨cd_X10_bestDig, gtbl_of (List.mem_append_right _ (List.mem_of_getElem? (i := 1846) (by decide +kernel))) rfl, ini_X10, by decide +kernel⟩
theorem cf_X10_441 : CallF RX10 441 yX10_best cX10_best 5 (some .int) 0 := ⟨cd_X10_best, gtbl_of (List.mem_append_right _ (List.mem_of_getElem? (i := 1850) (by decide +kernel))) rfl, ini_X10, by decide +kernel⟩
theorem cf_L_238 : CallF RL 238 yX10_meanYear cX10_meanYear 4 (some .double) 0 := ⟨cd_X10_meanYear, gtbl_of (List.mem_append_right _ (List.mem_of_getElem? (i := 1854) (by decide +kernel))) rfl, ini_X10, by decide +kernel⟩
theorem cf_L_243 : CallF RL 243 yX10_digest cX10_digest 8 (some .long) 0 := ⟨cd_X10_digest, gtbl_of (List.mem_append_right _ (List.mem_of_getElem? (i := 1858) (by decide +kernel))) rfl, ini_X10, by decide +kernel⟩
theorem co_X4_133 : Cond.constant RX4 133 1000000 ∈ gtbl := gtbl_of (List.mem_append_right _ (List.mem_of_getElem? (i := 666) (by decide +kernel))) rfl
theorem cj_X6_77 : Cond.constantLong RX6 77 37 ∈ gtbl := gtbl_of (List.mem_append_right _ (List.mem_of_getElem? (i := 360) (by decide +kernel))) rfl
theorem cj_X8_232 : Cond.constantLong RX8 232 1021 ∈ gtbl := gtbl_of (List.mem_append_right _ (List.mem_of_getElem? (i := 709) (by decide +kernel))) rfl
theorem cj_X8_234 : Cond.constantLong RX8 234 31 ∈ gtbl := gtbl_of (List.mem_append_right _ (List.mem_of_getElem? (i := 710) (by decide +kernel))) rfl
theorem cj_X10_233 : Cond.constantLong RX10 233 37 ∈ gtbl := gtbl_of (List.mem_append_right _ (List.mem_of_getElem? (i := 1412) (by decide +kernel))) rfl
theorem cj_X10_344 : Cond.constantLong RX10 344 2 ∈ gtbl := gtbl_of (List.mem_append_right _ (List.mem_of_getElem? (i := 1512) (by decide +kernel))) rfl
theorem cj_X10_346 : Cond.constantLong RX10 346 8 ∈ gtbl := gtbl_of (List.mem_append_right _ (List.mem_of_getElem? (i := 1513) (by decide +kernel))) rfl
theorem cj_X10_348 : Cond.constantLong RX10 348 10 ∈ gtbl := gtbl_of (List.mem_append_right _ (List.mem_of_getElem? (i := 1518) (by decide +kernel))) rfl
theorem cj_X10_335 : Cond.constantLong RX10 335 999 ∈ gtbl := gtbl_of (List.mem_append_right _ (List.mem_of_getElem? (i := 1530) (by decide +kernel))) rfl
theorem cj_X10_444 : Cond.constantLong RX10 444 1021 ∈ gtbl := gtbl_of (List.mem_append_right _ (List.mem_of_getElem? (i := 1862) (by decide +kernel))) rfl
theorem cj_X10_446 : Cond.constantLong RX10 446 31 ∈ gtbl := gtbl_of (List.mem_append_right _ (List.mem_of_getElem? (i := 1863) (by decide +kernel))) rfl

theorem im_X8_digestStrata : Cond.instanceMethod yX8_digestStrata ∈ gtbl := gtbl_of (List.mem_append_right _ (List.mem_of_getElem? (i := 834) (by decide +kernel))) rfl
theorem se_X8_digestStrata : Cond.selects yX8_digestStrata.cls yX8_digestStrata yX8_digestStrata ∈ gtbl := gtbl_of (List.mem_append_left _ (List.mem_of_getElem? (i := 24) (by decide +kernel))) rfl
theorem cd_X8_slidesOfDig : Cond.code yX8_slidesOfDig cX8_slidesOfDig 2 (some .int) ∈ gtbl := gtbl_of (List.mem_append_right _ (List.mem_of_getElem? (i := 812) (by decide +kernel))) rfl
theorem im_X8_slidesOfDig : Cond.instanceMethod yX8_slidesOfDig ∈ gtbl := gtbl_of (List.mem_append_right _ (List.mem_of_getElem? (i := 811) (by decide +kernel))) rfl
theorem se_X8_slidesOfDig : Cond.selects yX8_slidesOfDig.cls yX8_slidesOfDig yX8_slidesOfDig ∈ gtbl := gtbl_of (List.mem_append_left _ (List.mem_of_getElem? (i := 21) (by decide +kernel))) rfl
theorem cd_X8_needSeat : Cond.code yX8_needSeat cX8_needSeat 2 none ∈ gtbl := gtbl_of (List.mem_append_right _ (List.mem_of_getElem? (i := 362) (by decide +kernel))) rfl
theorem im_X8_needSeat : Cond.instanceMethod yX8_needSeat ∈ gtbl := gtbl_of (List.mem_append_right _ (List.mem_of_getElem? (i := 361) (by decide +kernel))) rfl
theorem se_X8_needSeat : Cond.selects yX8_needSeat.cls yX8_needSeat yX8_needSeat ∈ gtbl := gtbl_of (List.mem_append_left _ (List.mem_of_getElem? (i := 0) (by decide +kernel))) rfl
theorem cd_X8_needCushion : Cond.code yX8_needCushion cX8_needCushion 2 none ∈ gtbl := gtbl_of (List.mem_append_right _ (List.mem_of_getElem? (i := 449) (by decide +kernel))) rfl
theorem im_X8_needCushion : Cond.instanceMethod yX8_needCushion ∈ gtbl := gtbl_of (List.mem_append_right _ (List.mem_of_getElem? (i := 448) (by decide +kernel))) rfl
theorem se_X8_needCushion : Cond.selects yX8_needCushion.cls yX8_needCushion yX8_needCushion ∈ gtbl := gtbl_of (List.mem_append_left _ (List.mem_of_getElem? (i := 2) (by decide +kernel))) rfl
theorem cd_X8_needFind : Cond.code yX8_needFind cX8_needFind 2 none ∈ gtbl := gtbl_of (List.mem_append_right _ (List.mem_of_getElem? (i := 517) (by decide +kernel))) rfl
theorem im_X8_needFind : Cond.instanceMethod yX8_needFind ∈ gtbl := gtbl_of (List.mem_append_right _ (List.mem_of_getElem? (i := 516) (by decide +kernel))) rfl
theorem se_X8_needFind : Cond.selects yX8_needFind.cls yX8_needFind yX8_needFind ∈ gtbl := gtbl_of (List.mem_append_left _ (List.mem_of_getElem? (i := 4) (by decide +kernel))) rfl
theorem cd_X8_needStratum : Cond.code yX8_needStratum cX8_needStratum 2 none ∈ gtbl := gtbl_of (List.mem_append_right _ (List.mem_of_getElem? (i := 583) (by decide +kernel))) rfl
theorem im_X8_needStratum : Cond.instanceMethod yX8_needStratum ∈ gtbl := gtbl_of (List.mem_append_right _ (List.mem_of_getElem? (i := 582) (by decide +kernel))) rfl
theorem se_X8_needStratum : Cond.selects yX8_needStratum.cls yX8_needStratum yX8_needStratum ∈ gtbl := gtbl_of (List.mem_append_left _ (List.mem_of_getElem? (i := 6) (by decide +kernel))) rfl
theorem cd_X8_needDays : Cond.code yX8_needDays cX8_needDays 2 none ∈ gtbl := gtbl_of (List.mem_append_right _ (List.mem_of_getElem? (i := 672) (by decide +kernel))) rfl
theorem im_X8_needDays : Cond.instanceMethod yX8_needDays ∈ gtbl := gtbl_of (List.mem_append_right _ (List.mem_of_getElem? (i := 671) (by decide +kernel))) rfl
theorem se_X8_needDays : Cond.selects yX8_needDays.cls yX8_needDays yX8_needDays ∈ gtbl := gtbl_of (List.mem_append_left _ (List.mem_of_getElem? (i := 12) (by decide +kernel))) rfl
theorem cd_X9_init : Cond.code yX9_init cX9_init 1 none ∈ gtbl := gtbl_of (List.mem_append_right _ (List.mem_of_getElem? (i := 1244) (by decide +kernel))) rfl
theorem im_X9_init : Cond.instanceMethod yX9_init ∈ gtbl := gtbl_of (List.mem_append_right _ (List.mem_of_getElem? (i := 1243) (by decide +kernel))) rfl
theorem cd_X9_of : Cond.code yX9_of cX9_of 5 (some (Jvm.ClassFile.FieldType.object "SofaDigLaw$Sim")) ∈ gtbl := gtbl_of (List.mem_append_right _ (List.mem_of_getElem? (i := 1240) (by decide +kernel))) rfl
theorem st_X9_of : Cond.static yX9_of ∈ gtbl := gtbl_of (List.mem_append_right _ (List.mem_of_getElem? (i := 1239) (by decide +kernel))) rfl
theorem cd_X9_with : Cond.code yX9_with cX9_with 4 (some (Jvm.ClassFile.FieldType.array (Jvm.ClassFile.FieldType.array Jvm.ClassFile.FieldType.int))) ∈ gtbl := gtbl_of (List.mem_append_right _ (List.mem_of_getElem? (i := 856) (by decide +kernel))) rfl
theorem st_X9_with : Cond.static yX9_with ∈ gtbl := gtbl_of (List.mem_append_right _ (List.mem_of_getElem? (i := 855) (by decide +kernel))) rfl
theorem cd_X9_less : Cond.code yX9_less cX9_less 3 (some (Jvm.ClassFile.FieldType.array (Jvm.ClassFile.FieldType.array Jvm.ClassFile.FieldType.int))) ∈ gtbl := gtbl_of (List.mem_append_right _ (List.mem_of_getElem? (i := 842) (by decide +kernel))) rfl
theorem st_X9_less : Cond.static yX9_less ∈ gtbl := gtbl_of (List.mem_append_right _ (List.mem_of_getElem? (i := 841) (by decide +kernel))) rfl
theorem cd_X9_seat : Cond.code yX9_seat cX9_seat 2 (some .int) ∈ gtbl := gtbl_of (List.mem_append_right _ (List.mem_of_getElem? (i := 878) (by decide +kernel))) rfl
theorem im_X9_seat : Cond.instanceMethod yX9_seat ∈ gtbl := gtbl_of (List.mem_append_right _ (List.mem_of_getElem? (i := 876) (by decide +kernel))) rfl
theorem se_X9_seat : Cond.selects yX9_seat.cls yX9_seat yX9_seat ∈ gtbl := gtbl_of (List.mem_append_right _ (List.mem_of_getElem? (i := 877) (by decide +kernel))) rfl
theorem cd_X9_props : Cond.code yX9_props cX9_props 6 (some .int) ∈ gtbl := gtbl_of (List.mem_append_right _ (List.mem_of_getElem? (i := 873) (by decide +kernel))) rfl
theorem im_X9_props : Cond.instanceMethod yX9_props ∈ gtbl := gtbl_of (List.mem_append_right _ (List.mem_of_getElem? (i := 871) (by decide +kernel))) rfl
theorem se_X9_props : Cond.selects yX9_props.cls yX9_props yX9_props ∈ gtbl := gtbl_of (List.mem_append_right _ (List.mem_of_getElem? (i := 872) (by decide +kernel))) rfl
theorem cd_X9_found : Cond.code yX9_found cX9_found 7 (some .int) ∈ gtbl := gtbl_of (List.mem_append_right _ (List.mem_of_getElem? (i := 864) (by decide +kernel))) rfl
theorem im_X9_found : Cond.instanceMethod yX9_found ∈ gtbl := gtbl_of (List.mem_append_right _ (List.mem_of_getElem? (i := 862) (by decide +kernel))) rfl
theorem se_X9_found : Cond.selects yX9_found.cls yX9_found yX9_found ∈ gtbl := gtbl_of (List.mem_append_right _ (List.mem_of_getElem? (i := 863) (by decide +kernel))) rfl
theorem cd_X9_isSure : Cond.code yX9_isSure cX9_isSure 2 (some .boolean) ∈ gtbl := gtbl_of (List.mem_append_right _ (List.mem_of_getElem? (i := 886) (by decide +kernel))) rfl
theorem im_X9_isSure : Cond.instanceMethod yX9_isSure ∈ gtbl := gtbl_of (List.mem_append_right _ (List.mem_of_getElem? (i := 884) (by decide +kernel))) rfl
theorem se_X9_isSure : Cond.selects yX9_isSure.cls yX9_isSure yX9_isSure ∈ gtbl := gtbl_of (List.mem_append_right _ (List.mem_of_getElem? (i := 885) (by decide +kernel))) rfl
theorem cd_X9_isSeen : Cond.code yX9_isSeen cX9_isSeen 6 (some .boolean) ∈ gtbl := gtbl_of (List.mem_append_right _ (List.mem_of_getElem? (i := 882) (by decide +kernel))) rfl
theorem im_X9_isSeen : Cond.instanceMethod yX9_isSeen ∈ gtbl := gtbl_of (List.mem_append_right _ (List.mem_of_getElem? (i := 880) (by decide +kernel))) rfl
theorem se_X9_isSeen : Cond.selects yX9_isSeen.cls yX9_isSeen yX9_isSeen ∈ gtbl := gtbl_of (List.mem_append_right _ (List.mem_of_getElem? (i := 881) (by decide +kernel))) rfl
theorem cd_X9_isSeenIn : Cond.code yX9_isSeenIn cX9_isSeenIn 7 (some .boolean) ∈ gtbl := gtbl_of (List.mem_append_right _ (List.mem_of_getElem? (i := 950) (by decide +kernel))) rfl
theorem im_X9_isSeenIn : Cond.instanceMethod yX9_isSeenIn ∈ gtbl := gtbl_of (List.mem_append_right _ (List.mem_of_getElem? (i := 948) (by decide +kernel))) rfl
theorem se_X9_isSeenIn : Cond.selects yX9_isSeenIn.cls yX9_isSeenIn yX9_isSeenIn ∈ gtbl := gtbl_of (List.mem_append_right _ (List.mem_of_getElem? (i := 949) (by decide +kernel))) rfl
theorem cd_X9_notBefore : Cond.code yX9_notBefore cX9_notBefore 8 (some .int) ∈ gtbl := gtbl_of (List.mem_append_right _ (List.mem_of_getElem? (i := 941) (by decide +kernel))) rfl
theorem im_X9_notBefore : Cond.instanceMethod yX9_notBefore ∈ gtbl := gtbl_of (List.mem_append_right _ (List.mem_of_getElem? (i := 939) (by decide +kernel))) rfl
theorem se_X9_notBefore : Cond.selects yX9_notBefore.cls yX9_notBefore yX9_notBefore ∈ gtbl := gtbl_of (List.mem_append_right _ (List.mem_of_getElem? (i := 940) (by decide +kernel))) rfl
theorem cd_X9_isMixed : Cond.code yX9_isMixed cX9_isMixed 4 (some .boolean) ∈ gtbl := gtbl_of (List.mem_append_right _ (List.mem_of_getElem? (i := 946) (by decide +kernel))) rfl
theorem im_X9_isMixed : Cond.instanceMethod yX9_isMixed ∈ gtbl := gtbl_of (List.mem_append_right _ (List.mem_of_getElem? (i := 944) (by decide +kernel))) rfl
theorem se_X9_isMixed : Cond.selects yX9_isMixed.cls yX9_isMixed yX9_isMixed ∈ gtbl := gtbl_of (List.mem_append_right _ (List.mem_of_getElem? (i := 945) (by decide +kernel))) rfl
theorem cd_X9_slidesOnto : Cond.code yX9_slidesOnto cX9_slidesOnto 3 (some .boolean) ∈ gtbl := gtbl_of (List.mem_append_right _ (List.mem_of_getElem? (i := 853) (by decide +kernel))) rfl
theorem im_X9_slidesOnto : Cond.instanceMethod yX9_slidesOnto ∈ gtbl := gtbl_of (List.mem_append_right _ (List.mem_of_getElem? (i := 851) (by decide +kernel))) rfl
theorem se_X9_slidesOnto : Cond.selects yX9_slidesOnto.cls yX9_slidesOnto yX9_slidesOnto ∈ gtbl := gtbl_of (List.mem_append_left _ (List.mem_of_getElem? (i := 25) (by decide +kernel))) rfl
theorem cd_X9_settle : Cond.code yX9_settle cX9_settle 5 (some .int) ∈ gtbl := gtbl_of (List.mem_append_right _ (List.mem_of_getElem? (i := 848) (by decide +kernel))) rfl
theorem im_X9_settle : Cond.instanceMethod yX9_settle ∈ gtbl := gtbl_of (List.mem_append_right _ (List.mem_of_getElem? (i := 846) (by decide +kernel))) rfl
theorem se_X9_settle : Cond.selects yX9_settle.cls yX9_settle yX9_settle ∈ gtbl := gtbl_of (List.mem_append_right _ (List.mem_of_getElem? (i := 847) (by decide +kernel))) rfl
theorem cd_X9_dig : Cond.code yX9_dig cX9_dig 3 (some .int) ∈ gtbl := gtbl_of (List.mem_append_right _ (List.mem_of_getElem? (i := 839) (by decide +kernel))) rfl
theorem im_X9_dig : Cond.instanceMethod yX9_dig ∈ gtbl := gtbl_of (List.mem_append_right _ (List.mem_of_getElem? (i := 837) (by decide +kernel))) rfl
theorem se_X9_dig : Cond.selects yX9_dig.cls yX9_dig yX9_dig ∈ gtbl := gtbl_of (List.mem_append_right _ (List.mem_of_getElem? (i := 838) (by decide +kernel))) rfl
theorem cd_X9_pass : Cond.code yX9_pass cX9_pass 5 (some .int) ∈ gtbl := gtbl_of (List.mem_append_right _ (List.mem_of_getElem? (i := 860) (by decide +kernel))) rfl
theorem im_X9_pass : Cond.instanceMethod yX9_pass ∈ gtbl := gtbl_of (List.mem_append_right _ (List.mem_of_getElem? (i := 858) (by decide +kernel))) rfl
theorem se_X9_pass : Cond.selects yX9_pass.cls yX9_pass yX9_pass ∈ gtbl := gtbl_of (List.mem_append_right _ (List.mem_of_getElem? (i := 859) (by decide +kernel))) rfl
theorem cd_X9_left : Cond.code yX9_left cX9_left 7 (some .int) ∈ gtbl := gtbl_of (List.mem_append_right _ (List.mem_of_getElem? (i := 921) (by decide +kernel))) rfl
theorem im_X9_left : Cond.instanceMethod yX9_left ∈ gtbl := gtbl_of (List.mem_append_right _ (List.mem_of_getElem? (i := 919) (by decide +kernel))) rfl
theorem se_X9_left : Cond.selects yX9_left.cls yX9_left yX9_left ∈ gtbl := gtbl_of (List.mem_append_right _ (List.mem_of_getElem? (i := 920) (by decide +kernel))) rfl
theorem cd_X9_isSame : Cond.code yX9_isSame cX9_isSame 6 (some .boolean) ∈ gtbl := gtbl_of (List.mem_append_right _ (List.mem_of_getElem? (i := 898) (by decide +kernel))) rfl
theorem im_X9_isSame : Cond.instanceMethod yX9_isSame ∈ gtbl := gtbl_of (List.mem_append_right _ (List.mem_of_getElem? (i := 896) (by decide +kernel))) rfl
theorem se_X9_isSame : Cond.selects yX9_isSame.cls yX9_isSame yX9_isSame ∈ gtbl := gtbl_of (List.mem_append_right _ (List.mem_of_getElem? (i := 897) (by decide +kernel))) rfl
theorem cd_X10_init : Cond.code yX10_init cX10_init 1 none ∈ gtbl := gtbl_of (List.mem_append_right _ (List.mem_of_getElem? (i := 1529) (by decide +kernel))) rfl
theorem im_X10_init : Cond.instanceMethod yX10_init ∈ gtbl := gtbl_of (List.mem_append_right _ (List.mem_of_getElem? (i := 1528) (by decide +kernel))) rfl
theorem cd_X10_of : Cond.code yX10_of cX10_of 2 (some .int) ∈ gtbl := gtbl_of (List.mem_append_right _ (List.mem_of_getElem? (i := 868) (by decide +kernel))) rfl
theorem im_X10_of : Cond.instanceMethod yX10_of ∈ gtbl := gtbl_of (List.mem_append_right _ (List.mem_of_getElem? (i := 866) (by decide +kernel))) rfl
theorem se_X10_of : Cond.selects yX10_of.cls yX10_of yX10_of ∈ gtbl := gtbl_of (List.mem_append_right _ (List.mem_of_getElem? (i := 867) (by decide +kernel))) rfl
theorem cd_X10_ofTwo : Cond.code yX10_ofTwo cX10_ofTwo 3 (some .int) ∈ gtbl := gtbl_of (List.mem_append_right _ (List.mem_of_getElem? (i := 891) (by decide +kernel))) rfl
theorem im_X10_ofTwo : Cond.instanceMethod yX10_ofTwo ∈ gtbl := gtbl_of (List.mem_append_right _ (List.mem_of_getElem? (i := 889) (by decide +kernel))) rfl
theorem se_X10_ofTwo : Cond.selects yX10_ofTwo.cls yX10_ofTwo yX10_ofTwo ∈ gtbl := gtbl_of (List.mem_append_left _ (List.mem_of_getElem? (i := 26) (by decide +kernel))) rfl
set_option maxRecDepth 100000 in
set_option maxHeartbeats 4000000 in
theorem cd_X10_text : Cond.code yX10_text cX10_text 4 (some (Jvm.ClassFile.FieldType.object "java/lang/String")) ∈ gtbl := gtbl_of (List.mem_append_right _ (List.mem_append_right tables_1_1 (List.mem_append_right tables_1_2 (List.mem_append_right tables_1_3 (List.mem_append_right tables_1_4 (List.mem_append_right tables_1_5 (List.mem_append_right tables_1_6 (List.mem_of_getElem? (i := 118) rfl)))))))) rfl
theorem im_X10_text : Cond.instanceMethod yX10_text ∈ gtbl := gtbl_of (List.mem_append_right _ (List.mem_of_getElem? (i := 1556) (by decide +kernel))) rfl
theorem se_X10_text : Cond.selects yX10_text.cls yX10_text yX10_text ∈ gtbl := gtbl_of (List.mem_append_right _ (List.mem_of_getElem? (i := 1557) (by decide +kernel))) rfl
theorem cd_J5_init_d00df : Cond.code yJ5_init_d00df cJ5_init_d00df 2 none ∈ gtbl := gtbl_of (List.mem_append_right _ (List.mem_of_getElem? (i := 1445) (by decide +kernel))) rfl
theorem im_J5_init_d00df : Cond.instanceMethod yJ5_init_d00df ∈ gtbl := gtbl_of (List.mem_append_right _ (List.mem_of_getElem? (i := 1444) (by decide +kernel))) rfl
theorem cd_J5_length_8abf5 : Cond.code yJ5_length_8abf5 cJ5_length_8abf5 1 (some .int) ∈ gtbl := gtbl_of (List.mem_append_right _ (List.mem_of_getElem? (i := 1486) (by decide +kernel))) rfl
theorem im_J5_length_8abf5 : Cond.instanceMethod yJ5_length_8abf5 ∈ gtbl := gtbl_of (List.mem_append_right _ (List.mem_of_getElem? (i := 1480) (by decide +kernel))) rfl
theorem cd_J5_ensureCapacityInternal_d00df : Cond.code yJ5_ensureCapacityInternal_d00df cJ5_ensureCapacityInternal_d00df 3 none ∈ gtbl := gtbl_of (List.mem_append_right _ (List.mem_of_getElem? (i := 1315) (by decide +kernel))) rfl
theorem im_J5_ensureCapacityInternal_d00df : Cond.instanceMethod yJ5_ensureCapacityInternal_d00df ∈ gtbl := gtbl_of (List.mem_append_right _ (List.mem_of_getElem? (i := 1314) (by decide +kernel))) rfl
theorem cd_J5_newCapacity_0f7a4 : Cond.code yJ5_newCapacity_0f7a4 cJ5_newCapacity_0f7a4 6 (some .int) ∈ gtbl := gtbl_of (List.mem_append_right _ (List.mem_of_getElem? (i := 1319) (by decide +kernel))) rfl
theorem im_J5_newCapacity_0f7a4 : Cond.instanceMethod yJ5_newCapacity_0f7a4 ∈ gtbl := gtbl_of (List.mem_append_right _ (List.mem_of_getElem? (i := 1318) (by decide +kernel))) rfl
theorem cd_J5_inflate_da8c8 : Cond.code yJ5_inflate_da8c8 cJ5_inflate_da8c8 2 none ∈ gtbl := gtbl_of (List.mem_append_right _ (List.mem_of_getElem? (i := 1377) (by decide +kernel))) rfl
theorem im_J5_inflate_da8c8 : Cond.instanceMethod yJ5_inflate_da8c8 ∈ gtbl := gtbl_of (List.mem_append_right _ (List.mem_of_getElem? (i := 1376) (by decide +kernel))) rfl
theorem cd_J5_append_cf1ce : Cond.code yJ5_append_cf1ce cJ5_append_cf1ce 3 (some (Jvm.ClassFile.FieldType.object "java/lang/AbstractStringBuilder")) ∈ gtbl := gtbl_of (List.mem_append_right _ (List.mem_of_getElem? (i := 1307) (by decide +kernel))) rfl
theorem im_J5_append_cf1ce : Cond.instanceMethod yJ5_append_cf1ce ∈ gtbl := gtbl_of (List.mem_append_right _ (List.mem_of_getElem? (i := 1306) (by decide +kernel))) rfl
theorem cd_J5_appendNull_278bc : Cond.code yJ5_appendNull_278bc cJ5_appendNull_278bc 3 (some (Jvm.ClassFile.FieldType.object "java/lang/AbstractStringBuilder")) ∈ gtbl := gtbl_of (List.mem_append_right _ (List.mem_of_getElem? (i := 1311) (by decide +kernel))) rfl
theorem im_J5_appendNull_278bc : Cond.instanceMethod yJ5_appendNull_278bc ∈ gtbl := gtbl_of (List.mem_append_right _ (List.mem_of_getElem? (i := 1310) (by decide +kernel))) rfl
theorem cd_J5_append_c97b9 : Cond.code yJ5_append_c97b9 cJ5_append_c97b9 4 (some (Jvm.ClassFile.FieldType.object "java/lang/AbstractStringBuilder")) ∈ gtbl := gtbl_of (List.mem_append_right _ (List.mem_of_getElem? (i := 1412) (by decide +kernel))) rfl
theorem im_J5_append_c97b9 : Cond.instanceMethod yJ5_append_c97b9 ∈ gtbl := gtbl_of (List.mem_append_right _ (List.mem_of_getElem? (i := 1411) (by decide +kernel))) rfl
theorem cd_J5_getValue_6d5f1 : Cond.code yJ5_getValue_6d5f1 cJ5_getValue_6d5f1 1 (some (Jvm.ClassFile.FieldType.array Jvm.ClassFile.FieldType.byte)) ∈ gtbl := gtbl_of (List.mem_append_right _ (List.mem_of_getElem? (i := 1478) (by decide +kernel))) rfl
theorem im_J5_getValue_6d5f1 : Cond.instanceMethod yJ5_getValue_6d5f1 ∈ gtbl := gtbl_of (List.mem_append_right _ (List.mem_of_getElem? (i := 1475) (by decide +kernel))) rfl
theorem cd_J5_isLatin1_aae02 : Cond.code yJ5_isLatin1_aae02 cJ5_isLatin1_aae02 1 (some .boolean) ∈ gtbl := gtbl_of (List.mem_append_right _ (List.mem_of_getElem? (i := 1347) (by decide +kernel))) rfl
theorem im_J5_isLatin1_aae02 : Cond.instanceMethod yJ5_isLatin1_aae02 ∈ gtbl := gtbl_of (List.mem_append_right _ (List.mem_of_getElem? (i := 1344) (by decide +kernel))) rfl
theorem cd_J5_inflateIfNeededFor_a7421 : Cond.code yJ5_inflateIfNeededFor_a7421 cJ5_inflateIfNeededFor_a7421 2 none ∈ gtbl := gtbl_of (List.mem_append_right _ (List.mem_of_getElem? (i := 1372) (by decide +kernel))) rfl
theorem im_J5_inflateIfNeededFor_a7421 : Cond.instanceMethod yJ5_inflateIfNeededFor_a7421 ∈ gtbl := gtbl_of (List.mem_append_right _ (List.mem_of_getElem? (i := 1371) (by decide +kernel))) rfl
theorem cd_J5_putStringAt_47b60 : Cond.code yJ5_putStringAt_47b60 cJ5_putStringAt_47b60 3 none ∈ gtbl := gtbl_of (List.mem_append_right _ (List.mem_of_getElem? (i := 1368) (by decide +kernel))) rfl
theorem im_J5_putStringAt_47b60 : Cond.instanceMethod yJ5_putStringAt_47b60 ∈ gtbl := gtbl_of (List.mem_append_right _ (List.mem_of_getElem? (i := 1367) (by decide +kernel))) rfl
theorem cd_J6_getChars_ba4f3 : Cond.code yJ6_getChars_ba4f3 cJ6_getChars_ba4f3 7 (some .int) ∈ gtbl := gtbl_of (List.mem_append_right _ (List.mem_of_getElem? (i := 1418) (by decide +kernel))) rfl
theorem st_J6_getChars_ba4f3 : Cond.static yJ6_getChars_ba4f3 ∈ gtbl := gtbl_of (List.mem_append_right _ (List.mem_of_getElem? (i := 1417) (by decide +kernel))) rfl
theorem cd_J6_stringSize_0f7a4 : Cond.code yJ6_stringSize_0f7a4 cJ6_stringSize_0f7a4 4 (some .int) ∈ gtbl := gtbl_of (List.mem_append_right _ (List.mem_of_getElem? (i := 1415) (by decide +kernel))) rfl
theorem st_J6_stringSize_0f7a4 : Cond.static yJ6_stringSize_0f7a4 ∈ gtbl := gtbl_of (List.mem_append_right _ (List.mem_of_getElem? (i := 1414) (by decide +kernel))) rfl
theorem cd_J9_floorMod_7cf53 : Cond.code yJ9_floorMod_7cf53 cJ9_floorMod_7cf53 3 (some .int) ∈ gtbl := gtbl_of (List.mem_append_right _ (List.mem_of_getElem? (i := 753) (by decide +kernel))) rfl
theorem st_J9_floorMod_7cf53 : Cond.static yJ9_floorMod_7cf53 ∈ gtbl := gtbl_of (List.mem_append_right _ (List.mem_of_getElem? (i := 752) (by decide +kernel))) rfl
theorem cd_J9_max_7cf53 : Cond.code yJ9_max_7cf53 cJ9_max_7cf53 2 (some .int) ∈ gtbl := gtbl_of (List.mem_append_right _ (List.mem_of_getElem? (i := 611) (by decide +kernel))) rfl
theorem st_J9_max_7cf53 : Cond.static yJ9_max_7cf53 ∈ gtbl := gtbl_of (List.mem_append_right _ (List.mem_of_getElem? (i := 610) (by decide +kernel))) rfl
theorem cd_J9_min_7cf53 : Cond.code yJ9_min_7cf53 cJ9_min_7cf53 2 (some .int) ∈ gtbl := gtbl_of (List.mem_append_right _ (List.mem_of_getElem? (i := 761) (by decide +kernel))) rfl
theorem st_J9_min_7cf53 : Cond.static yJ9_min_7cf53 ∈ gtbl := gtbl_of (List.mem_append_right _ (List.mem_of_getElem? (i := 760) (by decide +kernel))) rfl
theorem cd_J0_init_81219 : Cond.code yJ0_init_81219 cJ0_init_81219 2 none ∈ gtbl := gtbl_of (List.mem_append_right _ (List.mem_of_getElem? (i := 1469) (by decide +kernel))) rfl
theorem im_J0_init_81219 : Cond.instanceMethod yJ0_init_81219 ∈ gtbl := gtbl_of (List.mem_append_right _ (List.mem_of_getElem? (i := 1468) (by decide +kernel))) rfl
theorem cd_J0_length_8abf5 : Cond.code yJ0_length_8abf5 cJ0_length_8abf5 1 (some .int) ∈ gtbl := gtbl_of (List.mem_append_right _ (List.mem_of_getElem? (i := 970) (by decide +kernel))) rfl
theorem im_J0_length_8abf5 : Cond.instanceMethod yJ0_length_8abf5 ∈ gtbl := gtbl_of (List.mem_append_right _ (List.mem_of_getElem? (i := 968) (by decide +kernel))) rfl
theorem se_J0_length_8abf5 : Cond.selects yJ0_length_8abf5.cls yJ0_length_8abf5 yJ0_length_8abf5 ∈ gtbl := gtbl_of (List.mem_append_right _ (List.mem_of_getElem? (i := 969) (by decide +kernel))) rfl
theorem cd_J0_charAt_5068e : Cond.code yJ0_charAt_5068e cJ0_charAt_5068e 2 (some .char) ∈ gtbl := gtbl_of (List.mem_append_right _ (List.mem_of_getElem? (i := 980) (by decide +kernel))) rfl
theorem im_J0_charAt_5068e : Cond.instanceMethod yJ0_charAt_5068e ∈ gtbl := gtbl_of (List.mem_append_right _ (List.mem_of_getElem? (i := 978) (by decide +kernel))) rfl
theorem se_J0_charAt_5068e : Cond.selects yJ0_charAt_5068e.cls yJ0_charAt_5068e yJ0_charAt_5068e ∈ gtbl := gtbl_of (List.mem_append_right _ (List.mem_of_getElem? (i := 979) (by decide +kernel))) rfl
theorem cd_J0_getBytes_840e7 : Cond.code yJ0_getBytes_840e7 cJ0_getBytes_840e7 4 none ∈ gtbl := gtbl_of (List.mem_append_right _ (List.mem_of_getElem? (i := 1403) (by decide +kernel))) rfl
theorem im_J0_getBytes_840e7 : Cond.instanceMethod yJ0_getBytes_840e7 ∈ gtbl := gtbl_of (List.mem_append_right _ (List.mem_of_getElem? (i := 1401) (by decide +kernel))) rfl
theorem se_J0_getBytes_840e7 : Cond.selects yJ0_getBytes_840e7.cls yJ0_getBytes_840e7 yJ0_getBytes_840e7 ∈ gtbl := gtbl_of (List.mem_append_right _ (List.mem_of_getElem? (i := 1402) (by decide +kernel))) rfl
theorem cd_J0_init_db425 : Cond.code yJ0_init_db425 cJ0_init_db425 5 none ∈ gtbl := gtbl_of (List.mem_append_right _ (List.mem_of_getElem? (i := 1472) (by decide +kernel))) rfl
theorem im_J0_init_db425 : Cond.instanceMethod yJ0_init_db425 ∈ gtbl := gtbl_of (List.mem_append_right _ (List.mem_of_getElem? (i := 1471) (by decide +kernel))) rfl
theorem cd_J0_coder_7d493 : Cond.code yJ0_coder_7d493 cJ0_coder_7d493 1 (some .byte) ∈ gtbl := gtbl_of (List.mem_append_right _ (List.mem_of_getElem? (i := 974) (by decide +kernel))) rfl
theorem im_J0_coder_7d493 : Cond.instanceMethod yJ0_coder_7d493 ∈ gtbl := gtbl_of (List.mem_append_right _ (List.mem_of_getElem? (i := 972) (by decide +kernel))) rfl
theorem se_J0_coder_7d493 : Cond.selects yJ0_coder_7d493.cls yJ0_coder_7d493 yJ0_coder_7d493 ∈ gtbl := gtbl_of (List.mem_append_right _ (List.mem_of_getElem? (i := 973) (by decide +kernel))) rfl
theorem cd_J0_isLatin1_aae02 : Cond.code yJ0_isLatin1_aae02 cJ0_isLatin1_aae02 1 (some .boolean) ∈ gtbl := gtbl_of (List.mem_append_right _ (List.mem_of_getElem? (i := 984) (by decide +kernel))) rfl
theorem im_J0_isLatin1_aae02 : Cond.instanceMethod yJ0_isLatin1_aae02 ∈ gtbl := gtbl_of (List.mem_append_right _ (List.mem_of_getElem? (i := 982) (by decide +kernel))) rfl
theorem se_J0_isLatin1_aae02 : Cond.selects yJ0_isLatin1_aae02.cls yJ0_isLatin1_aae02 yJ0_isLatin1_aae02 ∈ gtbl := gtbl_of (List.mem_append_right _ (List.mem_of_getElem? (i := 983) (by decide +kernel))) rfl
theorem cd_J0_checkIndex_df160 : Cond.code yJ0_checkIndex_df160 cJ0_checkIndex_df160 2 none ∈ gtbl := gtbl_of (List.mem_append_right _ (List.mem_of_getElem? (i := 990) (by decide +kernel))) rfl
theorem st_J0_checkIndex_df160 : Cond.static yJ0_checkIndex_df160 ∈ gtbl := gtbl_of (List.mem_append_right _ (List.mem_of_getElem? (i := 989) (by decide +kernel))) rfl
theorem cd_J0_checkBoundsOffCount_cabcc : Cond.code yJ0_checkBoundsOffCount_cabcc cJ0_checkBoundsOffCount_cabcc 3 (some .int) ∈ gtbl := gtbl_of (List.mem_append_right _ (List.mem_of_getElem? (i := 1396) (by decide +kernel))) rfl
theorem st_J0_checkBoundsOffCount_cabcc : Cond.static yJ0_checkBoundsOffCount_cabcc ∈ gtbl := gtbl_of (List.mem_append_right _ (List.mem_of_getElem? (i := 1395) (by decide +kernel))) rfl
theorem cd_J0_checkBoundsBeginEnd_23922 : Cond.code yJ0_checkBoundsBeginEnd_23922 cJ0_checkBoundsBeginEnd_23922 3 none ∈ gtbl := gtbl_of (List.mem_append_right _ (List.mem_of_getElem? (i := 1357) (by decide +kernel))) rfl
theorem st_J0_checkBoundsBeginEnd_23922 : Cond.static yJ0_checkBoundsBeginEnd_23922 ∈ gtbl := gtbl_of (List.mem_append_right _ (List.mem_of_getElem? (i := 1356) (by decide +kernel))) rfl
theorem cd_J4_init_da8c8 : Cond.code yJ4_init_da8c8 cJ4_init_da8c8 1 none ∈ gtbl := gtbl_of (List.mem_append_right _ (List.mem_of_getElem? (i := 1442) (by decide +kernel))) rfl
theorem im_J4_init_da8c8 : Cond.instanceMethod yJ4_init_da8c8 ∈ gtbl := gtbl_of (List.mem_append_right _ (List.mem_of_getElem? (i := 1441) (by decide +kernel))) rfl
theorem cd_J4_append_15ec4 : Cond.code yJ4_append_15ec4 cJ4_append_15ec4 2 (some (Jvm.ClassFile.FieldType.object "java/lang/StringBuilder")) ∈ gtbl := gtbl_of (List.mem_append_right _ (List.mem_of_getElem? (i := 1303) (by decide +kernel))) rfl
theorem im_J4_append_15ec4 : Cond.instanceMethod yJ4_append_15ec4 ∈ gtbl := gtbl_of (List.mem_append_right _ (List.mem_of_getElem? (i := 1301) (by decide +kernel))) rfl
theorem se_J4_append_15ec4 : Cond.selects yJ4_append_15ec4.cls yJ4_append_15ec4 yJ4_append_15ec4 ∈ gtbl := gtbl_of (List.mem_append_right _ (List.mem_of_getElem? (i := 1302) (by decide +kernel))) rfl
theorem cd_J4_append_bf812 : Cond.code yJ4_append_bf812 cJ4_append_bf812 2 (some (Jvm.ClassFile.FieldType.object "java/lang/StringBuilder")) ∈ gtbl := gtbl_of (List.mem_append_right _ (List.mem_of_getElem? (i := 1409) (by decide +kernel))) rfl
theorem im_J4_append_bf812 : Cond.instanceMethod yJ4_append_bf812 ∈ gtbl := gtbl_of (List.mem_append_right _ (List.mem_of_getElem? (i := 1407) (by decide +kernel))) rfl
theorem se_J4_append_bf812 : Cond.selects yJ4_append_bf812.cls yJ4_append_bf812 yJ4_append_bf812 ∈ gtbl := gtbl_of (List.mem_append_right _ (List.mem_of_getElem? (i := 1408) (by decide +kernel))) rfl
theorem cd_J4_toString_0e30d : Cond.code yJ4_toString_0e30d cJ4_toString_0e30d 1 (some (Jvm.ClassFile.FieldType.object "java/lang/String")) ∈ gtbl := gtbl_of (List.mem_append_right _ (List.mem_of_getElem? (i := 1464) (by decide +kernel))) rfl
theorem im_J4_toString_0e30d : Cond.instanceMethod yJ4_toString_0e30d ∈ gtbl := gtbl_of (List.mem_append_right _ (List.mem_of_getElem? (i := 1462) (by decide +kernel))) rfl
theorem se_J4_toString_0e30d : Cond.selects yJ4_toString_0e30d.cls yJ4_toString_0e30d yJ4_toString_0e30d ∈ gtbl := gtbl_of (List.mem_append_right _ (List.mem_of_getElem? (i := 1463) (by decide +kernel))) rfl
theorem cd_J4_length_8abf5 : Cond.code yJ4_length_8abf5 cJ4_length_8abf5 1 (some .int) ∈ gtbl := gtbl_of (List.mem_append_right _ (List.mem_of_getElem? (i := 1484) (by decide +kernel))) rfl
theorem im_J4_length_8abf5 : Cond.instanceMethod yJ4_length_8abf5 ∈ gtbl := gtbl_of (List.mem_append_right _ (List.mem_of_getElem? (i := 1483) (by decide +kernel))) rfl
theorem cd_J1_charAt_3b067 : Cond.code yJ1_charAt_3b067 cJ1_charAt_3b067 2 (some .char) ∈ gtbl := gtbl_of (List.mem_append_right _ (List.mem_of_getElem? (i := 987) (by decide +kernel))) rfl
theorem st_J1_charAt_3b067 : Cond.static yJ1_charAt_3b067 ∈ gtbl := gtbl_of (List.mem_append_right _ (List.mem_of_getElem? (i := 986) (by decide +kernel))) rfl
theorem cd_J1_inflate_0e8fd : Cond.code yJ1_inflate_0e8fd cJ1_inflate_0e8fd 5 none ∈ gtbl := gtbl_of (List.mem_append_right _ (List.mem_of_getElem? (i := 1387) (by decide +kernel))) rfl
theorem st_J1_inflate_0e8fd : Cond.static yJ1_inflate_0e8fd ∈ gtbl := gtbl_of (List.mem_append_right _ (List.mem_of_getElem? (i := 1386) (by decide +kernel))) rfl
theorem cd_J2_newBytesFor_77867 : Cond.code yJ2_newBytesFor_77867 cJ2_newBytesFor_77867 1 (some (Jvm.ClassFile.FieldType.array Jvm.ClassFile.FieldType.byte)) ∈ gtbl := gtbl_of (List.mem_append_right _ (List.mem_of_getElem? (i := 1380) (by decide +kernel))) rfl
theorem st_J2_newBytesFor_77867 : Cond.static yJ2_newBytesFor_77867 ∈ gtbl := gtbl_of (List.mem_append_right _ (List.mem_of_getElem? (i := 1379) (by decide +kernel))) rfl
theorem cd_J2_newBytesLength_0f7a4 : Cond.code yJ2_newBytesLength_0f7a4 cJ2_newBytesLength_0f7a4 1 (some .int) ∈ gtbl := gtbl_of (List.mem_append_right _ (List.mem_of_getElem? (i := 1383) (by decide +kernel))) rfl
theorem st_J2_newBytesLength_0f7a4 : Cond.static yJ2_newBytesLength_0f7a4 ∈ gtbl := gtbl_of (List.mem_append_right _ (List.mem_of_getElem? (i := 1382) (by decide +kernel))) rfl
theorem cd_J2_putChar_b72d1 : Cond.code yJ2_putChar_b72d1 cJ2_putChar_b72d1 3 none ∈ gtbl := gtbl_of (List.mem_append_right _ (List.mem_of_getElem? (i := 1363) (by decide +kernel))) rfl
theorem st_J2_putChar_b72d1 : Cond.static yJ2_putChar_b72d1 ∈ gtbl := gtbl_of (List.mem_append_right _ (List.mem_of_getElem? (i := 1362) (by decide +kernel))) rfl
theorem cd_J2_getChar_3b067 : Cond.code yJ2_getChar_3b067 cJ2_getChar_3b067 2 (some .char) ∈ gtbl := gtbl_of (List.mem_append_right _ (List.mem_of_getElem? (i := 1008) (by decide +kernel))) rfl
theorem st_J2_getChar_3b067 : Cond.static yJ2_getChar_3b067 ∈ gtbl := gtbl_of (List.mem_append_right _ (List.mem_of_getElem? (i := 1007) (by decide +kernel))) rfl
theorem cd_J2_length_9d52b : Cond.code yJ2_length_9d52b cJ2_length_9d52b 1 (some .int) ∈ gtbl := gtbl_of (List.mem_append_right _ (List.mem_of_getElem? (i := 1004) (by decide +kernel))) rfl
theorem st_J2_length_9d52b : Cond.static yJ2_length_9d52b ∈ gtbl := gtbl_of (List.mem_append_right _ (List.mem_of_getElem? (i := 1003) (by decide +kernel))) rfl
theorem cd_J2_coderFromArrayLen_85cad : Cond.code yJ2_coderFromArrayLen_85cad cJ2_coderFromArrayLen_85cad 2 (some .byte) ∈ gtbl := gtbl_of (List.mem_append_right _ (List.mem_of_getElem? (i := 1506) (by decide +kernel))) rfl
theorem st_J2_coderFromArrayLen_85cad : Cond.static yJ2_coderFromArrayLen_85cad ∈ gtbl := gtbl_of (List.mem_append_right _ (List.mem_of_getElem? (i := 1505) (by decide +kernel))) rfl
theorem cd_J2_compress_39247 : Cond.code yJ2_compress_39247 cJ2_compress_39247 6 (some (Jvm.ClassFile.FieldType.array Jvm.ClassFile.FieldType.byte)) ∈ gtbl := gtbl_of (List.mem_append_right _ (List.mem_of_getElem? (i := 1499) (by decide +kernel))) rfl
theorem st_J2_compress_39247 : Cond.static yJ2_compress_39247 ∈ gtbl := gtbl_of (List.mem_append_right _ (List.mem_of_getElem? (i := 1498) (by decide +kernel))) rfl
theorem cd_J2_compress_5af95 : Cond.code yJ2_compress_5af95 cJ2_compress_5af95 7 (some .int) ∈ gtbl := gtbl_of (List.mem_append_right _ (List.mem_of_getElem? (i := 1502) (by decide +kernel))) rfl
theorem st_J2_compress_5af95 : Cond.static yJ2_compress_5af95 ∈ gtbl := gtbl_of (List.mem_append_right _ (List.mem_of_getElem? (i := 1501) (by decide +kernel))) rfl
theorem cd_J2_getChars_46870 : Cond.code yJ2_getChars_46870 cJ2_getChars_46870 5 (some .int) ∈ gtbl := gtbl_of (List.mem_append_right _ (List.mem_of_getElem? (i := 1425) (by decide +kernel))) rfl
theorem st_J2_getChars_46870 : Cond.static yJ2_getChars_46870 ∈ gtbl := gtbl_of (List.mem_append_right _ (List.mem_of_getElem? (i := 1424) (by decide +kernel))) rfl
theorem cd_J2_putCharsAt_cd4e5 : Cond.code yJ2_putCharsAt_cd4e5 cJ2_putCharsAt_cd4e5 7 (some .int) ∈ gtbl := gtbl_of (List.mem_append_right _ (List.mem_of_getElem? (i := 1351) (by decide +kernel))) rfl
theorem st_J2_putCharsAt_cd4e5 : Cond.static yJ2_putCharsAt_cd4e5 ∈ gtbl := gtbl_of (List.mem_append_right _ (List.mem_of_getElem? (i := 1350) (by decide +kernel))) rfl
theorem cd_J2_charAt_3b067 : Cond.code yJ2_charAt_3b067 cJ2_charAt_3b067 2 (some .char) ∈ gtbl := gtbl_of (List.mem_append_right _ (List.mem_of_getElem? (i := 998) (by decide +kernel))) rfl
theorem st_J2_charAt_3b067 : Cond.static yJ2_charAt_3b067 ∈ gtbl := gtbl_of (List.mem_append_right _ (List.mem_of_getElem? (i := 997) (by decide +kernel))) rfl
theorem cd_J2_inflate_0e8fd : Cond.code yJ2_inflate_0e8fd cJ2_inflate_0e8fd 6 none ∈ gtbl := gtbl_of (List.mem_append_right _ (List.mem_of_getElem? (i := 1390) (by decide +kernel))) rfl
theorem st_J2_inflate_0e8fd : Cond.static yJ2_inflate_0e8fd ∈ gtbl := gtbl_of (List.mem_append_right _ (List.mem_of_getElem? (i := 1389) (by decide +kernel))) rfl
theorem cd_J2_getChars_ba4f3 : Cond.code yJ2_getChars_ba4f3 cJ2_getChars_ba4f3 7 (some .int) ∈ gtbl := gtbl_of (List.mem_append_right _ (List.mem_of_getElem? (i := 1428) (by decide +kernel))) rfl
theorem st_J2_getChars_ba4f3 : Cond.static yJ2_getChars_ba4f3 ∈ gtbl := gtbl_of (List.mem_append_right _ (List.mem_of_getElem? (i := 1427) (by decide +kernel))) rfl
theorem cd_J2_checkIndex_2214a : Cond.code yJ2_checkIndex_2214a cJ2_checkIndex_2214a 2 none ∈ gtbl := gtbl_of (List.mem_append_right _ (List.mem_of_getElem? (i := 1001) (by decide +kernel))) rfl
theorem st_J2_checkIndex_2214a : Cond.static yJ2_checkIndex_2214a ∈ gtbl := gtbl_of (List.mem_append_right _ (List.mem_of_getElem? (i := 1000) (by decide +kernel))) rfl
theorem cd_J2_checkBoundsBeginEnd_d044e : Cond.code yJ2_checkBoundsBeginEnd_d044e cJ2_checkBoundsBeginEnd_d044e 3 none ∈ gtbl := gtbl_of (List.mem_append_right _ (List.mem_of_getElem? (i := 1354) (by decide +kernel))) rfl
theorem st_J2_checkBoundsBeginEnd_d044e : Cond.static yJ2_checkBoundsBeginEnd_d044e ∈ gtbl := gtbl_of (List.mem_append_right _ (List.mem_of_getElem? (i := 1353) (by decide +kernel))) rfl
theorem cd_J2_checkBoundsOffCount_d044e : Cond.code yJ2_checkBoundsOffCount_d044e cJ2_checkBoundsOffCount_d044e 3 none ∈ gtbl := gtbl_of (List.mem_append_right _ (List.mem_of_getElem? (i := 1393) (by decide +kernel))) rfl
theorem st_J2_checkBoundsOffCount_d044e : Cond.static yJ2_checkBoundsOffCount_d044e ∈ gtbl := gtbl_of (List.mem_append_right _ (List.mem_of_getElem? (i := 1392) (by decide +kernel))) rfl
theorem cd_J7_fill_53178 : Cond.code yJ7_fill_53178 cJ7_fill_53178 4 none ∈ gtbl := gtbl_of (List.mem_append_right _ (List.mem_of_getElem? (i := 101) (by decide +kernel))) rfl
theorem st_J7_fill_53178 : Cond.static yJ7_fill_53178 ∈ gtbl := gtbl_of (List.mem_append_right _ (List.mem_of_getElem? (i := 100) (by decide +kernel))) rfl
theorem cd_J7_copyOf_9075b : Cond.code yJ7_copyOf_9075b cJ7_copyOf_9075b 3 (some (Jvm.ClassFile.FieldType.array Jvm.ClassFile.FieldType.byte)) ∈ gtbl := gtbl_of (List.mem_append_right _ (List.mem_of_getElem? (i := 1331) (by decide +kernel))) rfl
theorem st_J7_copyOf_9075b : Cond.static yJ7_copyOf_9075b ∈ gtbl := gtbl_of (List.mem_append_right _ (List.mem_of_getElem? (i := 1330) (by decide +kernel))) rfl
theorem cd_J7_checkLength_df160 : Cond.code yJ7_checkLength_df160 cJ7_checkLength_df160 2 none ∈ gtbl := gtbl_of (List.mem_append_right _ (List.mem_of_getElem? (i := 1496) (by decide +kernel))) rfl
theorem st_J7_checkLength_df160 : Cond.static yJ7_checkLength_df160 ∈ gtbl := gtbl_of (List.mem_append_right _ (List.mem_of_getElem? (i := 1495) (by decide +kernel))) rfl
theorem cd_J7_copyOfRange_39247 : Cond.code yJ7_copyOfRange_39247 cJ7_copyOfRange_39247 3 (some (Jvm.ClassFile.FieldType.array Jvm.ClassFile.FieldType.byte)) ∈ gtbl := gtbl_of (List.mem_append_right _ (List.mem_of_getElem? (i := 1490) (by decide +kernel))) rfl
theorem st_J7_copyOfRange_39247 : Cond.static yJ7_copyOfRange_39247 ∈ gtbl := gtbl_of (List.mem_append_right _ (List.mem_of_getElem? (i := 1489) (by decide +kernel))) rfl
theorem cd_J7_copyOfRangeByte_39247 : Cond.code yJ7_copyOfRangeByte_39247 cJ7_copyOfRangeByte_39247 5 (some (Jvm.ClassFile.FieldType.array Jvm.ClassFile.FieldType.byte)) ∈ gtbl := gtbl_of (List.mem_append_right _ (List.mem_of_getElem? (i := 1493) (by decide +kernel))) rfl
theorem st_J7_copyOfRangeByte_39247 : Cond.static yJ7_copyOfRangeByte_39247 ∈ gtbl := gtbl_of (List.mem_append_right _ (List.mem_of_getElem? (i := 1492) (by decide +kernel))) rfl
theorem cd_J8_newLength_cabcc : Cond.code yJ8_newLength_cabcc cJ8_newLength_cabcc 4 (some .int) ∈ gtbl := gtbl_of (List.mem_append_right _ (List.mem_of_getElem? (i := 1322) (by decide +kernel))) rfl
theorem st_J8_newLength_cabcc : Cond.static yJ8_newLength_cabcc ∈ gtbl := gtbl_of (List.mem_append_right _ (List.mem_of_getElem? (i := 1321) (by decide +kernel))) rfl
theorem cd_J8_hugeLength_7cf53 : Cond.code yJ8_hugeLength_7cf53 cJ8_hugeLength_7cf53 3 (some .int) ∈ gtbl := gtbl_of (List.mem_append_right _ (List.mem_of_getElem? (i := 1327) (by decide +kernel))) rfl
theorem st_J8_hugeLength_7cf53 : Cond.static yJ8_hugeLength_7cf53 ∈ gtbl := gtbl_of (List.mem_append_right _ (List.mem_of_getElem? (i := 1326) (by decide +kernel))) rfl
theorem cd_J3_checkIndex_8e157 : Cond.code yJ3_checkIndex_8e157 cJ3_checkIndex_8e157 3 (some .int) ∈ gtbl := gtbl_of (List.mem_append_right _ (List.mem_of_getElem? (i := 995) (by decide +kernel))) rfl
theorem st_J3_checkIndex_8e157 : Cond.static yJ3_checkIndex_8e157 ∈ gtbl := gtbl_of (List.mem_append_right _ (List.mem_of_getElem? (i := 994) (by decide +kernel))) rfl
theorem cd_J3_checkFromToIndex_8c36e : Cond.code yJ3_checkFromToIndex_8c36e cJ3_checkFromToIndex_8c36e 4 (some .int) ∈ gtbl := gtbl_of (List.mem_append_right _ (List.mem_of_getElem? (i := 1360) (by decide +kernel))) rfl
theorem st_J3_checkFromToIndex_8c36e : Cond.static yJ3_checkFromToIndex_8c36e ∈ gtbl := gtbl_of (List.mem_append_right _ (List.mem_of_getElem? (i := 1359) (by decide +kernel))) rfl
theorem cd_J3_checkFromIndexSize_8c36e : Cond.code yJ3_checkFromIndexSize_8c36e cJ3_checkFromIndexSize_8c36e 4 (some .int) ∈ gtbl := gtbl_of (List.mem_append_right _ (List.mem_of_getElem? (i := 1399) (by decide +kernel))) rfl
theorem st_J3_checkFromIndexSize_8c36e : Cond.static yJ3_checkFromIndexSize_8c36e ∈ gtbl := gtbl_of (List.mem_append_right _ (List.mem_of_getElem? (i := 1398) (by decide +kernel))) rfl
theorem cd_L_below : Cond.code yL_below cL_below 2 (some .int) ∈ gtbl := gtbl_of (List.mem_append_right _ (List.mem_of_getElem? (i := 958) (by decide +kernel))) rfl
theorem st_L_below : Cond.static yL_below ∈ gtbl := gtbl_of (List.mem_append_right _ (List.mem_of_getElem? (i := 957) (by decide +kernel))) rfl
theorem cd_L_cell : Cond.code yL_cell cL_cell 2 (some .int) ∈ gtbl := gtbl_of (List.mem_append_right _ (List.mem_of_getElem? (i := 962) (by decide +kernel))) rfl
theorem st_L_cell : Cond.static yL_cell ∈ gtbl := gtbl_of (List.mem_append_right _ (List.mem_of_getElem? (i := 961) (by decide +kernel))) rfl
theorem cd_L_taught : Cond.code yL_taught cL_taught 6 (some .int) ∈ gtbl := gtbl_of (List.mem_append_right _ (List.mem_of_getElem? (i := 966) (by decide +kernel))) rfl
theorem st_L_taught : Cond.static yL_taught ∈ gtbl := gtbl_of (List.mem_append_right _ (List.mem_of_getElem? (i := 965) (by decide +kernel))) rfl
theorem cd_L_sum : Cond.code yL_sum cL_sum 5 (some (Jvm.ClassFile.FieldType.object "SofaDigLaw$Tree")) ∈ gtbl := gtbl_of (List.mem_append_right _ (List.mem_of_getElem? (i := 1526) (by decide +kernel))) rfl
theorem st_L_sum : Cond.static yL_sum ∈ gtbl := gtbl_of (List.mem_append_right _ (List.mem_of_getElem? (i := 1525) (by decide +kernel))) rfl
theorem cd_L_test : Cond.code yL_test cL_test 5 (some (Jvm.ClassFile.FieldType.object "SofaDigLaw$Tree")) ∈ gtbl := gtbl_of (List.mem_append_right _ (List.mem_of_getElem? (i := 1551) (by decide +kernel))) rfl
theorem st_L_test : Cond.static yL_test ∈ gtbl := gtbl_of (List.mem_append_right _ (List.mem_of_getElem? (i := 1550) (by decide +kernel))) rfl
set_option maxRecDepth 100000 in
set_option maxHeartbeats 4000000 in
theorem cd_L_told : Cond.code yL_told cL_told 13 (some (Jvm.ClassFile.FieldType.object "SofaDigLaw$Sim")) ∈ gtbl := gtbl_of (List.mem_append_right _ (List.mem_append_right tables_1_1 (List.mem_append_right tables_1_2 (List.mem_append_right tables_1_3 (List.mem_append_right tables_1_4 (List.mem_append_right tables_1_5 (List.mem_append_left _ (List.mem_of_getElem? (i := 37) rfl)))))))) rfl
theorem st_L_told : Cond.static yL_told ∈ gtbl := gtbl_of (List.mem_append_right _ (List.mem_of_getElem? (i := 1236) (by decide +kernel))) rfl
theorem cd_L_act : Cond.code yL_act cL_act 7 (some .boolean) ∈ gtbl := gtbl_of (List.mem_append_right _ (List.mem_of_getElem? (i := 1602) (by decide +kernel))) rfl
theorem st_L_act : Cond.static yL_act ∈ gtbl := gtbl_of (List.mem_append_right _ (List.mem_of_getElem? (i := 1601) (by decide +kernel))) rfl
theorem ini_X0 : Cond.initialized RX0 ∈ gtbl := gtbl_of (List.mem_append_right _ (List.mem_of_getElem? (i := 28) (by decide +kernel))) rfl
theorem ini_X1 : Cond.initialized RX1 ∈ gtbl := gtbl_of (List.mem_append_right _ (List.mem_of_getElem? (i := 4) (by decide +kernel))) rfl
theorem ini_X2 : Cond.initialized RX2 ∈ gtbl := gtbl_of (List.mem_append_right _ (List.mem_of_getElem? (i := 8) (by decide +kernel))) rfl
theorem ini_X3 : Cond.initialized RX3 ∈ gtbl := gtbl_of (List.mem_append_right _ (List.mem_of_getElem? (i := 6) (by decide +kernel))) rfl
theorem ini_X4 : Cond.initialized RX4 ∈ gtbl := gtbl_of (List.mem_append_right _ (List.mem_of_getElem? (i := 9) (by decide +kernel))) rfl
theorem ini_X5 : Cond.initialized RX5 ∈ gtbl := gtbl_of (List.mem_append_right _ (List.mem_of_getElem? (i := 2) (by decide +kernel))) rfl
theorem ini_X6 : Cond.initialized RX6 ∈ gtbl := gtbl_of (List.mem_append_right _ (List.mem_of_getElem? (i := 7) (by decide +kernel))) rfl
theorem ini_X7 : Cond.initialized RX7 ∈ gtbl := gtbl_of (List.mem_append_right _ (List.mem_of_getElem? (i := 3) (by decide +kernel))) rfl
theorem ini_X8 : Cond.initialized RX8 ∈ gtbl := gtbl_of (List.mem_append_right _ (List.mem_of_getElem? (i := 1) (by decide +kernel))) rfl
theorem ini_X9 : Cond.initialized RX9 ∈ gtbl := gtbl_of (List.mem_append_right _ (List.mem_of_getElem? (i := 14) (by decide +kernel))) rfl
theorem ini_X10 : Cond.initialized RX10 ∈ gtbl := gtbl_of (List.mem_append_right _ (List.mem_of_getElem? (i := 22) (by decide +kernel))) rfl
theorem ini_J5 : Cond.initialized RJ5 ∈ gtbl := gtbl_of (List.mem_append_right _ (List.mem_of_getElem? (i := 10) (by decide +kernel))) rfl
theorem ini_J6 : Cond.initialized RJ6 ∈ gtbl := gtbl_of (List.mem_append_right _ (List.mem_of_getElem? (i := 21) (by decide +kernel))) rfl
theorem ini_J9 : Cond.initialized RJ9 ∈ gtbl := gtbl_of (List.mem_append_right _ (List.mem_of_getElem? (i := 16) (by decide +kernel))) rfl
theorem ini_J0 : Cond.initialized RJ0 ∈ gtbl := gtbl_of (List.mem_append_right _ (List.mem_of_getElem? (i := 12) (by decide +kernel))) rfl
theorem ini_J4 : Cond.initialized RJ4 ∈ gtbl := gtbl_of (List.mem_append_right _ (List.mem_of_getElem? (i := 11) (by decide +kernel))) rfl
theorem ini_J1 : Cond.initialized RJ1 ∈ gtbl := gtbl_of (List.mem_append_right _ (List.mem_of_getElem? (i := 19) (by decide +kernel))) rfl
theorem ini_J2 : Cond.initialized RJ2 ∈ gtbl := gtbl_of (List.mem_append_right _ (List.mem_of_getElem? (i := 13) (by decide +kernel))) rfl
theorem ini_J10 : Cond.initialized RJ10 ∈ gtbl := gtbl_of (List.mem_append_right _ (List.mem_of_getElem? (i := 17) (by decide +kernel))) rfl
theorem ini_J7 : Cond.initialized RJ7 ∈ gtbl := gtbl_of (List.mem_append_right _ (List.mem_of_getElem? (i := 5) (by decide +kernel))) rfl
theorem ini_J8 : Cond.initialized RJ8 ∈ gtbl := gtbl_of (List.mem_append_right _ (List.mem_of_getElem? (i := 15) (by decide +kernel))) rfl
theorem ini_J3 : Cond.initialized RJ3 ∈ gtbl := gtbl_of (List.mem_append_right _ (List.mem_of_getElem? (i := 18) (by decide +kernel))) rfl
theorem ini_L : Cond.initialized RL ∈ gtbl := gtbl_of (List.mem_append_right _ (List.mem_of_getElem? (i := 0) (by decide +kernel))) rfl
theorem cf_L_180 : CallF RL 180 yX8_init cX8_init 3 none 0 := ⟨cd_X8_init, gtbl_of (List.mem_append_right _ (List.mem_of_getElem? (i := 32) (by decide +kernel))) rfl, ini_X8, by decide +kernel⟩
theorem cf_X8_12 : CallF RX8 12 yX7_init cX7_init 1 none 0 := ⟨cd_X7_init, gtbl_of (List.mem_append_right _ (List.mem_of_getElem? (i := 55) (by decide +kernel))) rfl, ini_X7, by decide +kernel⟩
theorem cf_X7_45 : CallF RX7 45 yX7_clear cX7_clear 2 none 0 := ⟨cd_X7_clear, gtbl_of (List.mem_append_right _ (List.mem_of_getElem? (i := 91) (by decide +kernel))) rfl, ini_X7, by decide +kernel⟩
theorem cf_X7_48 : CallF RX7 48 yX7_resize cX7_resize 3 none 2 := ⟨cd_X7_resize, gtbl_of (List.mem_append_right _ (List.mem_of_getElem? (i := 95) (by decide +kernel))) rfl, ini_X7, by decide +kernel⟩
theorem cf_X7_59 : CallF RX7 59 yJ7_fill_53178 cJ7_fill_53178 4 none 2 := ⟨cd_J7_fill_53178, gtbl_of (List.mem_append_right _ (List.mem_of_getElem? (i := 99) (by decide +kernel))) rfl, ini_J7, by decide +kernel⟩
theorem cf_X7_65 : CallF RX7 65 yX1_clear cX1_clear 1 none 0 := ⟨cd_X1_clear, gtbl_of (List.mem_append_right _ (List.mem_of_getElem? (i := 102) (by decide +kernel))) rfl, ini_X1, by decide +kernel⟩
theorem cf_X8_21 : CallF RX8 21 yX3_init cX3_init 2 none 1 := ⟨cd_X3_init, gtbl_of (List.mem_append_right _ (List.mem_of_getElem? (i := 164) (by decide +kernel))) rfl, ini_X3, by decide +kernel⟩
theorem cf_X3_11 : CallF RX3 11 yX6_init cX6_init 2 none 1 := ⟨cd_X6_init, gtbl_of (List.mem_append_right _ (List.mem_of_getElem? (i := 170) (by decide +kernel))) rfl, ini_X6, by decide +kernel⟩
theorem cf_X3_22 : CallF RX3 22 yX7_init cX7_init 1 none 0 := ⟨cd_X7_init, gtbl_of (List.mem_append_right _ (List.mem_of_getElem? (i := 202) (by decide +kernel))) rfl, ini_X7, by decide +kernel⟩
theorem cf_X8_37 : CallF RX8 37 yX4_init cX4_init 2 none 1 := ⟨cd_X4_init, gtbl_of (List.mem_append_right _ (List.mem_of_getElem? (i := 237) (by decide +kernel))) rfl, ini_X4, by decide +kernel⟩
theorem cf_X4_35 : CallF RX4 35 yX4_begin cX4_begin 3 none 1 := ⟨cd_X4_begin, gtbl_of (List.mem_append_right _ (List.mem_of_getElem? (i := 241) (by decide +kernel))) rfl, ini_X4, by decide +kernel⟩
theorem cf_L_189 : CallF RL 189 yX8_seats cX8_seats 1 (some .int) 0 := ⟨cd_X8_seats, gtbl_of (List.mem_append_right _ (List.mem_of_getElem? (i := 323) (by decide +kernel))) rfl, ini_X8, by decide +kernel⟩
theorem cf_L_192 : CallF RL 192 yX8_strata cX8_strata 1 (some .int) 0 := ⟨cd_X8_strata, gtbl_of (List.mem_append_right _ (List.mem_of_getElem? (i := 327) (by decide +kernel))) rfl, ini_X8, by decide +kernel⟩
theorem cf_L_232 : CallF RL 232 yX8_finds cX8_finds 1 (some .int) 0 := ⟨cd_X8_finds, gtbl_of (List.mem_append_right _ (List.mem_of_getElem? (i := 331) (by decide +kernel))) rfl, ini_X8, by decide +kernel⟩
theorem cf_L_226 : CallF RL 226 yX8_cushionsDug cX8_cushionsDug 1 (some .int) 0 := ⟨cd_X8_cushionsDug, gtbl_of (List.mem_append_right _ (List.mem_of_getElem? (i := 335) (by decide +kernel))) rfl, ini_X8, by decide +kernel⟩
theorem cf_L_278 : CallF RL 278 yX8_slides cX8_slides 1 (some .int) 0 := ⟨cd_X8_slides, gtbl_of (List.mem_append_right _ (List.mem_of_getElem? (i := 339) (by decide +kernel))) rfl, ini_X8, by decide +kernel⟩
theorem cf_L_229 : CallF RL 229 yX8_found cX8_found 1 (some .int) 0 := ⟨cd_X8_found, gtbl_of (List.mem_append_right _ (List.mem_of_getElem? (i := 343) (by decide +kernel))) rfl, ini_X8, by decide +kernel⟩
theorem cf_L_235 : CallF RL 235 yX8_sureFinds cX8_sureFinds 1 (some .int) 0 := ⟨cd_X8_sureFinds, gtbl_of (List.mem_append_right _ (List.mem_of_getElem? (i := 347) (by decide +kernel))) rfl, ini_X8, by decide +kernel⟩
theorem cf_L_234 : CallF RL 234 yX8_props cX8_props 1 (some .int) 0 := ⟨cd_X8_props, gtbl_of (List.mem_append_right _ (List.mem_of_getElem? (i := 351) (by decide +kernel))) rfl, ini_X8, by decide +kernel⟩
theorem cf_L_203 : CallF RL 203 yX8_heightOf cX8_heightOf 2 (some .int) 1 := ⟨cd_X8_heightOf, gtbl_of (List.mem_append_right _ (List.mem_of_getElem? (i := 355) (by decide +kernel))) rfl, ini_X8, by decide +kernel⟩
theorem cf_X8_117 : CallF RX8 117 yX8_needSeat cX8_needSeat 2 none 1 := ⟨cd_X8_needSeat, gtbl_of (List.mem_append_right _ (List.mem_of_getElem? (i := 359) (by decide +kernel))) rfl, ini_X8, by decide +kernel⟩
theorem cf_X8_120 : CallF RX8 120 yX4_heightAt cX4_heightAt 2 (some .int) 1 := ⟨cd_X4_heightAt, gtbl_of (List.mem_append_right _ (List.mem_of_getElem? (i := 430) (by decide +kernel))) rfl, ini_X4, by decide +kernel⟩
theorem cf_L_209 : CallF RL 209 yX8_isPropped cX8_isPropped 2 (some .boolean) 1 := ⟨cd_X8_isPropped, gtbl_of (List.mem_append_right _ (List.mem_of_getElem? (i := 434) (by decide +kernel))) rfl, ini_X8, by decide +kernel⟩
theorem cf_X8_124 : CallF RX8 124 yX4_hasProp cX4_hasProp 2 (some .boolean) 1 := ⟨cd_X4_hasProp, gtbl_of (List.mem_append_right _ (List.mem_of_getElem? (i := 438) (by decide +kernel))) rfl, ini_X4, by decide +kernel⟩
theorem cf_L_212 : CallF RL 212 yX8_topStratum cX8_topStratum 2 (some .int) 1 := ⟨cd_X8_topStratum, gtbl_of (List.mem_append_right _ (List.mem_of_getElem? (i := 442) (by decide +kernel))) rfl, ini_X8, by decide +kernel⟩
theorem cf_X8_128 : CallF RX8 128 yX8_needCushion cX8_needCushion 2 none 1 := ⟨cd_X8_needCushion, gtbl_of (List.mem_append_right _ (List.mem_of_getElem? (i := 446) (by decide +kernel))) rfl, ini_X8, by decide +kernel⟩
theorem cf_X8_131 : CallF RX8 131 yX4_topOf cX4_topOf 2 (some .int) 1 := ⟨cd_X4_topOf, gtbl_of (List.mem_append_right _ (List.mem_of_getElem? (i := 466) (by decide +kernel))) rfl, ini_X4, by decide +kernel⟩
theorem cf_X4_69 : CallF RX4 69 yX4_heightAt cX4_heightAt 2 (some .int) 1 := ⟨cd_X4_heightAt, gtbl_of (List.mem_append_right _ (List.mem_of_getElem? (i := 470) (by decide +kernel))) rfl, ini_X4, by decide +kernel⟩
theorem cf_X4_73 : CallF RX4 73 yX4_cushionAt cX4_cushionAt 3 (some .int) 2 := ⟨cd_X4_cushionAt, gtbl_of (List.mem_append_right _ (List.mem_of_getElem? (i := 471) (by decide +kernel))) rfl, ini_X4, by decide +kernel⟩
theorem cf_X8_134 : CallF RX8 134 yX7_stratumOfCushion cX7_stratumOfCushion 2 (some .int) 1 := ⟨cd_X7_stratumOfCushion, gtbl_of (List.mem_append_right _ (List.mem_of_getElem? (i := 475) (by decide +kernel))) rfl, ini_X7, by decide +kernel⟩
theorem cf_X7_72 : CallF RX7 72 yX7_isCushion cX7_isCushion 1 (some .boolean) 1 := ⟨cd_X7_isCushion, gtbl_of (List.mem_append_right _ (List.mem_of_getElem? (i := 479) (by decide +kernel))) rfl, ini_X7, by decide +kernel⟩
theorem cf_L_281 : CallF RL 281 yX8_isTopLoose cX8_isTopLoose 2 (some .boolean) 1 := ⟨cd_X8_isTopLoose, gtbl_of (List.mem_append_right _ (List.mem_of_getElem? (i := 482) (by decide +kernel))) rfl, ini_X8, by decide +kernel⟩
theorem cf_X8_137 : CallF RX8 137 yX4_isLoose cX4_isLoose 2 (some .boolean) 1 := ⟨cd_X4_isLoose, gtbl_of (List.mem_append_right _ (List.mem_of_getElem? (i := 486) (by decide +kernel))) rfl, ini_X4, by decide +kernel⟩
theorem cf_L_223 : CallF RL 223 yX8_hasTopSpring cX8_hasTopSpring 2 (some .boolean) 1 := ⟨cd_X8_hasTopSpring, gtbl_of (List.mem_append_right _ (List.mem_of_getElem? (i := 490) (by decide +kernel))) rfl, ini_X8, by decide +kernel⟩
theorem cf_X8_140 : CallF RX8 140 yX7_hasSpring cX7_hasSpring 2 (some .boolean) 1 := ⟨cd_X7_hasSpring, gtbl_of (List.mem_append_right _ (List.mem_of_getElem? (i := 494) (by decide +kernel))) rfl, ini_X7, by decide +kernel⟩
theorem cf_L_206 : CallF RL 206 yX8_findsLeft cX8_findsLeft 2 (some .int) 1 := ⟨cd_X8_findsLeft, gtbl_of (List.mem_append_right _ (List.mem_of_getElem? (i := 498) (by decide +kernel))) rfl, ini_X8, by decide +kernel⟩
theorem cf_X8_143 : CallF RX8 143 yX4_findsInStack cX4_findsInStack 4 (some .int) 1 := ⟨cd_X4_findsInStack, gtbl_of (List.mem_append_right _ (List.mem_of_getElem? (i := 502) (by decide +kernel))) rfl, ini_X4, by decide +kernel⟩
theorem cf_X4_77 : CallF RX4 77 yX7_findIn cX7_findIn 2 (some .int) 1 := ⟨cd_X7_findIn, gtbl_of (List.mem_append_right _ (List.mem_of_getElem? (i := 506) (by decide +kernel))) rfl, ini_X7, by decide +kernel⟩
theorem cf_L_253 : CallF RL 253 yX8_isCoin cX8_isCoin 2 (some .boolean) 1 := ⟨cd_X8_isCoin, gtbl_of (List.mem_append_right _ (List.mem_of_getElem? (i := 510) (by decide +kernel))) rfl, ini_X8, by decide +kernel⟩
theorem cf_X8_146 : CallF RX8 146 yX8_needFind cX8_needFind 2 none 1 := ⟨cd_X8_needFind, gtbl_of (List.mem_append_right _ (List.mem_of_getElem? (i := 514) (by decide +kernel))) rfl, ini_X8, by decide +kernel⟩
theorem cf_X8_149 : CallF RX8 149 yX7_tellsCoin cX7_tellsCoin 2 (some .boolean) 1 := ⟨cd_X7_tellsCoin, gtbl_of (List.mem_append_right _ (List.mem_of_getElem? (i := 519) (by decide +kernel))) rfl, ini_X7, by decide +kernel⟩
theorem cf_X7_82 : CallF RX7 82 yX7_isFind cX7_isFind 2 (some .boolean) 1 := ⟨cd_X7_isFind, gtbl_of (List.mem_append_right _ (List.mem_of_getElem? (i := 523) (by decide +kernel))) rfl, ini_X7, by decide +kernel⟩
theorem cf_L_238 : CallF RL 238 yX8_isFound cX8_isFound 2 (some .boolean) 1 := ⟨cd_X8_isFound, gtbl_of (List.mem_append_right _ (List.mem_of_getElem? (i := 527) (by decide +kernel))) rfl, ini_X8, by decide +kernel⟩
theorem cf_X8_152 : CallF RX8 152 yX4_wasFound cX4_wasFound 2 (some .boolean) 1 := ⟨cd_X4_wasFound, gtbl_of (List.mem_append_right _ (List.mem_of_getElem? (i := 531) (by decide +kernel))) rfl, ini_X4, by decide +kernel⟩
theorem cf_L_241 : CallF RL 241 yX8_isSure cX8_isSure 2 (some .boolean) 1 := ⟨cd_X8_isSure, gtbl_of (List.mem_append_right _ (List.mem_of_getElem? (i := 535) (by decide +kernel))) rfl, ini_X8, by decide +kernel⟩
theorem cf_X8_157 : CallF RX8 157 yX4_wasSure cX4_wasSure 2 (some .boolean) 1 := ⟨cd_X4_wasSure, gtbl_of (List.mem_append_right _ (List.mem_of_getElem? (i := 540) (by decide +kernel))) rfl, ini_X4, by decide +kernel⟩
theorem cf_L_247 : CallF RL 247 yX8_stratumOf cX8_stratumOf 2 (some .int) 1 := ⟨cd_X8_stratumOf, gtbl_of (List.mem_append_right _ (List.mem_of_getElem? (i := 544) (by decide +kernel))) rfl, ini_X8, by decide +kernel⟩
theorem cf_X8_160 : CallF RX8 160 yX7_stratumOfFind cX7_stratumOfFind 2 (some .int) 1 := ⟨cd_X7_stratumOfFind, gtbl_of (List.mem_append_right _ (List.mem_of_getElem? (i := 548) (by decide +kernel))) rfl, ini_X7, by decide +kernel⟩
theorem cf_X7_85 : CallF RX7 85 yX7_cushionOf cX7_cushionOf 2 (some .int) 1 := ⟨cd_X7_cushionOf, gtbl_of (List.mem_append_right _ (List.mem_of_getElem? (i := 552) (by decide +kernel))) rfl, ini_X7, by decide +kernel⟩
theorem cf_X7_89 : CallF RX7 89 yX7_stratumOfCushion cX7_stratumOfCushion 2 (some .int) 1 := ⟨cd_X7_stratumOfCushion, gtbl_of (List.mem_append_right _ (List.mem_of_getElem? (i := 556) (by decide +kernel))) rfl, ini_X7, by decide +kernel⟩
theorem cf_L_256 : CallF RL 256 yX8_empireOf cX8_empireOf 2 (some .int) 1 := ⟨cd_X8_empireOf, gtbl_of (List.mem_append_right _ (List.mem_of_getElem? (i := 557) (by decide +kernel))) rfl, ini_X8, by decide +kernel⟩
theorem cf_X8_170 : CallF RX8 170 yX7_crumbsEmpire cX7_crumbsEmpire 2 (some .int) 1 := ⟨cd_X7_crumbsEmpire, gtbl_of (List.mem_append_right _ (List.mem_of_getElem? (i := 562) (by decide +kernel))) rfl, ini_X7, by decide +kernel⟩
theorem cf_L_244 : CallF RL 244 yX8_buriedUnder cX8_buriedUnder 2 (some .int) 1 := ⟨cd_X8_buriedUnder, gtbl_of (List.mem_append_right _ (List.mem_of_getElem? (i := 566) (by decide +kernel))) rfl, ini_X8, by decide +kernel⟩
theorem cf_X8_175 : CallF RX8 175 yX7_cushionOf cX7_cushionOf 2 (some .int) 1 := ⟨cd_X7_cushionOf, gtbl_of (List.mem_append_right _ (List.mem_of_getElem? (i := 571) (by decide +kernel))) rfl, ini_X7, by decide +kernel⟩

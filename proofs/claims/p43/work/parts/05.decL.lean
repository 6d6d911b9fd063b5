theorem dX9_init_0 : decode cX9_init 0 = .ok (.aload_n 0, 1) := by decide +kernel
theorem dX9_init_1 : decode cX9_init 1 = .ok (.invokespecial 1, 3) := by decide +kernel
theorem dX9_init_4 : decode cX9_init 4 = .ok (.aload_n 0, 1) := by decide +kernel
theorem dX9_init_5 : decode cX9_init 5 = .ok (.bipush 6, 2) := by decide +kernel
theorem dX9_init_7 : decode cX9_init 7 = .ok (.putfield 7, 3) := by decide +kernel
theorem dX9_init_10 : decode cX9_init 10 = .ok (.aload_n 0, 1) := by decide +kernel
theorem dX9_init_11 : decode cX9_init 11 = .ok (.iconst 0, 1) := by decide +kernel
theorem dX9_init_12 : decode cX9_init 12 = .ok (.anewarray 13, 3) := by decide +kernel
theorem dX9_init_15 : decode cX9_init 15 = .ok (.putfield 15, 3) := by decide +kernel
theorem dX9_init_18 : decode cX9_init 18 = .ok (.aload_n 0, 1) := by decide +kernel
theorem dX9_init_19 : decode cX9_init 19 = .ok (.iconst 0, 1) := by decide +kernel
theorem dX9_init_20 : decode cX9_init 20 = .ok (.anewarray 19, 3) := by decide +kernel
theorem dX9_init_23 : decode cX9_init 23 = .ok (.putfield 21, 3) := by decide +kernel
theorem dX9_init_26 : decode cX9_init 26 = .ok (.aload_n 0, 1) := by decide +kernel
theorem dX9_init_27 : decode cX9_init 27 = .ok (.iconst 0, 1) := by decide +kernel
theorem dX9_init_28 : decode cX9_init 28 = .ok (.anewarray 19, 3) := by decide +kernel
theorem dX9_init_31 : decode cX9_init 31 = .ok (.putfield 24, 3) := by decide +kernel
theorem dX9_init_34 : decode cX9_init 34 = .ok (.aload_n 0, 1) := by decide +kernel
theorem dX9_init_35 : decode cX9_init 35 = .ok (.iconst 0, 1) := by decide +kernel
theorem dX9_init_36 : decode cX9_init 36 = .ok (.newarray .boolean, 2) := by decide +kernel
theorem dX9_init_38 : decode cX9_init 38 = .ok (.putfield 27, 3) := by decide +kernel
theorem dX9_init_41 : decode cX9_init 41 = .ok (.aload_n 0, 1) := by decide +kernel
theorem dX9_init_42 : decode cX9_init 42 = .ok (.iconst 0, 1) := by decide +kernel
theorem dX9_init_43 : decode cX9_init 43 = .ok (.newarray .int, 2) := by decide +kernel
theorem dX9_init_45 : decode cX9_init 45 = .ok (.putfield 31, 3) := by decide +kernel
theorem dX9_init_48 : decode cX9_init 48 = .ok (.aload_n 0, 1) := by decide +kernel
theorem dX9_init_49 : decode cX9_init 49 = .ok (.iconst 0, 1) := by decide +kernel
theorem dX9_init_50 : decode cX9_init 50 = .ok (.anewarray 34, 3) := by decide +kernel
theorem dX9_init_53 : decode cX9_init 53 = .ok (.putfield 36, 3) := by decide +kernel
theorem dX9_init_56 : decode cX9_init 56 = .ok (.aload_n 0, 1) := by decide +kernel
theorem dX9_init_57 : decode cX9_init 57 = .ok (.iconst 0, 1) := by decide +kernel
theorem dX9_init_58 : decode cX9_init 58 = .ok (.anewarray 34, 3) := by decide +kernel
theorem dX9_init_61 : decode cX9_init 61 = .ok (.putfield 40, 3) := by decide +kernel
theorem dX9_init_64 : decode cX9_init 64 = .ok (.return_, 1) := by decide +kernel
theorem dX9_of_0 : decode cX9_of 0 = .ok (.new 8, 3) := by decide +kernel
theorem dX9_of_3 : decode cX9_of 3 = .ok (.dup, 1) := by decide +kernel
theorem dX9_of_4 : decode cX9_of 4 = .ok (.invokespecial 43, 3) := by decide +kernel
theorem dX9_of_7 : decode cX9_of 7 = .ok (.astore_n 2, 1) := by decide +kernel
theorem dX9_of_8 : decode cX9_of 8 = .ok (.aload_n 2, 1) := by decide +kernel
theorem dX9_of_9 : decode cX9_of 9 = .ok (.iload_n 1, 1) := by decide +kernel
theorem dX9_of_10 : decode cX9_of 10 = .ok (.putfield 7, 3) := by decide +kernel
theorem dX9_of_13 : decode cX9_of 13 = .ok (.aload_n 2, 1) := by decide +kernel
theorem dX9_of_14 : decode cX9_of 14 = .ok (.iload_n 0, 1) := by decide +kernel
theorem dX9_of_15 : decode cX9_of 15 = .ok (.iload_n 1, 1) := by decide +kernel
theorem dX9_of_16 : decode cX9_of 16 = .ok (.multianewarray 44 2, 4) := by decide +kernel
theorem dX9_of_20 : decode cX9_of 20 = .ok (.putfield 15, 3) := by decide +kernel
theorem dX9_of_23 : decode cX9_of 23 = .ok (.aload_n 2, 1) := by decide +kernel
theorem dX9_of_24 : decode cX9_of 24 = .ok (.iload_n 0, 1) := by decide +kernel
theorem dX9_of_25 : decode cX9_of 25 = .ok (.newarray .boolean, 2) := by decide +kernel
theorem dX9_of_27 : decode cX9_of 27 = .ok (.putfield 27, 3) := by decide +kernel
theorem dX9_of_30 : decode cX9_of 30 = .ok (.iconst 0, 1) := by decide +kernel
theorem dX9_of_31 : decode cX9_of 31 = .ok (.istore_n 3, 1) := by decide +kernel
theorem dX9_of_32 : decode cX9_of 32 = .ok (.iload_n 3, 1) := by decide +kernel
theorem dX9_of_33 : decode cX9_of 33 = .ok (.iload_n 0, 1) := by decide +kernel
theorem dX9_of_34 : decode cX9_of 34 = .ok (.if_icmp .ge 53, 3) := by decide +kernel
theorem dX9_of_37 : decode cX9_of 37 = .ok (.iconst 0, 1) := by decide +kernel
theorem dX9_of_38 : decode cX9_of 38 = .ok (.istore 4, 2) := by decide +kernel
theorem dX9_of_40 : decode cX9_of 40 = .ok (.iload 4, 2) := by decide +kernel
theorem dX9_of_42 : decode cX9_of 42 = .ok (.iload_n 1, 1) := by decide +kernel
theorem dX9_of_43 : decode cX9_of 43 = .ok (.if_icmp .ge 38, 3) := by decide +kernel
theorem dX9_of_46 : decode cX9_of 46 = .ok (.aload_n 2, 1) := by decide +kernel
theorem dX9_of_47 : decode cX9_of 47 = .ok (.getfield 15, 3) := by decide +kernel
theorem dX9_of_50 : decode cX9_of 50 = .ok (.iload_n 3, 1) := by decide +kernel
theorem dX9_of_51 : decode cX9_of 51 = .ok (.aaload, 1) := by decide +kernel
theorem dX9_of_52 : decode cX9_of 52 = .ok (.iload 4, 2) := by decide +kernel
theorem dX9_of_54 : decode cX9_of 54 = .ok (.iconst 4, 1) := by decide +kernel
theorem dX9_of_55 : decode cX9_of 55 = .ok (.newarray .int, 2) := by decide +kernel
theorem dX9_of_57 : decode cX9_of 57 = .ok (.dup, 1) := by decide +kernel
theorem dX9_of_58 : decode cX9_of 58 = .ok (.iconst 0, 1) := by decide +kernel
theorem dX9_of_59 : decode cX9_of 59 = .ok (.iload 4, 2) := by decide +kernel
theorem dX9_of_61 : decode cX9_of 61 = .ok (.iastore, 1) := by decide +kernel
theorem dX9_of_62 : decode cX9_of 62 = .ok (.dup, 1) := by decide +kernel
theorem dX9_of_63 : decode cX9_of 63 = .ok (.iconst 1, 1) := by decide +kernel
theorem dX9_of_64 : decode cX9_of 64 = .ok (.iconst (-1), 1) := by decide +kernel
theorem dX9_of_65 : decode cX9_of 65 = .ok (.iastore, 1) := by decide +kernel
theorem dX9_of_66 : decode cX9_of 66 = .ok (.dup, 1) := by decide +kernel
theorem dX9_of_67 : decode cX9_of 67 = .ok (.iconst 2, 1) := by decide +kernel
theorem dX9_of_68 : decode cX9_of 68 = .ok (.iconst 0, 1) := by decide +kernel
theorem dX9_of_69 : decode cX9_of 69 = .ok (.iastore, 1) := by decide +kernel
theorem dX9_of_70 : decode cX9_of 70 = .ok (.dup, 1) := by decide +kernel
theorem dX9_of_71 : decode cX9_of 71 = .ok (.iconst 3, 1) := by decide +kernel
theorem dX9_of_72 : decode cX9_of 72 = .ok (.iconst 0, 1) := by decide +kernel
theorem dX9_of_73 : decode cX9_of 73 = .ok (.iastore, 1) := by decide +kernel
theorem dX9_of_74 : decode cX9_of 74 = .ok (.aastore, 1) := by decide +kernel
theorem dX9_of_75 : decode cX9_of 75 = .ok (.iinc 4 1, 3) := by decide +kernel
theorem dX9_of_78 : decode cX9_of 78 = .ok (.goto (-38), 3) := by decide +kernel
theorem dX9_of_81 : decode cX9_of 81 = .ok (.iinc 3 1, 3) := by decide +kernel
theorem dX9_of_84 : decode cX9_of 84 = .ok (.goto (-52), 3) := by decide +kernel
theorem dX9_of_87 : decode cX9_of 87 = .ok (.aload_n 2, 1) := by decide +kernel
theorem dX9_of_88 : decode cX9_of 88 = .ok (.areturn, 1) := by decide +kernel
theorem dX9_with_0 : decode cX9_with 0 = .ok (.aload_n 0, 1) := by decide +kernel
theorem dX9_with_1 : decode cX9_with 1 = .ok (.arraylength, 1) := by decide +kernel
theorem dX9_with_2 : decode cX9_with 2 = .ok (.iconst 1, 1) := by decide +kernel
theorem dX9_with_3 : decode cX9_with 3 = .ok (.iadd, 1) := by decide +kernel
theorem dX9_with_4 : decode cX9_with 4 = .ok (.anewarray 19, 3) := by decide +kernel
theorem dX9_with_7 : decode cX9_with 7 = .ok (.astore_n 2, 1) := by decide +kernel
theorem dX9_with_8 : decode cX9_with 8 = .ok (.iconst 0, 1) := by decide +kernel
theorem dX9_with_9 : decode cX9_with 9 = .ok (.istore_n 3, 1) := by decide +kernel
theorem dX9_with_10 : decode cX9_with 10 = .ok (.iload_n 3, 1) := by decide +kernel
theorem dX9_with_11 : decode cX9_with 11 = .ok (.aload_n 0, 1) := by decide +kernel
theorem dX9_with_12 : decode cX9_with 12 = .ok (.arraylength, 1) := by decide +kernel
theorem dX9_with_13 : decode cX9_with 13 = .ok (.if_icmp .ge 15, 3) := by decide +kernel
theorem dX9_with_16 : decode cX9_with 16 = .ok (.aload_n 2, 1) := by decide +kernel
theorem dX9_with_17 : decode cX9_with 17 = .ok (.iload_n 3, 1) := by decide +kernel
theorem dX9_with_18 : decode cX9_with 18 = .ok (.aload_n 0, 1) := by decide +kernel
theorem dX9_with_19 : decode cX9_with 19 = .ok (.iload_n 3, 1) := by decide +kernel
theorem dX9_with_20 : decode cX9_with 20 = .ok (.aaload, 1) := by decide +kernel
theorem dX9_with_21 : decode cX9_with 21 = .ok (.aastore, 1) := by decide +kernel
theorem dX9_with_22 : decode cX9_with 22 = .ok (.iinc 3 1, 3) := by decide +kernel
theorem dX9_with_25 : decode cX9_with 25 = .ok (.goto (-15), 3) := by decide +kernel
theorem dX9_with_28 : decode cX9_with 28 = .ok (.aload_n 2, 1) := by decide +kernel
theorem dX9_with_29 : decode cX9_with 29 = .ok (.aload_n 0, 1) := by decide +kernel
theorem dX9_with_30 : decode cX9_with 30 = .ok (.arraylength, 1) := by decide +kernel
theorem dX9_with_31 : decode cX9_with 31 = .ok (.aload_n 1, 1) := by decide +kernel
theorem dX9_with_32 : decode cX9_with 32 = .ok (.aastore, 1) := by decide +kernel
theorem dX9_with_33 : decode cX9_with 33 = .ok (.aload_n 2, 1) := by decide +kernel
theorem dX9_with_34 : decode cX9_with 34 = .ok (.areturn, 1) := by decide +kernel
theorem dX9_less_0 : decode cX9_less 0 = .ok (.aload_n 0, 1) := by decide +kernel
theorem dX9_less_1 : decode cX9_less 1 = .ok (.arraylength, 1) := by decide +kernel
theorem dX9_less_2 : decode cX9_less 2 = .ok (.iconst 1, 1) := by decide +kernel
theorem dX9_less_3 : decode cX9_less 3 = .ok (.isub, 1) := by decide +kernel
theorem dX9_less_4 : decode cX9_less 4 = .ok (.anewarray 19, 3) := by decide +kernel
theorem dX9_less_7 : decode cX9_less 7 = .ok (.astore_n 1, 1) := by decide +kernel
theorem dX9_less_8 : decode cX9_less 8 = .ok (.iconst 0, 1) := by decide +kernel
theorem dX9_less_9 : decode cX9_less 9 = .ok (.istore_n 2, 1) := by decide +kernel
theorem dX9_less_10 : decode cX9_less 10 = .ok (.iload_n 2, 1) := by decide +kernel
theorem dX9_less_11 : decode cX9_less 11 = .ok (.aload_n 1, 1) := by decide +kernel
theorem dX9_less_12 : decode cX9_less 12 = .ok (.arraylength, 1) := by decide +kernel
theorem dX9_less_13 : decode cX9_less 13 = .ok (.if_icmp .ge 15, 3) := by decide +kernel
theorem dX9_less_16 : decode cX9_less 16 = .ok (.aload_n 1, 1) := by decide +kernel
theorem dX9_less_17 : decode cX9_less 17 = .ok (.iload_n 2, 1) := by decide +kernel
theorem dX9_less_18 : decode cX9_less 18 = .ok (.aload_n 0, 1) := by decide +kernel
theorem dX9_less_19 : decode cX9_less 19 = .ok (.iload_n 2, 1) := by decide +kernel
theorem dX9_less_20 : decode cX9_less 20 = .ok (.aaload, 1) := by decide +kernel
theorem dX9_less_21 : decode cX9_less 21 = .ok (.aastore, 1) := by decide +kernel
theorem dX9_less_22 : decode cX9_less 22 = .ok (.iinc 2 1, 3) := by decide +kernel
theorem dX9_less_25 : decode cX9_less 25 = .ok (.goto (-15), 3) := by decide +kernel
theorem dX9_less_28 : decode cX9_less 28 = .ok (.aload_n 1, 1) := by decide +kernel
theorem dX9_less_29 : decode cX9_less 29 = .ok (.areturn, 1) := by decide +kernel
theorem dX9_seat_0 : decode cX9_seat 0 = .ok (.iload_n 1, 1) := by decide +kernel
theorem dX9_seat_1 : decode cX9_seat 1 = .ok (.aload_n 0, 1) := by decide +kernel
theorem dX9_seat_2 : decode cX9_seat 2 = .ok (.getfield 15, 3) := by decide +kernel
theorem dX9_seat_5 : decode cX9_seat 5 = .ok (.arraylength, 1) := by decide +kernel
theorem dX9_seat_6 : decode cX9_seat 6 = .ok (.irem, 1) := by decide +kernel
theorem dX9_seat_7 : decode cX9_seat 7 = .ok (.aload_n 0, 1) := by decide +kernel
theorem dX9_seat_8 : decode cX9_seat 8 = .ok (.getfield 15, 3) := by decide +kernel
theorem dX9_seat_11 : decode cX9_seat 11 = .ok (.arraylength, 1) := by decide +kernel
theorem dX9_seat_12 : decode cX9_seat 12 = .ok (.iadd, 1) := by decide +kernel
theorem dX9_seat_13 : decode cX9_seat 13 = .ok (.aload_n 0, 1) := by decide +kernel
theorem dX9_seat_14 : decode cX9_seat 14 = .ok (.getfield 15, 3) := by decide +kernel
theorem dX9_seat_17 : decode cX9_seat 17 = .ok (.arraylength, 1) := by decide +kernel
theorem dX9_seat_18 : decode cX9_seat 18 = .ok (.irem, 1) := by decide +kernel
theorem dX9_seat_19 : decode cX9_seat 19 = .ok (.ireturn, 1) := by decide +kernel
theorem dX9_props_0 : decode cX9_props 0 = .ok (.iconst 0, 1) := by decide +kernel
theorem dX9_props_1 : decode cX9_props 1 = .ok (.istore_n 1, 1) := by decide +kernel
theorem dX9_props_2 : decode cX9_props 2 = .ok (.aload_n 0, 1) := by decide +kernel
theorem dX9_props_3 : decode cX9_props 3 = .ok (.getfield 27, 3) := by decide +kernel
theorem dX9_props_6 : decode cX9_props 6 = .ok (.astore_n 2, 1) := by decide +kernel
theorem dX9_props_7 : decode cX9_props 7 = .ok (.aload_n 2, 1) := by decide +kernel
theorem dX9_props_8 : decode cX9_props 8 = .ok (.arraylength, 1) := by decide +kernel
theorem dX9_props_9 : decode cX9_props 9 = .ok (.istore_n 3, 1) := by decide +kernel
theorem dX9_props_10 : decode cX9_props 10 = .ok (.iconst 0, 1) := by decide +kernel
theorem dX9_props_11 : decode cX9_props 11 = .ok (.istore 4, 2) := by decide +kernel
theorem dX9_props_13 : decode cX9_props 13 = .ok (.iload 4, 2) := by decide +kernel
theorem dX9_props_15 : decode cX9_props 15 = .ok (.iload_n 3, 1) := by decide +kernel
theorem dX9_props_16 : decode cX9_props 16 = .ok (.if_icmp .ge 28, 3) := by decide +kernel
theorem dX9_props_19 : decode cX9_props 19 = .ok (.aload_n 2, 1) := by decide +kernel
theorem dX9_props_20 : decode cX9_props 20 = .ok (.iload 4, 2) := by decide +kernel
theorem dX9_props_22 : decode cX9_props 22 = .ok (.baload, 1) := by decide +kernel
theorem dX9_props_23 : decode cX9_props 23 = .ok (.istore 5, 2) := by decide +kernel
theorem dX9_props_25 : decode cX9_props 25 = .ok (.iload_n 1, 1) := by decide +kernel
theorem dX9_props_26 : decode cX9_props 26 = .ok (.iload 5, 2) := by decide +kernel
theorem dX9_props_28 : decode cX9_props 28 = .ok (.ifCond .eq 7, 3) := by decide +kernel
theorem dX9_props_31 : decode cX9_props 31 = .ok (.iconst 1, 1) := by decide +kernel
theorem dX9_props_32 : decode cX9_props 32 = .ok (.goto 4, 3) := by decide +kernel
theorem dX9_props_35 : decode cX9_props 35 = .ok (.iconst 0, 1) := by decide +kernel
theorem dX9_props_36 : decode cX9_props 36 = .ok (.iadd, 1) := by decide +kernel
theorem dX9_props_37 : decode cX9_props 37 = .ok (.istore_n 1, 1) := by decide +kernel
theorem dX9_props_38 : decode cX9_props 38 = .ok (.iinc 4 1, 3) := by decide +kernel
theorem dX9_props_41 : decode cX9_props 41 = .ok (.goto (-28), 3) := by decide +kernel
theorem dX9_props_44 : decode cX9_props 44 = .ok (.iload_n 1, 1) := by decide +kernel
theorem dX9_props_45 : decode cX9_props 45 = .ok (.ireturn, 1) := by decide +kernel
theorem dX9_found_0 : decode cX9_found 0 = .ok (.iconst 0, 1) := by decide +kernel
theorem dX9_found_1 : decode cX9_found 1 = .ok (.istore_n 2, 1) := by decide +kernel
theorem dX9_found_2 : decode cX9_found 2 = .ok (.aload_n 0, 1) := by decide +kernel
theorem dX9_found_3 : decode cX9_found 3 = .ok (.getfield 21, 3) := by decide +kernel
theorem dX9_found_6 : decode cX9_found 6 = .ok (.astore_n 3, 1) := by decide +kernel
theorem dX9_found_7 : decode cX9_found 7 = .ok (.aload_n 3, 1) := by decide +kernel
theorem dX9_found_8 : decode cX9_found 8 = .ok (.arraylength, 1) := by decide +kernel
theorem dX9_found_9 : decode cX9_found 9 = .ok (.istore 4, 2) := by decide +kernel
theorem dX9_found_11 : decode cX9_found 11 = .ok (.iconst 0, 1) := by decide +kernel
theorem dX9_found_12 : decode cX9_found 12 = .ok (.istore 5, 2) := by decide +kernel
theorem dX9_found_14 : decode cX9_found 14 = .ok (.iload 5, 2) := by decide +kernel
theorem dX9_found_16 : decode cX9_found 16 = .ok (.iload 4, 2) := by decide +kernel
theorem dX9_found_18 : decode cX9_found 18 = .ok (.if_icmp .ge 31, 3) := by decide +kernel
theorem dX9_found_21 : decode cX9_found 21 = .ok (.aload_n 3, 1) := by decide +kernel
theorem dX9_found_22 : decode cX9_found 22 = .ok (.iload 5, 2) := by decide +kernel
theorem dX9_found_24 : decode cX9_found 24 = .ok (.aaload, 1) := by decide +kernel
theorem dX9_found_25 : decode cX9_found 25 = .ok (.astore 6, 2) := by decide +kernel
theorem dX9_found_27 : decode cX9_found 27 = .ok (.iload_n 2, 1) := by decide +kernel
theorem dX9_found_28 : decode cX9_found 28 = .ok (.aload 6, 2) := by decide +kernel
theorem dX9_found_30 : decode cX9_found 30 = .ok (.iconst 3, 1) := by decide +kernel
theorem dX9_found_31 : decode cX9_found 31 = .ok (.iaload, 1) := by decide +kernel
theorem dX9_found_32 : decode cX9_found 32 = .ok (.iload_n 1, 1) := by decide +kernel
theorem dX9_found_33 : decode cX9_found 33 = .ok (.if_icmp .lt 7, 3) := by decide +kernel
theorem dX9_found_36 : decode cX9_found 36 = .ok (.iconst 1, 1) := by decide +kernel
theorem dX9_found_37 : decode cX9_found 37 = .ok (.goto 4, 3) := by decide +kernel
theorem dX9_found_40 : decode cX9_found 40 = .ok (.iconst 0, 1) := by decide +kernel
theorem dX9_found_41 : decode cX9_found 41 = .ok (.iadd, 1) := by decide +kernel
theorem dX9_found_42 : decode cX9_found 42 = .ok (.istore_n 2, 1) := by decide +kernel
theorem dX9_found_43 : decode cX9_found 43 = .ok (.iinc 5 1, 3) := by decide +kernel
theorem dX9_found_46 : decode cX9_found 46 = .ok (.goto (-32), 3) := by decide +kernel
theorem dX9_found_49 : decode cX9_found 49 = .ok (.iload_n 2, 1) := by decide +kernel
theorem dX9_found_50 : decode cX9_found 50 = .ok (.ireturn, 1) := by decide +kernel
theorem dX9_isSure_0 : decode cX9_isSure 0 = .ok (.iload_n 1, 1) := by decide +kernel
theorem dX9_isSure_1 : decode cX9_isSure 1 = .ok (.ifCond .lt 28, 3) := by decide +kernel
theorem dX9_isSure_4 : decode cX9_isSure 4 = .ok (.iload_n 1, 1) := by decide +kernel
theorem dX9_isSure_5 : decode cX9_isSure 5 = .ok (.aload_n 0, 1) := by decide +kernel
theorem dX9_isSure_6 : decode cX9_isSure 6 = .ok (.getfield 21, 3) := by decide +kernel
theorem dX9_isSure_9 : decode cX9_isSure 9 = .ok (.arraylength, 1) := by decide +kernel
theorem dX9_isSure_10 : decode cX9_isSure 10 = .ok (.if_icmp .ge 19, 3) := by decide +kernel
theorem dX9_isSure_13 : decode cX9_isSure 13 = .ok (.aload_n 0, 1) := by decide +kernel
theorem dX9_isSure_14 : decode cX9_isSure 14 = .ok (.getfield 21, 3) := by decide +kernel
theorem dX9_isSure_17 : decode cX9_isSure 17 = .ok (.iload_n 1, 1) := by decide +kernel
theorem dX9_isSure_18 : decode cX9_isSure 18 = .ok (.aaload, 1) := by decide +kernel
theorem dX9_isSure_19 : decode cX9_isSure 19 = .ok (.iconst 3, 1) := by decide +kernel
theorem dX9_isSure_20 : decode cX9_isSure 20 = .ok (.iaload, 1) := by decide +kernel
theorem dX9_isSure_21 : decode cX9_isSure 21 = .ok (.iconst 2, 1) := by decide +kernel
theorem dX9_isSure_22 : decode cX9_isSure 22 = .ok (.if_icmp .ne 7, 3) := by decide +kernel
theorem dX9_isSure_25 : decode cX9_isSure 25 = .ok (.iconst 1, 1) := by decide +kernel
theorem dX9_isSure_26 : decode cX9_isSure 26 = .ok (.goto 4, 3) := by decide +kernel
theorem dX9_isSure_29 : decode cX9_isSure 29 = .ok (.iconst 0, 1) := by decide +kernel
theorem dX9_isSure_30 : decode cX9_isSure 30 = .ok (.ireturn, 1) := by decide +kernel
theorem dX9_isSeen_0 : decode cX9_isSeen 0 = .ok (.aload_n 0, 1) := by decide +kernel
theorem dX9_isSeen_1 : decode cX9_isSeen 1 = .ok (.getfield 21, 3) := by decide +kernel
theorem dX9_isSeen_4 : decode cX9_isSeen 4 = .ok (.astore_n 2, 1) := by decide +kernel
theorem dX9_isSeen_5 : decode cX9_isSeen 5 = .ok (.aload_n 2, 1) := by decide +kernel
theorem dX9_isSeen_6 : decode cX9_isSeen 6 = .ok (.arraylength, 1) := by decide +kernel
theorem dX9_isSeen_7 : decode cX9_isSeen 7 = .ok (.istore_n 3, 1) := by decide +kernel
theorem dX9_isSeen_8 : decode cX9_isSeen 8 = .ok (.iconst 0, 1) := by decide +kernel
theorem dX9_isSeen_9 : decode cX9_isSeen 9 = .ok (.istore 4, 2) := by decide +kernel
theorem dX9_isSeen_11 : decode cX9_isSeen 11 = .ok (.iload 4, 2) := by decide +kernel
theorem dX9_isSeen_13 : decode cX9_isSeen 13 = .ok (.iload_n 3, 1) := by decide +kernel
theorem dX9_isSeen_14 : decode cX9_isSeen 14 = .ok (.if_icmp .ge 40, 3) := by decide +kernel
theorem dX9_isSeen_17 : decode cX9_isSeen 17 = .ok (.aload_n 2, 1) := by decide +kernel
theorem dX9_isSeen_18 : decode cX9_isSeen 18 = .ok (.iload 4, 2) := by decide +kernel
theorem dX9_isSeen_20 : decode cX9_isSeen 20 = .ok (.aaload, 1) := by decide +kernel
theorem dX9_isSeen_21 : decode cX9_isSeen 21 = .ok (.astore 5, 2) := by decide +kernel
theorem dX9_isSeen_23 : decode cX9_isSeen 23 = .ok (.aload 5, 2) := by decide +kernel
theorem dX9_isSeen_25 : decode cX9_isSeen 25 = .ok (.iconst 0, 1) := by decide +kernel
theorem dX9_isSeen_26 : decode cX9_isSeen 26 = .ok (.iaload, 1) := by decide +kernel
theorem dX9_isSeen_27 : decode cX9_isSeen 27 = .ok (.ifCond .ne 21, 3) := by decide +kernel
theorem dX9_isSeen_30 : decode cX9_isSeen 30 = .ok (.aload 5, 2) := by decide +kernel
theorem dX9_isSeen_32 : decode cX9_isSeen 32 = .ok (.iconst 2, 1) := by decide +kernel
theorem dX9_isSeen_33 : decode cX9_isSeen 33 = .ok (.iaload, 1) := by decide +kernel
theorem dX9_isSeen_34 : decode cX9_isSeen 34 = .ok (.iload_n 1, 1) := by decide +kernel
theorem dX9_isSeen_35 : decode cX9_isSeen 35 = .ok (.if_icmp .ne 13, 3) := by decide +kernel
theorem dX9_isSeen_38 : decode cX9_isSeen 38 = .ok (.aload 5, 2) := by decide +kernel
theorem dX9_isSeen_40 : decode cX9_isSeen 40 = .ok (.iconst 3, 1) := by decide +kernel
theorem dX9_isSeen_41 : decode cX9_isSeen 41 = .ok (.iaload, 1) := by decide +kernel
theorem dX9_isSeen_42 : decode cX9_isSeen 42 = .ok (.iconst 2, 1) := by decide +kernel
theorem dX9_isSeen_43 : decode cX9_isSeen 43 = .ok (.if_icmp .ne 5, 3) := by decide +kernel
theorem dX9_isSeen_46 : decode cX9_isSeen 46 = .ok (.iconst 1, 1) := by decide +kernel
theorem dX9_isSeen_47 : decode cX9_isSeen 47 = .ok (.ireturn, 1) := by decide +kernel
theorem dX9_isSeen_48 : decode cX9_isSeen 48 = .ok (.iinc 4 1, 3) := by decide +kernel
theorem dX9_isSeen_51 : decode cX9_isSeen 51 = .ok (.goto (-40), 3) := by decide +kernel
theorem dX9_isSeen_54 : decode cX9_isSeen 54 = .ok (.iconst 0, 1) := by decide +kernel
theorem dX9_isSeen_55 : decode cX9_isSeen 55 = .ok (.ireturn, 1) := by decide +kernel
theorem dX9_isSeenIn_0 : decode cX9_isSeenIn 0 = .ok (.aload_n 0, 1) := by decide +kernel
theorem dX9_isSeenIn_1 : decode cX9_isSeenIn 1 = .ok (.getfield 21, 3) := by decide +kernel
theorem dX9_isSeenIn_4 : decode cX9_isSeenIn 4 = .ok (.astore_n 3, 1) := by decide +kernel
theorem dX9_isSeenIn_5 : decode cX9_isSeenIn 5 = .ok (.aload_n 3, 1) := by decide +kernel
theorem dX9_isSeenIn_6 : decode cX9_isSeenIn 6 = .ok (.arraylength, 1) := by decide +kernel
theorem dX9_isSeenIn_7 : decode cX9_isSeenIn 7 = .ok (.istore 4, 2) := by decide +kernel
theorem dX9_isSeenIn_9 : decode cX9_isSeenIn 9 = .ok (.iconst 0, 1) := by decide +kernel
theorem dX9_isSeenIn_10 : decode cX9_isSeenIn 10 = .ok (.istore 5, 2) := by decide +kernel
theorem dX9_isSeenIn_12 : decode cX9_isSeenIn 12 = .ok (.iload 5, 2) := by decide +kernel
theorem dX9_isSeenIn_14 : decode cX9_isSeenIn 14 = .ok (.iload 4, 2) := by decide +kernel
theorem dX9_isSeenIn_16 : decode cX9_isSeenIn 16 = .ok (.if_icmp .ge 48, 3) := by decide +kernel
theorem dX9_isSeenIn_19 : decode cX9_isSeenIn 19 = .ok (.aload_n 3, 1) := by decide +kernel
theorem dX9_isSeenIn_20 : decode cX9_isSeenIn 20 = .ok (.iload 5, 2) := by decide +kernel
theorem dX9_isSeenIn_22 : decode cX9_isSeenIn 22 = .ok (.aaload, 1) := by decide +kernel
theorem dX9_isSeenIn_23 : decode cX9_isSeenIn 23 = .ok (.astore 6, 2) := by decide +kernel
theorem dX9_isSeenIn_25 : decode cX9_isSeenIn 25 = .ok (.aload 6, 2) := by decide +kernel
theorem dX9_isSeenIn_27 : decode cX9_isSeenIn 27 = .ok (.iconst 0, 1) := by decide +kernel
theorem dX9_isSeenIn_28 : decode cX9_isSeenIn 28 = .ok (.iaload, 1) := by decide +kernel
theorem dX9_isSeenIn_29 : decode cX9_isSeenIn 29 = .ok (.ifCond .ne 29, 3) := by decide +kernel
theorem dX9_isSeenIn_32 : decode cX9_isSeenIn 32 = .ok (.aload 6, 2) := by decide +kernel
theorem dX9_isSeenIn_34 : decode cX9_isSeenIn 34 = .ok (.iconst 2, 1) := by decide +kernel
theorem dX9_isSeenIn_35 : decode cX9_isSeenIn 35 = .ok (.iaload, 1) := by decide +kernel
theorem dX9_isSeenIn_36 : decode cX9_isSeenIn 36 = .ok (.iload_n 2, 1) := by decide +kernel
theorem dX9_isSeenIn_37 : decode cX9_isSeenIn 37 = .ok (.if_icmp .ne 21, 3) := by decide +kernel
theorem dX9_isSeenIn_40 : decode cX9_isSeenIn 40 = .ok (.aload 6, 2) := by decide +kernel
theorem dX9_isSeenIn_42 : decode cX9_isSeenIn 42 = .ok (.iconst 3, 1) := by decide +kernel
theorem dX9_isSeenIn_43 : decode cX9_isSeenIn 43 = .ok (.iaload, 1) := by decide +kernel
theorem dX9_isSeenIn_44 : decode cX9_isSeenIn 44 = .ok (.iconst 2, 1) := by decide +kernel
theorem dX9_isSeenIn_45 : decode cX9_isSeenIn 45 = .ok (.if_icmp .ne 13, 3) := by decide +kernel
theorem dX9_isSeenIn_48 : decode cX9_isSeenIn 48 = .ok (.aload 6, 2) := by decide +kernel
theorem dX9_isSeenIn_50 : decode cX9_isSeenIn 50 = .ok (.iconst 1, 1) := by decide +kernel
theorem dX9_isSeenIn_51 : decode cX9_isSeenIn 51 = .ok (.iaload, 1) := by decide +kernel
theorem dX9_isSeenIn_52 : decode cX9_isSeenIn 52 = .ok (.iload_n 1, 1) := by decide +kernel
theorem dX9_isSeenIn_53 : decode cX9_isSeenIn 53 = .ok (.if_icmp .ne 5, 3) := by decide +kernel
theorem dX9_isSeenIn_56 : decode cX9_isSeenIn 56 = .ok (.iconst 1, 1) := by decide +kernel
theorem dX9_isSeenIn_57 : decode cX9_isSeenIn 57 = .ok (.ireturn, 1) := by decide +kernel
theorem dX9_isSeenIn_58 : decode cX9_isSeenIn 58 = .ok (.iinc 5 1, 3) := by decide +kernel
theorem dX9_isSeenIn_61 : decode cX9_isSeenIn 61 = .ok (.goto (-49), 3) := by decide +kernel
theorem dX9_isSeenIn_64 : decode cX9_isSeenIn 64 = .ok (.iconst 0, 1) := by decide +kernel
theorem dX9_isSeenIn_65 : decode cX9_isSeenIn 65 = .ok (.ireturn, 1) := by decide +kernel
theorem dX9_notBefore_0 : decode cX9_notBefore 0 = .ok (.iconst (-1), 1) := by decide +kernel
theorem dX9_notBefore_1 : decode cX9_notBefore 1 = .ok (.istore_n 2, 1) := by decide +kernel
theorem dX9_notBefore_2 : decode cX9_notBefore 2 = .ok (.aload_n 0, 1) := by decide +kernel
theorem dX9_notBefore_3 : decode cX9_notBefore 3 = .ok (.getfield 21, 3) := by decide +kernel
theorem dX9_notBefore_6 : decode cX9_notBefore 6 = .ok (.astore_n 3, 1) := by decide +kernel
theorem dX9_notBefore_7 : decode cX9_notBefore 7 = .ok (.aload_n 3, 1) := by decide +kernel
theorem dX9_notBefore_8 : decode cX9_notBefore 8 = .ok (.arraylength, 1) := by decide +kernel
theorem dX9_notBefore_9 : decode cX9_notBefore 9 = .ok (.istore 4, 2) := by decide +kernel
theorem dX9_notBefore_11 : decode cX9_notBefore 11 = .ok (.iconst 0, 1) := by decide +kernel
theorem dX9_notBefore_12 : decode cX9_notBefore 12 = .ok (.istore 5, 2) := by decide +kernel
theorem dX9_notBefore_14 : decode cX9_notBefore 14 = .ok (.iload 5, 2) := by decide +kernel
theorem dX9_notBefore_16 : decode cX9_notBefore 16 = .ok (.iload 4, 2) := by decide +kernel
theorem dX9_notBefore_18 : decode cX9_notBefore 18 = .ok (.if_icmp .ge 68, 3) := by decide +kernel
theorem dX9_notBefore_21 : decode cX9_notBefore 21 = .ok (.aload_n 3, 1) := by decide +kernel
theorem dX9_notBefore_22 : decode cX9_notBefore 22 = .ok (.iload 5, 2) := by decide +kernel
theorem dX9_notBefore_24 : decode cX9_notBefore 24 = .ok (.aaload, 1) := by decide +kernel
theorem dX9_notBefore_25 : decode cX9_notBefore 25 = .ok (.astore 6, 2) := by decide +kernel
theorem dX9_notBefore_27 : decode cX9_notBefore 27 = .ok (.aload 6, 2) := by decide +kernel
theorem dX9_notBefore_29 : decode cX9_notBefore 29 = .ok (.iconst 0, 1) := by decide +kernel
theorem dX9_notBefore_30 : decode cX9_notBefore 30 = .ok (.iaload, 1) := by decide +kernel
theorem dX9_notBefore_31 : decode cX9_notBefore 31 = .ok (.iconst 1, 1) := by decide +kernel
theorem dX9_notBefore_32 : decode cX9_notBefore 32 = .ok (.if_icmp .ne 10, 3) := by decide +kernel
theorem dX9_notBefore_35 : decode cX9_notBefore 35 = .ok (.aload 6, 2) := by decide +kernel
theorem dX9_notBefore_37 : decode cX9_notBefore 37 = .ok (.iconst 2, 1) := by decide +kernel
theorem dX9_notBefore_38 : decode cX9_notBefore 38 = .ok (.iaload, 1) := by decide +kernel
theorem dX9_notBefore_39 : decode cX9_notBefore 39 = .ok (.goto 14, 3) := by decide +kernel
theorem dX9_notBefore_42 : decode cX9_notBefore 42 = .ok (.aload_n 0, 1) := by decide +kernel
theorem dX9_notBefore_43 : decode cX9_notBefore 43 = .ok (.getfield 24, 3) := by decide +kernel
theorem dX9_notBefore_46 : decode cX9_notBefore 46 = .ok (.aload 6, 2) := by decide +kernel
theorem dX9_notBefore_48 : decode cX9_notBefore 48 = .ok (.iconst 2, 1) := by decide +kernel
theorem dX9_notBefore_49 : decode cX9_notBefore 49 = .ok (.iaload, 1) := by decide +kernel
theorem dX9_notBefore_50 : decode cX9_notBefore 50 = .ok (.aaload, 1) := by decide +kernel
theorem dX9_notBefore_51 : decode cX9_notBefore 51 = .ok (.iconst 0, 1) := by decide +kernel
theorem dX9_notBefore_52 : decode cX9_notBefore 52 = .ok (.iaload, 1) := by decide +kernel
theorem dX9_notBefore_53 : decode cX9_notBefore 53 = .ok (.istore 7, 2) := by decide +kernel
theorem dX9_notBefore_55 : decode cX9_notBefore 55 = .ok (.aload 6, 2) := by decide +kernel
theorem dX9_notBefore_57 : decode cX9_notBefore 57 = .ok (.iconst 3, 1) := by decide +kernel
theorem dX9_notBefore_58 : decode cX9_notBefore 58 = .ok (.iaload, 1) := by decide +kernel
theorem dX9_notBefore_59 : decode cX9_notBefore 59 = .ok (.iconst 2, 1) := by decide +kernel
theorem dX9_notBefore_60 : decode cX9_notBefore 60 = .ok (.if_icmp .ne 20, 3) := by decide +kernel
theorem dX9_notBefore_63 : decode cX9_notBefore 63 = .ok (.aload 6, 2) := by decide +kernel
theorem dX9_notBefore_65 : decode cX9_notBefore 65 = .ok (.iconst 1, 1) := by decide +kernel
theorem dX9_notBefore_66 : decode cX9_notBefore 66 = .ok (.iaload, 1) := by decide +kernel
theorem dX9_notBefore_67 : decode cX9_notBefore 67 = .ok (.iload_n 1, 1) := by decide +kernel
theorem dX9_notBefore_68 : decode cX9_notBefore 68 = .ok (.if_icmp .gt 12, 3) := by decide +kernel
theorem dX9_notBefore_71 : decode cX9_notBefore 71 = .ok (.iload 7, 2) := by decide +kernel
theorem dX9_notBefore_73 : decode cX9_notBefore 73 = .ok (.iload_n 2, 1) := by decide +kernel
theorem dX9_notBefore_74 : decode cX9_notBefore 74 = .ok (.if_icmp .le 6, 3) := by decide +kernel
theorem dX9_notBefore_77 : decode cX9_notBefore 77 = .ok (.iload 7, 2) := by decide +kernel
theorem dX9_notBefore_79 : decode cX9_notBefore 79 = .ok (.istore_n 2, 1) := by decide +kernel
theorem dX9_notBefore_80 : decode cX9_notBefore 80 = .ok (.iinc 5 1, 3) := by decide +kernel
theorem dX9_notBefore_83 : decode cX9_notBefore 83 = .ok (.goto (-69), 3) := by decide +kernel
theorem dX9_notBefore_86 : decode cX9_notBefore 86 = .ok (.iload_n 2, 1) := by decide +kernel
theorem dX9_notBefore_87 : decode cX9_notBefore 87 = .ok (.ireturn, 1) := by decide +kernel
theorem dX9_isMixed_0 : decode cX9_isMixed 0 = .ok (.iconst 0, 1) := by decide +kernel
theorem dX9_isMixed_1 : decode cX9_isMixed 1 = .ok (.istore_n 2, 1) := by decide +kernel
theorem dX9_isMixed_2 : decode cX9_isMixed 2 = .ok (.iload_n 2, 1) := by decide +kernel
theorem dX9_isMixed_3 : decode cX9_isMixed 3 = .ok (.aload_n 0, 1) := by decide +kernel
theorem dX9_isMixed_4 : decode cX9_isMixed 4 = .ok (.getfield 24, 3) := by decide +kernel
theorem dX9_isMixed_7 : decode cX9_isMixed 7 = .ok (.arraylength, 1) := by decide +kernel
theorem dX9_isMixed_8 : decode cX9_isMixed 8 = .ok (.if_icmp .ge 65, 3) := by decide +kernel
theorem dX9_isMixed_11 : decode cX9_isMixed 11 = .ok (.iconst 0, 1) := by decide +kernel
theorem dX9_isMixed_12 : decode cX9_isMixed 12 = .ok (.istore_n 3, 1) := by decide +kernel
theorem dX9_isMixed_13 : decode cX9_isMixed 13 = .ok (.iload_n 3, 1) := by decide +kernel
theorem dX9_isMixed_14 : decode cX9_isMixed 14 = .ok (.aload_n 0, 1) := by decide +kernel
theorem dX9_isMixed_15 : decode cX9_isMixed 15 = .ok (.getfield 24, 3) := by decide +kernel
theorem dX9_isMixed_18 : decode cX9_isMixed 18 = .ok (.arraylength, 1) := by decide +kernel
theorem dX9_isMixed_19 : decode cX9_isMixed 19 = .ok (.if_icmp .ge 48, 3) := by decide +kernel
theorem dX9_isMixed_22 : decode cX9_isMixed 22 = .ok (.aload_n 0, 1) := by decide +kernel
theorem dX9_isMixed_23 : decode cX9_isMixed 23 = .ok (.iload_n 1, 1) := by decide +kernel
theorem dX9_isMixed_24 : decode cX9_isMixed 24 = .ok (.iload_n 2, 1) := by decide +kernel
theorem dX9_isMixed_25 : decode cX9_isMixed 25 = .ok (.invokevirtual 61, 3) := by decide +kernel
theorem dX9_isMixed_28 : decode cX9_isMixed 28 = .ok (.ifCond .eq 33, 3) := by decide +kernel
theorem dX9_isMixed_31 : decode cX9_isMixed 31 = .ok (.aload_n 0, 1) := by decide +kernel
theorem dX9_isMixed_32 : decode cX9_isMixed 32 = .ok (.iload_n 1, 1) := by decide +kernel
theorem dX9_isMixed_33 : decode cX9_isMixed 33 = .ok (.iload_n 3, 1) := by decide +kernel
theorem dX9_isMixed_34 : decode cX9_isMixed 34 = .ok (.invokevirtual 61, 3) := by decide +kernel
theorem dX9_isMixed_37 : decode cX9_isMixed 37 = .ok (.ifCond .eq 24, 3) := by decide +kernel
theorem dX9_isMixed_40 : decode cX9_isMixed 40 = .ok (.aload_n 0, 1) := by decide +kernel
theorem dX9_isMixed_41 : decode cX9_isMixed 41 = .ok (.getfield 24, 3) := by decide +kernel
theorem dX9_isMixed_44 : decode cX9_isMixed 44 = .ok (.iload_n 2, 1) := by decide +kernel
theorem dX9_isMixed_45 : decode cX9_isMixed 45 = .ok (.aaload, 1) := by decide +kernel
theorem dX9_isMixed_46 : decode cX9_isMixed 46 = .ok (.iconst 1, 1) := by decide +kernel
theorem dX9_isMixed_47 : decode cX9_isMixed 47 = .ok (.iaload, 1) := by decide +kernel
theorem dX9_isMixed_48 : decode cX9_isMixed 48 = .ok (.aload_n 0, 1) := by decide +kernel
theorem dX9_isMixed_49 : decode cX9_isMixed 49 = .ok (.getfield 24, 3) := by decide +kernel
theorem dX9_isMixed_52 : decode cX9_isMixed 52 = .ok (.iload_n 3, 1) := by decide +kernel
theorem dX9_isMixed_53 : decode cX9_isMixed 53 = .ok (.aaload, 1) := by decide +kernel
theorem dX9_isMixed_54 : decode cX9_isMixed 54 = .ok (.iconst 0, 1) := by decide +kernel
theorem dX9_isMixed_55 : decode cX9_isMixed 55 = .ok (.iaload, 1) := by decide +kernel
theorem dX9_isMixed_56 : decode cX9_isMixed 56 = .ok (.if_icmp .ge 5, 3) := by decide +kernel
theorem dX9_isMixed_59 : decode cX9_isMixed 59 = .ok (.iconst 1, 1) := by decide +kernel
theorem dX9_isMixed_60 : decode cX9_isMixed 60 = .ok (.ireturn, 1) := by decide +kernel
theorem dX9_isMixed_61 : decode cX9_isMixed 61 = .ok (.iinc 3 1, 3) := by decide +kernel
theorem dX9_isMixed_64 : decode cX9_isMixed 64 = .ok (.goto (-51), 3) := by decide +kernel
theorem dX9_isMixed_67 : decode cX9_isMixed 67 = .ok (.iinc 2 1, 3) := by decide +kernel
theorem dX9_isMixed_70 : decode cX9_isMixed 70 = .ok (.goto (-68), 3) := by decide +kernel
theorem dX9_isMixed_73 : decode cX9_isMixed 73 = .ok (.iconst 0, 1) := by decide +kernel
theorem dX9_isMixed_74 : decode cX9_isMixed 74 = .ok (.ireturn, 1) := by decide +kernel
theorem dX9_slidesOnto_0 : decode cX9_slidesOnto 0 = .ok (.iload_n 2, 1) := by decide +kernel
theorem dX9_slidesOnto_1 : decode cX9_slidesOnto 1 = .ok (.ifCond .lt 40, 3) := by decide +kernel
theorem dX9_slidesOnto_4 : decode cX9_slidesOnto 4 = .ok (.iload_n 2, 1) := by decide +kernel
theorem dX9_slidesOnto_5 : decode cX9_slidesOnto 5 = .ok (.aload_n 0, 1) := by decide +kernel
theorem dX9_slidesOnto_6 : decode cX9_slidesOnto 6 = .ok (.getfield 15, 3) := by decide +kernel
theorem dX9_slidesOnto_9 : decode cX9_slidesOnto 9 = .ok (.arraylength, 1) := by decide +kernel
theorem dX9_slidesOnto_10 : decode cX9_slidesOnto 10 = .ok (.if_icmp .eq 31, 3) := by decide +kernel
theorem dX9_slidesOnto_13 : decode cX9_slidesOnto 13 = .ok (.aload_n 0, 1) := by decide +kernel
theorem dX9_slidesOnto_14 : decode cX9_slidesOnto 14 = .ok (.getfield 15, 3) := by decide +kernel
theorem dX9_slidesOnto_17 : decode cX9_slidesOnto 17 = .ok (.iload_n 2, 1) := by decide +kernel
theorem dX9_slidesOnto_18 : decode cX9_slidesOnto 18 = .ok (.aaload, 1) := by decide +kernel
theorem dX9_slidesOnto_19 : decode cX9_slidesOnto 19 = .ok (.arraylength, 1) := by decide +kernel
theorem dX9_slidesOnto_20 : decode cX9_slidesOnto 20 = .ok (.aload_n 0, 1) := by decide +kernel
theorem dX9_slidesOnto_21 : decode cX9_slidesOnto 21 = .ok (.getfield 15, 3) := by decide +kernel
theorem dX9_slidesOnto_24 : decode cX9_slidesOnto 24 = .ok (.iload_n 1, 1) := by decide +kernel
theorem dX9_slidesOnto_25 : decode cX9_slidesOnto 25 = .ok (.aaload, 1) := by decide +kernel
theorem dX9_slidesOnto_26 : decode cX9_slidesOnto 26 = .ok (.arraylength, 1) := by decide +kernel
theorem dX9_slidesOnto_27 : decode cX9_slidesOnto 27 = .ok (.iconst 4, 1) := by decide +kernel
theorem dX9_slidesOnto_28 : decode cX9_slidesOnto 28 = .ok (.iadd, 1) := by decide +kernel
theorem dX9_slidesOnto_29 : decode cX9_slidesOnto 29 = .ok (.if_icmp .lt 12, 3) := by decide +kernel
theorem dX9_slidesOnto_32 : decode cX9_slidesOnto 32 = .ok (.aload_n 0, 1) := by decide +kernel
theorem dX9_slidesOnto_33 : decode cX9_slidesOnto 33 = .ok (.getfield 27, 3) := by decide +kernel
theorem dX9_slidesOnto_36 : decode cX9_slidesOnto 36 = .ok (.iload_n 2, 1) := by decide +kernel
theorem dX9_slidesOnto_37 : decode cX9_slidesOnto 37 = .ok (.baload, 1) := by decide +kernel
theorem dX9_slidesOnto_38 : decode cX9_slidesOnto 38 = .ok (.ifCond .eq 5, 3) := by decide +kernel
theorem dX9_slidesOnto_41 : decode cX9_slidesOnto 41 = .ok (.iconst 0, 1) := by decide +kernel
theorem dX9_slidesOnto_42 : decode cX9_slidesOnto 42 = .ok (.ireturn, 1) := by decide +kernel
theorem dX9_slidesOnto_43 : decode cX9_slidesOnto 43 = .ok (.aload_n 0, 1) := by decide +kernel
theorem dX9_slidesOnto_44 : decode cX9_slidesOnto 44 = .ok (.getfield 15, 3) := by decide +kernel
theorem dX9_slidesOnto_47 : decode cX9_slidesOnto 47 = .ok (.iload_n 2, 1) := by decide +kernel
theorem dX9_slidesOnto_48 : decode cX9_slidesOnto 48 = .ok (.aaload, 1) := by decide +kernel
theorem dX9_slidesOnto_49 : decode cX9_slidesOnto 49 = .ok (.aload_n 0, 1) := by decide +kernel
theorem dX9_slidesOnto_50 : decode cX9_slidesOnto 50 = .ok (.getfield 15, 3) := by decide +kernel
theorem dX9_slidesOnto_53 : decode cX9_slidesOnto 53 = .ok (.iload_n 2, 1) := by decide +kernel
theorem dX9_slidesOnto_54 : decode cX9_slidesOnto 54 = .ok (.aaload, 1) := by decide +kernel
theorem dX9_slidesOnto_55 : decode cX9_slidesOnto 55 = .ok (.arraylength, 1) := by decide +kernel
theorem dX9_slidesOnto_56 : decode cX9_slidesOnto 56 = .ok (.iconst 1, 1) := by decide +kernel
theorem dX9_slidesOnto_57 : decode cX9_slidesOnto 57 = .ok (.isub, 1) := by decide +kernel
theorem dX9_slidesOnto_58 : decode cX9_slidesOnto 58 = .ok (.aaload, 1) := by decide +kernel
theorem dX9_slidesOnto_59 : decode cX9_slidesOnto 59 = .ok (.iconst 2, 1) := by decide +kernel
theorem dX9_slidesOnto_60 : decode cX9_slidesOnto 60 = .ok (.iaload, 1) := by decide +kernel
theorem dX9_slidesOnto_61 : decode cX9_slidesOnto 61 = .ok (.ifCond .ne 7, 3) := by decide +kernel
theorem dX9_slidesOnto_64 : decode cX9_slidesOnto 64 = .ok (.iconst 1, 1) := by decide +kernel
theorem dX9_slidesOnto_65 : decode cX9_slidesOnto 65 = .ok (.goto 4, 3) := by decide +kernel
theorem dX9_slidesOnto_68 : decode cX9_slidesOnto 68 = .ok (.iconst 0, 1) := by decide +kernel
theorem dX9_slidesOnto_69 : decode cX9_slidesOnto 69 = .ok (.ireturn, 1) := by decide +kernel
theorem dX9_settle_0 : decode cX9_settle 0 = .ok (.iconst 0, 1) := by decide +kernel
theorem dX9_settle_1 : decode cX9_settle 1 = .ok (.istore_n 1, 1) := by decide +kernel
theorem dX9_settle_2 : decode cX9_settle 2 = .ok (.iconst 0, 1) := by decide +kernel
theorem dX9_settle_3 : decode cX9_settle 3 = .ok (.istore_n 2, 1) := by decide +kernel
theorem dX9_settle_4 : decode cX9_settle 4 = .ok (.iload_n 2, 1) := by decide +kernel
theorem dX9_settle_5 : decode cX9_settle 5 = .ok (.aload_n 0, 1) := by decide +kernel
theorem dX9_settle_6 : decode cX9_settle 6 = .ok (.getfield 15, 3) := by decide +kernel
theorem dX9_settle_9 : decode cX9_settle 9 = .ok (.arraylength, 1) := by decide +kernel
theorem dX9_settle_10 : decode cX9_settle 10 = .ok (.if_icmp .ge 116, 3) := by decide +kernel
theorem dX9_settle_13 : decode cX9_settle 13 = .ok (.aload_n 0, 1) := by decide +kernel
theorem dX9_settle_14 : decode cX9_settle 14 = .ok (.iload_n 2, 1) := by decide +kernel
theorem dX9_settle_15 : decode cX9_settle 15 = .ok (.iload_n 2, 1) := by decide +kernel
theorem dX9_settle_16 : decode cX9_settle 16 = .ok (.iconst 1, 1) := by decide +kernel
theorem dX9_settle_17 : decode cX9_settle 17 = .ok (.isub, 1) := by decide +kernel
theorem dX9_settle_18 : decode cX9_settle 18 = .ok (.invokevirtual 65, 3) := by decide +kernel
theorem dX9_settle_21 : decode cX9_settle 21 = .ok (.ifCond .eq 9, 3) := by decide +kernel
theorem dX9_settle_24 : decode cX9_settle 24 = .ok (.iload_n 2, 1) := by decide +kernel
theorem dX9_settle_25 : decode cX9_settle 25 = .ok (.iconst 1, 1) := by decide +kernel
theorem dX9_settle_26 : decode cX9_settle 26 = .ok (.isub, 1) := by decide +kernel
theorem dX9_settle_27 : decode cX9_settle 27 = .ok (.goto 21, 3) := by decide +kernel
theorem dX9_settle_30 : decode cX9_settle 30 = .ok (.aload_n 0, 1) := by decide +kernel
theorem dX9_settle_31 : decode cX9_settle 31 = .ok (.iload_n 2, 1) := by decide +kernel
theorem dX9_settle_32 : decode cX9_settle 32 = .ok (.iload_n 2, 1) := by decide +kernel
theorem dX9_settle_33 : decode cX9_settle 33 = .ok (.iconst 1, 1) := by decide +kernel
theorem dX9_settle_34 : decode cX9_settle 34 = .ok (.iadd, 1) := by decide +kernel
theorem dX9_settle_35 : decode cX9_settle 35 = .ok (.invokevirtual 65, 3) := by decide +kernel
theorem dX9_settle_38 : decode cX9_settle 38 = .ok (.ifCond .eq 9, 3) := by decide +kernel
theorem dX9_settle_41 : decode cX9_settle 41 = .ok (.iload_n 2, 1) := by decide +kernel
theorem dX9_settle_42 : decode cX9_settle 42 = .ok (.iconst 1, 1) := by decide +kernel
theorem dX9_settle_43 : decode cX9_settle 43 = .ok (.iadd, 1) := by decide +kernel
theorem dX9_settle_44 : decode cX9_settle 44 = .ok (.goto 4, 3) := by decide +kernel
theorem dX9_settle_47 : decode cX9_settle 47 = .ok (.iconst (-1), 1) := by decide +kernel
theorem dX9_settle_48 : decode cX9_settle 48 = .ok (.istore_n 3, 1) := by decide +kernel
theorem dX9_settle_49 : decode cX9_settle 49 = .ok (.iinc 2 1, 3) := by decide +kernel
theorem dX9_settle_52 : decode cX9_settle 52 = .ok (.iload_n 3, 1) := by decide +kernel
theorem dX9_settle_53 : decode cX9_settle 53 = .ok (.ifCond .ge 6, 3) := by decide +kernel
theorem dX9_settle_56 : decode cX9_settle 56 = .ok (.goto (-52), 3) := by decide +kernel
theorem dX9_settle_59 : decode cX9_settle 59 = .ok (.aload_n 0, 1) := by decide +kernel
theorem dX9_settle_60 : decode cX9_settle 60 = .ok (.getfield 15, 3) := by decide +kernel
theorem dX9_settle_63 : decode cX9_settle 63 = .ok (.iload_n 3, 1) := by decide +kernel
theorem dX9_settle_64 : decode cX9_settle 64 = .ok (.aaload, 1) := by decide +kernel
theorem dX9_settle_65 : decode cX9_settle 65 = .ok (.aload_n 0, 1) := by decide +kernel
theorem dX9_settle_66 : decode cX9_settle 66 = .ok (.getfield 15, 3) := by decide +kernel
theorem dX9_settle_69 : decode cX9_settle 69 = .ok (.iload_n 3, 1) := by decide +kernel
theorem dX9_settle_70 : decode cX9_settle 70 = .ok (.aaload, 1) := by decide +kernel
theorem dX9_settle_71 : decode cX9_settle 71 = .ok (.arraylength, 1) := by decide +kernel
theorem dX9_settle_72 : decode cX9_settle 72 = .ok (.iconst 1, 1) := by decide +kernel
theorem dX9_settle_73 : decode cX9_settle 73 = .ok (.isub, 1) := by decide +kernel
theorem dX9_settle_74 : decode cX9_settle 74 = .ok (.aaload, 1) := by decide +kernel
theorem dX9_settle_75 : decode cX9_settle 75 = .ok (.astore 4, 2) := by decide +kernel
theorem dX9_settle_77 : decode cX9_settle 77 = .ok (.aload 4, 2) := by decide +kernel
theorem dX9_settle_79 : decode cX9_settle 79 = .ok (.iconst 3, 1) := by decide +kernel
theorem dX9_settle_80 : decode cX9_settle 80 = .ok (.iconst 1, 1) := by decide +kernel
theorem dX9_settle_81 : decode cX9_settle 81 = .ok (.iastore, 1) := by decide +kernel
theorem dX9_settle_82 : decode cX9_settle 82 = .ok (.aload_n 0, 1) := by decide +kernel
theorem dX9_settle_83 : decode cX9_settle 83 = .ok (.getfield 15, 3) := by decide +kernel
theorem dX9_settle_86 : decode cX9_settle 86 = .ok (.iload_n 3, 1) := by decide +kernel
theorem dX9_settle_87 : decode cX9_settle 87 = .ok (.aload_n 0, 1) := by decide +kernel
theorem dX9_settle_88 : decode cX9_settle 88 = .ok (.getfield 15, 3) := by decide +kernel
theorem dX9_settle_91 : decode cX9_settle 91 = .ok (.iload_n 3, 1) := by decide +kernel
theorem dX9_settle_92 : decode cX9_settle 92 = .ok (.aaload, 1) := by decide +kernel
theorem dX9_settle_93 : decode cX9_settle 93 = .ok (.invokestatic 68, 3) := by decide +kernel
theorem dX9_settle_96 : decode cX9_settle 96 = .ok (.aastore, 1) := by decide +kernel
theorem dX9_settle_97 : decode cX9_settle 97 = .ok (.aload_n 0, 1) := by decide +kernel
theorem dX9_settle_98 : decode cX9_settle 98 = .ok (.getfield 15, 3) := by decide +kernel
theorem dX9_settle_101 : decode cX9_settle 101 = .ok (.iload_n 2, 1) := by decide +kernel
theorem dX9_settle_102 : decode cX9_settle 102 = .ok (.iconst 1, 1) := by decide +kernel
theorem dX9_settle_103 : decode cX9_settle 103 = .ok (.isub, 1) := by decide +kernel
theorem dX9_settle_104 : decode cX9_settle 104 = .ok (.aload_n 0, 1) := by decide +kernel
theorem dX9_settle_105 : decode cX9_settle 105 = .ok (.getfield 15, 3) := by decide +kernel
theorem dX9_settle_108 : decode cX9_settle 108 = .ok (.iload_n 2, 1) := by decide +kernel
theorem dX9_settle_109 : decode cX9_settle 109 = .ok (.iconst 1, 1) := by decide +kernel
theorem dX9_settle_110 : decode cX9_settle 110 = .ok (.isub, 1) := by decide +kernel
theorem dX9_settle_111 : decode cX9_settle 111 = .ok (.aaload, 1) := by decide +kernel
theorem dX9_settle_112 : decode cX9_settle 112 = .ok (.aload 4, 2) := by decide +kernel
theorem dX9_settle_114 : decode cX9_settle 114 = .ok (.invokestatic 57, 3) := by decide +kernel
theorem dX9_settle_117 : decode cX9_settle 117 = .ok (.aastore, 1) := by decide +kernel
theorem dX9_settle_118 : decode cX9_settle 118 = .ok (.iinc 1 1, 3) := by decide +kernel
theorem dX9_settle_121 : decode cX9_settle 121 = .ok (.iconst 0, 1) := by decide +kernel
theorem dX9_settle_122 : decode cX9_settle 122 = .ok (.istore_n 2, 1) := by decide +kernel
theorem dX9_settle_123 : decode cX9_settle 123 = .ok (.goto (-119), 3) := by decide +kernel
theorem dX9_settle_126 : decode cX9_settle 126 = .ok (.aload_n 0, 1) := by decide +kernel
theorem dX9_settle_127 : decode cX9_settle 127 = .ok (.dup, 1) := by decide +kernel
theorem dX9_settle_128 : decode cX9_settle 128 = .ok (.getfield 54, 3) := by decide +kernel
theorem dX9_settle_131 : decode cX9_settle 131 = .ok (.iload_n 1, 1) := by decide +kernel
theorem dX9_settle_132 : decode cX9_settle 132 = .ok (.iadd, 1) := by decide +kernel
theorem dX9_settle_133 : decode cX9_settle 133 = .ok (.putfield 54, 3) := by decide +kernel
theorem dX9_settle_136 : decode cX9_settle 136 = .ok (.iload_n 1, 1) := by decide +kernel
theorem dX9_settle_137 : decode cX9_settle 137 = .ok (.ireturn, 1) := by decide +kernel
theorem dX9_dig_0 : decode cX9_dig 0 = .ok (.aload_n 0, 1) := by decide +kernel
theorem dX9_dig_1 : decode cX9_dig 1 = .ok (.getfield 15, 3) := by decide +kernel
theorem dX9_dig_4 : decode cX9_dig 4 = .ok (.iload_n 1, 1) := by decide +kernel
theorem dX9_dig_5 : decode cX9_dig 5 = .ok (.aaload, 1) := by decide +kernel
theorem dX9_dig_6 : decode cX9_dig 6 = .ok (.aload_n 0, 1) := by decide +kernel
theorem dX9_dig_7 : decode cX9_dig 7 = .ok (.getfield 15, 3) := by decide +kernel
theorem dX9_dig_10 : decode cX9_dig 10 = .ok (.iload_n 1, 1) := by decide +kernel
theorem dX9_dig_11 : decode cX9_dig 11 = .ok (.aaload, 1) := by decide +kernel
theorem dX9_dig_12 : decode cX9_dig 12 = .ok (.arraylength, 1) := by decide +kernel
theorem dX9_dig_13 : decode cX9_dig 13 = .ok (.iconst 1, 1) := by decide +kernel
theorem dX9_dig_14 : decode cX9_dig 14 = .ok (.isub, 1) := by decide +kernel
theorem dX9_dig_15 : decode cX9_dig 15 = .ok (.aaload, 1) := by decide +kernel
theorem dX9_dig_16 : decode cX9_dig 16 = .ok (.astore_n 2, 1) := by decide +kernel
theorem dX9_dig_17 : decode cX9_dig 17 = .ok (.aload_n 0, 1) := by decide +kernel
theorem dX9_dig_18 : decode cX9_dig 18 = .ok (.getfield 15, 3) := by decide +kernel
theorem dX9_dig_21 : decode cX9_dig 21 = .ok (.iload_n 1, 1) := by decide +kernel
theorem dX9_dig_22 : decode cX9_dig 22 = .ok (.aload_n 0, 1) := by decide +kernel
theorem dX9_dig_23 : decode cX9_dig 23 = .ok (.getfield 15, 3) := by decide +kernel
theorem dX9_dig_26 : decode cX9_dig 26 = .ok (.iload_n 1, 1) := by decide +kernel
theorem dX9_dig_27 : decode cX9_dig 27 = .ok (.aaload, 1) := by decide +kernel
theorem dX9_dig_28 : decode cX9_dig 28 = .ok (.invokestatic 68, 3) := by decide +kernel
theorem dX9_dig_31 : decode cX9_dig 31 = .ok (.aastore, 1) := by decide +kernel
theorem dX9_dig_32 : decode cX9_dig 32 = .ok (.aload_n 2, 1) := by decide +kernel
theorem dX9_dig_33 : decode cX9_dig 33 = .ok (.iconst 1, 1) := by decide +kernel
theorem dX9_dig_34 : decode cX9_dig 34 = .ok (.iaload, 1) := by decide +kernel
theorem dX9_dig_35 : decode cX9_dig 35 = .ok (.ifCond .lt 18, 3) := by decide +kernel
theorem dX9_dig_38 : decode cX9_dig 38 = .ok (.aload_n 0, 1) := by decide +kernel
theorem dX9_dig_39 : decode cX9_dig 39 = .ok (.getfield 21, 3) := by decide +kernel
theorem dX9_dig_42 : decode cX9_dig 42 = .ok (.aload_n 2, 1) := by decide +kernel
theorem dX9_dig_43 : decode cX9_dig 43 = .ok (.iconst 1, 1) := by decide +kernel
theorem dX9_dig_44 : decode cX9_dig 44 = .ok (.iaload, 1) := by decide +kernel
theorem dX9_dig_45 : decode cX9_dig 45 = .ok (.aaload, 1) := by decide +kernel
theorem dX9_dig_46 : decode cX9_dig 46 = .ok (.iconst 3, 1) := by decide +kernel
theorem dX9_dig_47 : decode cX9_dig 47 = .ok (.iconst 2, 1) := by decide +kernel
theorem dX9_dig_48 : decode cX9_dig 48 = .ok (.aload_n 2, 1) := by decide +kernel
theorem dX9_dig_49 : decode cX9_dig 49 = .ok (.iconst 3, 1) := by decide +kernel
theorem dX9_dig_50 : decode cX9_dig 50 = .ok (.iaload, 1) := by decide +kernel
theorem dX9_dig_51 : decode cX9_dig 51 = .ok (.isub, 1) := by decide +kernel
theorem dX9_dig_52 : decode cX9_dig 52 = .ok (.iastore, 1) := by decide +kernel
theorem dX9_dig_53 : decode cX9_dig 53 = .ok (.aload_n 0, 1) := by decide +kernel
theorem dX9_dig_54 : decode cX9_dig 54 = .ok (.dup, 1) := by decide +kernel
theorem dX9_dig_55 : decode cX9_dig 55 = .ok (.getfield 51, 3) := by decide +kernel
theorem dX9_dig_58 : decode cX9_dig 58 = .ok (.iconst 1, 1) := by decide +kernel
theorem dX9_dig_59 : decode cX9_dig 59 = .ok (.iadd, 1) := by decide +kernel
theorem dX9_dig_60 : decode cX9_dig 60 = .ok (.putfield 51, 3) := by decide +kernel
theorem dX9_dig_63 : decode cX9_dig 63 = .ok (.aload_n 0, 1) := by decide +kernel
theorem dX9_dig_64 : decode cX9_dig 64 = .ok (.invokevirtual 72, 3) := by decide +kernel
theorem dX9_dig_67 : decode cX9_dig 67 = .ok (.pop, 1) := by decide +kernel
theorem dX9_dig_68 : decode cX9_dig 68 = .ok (.aload_n 2, 1) := by decide +kernel
theorem dX9_dig_69 : decode cX9_dig 69 = .ok (.iconst 1, 1) := by decide +kernel
theorem dX9_dig_70 : decode cX9_dig 70 = .ok (.iaload, 1) := by decide +kernel
theorem dX9_dig_71 : decode cX9_dig 71 = .ok (.ireturn, 1) := by decide +kernel
theorem dX9_pass_0 : decode cX9_pass 0 = .ok (.aload_n 0, 1) := by decide +kernel
theorem dX9_pass_1 : decode cX9_pass 1 = .ok (.iconst 1, 1) := by decide +kernel
theorem dX9_pass_2 : decode cX9_pass 2 = .ok (.invokevirtual 76, 3) := by decide +kernel
theorem dX9_pass_5 : decode cX9_pass 5 = .ok (.istore_n 1, 1) := by decide +kernel
theorem dX9_pass_6 : decode cX9_pass 6 = .ok (.iconst 0, 1) := by decide +kernel
theorem dX9_pass_7 : decode cX9_pass 7 = .ok (.istore_n 2, 1) := by decide +kernel
theorem dX9_pass_8 : decode cX9_pass 8 = .ok (.iload_n 2, 1) := by decide +kernel
theorem dX9_pass_9 : decode cX9_pass 9 = .ok (.aload_n 0, 1) := by decide +kernel
theorem dX9_pass_10 : decode cX9_pass 10 = .ok (.getfield 31, 3) := by decide +kernel
theorem dX9_pass_13 : decode cX9_pass 13 = .ok (.arraylength, 1) := by decide +kernel
theorem dX9_pass_14 : decode cX9_pass 14 = .ok (.if_icmp .ge 192, 3) := by decide +kernel
theorem dX9_pass_17 : decode cX9_pass 17 = .ok (.aload_n 0, 1) := by decide +kernel
theorem dX9_pass_18 : decode cX9_pass 18 = .ok (.getfield 40, 3) := by decide +kernel
theorem dX9_pass_21 : decode cX9_pass 21 = .ok (.iload_n 2, 1) := by decide +kernel
theorem dX9_pass_22 : decode cX9_pass 22 = .ok (.aaload, 1) := by decide +kernel
theorem dX9_pass_23 : decode cX9_pass 23 = .ok (.ifnull 20, 3) := by decide +kernel
theorem dX9_pass_26 : decode cX9_pass 26 = .ok (.aload_n 0, 1) := by decide +kernel
theorem dX9_pass_27 : decode cX9_pass 27 = .ok (.getfield 40, 3) := by decide +kernel
theorem dX9_pass_30 : decode cX9_pass 30 = .ok (.iload_n 2, 1) := by decide +kernel
theorem dX9_pass_31 : decode cX9_pass 31 = .ok (.aaload, 1) := by decide +kernel
theorem dX9_pass_32 : decode cX9_pass 32 = .ok (.aload_n 0, 1) := by decide +kernel
theorem dX9_pass_33 : decode cX9_pass 33 = .ok (.invokevirtual 80, 3) := by decide +kernel
theorem dX9_pass_36 : decode cX9_pass 36 = .ok (.iconst 1, 1) := by decide +kernel
theorem dX9_pass_37 : decode cX9_pass 37 = .ok (.if_icmp .eq 6, 3) := by decide +kernel
theorem dX9_pass_40 : decode cX9_pass 40 = .ok (.goto 160, 3) := by decide +kernel
theorem dX9_pass_43 : decode cX9_pass 43 = .ok (.aload_n 0, 1) := by decide +kernel
theorem dX9_pass_44 : decode cX9_pass 44 = .ok (.aload_n 0, 1) := by decide +kernel
theorem dX9_pass_45 : decode cX9_pass 45 = .ok (.getfield 36, 3) := by decide +kernel
theorem dX9_pass_48 : decode cX9_pass 48 = .ok (.iload_n 2, 1) := by decide +kernel
theorem dX9_pass_49 : decode cX9_pass 49 = .ok (.aaload, 1) := by decide +kernel
theorem dX9_pass_50 : decode cX9_pass 50 = .ok (.aload_n 0, 1) := by decide +kernel
theorem dX9_pass_51 : decode cX9_pass 51 = .ok (.invokevirtual 80, 3) := by decide +kernel
theorem dX9_pass_54 : decode cX9_pass 54 = .ok (.invokevirtual 84, 3) := by decide +kernel
theorem dX9_pass_57 : decode cX9_pass 57 = .ok (.istore_n 3, 1) := by decide +kernel
theorem dX9_pass_58 : decode cX9_pass 58 = .ok (.aload_n 0, 1) := by decide +kernel
theorem dX9_pass_59 : decode cX9_pass 59 = .ok (.getfield 31, 3) := by decide +kernel
theorem dX9_pass_62 : decode cX9_pass 62 = .ok (.iload_n 2, 1) := by decide +kernel
theorem dX9_pass_63 : decode cX9_pass 63 = .ok (.iaload, 1) := by decide +kernel
theorem dX9_pass_64 : decode cX9_pass 64 = .ok (.ifCond .ne 21, 3) := by decide +kernel
theorem dX9_pass_67 : decode cX9_pass 67 = .ok (.aload_n 0, 1) := by decide +kernel
theorem dX9_pass_68 : decode cX9_pass 68 = .ok (.getfield 15, 3) := by decide +kernel
theorem dX9_pass_71 : decode cX9_pass 71 = .ok (.iload_n 3, 1) := by decide +kernel
theorem dX9_pass_72 : decode cX9_pass 72 = .ok (.aaload, 1) := by decide +kernel
theorem dX9_pass_73 : decode cX9_pass 73 = .ok (.arraylength, 1) := by decide +kernel
theorem dX9_pass_74 : decode cX9_pass 74 = .ok (.ifCond .le 7, 3) := by decide +kernel
theorem dX9_pass_77 : decode cX9_pass 77 = .ok (.iconst 1, 1) := by decide +kernel
theorem dX9_pass_78 : decode cX9_pass 78 = .ok (.goto 48, 3) := by decide +kernel
theorem dX9_pass_81 : decode cX9_pass 81 = .ok (.iconst 0, 1) := by decide +kernel
theorem dX9_pass_82 : decode cX9_pass 82 = .ok (.goto 44, 3) := by decide +kernel
theorem dX9_pass_85 : decode cX9_pass 85 = .ok (.aload_n 0, 1) := by decide +kernel
theorem dX9_pass_86 : decode cX9_pass 86 = .ok (.getfield 31, 3) := by decide +kernel
theorem dX9_pass_89 : decode cX9_pass 89 = .ok (.iload_n 2, 1) := by decide +kernel
theorem dX9_pass_90 : decode cX9_pass 90 = .ok (.iaload, 1) := by decide +kernel
theorem dX9_pass_91 : decode cX9_pass 91 = .ok (.iconst 1, 1) := by decide +kernel
theorem dX9_pass_92 : decode cX9_pass 92 = .ok (.if_icmp .ne 28, 3) := by decide +kernel
theorem dX9_pass_95 : decode cX9_pass 95 = .ok (.aload_n 0, 1) := by decide +kernel
theorem dX9_pass_96 : decode cX9_pass 96 = .ok (.getfield 27, 3) := by decide +kernel
theorem dX9_pass_99 : decode cX9_pass 99 = .ok (.iload_n 3, 1) := by decide +kernel
theorem dX9_pass_100 : decode cX9_pass 100 = .ok (.baload, 1) := by decide +kernel
theorem dX9_pass_101 : decode cX9_pass 101 = .ok (.ifCond .ne 15, 3) := by decide +kernel
theorem dX9_pass_104 : decode cX9_pass 104 = .ok (.aload_n 0, 1) := by decide +kernel
theorem dX9_pass_105 : decode cX9_pass 105 = .ok (.invokevirtual 87, 3) := by decide +kernel
theorem dX9_pass_108 : decode cX9_pass 108 = .ok (.iconst 3, 1) := by decide +kernel
theorem dX9_pass_109 : decode cX9_pass 109 = .ok (.if_icmp .ge 7, 3) := by decide +kernel
theorem dX9_pass_112 : decode cX9_pass 112 = .ok (.iconst 1, 1) := by decide +kernel
theorem dX9_pass_113 : decode cX9_pass 113 = .ok (.goto 13, 3) := by decide +kernel
theorem dX9_pass_116 : decode cX9_pass 116 = .ok (.iconst 0, 1) := by decide +kernel
theorem dX9_pass_117 : decode cX9_pass 117 = .ok (.goto 9, 3) := by decide +kernel
theorem dX9_pass_120 : decode cX9_pass 120 = .ok (.aload_n 0, 1) := by decide +kernel
theorem dX9_pass_121 : decode cX9_pass 121 = .ok (.getfield 27, 3) := by decide +kernel
theorem dX9_pass_124 : decode cX9_pass 124 = .ok (.iload_n 3, 1) := by decide +kernel
theorem dX9_pass_125 : decode cX9_pass 125 = .ok (.baload, 1) := by decide +kernel
theorem dX9_pass_126 : decode cX9_pass 126 = .ok (.istore 4, 2) := by decide +kernel
theorem dX9_pass_128 : decode cX9_pass 128 = .ok (.iload 4, 2) := by decide +kernel
theorem dX9_pass_130 : decode cX9_pass 130 = .ok (.ifCond .ne 6, 3) := by decide +kernel
theorem dX9_pass_133 : decode cX9_pass 133 = .ok (.goto 67, 3) := by decide +kernel
theorem dX9_pass_136 : decode cX9_pass 136 = .ok (.aload_n 0, 1) := by decide +kernel
theorem dX9_pass_137 : decode cX9_pass 137 = .ok (.dup, 1) := by decide +kernel
theorem dX9_pass_138 : decode cX9_pass 138 = .ok (.getfield 48, 3) := by decide +kernel
theorem dX9_pass_141 : decode cX9_pass 141 = .ok (.iconst 1, 1) := by decide +kernel
theorem dX9_pass_142 : decode cX9_pass 142 = .ok (.iadd, 1) := by decide +kernel
theorem dX9_pass_143 : decode cX9_pass 143 = .ok (.putfield 48, 3) := by decide +kernel
theorem dX9_pass_146 : decode cX9_pass 146 = .ok (.aload_n 0, 1) := by decide +kernel
theorem dX9_pass_147 : decode cX9_pass 147 = .ok (.getfield 31, 3) := by decide +kernel
theorem dX9_pass_150 : decode cX9_pass 150 = .ok (.iload_n 2, 1) := by decide +kernel
theorem dX9_pass_151 : decode cX9_pass 151 = .ok (.iaload, 1) := by decide +kernel
theorem dX9_pass_152 : decode cX9_pass 152 = .ok (.ifCond .ne 12, 3) := by decide +kernel
theorem dX9_pass_155 : decode cX9_pass 155 = .ok (.aload_n 0, 1) := by decide +kernel
theorem dX9_pass_156 : decode cX9_pass 156 = .ok (.iload_n 3, 1) := by decide +kernel
theorem dX9_pass_157 : decode cX9_pass 157 = .ok (.invokevirtual 90, 3) := by decide +kernel
theorem dX9_pass_160 : decode cX9_pass 160 = .ok (.pop, 1) := by decide +kernel
theorem dX9_pass_161 : decode cX9_pass 161 = .ok (.goto 24, 3) := by decide +kernel
theorem dX9_pass_164 : decode cX9_pass 164 = .ok (.aload_n 0, 1) := by decide +kernel
theorem dX9_pass_165 : decode cX9_pass 165 = .ok (.getfield 27, 3) := by decide +kernel
theorem dX9_pass_168 : decode cX9_pass 168 = .ok (.iload_n 3, 1) := by decide +kernel
theorem dX9_pass_169 : decode cX9_pass 169 = .ok (.aload_n 0, 1) := by decide +kernel
theorem dX9_pass_170 : decode cX9_pass 170 = .ok (.getfield 31, 3) := by decide +kernel
theorem dX9_pass_173 : decode cX9_pass 173 = .ok (.iload_n 2, 1) := by decide +kernel
theorem dX9_pass_174 : decode cX9_pass 174 = .ok (.iaload, 1) := by decide +kernel
theorem dX9_pass_175 : decode cX9_pass 175 = .ok (.iconst 1, 1) := by decide +kernel
theorem dX9_pass_176 : decode cX9_pass 176 = .ok (.if_icmp .ne 7, 3) := by decide +kernel
theorem dX9_pass_179 : decode cX9_pass 179 = .ok (.iconst 1, 1) := by decide +kernel
theorem dX9_pass_180 : decode cX9_pass 180 = .ok (.goto 4, 3) := by decide +kernel
theorem dX9_pass_183 : decode cX9_pass 183 = .ok (.iconst 0, 1) := by decide +kernel
theorem dX9_pass_184 : decode cX9_pass 184 = .ok (.bastore, 1) := by decide +kernel
theorem dX9_pass_185 : decode cX9_pass 185 = .ok (.aload_n 0, 1) := by decide +kernel
theorem dX9_pass_186 : decode cX9_pass 186 = .ok (.getfield 31, 3) := by decide +kernel
theorem dX9_pass_189 : decode cX9_pass 189 = .ok (.iload_n 2, 1) := by decide +kernel
theorem dX9_pass_190 : decode cX9_pass 190 = .ok (.iaload, 1) := by decide +kernel
theorem dX9_pass_191 : decode cX9_pass 191 = .ok (.iconst 2, 1) := by decide +kernel
theorem dX9_pass_192 : decode cX9_pass 192 = .ok (.if_icmp .ne 8, 3) := by decide +kernel
theorem dX9_pass_195 : decode cX9_pass 195 = .ok (.aload_n 0, 1) := by decide +kernel
theorem dX9_pass_196 : decode cX9_pass 196 = .ok (.invokevirtual 72, 3) := by decide +kernel
theorem dX9_pass_199 : decode cX9_pass 199 = .ok (.pop, 1) := by decide +kernel
theorem dX9_pass_200 : decode cX9_pass 200 = .ok (.iinc 2 1, 3) := by decide +kernel
theorem dX9_pass_203 : decode cX9_pass 203 = .ok (.goto (-195), 3) := by decide +kernel
theorem dX9_pass_206 : decode cX9_pass 206 = .ok (.aload_n 0, 1) := by decide +kernel
theorem dX9_pass_207 : decode cX9_pass 207 = .ok (.dup, 1) := by decide +kernel
theorem dX9_pass_208 : decode cX9_pass 208 = .ok (.getfield 45, 3) := by decide +kernel
theorem dX9_pass_211 : decode cX9_pass 211 = .ok (.iconst 1, 1) := by decide +kernel
theorem dX9_pass_212 : decode cX9_pass 212 = .ok (.iadd, 1) := by decide +kernel
theorem dX9_pass_213 : decode cX9_pass 213 = .ok (.putfield 45, 3) := by decide +kernel
theorem dX9_pass_216 : decode cX9_pass 216 = .ok (.aload_n 0, 1) := by decide +kernel
theorem dX9_pass_217 : decode cX9_pass 217 = .ok (.iconst 1, 1) := by decide +kernel
theorem dX9_pass_218 : decode cX9_pass 218 = .ok (.invokevirtual 76, 3) := by decide +kernel
theorem dX9_pass_221 : decode cX9_pass 221 = .ok (.iload_n 1, 1) := by decide +kernel
theorem dX9_pass_222 : decode cX9_pass 222 = .ok (.isub, 1) := by decide +kernel
theorem dX9_pass_223 : decode cX9_pass 223 = .ok (.ireturn, 1) := by decide +kernel
theorem dX9_left_0 : decode cX9_left 0 = .ok (.iconst 0, 1) := by decide +kernel
theorem dX9_left_1 : decode cX9_left 1 = .ok (.istore_n 2, 1) := by decide +kernel
theorem dX9_left_2 : decode cX9_left 2 = .ok (.aload_n 0, 1) := by decide +kernel
theorem dX9_left_3 : decode cX9_left 3 = .ok (.getfield 15, 3) := by decide +kernel
theorem dX9_left_6 : decode cX9_left 6 = .ok (.iload_n 1, 1) := by decide +kernel
theorem dX9_left_7 : decode cX9_left 7 = .ok (.aaload, 1) := by decide +kernel
theorem dX9_left_8 : decode cX9_left 8 = .ok (.astore_n 3, 1) := by decide +kernel
theorem dX9_left_9 : decode cX9_left 9 = .ok (.aload_n 3, 1) := by decide +kernel
theorem dX9_left_10 : decode cX9_left 10 = .ok (.arraylength, 1) := by decide +kernel
theorem dX9_left_11 : decode cX9_left 11 = .ok (.istore 4, 2) := by decide +kernel
theorem dX9_left_13 : decode cX9_left 13 = .ok (.iconst 0, 1) := by decide +kernel
theorem dX9_left_14 : decode cX9_left 14 = .ok (.istore 5, 2) := by decide +kernel
theorem dX9_left_16 : decode cX9_left 16 = .ok (.iload 5, 2) := by decide +kernel
theorem dX9_left_18 : decode cX9_left 18 = .ok (.iload 4, 2) := by decide +kernel
theorem dX9_left_20 : decode cX9_left 20 = .ok (.if_icmp .ge 30, 3) := by decide +kernel
theorem dX9_left_23 : decode cX9_left 23 = .ok (.aload_n 3, 1) := by decide +kernel
theorem dX9_left_24 : decode cX9_left 24 = .ok (.iload 5, 2) := by decide +kernel
theorem dX9_left_26 : decode cX9_left 26 = .ok (.aaload, 1) := by decide +kernel
theorem dX9_left_27 : decode cX9_left 27 = .ok (.astore 6, 2) := by decide +kernel
theorem dX9_left_29 : decode cX9_left 29 = .ok (.iload_n 2, 1) := by decide +kernel
theorem dX9_left_30 : decode cX9_left 30 = .ok (.aload 6, 2) := by decide +kernel
theorem dX9_left_32 : decode cX9_left 32 = .ok (.iconst 1, 1) := by decide +kernel
theorem dX9_left_33 : decode cX9_left 33 = .ok (.iaload, 1) := by decide +kernel
theorem dX9_left_34 : decode cX9_left 34 = .ok (.ifCond .lt 7, 3) := by decide +kernel
theorem dX9_left_37 : decode cX9_left 37 = .ok (.iconst 1, 1) := by decide +kernel
theorem dX9_left_38 : decode cX9_left 38 = .ok (.goto 4, 3) := by decide +kernel
theorem dX9_left_41 : decode cX9_left 41 = .ok (.iconst 0, 1) := by decide +kernel
theorem dX9_left_42 : decode cX9_left 42 = .ok (.iadd, 1) := by decide +kernel
theorem dX9_left_43 : decode cX9_left 43 = .ok (.istore_n 2, 1) := by decide +kernel
theorem dX9_left_44 : decode cX9_left 44 = .ok (.iinc 5 1, 3) := by decide +kernel
theorem dX9_left_47 : decode cX9_left 47 = .ok (.goto (-31), 3) := by decide +kernel
theorem dX9_left_50 : decode cX9_left 50 = .ok (.iload_n 2, 1) := by decide +kernel
theorem dX9_left_51 : decode cX9_left 51 = .ok (.ireturn, 1) := by decide +kernel
theorem dX9_isSame_0 : decode cX9_isSame 0 = .ok (.aload_n 1, 1) := by decide +kernel
theorem dX9_isSame_1 : decode cX9_isSame 1 = .ok (.invokevirtual 93, 3) := by decide +kernel
theorem dX9_isSame_4 : decode cX9_isSame 4 = .ok (.aload_n 0, 1) := by decide +kernel
theorem dX9_isSame_5 : decode cX9_isSame 5 = .ok (.getfield 15, 3) := by decide +kernel
theorem dX9_isSame_8 : decode cX9_isSame 8 = .ok (.arraylength, 1) := by decide +kernel
theorem dX9_isSame_9 : decode cX9_isSame 9 = .ok (.if_icmp .ne 105, 3) := by decide +kernel
theorem dX9_isSame_12 : decode cX9_isSame 12 = .ok (.aload_n 1, 1) := by decide +kernel
theorem dX9_isSame_13 : decode cX9_isSame 13 = .ok (.invokevirtual 98, 3) := by decide +kernel
theorem dX9_isSame_16 : decode cX9_isSame 16 = .ok (.aload_n 0, 1) := by decide +kernel
theorem dX9_isSame_17 : decode cX9_isSame 17 = .ok (.getfield 7, 3) := by decide +kernel
theorem dX9_isSame_20 : decode cX9_isSame 20 = .ok (.if_icmp .ne 94, 3) := by decide +kernel
theorem dX9_isSame_23 : decode cX9_isSame 23 = .ok (.aload_n 1, 1) := by decide +kernel
theorem dX9_isSame_24 : decode cX9_isSame 24 = .ok (.invokevirtual 100, 3) := by decide +kernel
theorem dX9_isSame_27 : decode cX9_isSame 27 = .ok (.aload_n 0, 1) := by decide +kernel
theorem dX9_isSame_28 : decode cX9_isSame 28 = .ok (.getfield 21, 3) := by decide +kernel
theorem dX9_isSame_31 : decode cX9_isSame 31 = .ok (.arraylength, 1) := by decide +kernel
theorem dX9_isSame_32 : decode cX9_isSame 32 = .ok (.if_icmp .ne 82, 3) := by decide +kernel
theorem dX9_isSame_35 : decode cX9_isSame 35 = .ok (.aload_n 1, 1) := by decide +kernel
theorem dX9_isSame_36 : decode cX9_isSame 36 = .ok (.invokevirtual 102, 3) := by decide +kernel
theorem dX9_isSame_39 : decode cX9_isSame 39 = .ok (.aload_n 0, 1) := by decide +kernel
theorem dX9_isSame_40 : decode cX9_isSame 40 = .ok (.getfield 45, 3) := by decide +kernel
theorem dX9_isSame_43 : decode cX9_isSame 43 = .ok (.if_icmp .ne 71, 3) := by decide +kernel
theorem dX9_isSame_46 : decode cX9_isSame 46 = .ok (.aload_n 1, 1) := by decide +kernel
theorem dX9_isSame_47 : decode cX9_isSame 47 = .ok (.invokevirtual 104, 3) := by decide +kernel
theorem dX9_isSame_50 : decode cX9_isSame 50 = .ok (.aload_n 0, 1) := by decide +kernel
theorem dX9_isSame_51 : decode cX9_isSame 51 = .ok (.getfield 48, 3) := by decide +kernel
theorem dX9_isSame_54 : decode cX9_isSame 54 = .ok (.if_icmp .ne 60, 3) := by decide +kernel
theorem dX9_isSame_57 : decode cX9_isSame 57 = .ok (.aload_n 1, 1) := by decide +kernel
theorem dX9_isSame_58 : decode cX9_isSame 58 = .ok (.invokevirtual 107, 3) := by decide +kernel
theorem dX9_isSame_61 : decode cX9_isSame 61 = .ok (.aload_n 0, 1) := by decide +kernel
theorem dX9_isSame_62 : decode cX9_isSame 62 = .ok (.getfield 51, 3) := by decide +kernel
theorem dX9_isSame_65 : decode cX9_isSame 65 = .ok (.if_icmp .ne 49, 3) := by decide +kernel
theorem dX9_isSame_68 : decode cX9_isSame 68 = .ok (.aload_n 1, 1) := by decide +kernel
theorem dX9_isSame_69 : decode cX9_isSame 69 = .ok (.invokevirtual 110, 3) := by decide +kernel
theorem dX9_isSame_72 : decode cX9_isSame 72 = .ok (.aload_n 0, 1) := by decide +kernel
theorem dX9_isSame_73 : decode cX9_isSame 73 = .ok (.getfield 54, 3) := by decide +kernel
theorem dX9_isSame_76 : decode cX9_isSame 76 = .ok (.if_icmp .ne 38, 3) := by decide +kernel
theorem dX9_isSame_79 : decode cX9_isSame 79 = .ok (.aload_n 1, 1) := by decide +kernel
theorem dX9_isSame_80 : decode cX9_isSame 80 = .ok (.invokevirtual 112, 3) := by decide +kernel
theorem dX9_isSame_83 : decode cX9_isSame 83 = .ok (.aload_n 0, 1) := by decide +kernel
theorem dX9_isSame_84 : decode cX9_isSame 84 = .ok (.iconst 1, 1) := by decide +kernel
theorem dX9_isSame_85 : decode cX9_isSame 85 = .ok (.invokevirtual 76, 3) := by decide +kernel
theorem dX9_isSame_88 : decode cX9_isSame 88 = .ok (.if_icmp .ne 26, 3) := by decide +kernel
theorem dX9_isSame_91 : decode cX9_isSame 91 = .ok (.aload_n 1, 1) := by decide +kernel
theorem dX9_isSame_92 : decode cX9_isSame 92 = .ok (.invokevirtual 114, 3) := by decide +kernel
theorem dX9_isSame_95 : decode cX9_isSame 95 = .ok (.aload_n 0, 1) := by decide +kernel
theorem dX9_isSame_96 : decode cX9_isSame 96 = .ok (.iconst 2, 1) := by decide +kernel
theorem dX9_isSame_97 : decode cX9_isSame 97 = .ok (.invokevirtual 76, 3) := by decide +kernel
theorem dX9_isSame_100 : decode cX9_isSame 100 = .ok (.if_icmp .ne 14, 3) := by decide +kernel
theorem dX9_isSame_103 : decode cX9_isSame 103 = .ok (.aload_n 1, 1) := by decide +kernel
theorem dX9_isSame_104 : decode cX9_isSame 104 = .ok (.invokevirtual 117, 3) := by decide +kernel
theorem dX9_isSame_107 : decode cX9_isSame 107 = .ok (.aload_n 0, 1) := by decide +kernel
theorem dX9_isSame_108 : decode cX9_isSame 108 = .ok (.invokevirtual 87, 3) := by decide +kernel
theorem dX9_isSame_111 : decode cX9_isSame 111 = .ok (.if_icmp .eq 5, 3) := by decide +kernel
theorem dX9_isSame_114 : decode cX9_isSame 114 = .ok (.iconst 0, 1) := by decide +kernel
theorem dX9_isSame_115 : decode cX9_isSame 115 = .ok (.ireturn, 1) := by decide +kernel
theorem dX9_isSame_116 : decode cX9_isSame 116 = .ok (.iconst 0, 1) := by decide +kernel
theorem dX9_isSame_117 : decode cX9_isSame 117 = .ok (.istore_n 2, 1) := by decide +kernel
theorem dX9_isSame_118 : decode cX9_isSame 118 = .ok (.iload_n 2, 1) := by decide +kernel
theorem dX9_isSame_119 : decode cX9_isSame 119 = .ok (.aload_n 0, 1) := by decide +kernel
theorem dX9_isSame_120 : decode cX9_isSame 120 = .ok (.getfield 15, 3) := by decide +kernel
theorem dX9_isSame_123 : decode cX9_isSame 123 = .ok (.arraylength, 1) := by decide +kernel
theorem dX9_isSame_124 : decode cX9_isSame 124 = .ok (.if_icmp .ge 179, 3) := by decide +kernel
theorem dX9_isSame_127 : decode cX9_isSame 127 = .ok (.aload_n 0, 1) := by decide +kernel
theorem dX9_isSame_128 : decode cX9_isSame 128 = .ok (.getfield 15, 3) := by decide +kernel
theorem dX9_isSame_131 : decode cX9_isSame 131 = .ok (.iload_n 2, 1) := by decide +kernel
theorem dX9_isSame_132 : decode cX9_isSame 132 = .ok (.aaload, 1) := by decide +kernel
theorem dX9_isSame_133 : decode cX9_isSame 133 = .ok (.astore_n 3, 1) := by decide +kernel
theorem dX9_isSame_134 : decode cX9_isSame 134 = .ok (.aload_n 3, 1) := by decide +kernel
theorem dX9_isSame_135 : decode cX9_isSame 135 = .ok (.arraylength, 1) := by decide +kernel
theorem dX9_isSame_136 : decode cX9_isSame 136 = .ok (.istore 4, 2) := by decide +kernel
theorem dX9_isSame_138 : decode cX9_isSame 138 = .ok (.aload_n 1, 1) := by decide +kernel
theorem dX9_isSame_139 : decode cX9_isSame 139 = .ok (.iload_n 2, 1) := by decide +kernel
theorem dX9_isSame_140 : decode cX9_isSame 140 = .ok (.invokevirtual 118, 3) := by decide +kernel
theorem dX9_isSame_143 : decode cX9_isSame 143 = .ok (.iload 4, 2) := by decide +kernel
theorem dX9_isSame_145 : decode cX9_isSame 145 = .ok (.if_icmp .ne 30, 3) := by decide +kernel
theorem dX9_isSame_148 : decode cX9_isSame 148 = .ok (.aload_n 1, 1) := by decide +kernel
theorem dX9_isSame_149 : decode cX9_isSame 149 = .ok (.iload_n 2, 1) := by decide +kernel
theorem dX9_isSame_150 : decode cX9_isSame 150 = .ok (.invokevirtual 121, 3) := by decide +kernel
theorem dX9_isSame_153 : decode cX9_isSame 153 = .ok (.aload_n 0, 1) := by decide +kernel
theorem dX9_isSame_154 : decode cX9_isSame 154 = .ok (.getfield 27, 3) := by decide +kernel
theorem dX9_isSame_157 : decode cX9_isSame 157 = .ok (.iload_n 2, 1) := by decide +kernel
theorem dX9_isSame_158 : decode cX9_isSame 158 = .ok (.baload, 1) := by decide +kernel
theorem dX9_isSame_159 : decode cX9_isSame 159 = .ok (.if_icmp .ne 16, 3) := by decide +kernel
theorem dX9_isSame_162 : decode cX9_isSame 162 = .ok (.aload_n 1, 1) := by decide +kernel
theorem dX9_isSame_163 : decode cX9_isSame 163 = .ok (.iload_n 2, 1) := by decide +kernel
theorem dX9_isSame_164 : decode cX9_isSame 164 = .ok (.invokevirtual 124, 3) := by decide +kernel
theorem dX9_isSame_167 : decode cX9_isSame 167 = .ok (.aload_n 0, 1) := by decide +kernel
theorem dX9_isSame_168 : decode cX9_isSame 168 = .ok (.iload_n 2, 1) := by decide +kernel
theorem dX9_isSame_169 : decode cX9_isSame 169 = .ok (.invokevirtual 127, 3) := by decide +kernel
theorem dX9_isSame_172 : decode cX9_isSame 172 = .ok (.if_icmp .eq 5, 3) := by decide +kernel
theorem dX9_isSame_175 : decode cX9_isSame 175 = .ok (.iconst 0, 1) := by decide +kernel
theorem dX9_isSame_176 : decode cX9_isSame 176 = .ok (.ireturn, 1) := by decide +kernel
theorem dX9_isSame_177 : decode cX9_isSame 177 = .ok (.iload 4, 2) := by decide +kernel
theorem dX9_isSame_179 : decode cX9_isSame 179 = .ok (.ifCond .le 71, 3) := by decide +kernel
theorem dX9_isSame_182 : decode cX9_isSame 182 = .ok (.aload_n 1, 1) := by decide +kernel
theorem dX9_isSame_183 : decode cX9_isSame 183 = .ok (.iload_n 2, 1) := by decide +kernel
theorem dX9_isSame_184 : decode cX9_isSame 184 = .ok (.invokevirtual 130, 3) := by decide +kernel
theorem dX9_isSame_187 : decode cX9_isSame 187 = .ok (.aload_n 3, 1) := by decide +kernel
theorem dX9_isSame_188 : decode cX9_isSame 188 = .ok (.iload 4, 2) := by decide +kernel
theorem dX9_isSame_190 : decode cX9_isSame 190 = .ok (.iconst 1, 1) := by decide +kernel
theorem dX9_isSame_191 : decode cX9_isSame 191 = .ok (.isub, 1) := by decide +kernel
theorem dX9_isSame_192 : decode cX9_isSame 192 = .ok (.aaload, 1) := by decide +kernel
theorem dX9_isSame_193 : decode cX9_isSame 193 = .ok (.iconst 0, 1) := by decide +kernel
theorem dX9_isSame_194 : decode cX9_isSame 194 = .ok (.iaload, 1) := by decide +kernel
theorem dX9_isSame_195 : decode cX9_isSame 195 = .ok (.if_icmp .ne 53, 3) := by decide +kernel
theorem dX9_isSame_198 : decode cX9_isSame 198 = .ok (.aload_n 1, 1) := by decide +kernel
theorem dX9_isSame_199 : decode cX9_isSame 199 = .ok (.iload_n 2, 1) := by decide +kernel
theorem dX9_isSame_200 : decode cX9_isSame 200 = .ok (.invokevirtual 133, 3) := by decide +kernel
theorem dX9_isSame_203 : decode cX9_isSame 203 = .ok (.aload_n 3, 1) := by decide +kernel
theorem dX9_isSame_204 : decode cX9_isSame 204 = .ok (.iload 4, 2) := by decide +kernel
theorem dX9_isSame_206 : decode cX9_isSame 206 = .ok (.iconst 1, 1) := by decide +kernel
theorem dX9_isSame_207 : decode cX9_isSame 207 = .ok (.isub, 1) := by decide +kernel
theorem dX9_isSame_208 : decode cX9_isSame 208 = .ok (.aaload, 1) := by decide +kernel
theorem dX9_isSame_209 : decode cX9_isSame 209 = .ok (.iconst 3, 1) := by decide +kernel
theorem dX9_isSame_210 : decode cX9_isSame 210 = .ok (.iaload, 1) := by decide +kernel
theorem dX9_isSame_211 : decode cX9_isSame 211 = .ok (.iconst 1, 1) := by decide +kernel
theorem dX9_isSame_212 : decode cX9_isSame 212 = .ok (.if_icmp .ne 7, 3) := by decide +kernel
theorem dX9_isSame_215 : decode cX9_isSame 215 = .ok (.iconst 1, 1) := by decide +kernel
theorem dX9_isSame_216 : decode cX9_isSame 216 = .ok (.goto 4, 3) := by decide +kernel
theorem dX9_isSame_219 : decode cX9_isSame 219 = .ok (.iconst 0, 1) := by decide +kernel
theorem dX9_isSame_220 : decode cX9_isSame 220 = .ok (.if_icmp .ne 28, 3) := by decide +kernel
theorem dX9_isSame_223 : decode cX9_isSame 223 = .ok (.aload_n 1, 1) := by decide +kernel
theorem dX9_isSame_224 : decode cX9_isSame 224 = .ok (.iload_n 2, 1) := by decide +kernel
theorem dX9_isSame_225 : decode cX9_isSame 225 = .ok (.invokevirtual 136, 3) := by decide +kernel
theorem dX9_isSame_228 : decode cX9_isSame 228 = .ok (.aload_n 3, 1) := by decide +kernel
theorem dX9_isSame_229 : decode cX9_isSame 229 = .ok (.iload 4, 2) := by decide +kernel
theorem dX9_isSame_231 : decode cX9_isSame 231 = .ok (.iconst 1, 1) := by decide +kernel
theorem dX9_isSame_232 : decode cX9_isSame 232 = .ok (.isub, 1) := by decide +kernel
theorem dX9_isSame_233 : decode cX9_isSame 233 = .ok (.aaload, 1) := by decide +kernel
theorem dX9_isSame_234 : decode cX9_isSame 234 = .ok (.iconst 2, 1) := by decide +kernel
theorem dX9_isSame_235 : decode cX9_isSame 235 = .ok (.iaload, 1) := by decide +kernel
theorem dX9_isSame_236 : decode cX9_isSame 236 = .ok (.iconst 1, 1) := by decide +kernel
theorem dX9_isSame_237 : decode cX9_isSame 237 = .ok (.if_icmp .ne 7, 3) := by decide +kernel
theorem dX9_isSame_240 : decode cX9_isSame 240 = .ok (.iconst 1, 1) := by decide +kernel
theorem dX9_isSame_241 : decode cX9_isSame 241 = .ok (.goto 4, 3) := by decide +kernel
theorem dX9_isSame_244 : decode cX9_isSame 244 = .ok (.iconst 0, 1) := by decide +kernel
theorem dX9_isSame_245 : decode cX9_isSame 245 = .ok (.if_icmp .eq 5, 3) := by decide +kernel
theorem dX9_isSame_248 : decode cX9_isSame 248 = .ok (.iconst 0, 1) := by decide +kernel
theorem dX9_isSame_249 : decode cX9_isSame 249 = .ok (.ireturn, 1) := by decide +kernel
theorem dX9_isSame_250 : decode cX9_isSame 250 = .ok (.iconst 0, 1) := by decide +kernel
theorem dX9_isSame_251 : decode cX9_isSame 251 = .ok (.istore 5, 2) := by decide +kernel
theorem dX9_isSame_253 : decode cX9_isSame 253 = .ok (.iload 5, 2) := by decide +kernel
theorem dX9_isSame_255 : decode cX9_isSame 255 = .ok (.iload 4, 2) := by decide +kernel
theorem dX9_isSame_257 : decode cX9_isSame 257 = .ok (.if_icmp .ge 40, 3) := by decide +kernel
theorem dX9_isSame_260 : decode cX9_isSame 260 = .ok (.aload_n 3, 1) := by decide +kernel
theorem dX9_isSame_261 : decode cX9_isSame 261 = .ok (.iload 5, 2) := by decide +kernel
theorem dX9_isSame_263 : decode cX9_isSame 263 = .ok (.aaload, 1) := by decide +kernel
theorem dX9_isSame_264 : decode cX9_isSame 264 = .ok (.iconst 1, 1) := by decide +kernel
theorem dX9_isSame_265 : decode cX9_isSame 265 = .ok (.iaload, 1) := by decide +kernel
theorem dX9_isSame_266 : decode cX9_isSame 266 = .ok (.ifCond .lt 25, 3) := by decide +kernel
theorem dX9_isSame_269 : decode cX9_isSame 269 = .ok (.aload_n 1, 1) := by decide +kernel
theorem dX9_isSame_270 : decode cX9_isSame 270 = .ok (.aload_n 3, 1) := by decide +kernel
theorem dX9_isSame_271 : decode cX9_isSame 271 = .ok (.iload 5, 2) := by decide +kernel
theorem dX9_isSame_273 : decode cX9_isSame 273 = .ok (.aaload, 1) := by decide +kernel
theorem dX9_isSame_274 : decode cX9_isSame 274 = .ok (.iconst 1, 1) := by decide +kernel
theorem dX9_isSame_275 : decode cX9_isSame 275 = .ok (.iaload, 1) := by decide +kernel
theorem dX9_isSame_276 : decode cX9_isSame 276 = .ok (.invokevirtual 139, 3) := by decide +kernel
theorem dX9_isSame_279 : decode cX9_isSame 279 = .ok (.iload 4, 2) := by decide +kernel
theorem dX9_isSame_281 : decode cX9_isSame 281 = .ok (.iconst 1, 1) := by decide +kernel
theorem dX9_isSame_282 : decode cX9_isSame 282 = .ok (.isub, 1) := by decide +kernel
theorem dX9_isSame_283 : decode cX9_isSame 283 = .ok (.iload 5, 2) := by decide +kernel
theorem dX9_isSame_285 : decode cX9_isSame 285 = .ok (.isub, 1) := by decide +kernel
theorem dX9_isSame_286 : decode cX9_isSame 286 = .ok (.if_icmp .eq 5, 3) := by decide +kernel
theorem dX9_isSame_289 : decode cX9_isSame 289 = .ok (.iconst 0, 1) := by decide +kernel
theorem dX9_isSame_290 : decode cX9_isSame 290 = .ok (.ireturn, 1) := by decide +kernel
theorem dX9_isSame_291 : decode cX9_isSame 291 = .ok (.iinc 5 1, 3) := by decide +kernel
theorem dX9_isSame_294 : decode cX9_isSame 294 = .ok (.goto (-41), 3) := by decide +kernel
theorem dX9_isSame_297 : decode cX9_isSame 297 = .ok (.iinc 2 1, 3) := by decide +kernel
theorem dX9_isSame_300 : decode cX9_isSame 300 = .ok (.goto (-182), 3) := by decide +kernel
theorem dX9_isSame_303 : decode cX9_isSame 303 = .ok (.iconst 0, 1) := by decide +kernel
theorem dX9_isSame_304 : decode cX9_isSame 304 = .ok (.istore_n 2, 1) := by decide +kernel
theorem dX9_isSame_305 : decode cX9_isSame 305 = .ok (.iconst 0, 1) := by decide +kernel
theorem dX9_isSame_306 : decode cX9_isSame 306 = .ok (.istore_n 3, 1) := by decide +kernel
theorem dX9_isSame_307 : decode cX9_isSame 307 = .ok (.iconst 0, 1) := by decide +kernel
theorem dX9_isSame_308 : decode cX9_isSame 308 = .ok (.istore 4, 2) := by decide +kernel
theorem dX9_isSame_310 : decode cX9_isSame 310 = .ok (.iload 4, 2) := by decide +kernel
theorem dX9_isSame_312 : decode cX9_isSame 312 = .ok (.aload_n 0, 1) := by decide +kernel
theorem dX9_isSame_313 : decode cX9_isSame 313 = .ok (.getfield 21, 3) := by decide +kernel
theorem dX9_isSame_316 : decode cX9_isSame 316 = .ok (.arraylength, 1) := by decide +kernel
theorem dX9_isSame_317 : decode cX9_isSame 317 = .ok (.if_icmp .ge 163, 3) := by decide +kernel
theorem dX9_isSame_320 : decode cX9_isSame 320 = .ok (.aload_n 0, 1) := by decide +kernel
theorem dX9_isSame_321 : decode cX9_isSame 321 = .ok (.getfield 21, 3) := by decide +kernel
theorem dX9_isSame_324 : decode cX9_isSame 324 = .ok (.iload 4, 2) := by decide +kernel
theorem dX9_isSame_326 : decode cX9_isSame 326 = .ok (.aaload, 1) := by decide +kernel
theorem dX9_isSame_327 : decode cX9_isSame 327 = .ok (.astore 5, 2) := by decide +kernel
theorem dX9_isSame_329 : decode cX9_isSame 329 = .ok (.aload_n 1, 1) := by decide +kernel
theorem dX9_isSame_330 : decode cX9_isSame 330 = .ok (.iload 4, 2) := by decide +kernel
theorem dX9_isSame_332 : decode cX9_isSame 332 = .ok (.invokevirtual 142, 3) := by decide +kernel
theorem dX9_isSame_335 : decode cX9_isSame 335 = .ok (.aload 5, 2) := by decide +kernel
theorem dX9_isSame_337 : decode cX9_isSame 337 = .ok (.iconst 0, 1) := by decide +kernel
theorem dX9_isSame_338 : decode cX9_isSame 338 = .ok (.iaload, 1) := by decide +kernel
theorem dX9_isSame_339 : decode cX9_isSame 339 = .ok (.iconst 1, 1) := by decide +kernel
theorem dX9_isSame_340 : decode cX9_isSame 340 = .ok (.if_icmp .ne 7, 3) := by decide +kernel
theorem dX9_isSame_343 : decode cX9_isSame 343 = .ok (.iconst 1, 1) := by decide +kernel
theorem dX9_isSame_344 : decode cX9_isSame 344 = .ok (.goto 4, 3) := by decide +kernel
theorem dX9_isSame_347 : decode cX9_isSame 347 = .ok (.iconst 0, 1) := by decide +kernel
theorem dX9_isSame_348 : decode cX9_isSame 348 = .ok (.if_icmp .ne 96, 3) := by decide +kernel
theorem dX9_isSame_351 : decode cX9_isSame 351 = .ok (.aload_n 1, 1) := by decide +kernel
theorem dX9_isSame_352 : decode cX9_isSame 352 = .ok (.iload 4, 2) := by decide +kernel
theorem dX9_isSame_354 : decode cX9_isSame 354 = .ok (.invokevirtual 145, 3) := by decide +kernel
theorem dX9_isSame_357 : decode cX9_isSame 357 = .ok (.aload 5, 2) := by decide +kernel
theorem dX9_isSame_359 : decode cX9_isSame 359 = .ok (.iconst 3, 1) := by decide +kernel
theorem dX9_isSame_360 : decode cX9_isSame 360 = .ok (.iaload, 1) := by decide +kernel
theorem dX9_isSame_361 : decode cX9_isSame 361 = .ok (.ifCond .le 7, 3) := by decide +kernel
theorem dX9_isSame_364 : decode cX9_isSame 364 = .ok (.iconst 1, 1) := by decide +kernel
theorem dX9_isSame_365 : decode cX9_isSame 365 = .ok (.goto 4, 3) := by decide +kernel
theorem dX9_isSame_368 : decode cX9_isSame 368 = .ok (.iconst 0, 1) := by decide +kernel
theorem dX9_isSame_369 : decode cX9_isSame 369 = .ok (.if_icmp .ne 75, 3) := by decide +kernel
theorem dX9_isSame_372 : decode cX9_isSame 372 = .ok (.aload 5, 2) := by decide +kernel
theorem dX9_isSame_374 : decode cX9_isSame 374 = .ok (.iconst 3, 1) := by decide +kernel
theorem dX9_isSame_375 : decode cX9_isSame 375 = .ok (.iaload, 1) := by decide +kernel
theorem dX9_isSame_376 : decode cX9_isSame 376 = .ok (.ifCond .le 25, 3) := by decide +kernel
theorem dX9_isSame_379 : decode cX9_isSame 379 = .ok (.aload_n 1, 1) := by decide +kernel
theorem dX9_isSame_380 : decode cX9_isSame 380 = .ok (.iload 4, 2) := by decide +kernel
theorem dX9_isSame_382 : decode cX9_isSame 382 = .ok (.invokevirtual 148, 3) := by decide +kernel
theorem dX9_isSame_385 : decode cX9_isSame 385 = .ok (.aload 5, 2) := by decide +kernel
theorem dX9_isSame_387 : decode cX9_isSame 387 = .ok (.iconst 3, 1) := by decide +kernel
theorem dX9_isSame_388 : decode cX9_isSame 388 = .ok (.iaload, 1) := by decide +kernel
theorem dX9_isSame_389 : decode cX9_isSame 389 = .ok (.iconst 2, 1) := by decide +kernel
theorem dX9_isSame_390 : decode cX9_isSame 390 = .ok (.if_icmp .ne 7, 3) := by decide +kernel
theorem dX9_isSame_393 : decode cX9_isSame 393 = .ok (.iconst 1, 1) := by decide +kernel
theorem dX9_isSame_394 : decode cX9_isSame 394 = .ok (.goto 4, 3) := by decide +kernel
theorem dX9_isSame_397 : decode cX9_isSame 397 = .ok (.iconst 0, 1) := by decide +kernel
theorem dX9_isSame_398 : decode cX9_isSame 398 = .ok (.if_icmp .ne 46, 3) := by decide +kernel
theorem dX9_isSame_401 : decode cX9_isSame 401 = .ok (.aload_n 1, 1) := by decide +kernel
theorem dX9_isSame_402 : decode cX9_isSame 402 = .ok (.iload 4, 2) := by decide +kernel
theorem dX9_isSame_404 : decode cX9_isSame 404 = .ok (.invokevirtual 151, 3) := by decide +kernel
theorem dX9_isSame_407 : decode cX9_isSame 407 = .ok (.aload 5, 2) := by decide +kernel
theorem dX9_isSame_409 : decode cX9_isSame 409 = .ok (.iconst 1, 1) := by decide +kernel
theorem dX9_isSame_410 : decode cX9_isSame 410 = .ok (.iaload, 1) := by decide +kernel
theorem dX9_isSame_411 : decode cX9_isSame 411 = .ok (.if_icmp .ne 33, 3) := by decide +kernel
theorem dX9_isSame_414 : decode cX9_isSame 414 = .ok (.aload 5, 2) := by decide +kernel
theorem dX9_isSame_416 : decode cX9_isSame 416 = .ok (.iconst 0, 1) := by decide +kernel
theorem dX9_isSame_417 : decode cX9_isSame 417 = .ok (.iaload, 1) := by decide +kernel
theorem dX9_isSame_418 : decode cX9_isSame 418 = .ok (.iconst 1, 1) := by decide +kernel
theorem dX9_isSame_419 : decode cX9_isSame 419 = .ok (.if_icmp .ne 12, 3) := by decide +kernel
theorem dX9_isSame_422 : decode cX9_isSame 422 = .ok (.aload_n 1, 1) := by decide +kernel
theorem dX9_isSame_423 : decode cX9_isSame 423 = .ok (.iload 4, 2) := by decide +kernel
theorem dX9_isSame_425 : decode cX9_isSame 425 = .ok (.invokevirtual 154, 3) := by decide +kernel
theorem dX9_isSame_428 : decode cX9_isSame 428 = .ok (.goto 9, 3) := by decide +kernel
theorem dX9_isSame_431 : decode cX9_isSame 431 = .ok (.aload_n 1, 1) := by decide +kernel
theorem dX9_isSame_432 : decode cX9_isSame 432 = .ok (.iload 4, 2) := by decide +kernel
theorem dX9_isSame_434 : decode cX9_isSame 434 = .ok (.invokevirtual 157, 3) := by decide +kernel
theorem dX9_isSame_437 : decode cX9_isSame 437 = .ok (.aload 5, 2) := by decide +kernel
theorem dX9_isSame_439 : decode cX9_isSame 439 = .ok (.iconst 2, 1) := by decide +kernel
theorem dX9_isSame_440 : decode cX9_isSame 440 = .ok (.iaload, 1) := by decide +kernel
theorem dX9_isSame_441 : decode cX9_isSame 441 = .ok (.if_icmp .eq 5, 3) := by decide +kernel
theorem dX9_isSame_444 : decode cX9_isSame 444 = .ok (.iconst 0, 1) := by decide +kernel
theorem dX9_isSame_445 : decode cX9_isSame 445 = .ok (.ireturn, 1) := by decide +kernel
theorem dX9_isSame_446 : decode cX9_isSame 446 = .ok (.aload 5, 2) := by decide +kernel
theorem dX9_isSame_448 : decode cX9_isSame 448 = .ok (.iconst 0, 1) := by decide +kernel
theorem dX9_isSame_449 : decode cX9_isSame 449 = .ok (.iaload, 1) := by decide +kernel
theorem dX9_isSame_450 : decode cX9_isSame 450 = .ok (.ifCond .eq 24, 3) := by decide +kernel
theorem dX9_isSame_453 : decode cX9_isSame 453 = .ok (.aload 5, 2) := by decide +kernel
theorem dX9_isSame_455 : decode cX9_isSame 455 = .ok (.iconst 3, 1) := by decide +kernel
theorem dX9_isSame_456 : decode cX9_isSame 456 = .ok (.iaload, 1) := by decide +kernel
theorem dX9_isSame_457 : decode cX9_isSame 457 = .ok (.iconst 2, 1) := by decide +kernel
theorem dX9_isSame_458 : decode cX9_isSame 458 = .ok (.if_icmp .ge 6, 3) := by decide +kernel
theorem dX9_isSame_461 : decode cX9_isSame 461 = .ok (.goto 13, 3) := by decide +kernel
theorem dX9_isSame_464 : decode cX9_isSame 464 = .ok (.iload_n 2, 1) := by decide +kernel
theorem dX9_isSame_465 : decode cX9_isSame 465 = .ok (.aload 5, 2) := by decide +kernel
theorem dX9_isSame_467 : decode cX9_isSame 467 = .ok (.iconst 2, 1) := by decide +kernel
theorem dX9_isSame_468 : decode cX9_isSame 468 = .ok (.iaload, 1) := by decide +kernel
theorem dX9_isSame_469 : decode cX9_isSame 469 = .ok (.iadd, 1) := by decide +kernel
theorem dX9_isSame_470 : decode cX9_isSame 470 = .ok (.istore_n 2, 1) := by decide +kernel
theorem dX9_isSame_471 : decode cX9_isSame 471 = .ok (.iinc 3 1, 3) := by decide +kernel
theorem dX9_isSame_474 : decode cX9_isSame 474 = .ok (.iinc 4 1, 3) := by decide +kernel
theorem dX9_isSame_477 : decode cX9_isSame 477 = .ok (.goto (-167), 3) := by decide +kernel
theorem dX9_isSame_480 : decode cX9_isSame 480 = .ok (.iconst 0, 1) := by decide +kernel
theorem dX9_isSame_481 : decode cX9_isSame 481 = .ok (.istore 4, 2) := by decide +kernel
theorem dX9_isSame_483 : decode cX9_isSame 483 = .ok (.iload 4, 2) := by decide +kernel
theorem dX9_isSame_485 : decode cX9_isSame 485 = .ok (.aload_n 0, 1) := by decide +kernel
theorem dX9_isSame_486 : decode cX9_isSame 486 = .ok (.getfield 7, 3) := by decide +kernel
theorem dX9_isSame_489 : decode cX9_isSame 489 = .ok (.if_icmp .ge 81, 3) := by decide +kernel
theorem dX9_isSame_492 : decode cX9_isSame 492 = .ok (.aload_n 1, 1) := by decide +kernel
theorem dX9_isSame_493 : decode cX9_isSame 493 = .ok (.iload 4, 2) := by decide +kernel
theorem dX9_isSame_495 : decode cX9_isSame 495 = .ok (.invokevirtual 160, 3) := by decide +kernel
theorem dX9_isSame_498 : decode cX9_isSame 498 = .ok (.aload_n 0, 1) := by decide +kernel
theorem dX9_isSame_499 : decode cX9_isSame 499 = .ok (.iload 4, 2) := by decide +kernel
theorem dX9_isSame_501 : decode cX9_isSame 501 = .ok (.invokevirtual 163, 3) := by decide +kernel
theorem dX9_isSame_504 : decode cX9_isSame 504 = .ok (.if_icmp .ne 18, 3) := by decide +kernel
theorem dX9_isSame_507 : decode cX9_isSame 507 = .ok (.aload_n 1, 1) := by decide +kernel
theorem dX9_isSame_508 : decode cX9_isSame 508 = .ok (.iload 4, 2) := by decide +kernel
theorem dX9_isSame_510 : decode cX9_isSame 510 = .ok (.invokevirtual 164, 3) := by decide +kernel
theorem dX9_isSame_513 : decode cX9_isSame 513 = .ok (.aload_n 0, 1) := by decide +kernel
theorem dX9_isSame_514 : decode cX9_isSame 514 = .ok (.iload 4, 2) := by decide +kernel
theorem dX9_isSame_516 : decode cX9_isSame 516 = .ok (.invokevirtual 167, 3) := by decide +kernel
theorem dX9_isSame_519 : decode cX9_isSame 519 = .ok (.if_icmp .eq 5, 3) := by decide +kernel
theorem dX9_isSame_522 : decode cX9_isSame 522 = .ok (.iconst 0, 1) := by decide +kernel
theorem dX9_isSame_523 : decode cX9_isSame 523 = .ok (.ireturn, 1) := by decide +kernel
theorem dX9_isSame_524 : decode cX9_isSame 524 = .ok (.iconst 0, 1) := by decide +kernel
theorem dX9_isSame_525 : decode cX9_isSame 525 = .ok (.istore 5, 2) := by decide +kernel
theorem dX9_isSame_527 : decode cX9_isSame 527 = .ok (.iload 5, 2) := by decide +kernel
theorem dX9_isSame_529 : decode cX9_isSame 529 = .ok (.aload_n 0, 1) := by decide +kernel
theorem dX9_isSame_530 : decode cX9_isSame 530 = .ok (.getfield 24, 3) := by decide +kernel
theorem dX9_isSame_533 : decode cX9_isSame 533 = .ok (.arraylength, 1) := by decide +kernel
theorem dX9_isSame_534 : decode cX9_isSame 534 = .ok (.if_icmp .ge 30, 3) := by decide +kernel
theorem dX9_isSame_537 : decode cX9_isSame 537 = .ok (.aload_n 1, 1) := by decide +kernel
theorem dX9_isSame_538 : decode cX9_isSame 538 = .ok (.iload 4, 2) := by decide +kernel
theorem dX9_isSame_540 : decode cX9_isSame 540 = .ok (.iload 5, 2) := by decide +kernel
theorem dX9_isSame_542 : decode cX9_isSame 542 = .ok (.invokevirtual 168, 3) := by decide +kernel
theorem dX9_isSame_545 : decode cX9_isSame 545 = .ok (.aload_n 0, 1) := by decide +kernel
theorem dX9_isSame_546 : decode cX9_isSame 546 = .ok (.iload 4, 2) := by decide +kernel
theorem dX9_isSame_548 : decode cX9_isSame 548 = .ok (.iload 5, 2) := by decide +kernel
theorem dX9_isSame_550 : decode cX9_isSame 550 = .ok (.invokevirtual 61, 3) := by decide +kernel
theorem dX9_isSame_553 : decode cX9_isSame 553 = .ok (.if_icmp .eq 5, 3) := by decide +kernel
theorem dX9_isSame_556 : decode cX9_isSame 556 = .ok (.iconst 0, 1) := by decide +kernel
theorem dX9_isSame_557 : decode cX9_isSame 557 = .ok (.ireturn, 1) := by decide +kernel
theorem dX9_isSame_558 : decode cX9_isSame 558 = .ok (.iinc 5 1, 3) := by decide +kernel
theorem dX9_isSame_561 : decode cX9_isSame 561 = .ok (.goto (-34), 3) := by decide +kernel
theorem dX9_isSame_564 : decode cX9_isSame 564 = .ok (.iinc 4 1, 3) := by decide +kernel
theorem dX9_isSame_567 : decode cX9_isSame 567 = .ok (.goto (-84), 3) := by decide +kernel
theorem dX9_isSame_570 : decode cX9_isSame 570 = .ok (.aload_n 1, 1) := by decide +kernel
theorem dX9_isSame_571 : decode cX9_isSame 571 = .ok (.invokevirtual 169, 3) := by decide +kernel
theorem dX9_isSame_574 : decode cX9_isSame 574 = .ok (.iload_n 3, 1) := by decide +kernel
theorem dX9_isSame_575 : decode cX9_isSame 575 = .ok (.ifCond .ne 7, 3) := by decide +kernel
theorem dX9_isSame_578 : decode cX9_isSame 578 = .ok (.dconst 0, 1) := by decide +kernel
theorem dX9_isSame_579 : decode cX9_isSame 579 = .ok (.goto 8, 3) := by decide +kernel
theorem dX9_isSame_582 : decode cX9_isSame 582 = .ok (.iload_n 2, 1) := by decide +kernel
theorem dX9_isSame_583 : decode cX9_isSame 583 = .ok (.i2d, 1) := by decide +kernel
theorem dX9_isSame_584 : decode cX9_isSame 584 = .ok (.iload_n 3, 1) := by decide +kernel
theorem dX9_isSame_585 : decode cX9_isSame 585 = .ok (.i2d, 1) := by decide +kernel
theorem dX9_isSame_586 : decode cX9_isSame 586 = .ok (.ddiv, 1) := by decide +kernel
theorem dX9_isSame_587 : decode cX9_isSame 587 = .ok (.dcmp .l, 1) := by decide +kernel
theorem dX9_isSame_588 : decode cX9_isSame 588 = .ok (.ifCond .ne 7, 3) := by decide +kernel
theorem dX9_isSame_591 : decode cX9_isSame 591 = .ok (.iconst 1, 1) := by decide +kernel
theorem dX9_isSame_592 : decode cX9_isSame 592 = .ok (.goto 4, 3) := by decide +kernel
theorem dX9_isSame_595 : decode cX9_isSame 595 = .ok (.iconst 0, 1) := by decide +kernel
theorem dX9_isSame_596 : decode cX9_isSame 596 = .ok (.ireturn, 1) := by decide +kernel
theorem dX10_init_0 : decode cX10_init 0 = .ok (.aload_n 0, 1) := by decide +kernel
theorem dX10_init_1 : decode cX10_init 1 = .ok (.invokespecial 1, 3) := by decide +kernel
theorem dX10_init_4 : decode cX10_init 4 = .ok (.return_, 1) := by decide +kernel
theorem dX10_of_0 : decode cX10_of 0 = .ok (.aload_n 0, 1) := by decide +kernel
theorem dX10_of_1 : decode cX10_of 1 = .ok (.getfield 7, 3) := by decide +kernel
theorem dX10_of_4 : decode cX10_of 4 = .ok (.tableswitch 264 0 29 #[136, 141, 146, 152, 157, 162, 174, 186, 205, 264, 264, 264, 264, 264, 264, 264, 264, 264, 264, 264, 264, 264, 264, 264, 264, 215, 232, 264, 264, 253], 136) := by decide +kernel
theorem dX10_of_140 : decode cX10_of 140 = .ok (.aload_n 0, 1) := by decide +kernel
theorem dX10_of_141 : decode cX10_of 141 = .ok (.getfield 13, 3) := by decide +kernel
theorem dX10_of_144 : decode cX10_of 144 = .ok (.ireturn, 1) := by decide +kernel
theorem dX10_of_145 : decode cX10_of 145 = .ok (.aload_n 1, 1) := by decide +kernel
theorem dX10_of_146 : decode cX10_of 146 = .ok (.getfield 16, 3) := by decide +kernel
theorem dX10_of_149 : decode cX10_of 149 = .ok (.ireturn, 1) := by decide +kernel
theorem dX10_of_150 : decode cX10_of 150 = .ok (.aload_n 1, 1) := by decide +kernel
theorem dX10_of_151 : decode cX10_of 151 = .ok (.iconst 1, 1) := by decide +kernel
theorem dX10_of_152 : decode cX10_of 152 = .ok (.invokevirtual 21, 3) := by decide +kernel
theorem dX10_of_155 : decode cX10_of 155 = .ok (.ireturn, 1) := by decide +kernel
theorem dX10_of_156 : decode cX10_of 156 = .ok (.aload_n 1, 1) := by decide +kernel
theorem dX10_of_157 : decode cX10_of 157 = .ok (.getfield 25, 3) := by decide +kernel
theorem dX10_of_160 : decode cX10_of 160 = .ok (.ireturn, 1) := by decide +kernel
theorem dX10_of_161 : decode cX10_of 161 = .ok (.aload_n 1, 1) := by decide +kernel
theorem dX10_of_162 : decode cX10_of 162 = .ok (.invokevirtual 28, 3) := by decide +kernel
theorem dX10_of_165 : decode cX10_of 165 = .ok (.ireturn, 1) := by decide +kernel
theorem dX10_of_166 : decode cX10_of 166 = .ok (.aload_n 1, 1) := by decide +kernel
theorem dX10_of_167 : decode cX10_of 167 = .ok (.getfield 32, 3) := by decide +kernel
theorem dX10_of_170 : decode cX10_of 170 = .ok (.aload_n 0, 1) := by decide +kernel
theorem dX10_of_171 : decode cX10_of 171 = .ok (.getfield 13, 3) := by decide +kernel
theorem dX10_of_174 : decode cX10_of 174 = .ok (.aaload, 1) := by decide +kernel
theorem dX10_of_175 : decode cX10_of 175 = .ok (.iconst 0, 1) := by decide +kernel
theorem dX10_of_176 : decode cX10_of 176 = .ok (.iaload, 1) := by decide +kernel
theorem dX10_of_177 : decode cX10_of 177 = .ok (.ireturn, 1) := by decide +kernel
theorem dX10_of_178 : decode cX10_of 178 = .ok (.aload_n 1, 1) := by decide +kernel
theorem dX10_of_179 : decode cX10_of 179 = .ok (.getfield 32, 3) := by decide +kernel
theorem dX10_of_182 : decode cX10_of 182 = .ok (.aload_n 0, 1) := by decide +kernel
theorem dX10_of_183 : decode cX10_of 183 = .ok (.getfield 13, 3) := by decide +kernel
theorem dX10_of_186 : decode cX10_of 186 = .ok (.aaload, 1) := by decide +kernel
theorem dX10_of_187 : decode cX10_of 187 = .ok (.iconst 1, 1) := by decide +kernel
theorem dX10_of_188 : decode cX10_of 188 = .ok (.iaload, 1) := by decide +kernel
theorem dX10_of_189 : decode cX10_of 189 = .ok (.ireturn, 1) := by decide +kernel
theorem dX10_of_190 : decode cX10_of 190 = .ok (.aload_n 1, 1) := by decide +kernel
theorem dX10_of_191 : decode cX10_of 191 = .ok (.getfield 36, 3) := by decide +kernel
theorem dX10_of_194 : decode cX10_of 194 = .ok (.aload_n 1, 1) := by decide +kernel
theorem dX10_of_195 : decode cX10_of 195 = .ok (.aload_n 0, 1) := by decide +kernel
theorem dX10_of_196 : decode cX10_of 196 = .ok (.getfield 40, 3) := by decide +kernel
theorem dX10_of_199 : decode cX10_of 199 = .ok (.aload_n 1, 1) := by decide +kernel
theorem dX10_of_200 : decode cX10_of 200 = .ok (.invokevirtual 44, 3) := by decide +kernel
theorem dX10_of_203 : decode cX10_of 203 = .ok (.invokevirtual 48, 3) := by decide +kernel
theorem dX10_of_206 : decode cX10_of 206 = .ok (.aaload, 1) := by decide +kernel
theorem dX10_of_207 : decode cX10_of 207 = .ok (.arraylength, 1) := by decide +kernel
theorem dX10_of_208 : decode cX10_of 208 = .ok (.ireturn, 1) := by decide +kernel
theorem dX10_of_209 : decode cX10_of 209 = .ok (.aload_n 0, 1) := by decide +kernel
theorem dX10_of_210 : decode cX10_of 210 = .ok (.getfield 40, 3) := by decide +kernel
theorem dX10_of_213 : decode cX10_of 213 = .ok (.aload_n 1, 1) := by decide +kernel
theorem dX10_of_214 : decode cX10_of 214 = .ok (.invokevirtual 44, 3) := by decide +kernel
theorem dX10_of_217 : decode cX10_of 217 = .ok (.ineg, 1) := by decide +kernel
theorem dX10_of_218 : decode cX10_of 218 = .ok (.ireturn, 1) := by decide +kernel
theorem dX10_of_219 : decode cX10_of 219 = .ok (.aload_n 1, 1) := by decide +kernel
theorem dX10_of_220 : decode cX10_of 220 = .ok (.aload_n 0, 1) := by decide +kernel
theorem dX10_of_221 : decode cX10_of 221 = .ok (.getfield 13, 3) := by decide +kernel
theorem dX10_of_224 : decode cX10_of 224 = .ok (.invokevirtual 51, 3) := by decide +kernel
theorem dX10_of_227 : decode cX10_of 227 = .ok (.ifCond .eq 7, 3) := by decide +kernel
theorem dX10_of_230 : decode cX10_of 230 = .ok (.iconst 1, 1) := by decide +kernel
theorem dX10_of_231 : decode cX10_of 231 = .ok (.goto 4, 3) := by decide +kernel
theorem dX10_of_234 : decode cX10_of 234 = .ok (.iconst 0, 1) := by decide +kernel
theorem dX10_of_235 : decode cX10_of 235 = .ok (.ireturn, 1) := by decide +kernel
theorem dX10_of_236 : decode cX10_of 236 = .ok (.aload_n 1, 1) := by decide +kernel
theorem dX10_of_237 : decode cX10_of 237 = .ok (.aload_n 0, 1) := by decide +kernel
theorem dX10_of_238 : decode cX10_of 238 = .ok (.getfield 40, 3) := by decide +kernel
theorem dX10_of_241 : decode cX10_of 241 = .ok (.aload_n 1, 1) := by decide +kernel
theorem dX10_of_242 : decode cX10_of 242 = .ok (.invokevirtual 44, 3) := by decide +kernel
theorem dX10_of_245 : decode cX10_of 245 = .ok (.invokevirtual 55, 3) := by decide +kernel
theorem dX10_of_248 : decode cX10_of 248 = .ok (.ifCond .eq 7, 3) := by decide +kernel
theorem dX10_of_251 : decode cX10_of 251 = .ok (.iconst 1, 1) := by decide +kernel
theorem dX10_of_252 : decode cX10_of 252 = .ok (.goto 4, 3) := by decide +kernel
theorem dX10_of_255 : decode cX10_of 255 = .ok (.iconst 0, 1) := by decide +kernel
theorem dX10_of_256 : decode cX10_of 256 = .ok (.ireturn, 1) := by decide +kernel
theorem dX10_of_257 : decode cX10_of 257 = .ok (.iconst 1, 1) := by decide +kernel
theorem dX10_of_258 : decode cX10_of 258 = .ok (.aload_n 0, 1) := by decide +kernel
theorem dX10_of_259 : decode cX10_of 259 = .ok (.getfield 40, 3) := by decide +kernel
theorem dX10_of_262 : decode cX10_of 262 = .ok (.aload_n 1, 1) := by decide +kernel
theorem dX10_of_263 : decode cX10_of 263 = .ok (.invokevirtual 44, 3) := by decide +kernel
theorem dX10_of_266 : decode cX10_of 266 = .ok (.isub, 1) := by decide +kernel
theorem dX10_of_267 : decode cX10_of 267 = .ok (.ireturn, 1) := by decide +kernel
theorem dX10_of_268 : decode cX10_of 268 = .ok (.aload_n 0, 1) := by decide +kernel
theorem dX10_of_269 : decode cX10_of 269 = .ok (.aload_n 0, 1) := by decide +kernel
theorem dX10_of_270 : decode cX10_of 270 = .ok (.getfield 40, 3) := by decide +kernel
theorem dX10_of_273 : decode cX10_of 273 = .ok (.aload_n 1, 1) := by decide +kernel
theorem dX10_of_274 : decode cX10_of 274 = .ok (.invokevirtual 44, 3) := by decide +kernel
theorem dX10_of_277 : decode cX10_of 277 = .ok (.aload_n 0, 1) := by decide +kernel
theorem dX10_of_278 : decode cX10_of 278 = .ok (.getfield 58, 3) := by decide +kernel
theorem dX10_of_281 : decode cX10_of 281 = .ok (.aload_n 1, 1) := by decide +kernel
theorem dX10_of_282 : decode cX10_of 282 = .ok (.invokevirtual 44, 3) := by decide +kernel
theorem dX10_of_285 : decode cX10_of 285 = .ok (.invokevirtual 61, 3) := by decide +kernel
theorem dX10_of_288 : decode cX10_of 288 = .ok (.ireturn, 1) := by decide +kernel
theorem dX10_ofTwo_0 : decode cX10_ofTwo 0 = .ok (.aload_n 0, 1) := by decide +kernel
theorem dX10_ofTwo_1 : decode cX10_ofTwo 1 = .ok (.getfield 7, 3) := by decide +kernel
theorem dX10_ofTwo_4 : decode cX10_ofTwo 4 = .ok (.tableswitch 228 9 30 #[104, 108, 112, 116, 138, 149, 228, 228, 228, 228, 228, 160, 171, 182, 193, 204, 228, 228, 228, 228, 228, 215], 104) := by decide +kernel
theorem dX10_ofTwo_108 : decode cX10_ofTwo 108 = .ok (.iload_n 1, 1) := by decide +kernel
theorem dX10_ofTwo_109 : decode cX10_ofTwo 109 = .ok (.iload_n 2, 1) := by decide +kernel
theorem dX10_ofTwo_110 : decode cX10_ofTwo 110 = .ok (.iadd, 1) := by decide +kernel
theorem dX10_ofTwo_111 : decode cX10_ofTwo 111 = .ok (.ireturn, 1) := by decide +kernel
theorem dX10_ofTwo_112 : decode cX10_ofTwo 112 = .ok (.iload_n 1, 1) := by decide +kernel
theorem dX10_ofTwo_113 : decode cX10_ofTwo 113 = .ok (.iload_n 2, 1) := by decide +kernel
theorem dX10_ofTwo_114 : decode cX10_ofTwo 114 = .ok (.isub, 1) := by decide +kernel
theorem dX10_ofTwo_115 : decode cX10_ofTwo 115 = .ok (.ireturn, 1) := by decide +kernel
theorem dX10_ofTwo_116 : decode cX10_ofTwo 116 = .ok (.iload_n 1, 1) := by decide +kernel
theorem dX10_ofTwo_117 : decode cX10_ofTwo 117 = .ok (.iload_n 2, 1) := by decide +kernel
theorem dX10_ofTwo_118 : decode cX10_ofTwo 118 = .ok (.imul, 1) := by decide +kernel
theorem dX10_ofTwo_119 : decode cX10_ofTwo 119 = .ok (.ireturn, 1) := by decide +kernel
theorem dX10_ofTwo_120 : decode cX10_ofTwo 120 = .ok (.iload_n 2, 1) := by decide +kernel
theorem dX10_ofTwo_121 : decode cX10_ofTwo 121 = .ok (.ifCond .ne 7, 3) := by decide +kernel
theorem dX10_ofTwo_124 : decode cX10_ofTwo 124 = .ok (.iconst 0, 1) := by decide +kernel
theorem dX10_ofTwo_125 : decode cX10_ofTwo 125 = .ok (.goto 16, 3) := by decide +kernel
theorem dX10_ofTwo_128 : decode cX10_ofTwo 128 = .ok (.iload_n 2, 1) := by decide +kernel
theorem dX10_ofTwo_129 : decode cX10_ofTwo 129 = .ok (.iconst (-1), 1) := by decide +kernel
theorem dX10_ofTwo_130 : decode cX10_ofTwo 130 = .ok (.if_icmp .ne 8, 3) := by decide +kernel
theorem dX10_ofTwo_133 : decode cX10_ofTwo 133 = .ok (.iload_n 1, 1) := by decide +kernel
theorem dX10_ofTwo_134 : decode cX10_ofTwo 134 = .ok (.ineg, 1) := by decide +kernel
theorem dX10_ofTwo_135 : decode cX10_ofTwo 135 = .ok (.goto 6, 3) := by decide +kernel
theorem dX10_ofTwo_138 : decode cX10_ofTwo 138 = .ok (.iload_n 1, 1) := by decide +kernel
theorem dX10_ofTwo_139 : decode cX10_ofTwo 139 = .ok (.iload_n 2, 1) := by decide +kernel
theorem dX10_ofTwo_140 : decode cX10_ofTwo 140 = .ok (.idiv, 1) := by decide +kernel
theorem dX10_ofTwo_141 : decode cX10_ofTwo 141 = .ok (.ireturn, 1) := by decide +kernel
theorem dX10_ofTwo_142 : decode cX10_ofTwo 142 = .ok (.iload_n 1, 1) := by decide +kernel
theorem dX10_ofTwo_143 : decode cX10_ofTwo 143 = .ok (.iload_n 2, 1) := by decide +kernel
theorem dX10_ofTwo_144 : decode cX10_ofTwo 144 = .ok (.if_icmp .ge 7, 3) := by decide +kernel
theorem dX10_ofTwo_147 : decode cX10_ofTwo 147 = .ok (.iload_n 1, 1) := by decide +kernel
theorem dX10_ofTwo_148 : decode cX10_ofTwo 148 = .ok (.goto 4, 3) := by decide +kernel
theorem dX10_ofTwo_151 : decode cX10_ofTwo 151 = .ok (.iload_n 2, 1) := by decide +kernel
theorem dX10_ofTwo_152 : decode cX10_ofTwo 152 = .ok (.ireturn, 1) := by decide +kernel
theorem dX10_ofTwo_153 : decode cX10_ofTwo 153 = .ok (.iload_n 1, 1) := by decide +kernel
theorem dX10_ofTwo_154 : decode cX10_ofTwo 154 = .ok (.iload_n 2, 1) := by decide +kernel
theorem dX10_ofTwo_155 : decode cX10_ofTwo 155 = .ok (.if_icmp .ge 7, 3) := by decide +kernel
theorem dX10_ofTwo_158 : decode cX10_ofTwo 158 = .ok (.iload_n 2, 1) := by decide +kernel
theorem dX10_ofTwo_159 : decode cX10_ofTwo 159 = .ok (.goto 4, 3) := by decide +kernel
theorem dX10_ofTwo_162 : decode cX10_ofTwo 162 = .ok (.iload_n 1, 1) := by decide +kernel
theorem dX10_ofTwo_163 : decode cX10_ofTwo 163 = .ok (.ireturn, 1) := by decide +kernel
theorem dX10_ofTwo_164 : decode cX10_ofTwo 164 = .ok (.iload_n 1, 1) := by decide +kernel
theorem dX10_ofTwo_165 : decode cX10_ofTwo 165 = .ok (.iload_n 2, 1) := by decide +kernel
theorem dX10_ofTwo_166 : decode cX10_ofTwo 166 = .ok (.if_icmp .ge 7, 3) := by decide +kernel
theorem dX10_ofTwo_169 : decode cX10_ofTwo 169 = .ok (.iconst 1, 1) := by decide +kernel
theorem dX10_ofTwo_170 : decode cX10_ofTwo 170 = .ok (.goto 4, 3) := by decide +kernel
theorem dX10_ofTwo_173 : decode cX10_ofTwo 173 = .ok (.iconst 0, 1) := by decide +kernel
theorem dX10_ofTwo_174 : decode cX10_ofTwo 174 = .ok (.ireturn, 1) := by decide +kernel
theorem dX10_ofTwo_175 : decode cX10_ofTwo 175 = .ok (.iload_n 1, 1) := by decide +kernel
theorem dX10_ofTwo_176 : decode cX10_ofTwo 176 = .ok (.iload_n 2, 1) := by decide +kernel
theorem dX10_ofTwo_177 : decode cX10_ofTwo 177 = .ok (.if_icmp .le 7, 3) := by decide +kernel
theorem dX10_ofTwo_180 : decode cX10_ofTwo 180 = .ok (.iconst 1, 1) := by decide +kernel
theorem dX10_ofTwo_181 : decode cX10_ofTwo 181 = .ok (.goto 4, 3) := by decide +kernel
theorem dX10_ofTwo_184 : decode cX10_ofTwo 184 = .ok (.iconst 0, 1) := by decide +kernel
theorem dX10_ofTwo_185 : decode cX10_ofTwo 185 = .ok (.ireturn, 1) := by decide +kernel
theorem dX10_ofTwo_186 : decode cX10_ofTwo 186 = .ok (.iload_n 1, 1) := by decide +kernel
theorem dX10_ofTwo_187 : decode cX10_ofTwo 187 = .ok (.iload_n 2, 1) := by decide +kernel
theorem dX10_ofTwo_188 : decode cX10_ofTwo 188 = .ok (.if_icmp .ne 7, 3) := by decide +kernel
theorem dX10_ofTwo_191 : decode cX10_ofTwo 191 = .ok (.iconst 1, 1) := by decide +kernel
theorem dX10_ofTwo_192 : decode cX10_ofTwo 192 = .ok (.goto 4, 3) := by decide +kernel
theorem dX10_ofTwo_195 : decode cX10_ofTwo 195 = .ok (.iconst 0, 1) := by decide +kernel
theorem dX10_ofTwo_196 : decode cX10_ofTwo 196 = .ok (.ireturn, 1) := by decide +kernel
theorem dX10_ofTwo_197 : decode cX10_ofTwo 197 = .ok (.iload_n 1, 1) := by decide +kernel
theorem dX10_ofTwo_198 : decode cX10_ofTwo 198 = .ok (.iload_n 2, 1) := by decide +kernel
theorem dX10_ofTwo_199 : decode cX10_ofTwo 199 = .ok (.if_icmp .le 7, 3) := by decide +kernel
theorem dX10_ofTwo_202 : decode cX10_ofTwo 202 = .ok (.iconst 0, 1) := by decide +kernel
theorem dX10_ofTwo_203 : decode cX10_ofTwo 203 = .ok (.goto 4, 3) := by decide +kernel
theorem dX10_ofTwo_206 : decode cX10_ofTwo 206 = .ok (.iconst 1, 1) := by decide +kernel
theorem dX10_ofTwo_207 : decode cX10_ofTwo 207 = .ok (.ireturn, 1) := by decide +kernel
theorem dX10_ofTwo_208 : decode cX10_ofTwo 208 = .ok (.iload_n 1, 1) := by decide +kernel
theorem dX10_ofTwo_209 : decode cX10_ofTwo 209 = .ok (.iload_n 2, 1) := by decide +kernel
theorem dX10_ofTwo_210 : decode cX10_ofTwo 210 = .ok (.if_icmp .ge 7, 3) := by decide +kernel
theorem dX10_ofTwo_213 : decode cX10_ofTwo 213 = .ok (.iconst 0, 1) := by decide +kernel
theorem dX10_ofTwo_214 : decode cX10_ofTwo 214 = .ok (.goto 4, 3) := by decide +kernel
theorem dX10_ofTwo_217 : decode cX10_ofTwo 217 = .ok (.iconst 1, 1) := by decide +kernel
theorem dX10_ofTwo_218 : decode cX10_ofTwo 218 = .ok (.ireturn, 1) := by decide +kernel
theorem dX10_ofTwo_219 : decode cX10_ofTwo 219 = .ok (.iload_n 1, 1) := by decide +kernel
theorem dX10_ofTwo_220 : decode cX10_ofTwo 220 = .ok (.iload_n 2, 1) := by decide +kernel
theorem dX10_ofTwo_221 : decode cX10_ofTwo 221 = .ok (.iadd, 1) := by decide +kernel
theorem dX10_ofTwo_222 : decode cX10_ofTwo 222 = .ok (.iconst 2, 1) := by decide +kernel
theorem dX10_ofTwo_223 : decode cX10_ofTwo 223 = .ok (.if_icmp .ne 7, 3) := by decide +kernel
theorem dX10_ofTwo_226 : decode cX10_ofTwo 226 = .ok (.iconst 1, 1) := by decide +kernel
theorem dX10_ofTwo_227 : decode cX10_ofTwo 227 = .ok (.goto 4, 3) := by decide +kernel
theorem dX10_ofTwo_230 : decode cX10_ofTwo 230 = .ok (.iconst 0, 1) := by decide +kernel
theorem dX10_ofTwo_231 : decode cX10_ofTwo 231 = .ok (.ireturn, 1) := by decide +kernel
theorem dX10_ofTwo_232 : decode cX10_ofTwo 232 = .ok (.iload_n 1, 1) := by decide +kernel
theorem dX10_ofTwo_233 : decode cX10_ofTwo 233 = .ok (.iload_n 2, 1) := by decide +kernel
theorem dX10_ofTwo_234 : decode cX10_ofTwo 234 = .ok (.iadd, 1) := by decide +kernel
theorem dX10_ofTwo_235 : decode cX10_ofTwo 235 = .ok (.ifCond .le 7, 3) := by decide +kernel
theorem dX10_ofTwo_238 : decode cX10_ofTwo 238 = .ok (.iconst 1, 1) := by decide +kernel
theorem dX10_ofTwo_239 : decode cX10_ofTwo 239 = .ok (.goto 4, 3) := by decide +kernel
theorem dX10_ofTwo_242 : decode cX10_ofTwo 242 = .ok (.iconst 0, 1) := by decide +kernel
theorem dX10_ofTwo_243 : decode cX10_ofTwo 243 = .ok (.ireturn, 1) := by decide +kernel
theorem dX10_text_0 : decode cX10_text 0 = .ok (.bipush 7, 2) := by decide +kernel
theorem dX10_text_2 : decode cX10_text 2 = .ok (.anewarray 65, 3) := by decide +kernel
theorem dX10_text_5 : decode cX10_text 5 = .ok (.dup, 1) := by decide +kernel
theorem dX10_text_6 : decode cX10_text 6 = .ok (.iconst 0, 1) := by decide +kernel
theorem dX10_text_7 : decode cX10_text 7 = .ok (.ldc 67, 2) := by decide +kernel
theorem dX10_text_9 : decode cX10_text 9 = .ok (.aastore, 1) := by decide +kernel
theorem dX10_text_10 : decode cX10_text 10 = .ok (.dup, 1) := by decide +kernel
theorem dX10_text_11 : decode cX10_text 11 = .ok (.iconst 1, 1) := by decide +kernel
theorem dX10_text_12 : decode cX10_text 12 = .ok (.ldc 69, 2) := by decide +kernel
theorem dX10_text_14 : decode cX10_text 14 = .ok (.aastore, 1) := by decide +kernel
theorem dX10_text_15 : decode cX10_text 15 = .ok (.dup, 1) := by decide +kernel
theorem dX10_text_16 : decode cX10_text 16 = .ok (.iconst 2, 1) := by decide +kernel
theorem dX10_text_17 : decode cX10_text 17 = .ok (.ldc 71, 2) := by decide +kernel
theorem dX10_text_19 : decode cX10_text 19 = .ok (.aastore, 1) := by decide +kernel
theorem dX10_text_20 : decode cX10_text 20 = .ok (.dup, 1) := by decide +kernel
theorem dX10_text_21 : decode cX10_text 21 = .ok (.iconst 3, 1) := by decide +kernel
theorem dX10_text_22 : decode cX10_text 22 = .ok (.ldc 73, 2) := by decide +kernel
theorem dX10_text_24 : decode cX10_text 24 = .ok (.aastore, 1) := by decide +kernel
theorem dX10_text_25 : decode cX10_text 25 = .ok (.dup, 1) := by decide +kernel
theorem dX10_text_26 : decode cX10_text 26 = .ok (.iconst 4, 1) := by decide +kernel
theorem dX10_text_27 : decode cX10_text 27 = .ok (.ldc 75, 2) := by decide +kernel
theorem dX10_text_29 : decode cX10_text 29 = .ok (.aastore, 1) := by decide +kernel
theorem dX10_text_30 : decode cX10_text 30 = .ok (.dup, 1) := by decide +kernel
theorem dX10_text_31 : decode cX10_text 31 = .ok (.iconst 5, 1) := by decide +kernel
theorem dX10_text_32 : decode cX10_text 32 = .ok (.ldc 77, 2) := by decide +kernel
theorem dX10_text_34 : decode cX10_text 34 = .ok (.aastore, 1) := by decide +kernel
theorem dX10_text_35 : decode cX10_text 35 = .ok (.dup, 1) := by decide +kernel
theorem dX10_text_36 : decode cX10_text 36 = .ok (.bipush 6, 2) := by decide +kernel
theorem dX10_text_38 : decode cX10_text 38 = .ok (.ldc 79, 2) := by decide +kernel
theorem dX10_text_40 : decode cX10_text 40 = .ok (.aastore, 1) := by decide +kernel
theorem dX10_text_41 : decode cX10_text 41 = .ok (.astore_n 1, 1) := by decide +kernel
theorem dX10_text_42 : decode cX10_text 42 = .ok (.bipush 6, 2) := by decide +kernel
theorem dX10_text_44 : decode cX10_text 44 = .ok (.anewarray 65, 3) := by decide +kernel
theorem dX10_text_47 : decode cX10_text 47 = .ok (.dup, 1) := by decide +kernel
theorem dX10_text_48 : decode cX10_text 48 = .ok (.iconst 0, 1) := by decide +kernel
theorem dX10_text_49 : decode cX10_text 49 = .ok (.ldc 81, 2) := by decide +kernel
theorem dX10_text_51 : decode cX10_text 51 = .ok (.aastore, 1) := by decide +kernel
theorem dX10_text_52 : decode cX10_text 52 = .ok (.dup, 1) := by decide +kernel
theorem dX10_text_53 : decode cX10_text 53 = .ok (.iconst 1, 1) := by decide +kernel
theorem dX10_text_54 : decode cX10_text 54 = .ok (.ldc 83, 2) := by decide +kernel
theorem dX10_text_56 : decode cX10_text 56 = .ok (.aastore, 1) := by decide +kernel
theorem dX10_text_57 : decode cX10_text 57 = .ok (.dup, 1) := by decide +kernel
theorem dX10_text_58 : decode cX10_text 58 = .ok (.iconst 2, 1) := by decide +kernel
theorem dX10_text_59 : decode cX10_text 59 = .ok (.ldc 85, 2) := by decide +kernel
theorem dX10_text_61 : decode cX10_text 61 = .ok (.aastore, 1) := by decide +kernel
theorem dX10_text_62 : decode cX10_text 62 = .ok (.dup, 1) := by decide +kernel
theorem dX10_text_63 : decode cX10_text 63 = .ok (.iconst 3, 1) := by decide +kernel
theorem dX10_text_64 : decode cX10_text 64 = .ok (.ldc 87, 2) := by decide +kernel
theorem dX10_text_66 : decode cX10_text 66 = .ok (.aastore, 1) := by decide +kernel
theorem dX10_text_67 : decode cX10_text 67 = .ok (.dup, 1) := by decide +kernel
theorem dX10_text_68 : decode cX10_text 68 = .ok (.iconst 4, 1) := by decide +kernel
theorem dX10_text_69 : decode cX10_text 69 = .ok (.ldc 89, 2) := by decide +kernel
theorem dX10_text_71 : decode cX10_text 71 = .ok (.aastore, 1) := by decide +kernel
theorem dX10_text_72 : decode cX10_text 72 = .ok (.dup, 1) := by decide +kernel
theorem dX10_text_73 : decode cX10_text 73 = .ok (.iconst 5, 1) := by decide +kernel
theorem dX10_text_74 : decode cX10_text 74 = .ok (.ldc 91, 2) := by decide +kernel
theorem dX10_text_76 : decode cX10_text 76 = .ok (.aastore, 1) := by decide +kernel
theorem dX10_text_77 : decode cX10_text 77 = .ok (.astore_n 2, 1) := by decide +kernel
theorem dX10_text_78 : decode cX10_text 78 = .ok (.iconst 5, 1) := by decide +kernel
theorem dX10_text_79 : decode cX10_text 79 = .ok (.anewarray 65, 3) := by decide +kernel
theorem dX10_text_82 : decode cX10_text 82 = .ok (.dup, 1) := by decide +kernel
theorem dX10_text_83 : decode cX10_text 83 = .ok (.iconst 0, 1) := by decide +kernel
theorem dX10_text_84 : decode cX10_text 84 = .ok (.ldc 93, 2) := by decide +kernel
theorem dX10_text_86 : decode cX10_text 86 = .ok (.aastore, 1) := by decide +kernel
theorem dX10_text_87 : decode cX10_text 87 = .ok (.dup, 1) := by decide +kernel
theorem dX10_text_88 : decode cX10_text 88 = .ok (.iconst 1, 1) := by decide +kernel
theorem dX10_text_89 : decode cX10_text 89 = .ok (.ldc 95, 2) := by decide +kernel
theorem dX10_text_91 : decode cX10_text 91 = .ok (.aastore, 1) := by decide +kernel
theorem dX10_text_92 : decode cX10_text 92 = .ok (.dup, 1) := by decide +kernel
theorem dX10_text_93 : decode cX10_text 93 = .ok (.iconst 2, 1) := by decide +kernel
theorem dX10_text_94 : decode cX10_text 94 = .ok (.ldc 97, 2) := by decide +kernel
theorem dX10_text_96 : decode cX10_text 96 = .ok (.aastore, 1) := by decide +kernel
theorem dX10_text_97 : decode cX10_text 97 = .ok (.dup, 1) := by decide +kernel
theorem dX10_text_98 : decode cX10_text 98 = .ok (.iconst 3, 1) := by decide +kernel
theorem dX10_text_99 : decode cX10_text 99 = .ok (.ldc 99, 2) := by decide +kernel
theorem dX10_text_101 : decode cX10_text 101 = .ok (.aastore, 1) := by decide +kernel
theorem dX10_text_102 : decode cX10_text 102 = .ok (.dup, 1) := by decide +kernel
theorem dX10_text_103 : decode cX10_text 103 = .ok (.iconst 4, 1) := by decide +kernel
theorem dX10_text_104 : decode cX10_text 104 = .ok (.ldc 101, 2) := by decide +kernel
theorem dX10_text_106 : decode cX10_text 106 = .ok (.aastore, 1) := by decide +kernel
theorem dX10_text_107 : decode cX10_text 107 = .ok (.astore_n 3, 1) := by decide +kernel
theorem dX10_text_108 : decode cX10_text 108 = .ok (.aload_n 0, 1) := by decide +kernel
theorem dX10_text_109 : decode cX10_text 109 = .ok (.getfield 7, 3) := by decide +kernel
theorem dX10_text_112 : decode cX10_text 112 = .ok (.ifCond .ne 26, 3) := by decide +kernel
theorem dX10_text_115 : decode cX10_text 115 = .ok (.new 103, 3) := by decide +kernel
theorem dX10_text_118 : decode cX10_text 118 = .ok (.dup, 1) := by decide +kernel
theorem dX10_text_119 : decode cX10_text 119 = .ok (.invokespecial 105, 3) := by decide +kernel
theorem dX10_text_122 : decode cX10_text 122 = .ok (.ldc 67, 2) := by decide +kernel
theorem dX10_text_124 : decode cX10_text 124 = .ok (.invokevirtual 106, 3) := by decide +kernel
theorem dX10_text_127 : decode cX10_text 127 = .ok (.aload_n 0, 1) := by decide +kernel
theorem dX10_text_128 : decode cX10_text 128 = .ok (.getfield 13, 3) := by decide +kernel
theorem dX10_text_131 : decode cX10_text 131 = .ok (.invokevirtual 110, 3) := by decide +kernel
theorem dX10_text_134 : decode cX10_text 134 = .ok (.invokevirtual 113, 3) := by decide +kernel
theorem dX10_text_137 : decode cX10_text 137 = .ok (.areturn, 1) := by decide +kernel
theorem dX10_text_138 : decode cX10_text 138 = .ok (.aload_n 0, 1) := by decide +kernel
theorem dX10_text_139 : decode cX10_text 139 = .ok (.getfield 7, 3) := by decide +kernel
theorem dX10_text_142 : decode cX10_text 142 = .ok (.iconst 5, 1) := by decide +kernel
theorem dX10_text_143 : decode cX10_text 143 = .ok (.if_icmp .ge 10, 3) := by decide +kernel
theorem dX10_text_146 : decode cX10_text 146 = .ok (.aload_n 1, 1) := by decide +kernel
theorem dX10_text_147 : decode cX10_text 147 = .ok (.aload_n 0, 1) := by decide +kernel
theorem dX10_text_148 : decode cX10_text 148 = .ok (.getfield 7, 3) := by decide +kernel
theorem dX10_text_151 : decode cX10_text 151 = .ok (.aaload, 1) := by decide +kernel
theorem dX10_text_152 : decode cX10_text 152 = .ok (.areturn, 1) := by decide +kernel
theorem dX10_text_153 : decode cX10_text 153 = .ok (.aload_n 0, 1) := by decide +kernel
theorem dX10_text_154 : decode cX10_text 154 = .ok (.getfield 7, 3) := by decide +kernel
theorem dX10_text_157 : decode cX10_text 157 = .ok (.bipush 7, 2) := by decide +kernel
theorem dX10_text_159 : decode cX10_text 159 = .ok (.if_icmp .ge 35, 3) := by decide +kernel
theorem dX10_text_162 : decode cX10_text 162 = .ok (.new 103, 3) := by decide +kernel
theorem dX10_text_165 : decode cX10_text 165 = .ok (.dup, 1) := by decide +kernel
theorem dX10_text_166 : decode cX10_text 166 = .ok (.invokespecial 105, 3) := by decide +kernel
theorem dX10_text_169 : decode cX10_text 169 = .ok (.aload_n 1, 1) := by decide +kernel
theorem dX10_text_170 : decode cX10_text 170 = .ok (.aload_n 0, 1) := by decide +kernel
theorem dX10_text_171 : decode cX10_text 171 = .ok (.getfield 7, 3) := by decide +kernel
theorem dX10_text_174 : decode cX10_text 174 = .ok (.aaload, 1) := by decide +kernel
theorem dX10_text_175 : decode cX10_text 175 = .ok (.invokevirtual 106, 3) := by decide +kernel
theorem dX10_text_178 : decode cX10_text 178 = .ok (.aload_n 0, 1) := by decide +kernel
theorem dX10_text_179 : decode cX10_text 179 = .ok (.getfield 13, 3) := by decide +kernel
theorem dX10_text_182 : decode cX10_text 182 = .ok (.invokevirtual 110, 3) := by decide +kernel
theorem dX10_text_185 : decode cX10_text 185 = .ok (.ldc 117, 2) := by decide +kernel
theorem dX10_text_187 : decode cX10_text 187 = .ok (.invokevirtual 106, 3) := by decide +kernel
theorem dX10_text_190 : decode cX10_text 190 = .ok (.invokevirtual 113, 3) := by decide +kernel
theorem dX10_text_193 : decode cX10_text 193 = .ok (.areturn, 1) := by decide +kernel
theorem dX10_text_194 : decode cX10_text 194 = .ok (.aload_n 0, 1) := by decide +kernel
theorem dX10_text_195 : decode cX10_text 195 = .ok (.getfield 7, 3) := by decide +kernel
theorem dX10_text_198 : decode cX10_text 198 = .ok (.bipush 7, 2) := by decide +kernel
theorem dX10_text_200 : decode cX10_text 200 = .ok (.if_icmp .ne 34, 3) := by decide +kernel
theorem dX10_text_203 : decode cX10_text 203 = .ok (.new 103, 3) := by decide +kernel
theorem dX10_text_206 : decode cX10_text 206 = .ok (.dup, 1) := by decide +kernel
theorem dX10_text_207 : decode cX10_text 207 = .ok (.invokespecial 105, 3) := by decide +kernel
theorem dX10_text_210 : decode cX10_text 210 = .ok (.ldc 119, 2) := by decide +kernel
theorem dX10_text_212 : decode cX10_text 212 = .ok (.invokevirtual 106, 3) := by decide +kernel
theorem dX10_text_215 : decode cX10_text 215 = .ok (.aload_n 0, 1) := by decide +kernel
theorem dX10_text_216 : decode cX10_text 216 = .ok (.getfield 40, 3) := by decide +kernel
theorem dX10_text_219 : decode cX10_text 219 = .ok (.invokevirtual 121, 3) := by decide +kernel
theorem dX10_text_222 : decode cX10_text 222 = .ok (.invokevirtual 106, 3) := by decide +kernel
theorem dX10_text_225 : decode cX10_text 225 = .ok (.ldc 124, 2) := by decide +kernel
theorem dX10_text_227 : decode cX10_text 227 = .ok (.invokevirtual 106, 3) := by decide +kernel
theorem dX10_text_230 : decode cX10_text 230 = .ok (.invokevirtual 113, 3) := by decide +kernel
theorem dX10_text_233 : decode cX10_text 233 = .ok (.areturn, 1) := by decide +kernel
theorem dX10_text_234 : decode cX10_text 234 = .ok (.aload_n 0, 1) := by decide +kernel
theorem dX10_text_235 : decode cX10_text 235 = .ok (.getfield 7, 3) := by decide +kernel
theorem dX10_text_238 : decode cX10_text 238 = .ok (.bipush 8, 2) := by decide +kernel
theorem dX10_text_240 : decode cX10_text 240 = .ok (.if_icmp .ne 34, 3) := by decide +kernel
theorem dX10_text_243 : decode cX10_text 243 = .ok (.new 103, 3) := by decide +kernel
theorem dX10_text_246 : decode cX10_text 246 = .ok (.dup, 1) := by decide +kernel
theorem dX10_text_247 : decode cX10_text 247 = .ok (.invokespecial 105, 3) := by decide +kernel
theorem dX10_text_250 : decode cX10_text 250 = .ok (.ldc 126, 2) := by decide +kernel
theorem dX10_text_252 : decode cX10_text 252 = .ok (.invokevirtual 106, 3) := by decide +kernel
theorem dX10_text_255 : decode cX10_text 255 = .ok (.aload_n 0, 1) := by decide +kernel
theorem dX10_text_256 : decode cX10_text 256 = .ok (.getfield 40, 3) := by decide +kernel
theorem dX10_text_259 : decode cX10_text 259 = .ok (.invokevirtual 121, 3) := by decide +kernel
theorem dX10_text_262 : decode cX10_text 262 = .ok (.invokevirtual 106, 3) := by decide +kernel
theorem dX10_text_265 : decode cX10_text 265 = .ok (.ldc 124, 2) := by decide +kernel
theorem dX10_text_267 : decode cX10_text 267 = .ok (.invokevirtual 106, 3) := by decide +kernel
theorem dX10_text_270 : decode cX10_text 270 = .ok (.invokevirtual 113, 3) := by decide +kernel
theorem dX10_text_273 : decode cX10_text 273 = .ok (.areturn, 1) := by decide +kernel
theorem dX10_text_274 : decode cX10_text 274 = .ok (.aload_n 0, 1) := by decide +kernel
theorem dX10_text_275 : decode cX10_text 275 = .ok (.getfield 7, 3) := by decide +kernel
theorem dX10_text_278 : decode cX10_text 278 = .ok (.bipush 13, 2) := by decide +kernel
theorem dX10_text_280 : decode cX10_text 280 = .ok (.if_icmp .ge 66, 3) := by decide +kernel
theorem dX10_text_283 : decode cX10_text 283 = .ok (.new 103, 3) := by decide +kernel
theorem dX10_text_286 : decode cX10_text 286 = .ok (.dup, 1) := by decide +kernel
theorem dX10_text_287 : decode cX10_text 287 = .ok (.invokespecial 105, 3) := by decide +kernel
theorem dX10_text_290 : decode cX10_text 290 = .ok (.ldc 128, 2) := by decide +kernel
theorem dX10_text_292 : decode cX10_text 292 = .ok (.invokevirtual 106, 3) := by decide +kernel
theorem dX10_text_295 : decode cX10_text 295 = .ok (.aload_n 0, 1) := by decide +kernel
theorem dX10_text_296 : decode cX10_text 296 = .ok (.getfield 40, 3) := by decide +kernel
theorem dX10_text_299 : decode cX10_text 299 = .ok (.invokevirtual 121, 3) := by decide +kernel
theorem dX10_text_302 : decode cX10_text 302 = .ok (.invokevirtual 106, 3) := by decide +kernel
theorem dX10_text_305 : decode cX10_text 305 = .ok (.ldc 124, 2) := by decide +kernel
theorem dX10_text_307 : decode cX10_text 307 = .ok (.invokevirtual 106, 3) := by decide +kernel
theorem dX10_text_310 : decode cX10_text 310 = .ok (.aload_n 2, 1) := by decide +kernel
theorem dX10_text_311 : decode cX10_text 311 = .ok (.aload_n 0, 1) := by decide +kernel
theorem dX10_text_312 : decode cX10_text 312 = .ok (.getfield 7, 3) := by decide +kernel
theorem dX10_text_315 : decode cX10_text 315 = .ok (.bipush 9, 2) := by decide +kernel
theorem dX10_text_317 : decode cX10_text 317 = .ok (.isub, 1) := by decide +kernel
theorem dX10_text_318 : decode cX10_text 318 = .ok (.aaload, 1) := by decide +kernel
theorem dX10_text_319 : decode cX10_text 319 = .ok (.invokevirtual 106, 3) := by decide +kernel
theorem dX10_text_322 : decode cX10_text 322 = .ok (.ldc 128, 2) := by decide +kernel
theorem dX10_text_324 : decode cX10_text 324 = .ok (.invokevirtual 106, 3) := by decide +kernel
theorem dX10_text_327 : decode cX10_text 327 = .ok (.aload_n 0, 1) := by decide +kernel
theorem dX10_text_328 : decode cX10_text 328 = .ok (.getfield 58, 3) := by decide +kernel
theorem dX10_text_331 : decode cX10_text 331 = .ok (.invokevirtual 121, 3) := by decide +kernel
theorem dX10_text_334 : decode cX10_text 334 = .ok (.invokevirtual 106, 3) := by decide +kernel
theorem dX10_text_337 : decode cX10_text 337 = .ok (.ldc 124, 2) := by decide +kernel
theorem dX10_text_339 : decode cX10_text 339 = .ok (.invokevirtual 106, 3) := by decide +kernel
theorem dX10_text_342 : decode cX10_text 342 = .ok (.invokevirtual 113, 3) := by decide +kernel
theorem dX10_text_345 : decode cX10_text 345 = .ok (.areturn, 1) := by decide +kernel
theorem dX10_text_346 : decode cX10_text 346 = .ok (.aload_n 0, 1) := by decide +kernel
theorem dX10_text_347 : decode cX10_text 347 = .ok (.getfield 7, 3) := by decide +kernel
theorem dX10_text_350 : decode cX10_text 350 = .ok (.bipush 15, 2) := by decide +kernel
theorem dX10_text_352 : decode cX10_text 352 = .ok (.if_icmp .ge 56, 3) := by decide +kernel
theorem dX10_text_355 : decode cX10_text 355 = .ok (.new 103, 3) := by decide +kernel
theorem dX10_text_358 : decode cX10_text 358 = .ok (.dup, 1) := by decide +kernel
theorem dX10_text_359 : decode cX10_text 359 = .ok (.invokespecial 105, 3) := by decide +kernel
theorem dX10_text_362 : decode cX10_text 362 = .ok (.aload_n 2, 1) := by decide +kernel
theorem dX10_text_363 : decode cX10_text 363 = .ok (.aload_n 0, 1) := by decide +kernel
theorem dX10_text_364 : decode cX10_text 364 = .ok (.getfield 7, 3) := by decide +kernel
theorem dX10_text_367 : decode cX10_text 367 = .ok (.bipush 9, 2) := by decide +kernel
theorem dX10_text_369 : decode cX10_text 369 = .ok (.isub, 1) := by decide +kernel
theorem dX10_text_370 : decode cX10_text 370 = .ok (.aaload, 1) := by decide +kernel
theorem dX10_text_371 : decode cX10_text 371 = .ok (.invokevirtual 106, 3) := by decide +kernel
theorem dX10_text_374 : decode cX10_text 374 = .ok (.aload_n 0, 1) := by decide +kernel
theorem dX10_text_375 : decode cX10_text 375 = .ok (.getfield 40, 3) := by decide +kernel
theorem dX10_text_378 : decode cX10_text 378 = .ok (.invokevirtual 121, 3) := by decide +kernel
theorem dX10_text_381 : decode cX10_text 381 = .ok (.invokevirtual 106, 3) := by decide +kernel
theorem dX10_text_384 : decode cX10_text 384 = .ok (.ldc 130, 2) := by decide +kernel
theorem dX10_text_386 : decode cX10_text 386 = .ok (.invokevirtual 106, 3) := by decide +kernel
theorem dX10_text_389 : decode cX10_text 389 = .ok (.aload_n 0, 1) := by decide +kernel
theorem dX10_text_390 : decode cX10_text 390 = .ok (.getfield 58, 3) := by decide +kernel
theorem dX10_text_393 : decode cX10_text 393 = .ok (.invokevirtual 121, 3) := by decide +kernel
theorem dX10_text_396 : decode cX10_text 396 = .ok (.invokevirtual 106, 3) := by decide +kernel
theorem dX10_text_399 : decode cX10_text 399 = .ok (.ldc 124, 2) := by decide +kernel
theorem dX10_text_401 : decode cX10_text 401 = .ok (.invokevirtual 106, 3) := by decide +kernel
theorem dX10_text_404 : decode cX10_text 404 = .ok (.invokevirtual 113, 3) := by decide +kernel
theorem dX10_text_407 : decode cX10_text 407 = .ok (.areturn, 1) := by decide +kernel
theorem dX10_text_408 : decode cX10_text 408 = .ok (.aload_n 0, 1) := by decide +kernel
theorem dX10_text_409 : decode cX10_text 409 = .ok (.getfield 7, 3) := by decide +kernel
theorem dX10_text_412 : decode cX10_text 412 = .ok (.bipush 25, 2) := by decide +kernel
theorem dX10_text_414 : decode cX10_text 414 = .ok (.if_icmp .ge 46, 3) := by decide +kernel
theorem dX10_text_417 : decode cX10_text 417 = .ok (.new 103, 3) := by decide +kernel
theorem dX10_text_420 : decode cX10_text 420 = .ok (.dup, 1) := by decide +kernel
theorem dX10_text_421 : decode cX10_text 421 = .ok (.invokespecial 105, 3) := by decide +kernel
theorem dX10_text_424 : decode cX10_text 424 = .ok (.aload_n 0, 1) := by decide +kernel
theorem dX10_text_425 : decode cX10_text 425 = .ok (.getfield 40, 3) := by decide +kernel
theorem dX10_text_428 : decode cX10_text 428 = .ok (.invokevirtual 121, 3) := by decide +kernel
theorem dX10_text_431 : decode cX10_text 431 = .ok (.invokevirtual 106, 3) := by decide +kernel
theorem dX10_text_434 : decode cX10_text 434 = .ok (.aload_n 3, 1) := by decide +kernel
theorem dX10_text_435 : decode cX10_text 435 = .ok (.aload_n 0, 1) := by decide +kernel
theorem dX10_text_436 : decode cX10_text 436 = .ok (.getfield 7, 3) := by decide +kernel
theorem dX10_text_439 : decode cX10_text 439 = .ok (.bipush 20, 2) := by decide +kernel
theorem dX10_text_441 : decode cX10_text 441 = .ok (.isub, 1) := by decide +kernel
theorem dX10_text_442 : decode cX10_text 442 = .ok (.aaload, 1) := by decide +kernel
theorem dX10_text_443 : decode cX10_text 443 = .ok (.invokevirtual 106, 3) := by decide +kernel
theorem dX10_text_446 : decode cX10_text 446 = .ok (.aload_n 0, 1) := by decide +kernel
theorem dX10_text_447 : decode cX10_text 447 = .ok (.getfield 58, 3) := by decide +kernel
theorem dX10_text_450 : decode cX10_text 450 = .ok (.invokevirtual 121, 3) := by decide +kernel
theorem dX10_text_453 : decode cX10_text 453 = .ok (.invokevirtual 106, 3) := by decide +kernel
theorem dX10_text_456 : decode cX10_text 456 = .ok (.invokevirtual 113, 3) := by decide +kernel
theorem dX10_text_459 : decode cX10_text 459 = .ok (.areturn, 1) := by decide +kernel
theorem dX10_text_460 : decode cX10_text 460 = .ok (.aload_n 0, 1) := by decide +kernel
theorem dX10_text_461 : decode cX10_text 461 = .ok (.getfield 7, 3) := by decide +kernel
theorem dX10_text_464 : decode cX10_text 464 = .ok (.bipush 25, 2) := by decide +kernel
theorem dX10_text_466 : decode cX10_text 466 = .ok (.if_icmp .ne 31, 3) := by decide +kernel
theorem dX10_text_469 : decode cX10_text 469 = .ok (.new 103, 3) := by decide +kernel
theorem dX10_text_472 : decode cX10_text 472 = .ok (.dup, 1) := by decide +kernel
theorem dX10_text_473 : decode cX10_text 473 = .ok (.invokespecial 105, 3) := by decide +kernel
theorem dX10_text_476 : decode cX10_text 476 = .ok (.ldc 132, 2) := by decide +kernel
theorem dX10_text_478 : decode cX10_text 478 = .ok (.invokevirtual 106, 3) := by decide +kernel
theorem dX10_text_481 : decode cX10_text 481 = .ok (.aload_n 0, 1) := by decide +kernel
theorem dX10_text_482 : decode cX10_text 482 = .ok (.getfield 13, 3) := by decide +kernel
theorem dX10_text_485 : decode cX10_text 485 = .ok (.invokevirtual 110, 3) := by decide +kernel
theorem dX10_text_488 : decode cX10_text 488 = .ok (.ldc 117, 2) := by decide +kernel
theorem dX10_text_490 : decode cX10_text 490 = .ok (.invokevirtual 106, 3) := by decide +kernel
theorem dX10_text_493 : decode cX10_text 493 = .ok (.invokevirtual 113, 3) := by decide +kernel
theorem dX10_text_496 : decode cX10_text 496 = .ok (.areturn, 1) := by decide +kernel
theorem dX10_text_497 : decode cX10_text 497 = .ok (.aload_n 0, 1) := by decide +kernel
theorem dX10_text_498 : decode cX10_text 498 = .ok (.getfield 7, 3) := by decide +kernel
theorem dX10_text_501 : decode cX10_text 501 = .ok (.bipush 26, 2) := by decide +kernel
theorem dX10_text_503 : decode cX10_text 503 = .ok (.if_icmp .ne 29, 3) := by decide +kernel
theorem dX10_text_506 : decode cX10_text 506 = .ok (.new 103, 3) := by decide +kernel
theorem dX10_text_509 : decode cX10_text 509 = .ok (.dup, 1) := by decide +kernel
theorem dX10_text_510 : decode cX10_text 510 = .ok (.invokespecial 105, 3) := by decide +kernel
theorem dX10_text_513 : decode cX10_text 513 = .ok (.ldc 134, 2) := by decide +kernel
theorem dX10_text_515 : decode cX10_text 515 = .ok (.invokevirtual 106, 3) := by decide +kernel
theorem dX10_text_518 : decode cX10_text 518 = .ok (.aload_n 0, 1) := by decide +kernel
theorem dX10_text_519 : decode cX10_text 519 = .ok (.getfield 40, 3) := by decide +kernel
theorem dX10_text_522 : decode cX10_text 522 = .ok (.invokevirtual 121, 3) := by decide +kernel
theorem dX10_text_525 : decode cX10_text 525 = .ok (.invokevirtual 106, 3) := by decide +kernel
theorem dX10_text_528 : decode cX10_text 528 = .ok (.invokevirtual 113, 3) := by decide +kernel
theorem dX10_text_531 : decode cX10_text 531 = .ok (.areturn, 1) := by decide +kernel
theorem dX10_text_532 : decode cX10_text 532 = .ok (.aload_n 0, 1) := by decide +kernel
theorem dX10_text_533 : decode cX10_text 533 = .ok (.getfield 7, 3) := by decide +kernel
theorem dX10_text_536 : decode cX10_text 536 = .ok (.bipush 29, 2) := by decide +kernel
theorem dX10_text_538 : decode cX10_text 538 = .ok (.if_icmp .ne 36, 3) := by decide +kernel
theorem dX10_text_541 : decode cX10_text 541 = .ok (.new 103, 3) := by decide +kernel
theorem dX10_text_544 : decode cX10_text 544 = .ok (.dup, 1) := by decide +kernel
theorem dX10_text_545 : decode cX10_text 545 = .ok (.invokespecial 105, 3) := by decide +kernel
theorem dX10_text_548 : decode cX10_text 548 = .ok (.ldc 136, 2) := by decide +kernel
theorem dX10_text_550 : decode cX10_text 550 = .ok (.invokevirtual 106, 3) := by decide +kernel
theorem dX10_text_553 : decode cX10_text 553 = .ok (.aload_n 0, 1) := by decide +kernel
theorem dX10_text_554 : decode cX10_text 554 = .ok (.getfield 40, 3) := by decide +kernel
theorem dX10_text_557 : decode cX10_text 557 = .ok (.invokevirtual 121, 3) := by decide +kernel
theorem dX10_text_560 : decode cX10_text 560 = .ok (.invokevirtual 106, 3) := by decide +kernel
theorem dX10_text_563 : decode cX10_text 563 = .ok (.ldc 138, 2) := by decide +kernel
theorem dX10_text_565 : decode cX10_text 565 = .ok (.invokevirtual 106, 3) := by decide +kernel
theorem dX10_text_568 : decode cX10_text 568 = .ok (.invokevirtual 113, 3) := by decide +kernel
theorem dX10_text_571 : decode cX10_text 571 = .ok (.goto 72, 3) := by decide +kernel
theorem dX10_text_574 : decode cX10_text 574 = .ok (.new 103, 3) := by decide +kernel
theorem dX10_text_577 : decode cX10_text 577 = .ok (.dup, 1) := by decide +kernel
theorem dX10_text_578 : decode cX10_text 578 = .ok (.invokespecial 105, 3) := by decide +kernel
theorem dX10_text_581 : decode cX10_text 581 = .ok (.ldc 140, 2) := by decide +kernel
theorem dX10_text_583 : decode cX10_text 583 = .ok (.invokevirtual 106, 3) := by decide +kernel
theorem dX10_text_586 : decode cX10_text 586 = .ok (.aload_n 0, 1) := by decide +kernel
theorem dX10_text_587 : decode cX10_text 587 = .ok (.getfield 40, 3) := by decide +kernel
theorem dX10_text_590 : decode cX10_text 590 = .ok (.invokevirtual 121, 3) := by decide +kernel
theorem dX10_text_593 : decode cX10_text 593 = .ok (.invokevirtual 106, 3) := by decide +kernel
theorem dX10_text_596 : decode cX10_text 596 = .ok (.ldc 138, 2) := by decide +kernel
theorem dX10_text_598 : decode cX10_text 598 = .ok (.invokevirtual 106, 3) := by decide +kernel
theorem dX10_text_601 : decode cX10_text 601 = .ok (.aload_n 0, 1) := by decide +kernel
theorem dX10_text_602 : decode cX10_text 602 = .ok (.getfield 7, 3) := by decide +kernel
theorem dX10_text_605 : decode cX10_text 605 = .ok (.bipush 30, 2) := by decide +kernel
theorem dX10_text_607 : decode cX10_text 607 = .ok (.if_icmp .ne 8, 3) := by decide +kernel
theorem dX10_text_610 : decode cX10_text 610 = .ok (.ldc 142, 2) := by decide +kernel
theorem dX10_text_612 : decode cX10_text 612 = .ok (.goto 5, 3) := by decide +kernel
theorem dX10_text_615 : decode cX10_text 615 = .ok (.ldc 144, 2) := by decide +kernel
theorem dX10_text_617 : decode cX10_text 617 = .ok (.invokevirtual 106, 3) := by decide +kernel
theorem dX10_text_620 : decode cX10_text 620 = .ok (.ldc 140, 2) := by decide +kernel
theorem dX10_text_622 : decode cX10_text 622 = .ok (.invokevirtual 106, 3) := by decide +kernel
theorem dX10_text_625 : decode cX10_text 625 = .ok (.aload_n 0, 1) := by decide +kernel
theorem dX10_text_626 : decode cX10_text 626 = .ok (.getfield 58, 3) := by decide +kernel
theorem dX10_text_629 : decode cX10_text 629 = .ok (.invokevirtual 121, 3) := by decide +kernel
theorem dX10_text_632 : decode cX10_text 632 = .ok (.invokevirtual 106, 3) := by decide +kernel
theorem dX10_text_635 : decode cX10_text 635 = .ok (.ldc 138, 2) := by decide +kernel
theorem dX10_text_637 : decode cX10_text 637 = .ok (.invokevirtual 106, 3) := by decide +kernel
theorem dX10_text_640 : decode cX10_text 640 = .ok (.invokevirtual 113, 3) := by decide +kernel
theorem dX10_text_643 : decode cX10_text 643 = .ok (.areturn, 1) := by decide +kernel
theorem dL_below_0 : decode cL_below 0 = .ok (.iload_n 0, 1) := by decide +kernel
theorem dL_below_1 : decode cL_below 1 = .ok (.ldc 7, 2) := by decide +kernel
theorem dL_below_3 : decode cL_below 3 = .ok (.iand, 1) := by decide +kernel
theorem dL_below_4 : decode cL_below 4 = .ok (.iload_n 1, 1) := by decide +kernel
theorem dL_below_5 : decode cL_below 5 = .ok (.irem, 1) := by decide +kernel
theorem dL_below_6 : decode cL_below 6 = .ok (.ireturn, 1) := by decide +kernel
theorem dL_cell_0 : decode cL_cell 0 = .ok (.iload_n 1, 1) := by decide +kernel
theorem dL_cell_1 : decode cL_cell 1 = .ok (.aload_n 0, 1) := by decide +kernel
theorem dL_cell_2 : decode cL_cell 2 = .ok (.arraylength, 1) := by decide +kernel
theorem dL_cell_3 : decode cL_cell 3 = .ok (.if_icmp .ge 9, 3) := by decide +kernel
theorem dL_cell_6 : decode cL_cell 6 = .ok (.aload_n 0, 1) := by decide +kernel
theorem dL_cell_7 : decode cL_cell 7 = .ok (.iload_n 1, 1) := by decide +kernel
theorem dL_cell_8 : decode cL_cell 8 = .ok (.iaload, 1) := by decide +kernel
theorem dL_cell_9 : decode cL_cell 9 = .ok (.goto 9, 3) := by decide +kernel
theorem dL_cell_12 : decode cL_cell 12 = .ok (.ldc 8, 2) := by decide +kernel
theorem dL_cell_14 : decode cL_cell 14 = .ok (.iload_n 1, 1) := by decide +kernel
theorem dL_cell_15 : decode cL_cell 15 = .ok (.iconst 3, 1) := by decide +kernel
theorem dL_cell_16 : decode cL_cell 16 = .ok (.iadd, 1) := by decide +kernel
theorem dL_cell_17 : decode cL_cell 17 = .ok (.imul, 1) := by decide +kernel
theorem dL_cell_18 : decode cL_cell 18 = .ok (.ireturn, 1) := by decide +kernel
theorem dL_taught_0 : decode cL_taught 0 = .ok (.iconst 5, 1) := by decide +kernel
theorem dL_taught_1 : decode cL_taught 1 = .ok (.newarray .int, 2) := by decide +kernel
theorem dL_taught_3 : decode cL_taught 3 = .ok (.astore_n 2, 1) := by decide +kernel
theorem dL_taught_4 : decode cL_taught 4 = .ok (.iconst 0, 1) := by decide +kernel
theorem dL_taught_5 : decode cL_taught 5 = .ok (.istore_n 3, 1) := by decide +kernel
theorem dL_taught_6 : decode cL_taught 6 = .ok (.iload_n 3, 1) := by decide +kernel
theorem dL_taught_7 : decode cL_taught 7 = .ok (.aload_n 1, 1) := by decide +kernel
theorem dL_taught_8 : decode cL_taught 8 = .ok (.invokevirtual 9, 3) := by decide +kernel
theorem dL_taught_11 : decode cL_taught 11 = .ok (.if_icmp .ge 108, 3) := by decide +kernel
theorem dL_taught_14 : decode cL_taught 14 = .ok (.iconst 0, 1) := by decide +kernel
theorem dL_taught_15 : decode cL_taught 15 = .ok (.istore 4, 2) := by decide +kernel
theorem dL_taught_17 : decode cL_taught 17 = .ok (.iload 4, 2) := by decide +kernel
theorem dL_taught_19 : decode cL_taught 19 = .ok (.iconst 5, 1) := by decide +kernel
theorem dL_taught_20 : decode cL_taught 20 = .ok (.if_icmp .ge 73, 3) := by decide +kernel
theorem dL_taught_23 : decode cL_taught 23 = .ok (.aload_n 2, 1) := by decide +kernel
theorem dL_taught_24 : decode cL_taught 24 = .ok (.iload 4, 2) := by decide +kernel
theorem dL_taught_26 : decode cL_taught 26 = .ok (.iconst 0, 1) := by decide +kernel
theorem dL_taught_27 : decode cL_taught 27 = .ok (.iastore, 1) := by decide +kernel
theorem dL_taught_28 : decode cL_taught 28 = .ok (.iload_n 3, 1) := by decide +kernel
theorem dL_taught_29 : decode cL_taught 29 = .ok (.iconst 4, 1) := by decide +kernel
theorem dL_taught_30 : decode cL_taught 30 = .ok (.iload 4, 2) := by decide +kernel
theorem dL_taught_32 : decode cL_taught 32 = .ok (.imul, 1) := by decide +kernel
theorem dL_taught_33 : decode cL_taught 33 = .ok (.iadd, 1) := by decide +kernel
theorem dL_taught_34 : decode cL_taught 34 = .ok (.istore 5, 2) := by decide +kernel
theorem dL_taught_36 : decode cL_taught 36 = .ok (.iload 5, 2) := by decide +kernel
theorem dL_taught_38 : decode cL_taught 38 = .ok (.iload_n 3, 1) := by decide +kernel
theorem dL_taught_39 : decode cL_taught 39 = .ok (.iconst 4, 1) := by decide +kernel
theorem dL_taught_40 : decode cL_taught 40 = .ok (.iload 4, 2) := by decide +kernel
theorem dL_taught_42 : decode cL_taught 42 = .ok (.imul, 1) := by decide +kernel
theorem dL_taught_43 : decode cL_taught 43 = .ok (.iadd, 1) := by decide +kernel
theorem dL_taught_44 : decode cL_taught 44 = .ok (.iconst 4, 1) := by decide +kernel
theorem dL_taught_45 : decode cL_taught 45 = .ok (.iadd, 1) := by decide +kernel
theorem dL_taught_46 : decode cL_taught 46 = .ok (.if_icmp .ge 41, 3) := by decide +kernel
theorem dL_taught_49 : decode cL_taught 49 = .ok (.aload_n 2, 1) := by decide +kernel
theorem dL_taught_50 : decode cL_taught 50 = .ok (.iload 4, 2) := by decide +kernel
theorem dL_taught_52 : decode cL_taught 52 = .ok (.aload_n 2, 1) := by decide +kernel
theorem dL_taught_53 : decode cL_taught 53 = .ok (.iload 4, 2) := by decide +kernel
theorem dL_taught_55 : decode cL_taught 55 = .ok (.iaload, 1) := by decide +kernel
theorem dL_taught_56 : decode cL_taught 56 = .ok (.bipush 8, 2) := by decide +kernel
theorem dL_taught_58 : decode cL_taught 58 = .ok (.ishl, 1) := by decide +kernel
theorem dL_taught_59 : decode cL_taught 59 = .ok (.iload 5, 2) := by decide +kernel
theorem dL_taught_61 : decode cL_taught 61 = .ok (.aload_n 1, 1) := by decide +kernel
theorem dL_taught_62 : decode cL_taught 62 = .ok (.invokevirtual 9, 3) := by decide +kernel
theorem dL_taught_65 : decode cL_taught 65 = .ok (.if_icmp .ge 12, 3) := by decide +kernel
theorem dL_taught_68 : decode cL_taught 68 = .ok (.aload_n 1, 1) := by decide +kernel
theorem dL_taught_69 : decode cL_taught 69 = .ok (.iload 5, 2) := by decide +kernel
theorem dL_taught_71 : decode cL_taught 71 = .ok (.invokevirtual 15, 3) := by decide +kernel
theorem dL_taught_74 : decode cL_taught 74 = .ok (.goto 5, 3) := by decide +kernel
theorem dL_taught_77 : decode cL_taught 77 = .ok (.bipush 32, 2) := by decide +kernel
theorem dL_taught_79 : decode cL_taught 79 = .ok (.ior, 1) := by decide +kernel
theorem dL_taught_80 : decode cL_taught 80 = .ok (.iastore, 1) := by decide +kernel
theorem dL_taught_81 : decode cL_taught 81 = .ok (.iinc 5 1, 3) := by decide +kernel
theorem dL_taught_84 : decode cL_taught 84 = .ok (.goto (-48), 3) := by decide +kernel
theorem dL_taught_87 : decode cL_taught 87 = .ok (.iinc 4 1, 3) := by decide +kernel
theorem dL_taught_90 : decode cL_taught 90 = .ok (.goto (-73), 3) := by decide +kernel
theorem dL_taught_93 : decode cL_taught 93 = .ok (.aload_n 0, 1) := by decide +kernel
theorem dL_taught_94 : decode cL_taught 94 = .ok (.aload_n 2, 1) := by decide +kernel
theorem dL_taught_95 : decode cL_taught 95 = .ok (.iconst 0, 1) := by decide +kernel
theorem dL_taught_96 : decode cL_taught 96 = .ok (.iaload, 1) := by decide +kernel
theorem dL_taught_97 : decode cL_taught 97 = .ok (.aload_n 2, 1) := by decide +kernel
theorem dL_taught_98 : decode cL_taught 98 = .ok (.iconst 1, 1) := by decide +kernel
theorem dL_taught_99 : decode cL_taught 99 = .ok (.iaload, 1) := by decide +kernel
theorem dL_taught_100 : decode cL_taught 100 = .ok (.aload_n 2, 1) := by decide +kernel
theorem dL_taught_101 : decode cL_taught 101 = .ok (.iconst 2, 1) := by decide +kernel
theorem dL_taught_102 : decode cL_taught 102 = .ok (.iaload, 1) := by decide +kernel
theorem dL_taught_103 : decode cL_taught 103 = .ok (.aload_n 2, 1) := by decide +kernel
theorem dL_taught_104 : decode cL_taught 104 = .ok (.iconst 3, 1) := by decide +kernel
theorem dL_taught_105 : decode cL_taught 105 = .ok (.iaload, 1) := by decide +kernel
theorem dL_taught_106 : decode cL_taught 106 = .ok (.aload_n 2, 1) := by decide +kernel
theorem dL_taught_107 : decode cL_taught 107 = .ok (.iconst 4, 1) := by decide +kernel
theorem dL_taught_108 : decode cL_taught 108 = .ok (.iaload, 1) := by decide +kernel
theorem dL_taught_109 : decode cL_taught 109 = .ok (.invokevirtual 19, 3) := by decide +kernel
theorem dL_taught_112 : decode cL_taught 112 = .ok (.pop, 1) := by decide +kernel
theorem dL_taught_113 : decode cL_taught 113 = .ok (.iinc 3 20, 3) := by decide +kernel
theorem dL_taught_116 : decode cL_taught 116 = .ok (.goto (-110), 3) := by decide +kernel
theorem dL_taught_119 : decode cL_taught 119 = .ok (.aload_n 0, 1) := by decide +kernel
theorem dL_taught_120 : decode cL_taught 120 = .ok (.aload_n 1, 1) := by decide +kernel
theorem dL_taught_121 : decode cL_taught 121 = .ok (.invokevirtual 9, 3) := by decide +kernel
theorem dL_taught_124 : decode cL_taught 124 = .ok (.invokevirtual 25, 3) := by decide +kernel
theorem dL_taught_127 : decode cL_taught 127 = .ok (.pop, 1) := by decide +kernel
theorem dL_taught_128 : decode cL_taught 128 = .ok (.aload_n 0, 1) := by decide +kernel
theorem dL_taught_129 : decode cL_taught 129 = .ok (.invokevirtual 29, 3) := by decide +kernel
theorem dL_taught_132 : decode cL_taught 132 = .ok (.ireturn, 1) := by decide +kernel
theorem dL_sum_0 : decode cL_sum 0 = .ok (.new 32, 3) := by decide +kernel
theorem dL_sum_3 : decode cL_sum 3 = .ok (.dup, 1) := by decide +kernel
theorem dL_sum_4 : decode cL_sum 4 = .ok (.invokespecial 34, 3) := by decide +kernel
theorem dL_sum_7 : decode cL_sum 7 = .ok (.astore_n 3, 1) := by decide +kernel
theorem dL_sum_8 : decode cL_sum 8 = .ok (.iload_n 0, 1) := by decide +kernel
theorem dL_sum_9 : decode cL_sum 9 = .ok (.bipush 20, 2) := by decide +kernel
theorem dL_sum_11 : decode cL_sum 11 = .ok (.invokestatic 35, 3) := by decide +kernel
theorem dL_sum_14 : decode cL_sum 14 = .ok (.istore 4, 2) := by decide +kernel
theorem dL_sum_16 : decode cL_sum 16 = .ok (.aload_n 3, 1) := by decide +kernel
theorem dL_sum_17 : decode cL_sum 17 = .ok (.iload 4, 2) := by decide +kernel
theorem dL_sum_19 : decode cL_sum 19 = .ok (.bipush 6, 2) := by decide +kernel
theorem dL_sum_21 : decode cL_sum 21 = .ok (.if_icmp .lt 15, 3) := by decide +kernel
theorem dL_sum_24 : decode cL_sum 24 = .ok (.iload_n 2, 1) := by decide +kernel
theorem dL_sum_25 : decode cL_sum 25 = .ok (.iconst 1, 1) := by decide +kernel
theorem dL_sum_26 : decode cL_sum 26 = .ok (.if_icmp .le 14, 3) := by decide +kernel
theorem dL_sum_29 : decode cL_sum 29 = .ok (.iload 4, 2) := by decide +kernel
theorem dL_sum_31 : decode cL_sum 31 = .ok (.bipush 11, 2) := by decide +kernel
theorem dL_sum_33 : decode cL_sum 33 = .ok (.if_icmp .le 7, 3) := by decide +kernel
theorem dL_sum_36 : decode cL_sum 36 = .ok (.iconst 0, 1) := by decide +kernel
theorem dL_sum_37 : decode cL_sum 37 = .ok (.goto 28, 3) := by decide +kernel
theorem dL_sum_40 : decode cL_sum 40 = .ok (.iload 4, 2) := by decide +kernel
theorem dL_sum_42 : decode cL_sum 42 = .ok (.bipush 12, 2) := by decide +kernel
theorem dL_sum_44 : decode cL_sum 44 = .ok (.if_icmp .ge 13, 3) := by decide +kernel
theorem dL_sum_47 : decode cL_sum 47 = .ok (.iconst 1, 1) := by decide +kernel
theorem dL_sum_48 : decode cL_sum 48 = .ok (.iload 4, 2) := by decide +kernel
theorem dL_sum_50 : decode cL_sum 50 = .ok (.bipush 6, 2) := by decide +kernel
theorem dL_sum_52 : decode cL_sum 52 = .ok (.irem, 1) := by decide +kernel
theorem dL_sum_53 : decode cL_sum 53 = .ok (.iadd, 1) := by decide +kernel
theorem dL_sum_54 : decode cL_sum 54 = .ok (.goto 11, 3) := by decide +kernel
theorem dL_sum_57 : decode cL_sum 57 = .ok (.bipush 7, 2) := by decide +kernel
theorem dL_sum_59 : decode cL_sum 59 = .ok (.iload 4, 2) := by decide +kernel
theorem dL_sum_61 : decode cL_sum 61 = .ok (.bipush 8, 2) := by decide +kernel
theorem dL_sum_63 : decode cL_sum 63 = .ok (.irem, 1) := by decide +kernel
theorem dL_sum_64 : decode cL_sum 64 = .ok (.iadd, 1) := by decide +kernel
theorem dL_sum_65 : decode cL_sum 65 = .ok (.putfield 41, 3) := by decide +kernel
theorem dL_sum_68 : decode cL_sum 68 = .ok (.iload_n 1, 1) := by decide +kernel
theorem dL_sum_69 : decode cL_sum 69 = .ok (.ifCond .ne 30, 3) := by decide +kernel
theorem dL_sum_72 : decode cL_sum 72 = .ok (.aload_n 3, 1) := by decide +kernel
theorem dL_sum_73 : decode cL_sum 73 = .ok (.getfield 41, 3) := by decide +kernel
theorem dL_sum_76 : decode cL_sum 76 = .ok (.iconst 5, 1) := by decide +kernel
theorem dL_sum_77 : decode cL_sum 77 = .ok (.if_icmp .eq 12, 3) := by decide +kernel
theorem dL_sum_80 : decode cL_sum 80 = .ok (.aload_n 3, 1) := by decide +kernel
theorem dL_sum_81 : decode cL_sum 81 = .ok (.getfield 41, 3) := by decide +kernel
theorem dL_sum_84 : decode cL_sum 84 = .ok (.bipush 6, 2) := by decide +kernel
theorem dL_sum_86 : decode cL_sum 86 = .ok (.if_icmp .ne 13, 3) := by decide +kernel
theorem dL_sum_89 : decode cL_sum 89 = .ok (.aload_n 3, 1) := by decide +kernel
theorem dL_sum_90 : decode cL_sum 90 = .ok (.dup, 1) := by decide +kernel
theorem dL_sum_91 : decode cL_sum 91 = .ok (.getfield 41, 3) := by decide +kernel
theorem dL_sum_94 : decode cL_sum 94 = .ok (.iconst 4, 1) := by decide +kernel
theorem dL_sum_95 : decode cL_sum 95 = .ok (.isub, 1) := by decide +kernel
theorem dL_sum_96 : decode cL_sum 96 = .ok (.putfield 41, 3) := by decide +kernel
theorem dL_sum_99 : decode cL_sum 99 = .ok (.aload_n 3, 1) := by decide +kernel
theorem dL_sum_100 : decode cL_sum 100 = .ok (.aload_n 3, 1) := by decide +kernel
theorem dL_sum_101 : decode cL_sum 101 = .ok (.getfield 41, 3) := by decide +kernel
theorem dL_sum_104 : decode cL_sum 104 = .ok (.ifCond .ne 31, 3) := by decide +kernel
theorem dL_sum_107 : decode cL_sum 107 = .ok (.iload_n 0, 1) := by decide +kernel
theorem dL_sum_108 : decode cL_sum 108 = .ok (.iconst 3, 1) := by decide +kernel
theorem dL_sum_109 : decode cL_sum 109 = .ok (.ishr, 1) := by decide +kernel
theorem dL_sum_110 : decode cL_sum 110 = .ok (.iload_n 0, 1) := by decide +kernel
theorem dL_sum_111 : decode cL_sum 111 = .ok (.bipush 7, 2) := by decide +kernel
theorem dL_sum_113 : decode cL_sum 113 = .ok (.ishr, 1) := by decide +kernel
theorem dL_sum_114 : decode cL_sum 114 = .ok (.bipush 6, 2) := by decide +kernel
theorem dL_sum_116 : decode cL_sum 116 = .ok (.invokestatic 35, 3) := by decide +kernel
theorem dL_sum_119 : decode cL_sum 119 = .ok (.ifCond .ne 8, 3) := by decide +kernel
theorem dL_sum_122 : decode cL_sum 122 = .ok (.ldc 45, 2) := by decide +kernel
theorem dL_sum_124 : decode cL_sum 124 = .ok (.goto 5, 3) := by decide +kernel
theorem dL_sum_127 : decode cL_sum 127 = .ok (.bipush 11, 2) := by decide +kernel
theorem dL_sum_129 : decode cL_sum 129 = .ok (.invokestatic 35, 3) := by decide +kernel
theorem dL_sum_132 : decode cL_sum 132 = .ok (.goto 18, 3) := by decide +kernel
theorem dL_sum_135 : decode cL_sum 135 = .ok (.iload_n 1, 1) := by decide +kernel
theorem dL_sum_136 : decode cL_sum 136 = .ok (.ifCond .ne 7, 3) := by decide +kernel
theorem dL_sum_139 : decode cL_sum 139 = .ok (.iconst 0, 1) := by decide +kernel
theorem dL_sum_140 : decode cL_sum 140 = .ok (.goto 10, 3) := by decide +kernel
theorem dL_sum_143 : decode cL_sum 143 = .ok (.iload_n 0, 1) := by decide +kernel
theorem dL_sum_144 : decode cL_sum 144 = .ok (.iconst 4, 1) := by decide +kernel
theorem dL_sum_145 : decode cL_sum 145 = .ok (.ishr, 1) := by decide +kernel
theorem dL_sum_146 : decode cL_sum 146 = .ok (.iload_n 1, 1) := by decide +kernel
theorem dL_sum_147 : decode cL_sum 147 = .ok (.invokestatic 35, 3) := by decide +kernel
theorem dL_sum_150 : decode cL_sum 150 = .ok (.putfield 46, 3) := by decide +kernel
theorem dL_sum_153 : decode cL_sum 153 = .ok (.aload_n 3, 1) := by decide +kernel
theorem dL_sum_154 : decode cL_sum 154 = .ok (.getfield 41, 3) := by decide +kernel
theorem dL_sum_157 : decode cL_sum 157 = .ok (.bipush 7, 2) := by decide +kernel
theorem dL_sum_159 : decode cL_sum 159 = .ok (.if_icmp .lt 19, 3) := by decide +kernel
theorem dL_sum_162 : decode cL_sum 162 = .ok (.aload_n 3, 1) := by decide +kernel
theorem dL_sum_163 : decode cL_sum 163 = .ok (.iload_n 0, 1) := by decide +kernel
theorem dL_sum_164 : decode cL_sum 164 = .ok (.iconst 3, 1) := by decide +kernel
theorem dL_sum_165 : decode cL_sum 165 = .ok (.imul, 1) := by decide +kernel
theorem dL_sum_166 : decode cL_sum 166 = .ok (.iconst 1, 1) := by decide +kernel
theorem dL_sum_167 : decode cL_sum 167 = .ok (.iadd, 1) := by decide +kernel
theorem dL_sum_168 : decode cL_sum 168 = .ok (.iload_n 1, 1) := by decide +kernel
theorem dL_sum_169 : decode cL_sum 169 = .ok (.iload_n 2, 1) := by decide +kernel
theorem dL_sum_170 : decode cL_sum 170 = .ok (.iconst 1, 1) := by decide +kernel
theorem dL_sum_171 : decode cL_sum 171 = .ok (.iadd, 1) := by decide +kernel
theorem dL_sum_172 : decode cL_sum 172 = .ok (.invokestatic 49, 3) := by decide +kernel
theorem dL_sum_175 : decode cL_sum 175 = .ok (.putfield 53, 3) := by decide +kernel
theorem dL_sum_178 : decode cL_sum 178 = .ok (.aload_n 3, 1) := by decide +kernel
theorem dL_sum_179 : decode cL_sum 179 = .ok (.getfield 41, 3) := by decide +kernel
theorem dL_sum_182 : decode cL_sum 182 = .ok (.bipush 9, 2) := by decide +kernel
theorem dL_sum_184 : decode cL_sum 184 = .ok (.if_icmp .lt 19, 3) := by decide +kernel
theorem dL_sum_187 : decode cL_sum 187 = .ok (.aload_n 3, 1) := by decide +kernel
theorem dL_sum_188 : decode cL_sum 188 = .ok (.iload_n 0, 1) := by decide +kernel
theorem dL_sum_189 : decode cL_sum 189 = .ok (.iconst 5, 1) := by decide +kernel
theorem dL_sum_190 : decode cL_sum 190 = .ok (.imul, 1) := by decide +kernel
theorem dL_sum_191 : decode cL_sum 191 = .ok (.iconst 2, 1) := by decide +kernel
theorem dL_sum_192 : decode cL_sum 192 = .ok (.iadd, 1) := by decide +kernel
theorem dL_sum_193 : decode cL_sum 193 = .ok (.iload_n 1, 1) := by decide +kernel
theorem dL_sum_194 : decode cL_sum 194 = .ok (.iload_n 2, 1) := by decide +kernel
theorem dL_sum_195 : decode cL_sum 195 = .ok (.iconst 1, 1) := by decide +kernel
theorem dL_sum_196 : decode cL_sum 196 = .ok (.iadd, 1) := by decide +kernel
theorem dL_sum_197 : decode cL_sum 197 = .ok (.invokestatic 49, 3) := by decide +kernel
theorem dL_sum_200 : decode cL_sum 200 = .ok (.putfield 57, 3) := by decide +kernel
theorem dL_sum_203 : decode cL_sum 203 = .ok (.aload_n 3, 1) := by decide +kernel
theorem dL_sum_204 : decode cL_sum 204 = .ok (.areturn, 1) := by decide +kernel
theorem dL_test_0 : decode cL_test 0 = .ok (.new 32, 3) := by decide +kernel
theorem dL_test_3 : decode cL_test 3 = .ok (.dup, 1) := by decide +kernel
theorem dL_test_4 : decode cL_test 4 = .ok (.invokespecial 34, 3) := by decide +kernel
theorem dL_test_7 : decode cL_test 7 = .ok (.astore_n 3, 1) := by decide +kernel
theorem dL_test_8 : decode cL_test 8 = .ok (.iload_n 0, 1) := by decide +kernel
theorem dL_test_9 : decode cL_test 9 = .ok (.iconst 1, 1) := by decide +kernel
theorem dL_test_10 : decode cL_test 10 = .ok (.ishr, 1) := by decide +kernel
theorem dL_test_11 : decode cL_test 11 = .ok (.bipush 14, 2) := by decide +kernel
theorem dL_test_13 : decode cL_test 13 = .ok (.invokestatic 35, 3) := by decide +kernel
theorem dL_test_16 : decode cL_test 16 = .ok (.istore 4, 2) := by decide +kernel
theorem dL_test_18 : decode cL_test 18 = .ok (.aload_n 3, 1) := by decide +kernel
theorem dL_test_19 : decode cL_test 19 = .ok (.iload 4, 2) := by decide +kernel
theorem dL_test_21 : decode cL_test 21 = .ok (.bipush 6, 2) := by decide +kernel
theorem dL_test_23 : decode cL_test 23 = .ok (.if_icmp .lt 15, 3) := by decide +kernel
theorem dL_test_26 : decode cL_test 26 = .ok (.iload_n 2, 1) := by decide +kernel
theorem dL_test_27 : decode cL_test 27 = .ok (.iconst 1, 1) := by decide +kernel
theorem dL_test_28 : decode cL_test 28 = .ok (.if_icmp .le 20, 3) := by decide +kernel
theorem dL_test_31 : decode cL_test 31 = .ok (.iload 4, 2) := by decide +kernel
theorem dL_test_33 : decode cL_test 33 = .ok (.bipush 10, 2) := by decide +kernel
theorem dL_test_35 : decode cL_test 35 = .ok (.if_icmp .le 13, 3) := by decide +kernel
theorem dL_test_38 : decode cL_test 38 = .ok (.bipush 20, 2) := by decide +kernel
theorem dL_test_40 : decode cL_test 40 = .ok (.iload 4, 2) := by decide +kernel
theorem dL_test_42 : decode cL_test 42 = .ok (.iconst 5, 1) := by decide +kernel
theorem dL_test_43 : decode cL_test 43 = .ok (.irem, 1) := by decide +kernel
theorem dL_test_44 : decode cL_test 44 = .ok (.iadd, 1) := by decide +kernel
theorem dL_test_45 : decode cL_test 45 = .ok (.goto 36, 3) := by decide +kernel
theorem dL_test_48 : decode cL_test 48 = .ok (.iload 4, 2) := by decide +kernel
theorem dL_test_50 : decode cL_test 50 = .ok (.bipush 11, 2) := by decide +kernel
theorem dL_test_52 : decode cL_test 52 = .ok (.if_icmp .ge 22, 3) := by decide +kernel
theorem dL_test_55 : decode cL_test 55 = .ok (.iload_n 1, 1) := by decide +kernel
theorem dL_test_56 : decode cL_test 56 = .ok (.ifCond .ne 8, 3) := by decide +kernel
theorem dL_test_59 : decode cL_test 59 = .ok (.bipush 26, 2) := by decide +kernel
theorem dL_test_61 : decode cL_test 61 = .ok (.goto 20, 3) := by decide +kernel
theorem dL_test_64 : decode cL_test 64 = .ok (.bipush 25, 2) := by decide +kernel
theorem dL_test_66 : decode cL_test 66 = .ok (.iload 4, 2) := by decide +kernel
theorem dL_test_68 : decode cL_test 68 = .ok (.iconst 2, 1) := by decide +kernel
theorem dL_test_69 : decode cL_test 69 = .ok (.irem, 1) := by decide +kernel
theorem dL_test_70 : decode cL_test 70 = .ok (.iadd, 1) := by decide +kernel
theorem dL_test_71 : decode cL_test 71 = .ok (.goto 10, 3) := by decide +kernel
theorem dL_test_74 : decode cL_test 74 = .ok (.bipush 29, 2) := by decide +kernel
theorem dL_test_76 : decode cL_test 76 = .ok (.iload 4, 2) := by decide +kernel
theorem dL_test_78 : decode cL_test 78 = .ok (.iconst 3, 1) := by decide +kernel
theorem dL_test_79 : decode cL_test 79 = .ok (.irem, 1) := by decide +kernel
theorem dL_test_80 : decode cL_test 80 = .ok (.iadd, 1) := by decide +kernel
theorem dL_test_81 : decode cL_test 81 = .ok (.putfield 41, 3) := by decide +kernel
theorem dL_test_84 : decode cL_test 84 = .ok (.aload_n 3, 1) := by decide +kernel
theorem dL_test_85 : decode cL_test 85 = .ok (.iload_n 1, 1) := by decide +kernel
theorem dL_test_86 : decode cL_test 86 = .ok (.ifCond .ne 7, 3) := by decide +kernel
theorem dL_test_89 : decode cL_test 89 = .ok (.iconst 0, 1) := by decide +kernel
theorem dL_test_90 : decode cL_test 90 = .ok (.goto 10, 3) := by decide +kernel
theorem dL_test_93 : decode cL_test 93 = .ok (.iload_n 0, 1) := by decide +kernel
theorem dL_test_94 : decode cL_test 94 = .ok (.iconst 4, 1) := by decide +kernel
theorem dL_test_95 : decode cL_test 95 = .ok (.ishr, 1) := by decide +kernel
theorem dL_test_96 : decode cL_test 96 = .ok (.iload_n 1, 1) := by decide +kernel
theorem dL_test_97 : decode cL_test 97 = .ok (.invokestatic 35, 3) := by decide +kernel
theorem dL_test_100 : decode cL_test 100 = .ok (.putfield 46, 3) := by decide +kernel
theorem dL_test_103 : decode cL_test 103 = .ok (.aload_n 3, 1) := by decide +kernel
theorem dL_test_104 : decode cL_test 104 = .ok (.getfield 41, 3) := by decide +kernel
theorem dL_test_107 : decode cL_test 107 = .ok (.bipush 25, 2) := by decide +kernel
theorem dL_test_109 : decode cL_test 109 = .ok (.if_icmp .ge 39, 3) := by decide +kernel
theorem dL_test_112 : decode cL_test 112 = .ok (.aload_n 3, 1) := by decide +kernel
theorem dL_test_113 : decode cL_test 113 = .ok (.iload_n 0, 1) := by decide +kernel
theorem dL_test_114 : decode cL_test 114 = .ok (.iconst 3, 1) := by decide +kernel
theorem dL_test_115 : decode cL_test 115 = .ok (.imul, 1) := by decide +kernel
theorem dL_test_116 : decode cL_test 116 = .ok (.bipush 7, 2) := by decide +kernel
theorem dL_test_118 : decode cL_test 118 = .ok (.iadd, 1) := by decide +kernel
theorem dL_test_119 : decode cL_test 119 = .ok (.iload_n 1, 1) := by decide +kernel
theorem dL_test_120 : decode cL_test 120 = .ok (.iload_n 2, 1) := by decide +kernel
theorem dL_test_121 : decode cL_test 121 = .ok (.iconst 1, 1) := by decide +kernel
theorem dL_test_122 : decode cL_test 122 = .ok (.iadd, 1) := by decide +kernel
theorem dL_test_123 : decode cL_test 123 = .ok (.invokestatic 49, 3) := by decide +kernel
theorem dL_test_126 : decode cL_test 126 = .ok (.putfield 53, 3) := by decide +kernel
theorem dL_test_129 : decode cL_test 129 = .ok (.aload_n 3, 1) := by decide +kernel
theorem dL_test_130 : decode cL_test 130 = .ok (.iload_n 0, 1) := by decide +kernel
theorem dL_test_131 : decode cL_test 131 = .ok (.iconst 5, 1) := by decide +kernel
theorem dL_test_132 : decode cL_test 132 = .ok (.imul, 1) := by decide +kernel
theorem dL_test_133 : decode cL_test 133 = .ok (.iconst 1, 1) := by decide +kernel
theorem dL_test_134 : decode cL_test 134 = .ok (.iadd, 1) := by decide +kernel
theorem dL_test_135 : decode cL_test 135 = .ok (.iload_n 1, 1) := by decide +kernel
theorem dL_test_136 : decode cL_test 136 = .ok (.iload_n 2, 1) := by decide +kernel
theorem dL_test_137 : decode cL_test 137 = .ok (.iconst 1, 1) := by decide +kernel
theorem dL_test_138 : decode cL_test 138 = .ok (.iadd, 1) := by decide +kernel
theorem dL_test_139 : decode cL_test 139 = .ok (.invokestatic 49, 3) := by decide +kernel
theorem dL_test_142 : decode cL_test 142 = .ok (.putfield 57, 3) := by decide +kernel
theorem dL_test_145 : decode cL_test 145 = .ok (.goto 81, 3) := by decide +kernel
theorem dL_test_148 : decode cL_test 148 = .ok (.aload_n 3, 1) := by decide +kernel
theorem dL_test_149 : decode cL_test 149 = .ok (.getfield 41, 3) := by decide +kernel
theorem dL_test_152 : decode cL_test 152 = .ok (.bipush 26, 2) := by decide +kernel
theorem dL_test_154 : decode cL_test 154 = .ok (.if_icmp .ne 21, 3) := by decide +kernel
theorem dL_test_157 : decode cL_test 157 = .ok (.aload_n 3, 1) := by decide +kernel
theorem dL_test_158 : decode cL_test 158 = .ok (.iload_n 0, 1) := by decide +kernel
theorem dL_test_159 : decode cL_test 159 = .ok (.bipush 7, 2) := by decide +kernel
theorem dL_test_161 : decode cL_test 161 = .ok (.imul, 1) := by decide +kernel
theorem dL_test_162 : decode cL_test 162 = .ok (.iconst 3, 1) := by decide +kernel
theorem dL_test_163 : decode cL_test 163 = .ok (.iadd, 1) := by decide +kernel
theorem dL_test_164 : decode cL_test 164 = .ok (.iload_n 1, 1) := by decide +kernel
theorem dL_test_165 : decode cL_test 165 = .ok (.iconst 2, 1) := by decide +kernel
theorem dL_test_166 : decode cL_test 166 = .ok (.invokestatic 49, 3) := by decide +kernel
theorem dL_test_169 : decode cL_test 169 = .ok (.putfield 53, 3) := by decide +kernel
theorem dL_test_172 : decode cL_test 172 = .ok (.goto 54, 3) := by decide +kernel
theorem dL_test_175 : decode cL_test 175 = .ok (.aload_n 3, 1) := by decide +kernel
theorem dL_test_176 : decode cL_test 176 = .ok (.getfield 41, 3) := by decide +kernel
theorem dL_test_179 : decode cL_test 179 = .ok (.bipush 28, 2) := by decide +kernel
theorem dL_test_181 : decode cL_test 181 = .ok (.if_icmp .le 45, 3) := by decide +kernel
theorem dL_test_184 : decode cL_test 184 = .ok (.aload_n 3, 1) := by decide +kernel
theorem dL_test_185 : decode cL_test 185 = .ok (.iload_n 0, 1) := by decide +kernel
theorem dL_test_186 : decode cL_test 186 = .ok (.iconst 3, 1) := by decide +kernel
theorem dL_test_187 : decode cL_test 187 = .ok (.imul, 1) := by decide +kernel
theorem dL_test_188 : decode cL_test 188 = .ok (.iconst 5, 1) := by decide +kernel
theorem dL_test_189 : decode cL_test 189 = .ok (.iadd, 1) := by decide +kernel
theorem dL_test_190 : decode cL_test 190 = .ok (.iload_n 1, 1) := by decide +kernel
theorem dL_test_191 : decode cL_test 191 = .ok (.iload_n 2, 1) := by decide +kernel
theorem dL_test_192 : decode cL_test 192 = .ok (.iconst 1, 1) := by decide +kernel
theorem dL_test_193 : decode cL_test 193 = .ok (.iadd, 1) := by decide +kernel
theorem dL_test_194 : decode cL_test 194 = .ok (.invokestatic 60, 3) := by decide +kernel
theorem dL_test_197 : decode cL_test 197 = .ok (.putfield 53, 3) := by decide +kernel
theorem dL_test_200 : decode cL_test 200 = .ok (.aload_n 3, 1) := by decide +kernel
theorem dL_test_201 : decode cL_test 201 = .ok (.getfield 41, 3) := by decide +kernel
theorem dL_test_204 : decode cL_test 204 = .ok (.bipush 29, 2) := by decide +kernel
theorem dL_test_206 : decode cL_test 206 = .ok (.if_icmp .le 20, 3) := by decide +kernel
theorem dL_test_209 : decode cL_test 209 = .ok (.aload_n 3, 1) := by decide +kernel
theorem dL_test_210 : decode cL_test 210 = .ok (.iload_n 0, 1) := by decide +kernel
theorem dL_test_211 : decode cL_test 211 = .ok (.bipush 7, 2) := by decide +kernel
theorem dL_test_213 : decode cL_test 213 = .ok (.imul, 1) := by decide +kernel
theorem dL_test_214 : decode cL_test 214 = .ok (.iconst 3, 1) := by decide +kernel
theorem dL_test_215 : decode cL_test 215 = .ok (.iadd, 1) := by decide +kernel
theorem dL_test_216 : decode cL_test 216 = .ok (.iload_n 1, 1) := by decide +kernel
theorem dL_test_217 : decode cL_test 217 = .ok (.iload_n 2, 1) := by decide +kernel
theorem dL_test_218 : decode cL_test 218 = .ok (.iconst 1, 1) := by decide +kernel
theorem dL_test_219 : decode cL_test 219 = .ok (.iadd, 1) := by decide +kernel
theorem dL_test_220 : decode cL_test 220 = .ok (.invokestatic 60, 3) := by decide +kernel
theorem dL_test_223 : decode cL_test 223 = .ok (.putfield 57, 3) := by decide +kernel
theorem dL_test_226 : decode cL_test 226 = .ok (.aload_n 3, 1) := by decide +kernel
theorem dL_test_227 : decode cL_test 227 = .ok (.areturn, 1) := by decide +kernel
theorem dL_told_0 : decode cL_told 0 = .ok (.iconst 2, 1) := by decide +kernel
theorem dL_told_1 : decode cL_told 1 = .ok (.aload_n 0, 1) := by decide +kernel
theorem dL_told_2 : decode cL_told 2 = .ok (.iconst 0, 1) := by decide +kernel
theorem dL_told_3 : decode cL_told 3 = .ok (.invokestatic 63, 3) := by decide +kernel
theorem dL_told_6 : decode cL_told 6 = .ok (.bipush 6, 2) := by decide +kernel
theorem dL_told_8 : decode cL_told 8 = .ok (.invokestatic 35, 3) := by decide +kernel
theorem dL_told_11 : decode cL_told 11 = .ok (.iadd, 1) := by decide +kernel
theorem dL_told_12 : decode cL_told 12 = .ok (.istore_n 2, 1) := by decide +kernel
theorem dL_told_13 : decode cL_told 13 = .ok (.iconst 2, 1) := by decide +kernel
theorem dL_told_14 : decode cL_told 14 = .ok (.aload_n 0, 1) := by decide +kernel
theorem dL_told_15 : decode cL_told 15 = .ok (.iconst 0, 1) := by decide +kernel
theorem dL_told_16 : decode cL_told 16 = .ok (.invokestatic 63, 3) := by decide +kernel
theorem dL_told_19 : decode cL_told 19 = .ok (.iconst 4, 1) := by decide +kernel
theorem dL_told_20 : decode cL_told 20 = .ok (.ishr, 1) := by decide +kernel
theorem dL_told_21 : decode cL_told 21 = .ok (.bipush 9, 2) := by decide +kernel
theorem dL_told_23 : decode cL_told 23 = .ok (.invokestatic 35, 3) := by decide +kernel
theorem dL_told_26 : decode cL_told 26 = .ok (.iadd, 1) := by decide +kernel
theorem dL_told_27 : decode cL_told 27 = .ok (.istore_n 3, 1) := by decide +kernel
theorem dL_told_28 : decode cL_told 28 = .ok (.iload_n 2, 1) := by decide +kernel
theorem dL_told_29 : decode cL_told 29 = .ok (.iload_n 3, 1) := by decide +kernel
theorem dL_told_30 : decode cL_told 30 = .ok (.invokestatic 67, 3) := by decide +kernel
theorem dL_told_33 : decode cL_told 33 = .ok (.astore 4, 2) := by decide +kernel
theorem dL_told_35 : decode cL_told 35 = .ok (.aload_n 1, 1) := by decide +kernel
theorem dL_told_36 : decode cL_told 36 = .ok (.ldc 73, 2) := by decide +kernel
theorem dL_told_38 : decode cL_told 38 = .ok (.invokevirtual 75, 3) := by decide +kernel
theorem dL_told_41 : decode cL_told 41 = .ok (.iload_n 2, 1) := by decide +kernel
theorem dL_told_42 : decode cL_told 42 = .ok (.invokevirtual 81, 3) := by decide +kernel
theorem dL_told_45 : decode cL_told 45 = .ok (.ldc 84, 2) := by decide +kernel
theorem dL_told_47 : decode cL_told 47 = .ok (.invokevirtual 75, 3) := by decide +kernel
theorem dL_told_50 : decode cL_told 50 = .ok (.iload_n 3, 1) := by decide +kernel
theorem dL_told_51 : decode cL_told 51 = .ok (.invokevirtual 81, 3) := by decide +kernel
theorem dL_told_54 : decode cL_told 54 = .ok (.ldc 86, 2) := by decide +kernel
theorem dL_told_56 : decode cL_told 56 = .ok (.invokevirtual 75, 3) := by decide +kernel
theorem dL_told_59 : decode cL_told 59 = .ok (.pop, 1) := by decide +kernel
theorem dL_told_60 : decode cL_told 60 = .ok (.aload_n 0, 1) := by decide +kernel
theorem dL_told_61 : decode cL_told 61 = .ok (.iconst 1, 1) := by decide +kernel
theorem dL_told_62 : decode cL_told 62 = .ok (.invokestatic 63, 3) := by decide +kernel
theorem dL_told_65 : decode cL_told 65 = .ok (.iconst 4, 1) := by decide +kernel
theorem dL_told_66 : decode cL_told 66 = .ok (.invokestatic 35, 3) := by decide +kernel
theorem dL_told_69 : decode cL_told 69 = .ok (.istore 5, 2) := by decide +kernel
theorem dL_told_71 : decode cL_told 71 = .ok (.iconst 0, 1) := by decide +kernel
theorem dL_told_72 : decode cL_told 72 = .ok (.istore 6, 2) := by decide +kernel
theorem dL_told_74 : decode cL_told 74 = .ok (.iload 6, 2) := by decide +kernel
theorem dL_told_76 : decode cL_told 76 = .ok (.iload 5, 2) := by decide +kernel
theorem dL_told_78 : decode cL_told 78 = .ok (.if_icmp .ge 117, 3) := by decide +kernel
theorem dL_told_81 : decode cL_told 81 = .ok (.aload_n 0, 1) := by decide +kernel
theorem dL_told_82 : decode cL_told 82 = .ok (.iconst 1, 1) := by decide +kernel
theorem dL_told_83 : decode cL_told 83 = .ok (.invokestatic 63, 3) := by decide +kernel
theorem dL_told_86 : decode cL_told 86 = .ok (.iconst 3, 1) := by decide +kernel
theorem dL_told_87 : decode cL_told 87 = .ok (.iconst 3, 1) := by decide +kernel
theorem dL_told_88 : decode cL_told 88 = .ok (.iload 6, 2) := by decide +kernel
theorem dL_told_90 : decode cL_told 90 = .ok (.imul, 1) := by decide +kernel
theorem dL_told_91 : decode cL_told 91 = .ok (.iadd, 1) := by decide +kernel
theorem dL_told_92 : decode cL_told 92 = .ok (.ishr, 1) := by decide +kernel
theorem dL_told_93 : decode cL_told 93 = .ok (.sipush 600, 3) := by decide +kernel
theorem dL_told_96 : decode cL_told 96 = .ok (.invokestatic 35, 3) := by decide +kernel
theorem dL_told_99 : decode cL_told 99 = .ok (.istore 7, 2) := by decide +kernel
theorem dL_told_101 : decode cL_told 101 = .ok (.iconst 2, 1) := by decide +kernel
theorem dL_told_102 : decode cL_told 102 = .ok (.newarray .int, 2) := by decide +kernel
theorem dL_told_104 : decode cL_told 104 = .ok (.dup, 1) := by decide +kernel
theorem dL_told_105 : decode cL_told 105 = .ok (.iconst 0, 1) := by decide +kernel
theorem dL_told_106 : decode cL_told 106 = .ok (.iload 7, 2) := by decide +kernel
theorem dL_told_108 : decode cL_told 108 = .ok (.iastore, 1) := by decide +kernel
theorem dL_told_109 : decode cL_told 109 = .ok (.dup, 1) := by decide +kernel
theorem dL_told_110 : decode cL_told 110 = .ok (.iconst 1, 1) := by decide +kernel
theorem dL_told_111 : decode cL_told 111 = .ok (.iload 7, 2) := by decide +kernel
theorem dL_told_113 : decode cL_told 113 = .ok (.aload_n 0, 1) := by decide +kernel
theorem dL_told_114 : decode cL_told 114 = .ok (.iconst 2, 1) := by decide +kernel
theorem dL_told_115 : decode cL_told 115 = .ok (.invokestatic 63, 3) := by decide +kernel
theorem dL_told_118 : decode cL_told 118 = .ok (.iconst 2, 1) := by decide +kernel
theorem dL_told_119 : decode cL_told 119 = .ok (.iload 6, 2) := by decide +kernel
theorem dL_told_121 : decode cL_told 121 = .ok (.imul, 1) := by decide +kernel
theorem dL_told_122 : decode cL_told 122 = .ok (.ishr, 1) := by decide +kernel
theorem dL_told_123 : decode cL_told 123 = .ok (.sipush 300, 3) := by decide +kernel
theorem dL_told_126 : decode cL_told 126 = .ok (.invokestatic 35, 3) := by decide +kernel
theorem dL_told_129 : decode cL_told 129 = .ok (.iadd, 1) := by decide +kernel
theorem dL_told_130 : decode cL_told 130 = .ok (.iastore, 1) := by decide +kernel
theorem dL_told_131 : decode cL_told 131 = .ok (.astore 8, 2) := by decide +kernel
theorem dL_told_133 : decode cL_told 133 = .ok (.aload 4, 2) := by decide +kernel
theorem dL_told_135 : decode cL_told 135 = .ok (.aload 4, 2) := by decide +kernel
theorem dL_told_137 : decode cL_told 137 = .ok (.getfield 88, 3) := by decide +kernel
theorem dL_told_140 : decode cL_told 140 = .ok (.aload 8, 2) := by decide +kernel
theorem dL_told_142 : decode cL_told 142 = .ok (.invokestatic 92, 3) := by decide +kernel
theorem dL_told_145 : decode cL_told 145 = .ok (.putfield 88, 3) := by decide +kernel
theorem dL_told_148 : decode cL_told 148 = .ok (.aload_n 1, 1) := by decide +kernel
theorem dL_told_149 : decode cL_told 149 = .ok (.ldc 96, 2) := by decide +kernel
theorem dL_told_151 : decode cL_told 151 = .ok (.invokevirtual 75, 3) := by decide +kernel
theorem dL_told_154 : decode cL_told 154 = .ok (.iload 6, 2) := by decide +kernel
theorem dL_told_156 : decode cL_told 156 = .ok (.invokevirtual 81, 3) := by decide +kernel
theorem dL_told_159 : decode cL_told 159 = .ok (.ldc 98, 2) := by decide +kernel
theorem dL_told_161 : decode cL_told 161 = .ok (.invokevirtual 75, 3) := by decide +kernel
theorem dL_told_164 : decode cL_told 164 = .ok (.aload 8, 2) := by decide +kernel
theorem dL_told_166 : decode cL_told 166 = .ok (.iconst 0, 1) := by decide +kernel
theorem dL_told_167 : decode cL_told 167 = .ok (.iaload, 1) := by decide +kernel
theorem dL_told_168 : decode cL_told 168 = .ok (.invokevirtual 81, 3) := by decide +kernel
theorem dL_told_171 : decode cL_told 171 = .ok (.ldc 100, 2) := by decide +kernel
theorem dL_told_173 : decode cL_told 173 = .ok (.invokevirtual 75, 3) := by decide +kernel
theorem dL_told_176 : decode cL_told 176 = .ok (.aload 8, 2) := by decide +kernel
theorem dL_told_178 : decode cL_told 178 = .ok (.iconst 1, 1) := by decide +kernel
theorem dL_told_179 : decode cL_told 179 = .ok (.iaload, 1) := by decide +kernel
theorem dL_told_180 : decode cL_told 180 = .ok (.invokevirtual 81, 3) := by decide +kernel
theorem dL_told_183 : decode cL_told 183 = .ok (.ldc 102, 2) := by decide +kernel
theorem dL_told_185 : decode cL_told 185 = .ok (.invokevirtual 75, 3) := by decide +kernel
theorem dL_told_188 : decode cL_told 188 = .ok (.pop, 1) := by decide +kernel
theorem dL_told_189 : decode cL_told 189 = .ok (.iinc 6 1, 3) := by decide +kernel
theorem dL_told_192 : decode cL_told 192 = .ok (.goto (-118), 3) := by decide +kernel
theorem dL_told_195 : decode cL_told 195 = .ok (.iconst 0, 1) := by decide +kernel
theorem dL_told_196 : decode cL_told 196 = .ok (.istore 6, 2) := by decide +kernel
theorem dL_told_198 : decode cL_told 198 = .ok (.iload 6, 2) := by decide +kernel
theorem dL_told_200 : decode cL_told 200 = .ok (.bipush 12, 2) := by decide +kernel
theorem dL_told_202 : decode cL_told 202 = .ok (.if_icmp .ge 318, 3) := by decide +kernel
theorem dL_told_205 : decode cL_told 205 = .ok (.aload_n 0, 1) := by decide +kernel
theorem dL_told_206 : decode cL_told 206 = .ok (.iconst 3, 1) := by decide +kernel
theorem dL_told_207 : decode cL_told 207 = .ok (.iload 6, 2) := by decide +kernel
theorem dL_told_209 : decode cL_told 209 = .ok (.iadd, 1) := by decide +kernel
theorem dL_told_210 : decode cL_told 210 = .ok (.invokestatic 63, 3) := by decide +kernel
theorem dL_told_213 : decode cL_told 213 = .ok (.iconst 1, 1) := by decide +kernel
theorem dL_told_214 : decode cL_told 214 = .ok (.ishr, 1) := by decide +kernel
theorem dL_told_215 : decode cL_told 215 = .ok (.bipush 13, 2) := by decide +kernel
theorem dL_told_217 : decode cL_told 217 = .ok (.iload 6, 2) := by decide +kernel
theorem dL_told_219 : decode cL_told 219 = .ok (.imul, 1) := by decide +kernel
theorem dL_told_220 : decode cL_told 220 = .ok (.iadd, 1) := by decide +kernel
theorem dL_told_221 : decode cL_told 221 = .ok (.istore 7, 2) := by decide +kernel
theorem dL_told_223 : decode cL_told 223 = .ok (.aload 4, 2) := by decide +kernel
theorem dL_told_225 : decode cL_told 225 = .ok (.getfield 104, 3) := by decide +kernel
theorem dL_told_228 : decode cL_told 228 = .ok (.iload 7, 2) := by decide +kernel
theorem dL_told_230 : decode cL_told 230 = .ok (.iload_n 2, 1) := by decide +kernel
theorem dL_told_231 : decode cL_told 231 = .ok (.invokestatic 35, 3) := by decide +kernel
theorem dL_told_234 : decode cL_told 234 = .ok (.aaload, 1) := by decide +kernel
theorem dL_told_235 : decode cL_told 235 = .ok (.iload 7, 2) := by decide +kernel
theorem dL_told_237 : decode cL_told 237 = .ok (.iconst 3, 1) := by decide +kernel
theorem dL_told_238 : decode cL_told 238 = .ok (.ishr, 1) := by decide +kernel
theorem dL_told_239 : decode cL_told 239 = .ok (.iload_n 3, 1) := by decide +kernel
theorem dL_told_240 : decode cL_told 240 = .ok (.invokestatic 35, 3) := by decide +kernel
theorem dL_told_243 : decode cL_told 243 = .ok (.aaload, 1) := by decide +kernel
theorem dL_told_244 : decode cL_told 244 = .ok (.astore 8, 2) := by decide +kernel
theorem dL_told_246 : decode cL_told 246 = .ok (.new 76, 3) := by decide +kernel
theorem dL_told_249 : decode cL_told 249 = .ok (.dup, 1) := by decide +kernel
theorem dL_told_250 : decode cL_told 250 = .ok (.invokespecial 108, 3) := by decide +kernel
theorem dL_told_253 : decode cL_told 253 = .ok (.ldc 109, 2) := by decide +kernel
theorem dL_told_255 : decode cL_told 255 = .ok (.invokevirtual 75, 3) := by decide +kernel
theorem dL_told_258 : decode cL_told 258 = .ok (.iload 7, 2) := by decide +kernel
theorem dL_told_260 : decode cL_told 260 = .ok (.iload_n 2, 1) := by decide +kernel
theorem dL_told_261 : decode cL_told 261 = .ok (.invokestatic 35, 3) := by decide +kernel
theorem dL_told_264 : decode cL_told 264 = .ok (.invokevirtual 81, 3) := by decide +kernel
theorem dL_told_267 : decode cL_told 267 = .ok (.ldc 111, 2) := by decide +kernel
theorem dL_told_269 : decode cL_told 269 = .ok (.invokevirtual 75, 3) := by decide +kernel
theorem dL_told_272 : decode cL_told 272 = .ok (.iload 7, 2) := by decide +kernel
theorem dL_told_274 : decode cL_told 274 = .ok (.iconst 3, 1) := by decide +kernel
theorem dL_told_275 : decode cL_told 275 = .ok (.ishr, 1) := by decide +kernel
theorem dL_told_276 : decode cL_told 276 = .ok (.iload_n 3, 1) := by decide +kernel
theorem dL_told_277 : decode cL_told 277 = .ok (.invokestatic 35, 3) := by decide +kernel
theorem dL_told_280 : decode cL_told 280 = .ok (.invokevirtual 81, 3) := by decide +kernel
theorem dL_told_283 : decode cL_told 283 = .ok (.invokevirtual 113, 3) := by decide +kernel
theorem dL_told_286 : decode cL_told 286 = .ok (.astore 9, 2) := by decide +kernel
theorem dL_told_288 : decode cL_told 288 = .ok (.iload 7, 2) := by decide +kernel
theorem dL_told_290 : decode cL_told 290 = .ok (.iconst 5, 1) := by decide +kernel
theorem dL_told_291 : decode cL_told 291 = .ok (.ishr, 1) := by decide +kernel
theorem dL_told_292 : decode cL_told 292 = .ok (.bipush 7, 2) := by decide +kernel
theorem dL_told_294 : decode cL_told 294 = .ok (.invokestatic 35, 3) := by decide +kernel
theorem dL_told_297 : decode cL_told 297 = .ok (.istore 10, 2) := by decide +kernel
theorem dL_told_299 : decode cL_told 299 = .ok (.iload 10, 2) := by decide +kernel
theorem dL_told_301 : decode cL_told 301 = .ok (.ifCond .ne 42, 3) := by decide +kernel
theorem dL_told_304 : decode cL_told 304 = .ok (.aload 8, 2) := by decide +kernel
theorem dL_told_306 : decode cL_told 306 = .ok (.iconst 2, 1) := by decide +kernel
theorem dL_told_307 : decode cL_told 307 = .ok (.iaload, 1) := by decide +kernel
theorem dL_told_308 : decode cL_told 308 = .ok (.ifCond .ne 35, 3) := by decide +kernel
theorem dL_told_311 : decode cL_told 311 = .ok (.iload 6, 2) := by decide +kernel
theorem dL_told_313 : decode cL_told 313 = .ok (.bipush 8, 2) := by decide +kernel
theorem dL_told_315 : decode cL_told 315 = .ok (.if_icmp .le 28, 3) := by decide +kernel
theorem dL_told_318 : decode cL_told 318 = .ok (.aload 8, 2) := by decide +kernel
theorem dL_told_320 : decode cL_told 320 = .ok (.iconst 2, 1) := by decide +kernel
theorem dL_told_321 : decode cL_told 321 = .ok (.iconst 1, 1) := by decide +kernel
theorem dL_told_322 : decode cL_told 322 = .ok (.iastore, 1) := by decide +kernel
theorem dL_told_323 : decode cL_told 323 = .ok (.aload_n 1, 1) := by decide +kernel
theorem dL_told_324 : decode cL_told 324 = .ok (.ldc 117, 2) := by decide +kernel
theorem dL_told_326 : decode cL_told 326 = .ok (.invokevirtual 75, 3) := by decide +kernel
theorem dL_told_329 : decode cL_told 329 = .ok (.aload 9, 2) := by decide +kernel
theorem dL_told_331 : decode cL_told 331 = .ok (.invokevirtual 75, 3) := by decide +kernel
theorem dL_told_334 : decode cL_told 334 = .ok (.ldc 102, 2) := by decide +kernel
theorem dL_told_336 : decode cL_told 336 = .ok (.invokevirtual 75, 3) := by decide +kernel
theorem dL_told_339 : decode cL_told 339 = .ok (.pop, 1) := by decide +kernel
theorem dL_told_340 : decode cL_told 340 = .ok (.goto 174, 3) := by decide +kernel
theorem dL_told_343 : decode cL_told 343 = .ok (.iload 10, 2) := by decide +kernel
theorem dL_told_345 : decode cL_told 345 = .ok (.ifCond .le 169, 3) := by decide +kernel
theorem dL_told_348 : decode cL_told 348 = .ok (.aload 8, 2) := by decide +kernel
theorem dL_told_350 : decode cL_told 350 = .ok (.iconst 1, 1) := by decide +kernel
theorem dL_told_351 : decode cL_told 351 = .ok (.iaload, 1) := by decide +kernel
theorem dL_told_352 : decode cL_told 352 = .ok (.ifCond .ge 162, 3) := by decide +kernel
theorem dL_told_355 : decode cL_told 355 = .ok (.iload 6, 2) := by decide +kernel
theorem dL_told_357 : decode cL_told 357 = .ok (.bipush 10, 2) := by decide +kernel
theorem dL_told_359 : decode cL_told 359 = .ok (.if_icmp .ge 155, 3) := by decide +kernel
theorem dL_told_362 : decode cL_told 362 = .ok (.iload 5, 2) := by decide +kernel
theorem dL_told_364 : decode cL_told 364 = .ok (.ifCond .eq 9, 3) := by decide +kernel
theorem dL_told_367 : decode cL_told 367 = .ok (.iload 10, 2) := by decide +kernel
theorem dL_told_369 : decode cL_told 369 = .ok (.iconst 3, 1) := by decide +kernel
theorem dL_told_370 : decode cL_told 370 = .ok (.if_icmp .ge 7, 3) := by decide +kernel
theorem dL_told_373 : decode cL_told 373 = .ok (.iconst 1, 1) := by decide +kernel
theorem dL_told_374 : decode cL_told 374 = .ok (.goto 4, 3) := by decide +kernel
theorem dL_told_377 : decode cL_told 377 = .ok (.iconst 0, 1) := by decide +kernel
theorem dL_told_378 : decode cL_told 378 = .ok (.istore 11, 2) := by decide +kernel
theorem dL_told_380 : decode cL_told 380 = .ok (.aload 8, 2) := by decide +kernel
theorem dL_told_382 : decode cL_told 382 = .ok (.iconst 1, 1) := by decide +kernel
theorem dL_told_383 : decode cL_told 383 = .ok (.aload 4, 2) := by decide +kernel
theorem dL_told_385 : decode cL_told 385 = .ok (.getfield 119, 3) := by decide +kernel
theorem dL_told_388 : decode cL_told 388 = .ok (.arraylength, 1) := by decide +kernel
theorem dL_told_389 : decode cL_told 389 = .ok (.iastore, 1) := by decide +kernel
theorem dL_told_390 : decode cL_told 390 = .ok (.iconst 4, 1) := by decide +kernel
theorem dL_told_391 : decode cL_told 391 = .ok (.newarray .int, 2) := by decide +kernel
theorem dL_told_393 : decode cL_told 393 = .ok (.dup, 1) := by decide +kernel
theorem dL_told_394 : decode cL_told 394 = .ok (.iconst 0, 1) := by decide +kernel
theorem dL_told_395 : decode cL_told 395 = .ok (.iload 11, 2) := by decide +kernel
theorem dL_told_397 : decode cL_told 397 = .ok (.ifCond .eq 7, 3) := by decide +kernel
theorem dL_told_400 : decode cL_told 400 = .ok (.iconst 1, 1) := by decide +kernel
theorem dL_told_401 : decode cL_told 401 = .ok (.goto 4, 3) := by decide +kernel
theorem dL_told_404 : decode cL_told 404 = .ok (.iconst 0, 1) := by decide +kernel
theorem dL_told_405 : decode cL_told 405 = .ok (.iastore, 1) := by decide +kernel
theorem dL_told_406 : decode cL_told 406 = .ok (.dup, 1) := by decide +kernel
theorem dL_told_407 : decode cL_told 407 = .ok (.iconst 1, 1) := by decide +kernel
theorem dL_told_408 : decode cL_told 408 = .ok (.aload 8, 2) := by decide +kernel
theorem dL_told_410 : decode cL_told 410 = .ok (.iconst 0, 1) := by decide +kernel
theorem dL_told_411 : decode cL_told 411 = .ok (.iaload, 1) := by decide +kernel
theorem dL_told_412 : decode cL_told 412 = .ok (.iastore, 1) := by decide +kernel
theorem dL_told_413 : decode cL_told 413 = .ok (.dup, 1) := by decide +kernel
theorem dL_told_414 : decode cL_told 414 = .ok (.iconst 2, 1) := by decide +kernel
theorem dL_told_415 : decode cL_told 415 = .ok (.iload 11, 2) := by decide +kernel
theorem dL_told_417 : decode cL_told 417 = .ok (.ifCond .eq 16, 3) := by decide +kernel
theorem dL_told_420 : decode cL_told 420 = .ok (.iload 7, 2) := by decide +kernel
theorem dL_told_422 : decode cL_told 422 = .ok (.iconst 4, 1) := by decide +kernel
theorem dL_told_423 : decode cL_told 423 = .ok (.ishr, 1) := by decide +kernel
theorem dL_told_424 : decode cL_told 424 = .ok (.sipush 1000, 3) := by decide +kernel
theorem dL_told_427 : decode cL_told 427 = .ok (.invokestatic 35, 3) := by decide +kernel
theorem dL_told_430 : decode cL_told 430 = .ok (.goto 13, 3) := by decide +kernel
theorem dL_told_433 : decode cL_told 433 = .ok (.iload 7, 2) := by decide +kernel
theorem dL_told_435 : decode cL_told 435 = .ok (.bipush 6, 2) := by decide +kernel
theorem dL_told_437 : decode cL_told 437 = .ok (.ishr, 1) := by decide +kernel
theorem dL_told_438 : decode cL_told 438 = .ok (.iload 5, 2) := by decide +kernel
theorem dL_told_440 : decode cL_told 440 = .ok (.invokestatic 35, 3) := by decide +kernel
theorem dL_told_443 : decode cL_told 443 = .ok (.iastore, 1) := by decide +kernel
theorem dL_told_444 : decode cL_told 444 = .ok (.dup, 1) := by decide +kernel
theorem dL_told_445 : decode cL_told 445 = .ok (.iconst 3, 1) := by decide +kernel
theorem dL_told_446 : decode cL_told 446 = .ok (.iconst 0, 1) := by decide +kernel
theorem dL_told_447 : decode cL_told 447 = .ok (.iastore, 1) := by decide +kernel
theorem dL_told_448 : decode cL_told 448 = .ok (.astore 12, 2) := by decide +kernel
theorem dL_told_450 : decode cL_told 450 = .ok (.aload 4, 2) := by decide +kernel
theorem dL_told_452 : decode cL_told 452 = .ok (.aload 4, 2) := by decide +kernel
theorem dL_told_454 : decode cL_told 454 = .ok (.getfield 119, 3) := by decide +kernel
theorem dL_told_457 : decode cL_told 457 = .ok (.aload 12, 2) := by decide +kernel
theorem dL_told_459 : decode cL_told 459 = .ok (.invokestatic 92, 3) := by decide +kernel
theorem dL_told_462 : decode cL_told 462 = .ok (.putfield 119, 3) := by decide +kernel
theorem dL_told_465 : decode cL_told 465 = .ok (.aload_n 1, 1) := by decide +kernel
theorem dL_told_466 : decode cL_told 466 = .ok (.iload 11, 2) := by decide +kernel
theorem dL_told_468 : decode cL_told 468 = .ok (.ifCond .eq 8, 3) := by decide +kernel
theorem dL_told_471 : decode cL_told 471 = .ok (.ldc 122, 2) := by decide +kernel
theorem dL_told_473 : decode cL_told 473 = .ok (.goto 5, 3) := by decide +kernel
theorem dL_told_476 : decode cL_told 476 = .ok (.ldc 124, 2) := by decide +kernel
theorem dL_told_478 : decode cL_told 478 = .ok (.invokevirtual 75, 3) := by decide +kernel
theorem dL_told_481 : decode cL_told 481 = .ok (.aload 9, 2) := by decide +kernel
theorem dL_told_483 : decode cL_told 483 = .ok (.invokevirtual 75, 3) := by decide +kernel
theorem dL_told_486 : decode cL_told 486 = .ok (.iload 11, 2) := by decide +kernel
theorem dL_told_488 : decode cL_told 488 = .ok (.ifCond .eq 8, 3) := by decide +kernel
theorem dL_told_491 : decode cL_told 491 = .ok (.ldc 126, 2) := by decide +kernel
theorem dL_told_493 : decode cL_told 493 = .ok (.goto 5, 3) := by decide +kernel
theorem dL_told_496 : decode cL_told 496 = .ok (.ldc 128, 2) := by decide +kernel
theorem dL_told_498 : decode cL_told 498 = .ok (.invokevirtual 75, 3) := by decide +kernel
theorem dL_told_501 : decode cL_told 501 = .ok (.aload 12, 2) := by decide +kernel
theorem dL_told_503 : decode cL_told 503 = .ok (.iconst 2, 1) := by decide +kernel
theorem dL_told_504 : decode cL_told 504 = .ok (.iaload, 1) := by decide +kernel
theorem dL_told_505 : decode cL_told 505 = .ok (.invokevirtual 81, 3) := by decide +kernel
theorem dL_told_508 : decode cL_told 508 = .ok (.ldc 86, 2) := by decide +kernel
theorem dL_told_510 : decode cL_told 510 = .ok (.invokevirtual 75, 3) := by decide +kernel
theorem dL_told_513 : decode cL_told 513 = .ok (.pop, 1) := by decide +kernel
theorem dL_told_514 : decode cL_told 514 = .ok (.iinc 6 1, 3) := by decide +kernel
theorem dL_told_517 : decode cL_told 517 = .ok (.goto (-319), 3) := by decide +kernel
theorem dL_told_520 : decode cL_told 520 = .ok (.aload_n 0, 1) := by decide +kernel
theorem dL_told_521 : decode cL_told 521 = .ok (.iconst 2, 1) := by decide +kernel
theorem dL_told_522 : decode cL_told 522 = .ok (.invokestatic 63, 3) := by decide +kernel
theorem dL_told_525 : decode cL_told 525 = .ok (.bipush 7, 2) := by decide +kernel
theorem dL_told_527 : decode cL_told 527 = .ok (.ishr, 1) := by decide +kernel
theorem dL_told_528 : decode cL_told 528 = .ok (.iconst 5, 1) := by decide +kernel
theorem dL_told_529 : decode cL_told 529 = .ok (.invokestatic 35, 3) := by decide +kernel
theorem dL_told_532 : decode cL_told 532 = .ok (.istore 6, 2) := by decide +kernel
theorem dL_told_534 : decode cL_told 534 = .ok (.aload 4, 2) := by decide +kernel
theorem dL_told_536 : decode cL_told 536 = .ok (.iload 6, 2) := by decide +kernel
theorem dL_told_538 : decode cL_told 538 = .ok (.newarray .int, 2) := by decide +kernel
theorem dL_told_540 : decode cL_told 540 = .ok (.putfield 130, 3) := by decide +kernel
theorem dL_told_543 : decode cL_told 543 = .ok (.aload 4, 2) := by decide +kernel
theorem dL_told_545 : decode cL_told 545 = .ok (.iload 6, 2) := by decide +kernel
theorem dL_told_547 : decode cL_told 547 = .ok (.anewarray 32, 3) := by decide +kernel
theorem dL_told_550 : decode cL_told 550 = .ok (.putfield 134, 3) := by decide +kernel
theorem dL_told_553 : decode cL_told 553 = .ok (.aload 4, 2) := by decide +kernel
theorem dL_told_555 : decode cL_told 555 = .ok (.iload 6, 2) := by decide +kernel
theorem dL_told_557 : decode cL_told 557 = .ok (.anewarray 32, 3) := by decide +kernel
theorem dL_told_560 : decode cL_told 560 = .ok (.putfield 138, 3) := by decide +kernel
theorem dL_told_563 : decode cL_told 563 = .ok (.iconst 0, 1) := by decide +kernel
theorem dL_told_564 : decode cL_told 564 = .ok (.istore 7, 2) := by decide +kernel
theorem dL_told_566 : decode cL_told 566 = .ok (.iload 7, 2) := by decide +kernel
theorem dL_told_568 : decode cL_told 568 = .ok (.iload 6, 2) := by decide +kernel
theorem dL_told_570 : decode cL_told 570 = .ok (.if_icmp .ge 215, 3) := by decide +kernel
theorem dL_told_573 : decode cL_told 573 = .ok (.aload_n 0, 1) := by decide +kernel
theorem dL_told_574 : decode cL_told 574 = .ok (.iconst 3, 1) := by decide +kernel
theorem dL_told_575 : decode cL_told 575 = .ok (.iload 7, 2) := by decide +kernel
theorem dL_told_577 : decode cL_told 577 = .ok (.iadd, 1) := by decide +kernel
theorem dL_told_578 : decode cL_told 578 = .ok (.invokestatic 63, 3) := by decide +kernel
theorem dL_told_581 : decode cL_told 581 = .ok (.iconst 3, 1) := by decide +kernel
theorem dL_told_582 : decode cL_told 582 = .ok (.ishr, 1) := by decide +kernel
theorem dL_told_583 : decode cL_told 583 = .ok (.bipush 17, 2) := by decide +kernel
theorem dL_told_585 : decode cL_told 585 = .ok (.iload 7, 2) := by decide +kernel
theorem dL_told_587 : decode cL_told 587 = .ok (.imul, 1) := by decide +kernel
theorem dL_told_588 : decode cL_told 588 = .ok (.iadd, 1) := by decide +kernel
theorem dL_told_589 : decode cL_told 589 = .ok (.istore 8, 2) := by decide +kernel
theorem dL_told_591 : decode cL_told 591 = .ok (.aload 4, 2) := by decide +kernel
theorem dL_told_593 : decode cL_told 593 = .ok (.getfield 130, 3) := by decide +kernel
theorem dL_told_596 : decode cL_told 596 = .ok (.iload 7, 2) := by decide +kernel
theorem dL_told_598 : decode cL_told 598 = .ok (.iload 8, 2) := by decide +kernel
theorem dL_told_600 : decode cL_told 600 = .ok (.iconst 5, 1) := by decide +kernel
theorem dL_told_601 : decode cL_told 601 = .ok (.invokestatic 35, 3) := by decide +kernel
theorem dL_told_604 : decode cL_told 604 = .ok (.iconst 3, 1) := by decide +kernel
theorem dL_told_605 : decode cL_told 605 = .ok (.if_icmp .ge 7, 3) := by decide +kernel
theorem dL_told_608 : decode cL_told 608 = .ok (.iconst 0, 1) := by decide +kernel
theorem dL_told_609 : decode cL_told 609 = .ok (.goto 11, 3) := by decide +kernel
theorem dL_told_612 : decode cL_told 612 = .ok (.iload 8, 2) := by decide +kernel
theorem dL_told_614 : decode cL_told 614 = .ok (.iconst 5, 1) := by decide +kernel
theorem dL_told_615 : decode cL_told 615 = .ok (.invokestatic 35, 3) := by decide +kernel
theorem dL_told_618 : decode cL_told 618 = .ok (.iconst 2, 1) := by decide +kernel
theorem dL_told_619 : decode cL_told 619 = .ok (.isub, 1) := by decide +kernel
theorem dL_told_620 : decode cL_told 620 = .ok (.iastore, 1) := by decide +kernel
theorem dL_told_621 : decode cL_told 621 = .ok (.aload 4, 2) := by decide +kernel
theorem dL_told_623 : decode cL_told 623 = .ok (.getfield 134, 3) := by decide +kernel
theorem dL_told_626 : decode cL_told 626 = .ok (.iload 7, 2) := by decide +kernel
theorem dL_told_628 : decode cL_told 628 = .ok (.iload 8, 2) := by decide +kernel
theorem dL_told_630 : decode cL_told 630 = .ok (.iconst 2, 1) := by decide +kernel
theorem dL_told_631 : decode cL_told 631 = .ok (.ishr, 1) := by decide +kernel
theorem dL_told_632 : decode cL_told 632 = .ok (.iload 5, 2) := by decide +kernel
theorem dL_told_634 : decode cL_told 634 = .ok (.iconst 1, 1) := by decide +kernel
theorem dL_told_635 : decode cL_told 635 = .ok (.invokestatic 49, 3) := by decide +kernel
theorem dL_told_638 : decode cL_told 638 = .ok (.aastore, 1) := by decide +kernel
theorem dL_told_639 : decode cL_told 639 = .ok (.aload 4, 2) := by decide +kernel
theorem dL_told_641 : decode cL_told 641 = .ok (.getfield 138, 3) := by decide +kernel
theorem dL_told_644 : decode cL_told 644 = .ok (.iload 7, 2) := by decide +kernel
theorem dL_told_646 : decode cL_told 646 = .ok (.iload 8, 2) := by decide +kernel
theorem dL_told_648 : decode cL_told 648 = .ok (.iconst 4, 1) := by decide +kernel
theorem dL_told_649 : decode cL_told 649 = .ok (.ishr, 1) := by decide +kernel
theorem dL_told_650 : decode cL_told 650 = .ok (.iconst 3, 1) := by decide +kernel
theorem dL_told_651 : decode cL_told 651 = .ok (.invokestatic 35, 3) := by decide +kernel
theorem dL_told_654 : decode cL_told 654 = .ok (.ifCond .ne 7, 3) := by decide +kernel
theorem dL_told_657 : decode cL_told 657 = .ok (.aconst_null, 1) := by decide +kernel
theorem dL_told_658 : decode cL_told 658 = .ok (.goto 13, 3) := by decide +kernel
theorem dL_told_661 : decode cL_told 661 = .ok (.iload 8, 2) := by decide +kernel
theorem dL_told_663 : decode cL_told 663 = .ok (.iconst 3, 1) := by decide +kernel
theorem dL_told_664 : decode cL_told 664 = .ok (.ishr, 1) := by decide +kernel
theorem dL_told_665 : decode cL_told 665 = .ok (.iload 5, 2) := by decide +kernel
theorem dL_told_667 : decode cL_told 667 = .ok (.iconst 0, 1) := by decide +kernel
theorem dL_told_668 : decode cL_told 668 = .ok (.invokestatic 60, 3) := by decide +kernel
theorem dL_told_671 : decode cL_told 671 = .ok (.aastore, 1) := by decide +kernel
theorem dL_told_672 : decode cL_told 672 = .ok (.aload_n 1, 1) := by decide +kernel
theorem dL_told_673 : decode cL_told 673 = .ok (.aload 4, 2) := by decide +kernel
theorem dL_told_675 : decode cL_told 675 = .ok (.getfield 130, 3) := by decide +kernel
theorem dL_told_678 : decode cL_told 678 = .ok (.iload 7, 2) := by decide +kernel
theorem dL_told_680 : decode cL_told 680 = .ok (.iaload, 1) := by decide +kernel
theorem dL_told_681 : decode cL_told 681 = .ok (.ifCond .ne 8, 3) := by decide +kernel
theorem dL_told_684 : decode cL_told 684 = .ok (.ldc 141, 2) := by decide +kernel
theorem dL_told_686 : decode cL_told 686 = .ok (.goto 22, 3) := by decide +kernel
theorem dL_told_689 : decode cL_told 689 = .ok (.aload 4, 2) := by decide +kernel
theorem dL_told_691 : decode cL_told 691 = .ok (.getfield 130, 3) := by decide +kernel
theorem dL_told_694 : decode cL_told 694 = .ok (.iload 7, 2) := by decide +kernel
theorem dL_told_696 : decode cL_told 696 = .ok (.iaload, 1) := by decide +kernel
theorem dL_told_697 : decode cL_told 697 = .ok (.iconst 1, 1) := by decide +kernel
theorem dL_told_698 : decode cL_told 698 = .ok (.if_icmp .ne 8, 3) := by decide +kernel
theorem dL_told_701 : decode cL_told 701 = .ok (.ldc 143, 2) := by decide +kernel
theorem dL_told_703 : decode cL_told 703 = .ok (.goto 5, 3) := by decide +kernel
theorem dL_told_706 : decode cL_told 706 = .ok (.ldc 145, 2) := by decide +kernel
theorem dL_told_708 : decode cL_told 708 = .ok (.invokevirtual 75, 3) := by decide +kernel
theorem dL_told_711 : decode cL_told 711 = .ok (.aload 4, 2) := by decide +kernel
theorem dL_told_713 : decode cL_told 713 = .ok (.getfield 134, 3) := by decide +kernel
theorem dL_told_716 : decode cL_told 716 = .ok (.iload 7, 2) := by decide +kernel
theorem dL_told_718 : decode cL_told 718 = .ok (.aaload, 1) := by decide +kernel
theorem dL_told_719 : decode cL_told 719 = .ok (.invokevirtual 147, 3) := by decide +kernel
theorem dL_told_722 : decode cL_told 722 = .ok (.invokevirtual 75, 3) := by decide +kernel
theorem dL_told_725 : decode cL_told 725 = .ok (.aload 4, 2) := by decide +kernel
theorem dL_told_727 : decode cL_told 727 = .ok (.getfield 138, 3) := by decide +kernel
theorem dL_told_730 : decode cL_told 730 = .ok (.iload 7, 2) := by decide +kernel
theorem dL_told_732 : decode cL_told 732 = .ok (.aaload, 1) := by decide +kernel
theorem dL_told_733 : decode cL_told 733 = .ok (.ifnonnull 8, 3) := by decide +kernel
theorem dL_told_736 : decode cL_told 736 = .ok (.ldc 150, 2) := by decide +kernel
theorem dL_told_738 : decode cL_told 738 = .ok (.goto 32, 3) := by decide +kernel
theorem dL_told_741 : decode cL_told 741 = .ok (.new 76, 3) := by decide +kernel
theorem dL_told_744 : decode cL_told 744 = .ok (.dup, 1) := by decide +kernel
theorem dL_told_745 : decode cL_told 745 = .ok (.invokespecial 108, 3) := by decide +kernel
theorem dL_told_748 : decode cL_told 748 = .ok (.ldc 152, 2) := by decide +kernel
theorem dL_told_750 : decode cL_told 750 = .ok (.invokevirtual 75, 3) := by decide +kernel
theorem dL_told_753 : decode cL_told 753 = .ok (.aload 4, 2) := by decide +kernel
theorem dL_told_755 : decode cL_told 755 = .ok (.getfield 138, 3) := by decide +kernel
theorem dL_told_758 : decode cL_told 758 = .ok (.iload 7, 2) := by decide +kernel
theorem dL_told_760 : decode cL_told 760 = .ok (.aaload, 1) := by decide +kernel
theorem dL_told_761 : decode cL_told 761 = .ok (.invokevirtual 147, 3) := by decide +kernel
theorem dL_told_764 : decode cL_told 764 = .ok (.invokevirtual 75, 3) := by decide +kernel
theorem dL_told_767 : decode cL_told 767 = .ok (.invokevirtual 113, 3) := by decide +kernel
theorem dL_told_770 : decode cL_told 770 = .ok (.invokevirtual 75, 3) := by decide +kernel
theorem dL_told_773 : decode cL_told 773 = .ok (.ldc 102, 2) := by decide +kernel
theorem dL_told_775 : decode cL_told 775 = .ok (.invokevirtual 75, 3) := by decide +kernel
theorem dL_told_778 : decode cL_told 778 = .ok (.pop, 1) := by decide +kernel
theorem dL_told_779 : decode cL_told 779 = .ok (.iinc 7 1, 3) := by decide +kernel
theorem dL_told_782 : decode cL_told 782 = .ok (.goto (-216), 3) := by decide +kernel
theorem dL_told_785 : decode cL_told 785 = .ok (.aload 4, 2) := by decide +kernel
theorem dL_told_787 : decode cL_told 787 = .ok (.areturn, 1) := by decide +kernel
theorem dL_act_0 : decode cL_act 0 = .ok (.iload_n 2, 1) := by decide +kernel
theorem dL_act_1 : decode cL_act 1 = .ok (.iconst 3, 1) := by decide +kernel
theorem dL_act_2 : decode cL_act 2 = .ok (.ishr, 1) := by decide +kernel
theorem dL_act_3 : decode cL_act 3 = .ok (.aload_n 1, 1) := by decide +kernel
theorem dL_act_4 : decode cL_act 4 = .ok (.getfield 104, 3) := by decide +kernel
theorem dL_act_7 : decode cL_act 7 = .ok (.arraylength, 1) := by decide +kernel
theorem dL_act_8 : decode cL_act 8 = .ok (.invokestatic 35, 3) := by decide +kernel
theorem dL_act_11 : decode cL_act 11 = .ok (.istore_n 3, 1) := by decide +kernel
theorem dL_act_12 : decode cL_act 12 = .ok (.iload_n 2, 1) := by decide +kernel
theorem dL_act_13 : decode cL_act 13 = .ok (.bipush 9, 2) := by decide +kernel
theorem dL_act_15 : decode cL_act 15 = .ok (.invokestatic 35, 3) := by decide +kernel
theorem dL_act_18 : decode cL_act 18 = .ok (.tableswitch 143 0 4 #[34, 34, 34, 63, 107], 34) := by decide +kernel
theorem dL_act_52 : decode cL_act 52 = .ok (.aload_n 1, 1) := by decide +kernel
theorem dL_act_53 : decode cL_act 53 = .ok (.getfield 104, 3) := by decide +kernel
theorem dL_act_56 : decode cL_act 56 = .ok (.iload_n 3, 1) := by decide +kernel
theorem dL_act_57 : decode cL_act 57 = .ok (.aaload, 1) := by decide +kernel
theorem dL_act_58 : decode cL_act 58 = .ok (.arraylength, 1) := by decide +kernel
theorem dL_act_59 : decode cL_act 59 = .ok (.ifCond .eq 16, 3) := by decide +kernel
theorem dL_act_62 : decode cL_act 62 = .ok (.aload_n 0, 1) := by decide +kernel
theorem dL_act_63 : decode cL_act 63 = .ok (.iload_n 3, 1) := by decide +kernel
theorem dL_act_64 : decode cL_act 64 = .ok (.invokevirtual 154, 3) := by decide +kernel
theorem dL_act_67 : decode cL_act 67 = .ok (.aload_n 1, 1) := by decide +kernel
theorem dL_act_68 : decode cL_act 68 = .ok (.iload_n 3, 1) := by decide +kernel
theorem dL_act_69 : decode cL_act 69 = .ok (.invokevirtual 157, 3) := by decide +kernel
theorem dL_act_72 : decode cL_act 72 = .ok (.if_icmp .ne 7, 3) := by decide +kernel
theorem dL_act_75 : decode cL_act 75 = .ok (.iconst 1, 1) := by decide +kernel
theorem dL_act_76 : decode cL_act 76 = .ok (.goto 4, 3) := by decide +kernel
theorem dL_act_79 : decode cL_act 79 = .ok (.iconst 0, 1) := by decide +kernel
theorem dL_act_80 : decode cL_act 80 = .ok (.ireturn, 1) := by decide +kernel
theorem dL_act_81 : decode cL_act 81 = .ok (.aload_n 1, 1) := by decide +kernel
theorem dL_act_82 : decode cL_act 82 = .ok (.getfield 158, 3) := by decide +kernel
theorem dL_act_85 : decode cL_act 85 = .ok (.iload_n 3, 1) := by decide +kernel
theorem dL_act_86 : decode cL_act 86 = .ok (.baload, 1) := by decide +kernel
theorem dL_act_87 : decode cL_act 87 = .ok (.ifCond .ne 11, 3) := by decide +kernel
theorem dL_act_90 : decode cL_act 90 = .ok (.aload_n 1, 1) := by decide +kernel
theorem dL_act_91 : decode cL_act 91 = .ok (.invokevirtual 162, 3) := by decide +kernel
theorem dL_act_94 : decode cL_act 94 = .ok (.iconst 3, 1) := by decide +kernel
theorem dL_act_95 : decode cL_act 95 = .ok (.if_icmp .ne 5, 3) := by decide +kernel
theorem dL_act_98 : decode cL_act 98 = .ok (.iconst 1, 1) := by decide +kernel
theorem dL_act_99 : decode cL_act 99 = .ok (.ireturn, 1) := by decide +kernel
theorem dL_act_100 : decode cL_act 100 = .ok (.aload_n 1, 1) := by decide +kernel
theorem dL_act_101 : decode cL_act 101 = .ok (.getfield 158, 3) := by decide +kernel
theorem dL_act_104 : decode cL_act 104 = .ok (.iload_n 3, 1) := by decide +kernel
theorem dL_act_105 : decode cL_act 105 = .ok (.iconst 1, 1) := by decide +kernel
theorem dL_act_106 : decode cL_act 106 = .ok (.bastore, 1) := by decide +kernel
theorem dL_act_107 : decode cL_act 107 = .ok (.aload_n 0, 1) := by decide +kernel
theorem dL_act_108 : decode cL_act 108 = .ok (.iload_n 3, 1) := by decide +kernel
theorem dL_act_109 : decode cL_act 109 = .ok (.invokevirtual 165, 3) := by decide +kernel
theorem dL_act_112 : decode cL_act 112 = .ok (.aload_n 1, 1) := by decide +kernel
theorem dL_act_113 : decode cL_act 113 = .ok (.invokevirtual 162, 3) := by decide +kernel
theorem dL_act_116 : decode cL_act 116 = .ok (.if_icmp .ne 7, 3) := by decide +kernel
theorem dL_act_119 : decode cL_act 119 = .ok (.iconst 1, 1) := by decide +kernel
theorem dL_act_120 : decode cL_act 120 = .ok (.goto 4, 3) := by decide +kernel
theorem dL_act_123 : decode cL_act 123 = .ok (.iconst 0, 1) := by decide +kernel
theorem dL_act_124 : decode cL_act 124 = .ok (.ireturn, 1) := by decide +kernel
theorem dL_act_125 : decode cL_act 125 = .ok (.aload_n 1, 1) := by decide +kernel
theorem dL_act_126 : decode cL_act 126 = .ok (.getfield 158, 3) := by decide +kernel
theorem dL_act_129 : decode cL_act 129 = .ok (.iload_n 3, 1) := by decide +kernel
theorem dL_act_130 : decode cL_act 130 = .ok (.baload, 1) := by decide +kernel
theorem dL_act_131 : decode cL_act 131 = .ok (.ifCond .ne 5, 3) := by decide +kernel
theorem dL_act_134 : decode cL_act 134 = .ok (.iconst 1, 1) := by decide +kernel
theorem dL_act_135 : decode cL_act 135 = .ok (.ireturn, 1) := by decide +kernel
theorem dL_act_136 : decode cL_act 136 = .ok (.aload_n 1, 1) := by decide +kernel
theorem dL_act_137 : decode cL_act 137 = .ok (.getfield 158, 3) := by decide +kernel
theorem dL_act_140 : decode cL_act 140 = .ok (.iload_n 3, 1) := by decide +kernel
theorem dL_act_141 : decode cL_act 141 = .ok (.iconst 0, 1) := by decide +kernel
theorem dL_act_142 : decode cL_act 142 = .ok (.bastore, 1) := by decide +kernel
theorem dL_act_143 : decode cL_act 143 = .ok (.aload_n 0, 1) := by decide +kernel
theorem dL_act_144 : decode cL_act 144 = .ok (.iload_n 3, 1) := by decide +kernel
theorem dL_act_145 : decode cL_act 145 = .ok (.invokevirtual 168, 3) := by decide +kernel
theorem dL_act_148 : decode cL_act 148 = .ok (.aload_n 1, 1) := by decide +kernel
theorem dL_act_149 : decode cL_act 149 = .ok (.invokevirtual 171, 3) := by decide +kernel
theorem dL_act_152 : decode cL_act 152 = .ok (.if_icmp .ne 7, 3) := by decide +kernel
theorem dL_act_155 : decode cL_act 155 = .ok (.iconst 1, 1) := by decide +kernel
theorem dL_act_156 : decode cL_act 156 = .ok (.goto 4, 3) := by decide +kernel
theorem dL_act_159 : decode cL_act 159 = .ok (.iconst 0, 1) := by decide +kernel
theorem dL_act_160 : decode cL_act 160 = .ok (.ireturn, 1) := by decide +kernel
theorem dL_act_161 : decode cL_act 161 = .ok (.iconst 1, 1) := by decide +kernel
theorem dL_act_162 : decode cL_act 162 = .ok (.iload_n 2, 1) := by decide +kernel
theorem dL_act_163 : decode cL_act 163 = .ok (.iconst 5, 1) := by decide +kernel
theorem dL_act_164 : decode cL_act 164 = .ok (.ishr, 1) := by decide +kernel
theorem dL_act_165 : decode cL_act 165 = .ok (.iload_n 2, 1) := by decide +kernel
theorem dL_act_166 : decode cL_act 166 = .ok (.bipush 8, 2) := by decide +kernel
theorem dL_act_168 : decode cL_act 168 = .ok (.ishr, 1) := by decide +kernel
theorem dL_act_169 : decode cL_act 169 = .ok (.bipush 6, 2) := by decide +kernel
theorem dL_act_171 : decode cL_act 171 = .ok (.invokestatic 35, 3) := by decide +kernel
theorem dL_act_174 : decode cL_act 174 = .ok (.ifCond .ne 8, 3) := by decide +kernel
theorem dL_act_177 : decode cL_act 177 = .ok (.bipush 30, 2) := by decide +kernel
theorem dL_act_179 : decode cL_act 179 = .ok (.goto 4, 3) := by decide +kernel
theorem dL_act_182 : decode cL_act 182 = .ok (.iconst 3, 1) := by decide +kernel
theorem dL_act_183 : decode cL_act 183 = .ok (.invokestatic 35, 3) := by decide +kernel
theorem dL_act_186 : decode cL_act 186 = .ok (.iadd, 1) := by decide +kernel
theorem dL_act_187 : decode cL_act 187 = .ok (.istore 4, 2) := by decide +kernel
theorem dL_act_189 : decode cL_act 189 = .ok (.iconst 0, 1) := by decide +kernel
theorem dL_act_190 : decode cL_act 190 = .ok (.istore 5, 2) := by decide +kernel
theorem dL_act_192 : decode cL_act 192 = .ok (.iconst 0, 1) := by decide +kernel
theorem dL_act_193 : decode cL_act 193 = .ok (.istore 6, 2) := by decide +kernel
theorem dL_act_195 : decode cL_act 195 = .ok (.iload 6, 2) := by decide +kernel
theorem dL_act_197 : decode cL_act 197 = .ok (.iload 4, 2) := by decide +kernel
theorem dL_act_199 : decode cL_act 199 = .ok (.if_icmp .ge 18, 3) := by decide +kernel
theorem dL_act_202 : decode cL_act 202 = .ok (.iload 5, 2) := by decide +kernel
theorem dL_act_204 : decode cL_act 204 = .ok (.aload_n 1, 1) := by decide +kernel
theorem dL_act_205 : decode cL_act 205 = .ok (.invokevirtual 174, 3) := by decide +kernel
theorem dL_act_208 : decode cL_act 208 = .ok (.iadd, 1) := by decide +kernel
theorem dL_act_209 : decode cL_act 209 = .ok (.istore 5, 2) := by decide +kernel
theorem dL_act_211 : decode cL_act 211 = .ok (.iinc 6 1, 3) := by decide +kernel
theorem dL_act_214 : decode cL_act 214 = .ok (.goto (-19), 3) := by decide +kernel
theorem dL_act_217 : decode cL_act 217 = .ok (.aload_n 0, 1) := by decide +kernel
theorem dL_act_218 : decode cL_act 218 = .ok (.iload 4, 2) := by decide +kernel
theorem dL_act_220 : decode cL_act 220 = .ok (.invokevirtual 177, 3) := by decide +kernel
theorem dL_act_223 : decode cL_act 223 = .ok (.iload 5, 2) := by decide +kernel
theorem dL_act_225 : decode cL_act 225 = .ok (.if_icmp .ne 7, 3) := by decide +kernel
theorem dL_act_228 : decode cL_act 228 = .ok (.iconst 1, 1) := by decide +kernel
theorem dL_act_229 : decode cL_act 229 = .ok (.goto 4, 3) := by decide +kernel
theorem dL_act_232 : decode cL_act 232 = .ok (.iconst 0, 1) := by decide +kernel
theorem dL_act_233 : decode cL_act 233 = .ok (.ireturn, 1) := by decide +kernel
theorem dL_law_0 : decode cL_law 0 = .ok (.new 20, 3) := by decide +kernel
theorem dL_law_3 : decode cL_law 3 = .ok (.dup, 1) := by decide +kernel
theorem dL_law_4 : decode cL_law 4 = .ok (.invokespecial 180, 3) := by decide +kernel
theorem dL_law_7 : decode cL_law 7 = .ok (.astore_n 1, 1) := by decide +kernel
theorem dL_law_8 : decode cL_law 8 = .ok (.new 76, 3) := by decide +kernel
theorem dL_law_11 : decode cL_law 11 = .ok (.dup, 1) := by decide +kernel
theorem dL_law_12 : decode cL_law 12 = .ok (.invokespecial 108, 3) := by decide +kernel
theorem dL_law_15 : decode cL_law 15 = .ok (.astore_n 2, 1) := by decide +kernel
theorem dL_law_16 : decode cL_law 16 = .ok (.aload_n 0, 1) := by decide +kernel
theorem dL_law_17 : decode cL_law 17 = .ok (.aload_n 2, 1) := by decide +kernel
theorem dL_law_18 : decode cL_law 18 = .ok (.invokestatic 181, 3) := by decide +kernel
theorem dL_law_21 : decode cL_law 21 = .ok (.astore_n 3, 1) := by decide +kernel
theorem dL_law_22 : decode cL_law 22 = .ok (.aload_n 1, 1) := by decide +kernel
theorem dL_law_23 : decode cL_law 23 = .ok (.aload_n 2, 1) := by decide +kernel
theorem dL_law_24 : decode cL_law 24 = .ok (.invokevirtual 113, 3) := by decide +kernel
theorem dL_law_27 : decode cL_law 27 = .ok (.invokestatic 185, 3) := by decide +kernel
theorem dL_law_30 : decode cL_law 30 = .ok (.ifCond .eq 5, 3) := by decide +kernel
theorem dL_law_33 : decode cL_law 33 = .ok (.iconst 0, 1) := by decide +kernel
theorem dL_law_34 : decode cL_law 34 = .ok (.ireturn, 1) := by decide +kernel
theorem dL_law_35 : decode cL_law 35 = .ok (.aload_n 1, 1) := by decide +kernel
theorem dL_law_36 : decode cL_law 36 = .ok (.invokevirtual 189, 3) := by decide +kernel
theorem dL_law_39 : decode cL_law 39 = .ok (.istore 4, 2) := by decide +kernel
theorem dL_law_41 : decode cL_law 41 = .ok (.aload_n 1, 1) := by decide +kernel
theorem dL_law_42 : decode cL_law 42 = .ok (.invokevirtual 192, 3) := by decide +kernel
theorem dL_law_45 : decode cL_law 45 = .ok (.istore 5, 2) := by decide +kernel
theorem dL_law_47 : decode cL_law 47 = .ok (.iconst 0, 1) := by decide +kernel
theorem dL_law_48 : decode cL_law 48 = .ok (.istore 6, 2) := by decide +kernel
theorem dL_law_50 : decode cL_law 50 = .ok (.iload 6, 2) := by decide +kernel
theorem dL_law_52 : decode cL_law 52 = .ok (.bipush 8, 2) := by decide +kernel
theorem dL_law_54 : decode cL_law 54 = .ok (.if_icmp .ge 1000, 3) := by decide +kernel
theorem dL_law_57 : decode cL_law 57 = .ok (.aload_n 0, 1) := by decide +kernel
theorem dL_law_58 : decode cL_law 58 = .ok (.iload 6, 2) := by decide +kernel
theorem dL_law_60 : decode cL_law 60 = .ok (.invokestatic 63, 3) := by decide +kernel
theorem dL_law_63 : decode cL_law 63 = .ok (.iconst 2, 1) := by decide +kernel
theorem dL_law_64 : decode cL_law 64 = .ok (.ishr, 1) := by decide +kernel
theorem dL_law_65 : decode cL_law 65 = .ok (.bipush 53, 2) := by decide +kernel
theorem dL_law_67 : decode cL_law 67 = .ok (.iload 6, 2) := by decide +kernel
theorem dL_law_69 : decode cL_law 69 = .ok (.imul, 1) := by decide +kernel
theorem dL_law_70 : decode cL_law 70 = .ok (.iadd, 1) := by decide +kernel
theorem dL_law_71 : decode cL_law 71 = .ok (.istore 7, 2) := by decide +kernel
theorem dL_law_73 : decode cL_law 73 = .ok (.iconst 0, 1) := by decide +kernel
theorem dL_law_74 : decode cL_law 74 = .ok (.istore 8, 2) := by decide +kernel
theorem dL_law_76 : decode cL_law 76 = .ok (.iload 8, 2) := by decide +kernel
theorem dL_law_78 : decode cL_law 78 = .ok (.iconst 2, 1) := by decide +kernel
theorem dL_law_79 : decode cL_law 79 = .ok (.if_icmp .ge 32, 3) := by decide +kernel
theorem dL_law_82 : decode cL_law 82 = .ok (.aload_n 1, 1) := by decide +kernel
theorem dL_law_83 : decode cL_law 83 = .ok (.aload_n 3, 1) := by decide +kernel
theorem dL_law_84 : decode cL_law 84 = .ok (.iload 7, 2) := by decide +kernel
theorem dL_law_86 : decode cL_law 86 = .ok (.iconst 3, 1) := by decide +kernel
theorem dL_law_87 : decode cL_law 87 = .ok (.iload 8, 2) := by decide +kernel
theorem dL_law_89 : decode cL_law 89 = .ok (.imul, 1) := by decide +kernel
theorem dL_law_90 : decode cL_law 90 = .ok (.ishr, 1) := by decide +kernel
theorem dL_law_91 : decode cL_law 91 = .ok (.bipush 29, 2) := by decide +kernel
theorem dL_law_93 : decode cL_law 93 = .ok (.iload 8, 2) := by decide +kernel
theorem dL_law_95 : decode cL_law 95 = .ok (.imul, 1) := by decide +kernel
theorem dL_law_96 : decode cL_law 96 = .ok (.iadd, 1) := by decide +kernel
theorem dL_law_97 : decode cL_law 97 = .ok (.invokestatic 195, 3) := by decide +kernel
theorem dL_law_100 : decode cL_law 100 = .ok (.ifCond .ne 5, 3) := by decide +kernel
theorem dL_law_103 : decode cL_law 103 = .ok (.iconst 0, 1) := by decide +kernel
theorem dL_law_104 : decode cL_law 104 = .ok (.ireturn, 1) := by decide +kernel
theorem dL_law_105 : decode cL_law 105 = .ok (.iinc 8 1, 3) := by decide +kernel
theorem dL_law_108 : decode cL_law 108 = .ok (.goto (-32), 3) := by decide +kernel
theorem dL_law_111 : decode cL_law 111 = .ok (.aload_n 1, 1) := by decide +kernel
theorem dL_law_112 : decode cL_law 112 = .ok (.invokevirtual 199, 3) := by decide +kernel
theorem dL_law_115 : decode cL_law 115 = .ok (.lstore 8, 2) := by decide +kernel
theorem dL_law_117 : decode cL_law 117 = .ok (.iconst 0, 1) := by decide +kernel
theorem dL_law_118 : decode cL_law 118 = .ok (.istore 10, 2) := by decide +kernel
theorem dL_law_120 : decode cL_law 120 = .ok (.iconst 0, 1) := by decide +kernel
theorem dL_law_121 : decode cL_law 121 = .ok (.istore 11, 2) := by decide +kernel
theorem dL_law_123 : decode cL_law 123 = .ok (.iconst 0, 1) := by decide +kernel
theorem dL_law_124 : decode cL_law 124 = .ok (.istore 12, 2) := by decide +kernel
theorem dL_law_126 : decode cL_law 126 = .ok (.iconst 0, 1) := by decide +kernel
theorem dL_law_127 : decode cL_law 127 = .ok (.istore 13, 2) := by decide +kernel
theorem dL_law_129 : decode cL_law 129 = .ok (.iload 13, 2) := by decide +kernel
theorem dL_law_131 : decode cL_law 131 = .ok (.iload 4, 2) := by decide +kernel
theorem dL_law_133 : decode cL_law 133 = .ok (.if_icmp .ge 167, 3) := by decide +kernel
theorem dL_law_136 : decode cL_law 136 = .ok (.aload_n 1, 1) := by decide +kernel
theorem dL_law_137 : decode cL_law 137 = .ok (.iload 13, 2) := by decide +kernel
theorem dL_law_139 : decode cL_law 139 = .ok (.invokevirtual 203, 3) := by decide +kernel
theorem dL_law_142 : decode cL_law 142 = .ok (.istore 14, 2) := by decide +kernel
theorem dL_law_144 : decode cL_law 144 = .ok (.iload 10, 2) := by decide +kernel
theorem dL_law_146 : decode cL_law 146 = .ok (.iload 14, 2) := by decide +kernel
theorem dL_law_148 : decode cL_law 148 = .ok (.iadd, 1) := by decide +kernel
theorem dL_law_149 : decode cL_law 149 = .ok (.istore 10, 2) := by decide +kernel
theorem dL_law_151 : decode cL_law 151 = .ok (.iload 11, 2) := by decide +kernel
theorem dL_law_153 : decode cL_law 153 = .ok (.aload_n 1, 1) := by decide +kernel
theorem dL_law_154 : decode cL_law 154 = .ok (.iload 13, 2) := by decide +kernel
theorem dL_law_156 : decode cL_law 156 = .ok (.invokevirtual 206, 3) := by decide +kernel
theorem dL_law_159 : decode cL_law 159 = .ok (.iadd, 1) := by decide +kernel
theorem dL_law_160 : decode cL_law 160 = .ok (.istore 11, 2) := by decide +kernel
theorem dL_law_162 : decode cL_law 162 = .ok (.iload 12, 2) := by decide +kernel
theorem dL_law_164 : decode cL_law 164 = .ok (.aload_n 1, 1) := by decide +kernel
theorem dL_law_165 : decode cL_law 165 = .ok (.iload 13, 2) := by decide +kernel
theorem dL_law_167 : decode cL_law 167 = .ok (.invokevirtual 209, 3) := by decide +kernel
theorem dL_law_170 : decode cL_law 170 = .ok (.ifCond .eq 7, 3) := by decide +kernel
theorem dL_law_173 : decode cL_law 173 = .ok (.iconst 1, 1) := by decide +kernel
theorem dL_law_174 : decode cL_law 174 = .ok (.goto 4, 3) := by decide +kernel
theorem dL_law_177 : decode cL_law 177 = .ok (.iconst 0, 1) := by decide +kernel
theorem dL_law_178 : decode cL_law 178 = .ok (.iadd, 1) := by decide +kernel
theorem dL_law_179 : decode cL_law 179 = .ok (.istore 12, 2) := by decide +kernel
theorem dL_law_181 : decode cL_law 181 = .ok (.iload 14, 2) := by decide +kernel
theorem dL_law_183 : decode cL_law 183 = .ok (.ifCond .lt 46, 3) := by decide +kernel
theorem dL_law_186 : decode cL_law 186 = .ok (.iload 14, 2) := by decide +kernel
theorem dL_law_188 : decode cL_law 188 = .ok (.iload 5, 2) := by decide +kernel
theorem dL_law_190 : decode cL_law 190 = .ok (.if_icmp .gt 39, 3) := by decide +kernel
theorem dL_law_193 : decode cL_law 193 = .ok (.aload_n 1, 1) := by decide +kernel
theorem dL_law_194 : decode cL_law 194 = .ok (.iload 13, 2) := by decide +kernel
theorem dL_law_196 : decode cL_law 196 = .ok (.invokevirtual 206, 3) := by decide +kernel
theorem dL_law_199 : decode cL_law 199 = .ok (.iload 14, 2) := by decide +kernel
theorem dL_law_201 : decode cL_law 201 = .ok (.if_icmp .gt 28, 3) := by decide +kernel
theorem dL_law_204 : decode cL_law 204 = .ok (.iload 14, 2) := by decide +kernel
theorem dL_law_206 : decode cL_law 206 = .ok (.ifCond .le 25, 3) := by decide +kernel
theorem dL_law_209 : decode cL_law 209 = .ok (.aload_n 1, 1) := by decide +kernel
theorem dL_law_210 : decode cL_law 210 = .ok (.iload 13, 2) := by decide +kernel
theorem dL_law_212 : decode cL_law 212 = .ok (.invokevirtual 212, 3) := by decide +kernel
theorem dL_law_215 : decode cL_law 215 = .ok (.ifCond .lt 14, 3) := by decide +kernel
theorem dL_law_218 : decode cL_law 218 = .ok (.aload_n 1, 1) := by decide +kernel
theorem dL_law_219 : decode cL_law 219 = .ok (.iload 13, 2) := by decide +kernel
theorem dL_law_221 : decode cL_law 221 = .ok (.invokevirtual 212, 3) := by decide +kernel
theorem dL_law_224 : decode cL_law 224 = .ok (.iload 5, 2) := by decide +kernel
theorem dL_law_226 : decode cL_law 226 = .ok (.if_icmp .lt 5, 3) := by decide +kernel
theorem dL_law_229 : decode cL_law 229 = .ok (.iconst 0, 1) := by decide +kernel
theorem dL_law_230 : decode cL_law 230 = .ok (.ireturn, 1) := by decide +kernel
theorem dL_law_231 : decode cL_law 231 = .ok (.iconst 0, 1) := by decide +kernel
theorem dL_law_232 : decode cL_law 232 = .ok (.iload 13, 2) := by decide +kernel
theorem dL_law_234 : decode cL_law 234 = .ok (.iconst 1, 1) := by decide +kernel
theorem dL_law_235 : decode cL_law 235 = .ok (.isub, 1) := by decide +kernel
theorem dL_law_236 : decode cL_law 236 = .ok (.invokestatic 215, 3) := by decide +kernel
theorem dL_law_239 : decode cL_law 239 = .ok (.istore 15, 2) := by decide +kernel
theorem dL_law_241 : decode cL_law 241 = .ok (.iload 15, 2) := by decide +kernel
theorem dL_law_243 : decode cL_law 243 = .ok (.iload 4, 2) := by decide +kernel
theorem dL_law_245 : decode cL_law 245 = .ok (.iload 13, 2) := by decide +kernel
theorem dL_law_247 : decode cL_law 247 = .ok (.iconst 2, 1) := by decide +kernel
theorem dL_law_248 : decode cL_law 248 = .ok (.iadd, 1) := by decide +kernel
theorem dL_law_249 : decode cL_law 249 = .ok (.invokestatic 220, 3) := by decide +kernel
theorem dL_law_252 : decode cL_law 252 = .ok (.if_icmp .ge 42, 3) := by decide +kernel
theorem dL_law_255 : decode cL_law 255 = .ok (.aload_n 1, 1) := by decide +kernel
theorem dL_law_256 : decode cL_law 256 = .ok (.iload 15, 2) := by decide +kernel
theorem dL_law_258 : decode cL_law 258 = .ok (.invokevirtual 203, 3) := by decide +kernel
theorem dL_law_261 : decode cL_law 261 = .ok (.iload 14, 2) := by decide +kernel
theorem dL_law_263 : decode cL_law 263 = .ok (.iconst 3, 1) := by decide +kernel
theorem dL_law_264 : decode cL_law 264 = .ok (.iadd, 1) := by decide +kernel
theorem dL_law_265 : decode cL_law 265 = .ok (.if_icmp .le 23, 3) := by decide +kernel
theorem dL_law_268 : decode cL_law 268 = .ok (.aload_n 1, 1) := by decide +kernel
theorem dL_law_269 : decode cL_law 269 = .ok (.iload 15, 2) := by decide +kernel
theorem dL_law_271 : decode cL_law 271 = .ok (.invokevirtual 209, 3) := by decide +kernel
theorem dL_law_274 : decode cL_law 274 = .ok (.ifCond .ne 14, 3) := by decide +kernel
theorem dL_law_277 : decode cL_law 277 = .ok (.aload_n 1, 1) := by decide +kernel
theorem dL_law_278 : decode cL_law 278 = .ok (.iload 15, 2) := by decide +kernel
theorem dL_law_280 : decode cL_law 280 = .ok (.invokevirtual 223, 3) := by decide +kernel
theorem dL_law_283 : decode cL_law 283 = .ok (.ifCond .ne 5, 3) := by decide +kernel
theorem dL_law_286 : decode cL_law 286 = .ok (.iconst 0, 1) := by decide +kernel
theorem dL_law_287 : decode cL_law 287 = .ok (.ireturn, 1) := by decide +kernel
theorem dL_law_288 : decode cL_law 288 = .ok (.iinc 15 1, 3) := by decide +kernel
theorem dL_law_291 : decode cL_law 291 = .ok (.goto (-50), 3) := by decide +kernel
theorem dL_law_294 : decode cL_law 294 = .ok (.iinc 13 1, 3) := by decide +kernel
theorem dL_law_297 : decode cL_law 297 = .ok (.goto (-168), 3) := by decide +kernel
theorem dL_law_300 : decode cL_law 300 = .ok (.iload 10, 2) := by decide +kernel
theorem dL_law_302 : decode cL_law 302 = .ok (.aload_n 1, 1) := by decide +kernel
theorem dL_law_303 : decode cL_law 303 = .ok (.invokevirtual 226, 3) := by decide +kernel
theorem dL_law_306 : decode cL_law 306 = .ok (.iadd, 1) := by decide +kernel
theorem dL_law_307 : decode cL_law 307 = .ok (.iload 4, 2) := by decide +kernel
theorem dL_law_309 : decode cL_law 309 = .ok (.iload 5, 2) := by decide +kernel
theorem dL_law_311 : decode cL_law 311 = .ok (.imul, 1) := by decide +kernel
theorem dL_law_312 : decode cL_law 312 = .ok (.if_icmp .ne 43, 3) := by decide +kernel
theorem dL_law_315 : decode cL_law 315 = .ok (.iload 11, 2) := by decide +kernel
theorem dL_law_317 : decode cL_law 317 = .ok (.aload_n 1, 1) := by decide +kernel
theorem dL_law_318 : decode cL_law 318 = .ok (.invokevirtual 229, 3) := by decide +kernel
theorem dL_law_321 : decode cL_law 321 = .ok (.iadd, 1) := by decide +kernel
theorem dL_law_322 : decode cL_law 322 = .ok (.aload_n 1, 1) := by decide +kernel
theorem dL_law_323 : decode cL_law 323 = .ok (.invokevirtual 232, 3) := by decide +kernel
theorem dL_law_326 : decode cL_law 326 = .ok (.if_icmp .ne 29, 3) := by decide +kernel
theorem dL_law_329 : decode cL_law 329 = .ok (.iload 12, 2) := by decide +kernel
theorem dL_law_331 : decode cL_law 331 = .ok (.aload_n 1, 1) := by decide +kernel
theorem dL_law_332 : decode cL_law 332 = .ok (.invokevirtual 234, 3) := by decide +kernel
theorem dL_law_335 : decode cL_law 335 = .ok (.if_icmp .ne 20, 3) := by decide +kernel
theorem dL_law_338 : decode cL_law 338 = .ok (.iload 12, 2) := by decide +kernel
theorem dL_law_340 : decode cL_law 340 = .ok (.iconst 3, 1) := by decide +kernel
theorem dL_law_341 : decode cL_law 341 = .ok (.if_icmp .gt 14, 3) := by decide +kernel
theorem dL_law_344 : decode cL_law 344 = .ok (.aload_n 1, 1) := by decide +kernel
theorem dL_law_345 : decode cL_law 345 = .ok (.invokevirtual 235, 3) := by decide +kernel
theorem dL_law_348 : decode cL_law 348 = .ok (.aload_n 1, 1) := by decide +kernel
theorem dL_law_349 : decode cL_law 349 = .ok (.invokevirtual 229, 3) := by decide +kernel
theorem dL_law_352 : decode cL_law 352 = .ok (.if_icmp .le 5, 3) := by decide +kernel
theorem dL_law_355 : decode cL_law 355 = .ok (.iconst 0, 1) := by decide +kernel
theorem dL_law_356 : decode cL_law 356 = .ok (.ireturn, 1) := by decide +kernel
theorem dL_law_357 : decode cL_law 357 = .ok (.iconst 0, 1) := by decide +kernel
theorem dL_law_358 : decode cL_law 358 = .ok (.istore 13, 2) := by decide +kernel
theorem dL_law_360 : decode cL_law 360 = .ok (.iconst 0, 1) := by decide +kernel
theorem dL_law_361 : decode cL_law 361 = .ok (.istore 14, 2) := by decide +kernel
theorem dL_law_363 : decode cL_law 363 = .ok (.iload 14, 2) := by decide +kernel
theorem dL_law_365 : decode cL_law 365 = .ok (.aload_n 1, 1) := by decide +kernel
theorem dL_law_366 : decode cL_law 366 = .ok (.invokevirtual 232, 3) := by decide +kernel
theorem dL_law_369 : decode cL_law 369 = .ok (.if_icmp .ge 107, 3) := by decide +kernel
theorem dL_law_372 : decode cL_law 372 = .ok (.aload_n 1, 1) := by decide +kernel
theorem dL_law_373 : decode cL_law 373 = .ok (.iload 14, 2) := by decide +kernel
theorem dL_law_375 : decode cL_law 375 = .ok (.invokevirtual 238, 3) := by decide +kernel
theorem dL_law_378 : decode cL_law 378 = .ok (.ifCond .eq 25, 3) := by decide +kernel
theorem dL_law_381 : decode cL_law 381 = .ok (.iload 13, 2) := by decide +kernel
theorem dL_law_383 : decode cL_law 383 = .ok (.aload_n 1, 1) := by decide +kernel
theorem dL_law_384 : decode cL_law 384 = .ok (.iload 14, 2) := by decide +kernel
theorem dL_law_386 : decode cL_law 386 = .ok (.invokevirtual 241, 3) := by decide +kernel
theorem dL_law_389 : decode cL_law 389 = .ok (.ifCond .eq 7, 3) := by decide +kernel
theorem dL_law_392 : decode cL_law 392 = .ok (.iconst 1, 1) := by decide +kernel
theorem dL_law_393 : decode cL_law 393 = .ok (.goto 4, 3) := by decide +kernel
theorem dL_law_396 : decode cL_law 396 = .ok (.iconst 0, 1) := by decide +kernel
theorem dL_law_397 : decode cL_law 397 = .ok (.iadd, 1) := by decide +kernel
theorem dL_law_398 : decode cL_law 398 = .ok (.istore 13, 2) := by decide +kernel
theorem dL_law_400 : decode cL_law 400 = .ok (.goto 25, 3) := by decide +kernel
theorem dL_law_403 : decode cL_law 403 = .ok (.aload_n 1, 1) := by decide +kernel
theorem dL_law_404 : decode cL_law 404 = .ok (.iload 14, 2) := by decide +kernel
theorem dL_law_406 : decode cL_law 406 = .ok (.invokevirtual 244, 3) := by decide +kernel
theorem dL_law_409 : decode cL_law 409 = .ok (.ifCond .lt 14, 3) := by decide +kernel
theorem dL_law_412 : decode cL_law 412 = .ok (.aload_n 1, 1) := by decide +kernel
theorem dL_law_413 : decode cL_law 413 = .ok (.iload 14, 2) := by decide +kernel
theorem dL_law_415 : decode cL_law 415 = .ok (.invokevirtual 244, 3) := by decide +kernel
theorem dL_law_418 : decode cL_law 418 = .ok (.iload 5, 2) := by decide +kernel
theorem dL_law_420 : decode cL_law 420 = .ok (.if_icmp .lt 5, 3) := by decide +kernel
theorem dL_law_423 : decode cL_law 423 = .ok (.iconst 0, 1) := by decide +kernel
theorem dL_law_424 : decode cL_law 424 = .ok (.ireturn, 1) := by decide +kernel
theorem dL_law_425 : decode cL_law 425 = .ok (.aload_n 1, 1) := by decide +kernel
theorem dL_law_426 : decode cL_law 426 = .ok (.iload 14, 2) := by decide +kernel
theorem dL_law_428 : decode cL_law 428 = .ok (.invokevirtual 247, 3) := by decide +kernel
theorem dL_law_431 : decode cL_law 431 = .ok (.ifCond .lt 37, 3) := by decide +kernel
theorem dL_law_434 : decode cL_law 434 = .ok (.aload_n 1, 1) := by decide +kernel
theorem dL_law_435 : decode cL_law 435 = .ok (.iload 14, 2) := by decide +kernel
theorem dL_law_437 : decode cL_law 437 = .ok (.invokevirtual 247, 3) := by decide +kernel
theorem dL_law_440 : decode cL_law 440 = .ok (.iload 5, 2) := by decide +kernel
theorem dL_law_442 : decode cL_law 442 = .ok (.if_icmp .ge 26, 3) := by decide +kernel
theorem dL_law_445 : decode cL_law 445 = .ok (.aload_n 1, 1) := by decide +kernel
theorem dL_law_446 : decode cL_law 446 = .ok (.iload 14, 2) := by decide +kernel
theorem dL_law_448 : decode cL_law 448 = .ok (.invokevirtual 250, 3) := by decide +kernel
theorem dL_law_451 : decode cL_law 451 = .ok (.ifCond .ne 7, 3) := by decide +kernel
theorem dL_law_454 : decode cL_law 454 = .ok (.iconst 1, 1) := by decide +kernel
theorem dL_law_455 : decode cL_law 455 = .ok (.goto 4, 3) := by decide +kernel
theorem dL_law_458 : decode cL_law 458 = .ok (.iconst 0, 1) := by decide +kernel
theorem dL_law_459 : decode cL_law 459 = .ok (.aload_n 1, 1) := by decide +kernel
theorem dL_law_460 : decode cL_law 460 = .ok (.iload 14, 2) := by decide +kernel
theorem dL_law_462 : decode cL_law 462 = .ok (.invokevirtual 238, 3) := by decide +kernel
theorem dL_law_465 : decode cL_law 465 = .ok (.if_icmp .eq 5, 3) := by decide +kernel
theorem dL_law_468 : decode cL_law 468 = .ok (.iconst 0, 1) := by decide +kernel
theorem dL_law_469 : decode cL_law 469 = .ok (.ireturn, 1) := by decide +kernel
theorem dL_law_470 : decode cL_law 470 = .ok (.iinc 14 1, 3) := by decide +kernel
theorem dL_law_473 : decode cL_law 473 = .ok (.goto (-110), 3) := by decide +kernel
theorem dL_law_476 : decode cL_law 476 = .ok (.iload 13, 2) := by decide +kernel
theorem dL_law_478 : decode cL_law 478 = .ok (.aload_n 1, 1) := by decide +kernel
theorem dL_law_479 : decode cL_law 479 = .ok (.invokevirtual 235, 3) := by decide +kernel
theorem dL_law_482 : decode cL_law 482 = .ok (.if_icmp .eq 5, 3) := by decide +kernel
theorem dL_law_485 : decode cL_law 485 = .ok (.iconst 0, 1) := by decide +kernel
theorem dL_law_486 : decode cL_law 486 = .ok (.ireturn, 1) := by decide +kernel
theorem dL_law_487 : decode cL_law 487 = .ok (.iconst (-1), 1) := by decide +kernel
theorem dL_law_488 : decode cL_law 488 = .ok (.istore 14, 2) := by decide +kernel
theorem dL_law_490 : decode cL_law 490 = .ok (.iconst 0, 1) := by decide +kernel
theorem dL_law_491 : decode cL_law 491 = .ok (.istore 15, 2) := by decide +kernel
theorem dL_law_493 : decode cL_law 493 = .ok (.iload 15, 2) := by decide +kernel
theorem dL_law_495 : decode cL_law 495 = .ok (.iload 5, 2) := by decide +kernel
theorem dL_law_497 : decode cL_law 497 = .ok (.if_icmp .ge 177, 3) := by decide +kernel
theorem dL_law_500 : decode cL_law 500 = .ok (.iconst 0, 1) := by decide +kernel
theorem dL_law_501 : decode cL_law 501 = .ok (.istore 16, 2) := by decide +kernel
theorem dL_law_503 : decode cL_law 503 = .ok (.iconst 0, 1) := by decide +kernel
theorem dL_law_504 : decode cL_law 504 = .ok (.istore 17, 2) := by decide +kernel
theorem dL_law_506 : decode cL_law 506 = .ok (.iload 17, 2) := by decide +kernel
theorem dL_law_508 : decode cL_law 508 = .ok (.aload_n 3, 1) := by decide +kernel
theorem dL_law_509 : decode cL_law 509 = .ok (.getfield 88, 3) := by decide +kernel
theorem dL_law_512 : decode cL_law 512 = .ok (.arraylength, 1) := by decide +kernel
theorem dL_law_513 : decode cL_law 513 = .ok (.if_icmp .ge 119, 3) := by decide +kernel
theorem dL_law_516 : decode cL_law 516 = .ok (.iconst 0, 1) := by decide +kernel
theorem dL_law_517 : decode cL_law 517 = .ok (.istore 18, 2) := by decide +kernel
theorem dL_law_519 : decode cL_law 519 = .ok (.iconst 0, 1) := by decide +kernel
theorem dL_law_520 : decode cL_law 520 = .ok (.istore 19, 2) := by decide +kernel
theorem dL_law_522 : decode cL_law 522 = .ok (.iload 19, 2) := by decide +kernel
theorem dL_law_524 : decode cL_law 524 = .ok (.aload_n 1, 1) := by decide +kernel
theorem dL_law_525 : decode cL_law 525 = .ok (.invokevirtual 232, 3) := by decide +kernel
theorem dL_law_528 : decode cL_law 528 = .ok (.if_icmp .ge 68, 3) := by decide +kernel
theorem dL_law_531 : decode cL_law 531 = .ok (.iload 18, 2) := by decide +kernel
theorem dL_law_533 : decode cL_law 533 = .ok (.aload_n 1, 1) := by decide +kernel
theorem dL_law_534 : decode cL_law 534 = .ok (.iload 19, 2) := by decide +kernel
theorem dL_law_536 : decode cL_law 536 = .ok (.invokevirtual 253, 3) := by decide +kernel
theorem dL_law_539 : decode cL_law 539 = .ok (.ifCond .ne 47, 3) := by decide +kernel
theorem dL_law_542 : decode cL_law 542 = .ok (.aload_n 1, 1) := by decide +kernel
theorem dL_law_543 : decode cL_law 543 = .ok (.iload 19, 2) := by decide +kernel
theorem dL_law_545 : decode cL_law 545 = .ok (.invokevirtual 256, 3) := by decide +kernel
theorem dL_law_548 : decode cL_law 548 = .ok (.iload 17, 2) := by decide +kernel
theorem dL_law_550 : decode cL_law 550 = .ok (.if_icmp .ne 36, 3) := by decide +kernel
theorem dL_law_553 : decode cL_law 553 = .ok (.aload_n 1, 1) := by decide +kernel
theorem dL_law_554 : decode cL_law 554 = .ok (.iload 19, 2) := by decide +kernel
theorem dL_law_556 : decode cL_law 556 = .ok (.invokevirtual 247, 3) := by decide +kernel
theorem dL_law_559 : decode cL_law 559 = .ok (.iload 15, 2) := by decide +kernel
theorem dL_law_561 : decode cL_law 561 = .ok (.if_icmp .ne 25, 3) := by decide +kernel
theorem dL_law_564 : decode cL_law 564 = .ok (.aload_n 1, 1) := by decide +kernel
theorem dL_law_565 : decode cL_law 565 = .ok (.iload 19, 2) := by decide +kernel
theorem dL_law_567 : decode cL_law 567 = .ok (.invokevirtual 238, 3) := by decide +kernel
theorem dL_law_570 : decode cL_law 570 = .ok (.ifCond .eq 16, 3) := by decide +kernel
theorem dL_law_573 : decode cL_law 573 = .ok (.aload_n 1, 1) := by decide +kernel
theorem dL_law_574 : decode cL_law 574 = .ok (.iload 19, 2) := by decide +kernel
theorem dL_law_576 : decode cL_law 576 = .ok (.invokevirtual 241, 3) := by decide +kernel
theorem dL_law_579 : decode cL_law 579 = .ok (.ifCond .eq 7, 3) := by decide +kernel
theorem dL_law_582 : decode cL_law 582 = .ok (.iconst 1, 1) := by decide +kernel
theorem dL_law_583 : decode cL_law 583 = .ok (.goto 4, 3) := by decide +kernel
theorem dL_law_586 : decode cL_law 586 = .ok (.iconst 0, 1) := by decide +kernel
theorem dL_law_587 : decode cL_law 587 = .ok (.ior, 1) := by decide +kernel
theorem dL_law_588 : decode cL_law 588 = .ok (.istore 18, 2) := by decide +kernel
theorem dL_law_590 : decode cL_law 590 = .ok (.iinc 19 1, 3) := by decide +kernel
theorem dL_law_593 : decode cL_law 593 = .ok (.goto (-71), 3) := by decide +kernel
theorem dL_law_596 : decode cL_law 596 = .ok (.aload_n 1, 1) := by decide +kernel
theorem dL_law_597 : decode cL_law 597 = .ok (.iload 15, 2) := by decide +kernel
theorem dL_law_599 : decode cL_law 599 = .ok (.iload 17, 2) := by decide +kernel
theorem dL_law_601 : decode cL_law 601 = .ok (.invokevirtual 259, 3) := by decide +kernel
theorem dL_law_604 : decode cL_law 604 = .ok (.iload 18, 2) := by decide +kernel
theorem dL_law_606 : decode cL_law 606 = .ok (.if_icmp .eq 5, 3) := by decide +kernel
theorem dL_law_609 : decode cL_law 609 = .ok (.iconst 0, 1) := by decide +kernel
theorem dL_law_610 : decode cL_law 610 = .ok (.ireturn, 1) := by decide +kernel
theorem dL_law_611 : decode cL_law 611 = .ok (.iload 16, 2) := by decide +kernel
theorem dL_law_613 : decode cL_law 613 = .ok (.iload 18, 2) := by decide +kernel
theorem dL_law_615 : decode cL_law 615 = .ok (.ifCond .eq 7, 3) := by decide +kernel
theorem dL_law_618 : decode cL_law 618 = .ok (.iconst 1, 1) := by decide +kernel
theorem dL_law_619 : decode cL_law 619 = .ok (.goto 4, 3) := by decide +kernel
theorem dL_law_622 : decode cL_law 622 = .ok (.iconst 0, 1) := by decide +kernel
theorem dL_law_623 : decode cL_law 623 = .ok (.iadd, 1) := by decide +kernel
theorem dL_law_624 : decode cL_law 624 = .ok (.istore 16, 2) := by decide +kernel
theorem dL_law_626 : decode cL_law 626 = .ok (.iinc 17 1, 3) := by decide +kernel
theorem dL_law_629 : decode cL_law 629 = .ok (.goto (-123), 3) := by decide +kernel
theorem dL_law_632 : decode cL_law 632 = .ok (.aload_n 1, 1) := by decide +kernel
theorem dL_law_633 : decode cL_law 633 = .ok (.iload 15, 2) := by decide +kernel
theorem dL_law_635 : decode cL_law 635 = .ok (.invokevirtual 263, 3) := by decide +kernel
theorem dL_law_638 : decode cL_law 638 = .ok (.ifCond .eq 9, 3) := by decide +kernel
theorem dL_law_641 : decode cL_law 641 = .ok (.iload 16, 2) := by decide +kernel
theorem dL_law_643 : decode cL_law 643 = .ok (.iconst 2, 1) := by decide +kernel
theorem dL_law_644 : decode cL_law 644 = .ok (.if_icmp .lt 14, 3) := by decide +kernel
theorem dL_law_647 : decode cL_law 647 = .ok (.aload_n 1, 1) := by decide +kernel
theorem dL_law_648 : decode cL_law 648 = .ok (.iload 15, 2) := by decide +kernel
theorem dL_law_650 : decode cL_law 650 = .ok (.invokevirtual 266, 3) := by decide +kernel
theorem dL_law_653 : decode cL_law 653 = .ok (.iload 14, 2) := by decide +kernel
theorem dL_law_655 : decode cL_law 655 = .ok (.if_icmp .ge 5, 3) := by decide +kernel
theorem dL_law_658 : decode cL_law 658 = .ok (.iconst 0, 1) := by decide +kernel
theorem dL_law_659 : decode cL_law 659 = .ok (.ireturn, 1) := by decide +kernel
theorem dL_law_660 : decode cL_law 660 = .ok (.aload_n 1, 1) := by decide +kernel
theorem dL_law_661 : decode cL_law 661 = .ok (.iload 15, 2) := by decide +kernel
theorem dL_law_663 : decode cL_law 663 = .ok (.invokevirtual 266, 3) := by decide +kernel
theorem dL_law_666 : decode cL_law 666 = .ok (.istore 14, 2) := by decide +kernel
theorem dL_law_668 : decode cL_law 668 = .ok (.iinc 15 1, 3) := by decide +kernel
theorem dL_law_671 : decode cL_law 671 = .ok (.goto (-178), 3) := by decide +kernel
theorem dL_law_674 : decode cL_law 674 = .ok (.aload_n 1, 1) := by decide +kernel
theorem dL_law_675 : decode cL_law 675 = .ok (.invokevirtual 269, 3) := by decide +kernel
theorem dL_law_678 : decode cL_law 678 = .ok (.istore 15, 2) := by decide +kernel
theorem dL_law_680 : decode cL_law 680 = .ok (.iconst 0, 1) := by decide +kernel
theorem dL_law_681 : decode cL_law 681 = .ok (.istore 16, 2) := by decide +kernel
theorem dL_law_683 : decode cL_law 683 = .ok (.iload 16, 2) := by decide +kernel
theorem dL_law_685 : decode cL_law 685 = .ok (.iload 4, 2) := by decide +kernel
theorem dL_law_687 : decode cL_law 687 = .ok (.if_icmp .ge 70, 3) := by decide +kernel
theorem dL_law_690 : decode cL_law 690 = .ok (.aload_n 1, 1) := by decide +kernel
theorem dL_law_691 : decode cL_law 691 = .ok (.iload 16, 2) := by decide +kernel
theorem dL_law_693 : decode cL_law 693 = .ok (.invokevirtual 203, 3) := by decide +kernel
theorem dL_law_696 : decode cL_law 696 = .ok (.ifCond .le 55, 3) := by decide +kernel
theorem dL_law_699 : decode cL_law 699 = .ok (.iload 15, 2) := by decide +kernel
theorem dL_law_701 : decode cL_law 701 = .ok (.ifCond .lt 48, 3) := by decide +kernel
theorem dL_law_704 : decode cL_law 704 = .ok (.aload_n 1, 1) := by decide +kernel
theorem dL_law_705 : decode cL_law 705 = .ok (.iload 15, 2) := by decide +kernel
theorem dL_law_707 : decode cL_law 707 = .ok (.invokevirtual 272, 3) := by decide +kernel
theorem dL_law_710 : decode cL_law 710 = .ok (.aload_n 1, 1) := by decide +kernel
theorem dL_law_711 : decode cL_law 711 = .ok (.iload 16, 2) := by decide +kernel
theorem dL_law_713 : decode cL_law 713 = .ok (.invokevirtual 272, 3) := by decide +kernel
theorem dL_law_716 : decode cL_law 716 = .ok (.if_icmp .gt 33, 3) := by decide +kernel
theorem dL_law_719 : decode cL_law 719 = .ok (.aload_n 1, 1) := by decide +kernel
theorem dL_law_720 : decode cL_law 720 = .ok (.iload 15, 2) := by decide +kernel
theorem dL_law_722 : decode cL_law 722 = .ok (.invokevirtual 272, 3) := by decide +kernel
theorem dL_law_725 : decode cL_law 725 = .ok (.aload_n 1, 1) := by decide +kernel
theorem dL_law_726 : decode cL_law 726 = .ok (.iload 16, 2) := by decide +kernel
theorem dL_law_728 : decode cL_law 728 = .ok (.invokevirtual 272, 3) := by decide +kernel
theorem dL_law_731 : decode cL_law 731 = .ok (.if_icmp .ne 20, 3) := by decide +kernel
theorem dL_law_734 : decode cL_law 734 = .ok (.aload_n 1, 1) := by decide +kernel
theorem dL_law_735 : decode cL_law 735 = .ok (.iload 15, 2) := by decide +kernel
theorem dL_law_737 : decode cL_law 737 = .ok (.invokevirtual 206, 3) := by decide +kernel
theorem dL_law_740 : decode cL_law 740 = .ok (.aload_n 1, 1) := by decide +kernel
theorem dL_law_741 : decode cL_law 741 = .ok (.iload 16, 2) := by decide +kernel
theorem dL_law_743 : decode cL_law 743 = .ok (.invokevirtual 206, 3) := by decide +kernel
theorem dL_law_746 : decode cL_law 746 = .ok (.if_icmp .ge 5, 3) := by decide +kernel
theorem dL_law_749 : decode cL_law 749 = .ok (.iconst 0, 1) := by decide +kernel
theorem dL_law_750 : decode cL_law 750 = .ok (.ireturn, 1) := by decide +kernel
theorem dL_law_751 : decode cL_law 751 = .ok (.iinc 16 1, 3) := by decide +kernel
theorem dL_law_754 : decode cL_law 754 = .ok (.goto (-71), 3) := by decide +kernel
theorem dL_law_757 : decode cL_law 757 = .ok (.iload 15, 2) := by decide +kernel
theorem dL_law_759 : decode cL_law 759 = .ok (.ifCond .ge 8, 3) := by decide +kernel
theorem dL_law_762 : decode cL_law 762 = .ok (.iload 10, 2) := by decide +kernel
theorem dL_law_764 : decode cL_law 764 = .ok (.ifCond .gt 13, 3) := by decide +kernel
theorem dL_law_767 : decode cL_law 767 = .ok (.aload_n 1, 1) := by decide +kernel
theorem dL_law_768 : decode cL_law 768 = .ok (.invokevirtual 199, 3) := by decide +kernel
theorem dL_law_771 : decode cL_law 771 = .ok (.lload 8, 2) := by decide +kernel
theorem dL_law_773 : decode cL_law 773 = .ok (.lcmp, 1) := by decide +kernel
theorem dL_law_774 : decode cL_law 774 = .ok (.ifCond .eq 5, 3) := by decide +kernel
theorem dL_law_777 : decode cL_law 777 = .ok (.iconst 0, 1) := by decide +kernel
theorem dL_law_778 : decode cL_law 778 = .ok (.ireturn, 1) := by decide +kernel
theorem dL_law_779 : decode cL_law 779 = .ok (.iconst 1, 1) := by decide +kernel
theorem dL_law_780 : decode cL_law 780 = .ok (.iload 7, 2) := by decide +kernel
theorem dL_law_782 : decode cL_law 782 = .ok (.iconst 5, 1) := by decide +kernel
theorem dL_law_783 : decode cL_law 783 = .ok (.ishr, 1) := by decide +kernel
theorem dL_law_784 : decode cL_law 784 = .ok (.iconst 5, 1) := by decide +kernel
theorem dL_law_785 : decode cL_law 785 = .ok (.invokestatic 35, 3) := by decide +kernel
theorem dL_law_788 : decode cL_law 788 = .ok (.iadd, 1) := by decide +kernel
theorem dL_law_789 : decode cL_law 789 = .ok (.istore 16, 2) := by decide +kernel
theorem dL_law_791 : decode cL_law 791 = .ok (.aload_n 1, 1) := by decide +kernel
theorem dL_law_792 : decode cL_law 792 = .ok (.iload 16, 2) := by decide +kernel
theorem dL_law_794 : decode cL_law 794 = .ok (.invokevirtual 275, 3) := by decide +kernel
theorem dL_law_797 : decode cL_law 797 = .ok (.istore 17, 2) := by decide +kernel
theorem dL_law_799 : decode cL_law 799 = .ok (.aload_n 1, 1) := by decide +kernel
theorem dL_law_800 : decode cL_law 800 = .ok (.invokevirtual 232, 3) := by decide +kernel
theorem dL_law_803 : decode cL_law 803 = .ok (.ifCond .ne 7, 3) := by decide +kernel
theorem dL_law_806 : decode cL_law 806 = .ok (.iconst (-1), 1) := by decide +kernel
theorem dL_law_807 : decode cL_law 807 = .ok (.goto 14, 3) := by decide +kernel
theorem dL_law_810 : decode cL_law 810 = .ok (.iload 7, 2) := by decide +kernel
theorem dL_law_812 : decode cL_law 812 = .ok (.iconst 3, 1) := by decide +kernel
theorem dL_law_813 : decode cL_law 813 = .ok (.ishr, 1) := by decide +kernel
theorem dL_law_814 : decode cL_law 814 = .ok (.aload_n 1, 1) := by decide +kernel
theorem dL_law_815 : decode cL_law 815 = .ok (.invokevirtual 232, 3) := by decide +kernel
theorem dL_law_818 : decode cL_law 818 = .ok (.invokestatic 35, 3) := by decide +kernel
theorem dL_law_821 : decode cL_law 821 = .ok (.istore 18, 2) := by decide +kernel
theorem dL_law_823 : decode cL_law 823 = .ok (.iload 18, 2) := by decide +kernel
theorem dL_law_825 : decode cL_law 825 = .ok (.ifCond .ge 7, 3) := by decide +kernel
theorem dL_law_828 : decode cL_law 828 = .ok (.iconst 0, 1) := by decide +kernel
theorem dL_law_829 : decode cL_law 829 = .ok (.goto 9, 3) := by decide +kernel
theorem dL_law_832 : decode cL_law 832 = .ok (.aload_n 1, 1) := by decide +kernel
theorem dL_law_833 : decode cL_law 833 = .ok (.iload 18, 2) := by decide +kernel
theorem dL_law_835 : decode cL_law 835 = .ok (.invokevirtual 250, 3) := by decide +kernel
theorem dL_law_838 : decode cL_law 838 = .ok (.istore 19, 2) := by decide +kernel
theorem dL_law_840 : decode cL_law 840 = .ok (.iconst 1, 1) := by decide +kernel
theorem dL_law_841 : decode cL_law 841 = .ok (.istore 20, 2) := by decide +kernel
theorem dL_law_843 : decode cL_law 843 = .ok (.iload 20, 2) := by decide +kernel
theorem dL_law_845 : decode cL_law 845 = .ok (.iload 16, 2) := by decide +kernel
theorem dL_law_847 : decode cL_law 847 = .ok (.if_icmp .gt 68, 3) := by decide +kernel
theorem dL_law_850 : decode cL_law 850 = .ok (.aload_n 1, 1) := by decide +kernel
theorem dL_law_851 : decode cL_law 851 = .ok (.iconst 1, 1) := by decide +kernel
theorem dL_law_852 : decode cL_law 852 = .ok (.invokevirtual 177, 3) := by decide +kernel
theorem dL_law_855 : decode cL_law 855 = .ok (.aload_n 3, 1) := by decide +kernel
theorem dL_law_856 : decode cL_law 856 = .ok (.invokevirtual 174, 3) := by decide +kernel
theorem dL_law_859 : decode cL_law 859 = .ok (.if_icmp .ne 48, 3) := by decide +kernel
theorem dL_law_862 : decode cL_law 862 = .ok (.iload 18, 2) := by decide +kernel
theorem dL_law_864 : decode cL_law 864 = .ok (.ifCond .lt 29, 3) := by decide +kernel
theorem dL_law_867 : decode cL_law 867 = .ok (.iload 19, 2) := by decide +kernel
theorem dL_law_869 : decode cL_law 869 = .ok (.ifCond .lt 24, 3) := by decide +kernel
theorem dL_law_872 : decode cL_law 872 = .ok (.aload_n 1, 1) := by decide +kernel
theorem dL_law_873 : decode cL_law 873 = .ok (.iload 18, 2) := by decide +kernel
theorem dL_law_875 : decode cL_law 875 = .ok (.invokevirtual 238, 3) := by decide +kernel
theorem dL_law_878 : decode cL_law 878 = .ok (.iload 20, 2) := by decide +kernel
theorem dL_law_880 : decode cL_law 880 = .ok (.iload 19, 2) := by decide +kernel
theorem dL_law_882 : decode cL_law 882 = .ok (.if_icmp .lt 7, 3) := by decide +kernel
theorem dL_law_885 : decode cL_law 885 = .ok (.iconst 1, 1) := by decide +kernel
theorem dL_law_886 : decode cL_law 886 = .ok (.goto 4, 3) := by decide +kernel
theorem dL_law_889 : decode cL_law 889 = .ok (.iconst 0, 1) := by decide +kernel
theorem dL_law_890 : decode cL_law 890 = .ok (.if_icmp .ne 17, 3) := by decide +kernel
theorem dL_law_893 : decode cL_law 893 = .ok (.iload 19, 2) := by decide +kernel
theorem dL_law_895 : decode cL_law 895 = .ok (.ifCond .ge 14, 3) := by decide +kernel
theorem dL_law_898 : decode cL_law 898 = .ok (.aload_n 1, 1) := by decide +kernel
theorem dL_law_899 : decode cL_law 899 = .ok (.iload 18, 2) := by decide +kernel
theorem dL_law_901 : decode cL_law 901 = .ok (.invokevirtual 238, 3) := by decide +kernel
theorem dL_law_904 : decode cL_law 904 = .ok (.ifCond .eq 5, 3) := by decide +kernel
theorem dL_law_907 : decode cL_law 907 = .ok (.iconst 0, 1) := by decide +kernel
theorem dL_law_908 : decode cL_law 908 = .ok (.ireturn, 1) := by decide +kernel
theorem dL_law_909 : decode cL_law 909 = .ok (.iinc 20 1, 3) := by decide +kernel
theorem dL_law_912 : decode cL_law 912 = .ok (.goto (-69), 3) := by decide +kernel
theorem dL_law_915 : decode cL_law 915 = .ok (.aload_n 1, 1) := by decide +kernel
theorem dL_law_916 : decode cL_law 916 = .ok (.invokevirtual 229, 3) := by decide +kernel
theorem dL_law_919 : decode cL_law 919 = .ok (.iload 17, 2) := by decide +kernel
theorem dL_law_921 : decode cL_law 921 = .ok (.if_icmp .eq 5, 3) := by decide +kernel
theorem dL_law_924 : decode cL_law 924 = .ok (.iconst 0, 1) := by decide +kernel
theorem dL_law_925 : decode cL_law 925 = .ok (.ireturn, 1) := by decide +kernel
theorem dL_law_926 : decode cL_law 926 = .ok (.iload 7, 2) := by decide +kernel
theorem dL_law_928 : decode cL_law 928 = .ok (.iconst 4, 1) := by decide +kernel
theorem dL_law_929 : decode cL_law 929 = .ok (.ishr, 1) := by decide +kernel
theorem dL_law_930 : decode cL_law 930 = .ok (.iload 4, 2) := by decide +kernel
theorem dL_law_932 : decode cL_law 932 = .ok (.invokestatic 35, 3) := by decide +kernel
theorem dL_law_935 : decode cL_law 935 = .ok (.istore 20, 2) := by decide +kernel
theorem dL_law_937 : decode cL_law 937 = .ok (.aload_n 1, 1) := by decide +kernel
theorem dL_law_938 : decode cL_law 938 = .ok (.iload 20, 2) := by decide +kernel
theorem dL_law_940 : decode cL_law 940 = .ok (.invokevirtual 203, 3) := by decide +kernel
theorem dL_law_943 : decode cL_law 943 = .ok (.ifCond .ne 6, 3) := by decide +kernel
theorem dL_law_946 : decode cL_law 946 = .ok (.goto 102, 3) := by decide +kernel
theorem dL_law_949 : decode cL_law 949 = .ok (.aload_n 1, 1) := by decide +kernel
theorem dL_law_950 : decode cL_law 950 = .ok (.iload 20, 2) := by decide +kernel
theorem dL_law_952 : decode cL_law 952 = .ok (.invokevirtual 272, 3) := by decide +kernel
theorem dL_law_955 : decode cL_law 955 = .ok (.istore 21, 2) := by decide +kernel
theorem dL_law_957 : decode cL_law 957 = .ok (.aload_n 1, 1) := by decide +kernel
theorem dL_law_958 : decode cL_law 958 = .ok (.invokevirtual 278, 3) := by decide +kernel
theorem dL_law_961 : decode cL_law 961 = .ok (.istore 22, 2) := by decide +kernel
theorem dL_law_963 : decode cL_law 963 = .ok (.aload_n 1, 1) := by decide +kernel
theorem dL_law_964 : decode cL_law 964 = .ok (.iload 20, 2) := by decide +kernel
theorem dL_law_966 : decode cL_law 966 = .ok (.invokevirtual 281, 3) := by decide +kernel
theorem dL_law_969 : decode cL_law 969 = .ok (.istore 23, 2) := by decide +kernel
theorem dL_law_971 : decode cL_law 971 = .ok (.aload_n 1, 1) := by decide +kernel
theorem dL_law_972 : decode cL_law 972 = .ok (.iload 20, 2) := by decide +kernel
theorem dL_law_974 : decode cL_law 974 = .ok (.invokevirtual 212, 3) := by decide +kernel
theorem dL_law_977 : decode cL_law 977 = .ok (.istore 24, 2) := by decide +kernel
theorem dL_law_979 : decode cL_law 979 = .ok (.aload_n 1, 1) := by decide +kernel
theorem dL_law_980 : decode cL_law 980 = .ok (.iload 20, 2) := by decide +kernel
theorem dL_law_982 : decode cL_law 982 = .ok (.invokevirtual 154, 3) := by decide +kernel
theorem dL_law_985 : decode cL_law 985 = .ok (.istore 25, 2) := by decide +kernel
theorem dL_law_987 : decode cL_law 987 = .ok (.iload 25, 2) := by decide +kernel
theorem dL_law_989 : decode cL_law 989 = .ok (.aload_n 3, 1) := by decide +kernel
theorem dL_law_990 : decode cL_law 990 = .ok (.iload 20, 2) := by decide +kernel
theorem dL_law_992 : decode cL_law 992 = .ok (.invokevirtual 157, 3) := by decide +kernel
theorem dL_law_995 : decode cL_law 995 = .ok (.if_icmp .ne 51, 3) := by decide +kernel
theorem dL_law_998 : decode cL_law 998 = .ok (.aload_n 1, 1) := by decide +kernel
theorem dL_law_999 : decode cL_law 999 = .ok (.invokevirtual 278, 3) := by decide +kernel
theorem dL_law_1002 : decode cL_law 1002 = .ok (.iload 22, 2) := by decide +kernel
theorem dL_law_1004 : decode cL_law 1004 = .ok (.iload 21, 2) := by decide +kernel
theorem dL_law_1006 : decode cL_law 1006 = .ok (.iadd, 1) := by decide +kernel
theorem dL_law_1007 : decode cL_law 1007 = .ok (.if_icmp .ne 39, 3) := by decide +kernel
theorem dL_law_1010 : decode cL_law 1010 = .ok (.iload 25, 2) := by decide +kernel
theorem dL_law_1012 : decode cL_law 1012 = .ok (.ifCond .lt 36, 3) := by decide +kernel
theorem dL_law_1015 : decode cL_law 1015 = .ok (.aload_n 1, 1) := by decide +kernel
theorem dL_law_1016 : decode cL_law 1016 = .ok (.iload 25, 2) := by decide +kernel
theorem dL_law_1018 : decode cL_law 1018 = .ok (.invokevirtual 238, 3) := by decide +kernel
theorem dL_law_1021 : decode cL_law 1021 = .ok (.ifCond .eq 25, 3) := by decide +kernel
theorem dL_law_1024 : decode cL_law 1024 = .ok (.aload_n 1, 1) := by decide +kernel
theorem dL_law_1025 : decode cL_law 1025 = .ok (.iload 25, 2) := by decide +kernel
theorem dL_law_1027 : decode cL_law 1027 = .ok (.invokevirtual 241, 3) := by decide +kernel
theorem dL_law_1030 : decode cL_law 1030 = .ok (.iload 23, 2) := by decide +kernel
theorem dL_law_1032 : decode cL_law 1032 = .ok (.if_icmp .eq 14, 3) := by decide +kernel
theorem dL_law_1035 : decode cL_law 1035 = .ok (.aload_n 1, 1) := by decide +kernel
theorem dL_law_1036 : decode cL_law 1036 = .ok (.iload 25, 2) := by decide +kernel
theorem dL_law_1038 : decode cL_law 1038 = .ok (.invokevirtual 247, 3) := by decide +kernel
theorem dL_law_1041 : decode cL_law 1041 = .ok (.iload 24, 2) := by decide +kernel
theorem dL_law_1043 : decode cL_law 1043 = .ok (.if_icmp .eq 5, 3) := by decide +kernel
theorem dL_law_1046 : decode cL_law 1046 = .ok (.iconst 0, 1) := by decide +kernel
theorem dL_law_1047 : decode cL_law 1047 = .ok (.ireturn, 1) := by decide +kernel
theorem dL_law_1048 : decode cL_law 1048 = .ok (.iinc 6 1, 3) := by decide +kernel
theorem dL_law_1051 : decode cL_law 1051 = .ok (.goto (-1001), 3) := by decide +kernel
theorem dL_law_1054 : decode cL_law 1054 = .ok (.aload_n 3, 1) := by decide +kernel
theorem dL_law_1055 : decode cL_law 1055 = .ok (.aload_n 1, 1) := by decide +kernel
theorem dL_law_1056 : decode cL_law 1056 = .ok (.invokevirtual 284, 3) := by decide +kernel
theorem dL_law_1059 : decode cL_law 1059 = .ok (.ireturn, 1) := by decide +kernel

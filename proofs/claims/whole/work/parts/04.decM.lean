theorem dX9_init_0 : decode cX9_init 0 = .ok (.aload_n 0, 1) := by decide +kernel
theorem dX9_init_1 : decode cX9_init 1 = .ok (.invokespecial 3, 3) := by decide +kernel
theorem dX9_init_4 : decode cX9_init 4 = .ok (.aload_n 0, 1) := by decide +kernel
theorem dX9_init_5 : decode cX9_init 5 = .ok (.iconst 4, 1) := by decide +kernel
theorem dX9_init_6 : decode cX9_init 6 = .ok (.putfield 9, 3) := by decide +kernel
theorem dX9_init_9 : decode cX9_init 9 = .ok (.aload_n 0, 1) := by decide +kernel
theorem dX9_init_10 : decode cX9_init 10 = .ok (.bipush 6, 2) := by decide +kernel
theorem dX9_init_12 : decode cX9_init 12 = .ok (.putfield 15, 3) := by decide +kernel
theorem dX9_init_15 : decode cX9_init 15 = .ok (.aload_n 0, 1) := by decide +kernel
theorem dX9_init_16 : decode cX9_init 16 = .ok (.bipush 6, 2) := by decide +kernel
theorem dX9_init_18 : decode cX9_init 18 = .ok (.newarray .long, 2) := by decide +kernel
theorem dX9_init_20 : decode cX9_init 20 = .ok (.putfield 18, 3) := by decide +kernel
theorem dX9_init_23 : decode cX9_init 23 = .ok (.aload_n 0, 1) := by decide +kernel
theorem dX9_init_24 : decode cX9_init 24 = .ok (.bipush 6, 2) := by decide +kernel
theorem dX9_init_26 : decode cX9_init 26 = .ok (.newarray .int, 2) := by decide +kernel
theorem dX9_init_28 : decode cX9_init 28 = .ok (.putfield 22, 3) := by decide +kernel
theorem dX9_init_31 : decode cX9_init 31 = .ok (.aload_n 0, 1) := by decide +kernel
theorem dX9_init_32 : decode cX9_init 32 = .ok (.bipush 6, 2) := by decide +kernel
theorem dX9_init_34 : decode cX9_init 34 = .ok (.newarray .int, 2) := by decide +kernel
theorem dX9_init_36 : decode cX9_init 36 = .ok (.putfield 26, 3) := by decide +kernel
theorem dX9_init_39 : decode cX9_init 39 = .ok (.aload_n 0, 1) := by decide +kernel
theorem dX9_init_40 : decode cX9_init 40 = .ok (.bipush 24, 2) := by decide +kernel
theorem dX9_init_42 : decode cX9_init 42 = .ok (.newarray .boolean, 2) := by decide +kernel
theorem dX9_init_44 : decode cX9_init 44 = .ok (.putfield 29, 3) := by decide +kernel
theorem dX9_init_47 : decode cX9_init 47 = .ok (.aload_n 0, 1) := by decide +kernel
theorem dX9_init_48 : decode cX9_init 48 = .ok (.bipush 24, 2) := by decide +kernel
theorem dX9_init_50 : decode cX9_init 50 = .ok (.newarray .int, 2) := by decide +kernel
theorem dX9_init_52 : decode cX9_init 52 = .ok (.putfield 33, 3) := by decide +kernel
theorem dX9_init_55 : decode cX9_init 55 = .ok (.aload_n 0, 1) := by decide +kernel
theorem dX9_init_56 : decode cX9_init 56 = .ok (.bipush 24, 2) := by decide +kernel
theorem dX9_init_58 : decode cX9_init 58 = .ok (.newarray .int, 2) := by decide +kernel
theorem dX9_init_60 : decode cX9_init 60 = .ok (.putfield 36, 3) := by decide +kernel
theorem dX9_init_63 : decode cX9_init 63 = .ok (.aload_n 0, 1) := by decide +kernel
theorem dX9_init_64 : decode cX9_init 64 = .ok (.bipush 80, 2) := by decide +kernel
theorem dX9_init_66 : decode cX9_init 66 = .ok (.newarray .int, 2) := by decide +kernel
theorem dX9_init_68 : decode cX9_init 68 = .ok (.putfield 39, 3) := by decide +kernel
theorem dX9_init_71 : decode cX9_init 71 = .ok (.aload_n 0, 1) := by decide +kernel
theorem dX9_init_72 : decode cX9_init 72 = .ok (.bipush 80, 2) := by decide +kernel
theorem dX9_init_74 : decode cX9_init 74 = .ok (.newarray .boolean, 2) := by decide +kernel
theorem dX9_init_76 : decode cX9_init 76 = .ok (.putfield 42, 3) := by decide +kernel
theorem dX9_init_79 : decode cX9_init 79 = .ok (.aload_n 0, 1) := by decide +kernel
theorem dX9_init_80 : decode cX9_init 80 = .ok (.bipush 16, 2) := by decide +kernel
theorem dX9_init_82 : decode cX9_init 82 = .ok (.newarray .int, 2) := by decide +kernel
theorem dX9_init_84 : decode cX9_init 84 = .ok (.putfield 45, 3) := by decide +kernel
theorem dX9_init_87 : decode cX9_init 87 = .ok (.aload_n 0, 1) := by decide +kernel
theorem dX9_init_88 : decode cX9_init 88 = .ok (.bipush 32, 2) := by decide +kernel
theorem dX9_init_90 : decode cX9_init 90 = .ok (.newarray .int, 2) := by decide +kernel
theorem dX9_init_92 : decode cX9_init 92 = .ok (.putfield 48, 3) := by decide +kernel
theorem dX9_init_95 : decode cX9_init 95 = .ok (.aload_n 0, 1) := by decide +kernel
theorem dX9_init_96 : decode cX9_init 96 = .ok (.bipush 32, 2) := by decide +kernel
theorem dX9_init_98 : decode cX9_init 98 = .ok (.newarray .int, 2) := by decide +kernel
theorem dX9_init_100 : decode cX9_init 100 = .ok (.putfield 51, 3) := by decide +kernel
theorem dX9_init_103 : decode cX9_init 103 = .ok (.aload_n 0, 1) := by decide +kernel
theorem dX9_init_104 : decode cX9_init 104 = .ok (.sipush 800, 3) := by decide +kernel
theorem dX9_init_107 : decode cX9_init 107 = .ok (.newarray .int, 2) := by decide +kernel
theorem dX9_init_109 : decode cX9_init 109 = .ok (.putfield 54, 3) := by decide +kernel
theorem dX9_init_112 : decode cX9_init 112 = .ok (.aload_n 0, 1) := by decide +kernel
theorem dX9_init_113 : decode cX9_init 113 = .ok (.sipush 800, 3) := by decide +kernel
theorem dX9_init_116 : decode cX9_init 116 = .ok (.newarray .int, 2) := by decide +kernel
theorem dX9_init_118 : decode cX9_init 118 = .ok (.putfield 57, 3) := by decide +kernel
theorem dX9_init_121 : decode cX9_init 121 = .ok (.iconst 0, 1) := by decide +kernel
theorem dX9_init_122 : decode cX9_init 122 = .ok (.istore_n 1, 1) := by decide +kernel
theorem dX9_init_123 : decode cX9_init 123 = .ok (.iload_n 1, 1) := by decide +kernel
theorem dX9_init_124 : decode cX9_init 124 = .ok (.bipush 80, 2) := by decide +kernel
theorem dX9_init_126 : decode cX9_init 126 = .ok (.if_icmp .ge 16, 3) := by decide +kernel
theorem dX9_init_129 : decode cX9_init 129 = .ok (.aload_n 0, 1) := by decide +kernel
theorem dX9_init_130 : decode cX9_init 130 = .ok (.getfield 39, 3) := by decide +kernel
theorem dX9_init_133 : decode cX9_init 133 = .ok (.iload_n 1, 1) := by decide +kernel
theorem dX9_init_134 : decode cX9_init 134 = .ok (.iconst (-1), 1) := by decide +kernel
theorem dX9_init_135 : decode cX9_init 135 = .ok (.iastore, 1) := by decide +kernel
theorem dX9_init_136 : decode cX9_init 136 = .ok (.iinc 1 1, 3) := by decide +kernel
theorem dX9_init_139 : decode cX9_init 139 = .ok (.goto (-16), 3) := by decide +kernel
theorem dX9_init_142 : decode cX9_init 142 = .ok (.return_, 1) := by decide +kernel
theorem dX10_init_0 : decode cX10_init 0 = .ok (.aload_n 0, 1) := by decide +kernel
theorem dX10_init_1 : decode cX10_init 1 = .ok (.invokespecial 3, 3) := by decide +kernel
theorem dX10_init_4 : decode cX10_init 4 = .ok (.aload_n 0, 1) := by decide +kernel
theorem dX10_init_5 : decode cX10_init 5 = .ok (.sipush 2000, 3) := by decide +kernel
theorem dX10_init_8 : decode cX10_init 8 = .ok (.newarray .int, 2) := by decide +kernel
theorem dX10_init_10 : decode cX10_init 10 = .ok (.putfield 9, 3) := by decide +kernel
theorem dX10_init_13 : decode cX10_init 13 = .ok (.aload_n 0, 1) := by decide +kernel
theorem dX10_init_14 : decode cX10_init 14 = .ok (.iconst (-1), 1) := by decide +kernel
theorem dX10_init_15 : decode cX10_init 15 = .ok (.putfield 13, 3) := by decide +kernel
theorem dX10_init_18 : decode cX10_init 18 = .ok (.aload_n 0, 1) := by decide +kernel
theorem dX10_init_19 : decode cX10_init 19 = .ok (.new 17, 3) := by decide +kernel
theorem dX10_init_22 : decode cX10_init 22 = .ok (.dup, 1) := by decide +kernel
theorem dX10_init_23 : decode cX10_init 23 = .ok (.invokespecial 19, 3) := by decide +kernel
theorem dX10_init_26 : decode cX10_init 26 = .ok (.putfield 20, 3) := by decide +kernel
theorem dX10_init_29 : decode cX10_init 29 = .ok (.aload_n 0, 1) := by decide +kernel
theorem dX10_init_30 : decode cX10_init 30 = .ok (.sipush 401, 3) := by decide +kernel
theorem dX10_init_33 : decode cX10_init 33 = .ok (.newarray .int, 2) := by decide +kernel
theorem dX10_init_35 : decode cX10_init 35 = .ok (.putfield 24, 3) := by decide +kernel
theorem dX10_init_38 : decode cX10_init 38 = .ok (.aload_n 0, 1) := by decide +kernel
theorem dX10_init_39 : decode cX10_init 39 = .ok (.sipush 401, 3) := by decide +kernel
theorem dX10_init_42 : decode cX10_init 42 = .ok (.newarray .int, 2) := by decide +kernel
theorem dX10_init_44 : decode cX10_init 44 = .ok (.putfield 27, 3) := by decide +kernel
theorem dX10_init_47 : decode cX10_init 47 = .ok (.aload_n 0, 1) := by decide +kernel
theorem dX10_init_48 : decode cX10_init 48 = .ok (.sipush 401, 3) := by decide +kernel
theorem dX10_init_51 : decode cX10_init 51 = .ok (.newarray .int, 2) := by decide +kernel
theorem dX10_init_53 : decode cX10_init 53 = .ok (.putfield 30, 3) := by decide +kernel
theorem dX10_init_56 : decode cX10_init 56 = .ok (.aload_n 0, 1) := by decide +kernel
theorem dX10_init_57 : decode cX10_init 57 = .ok (.sipush 401, 3) := by decide +kernel
theorem dX10_init_60 : decode cX10_init 60 = .ok (.newarray .long, 2) := by decide +kernel
theorem dX10_init_62 : decode cX10_init 62 = .ok (.putfield 33, 3) := by decide +kernel
theorem dX10_init_65 : decode cX10_init 65 = .ok (.aload_n 0, 1) := by decide +kernel
theorem dX10_init_66 : decode cX10_init 66 = .ok (.sipush 401, 3) := by decide +kernel
theorem dX10_init_69 : decode cX10_init 69 = .ok (.newarray .int, 2) := by decide +kernel
theorem dX10_init_71 : decode cX10_init 71 = .ok (.putfield 37, 3) := by decide +kernel
theorem dX10_init_74 : decode cX10_init 74 = .ok (.aload_n 0, 1) := by decide +kernel
theorem dX10_init_75 : decode cX10_init 75 = .ok (.sipush 197, 3) := by decide +kernel
theorem dX10_init_78 : decode cX10_init 78 = .ok (.newarray .int, 2) := by decide +kernel
theorem dX10_init_80 : decode cX10_init 80 = .ok (.putfield 40, 3) := by decide +kernel
theorem dX10_init_83 : decode cX10_init 83 = .ok (.aload_n 0, 1) := by decide +kernel
theorem dX10_init_84 : decode cX10_init 84 = .ok (.sipush 197, 3) := by decide +kernel
theorem dX10_init_87 : decode cX10_init 87 = .ok (.newarray .int, 2) := by decide +kernel
theorem dX10_init_89 : decode cX10_init 89 = .ok (.putfield 43, 3) := by decide +kernel
theorem dX10_init_92 : decode cX10_init 92 = .ok (.aload_n 0, 1) := by decide +kernel
theorem dX10_init_93 : decode cX10_init 93 = .ok (.sipush 800, 3) := by decide +kernel
theorem dX10_init_96 : decode cX10_init 96 = .ok (.newarray .int, 2) := by decide +kernel
theorem dX10_init_98 : decode cX10_init 98 = .ok (.putfield 46, 3) := by decide +kernel
theorem dX10_init_101 : decode cX10_init 101 = .ok (.aload_n 0, 1) := by decide +kernel
theorem dX10_init_102 : decode cX10_init 102 = .ok (.invokevirtual 49, 3) := by decide +kernel
theorem dX10_init_105 : decode cX10_init 105 = .ok (.return_, 1) := by decide +kernel
theorem dX10_fill_0 : decode cX10_fill 0 = .ok (.iconst 0, 1) := by decide +kernel
theorem dX10_fill_1 : decode cX10_fill 1 = .ok (.istore_n 1, 1) := by decide +kernel
theorem dX10_fill_2 : decode cX10_fill 2 = .ok (.iload_n 1, 1) := by decide +kernel
theorem dX10_fill_3 : decode cX10_fill 3 = .ok (.sipush 197, 3) := by decide +kernel
theorem dX10_fill_6 : decode cX10_fill 6 = .ok (.if_icmp .ge 16, 3) := by decide +kernel
theorem dX10_fill_9 : decode cX10_fill 9 = .ok (.aload_n 0, 1) := by decide +kernel
theorem dX10_fill_10 : decode cX10_fill 10 = .ok (.getfield 40, 3) := by decide +kernel
theorem dX10_fill_13 : decode cX10_fill 13 = .ok (.iload_n 1, 1) := by decide +kernel
theorem dX10_fill_14 : decode cX10_fill 14 = .ok (.iconst 0, 1) := by decide +kernel
theorem dX10_fill_15 : decode cX10_fill 15 = .ok (.iastore, 1) := by decide +kernel
theorem dX10_fill_16 : decode cX10_fill 16 = .ok (.iinc 1 1, 3) := by decide +kernel
theorem dX10_fill_19 : decode cX10_fill 19 = .ok (.goto (-17), 3) := by decide +kernel
theorem dX10_fill_22 : decode cX10_fill 22 = .ok (.iconst 0, 1) := by decide +kernel
theorem dX10_fill_23 : decode cX10_fill 23 = .ok (.istore_n 1, 1) := by decide +kernel
theorem dX10_fill_24 : decode cX10_fill 24 = .ok (.iload_n 1, 1) := by decide +kernel
theorem dX10_fill_25 : decode cX10_fill 25 = .ok (.aload_n 0, 1) := by decide +kernel
theorem dX10_fill_26 : decode cX10_fill 26 = .ok (.getfield 20, 3) := by decide +kernel
theorem dX10_fill_29 : decode cX10_fill 29 = .ok (.getfield 52, 3) := by decide +kernel
theorem dX10_fill_32 : decode cX10_fill 32 = .ok (.if_icmp .ge 63, 3) := by decide +kernel
theorem dX10_fill_35 : decode cX10_fill 35 = .ok (.aload_n 0, 1) := by decide +kernel
theorem dX10_fill_36 : decode cX10_fill 36 = .ok (.getfield 40, 3) := by decide +kernel
theorem dX10_fill_39 : decode cX10_fill 39 = .ok (.iconst 5, 1) := by decide +kernel
theorem dX10_fill_40 : decode cX10_fill 40 = .ok (.iload_n 1, 1) := by decide +kernel
theorem dX10_fill_41 : decode cX10_fill 41 = .ok (.iadd, 1) := by decide +kernel
theorem dX10_fill_42 : decode cX10_fill 42 = .ok (.aload_n 0, 1) := by decide +kernel
theorem dX10_fill_43 : decode cX10_fill 43 = .ok (.getfield 20, 3) := by decide +kernel
theorem dX10_fill_46 : decode cX10_fill 46 = .ok (.getfield 55, 3) := by decide +kernel
theorem dX10_fill_49 : decode cX10_fill 49 = .ok (.iastore, 1) := by decide +kernel
theorem dX10_fill_50 : decode cX10_fill 50 = .ok (.iconst 0, 1) := by decide +kernel
theorem dX10_fill_51 : decode cX10_fill 51 = .ok (.istore_n 2, 1) := by decide +kernel
theorem dX10_fill_52 : decode cX10_fill 52 = .ok (.iload_n 2, 1) := by decide +kernel
theorem dX10_fill_53 : decode cX10_fill 53 = .ok (.aload_n 0, 1) := by decide +kernel
theorem dX10_fill_54 : decode cX10_fill 54 = .ok (.getfield 20, 3) := by decide +kernel
theorem dX10_fill_57 : decode cX10_fill 57 = .ok (.getfield 55, 3) := by decide +kernel
theorem dX10_fill_60 : decode cX10_fill 60 = .ok (.if_icmp .ge 29, 3) := by decide +kernel
theorem dX10_fill_63 : decode cX10_fill 63 = .ok (.aload_n 0, 1) := by decide +kernel
theorem dX10_fill_64 : decode cX10_fill 64 = .ok (.getfield 40, 3) := by decide +kernel
theorem dX10_fill_67 : decode cX10_fill 67 = .ok (.bipush 13, 2) := by decide +kernel
theorem dX10_fill_69 : decode cX10_fill 69 = .ok (.bipush 10, 2) := by decide +kernel
theorem dX10_fill_71 : decode cX10_fill 71 = .ok (.iload_n 1, 1) := by decide +kernel
theorem dX10_fill_72 : decode cX10_fill 72 = .ok (.imul, 1) := by decide +kernel
theorem dX10_fill_73 : decode cX10_fill 73 = .ok (.iadd, 1) := by decide +kernel
theorem dX10_fill_74 : decode cX10_fill 74 = .ok (.iload_n 2, 1) := by decide +kernel
theorem dX10_fill_75 : decode cX10_fill 75 = .ok (.iadd, 1) := by decide +kernel
theorem dX10_fill_76 : decode cX10_fill 76 = .ok (.bipush 10, 2) := by decide +kernel
theorem dX10_fill_78 : decode cX10_fill 78 = .ok (.iload_n 1, 1) := by decide +kernel
theorem dX10_fill_79 : decode cX10_fill 79 = .ok (.imul, 1) := by decide +kernel
theorem dX10_fill_80 : decode cX10_fill 80 = .ok (.iload_n 2, 1) := by decide +kernel
theorem dX10_fill_81 : decode cX10_fill 81 = .ok (.iadd, 1) := by decide +kernel
theorem dX10_fill_82 : decode cX10_fill 82 = .ok (.iastore, 1) := by decide +kernel
theorem dX10_fill_83 : decode cX10_fill 83 = .ok (.iinc 2 1, 3) := by decide +kernel
theorem dX10_fill_86 : decode cX10_fill 86 = .ok (.goto (-34), 3) := by decide +kernel
theorem dX10_fill_89 : decode cX10_fill 89 = .ok (.iinc 1 1, 3) := by decide +kernel
theorem dX10_fill_92 : decode cX10_fill 92 = .ok (.goto (-68), 3) := by decide +kernel
theorem dX10_fill_95 : decode cX10_fill 95 = .ok (.return_, 1) := by decide +kernel
theorem dX10_thrown_0 : decode cX10_thrown 0 = .ok (.aload_n 0, 1) := by decide +kernel
theorem dX10_thrown_1 : decode cX10_thrown 1 = .ok (.getfield 58, 3) := by decide +kernel
theorem dX10_thrown_4 : decode cX10_thrown 4 = .ok (.ireturn, 1) := by decide +kernel
theorem dX10_no_0 : decode cX10_no 0 = .ok (.aload_n 0, 1) := by decide +kernel
theorem dX10_no_1 : decode cX10_no 1 = .ok (.iload_n 1, 1) := by decide +kernel
theorem dX10_no_2 : decode cX10_no 2 = .ok (.putfield 58, 3) := by decide +kernel
theorem dX10_no_5 : decode cX10_no 5 = .ok (.iconst 0, 1) := by decide +kernel
theorem dX10_no_6 : decode cX10_no 6 = .ok (.ireturn, 1) := by decide +kernel
theorem dX10_isNot_0 : decode cX10_isNot 0 = .ok (.aload_n 0, 1) := by decide +kernel
theorem dX10_isNot_1 : decode cX10_isNot 1 = .ok (.iload_n 1, 1) := by decide +kernel
theorem dX10_isNot_2 : decode cX10_isNot 2 = .ok (.putfield 58, 3) := by decide +kernel
theorem dX10_isNot_5 : decode cX10_isNot 5 = .ok (.iconst 0, 1) := by decide +kernel
theorem dX10_isNot_6 : decode cX10_isNot 6 = .ok (.ireturn, 1) := by decide +kernel
theorem dX10_ok_0 : decode cX10_ok 0 = .ok (.aload_n 0, 1) := by decide +kernel
theorem dX10_ok_1 : decode cX10_ok 1 = .ok (.iconst 0, 1) := by decide +kernel
theorem dX10_ok_2 : decode cX10_ok 2 = .ok (.putfield 58, 3) := by decide +kernel
theorem dX10_ok_5 : decode cX10_ok 5 = .ok (.iload_n 1, 1) := by decide +kernel
theorem dX10_ok_6 : decode cX10_ok 6 = .ok (.ireturn, 1) := by decide +kernel
theorem dX10_isIn_0 : decode cX10_isIn 0 = .ok (.iload_n 0, 1) := by decide +kernel
theorem dX10_isIn_1 : decode cX10_isIn 1 = .ok (.iload_n 1, 1) := by decide +kernel
theorem dX10_isIn_2 : decode cX10_isIn 2 = .ok (.if_icmp .lt 12, 3) := by decide +kernel
theorem dX10_isIn_5 : decode cX10_isIn 5 = .ok (.iload_n 0, 1) := by decide +kernel
theorem dX10_isIn_6 : decode cX10_isIn 6 = .ok (.iload_n 2, 1) := by decide +kernel
theorem dX10_isIn_7 : decode cX10_isIn 7 = .ok (.if_icmp .gt 7, 3) := by decide +kernel
theorem dX10_isIn_10 : decode cX10_isIn 10 = .ok (.iconst 1, 1) := by decide +kernel
theorem dX10_isIn_11 : decode cX10_isIn 11 = .ok (.goto 4, 3) := by decide +kernel
theorem dX10_isIn_14 : decode cX10_isIn 14 = .ok (.iconst 0, 1) := by decide +kernel
theorem dX10_isIn_15 : decode cX10_isIn 15 = .ok (.ireturn, 1) := by decide +kernel
theorem dX10_one_0 : decode cX10_one 0 = .ok (.iload_n 0, 1) := by decide +kernel
theorem dX10_one_1 : decode cX10_one 1 = .ok (.ifCond .eq 7, 3) := by decide +kernel
theorem dX10_one_4 : decode cX10_one 4 = .ok (.iconst 1, 1) := by decide +kernel
theorem dX10_one_5 : decode cX10_one 5 = .ok (.goto 4, 3) := by decide +kernel
theorem dX10_one_8 : decode cX10_one 8 = .ok (.iconst 0, 1) := by decide +kernel
theorem dX10_one_9 : decode cX10_one 9 = .ok (.ireturn, 1) := by decide +kernel
theorem dX10_isSeat_0 : decode cX10_isSeat 0 = .ok (.iload_n 1, 1) := by decide +kernel
theorem dX10_isSeat_1 : decode cX10_isSeat 1 = .ok (.iconst 0, 1) := by decide +kernel
theorem dX10_isSeat_2 : decode cX10_isSeat 2 = .ok (.aload_n 0, 1) := by decide +kernel
theorem dX10_isSeat_3 : decode cX10_isSeat 3 = .ok (.getfield 20, 3) := by decide +kernel
theorem dX10_isSeat_6 : decode cX10_isSeat 6 = .ok (.getfield 52, 3) := by decide +kernel
theorem dX10_isSeat_9 : decode cX10_isSeat 9 = .ok (.iconst 1, 1) := by decide +kernel
theorem dX10_isSeat_10 : decode cX10_isSeat 10 = .ok (.isub, 1) := by decide +kernel
theorem dX10_isSeat_11 : decode cX10_isSeat 11 = .ok (.invokestatic 61, 3) := by decide +kernel
theorem dX10_isSeat_14 : decode cX10_isSeat 14 = .ok (.ireturn, 1) := by decide +kernel
theorem dX10_isFind_0 : decode cX10_isFind 0 = .ok (.iload_n 1, 1) := by decide +kernel
theorem dX10_isFind_1 : decode cX10_isFind 1 = .ok (.iconst 0, 1) := by decide +kernel
theorem dX10_isFind_2 : decode cX10_isFind 2 = .ok (.aload_n 0, 1) := by decide +kernel
theorem dX10_isFind_3 : decode cX10_isFind 3 = .ok (.getfield 20, 3) := by decide +kernel
theorem dX10_isFind_6 : decode cX10_isFind 6 = .ok (.getfield 65, 3) := by decide +kernel
theorem dX10_isFind_9 : decode cX10_isFind 9 = .ok (.iconst 1, 1) := by decide +kernel
theorem dX10_isFind_10 : decode cX10_isFind 10 = .ok (.isub, 1) := by decide +kernel
theorem dX10_isFind_11 : decode cX10_isFind 11 = .ok (.invokestatic 61, 3) := by decide +kernel
theorem dX10_isFind_14 : decode cX10_isFind 14 = .ok (.ireturn, 1) := by decide +kernel
theorem dX10_isStratum_0 : decode cX10_isStratum 0 = .ok (.iload_n 1, 1) := by decide +kernel
theorem dX10_isStratum_1 : decode cX10_isStratum 1 = .ok (.iconst 0, 1) := by decide +kernel
theorem dX10_isStratum_2 : decode cX10_isStratum 2 = .ok (.aload_n 0, 1) := by decide +kernel
theorem dX10_isStratum_3 : decode cX10_isStratum 3 = .ok (.getfield 20, 3) := by decide +kernel
theorem dX10_isStratum_6 : decode cX10_isStratum 6 = .ok (.getfield 55, 3) := by decide +kernel
theorem dX10_isStratum_9 : decode cX10_isStratum 9 = .ok (.iconst 1, 1) := by decide +kernel
theorem dX10_isStratum_10 : decode cX10_isStratum 10 = .ok (.isub, 1) := by decide +kernel
theorem dX10_isStratum_11 : decode cX10_isStratum 11 = .ok (.invokestatic 61, 3) := by decide +kernel
theorem dX10_isStratum_14 : decode cX10_isStratum 14 = .ok (.ireturn, 1) := by decide +kernel
theorem dX10_keep_0 : decode cX10_keep 0 = .ok (.aload_n 0, 1) := by decide +kernel
theorem dX10_keep_1 : decode cX10_keep 1 = .ok (.getfield 40, 3) := by decide +kernel
theorem dX10_keep_4 : decode cX10_keep 4 = .ok (.iconst 0, 1) := by decide +kernel
theorem dX10_keep_5 : decode cX10_keep 5 = .ok (.aload_n 0, 1) := by decide +kernel
theorem dX10_keep_6 : decode cX10_keep 6 = .ok (.getfield 43, 3) := by decide +kernel
theorem dX10_keep_9 : decode cX10_keep 9 = .ok (.iconst 0, 1) := by decide +kernel
theorem dX10_keep_10 : decode cX10_keep 10 = .ok (.sipush 197, 3) := by decide +kernel
theorem dX10_keep_13 : decode cX10_keep 13 = .ok (.invokestatic 68, 3) := by decide +kernel
theorem dX10_keep_16 : decode cX10_keep 16 = .ok (.return_, 1) := by decide +kernel
theorem dX10_bringBack_0 : decode cX10_bringBack 0 = .ok (.aload_n 0, 1) := by decide +kernel
theorem dX10_bringBack_1 : decode cX10_bringBack 1 = .ok (.getfield 43, 3) := by decide +kernel
theorem dX10_bringBack_4 : decode cX10_bringBack 4 = .ok (.iconst 0, 1) := by decide +kernel
theorem dX10_bringBack_5 : decode cX10_bringBack 5 = .ok (.aload_n 0, 1) := by decide +kernel
theorem dX10_bringBack_6 : decode cX10_bringBack 6 = .ok (.getfield 40, 3) := by decide +kernel
theorem dX10_bringBack_9 : decode cX10_bringBack 9 = .ok (.iconst 0, 1) := by decide +kernel
theorem dX10_bringBack_10 : decode cX10_bringBack 10 = .ok (.sipush 197, 3) := by decide +kernel
theorem dX10_bringBack_13 : decode cX10_bringBack 13 = .ok (.invokestatic 68, 3) := by decide +kernel
theorem dX10_bringBack_16 : decode cX10_bringBack 16 = .ok (.return_, 1) := by decide +kernel
theorem dX10_tall_0 : decode cX10_tall 0 = .ok (.aload_n 0, 1) := by decide +kernel
theorem dX10_tall_1 : decode cX10_tall 1 = .ok (.getfield 40, 3) := by decide +kernel
theorem dX10_tall_4 : decode cX10_tall 4 = .ok (.iconst 5, 1) := by decide +kernel
theorem dX10_tall_5 : decode cX10_tall 5 = .ok (.iload_n 1, 1) := by decide +kernel
theorem dX10_tall_6 : decode cX10_tall 6 = .ok (.iadd, 1) := by decide +kernel
theorem dX10_tall_7 : decode cX10_tall 7 = .ok (.iaload, 1) := by decide +kernel
theorem dX10_tall_8 : decode cX10_tall 8 = .ok (.ireturn, 1) := by decide +kernel
theorem dX10_top_0 : decode cX10_top 0 = .ok (.aload_n 0, 1) := by decide +kernel
theorem dX10_top_1 : decode cX10_top 1 = .ok (.getfield 40, 3) := by decide +kernel
theorem dX10_top_4 : decode cX10_top 4 = .ok (.bipush 13, 2) := by decide +kernel
theorem dX10_top_6 : decode cX10_top 6 = .ok (.bipush 10, 2) := by decide +kernel
theorem dX10_top_8 : decode cX10_top 8 = .ok (.iload_n 1, 1) := by decide +kernel
theorem dX10_top_9 : decode cX10_top 9 = .ok (.imul, 1) := by decide +kernel
theorem dX10_top_10 : decode cX10_top 10 = .ok (.iadd, 1) := by decide +kernel
theorem dX10_top_11 : decode cX10_top 11 = .ok (.aload_n 0, 1) := by decide +kernel
theorem dX10_top_12 : decode cX10_top 12 = .ok (.iload_n 1, 1) := by decide +kernel
theorem dX10_top_13 : decode cX10_top 13 = .ok (.invokevirtual 74, 3) := by decide +kernel
theorem dX10_top_16 : decode cX10_top 16 = .ok (.iadd, 1) := by decide +kernel
theorem dX10_top_17 : decode cX10_top 17 = .ok (.iconst 1, 1) := by decide +kernel
theorem dX10_top_18 : decode cX10_top 18 = .ok (.isub, 1) := by decide +kernel
theorem dX10_top_19 : decode cX10_top 19 = .ok (.iaload, 1) := by decide +kernel
theorem dX10_top_20 : decode cX10_top 20 = .ok (.ireturn, 1) := by decide +kernel
theorem dX10_hasProp_0 : decode cX10_hasProp 0 = .ok (.aload_n 0, 1) := by decide +kernel
theorem dX10_hasProp_1 : decode cX10_hasProp 1 = .ok (.getfield 40, 3) := by decide +kernel
theorem dX10_hasProp_4 : decode cX10_hasProp 4 = .ok (.iconst 4, 1) := by decide +kernel
theorem dX10_hasProp_5 : decode cX10_hasProp 5 = .ok (.iaload, 1) := by decide +kernel
theorem dX10_hasProp_6 : decode cX10_hasProp 6 = .ok (.iload_n 1, 1) := by decide +kernel
theorem dX10_hasProp_7 : decode cX10_hasProp 7 = .ok (.ishr, 1) := by decide +kernel
theorem dX10_hasProp_8 : decode cX10_hasProp 8 = .ok (.iconst 1, 1) := by decide +kernel
theorem dX10_hasProp_9 : decode cX10_hasProp 9 = .ok (.iand, 1) := by decide +kernel
theorem dX10_hasProp_10 : decode cX10_hasProp 10 = .ok (.iconst 1, 1) := by decide +kernel
theorem dX10_hasProp_11 : decode cX10_hasProp 11 = .ok (.if_icmp .ne 7, 3) := by decide +kernel
theorem dX10_hasProp_14 : decode cX10_hasProp 14 = .ok (.iconst 1, 1) := by decide +kernel
theorem dX10_hasProp_15 : decode cX10_hasProp 15 = .ok (.goto 4, 3) := by decide +kernel
theorem dX10_hasProp_18 : decode cX10_hasProp 18 = .ok (.iconst 0, 1) := by decide +kernel
theorem dX10_hasProp_19 : decode cX10_hasProp 19 = .ok (.ireturn, 1) := by decide +kernel
theorem dX10_canSlide_0 : decode cX10_canSlide 0 = .ok (.aload_n 0, 1) := by decide +kernel
theorem dX10_canSlide_1 : decode cX10_canSlide 1 = .ok (.iload_n 1, 1) := by decide +kernel
theorem dX10_canSlide_2 : decode cX10_canSlide 2 = .ok (.invokevirtual 78, 3) := by decide +kernel
theorem dX10_canSlide_5 : decode cX10_canSlide 5 = .ok (.ifCond .eq 46, 3) := by decide +kernel
theorem dX10_canSlide_8 : decode cX10_canSlide 8 = .ok (.aload_n 0, 1) := by decide +kernel
theorem dX10_canSlide_9 : decode cX10_canSlide 9 = .ok (.iload_n 1, 1) := by decide +kernel
theorem dX10_canSlide_10 : decode cX10_canSlide 10 = .ok (.invokevirtual 74, 3) := by decide +kernel
theorem dX10_canSlide_13 : decode cX10_canSlide 13 = .ok (.aload_n 0, 1) := by decide +kernel
theorem dX10_canSlide_14 : decode cX10_canSlide 14 = .ok (.iload_n 2, 1) := by decide +kernel
theorem dX10_canSlide_15 : decode cX10_canSlide 15 = .ok (.invokevirtual 74, 3) := by decide +kernel
theorem dX10_canSlide_18 : decode cX10_canSlide 18 = .ok (.iconst 3, 1) := by decide +kernel
theorem dX10_canSlide_19 : decode cX10_canSlide 19 = .ok (.iadd, 1) := by decide +kernel
theorem dX10_canSlide_20 : decode cX10_canSlide 20 = .ok (.if_icmp .le 31, 3) := by decide +kernel
theorem dX10_canSlide_23 : decode cX10_canSlide 23 = .ok (.aload_n 0, 1) := by decide +kernel
theorem dX10_canSlide_24 : decode cX10_canSlide 24 = .ok (.iload_n 1, 1) := by decide +kernel
theorem dX10_canSlide_25 : decode cX10_canSlide 25 = .ok (.invokevirtual 82, 3) := by decide +kernel
theorem dX10_canSlide_28 : decode cX10_canSlide 28 = .ok (.ifCond .ne 23, 3) := by decide +kernel
theorem dX10_canSlide_31 : decode cX10_canSlide 31 = .ok (.aload_n 0, 1) := by decide +kernel
theorem dX10_canSlide_32 : decode cX10_canSlide 32 = .ok (.getfield 20, 3) := by decide +kernel
theorem dX10_canSlide_35 : decode cX10_canSlide 35 = .ok (.getfield 85, 3) := by decide +kernel
theorem dX10_canSlide_38 : decode cX10_canSlide 38 = .ok (.aload_n 0, 1) := by decide +kernel
theorem dX10_canSlide_39 : decode cX10_canSlide 39 = .ok (.iload_n 1, 1) := by decide +kernel
theorem dX10_canSlide_40 : decode cX10_canSlide 40 = .ok (.invokevirtual 89, 3) := by decide +kernel
theorem dX10_canSlide_43 : decode cX10_canSlide 43 = .ok (.baload, 1) := by decide +kernel
theorem dX10_canSlide_44 : decode cX10_canSlide 44 = .ok (.ifCond .ne 7, 3) := by decide +kernel
theorem dX10_canSlide_47 : decode cX10_canSlide 47 = .ok (.iconst 1, 1) := by decide +kernel
theorem dX10_canSlide_48 : decode cX10_canSlide 48 = .ok (.goto 4, 3) := by decide +kernel
theorem dX10_canSlide_51 : decode cX10_canSlide 51 = .ok (.iconst 0, 1) := by decide +kernel
theorem dX10_canSlide_52 : decode cX10_canSlide 52 = .ok (.ireturn, 1) := by decide +kernel
theorem dX10_next_0 : decode cX10_next 0 = .ok (.iconst 0, 1) := by decide +kernel
theorem dX10_next_1 : decode cX10_next 1 = .ok (.istore_n 1, 1) := by decide +kernel
theorem dX10_next_2 : decode cX10_next 2 = .ok (.iload_n 1, 1) := by decide +kernel
theorem dX10_next_3 : decode cX10_next 3 = .ok (.aload_n 0, 1) := by decide +kernel
theorem dX10_next_4 : decode cX10_next 4 = .ok (.getfield 20, 3) := by decide +kernel
theorem dX10_next_7 : decode cX10_next 7 = .ok (.getfield 52, 3) := by decide +kernel
theorem dX10_next_10 : decode cX10_next 10 = .ok (.if_icmp .ge 33, 3) := by decide +kernel
theorem dX10_next_13 : decode cX10_next 13 = .ok (.aload_n 0, 1) := by decide +kernel
theorem dX10_next_14 : decode cX10_next 14 = .ok (.iload_n 1, 1) := by decide +kernel
theorem dX10_next_15 : decode cX10_next 15 = .ok (.iconst 1, 1) := by decide +kernel
theorem dX10_next_16 : decode cX10_next 16 = .ok (.isub, 1) := by decide +kernel
theorem dX10_next_17 : decode cX10_next 17 = .ok (.iload_n 1, 1) := by decide +kernel
theorem dX10_next_18 : decode cX10_next 18 = .ok (.invokevirtual 92, 3) := by decide +kernel
theorem dX10_next_21 : decode cX10_next 21 = .ok (.ifCond .ne 14, 3) := by decide +kernel
theorem dX10_next_24 : decode cX10_next 24 = .ok (.aload_n 0, 1) := by decide +kernel
theorem dX10_next_25 : decode cX10_next 25 = .ok (.iload_n 1, 1) := by decide +kernel
theorem dX10_next_26 : decode cX10_next 26 = .ok (.iconst 1, 1) := by decide +kernel
theorem dX10_next_27 : decode cX10_next 27 = .ok (.iadd, 1) := by decide +kernel
theorem dX10_next_28 : decode cX10_next 28 = .ok (.iload_n 1, 1) := by decide +kernel
theorem dX10_next_29 : decode cX10_next 29 = .ok (.invokevirtual 92, 3) := by decide +kernel
theorem dX10_next_32 : decode cX10_next 32 = .ok (.ifCond .eq 5, 3) := by decide +kernel
theorem dX10_next_35 : decode cX10_next 35 = .ok (.iload_n 1, 1) := by decide +kernel
theorem dX10_next_36 : decode cX10_next 36 = .ok (.ireturn, 1) := by decide +kernel
theorem dX10_next_37 : decode cX10_next 37 = .ok (.iinc 1 1, 3) := by decide +kernel
theorem dX10_next_40 : decode cX10_next 40 = .ok (.goto (-38), 3) := by decide +kernel
theorem dX10_next_43 : decode cX10_next 43 = .ok (.iconst (-1), 1) := by decide +kernel
theorem dX10_next_44 : decode cX10_next 44 = .ok (.ireturn, 1) := by decide +kernel
theorem dX10_settle_0 : decode cX10_settle 0 = .ok (.iconst 0, 1) := by decide +kernel
theorem dX10_settle_1 : decode cX10_settle 1 = .ok (.istore_n 1, 1) := by decide +kernel
theorem dX10_settle_2 : decode cX10_settle 2 = .ok (.aload_n 0, 1) := by decide +kernel
theorem dX10_settle_3 : decode cX10_settle 3 = .ok (.invokevirtual 96, 3) := by decide +kernel
theorem dX10_settle_6 : decode cX10_settle 6 = .ok (.istore_n 2, 1) := by decide +kernel
theorem dX10_settle_7 : decode cX10_settle 7 = .ok (.iload_n 2, 1) := by decide +kernel
theorem dX10_settle_8 : decode cX10_settle 8 = .ok (.iconst (-1), 1) := by decide +kernel
theorem dX10_settle_9 : decode cX10_settle 9 = .ok (.if_icmp .eq 97, 3) := by decide +kernel
theorem dX10_settle_12 : decode cX10_settle 12 = .ok (.aload_n 0, 1) := by decide +kernel
theorem dX10_settle_13 : decode cX10_settle 13 = .ok (.iload_n 2, 1) := by decide +kernel
theorem dX10_settle_14 : decode cX10_settle 14 = .ok (.iconst 1, 1) := by decide +kernel
theorem dX10_settle_15 : decode cX10_settle 15 = .ok (.isub, 1) := by decide +kernel
theorem dX10_settle_16 : decode cX10_settle 16 = .ok (.iload_n 2, 1) := by decide +kernel
theorem dX10_settle_17 : decode cX10_settle 17 = .ok (.invokevirtual 92, 3) := by decide +kernel
theorem dX10_settle_20 : decode cX10_settle 20 = .ok (.ifCond .eq 9, 3) := by decide +kernel
theorem dX10_settle_23 : decode cX10_settle 23 = .ok (.iload_n 2, 1) := by decide +kernel
theorem dX10_settle_24 : decode cX10_settle 24 = .ok (.iconst 1, 1) := by decide +kernel
theorem dX10_settle_25 : decode cX10_settle 25 = .ok (.isub, 1) := by decide +kernel
theorem dX10_settle_26 : decode cX10_settle 26 = .ok (.goto 6, 3) := by decide +kernel
theorem dX10_settle_29 : decode cX10_settle 29 = .ok (.iload_n 2, 1) := by decide +kernel
theorem dX10_settle_30 : decode cX10_settle 30 = .ok (.iconst 1, 1) := by decide +kernel
theorem dX10_settle_31 : decode cX10_settle 31 = .ok (.iadd, 1) := by decide +kernel
theorem dX10_settle_32 : decode cX10_settle 32 = .ok (.istore_n 3, 1) := by decide +kernel
theorem dX10_settle_33 : decode cX10_settle 33 = .ok (.aload_n 0, 1) := by decide +kernel
theorem dX10_settle_34 : decode cX10_settle 34 = .ok (.iload_n 3, 1) := by decide +kernel
theorem dX10_settle_35 : decode cX10_settle 35 = .ok (.invokevirtual 89, 3) := by decide +kernel
theorem dX10_settle_38 : decode cX10_settle 38 = .ok (.istore 4, 2) := by decide +kernel
theorem dX10_settle_40 : decode cX10_settle 40 = .ok (.aload_n 0, 1) := by decide +kernel
theorem dX10_settle_41 : decode cX10_settle 41 = .ok (.getfield 40, 3) := by decide +kernel
theorem dX10_settle_44 : decode cX10_settle 44 = .ok (.iconst 5, 1) := by decide +kernel
theorem dX10_settle_45 : decode cX10_settle 45 = .ok (.iload_n 3, 1) := by decide +kernel
theorem dX10_settle_46 : decode cX10_settle 46 = .ok (.iadd, 1) := by decide +kernel
theorem dX10_settle_47 : decode cX10_settle 47 = .ok (.dup2, 1) := by decide +kernel
theorem dX10_settle_48 : decode cX10_settle 48 = .ok (.iaload, 1) := by decide +kernel
theorem dX10_settle_49 : decode cX10_settle 49 = .ok (.iconst 1, 1) := by decide +kernel
theorem dX10_settle_50 : decode cX10_settle 50 = .ok (.isub, 1) := by decide +kernel
theorem dX10_settle_51 : decode cX10_settle 51 = .ok (.iastore, 1) := by decide +kernel
theorem dX10_settle_52 : decode cX10_settle 52 = .ok (.aload_n 0, 1) := by decide +kernel
theorem dX10_settle_53 : decode cX10_settle 53 = .ok (.getfield 40, 3) := by decide +kernel
theorem dX10_settle_56 : decode cX10_settle 56 = .ok (.bipush 13, 2) := by decide +kernel
theorem dX10_settle_58 : decode cX10_settle 58 = .ok (.bipush 10, 2) := by decide +kernel
theorem dX10_settle_60 : decode cX10_settle 60 = .ok (.iload_n 2, 1) := by decide +kernel
theorem dX10_settle_61 : decode cX10_settle 61 = .ok (.imul, 1) := by decide +kernel
theorem dX10_settle_62 : decode cX10_settle 62 = .ok (.iadd, 1) := by decide +kernel
theorem dX10_settle_63 : decode cX10_settle 63 = .ok (.aload_n 0, 1) := by decide +kernel
theorem dX10_settle_64 : decode cX10_settle 64 = .ok (.iload_n 2, 1) := by decide +kernel
theorem dX10_settle_65 : decode cX10_settle 65 = .ok (.invokevirtual 74, 3) := by decide +kernel
theorem dX10_settle_68 : decode cX10_settle 68 = .ok (.iadd, 1) := by decide +kernel
theorem dX10_settle_69 : decode cX10_settle 69 = .ok (.iload 4, 2) := by decide +kernel
theorem dX10_settle_71 : decode cX10_settle 71 = .ok (.iastore, 1) := by decide +kernel
theorem dX10_settle_72 : decode cX10_settle 72 = .ok (.aload_n 0, 1) := by decide +kernel
theorem dX10_settle_73 : decode cX10_settle 73 = .ok (.getfield 40, 3) := by decide +kernel
theorem dX10_settle_76 : decode cX10_settle 76 = .ok (.iconst 5, 1) := by decide +kernel
theorem dX10_settle_77 : decode cX10_settle 77 = .ok (.iload_n 2, 1) := by decide +kernel
theorem dX10_settle_78 : decode cX10_settle 78 = .ok (.iadd, 1) := by decide +kernel
theorem dX10_settle_79 : decode cX10_settle 79 = .ok (.dup2, 1) := by decide +kernel
theorem dX10_settle_80 : decode cX10_settle 80 = .ok (.iaload, 1) := by decide +kernel
theorem dX10_settle_81 : decode cX10_settle 81 = .ok (.iconst 1, 1) := by decide +kernel
theorem dX10_settle_82 : decode cX10_settle 82 = .ok (.iadd, 1) := by decide +kernel
theorem dX10_settle_83 : decode cX10_settle 83 = .ok (.iastore, 1) := by decide +kernel
theorem dX10_settle_84 : decode cX10_settle 84 = .ok (.aload_n 0, 1) := by decide +kernel
theorem dX10_settle_85 : decode cX10_settle 85 = .ok (.getfield 40, 3) := by decide +kernel
theorem dX10_settle_88 : decode cX10_settle 88 = .ok (.bipush 93, 2) := by decide +kernel
theorem dX10_settle_90 : decode cX10_settle 90 = .ok (.iload 4, 2) := by decide +kernel
theorem dX10_settle_92 : decode cX10_settle 92 = .ok (.iadd, 1) := by decide +kernel
theorem dX10_settle_93 : decode cX10_settle 93 = .ok (.iconst 1, 1) := by decide +kernel
theorem dX10_settle_94 : decode cX10_settle 94 = .ok (.iastore, 1) := by decide +kernel
theorem dX10_settle_95 : decode cX10_settle 95 = .ok (.iinc 1 1, 3) := by decide +kernel
theorem dX10_settle_98 : decode cX10_settle 98 = .ok (.aload_n 0, 1) := by decide +kernel
theorem dX10_settle_99 : decode cX10_settle 99 = .ok (.invokevirtual 96, 3) := by decide +kernel
theorem dX10_settle_102 : decode cX10_settle 102 = .ok (.istore_n 2, 1) := by decide +kernel
theorem dX10_settle_103 : decode cX10_settle 103 = .ok (.goto (-96), 3) := by decide +kernel
theorem dX10_settle_106 : decode cX10_settle 106 = .ok (.aload_n 0, 1) := by decide +kernel
theorem dX10_settle_107 : decode cX10_settle 107 = .ok (.getfield 40, 3) := by decide +kernel
theorem dX10_settle_110 : decode cX10_settle 110 = .ok (.iconst 3, 1) := by decide +kernel
theorem dX10_settle_111 : decode cX10_settle 111 = .ok (.dup2, 1) := by decide +kernel
theorem dX10_settle_112 : decode cX10_settle 112 = .ok (.iaload, 1) := by decide +kernel
theorem dX10_settle_113 : decode cX10_settle 113 = .ok (.iload_n 1, 1) := by decide +kernel
theorem dX10_settle_114 : decode cX10_settle 114 = .ok (.iadd, 1) := by decide +kernel
theorem dX10_settle_115 : decode cX10_settle 115 = .ok (.iastore, 1) := by decide +kernel
theorem dX10_settle_116 : decode cX10_settle 116 = .ok (.iload_n 1, 1) := by decide +kernel
theorem dX10_settle_117 : decode cX10_settle 117 = .ok (.ireturn, 1) := by decide +kernel
theorem dX10_digs_0 : decode cX10_digs 0 = .ok (.aload_n 0, 1) := by decide +kernel
theorem dX10_digs_1 : decode cX10_digs 1 = .ok (.iload_n 1, 1) := by decide +kernel
theorem dX10_digs_2 : decode cX10_digs 2 = .ok (.invokevirtual 89, 3) := by decide +kernel
theorem dX10_digs_5 : decode cX10_digs 5 = .ok (.istore_n 2, 1) := by decide +kernel
theorem dX10_digs_6 : decode cX10_digs 6 = .ok (.aload_n 0, 1) := by decide +kernel
theorem dX10_digs_7 : decode cX10_digs 7 = .ok (.getfield 20, 3) := by decide +kernel
theorem dX10_digs_10 : decode cX10_digs 10 = .ok (.getfield 100, 3) := by decide +kernel
theorem dX10_digs_13 : decode cX10_digs 13 = .ok (.iload_n 2, 1) := by decide +kernel
theorem dX10_digs_14 : decode cX10_digs 14 = .ok (.iaload, 1) := by decide +kernel
theorem dX10_digs_15 : decode cX10_digs 15 = .ok (.istore_n 3, 1) := by decide +kernel
theorem dX10_digs_16 : decode cX10_digs 16 = .ok (.aload_n 0, 1) := by decide +kernel
theorem dX10_digs_17 : decode cX10_digs 17 = .ok (.getfield 40, 3) := by decide +kernel
theorem dX10_digs_20 : decode cX10_digs 20 = .ok (.iconst 5, 1) := by decide +kernel
theorem dX10_digs_21 : decode cX10_digs 21 = .ok (.iload_n 1, 1) := by decide +kernel
theorem dX10_digs_22 : decode cX10_digs 22 = .ok (.iadd, 1) := by decide +kernel
theorem dX10_digs_23 : decode cX10_digs 23 = .ok (.dup2, 1) := by decide +kernel
theorem dX10_digs_24 : decode cX10_digs 24 = .ok (.iaload, 1) := by decide +kernel
theorem dX10_digs_25 : decode cX10_digs 25 = .ok (.iconst 1, 1) := by decide +kernel
theorem dX10_digs_26 : decode cX10_digs 26 = .ok (.isub, 1) := by decide +kernel
theorem dX10_digs_27 : decode cX10_digs 27 = .ok (.iastore, 1) := by decide +kernel
theorem dX10_digs_28 : decode cX10_digs 28 = .ok (.aload_n 0, 1) := by decide +kernel
theorem dX10_digs_29 : decode cX10_digs 29 = .ok (.getfield 40, 3) := by decide +kernel
theorem dX10_digs_32 : decode cX10_digs 32 = .ok (.iconst 2, 1) := by decide +kernel
theorem dX10_digs_33 : decode cX10_digs 33 = .ok (.dup2, 1) := by decide +kernel
theorem dX10_digs_34 : decode cX10_digs 34 = .ok (.iaload, 1) := by decide +kernel
theorem dX10_digs_35 : decode cX10_digs 35 = .ok (.iconst 1, 1) := by decide +kernel
theorem dX10_digs_36 : decode cX10_digs 36 = .ok (.iadd, 1) := by decide +kernel
theorem dX10_digs_37 : decode cX10_digs 37 = .ok (.iastore, 1) := by decide +kernel
theorem dX10_digs_38 : decode cX10_digs 38 = .ok (.iload_n 3, 1) := by decide +kernel
theorem dX10_digs_39 : decode cX10_digs 39 = .ok (.iconst (-1), 1) := by decide +kernel
theorem dX10_digs_40 : decode cX10_digs 40 = .ok (.if_icmp .eq 31, 3) := by decide +kernel
theorem dX10_digs_43 : decode cX10_digs 43 = .ok (.aload_n 0, 1) := by decide +kernel
theorem dX10_digs_44 : decode cX10_digs 44 = .ok (.getfield 40, 3) := by decide +kernel
theorem dX10_digs_47 : decode cX10_digs 47 = .ok (.sipush 173, 3) := by decide +kernel
theorem dX10_digs_50 : decode cX10_digs 50 = .ok (.iload_n 3, 1) := by decide +kernel
theorem dX10_digs_51 : decode cX10_digs 51 = .ok (.iadd, 1) := by decide +kernel
theorem dX10_digs_52 : decode cX10_digs 52 = .ok (.aload_n 0, 1) := by decide +kernel
theorem dX10_digs_53 : decode cX10_digs 53 = .ok (.getfield 40, 3) := by decide +kernel
theorem dX10_digs_56 : decode cX10_digs 56 = .ok (.bipush 93, 2) := by decide +kernel
theorem dX10_digs_58 : decode cX10_digs 58 = .ok (.iload_n 2, 1) := by decide +kernel
theorem dX10_digs_59 : decode cX10_digs 59 = .ok (.iadd, 1) := by decide +kernel
theorem dX10_digs_60 : decode cX10_digs 60 = .ok (.iaload, 1) := by decide +kernel
theorem dX10_digs_61 : decode cX10_digs 61 = .ok (.iconst 1, 1) := by decide +kernel
theorem dX10_digs_62 : decode cX10_digs 62 = .ok (.if_icmp .ne 7, 3) := by decide +kernel
theorem dX10_digs_65 : decode cX10_digs 65 = .ok (.iconst 1, 1) := by decide +kernel
theorem dX10_digs_66 : decode cX10_digs 66 = .ok (.goto 4, 3) := by decide +kernel
theorem dX10_digs_69 : decode cX10_digs 69 = .ok (.iconst 2, 1) := by decide +kernel
theorem dX10_digs_70 : decode cX10_digs 70 = .ok (.iastore, 1) := by decide +kernel
theorem dX10_digs_71 : decode cX10_digs 71 = .ok (.aload_n 0, 1) := by decide +kernel
theorem dX10_digs_72 : decode cX10_digs 72 = .ok (.invokevirtual 103, 3) := by decide +kernel
theorem dX10_digs_75 : decode cX10_digs 75 = .ok (.pop, 1) := by decide +kernel
theorem dX10_digs_76 : decode cX10_digs 76 = .ok (.iload_n 3, 1) := by decide +kernel
theorem dX10_digs_77 : decode cX10_digs 77 = .ok (.ireturn, 1) := by decide +kernel
theorem dX10_left_0 : decode cX10_left 0 = .ok (.iconst 0, 1) := by decide +kernel
theorem dX10_left_1 : decode cX10_left 1 = .ok (.istore_n 2, 1) := by decide +kernel
theorem dX10_left_2 : decode cX10_left 2 = .ok (.iconst 0, 1) := by decide +kernel
theorem dX10_left_3 : decode cX10_left 3 = .ok (.istore_n 3, 1) := by decide +kernel
theorem dX10_left_4 : decode cX10_left 4 = .ok (.iload_n 3, 1) := by decide +kernel
theorem dX10_left_5 : decode cX10_left 5 = .ok (.aload_n 0, 1) := by decide +kernel
theorem dX10_left_6 : decode cX10_left 6 = .ok (.iload_n 1, 1) := by decide +kernel
theorem dX10_left_7 : decode cX10_left 7 = .ok (.invokevirtual 74, 3) := by decide +kernel
theorem dX10_left_10 : decode cX10_left 10 = .ok (.if_icmp .ge 46, 3) := by decide +kernel
theorem dX10_left_13 : decode cX10_left 13 = .ok (.iload_n 2, 1) := by decide +kernel
theorem dX10_left_14 : decode cX10_left 14 = .ok (.aload_n 0, 1) := by decide +kernel
theorem dX10_left_15 : decode cX10_left 15 = .ok (.getfield 20, 3) := by decide +kernel
theorem dX10_left_18 : decode cX10_left 18 = .ok (.getfield 100, 3) := by decide +kernel
theorem dX10_left_21 : decode cX10_left 21 = .ok (.aload_n 0, 1) := by decide +kernel
theorem dX10_left_22 : decode cX10_left 22 = .ok (.getfield 40, 3) := by decide +kernel
theorem dX10_left_25 : decode cX10_left 25 = .ok (.bipush 13, 2) := by decide +kernel
theorem dX10_left_27 : decode cX10_left 27 = .ok (.bipush 10, 2) := by decide +kernel
theorem dX10_left_29 : decode cX10_left 29 = .ok (.iload_n 1, 1) := by decide +kernel
theorem dX10_left_30 : decode cX10_left 30 = .ok (.imul, 1) := by decide +kernel
theorem dX10_left_31 : decode cX10_left 31 = .ok (.iadd, 1) := by decide +kernel
theorem dX10_left_32 : decode cX10_left 32 = .ok (.iload_n 3, 1) := by decide +kernel
theorem dX10_left_33 : decode cX10_left 33 = .ok (.iadd, 1) := by decide +kernel
theorem dX10_left_34 : decode cX10_left 34 = .ok (.iaload, 1) := by decide +kernel
theorem dX10_left_35 : decode cX10_left 35 = .ok (.iaload, 1) := by decide +kernel
theorem dX10_left_36 : decode cX10_left 36 = .ok (.iconst (-1), 1) := by decide +kernel
theorem dX10_left_37 : decode cX10_left 37 = .ok (.if_icmp .eq 7, 3) := by decide +kernel
theorem dX10_left_40 : decode cX10_left 40 = .ok (.iconst 1, 1) := by decide +kernel
theorem dX10_left_41 : decode cX10_left 41 = .ok (.goto 4, 3) := by decide +kernel
theorem dX10_left_44 : decode cX10_left 44 = .ok (.iconst 0, 1) := by decide +kernel
theorem dX10_left_45 : decode cX10_left 45 = .ok (.invokestatic 106, 3) := by decide +kernel
theorem dX10_left_48 : decode cX10_left 48 = .ok (.iadd, 1) := by decide +kernel
theorem dX10_left_49 : decode cX10_left 49 = .ok (.istore_n 2, 1) := by decide +kernel
theorem dX10_left_50 : decode cX10_left 50 = .ok (.iinc 3 1, 3) := by decide +kernel
theorem dX10_left_53 : decode cX10_left 53 = .ok (.goto (-49), 3) := by decide +kernel
theorem dX10_left_56 : decode cX10_left 56 = .ok (.iload_n 2, 1) := by decide +kernel
theorem dX10_left_57 : decode cX10_left 57 = .ok (.ireturn, 1) := by decide +kernel
theorem dX10_buried_0 : decode cX10_buried 0 = .ok (.iconst 0, 1) := by decide +kernel
theorem dX10_buried_1 : decode cX10_buried 1 = .ok (.istore_n 2, 1) := by decide +kernel
theorem dX10_buried_2 : decode cX10_buried 2 = .ok (.iload_n 2, 1) := by decide +kernel
theorem dX10_buried_3 : decode cX10_buried 3 = .ok (.aload_n 0, 1) := by decide +kernel
theorem dX10_buried_4 : decode cX10_buried 4 = .ok (.getfield 20, 3) := by decide +kernel
theorem dX10_buried_7 : decode cX10_buried 7 = .ok (.getfield 52, 3) := by decide +kernel
theorem dX10_buried_10 : decode cX10_buried 10 = .ok (.if_icmp .ge 62, 3) := by decide +kernel
theorem dX10_buried_13 : decode cX10_buried 13 = .ok (.iconst 0, 1) := by decide +kernel
theorem dX10_buried_14 : decode cX10_buried 14 = .ok (.istore_n 3, 1) := by decide +kernel
theorem dX10_buried_15 : decode cX10_buried 15 = .ok (.iload_n 3, 1) := by decide +kernel
theorem dX10_buried_16 : decode cX10_buried 16 = .ok (.aload_n 0, 1) := by decide +kernel
theorem dX10_buried_17 : decode cX10_buried 17 = .ok (.iload_n 2, 1) := by decide +kernel
theorem dX10_buried_18 : decode cX10_buried 18 = .ok (.invokevirtual 74, 3) := by decide +kernel
theorem dX10_buried_21 : decode cX10_buried 21 = .ok (.if_icmp .ge 45, 3) := by decide +kernel
theorem dX10_buried_24 : decode cX10_buried 24 = .ok (.aload_n 0, 1) := by decide +kernel
theorem dX10_buried_25 : decode cX10_buried 25 = .ok (.getfield 40, 3) := by decide +kernel
theorem dX10_buried_28 : decode cX10_buried 28 = .ok (.bipush 13, 2) := by decide +kernel
theorem dX10_buried_30 : decode cX10_buried 30 = .ok (.bipush 10, 2) := by decide +kernel
theorem dX10_buried_32 : decode cX10_buried 32 = .ok (.iload_n 2, 1) := by decide +kernel
theorem dX10_buried_33 : decode cX10_buried 33 = .ok (.imul, 1) := by decide +kernel
theorem dX10_buried_34 : decode cX10_buried 34 = .ok (.iadd, 1) := by decide +kernel
theorem dX10_buried_35 : decode cX10_buried 35 = .ok (.iload_n 3, 1) := by decide +kernel
theorem dX10_buried_36 : decode cX10_buried 36 = .ok (.iadd, 1) := by decide +kernel
theorem dX10_buried_37 : decode cX10_buried 37 = .ok (.iaload, 1) := by decide +kernel
theorem dX10_buried_38 : decode cX10_buried 38 = .ok (.aload_n 0, 1) := by decide +kernel
theorem dX10_buried_39 : decode cX10_buried 39 = .ok (.getfield 20, 3) := by decide +kernel
theorem dX10_buried_42 : decode cX10_buried 42 = .ok (.getfield 110, 3) := by decide +kernel
theorem dX10_buried_45 : decode cX10_buried 45 = .ok (.iload_n 1, 1) := by decide +kernel
theorem dX10_buried_46 : decode cX10_buried 46 = .ok (.iaload, 1) := by decide +kernel
theorem dX10_buried_47 : decode cX10_buried 47 = .ok (.if_icmp .ne 13, 3) := by decide +kernel
theorem dX10_buried_50 : decode cX10_buried 50 = .ok (.aload_n 0, 1) := by decide +kernel
theorem dX10_buried_51 : decode cX10_buried 51 = .ok (.iload_n 2, 1) := by decide +kernel
theorem dX10_buried_52 : decode cX10_buried 52 = .ok (.invokevirtual 74, 3) := by decide +kernel
theorem dX10_buried_55 : decode cX10_buried 55 = .ok (.iconst 1, 1) := by decide +kernel
theorem dX10_buried_56 : decode cX10_buried 56 = .ok (.isub, 1) := by decide +kernel
theorem dX10_buried_57 : decode cX10_buried 57 = .ok (.iload_n 3, 1) := by decide +kernel
theorem dX10_buried_58 : decode cX10_buried 58 = .ok (.isub, 1) := by decide +kernel
theorem dX10_buried_59 : decode cX10_buried 59 = .ok (.ireturn, 1) := by decide +kernel
theorem dX10_buried_60 : decode cX10_buried 60 = .ok (.iinc 3 1, 3) := by decide +kernel
theorem dX10_buried_63 : decode cX10_buried 63 = .ok (.goto (-48), 3) := by decide +kernel
theorem dX10_buried_66 : decode cX10_buried 66 = .ok (.iinc 2 1, 3) := by decide +kernel
theorem dX10_buried_69 : decode cX10_buried 69 = .ok (.goto (-67), 3) := by decide +kernel
theorem dX10_buried_72 : decode cX10_buried 72 = .ok (.iconst (-1), 1) := by decide +kernel
theorem dX10_buried_73 : decode cX10_buried 73 = .ok (.ireturn, 1) := by decide +kernel
theorem dX10_foundNow_0 : decode cX10_foundNow 0 = .ok (.iconst 0, 1) := by decide +kernel
theorem dX10_foundNow_1 : decode cX10_foundNow 1 = .ok (.istore_n 2, 1) := by decide +kernel
theorem dX10_foundNow_2 : decode cX10_foundNow 2 = .ok (.iconst 0, 1) := by decide +kernel
theorem dX10_foundNow_3 : decode cX10_foundNow 3 = .ok (.istore_n 3, 1) := by decide +kernel
theorem dX10_foundNow_4 : decode cX10_foundNow 4 = .ok (.iload_n 3, 1) := by decide +kernel
theorem dX10_foundNow_5 : decode cX10_foundNow 5 = .ok (.aload_n 0, 1) := by decide +kernel
theorem dX10_foundNow_6 : decode cX10_foundNow 6 = .ok (.getfield 20, 3) := by decide +kernel
theorem dX10_foundNow_9 : decode cX10_foundNow 9 = .ok (.getfield 65, 3) := by decide +kernel
theorem dX10_foundNow_12 : decode cX10_foundNow 12 = .ok (.if_icmp .ge 34, 3) := by decide +kernel
theorem dX10_foundNow_15 : decode cX10_foundNow 15 = .ok (.iload_n 2, 1) := by decide +kernel
theorem dX10_foundNow_16 : decode cX10_foundNow 16 = .ok (.aload_n 0, 1) := by decide +kernel
theorem dX10_foundNow_17 : decode cX10_foundNow 17 = .ok (.getfield 40, 3) := by decide +kernel
theorem dX10_foundNow_20 : decode cX10_foundNow 20 = .ok (.sipush 173, 3) := by decide +kernel
theorem dX10_foundNow_23 : decode cX10_foundNow 23 = .ok (.iload_n 3, 1) := by decide +kernel
theorem dX10_foundNow_24 : decode cX10_foundNow 24 = .ok (.iadd, 1) := by decide +kernel
theorem dX10_foundNow_25 : decode cX10_foundNow 25 = .ok (.iaload, 1) := by decide +kernel
theorem dX10_foundNow_26 : decode cX10_foundNow 26 = .ok (.iload_n 1, 1) := by decide +kernel
theorem dX10_foundNow_27 : decode cX10_foundNow 27 = .ok (.if_icmp .lt 7, 3) := by decide +kernel
theorem dX10_foundNow_30 : decode cX10_foundNow 30 = .ok (.iconst 1, 1) := by decide +kernel
theorem dX10_foundNow_31 : decode cX10_foundNow 31 = .ok (.goto 4, 3) := by decide +kernel
theorem dX10_foundNow_34 : decode cX10_foundNow 34 = .ok (.iconst 0, 1) := by decide +kernel
theorem dX10_foundNow_35 : decode cX10_foundNow 35 = .ok (.invokestatic 106, 3) := by decide +kernel
theorem dX10_foundNow_38 : decode cX10_foundNow 38 = .ok (.iadd, 1) := by decide +kernel
theorem dX10_foundNow_39 : decode cX10_foundNow 39 = .ok (.istore_n 2, 1) := by decide +kernel
theorem dX10_foundNow_40 : decode cX10_foundNow 40 = .ok (.iinc 3 1, 3) := by decide +kernel
theorem dX10_foundNow_43 : decode cX10_foundNow 43 = .ok (.goto (-39), 3) := by decide +kernel
theorem dX10_foundNow_46 : decode cX10_foundNow 46 = .ok (.iload_n 2, 1) := by decide +kernel
theorem dX10_foundNow_47 : decode cX10_foundNow 47 = .ok (.ireturn, 1) := by decide +kernel
theorem dX10_sure_0 : decode cX10_sure 0 = .ok (.aload_n 0, 1) := by decide +kernel
theorem dX10_sure_1 : decode cX10_sure 1 = .ok (.getfield 40, 3) := by decide +kernel
theorem dX10_sure_4 : decode cX10_sure 4 = .ok (.sipush 173, 3) := by decide +kernel
theorem dX10_sure_7 : decode cX10_sure 7 = .ok (.iload_n 1, 1) := by decide +kernel
theorem dX10_sure_8 : decode cX10_sure 8 = .ok (.iadd, 1) := by decide +kernel
theorem dX10_sure_9 : decode cX10_sure 9 = .ok (.iaload, 1) := by decide +kernel
theorem dX10_sure_10 : decode cX10_sure 10 = .ok (.iconst 2, 1) := by decide +kernel
theorem dX10_sure_11 : decode cX10_sure 11 = .ok (.if_icmp .ne 7, 3) := by decide +kernel
theorem dX10_sure_14 : decode cX10_sure 14 = .ok (.iconst 1, 1) := by decide +kernel
theorem dX10_sure_15 : decode cX10_sure 15 = .ok (.goto 4, 3) := by decide +kernel
theorem dX10_sure_18 : decode cX10_sure 18 = .ok (.iconst 0, 1) := by decide +kernel
theorem dX10_sure_19 : decode cX10_sure 19 = .ok (.ireturn, 1) := by decide +kernel
theorem dX10_stratum_0 : decode cX10_stratum 0 = .ok (.aload_n 0, 1) := by decide +kernel
theorem dX10_stratum_1 : decode cX10_stratum 1 = .ok (.getfield 20, 3) := by decide +kernel
theorem dX10_stratum_4 : decode cX10_stratum 4 = .ok (.getfield 110, 3) := by decide +kernel
theorem dX10_stratum_7 : decode cX10_stratum 7 = .ok (.iload_n 1, 1) := by decide +kernel
theorem dX10_stratum_8 : decode cX10_stratum 8 = .ok (.iaload, 1) := by decide +kernel
theorem dX10_stratum_9 : decode cX10_stratum 9 = .ok (.bipush 10, 2) := by decide +kernel
theorem dX10_stratum_11 : decode cX10_stratum 11 = .ok (.irem, 1) := by decide +kernel
theorem dX10_stratum_12 : decode cX10_stratum 12 = .ok (.ireturn, 1) := by decide +kernel
theorem dX10_notBeforeNow_0 : decode cX10_notBeforeNow 0 = .ok (.iconst (-1), 1) := by decide +kernel
theorem dX10_notBeforeNow_1 : decode cX10_notBeforeNow 1 = .ok (.istore_n 2, 1) := by decide +kernel
theorem dX10_notBeforeNow_2 : decode cX10_notBeforeNow 2 = .ok (.iconst 0, 1) := by decide +kernel
theorem dX10_notBeforeNow_3 : decode cX10_notBeforeNow 3 = .ok (.istore_n 3, 1) := by decide +kernel
theorem dX10_notBeforeNow_4 : decode cX10_notBeforeNow 4 = .ok (.iload_n 3, 1) := by decide +kernel
theorem dX10_notBeforeNow_5 : decode cX10_notBeforeNow 5 = .ok (.aload_n 0, 1) := by decide +kernel
theorem dX10_notBeforeNow_6 : decode cX10_notBeforeNow 6 = .ok (.getfield 20, 3) := by decide +kernel
theorem dX10_notBeforeNow_9 : decode cX10_notBeforeNow 9 = .ok (.getfield 65, 3) := by decide +kernel
theorem dX10_notBeforeNow_12 : decode cX10_notBeforeNow 12 = .ok (.if_icmp .ge 72, 3) := by decide +kernel
theorem dX10_notBeforeNow_15 : decode cX10_notBeforeNow 15 = .ok (.aload_n 0, 1) := by decide +kernel
theorem dX10_notBeforeNow_16 : decode cX10_notBeforeNow 16 = .ok (.iload_n 3, 1) := by decide +kernel
theorem dX10_notBeforeNow_17 : decode cX10_notBeforeNow 17 = .ok (.invokevirtual 113, 3) := by decide +kernel
theorem dX10_notBeforeNow_20 : decode cX10_notBeforeNow 20 = .ok (.ifCond .eq 58, 3) := by decide +kernel
theorem dX10_notBeforeNow_23 : decode cX10_notBeforeNow 23 = .ok (.aload_n 0, 1) := by decide +kernel
theorem dX10_notBeforeNow_24 : decode cX10_notBeforeNow 24 = .ok (.iload_n 3, 1) := by decide +kernel
theorem dX10_notBeforeNow_25 : decode cX10_notBeforeNow 25 = .ok (.invokevirtual 116, 3) := by decide +kernel
theorem dX10_notBeforeNow_28 : decode cX10_notBeforeNow 28 = .ok (.iload_n 1, 1) := by decide +kernel
theorem dX10_notBeforeNow_29 : decode cX10_notBeforeNow 29 = .ok (.if_icmp .gt 49, 3) := by decide +kernel
theorem dX10_notBeforeNow_32 : decode cX10_notBeforeNow 32 = .ok (.iload_n 2, 1) := by decide +kernel
theorem dX10_notBeforeNow_33 : decode cX10_notBeforeNow 33 = .ok (.aload_n 0, 1) := by decide +kernel
theorem dX10_notBeforeNow_34 : decode cX10_notBeforeNow 34 = .ok (.getfield 20, 3) := by decide +kernel
theorem dX10_notBeforeNow_37 : decode cX10_notBeforeNow 37 = .ok (.getfield 119, 3) := by decide +kernel
theorem dX10_notBeforeNow_40 : decode cX10_notBeforeNow 40 = .ok (.iload_n 3, 1) := by decide +kernel
theorem dX10_notBeforeNow_41 : decode cX10_notBeforeNow 41 = .ok (.baload, 1) := by decide +kernel
theorem dX10_notBeforeNow_42 : decode cX10_notBeforeNow 42 = .ok (.ifCond .eq 15, 3) := by decide +kernel
theorem dX10_notBeforeNow_45 : decode cX10_notBeforeNow 45 = .ok (.aload_n 0, 1) := by decide +kernel
theorem dX10_notBeforeNow_46 : decode cX10_notBeforeNow 46 = .ok (.getfield 20, 3) := by decide +kernel
theorem dX10_notBeforeNow_49 : decode cX10_notBeforeNow 49 = .ok (.getfield 122, 3) := by decide +kernel
theorem dX10_notBeforeNow_52 : decode cX10_notBeforeNow 52 = .ok (.iload_n 3, 1) := by decide +kernel
theorem dX10_notBeforeNow_53 : decode cX10_notBeforeNow 53 = .ok (.iaload, 1) := by decide +kernel
theorem dX10_notBeforeNow_54 : decode cX10_notBeforeNow 54 = .ok (.goto 20, 3) := by decide +kernel
theorem dX10_notBeforeNow_57 : decode cX10_notBeforeNow 57 = .ok (.aload_n 0, 1) := by decide +kernel
theorem dX10_notBeforeNow_58 : decode cX10_notBeforeNow 58 = .ok (.getfield 20, 3) := by decide +kernel
theorem dX10_notBeforeNow_61 : decode cX10_notBeforeNow 61 = .ok (.getfield 125, 3) := by decide +kernel
theorem dX10_notBeforeNow_64 : decode cX10_notBeforeNow 64 = .ok (.aload_n 0, 1) := by decide +kernel
theorem dX10_notBeforeNow_65 : decode cX10_notBeforeNow 65 = .ok (.getfield 20, 3) := by decide +kernel
theorem dX10_notBeforeNow_68 : decode cX10_notBeforeNow 68 = .ok (.getfield 122, 3) := by decide +kernel
theorem dX10_notBeforeNow_71 : decode cX10_notBeforeNow 71 = .ok (.iload_n 3, 1) := by decide +kernel
theorem dX10_notBeforeNow_72 : decode cX10_notBeforeNow 72 = .ok (.iaload, 1) := by decide +kernel
theorem dX10_notBeforeNow_73 : decode cX10_notBeforeNow 73 = .ok (.iaload, 1) := by decide +kernel
theorem dX10_notBeforeNow_74 : decode cX10_notBeforeNow 74 = .ok (.invokestatic 128, 3) := by decide +kernel
theorem dX10_notBeforeNow_77 : decode cX10_notBeforeNow 77 = .ok (.istore_n 2, 1) := by decide +kernel
theorem dX10_notBeforeNow_78 : decode cX10_notBeforeNow 78 = .ok (.iinc 3 1, 3) := by decide +kernel
theorem dX10_notBeforeNow_81 : decode cX10_notBeforeNow 81 = .ok (.goto (-77), 3) := by decide +kernel
theorem dX10_notBeforeNow_84 : decode cX10_notBeforeNow 84 = .ok (.iload_n 2, 1) := by decide +kernel
theorem dX10_notBeforeNow_85 : decode cX10_notBeforeNow 85 = .ok (.ireturn, 1) := by decide +kernel
theorem dX10_seenIn_0 : decode cX10_seenIn 0 = .ok (.iconst 0, 1) := by decide +kernel
theorem dX10_seenIn_1 : decode cX10_seenIn 1 = .ok (.istore_n 3, 1) := by decide +kernel
theorem dX10_seenIn_2 : decode cX10_seenIn 2 = .ok (.iload_n 3, 1) := by decide +kernel
theorem dX10_seenIn_3 : decode cX10_seenIn 3 = .ok (.aload_n 0, 1) := by decide +kernel
theorem dX10_seenIn_4 : decode cX10_seenIn 4 = .ok (.getfield 20, 3) := by decide +kernel
theorem dX10_seenIn_7 : decode cX10_seenIn 7 = .ok (.getfield 65, 3) := by decide +kernel
theorem dX10_seenIn_10 : decode cX10_seenIn 10 = .ok (.if_icmp .ge 53, 3) := by decide +kernel
theorem dX10_seenIn_13 : decode cX10_seenIn 13 = .ok (.aload_n 0, 1) := by decide +kernel
theorem dX10_seenIn_14 : decode cX10_seenIn 14 = .ok (.iload_n 3, 1) := by decide +kernel
theorem dX10_seenIn_15 : decode cX10_seenIn 15 = .ok (.invokevirtual 113, 3) := by decide +kernel
theorem dX10_seenIn_18 : decode cX10_seenIn 18 = .ok (.ifCond .eq 39, 3) := by decide +kernel
theorem dX10_seenIn_21 : decode cX10_seenIn 21 = .ok (.aload_n 0, 1) := by decide +kernel
theorem dX10_seenIn_22 : decode cX10_seenIn 22 = .ok (.getfield 20, 3) := by decide +kernel
theorem dX10_seenIn_25 : decode cX10_seenIn 25 = .ok (.getfield 119, 3) := by decide +kernel
theorem dX10_seenIn_28 : decode cX10_seenIn 28 = .ok (.iload_n 3, 1) := by decide +kernel
theorem dX10_seenIn_29 : decode cX10_seenIn 29 = .ok (.baload, 1) := by decide +kernel
theorem dX10_seenIn_30 : decode cX10_seenIn 30 = .ok (.ifCond .ne 27, 3) := by decide +kernel
theorem dX10_seenIn_33 : decode cX10_seenIn 33 = .ok (.aload_n 0, 1) := by decide +kernel
theorem dX10_seenIn_34 : decode cX10_seenIn 34 = .ok (.getfield 20, 3) := by decide +kernel
theorem dX10_seenIn_37 : decode cX10_seenIn 37 = .ok (.getfield 122, 3) := by decide +kernel
theorem dX10_seenIn_40 : decode cX10_seenIn 40 = .ok (.iload_n 3, 1) := by decide +kernel
theorem dX10_seenIn_41 : decode cX10_seenIn 41 = .ok (.iaload, 1) := by decide +kernel
theorem dX10_seenIn_42 : decode cX10_seenIn 42 = .ok (.iload_n 2, 1) := by decide +kernel
theorem dX10_seenIn_43 : decode cX10_seenIn 43 = .ok (.if_icmp .ne 14, 3) := by decide +kernel
theorem dX10_seenIn_46 : decode cX10_seenIn 46 = .ok (.aload_n 0, 1) := by decide +kernel
theorem dX10_seenIn_47 : decode cX10_seenIn 47 = .ok (.iload_n 3, 1) := by decide +kernel
theorem dX10_seenIn_48 : decode cX10_seenIn 48 = .ok (.invokevirtual 116, 3) := by decide +kernel
theorem dX10_seenIn_51 : decode cX10_seenIn 51 = .ok (.iload_n 1, 1) := by decide +kernel
theorem dX10_seenIn_52 : decode cX10_seenIn 52 = .ok (.if_icmp .ne 5, 3) := by decide +kernel
theorem dX10_seenIn_55 : decode cX10_seenIn 55 = .ok (.iconst 1, 1) := by decide +kernel
theorem dX10_seenIn_56 : decode cX10_seenIn 56 = .ok (.ireturn, 1) := by decide +kernel
theorem dX10_seenIn_57 : decode cX10_seenIn 57 = .ok (.iinc 3 1, 3) := by decide +kernel
theorem dX10_seenIn_60 : decode cX10_seenIn 60 = .ok (.goto (-58), 3) := by decide +kernel
theorem dX10_seenIn_63 : decode cX10_seenIn 63 = .ok (.iconst 0, 1) := by decide +kernel
theorem dX10_seenIn_64 : decode cX10_seenIn 64 = .ok (.ireturn, 1) := by decide +kernel
theorem dX10_seen_0 : decode cX10_seen 0 = .ok (.iconst 0, 1) := by decide +kernel
theorem dX10_seen_1 : decode cX10_seen 1 = .ok (.istore_n 2, 1) := by decide +kernel
theorem dX10_seen_2 : decode cX10_seen 2 = .ok (.iload_n 2, 1) := by decide +kernel
theorem dX10_seen_3 : decode cX10_seen 3 = .ok (.aload_n 0, 1) := by decide +kernel
theorem dX10_seen_4 : decode cX10_seen 4 = .ok (.getfield 20, 3) := by decide +kernel
theorem dX10_seen_7 : decode cX10_seen 7 = .ok (.getfield 55, 3) := by decide +kernel
theorem dX10_seen_10 : decode cX10_seen 10 = .ok (.if_icmp .ge 20, 3) := by decide +kernel
theorem dX10_seen_13 : decode cX10_seen 13 = .ok (.aload_n 0, 1) := by decide +kernel
theorem dX10_seen_14 : decode cX10_seen 14 = .ok (.iload_n 2, 1) := by decide +kernel
theorem dX10_seen_15 : decode cX10_seen 15 = .ok (.iload_n 1, 1) := by decide +kernel
theorem dX10_seen_16 : decode cX10_seen 16 = .ok (.invokevirtual 134, 3) := by decide +kernel
theorem dX10_seen_19 : decode cX10_seen 19 = .ok (.ifCond .eq 5, 3) := by decide +kernel
theorem dX10_seen_22 : decode cX10_seen 22 = .ok (.iconst 1, 1) := by decide +kernel
theorem dX10_seen_23 : decode cX10_seen 23 = .ok (.ireturn, 1) := by decide +kernel
theorem dX10_seen_24 : decode cX10_seen 24 = .ok (.iinc 2 1, 3) := by decide +kernel
theorem dX10_seen_27 : decode cX10_seen 27 = .ok (.goto (-25), 3) := by decide +kernel
theorem dX10_seen_30 : decode cX10_seen 30 = .ok (.iconst 0, 1) := by decide +kernel
theorem dX10_seen_31 : decode cX10_seen 31 = .ok (.ireturn, 1) := by decide +kernel
theorem dX10_mixed_0 : decode cX10_mixed 0 = .ok (.iconst 0, 1) := by decide +kernel
theorem dX10_mixed_1 : decode cX10_mixed 1 = .ok (.istore_n 2, 1) := by decide +kernel
theorem dX10_mixed_2 : decode cX10_mixed 2 = .ok (.iload_n 2, 1) := by decide +kernel
theorem dX10_mixed_3 : decode cX10_mixed 3 = .ok (.aload_n 0, 1) := by decide +kernel
theorem dX10_mixed_4 : decode cX10_mixed 4 = .ok (.getfield 20, 3) := by decide +kernel
theorem dX10_mixed_7 : decode cX10_mixed 7 = .ok (.getfield 137, 3) := by decide +kernel
theorem dX10_mixed_10 : decode cX10_mixed 10 = .ok (.if_icmp .ge 69, 3) := by decide +kernel
theorem dX10_mixed_13 : decode cX10_mixed 13 = .ok (.iconst 0, 1) := by decide +kernel
theorem dX10_mixed_14 : decode cX10_mixed 14 = .ok (.istore_n 3, 1) := by decide +kernel
theorem dX10_mixed_15 : decode cX10_mixed 15 = .ok (.iload_n 3, 1) := by decide +kernel
theorem dX10_mixed_16 : decode cX10_mixed 16 = .ok (.aload_n 0, 1) := by decide +kernel
theorem dX10_mixed_17 : decode cX10_mixed 17 = .ok (.getfield 20, 3) := by decide +kernel
theorem dX10_mixed_20 : decode cX10_mixed 20 = .ok (.getfield 137, 3) := by decide +kernel
theorem dX10_mixed_23 : decode cX10_mixed 23 = .ok (.if_icmp .ge 50, 3) := by decide +kernel
theorem dX10_mixed_26 : decode cX10_mixed 26 = .ok (.aload_n 0, 1) := by decide +kernel
theorem dX10_mixed_27 : decode cX10_mixed 27 = .ok (.getfield 20, 3) := by decide +kernel
theorem dX10_mixed_30 : decode cX10_mixed 30 = .ok (.getfield 140, 3) := by decide +kernel
theorem dX10_mixed_33 : decode cX10_mixed 33 = .ok (.iload_n 2, 1) := by decide +kernel
theorem dX10_mixed_34 : decode cX10_mixed 34 = .ok (.iaload, 1) := by decide +kernel
theorem dX10_mixed_35 : decode cX10_mixed 35 = .ok (.aload_n 0, 1) := by decide +kernel
theorem dX10_mixed_36 : decode cX10_mixed 36 = .ok (.getfield 20, 3) := by decide +kernel
theorem dX10_mixed_39 : decode cX10_mixed 39 = .ok (.getfield 125, 3) := by decide +kernel
theorem dX10_mixed_42 : decode cX10_mixed 42 = .ok (.iload_n 3, 1) := by decide +kernel
theorem dX10_mixed_43 : decode cX10_mixed 43 = .ok (.iaload, 1) := by decide +kernel
theorem dX10_mixed_44 : decode cX10_mixed 44 = .ok (.if_icmp .ge 23, 3) := by decide +kernel
theorem dX10_mixed_47 : decode cX10_mixed 47 = .ok (.aload_n 0, 1) := by decide +kernel
theorem dX10_mixed_48 : decode cX10_mixed 48 = .ok (.iload_n 1, 1) := by decide +kernel
theorem dX10_mixed_49 : decode cX10_mixed 49 = .ok (.iload_n 2, 1) := by decide +kernel
theorem dX10_mixed_50 : decode cX10_mixed 50 = .ok (.invokevirtual 134, 3) := by decide +kernel
theorem dX10_mixed_53 : decode cX10_mixed 53 = .ok (.ifCond .eq 14, 3) := by decide +kernel
theorem dX10_mixed_56 : decode cX10_mixed 56 = .ok (.aload_n 0, 1) := by decide +kernel
theorem dX10_mixed_57 : decode cX10_mixed 57 = .ok (.iload_n 1, 1) := by decide +kernel
theorem dX10_mixed_58 : decode cX10_mixed 58 = .ok (.iload_n 3, 1) := by decide +kernel
theorem dX10_mixed_59 : decode cX10_mixed 59 = .ok (.invokevirtual 134, 3) := by decide +kernel
theorem dX10_mixed_62 : decode cX10_mixed 62 = .ok (.ifCond .eq 5, 3) := by decide +kernel
theorem dX10_mixed_65 : decode cX10_mixed 65 = .ok (.iconst 1, 1) := by decide +kernel
theorem dX10_mixed_66 : decode cX10_mixed 66 = .ok (.ireturn, 1) := by decide +kernel
theorem dX10_mixed_67 : decode cX10_mixed 67 = .ok (.iinc 3 1, 3) := by decide +kernel
theorem dX10_mixed_70 : decode cX10_mixed 70 = .ok (.goto (-55), 3) := by decide +kernel
theorem dX10_mixed_73 : decode cX10_mixed 73 = .ok (.iinc 2 1, 3) := by decide +kernel
theorem dX10_mixed_76 : decode cX10_mixed 76 = .ok (.goto (-74), 3) := by decide +kernel
theorem dX10_mixed_79 : decode cX10_mixed 79 = .ok (.iconst 0, 1) := by decide +kernel
theorem dX10_mixed_80 : decode cX10_mixed 80 = .ok (.ireturn, 1) := by decide +kernel
theorem dX10_isPropped3_0 : decode cX10_isPropped3 0 = .ok (.aload_n 0, 1) := by decide +kernel
theorem dX10_isPropped3_1 : decode cX10_isPropped3 1 = .ok (.getfield 40, 3) := by decide +kernel
theorem dX10_isPropped3_4 : decode cX10_isPropped3 4 = .ok (.iconst 4, 1) := by decide +kernel
theorem dX10_isPropped3_5 : decode cX10_isPropped3 5 = .ok (.iaload, 1) := by decide +kernel
theorem dX10_isPropped3_6 : decode cX10_isPropped3 6 = .ok (.invokestatic 143, 3) := by decide +kernel
theorem dX10_isPropped3_9 : decode cX10_isPropped3 9 = .ok (.iconst 3, 1) := by decide +kernel
theorem dX10_isPropped3_10 : decode cX10_isPropped3 10 = .ok (.if_icmp .lt 7, 3) := by decide +kernel
theorem dX10_isPropped3_13 : decode cX10_isPropped3 13 = .ok (.iconst 1, 1) := by decide +kernel
theorem dX10_isPropped3_14 : decode cX10_isPropped3 14 = .ok (.goto 4, 3) := by decide +kernel
theorem dX10_isPropped3_17 : decode cX10_isPropped3 17 = .ok (.iconst 0, 1) := by decide +kernel
theorem dX10_isPropped3_18 : decode cX10_isPropped3 18 = .ok (.ireturn, 1) := by decide +kernel
theorem dX10_isCarriedOut_0 : decode cX10_isCarriedOut 0 = .ok (.aload_n 0, 1) := by decide +kernel
theorem dX10_isCarriedOut_1 : decode cX10_isCarriedOut 1 = .ok (.iconst 2, 1) := by decide +kernel
theorem dX10_isCarriedOut_2 : decode cX10_isCarriedOut 2 = .ok (.iload_n 1, 1) := by decide +kernel
theorem dX10_isCarriedOut_3 : decode cX10_isCarriedOut 3 = .ok (.imul, 1) := by decide +kernel
theorem dX10_isCarriedOut_4 : decode cX10_isCarriedOut 4 = .ok (.iconst 1, 1) := by decide +kernel
theorem dX10_isCarriedOut_5 : decode cX10_isCarriedOut 5 = .ok (.iadd, 1) := by decide +kernel
theorem dX10_isCarriedOut_6 : decode cX10_isCarriedOut 6 = .ok (.invokevirtual 148, 3) := by decide +kernel
theorem dX10_isCarriedOut_9 : decode cX10_isCarriedOut 9 = .ok (.iconst 1, 1) := by decide +kernel
theorem dX10_isCarriedOut_10 : decode cX10_isCarriedOut 10 = .ok (.if_icmp .eq 5, 3) := by decide +kernel
theorem dX10_isCarriedOut_13 : decode cX10_isCarriedOut 13 = .ok (.iconst 0, 1) := by decide +kernel
theorem dX10_isCarriedOut_14 : decode cX10_isCarriedOut 14 = .ok (.ireturn, 1) := by decide +kernel
theorem dX10_isCarriedOut_15 : decode cX10_isCarriedOut 15 = .ok (.aload_n 0, 1) := by decide +kernel
theorem dX10_isCarriedOut_16 : decode cX10_isCarriedOut 16 = .ok (.iconst 2, 1) := by decide +kernel
theorem dX10_isCarriedOut_17 : decode cX10_isCarriedOut 17 = .ok (.iload_n 1, 1) := by decide +kernel
theorem dX10_isCarriedOut_18 : decode cX10_isCarriedOut 18 = .ok (.imul, 1) := by decide +kernel
theorem dX10_isCarriedOut_19 : decode cX10_isCarriedOut 19 = .ok (.invokevirtual 148, 3) := by decide +kernel
theorem dX10_isCarriedOut_22 : decode cX10_isCarriedOut 22 = .ok (.aload_n 0, 1) := by decide +kernel
theorem dX10_isCarriedOut_23 : decode cX10_isCarriedOut 23 = .ok (.getfield 20, 3) := by decide +kernel
theorem dX10_isCarriedOut_26 : decode cX10_isCarriedOut 26 = .ok (.getfield 52, 3) := by decide +kernel
theorem dX10_isCarriedOut_29 : decode cX10_isCarriedOut 29 = .ok (.invokestatic 151, 3) := by decide +kernel
theorem dX10_isCarriedOut_32 : decode cX10_isCarriedOut 32 = .ok (.istore_n 2, 1) := by decide +kernel
theorem dX10_isCarriedOut_33 : decode cX10_isCarriedOut 33 = .ok (.aload_n 0, 1) := by decide +kernel
theorem dX10_isCarriedOut_34 : decode cX10_isCarriedOut 34 = .ok (.getfield 20, 3) := by decide +kernel
theorem dX10_isCarriedOut_37 : decode cX10_isCarriedOut 37 = .ok (.getfield 154, 3) := by decide +kernel
theorem dX10_isCarriedOut_40 : decode cX10_isCarriedOut 40 = .ok (.iload_n 1, 1) := by decide +kernel
theorem dX10_isCarriedOut_41 : decode cX10_isCarriedOut 41 = .ok (.iaload, 1) := by decide +kernel
theorem dX10_isCarriedOut_42 : decode cX10_isCarriedOut 42 = .ok (.bipush 11, 2) := by decide +kernel
theorem dX10_isCarriedOut_44 : decode cX10_isCarriedOut 44 = .ok (.if_icmp .ne 22, 3) := by decide +kernel
theorem dX10_isCarriedOut_47 : decode cX10_isCarriedOut 47 = .ok (.aload_n 0, 1) := by decide +kernel
theorem dX10_isCarriedOut_48 : decode cX10_isCarriedOut 48 = .ok (.iload_n 2, 1) := by decide +kernel
theorem dX10_isCarriedOut_49 : decode cX10_isCarriedOut 49 = .ok (.invokevirtual 74, 3) := by decide +kernel
theorem dX10_isCarriedOut_52 : decode cX10_isCarriedOut 52 = .ok (.ifCond .ne 5, 3) := by decide +kernel
theorem dX10_isCarriedOut_55 : decode cX10_isCarriedOut 55 = .ok (.iconst 0, 1) := by decide +kernel
theorem dX10_isCarriedOut_56 : decode cX10_isCarriedOut 56 = .ok (.ireturn, 1) := by decide +kernel
theorem dX10_isCarriedOut_57 : decode cX10_isCarriedOut 57 = .ok (.aload_n 0, 1) := by decide +kernel
theorem dX10_isCarriedOut_58 : decode cX10_isCarriedOut 58 = .ok (.iload_n 2, 1) := by decide +kernel
theorem dX10_isCarriedOut_59 : decode cX10_isCarriedOut 59 = .ok (.invokevirtual 157, 3) := by decide +kernel
theorem dX10_isCarriedOut_62 : decode cX10_isCarriedOut 62 = .ok (.pop, 1) := by decide +kernel
theorem dX10_isCarriedOut_63 : decode cX10_isCarriedOut 63 = .ok (.goto 78, 3) := by decide +kernel
theorem dX10_isCarriedOut_66 : decode cX10_isCarriedOut 66 = .ok (.aload_n 0, 1) := by decide +kernel
theorem dX10_isCarriedOut_67 : decode cX10_isCarriedOut 67 = .ok (.getfield 20, 3) := by decide +kernel
theorem dX10_isCarriedOut_70 : decode cX10_isCarriedOut 70 = .ok (.getfield 154, 3) := by decide +kernel
theorem dX10_isCarriedOut_73 : decode cX10_isCarriedOut 73 = .ok (.iload_n 1, 1) := by decide +kernel
theorem dX10_isCarriedOut_74 : decode cX10_isCarriedOut 74 = .ok (.iaload, 1) := by decide +kernel
theorem dX10_isCarriedOut_75 : decode cX10_isCarriedOut 75 = .ok (.bipush 12, 2) := by decide +kernel
theorem dX10_isCarriedOut_77 : decode cX10_isCarriedOut 77 = .ok (.if_icmp .ne 35, 3) := by decide +kernel
theorem dX10_isCarriedOut_80 : decode cX10_isCarriedOut 80 = .ok (.aload_n 0, 1) := by decide +kernel
theorem dX10_isCarriedOut_81 : decode cX10_isCarriedOut 81 = .ok (.iload_n 2, 1) := by decide +kernel
theorem dX10_isCarriedOut_82 : decode cX10_isCarriedOut 82 = .ok (.invokevirtual 82, 3) := by decide +kernel
theorem dX10_isCarriedOut_85 : decode cX10_isCarriedOut 85 = .ok (.ifCond .ne 10, 3) := by decide +kernel
theorem dX10_isCarriedOut_88 : decode cX10_isCarriedOut 88 = .ok (.aload_n 0, 1) := by decide +kernel
theorem dX10_isCarriedOut_89 : decode cX10_isCarriedOut 89 = .ok (.invokevirtual 160, 3) := by decide +kernel
theorem dX10_isCarriedOut_92 : decode cX10_isCarriedOut 92 = .ok (.ifCond .eq 5, 3) := by decide +kernel
theorem dX10_isCarriedOut_95 : decode cX10_isCarriedOut 95 = .ok (.iconst 0, 1) := by decide +kernel
theorem dX10_isCarriedOut_96 : decode cX10_isCarriedOut 96 = .ok (.ireturn, 1) := by decide +kernel
theorem dX10_isCarriedOut_97 : decode cX10_isCarriedOut 97 = .ok (.aload_n 0, 1) := by decide +kernel
theorem dX10_isCarriedOut_98 : decode cX10_isCarriedOut 98 = .ok (.getfield 40, 3) := by decide +kernel
theorem dX10_isCarriedOut_101 : decode cX10_isCarriedOut 101 = .ok (.iconst 4, 1) := by decide +kernel
theorem dX10_isCarriedOut_102 : decode cX10_isCarriedOut 102 = .ok (.dup2, 1) := by decide +kernel
theorem dX10_isCarriedOut_103 : decode cX10_isCarriedOut 103 = .ok (.iaload, 1) := by decide +kernel
theorem dX10_isCarriedOut_104 : decode cX10_isCarriedOut 104 = .ok (.iconst 1, 1) := by decide +kernel
theorem dX10_isCarriedOut_105 : decode cX10_isCarriedOut 105 = .ok (.iload_n 2, 1) := by decide +kernel
theorem dX10_isCarriedOut_106 : decode cX10_isCarriedOut 106 = .ok (.ishl, 1) := by decide +kernel
theorem dX10_isCarriedOut_107 : decode cX10_isCarriedOut 107 = .ok (.ior, 1) := by decide +kernel
theorem dX10_isCarriedOut_108 : decode cX10_isCarriedOut 108 = .ok (.iastore, 1) := by decide +kernel
theorem dX10_isCarriedOut_109 : decode cX10_isCarriedOut 109 = .ok (.goto 32, 3) := by decide +kernel
theorem dX10_isCarriedOut_112 : decode cX10_isCarriedOut 112 = .ok (.aload_n 0, 1) := by decide +kernel
theorem dX10_isCarriedOut_113 : decode cX10_isCarriedOut 113 = .ok (.iload_n 2, 1) := by decide +kernel
theorem dX10_isCarriedOut_114 : decode cX10_isCarriedOut 114 = .ok (.invokevirtual 82, 3) := by decide +kernel
theorem dX10_isCarriedOut_117 : decode cX10_isCarriedOut 117 = .ok (.ifCond .ne 5, 3) := by decide +kernel
theorem dX10_isCarriedOut_120 : decode cX10_isCarriedOut 120 = .ok (.iconst 0, 1) := by decide +kernel
theorem dX10_isCarriedOut_121 : decode cX10_isCarriedOut 121 = .ok (.ireturn, 1) := by decide +kernel
theorem dX10_isCarriedOut_122 : decode cX10_isCarriedOut 122 = .ok (.aload_n 0, 1) := by decide +kernel
theorem dX10_isCarriedOut_123 : decode cX10_isCarriedOut 123 = .ok (.getfield 40, 3) := by decide +kernel
theorem dX10_isCarriedOut_126 : decode cX10_isCarriedOut 126 = .ok (.iconst 4, 1) := by decide +kernel
theorem dX10_isCarriedOut_127 : decode cX10_isCarriedOut 127 = .ok (.dup2, 1) := by decide +kernel
theorem dX10_isCarriedOut_128 : decode cX10_isCarriedOut 128 = .ok (.iaload, 1) := by decide +kernel
theorem dX10_isCarriedOut_129 : decode cX10_isCarriedOut 129 = .ok (.iconst 1, 1) := by decide +kernel
theorem dX10_isCarriedOut_130 : decode cX10_isCarriedOut 130 = .ok (.iload_n 2, 1) := by decide +kernel
theorem dX10_isCarriedOut_131 : decode cX10_isCarriedOut 131 = .ok (.ishl, 1) := by decide +kernel
theorem dX10_isCarriedOut_132 : decode cX10_isCarriedOut 132 = .ok (.iconst (-1), 1) := by decide +kernel
theorem dX10_isCarriedOut_133 : decode cX10_isCarriedOut 133 = .ok (.ixor, 1) := by decide +kernel
theorem dX10_isCarriedOut_134 : decode cX10_isCarriedOut 134 = .ok (.iand, 1) := by decide +kernel
theorem dX10_isCarriedOut_135 : decode cX10_isCarriedOut 135 = .ok (.iastore, 1) := by decide +kernel
theorem dX10_isCarriedOut_136 : decode cX10_isCarriedOut 136 = .ok (.aload_n 0, 1) := by decide +kernel
theorem dX10_isCarriedOut_137 : decode cX10_isCarriedOut 137 = .ok (.invokevirtual 103, 3) := by decide +kernel
theorem dX10_isCarriedOut_140 : decode cX10_isCarriedOut 140 = .ok (.pop, 1) := by decide +kernel
theorem dX10_isCarriedOut_141 : decode cX10_isCarriedOut 141 = .ok (.iconst 1, 1) := by decide +kernel
theorem dX10_isCarriedOut_142 : decode cX10_isCarriedOut 142 = .ok (.ireturn, 1) := by decide +kernel
theorem dX10_go_0 : decode cX10_go 0 = .ok (.aload_n 0, 1) := by decide +kernel
theorem dX10_go_1 : decode cX10_go 1 = .ok (.iconst 1, 1) := by decide +kernel
theorem dX10_go_2 : decode cX10_go 2 = .ok (.invokevirtual 164, 3) := by decide +kernel
theorem dX10_go_5 : decode cX10_go 5 = .ok (.istore_n 2, 1) := by decide +kernel
theorem dX10_go_6 : decode cX10_go 6 = .ok (.iconst 0, 1) := by decide +kernel
theorem dX10_go_7 : decode cX10_go 7 = .ok (.istore_n 3, 1) := by decide +kernel
theorem dX10_go_8 : decode cX10_go 8 = .ok (.iload_n 3, 1) := by decide +kernel
theorem dX10_go_9 : decode cX10_go 9 = .ok (.iload_n 1, 1) := by decide +kernel
theorem dX10_go_10 : decode cX10_go 10 = .ok (.if_icmp .ge 58, 3) := by decide +kernel
theorem dX10_go_13 : decode cX10_go 13 = .ok (.iconst 0, 1) := by decide +kernel
theorem dX10_go_14 : decode cX10_go 14 = .ok (.istore 4, 2) := by decide +kernel
theorem dX10_go_16 : decode cX10_go 16 = .ok (.iload 4, 2) := by decide +kernel
theorem dX10_go_18 : decode cX10_go 18 = .ok (.aload_n 0, 1) := by decide +kernel
theorem dX10_go_19 : decode cX10_go 19 = .ok (.getfield 20, 3) := by decide +kernel
theorem dX10_go_22 : decode cX10_go 22 = .ok (.getfield 167, 3) := by decide +kernel
theorem dX10_go_25 : decode cX10_go 25 = .ok (.if_icmp .ge 27, 3) := by decide +kernel
theorem dX10_go_28 : decode cX10_go 28 = .ok (.aload_n 0, 1) := by decide +kernel
theorem dX10_go_29 : decode cX10_go 29 = .ok (.getfield 40, 3) := by decide +kernel
theorem dX10_go_32 : decode cX10_go 32 = .ok (.iconst 1, 1) := by decide +kernel
theorem dX10_go_33 : decode cX10_go 33 = .ok (.dup2, 1) := by decide +kernel
theorem dX10_go_34 : decode cX10_go 34 = .ok (.iaload, 1) := by decide +kernel
theorem dX10_go_35 : decode cX10_go 35 = .ok (.aload_n 0, 1) := by decide +kernel
theorem dX10_go_36 : decode cX10_go 36 = .ok (.iload 4, 2) := by decide +kernel
theorem dX10_go_38 : decode cX10_go 38 = .ok (.invokevirtual 170, 3) := by decide +kernel
theorem dX10_go_41 : decode cX10_go 41 = .ok (.invokestatic 106, 3) := by decide +kernel
theorem dX10_go_44 : decode cX10_go 44 = .ok (.iadd, 1) := by decide +kernel
theorem dX10_go_45 : decode cX10_go 45 = .ok (.iastore, 1) := by decide +kernel
theorem dX10_go_46 : decode cX10_go 46 = .ok (.iinc 4 1, 3) := by decide +kernel
theorem dX10_go_49 : decode cX10_go 49 = .ok (.goto (-33), 3) := by decide +kernel
theorem dX10_go_52 : decode cX10_go 52 = .ok (.aload_n 0, 1) := by decide +kernel
theorem dX10_go_53 : decode cX10_go 53 = .ok (.getfield 40, 3) := by decide +kernel
theorem dX10_go_56 : decode cX10_go 56 = .ok (.iconst 0, 1) := by decide +kernel
theorem dX10_go_57 : decode cX10_go 57 = .ok (.dup2, 1) := by decide +kernel
theorem dX10_go_58 : decode cX10_go 58 = .ok (.iaload, 1) := by decide +kernel
theorem dX10_go_59 : decode cX10_go 59 = .ok (.iconst 1, 1) := by decide +kernel
theorem dX10_go_60 : decode cX10_go 60 = .ok (.iadd, 1) := by decide +kernel
theorem dX10_go_61 : decode cX10_go 61 = .ok (.iastore, 1) := by decide +kernel
theorem dX10_go_62 : decode cX10_go 62 = .ok (.iinc 3 1, 3) := by decide +kernel
theorem dX10_go_65 : decode cX10_go 65 = .ok (.goto (-57), 3) := by decide +kernel
theorem dX10_go_68 : decode cX10_go 68 = .ok (.aload_n 0, 1) := by decide +kernel
theorem dX10_go_69 : decode cX10_go 69 = .ok (.iconst 1, 1) := by decide +kernel
theorem dX10_go_70 : decode cX10_go 70 = .ok (.invokevirtual 164, 3) := by decide +kernel
theorem dX10_go_73 : decode cX10_go 73 = .ok (.iload_n 2, 1) := by decide +kernel
theorem dX10_go_74 : decode cX10_go 74 = .ok (.isub, 1) := by decide +kernel
theorem dX10_go_75 : decode cX10_go 75 = .ok (.ireturn, 1) := by decide +kernel
theorem dX10_ask_0 : decode cX10_ask 0 = .ok (.iload_n 1, 1) := by decide +kernel
theorem dX10_ask_1 : decode cX10_ask 1 = .ok (.lookupswitch 119 #[(15, 69), (16, 76), (17, 82), (18, 89), (19, 99), (20, 109), (100, 67)], 67) := by decide +kernel
theorem dX10_ask_68 : decode cX10_ask 68 = .ok (.iload_n 2, 1) := by decide +kernel
theorem dX10_ask_69 : decode cX10_ask 69 = .ok (.ireturn, 1) := by decide +kernel
theorem dX10_ask_70 : decode cX10_ask 70 = .ok (.aload_n 0, 1) := by decide +kernel
theorem dX10_ask_71 : decode cX10_ask 71 = .ok (.getfield 40, 3) := by decide +kernel
theorem dX10_ask_74 : decode cX10_ask 74 = .ok (.iconst 0, 1) := by decide +kernel
theorem dX10_ask_75 : decode cX10_ask 75 = .ok (.iaload, 1) := by decide +kernel
theorem dX10_ask_76 : decode cX10_ask 76 = .ok (.ireturn, 1) := by decide +kernel
theorem dX10_ask_77 : decode cX10_ask 77 = .ok (.aload_n 0, 1) := by decide +kernel
theorem dX10_ask_78 : decode cX10_ask 78 = .ok (.iconst 1, 1) := by decide +kernel
theorem dX10_ask_79 : decode cX10_ask 79 = .ok (.invokevirtual 164, 3) := by decide +kernel
theorem dX10_ask_82 : decode cX10_ask 82 = .ok (.ireturn, 1) := by decide +kernel
theorem dX10_ask_83 : decode cX10_ask 83 = .ok (.aload_n 0, 1) := by decide +kernel
theorem dX10_ask_84 : decode cX10_ask 84 = .ok (.getfield 40, 3) := by decide +kernel
theorem dX10_ask_87 : decode cX10_ask 87 = .ok (.iconst 3, 1) := by decide +kernel
theorem dX10_ask_88 : decode cX10_ask 88 = .ok (.iaload, 1) := by decide +kernel
theorem dX10_ask_89 : decode cX10_ask 89 = .ok (.ireturn, 1) := by decide +kernel
theorem dX10_ask_90 : decode cX10_ask 90 = .ok (.aload_n 0, 1) := by decide +kernel
theorem dX10_ask_91 : decode cX10_ask 91 = .ok (.getfield 40, 3) := by decide +kernel
theorem dX10_ask_94 : decode cX10_ask 94 = .ok (.iconst 4, 1) := by decide +kernel
theorem dX10_ask_95 : decode cX10_ask 95 = .ok (.iaload, 1) := by decide +kernel
theorem dX10_ask_96 : decode cX10_ask 96 = .ok (.invokestatic 143, 3) := by decide +kernel
theorem dX10_ask_99 : decode cX10_ask 99 = .ok (.ireturn, 1) := by decide +kernel
theorem dX10_ask_100 : decode cX10_ask 100 = .ok (.aload_n 0, 1) := by decide +kernel
theorem dX10_ask_101 : decode cX10_ask 101 = .ok (.getfield 20, 3) := by decide +kernel
theorem dX10_ask_104 : decode cX10_ask 104 = .ok (.getfield 125, 3) := by decide +kernel
theorem dX10_ask_107 : decode cX10_ask 107 = .ok (.iload_n 2, 1) := by decide +kernel
theorem dX10_ask_108 : decode cX10_ask 108 = .ok (.iaload, 1) := by decide +kernel
theorem dX10_ask_109 : decode cX10_ask 109 = .ok (.ireturn, 1) := by decide +kernel
theorem dX10_ask_110 : decode cX10_ask 110 = .ok (.aload_n 0, 1) := by decide +kernel
theorem dX10_ask_111 : decode cX10_ask 111 = .ok (.getfield 20, 3) := by decide +kernel
theorem dX10_ask_114 : decode cX10_ask 114 = .ok (.getfield 140, 3) := by decide +kernel
theorem dX10_ask_117 : decode cX10_ask 117 = .ok (.iload_n 2, 1) := by decide +kernel
theorem dX10_ask_118 : decode cX10_ask 118 = .ok (.iaload, 1) := by decide +kernel
theorem dX10_ask_119 : decode cX10_ask 119 = .ok (.ireturn, 1) := by decide +kernel
theorem dX10_ask_120 : decode cX10_ask 120 = .ok (.aload_n 0, 1) := by decide +kernel
theorem dX10_ask_121 : decode cX10_ask 121 = .ok (.iload_n 2, 1) := by decide +kernel
theorem dX10_ask_122 : decode cX10_ask 122 = .ok (.invokevirtual 173, 3) := by decide +kernel
theorem dX10_ask_125 : decode cX10_ask 125 = .ok (.invokestatic 106, 3) := by decide +kernel
theorem dX10_ask_128 : decode cX10_ask 128 = .ok (.ireturn, 1) := by decide +kernel
theorem dX10_isAsked_0 : decode cX10_isAsked 0 = .ok (.iload_n 0, 1) := by decide +kernel
theorem dX10_isAsked_1 : decode cX10_isAsked 1 = .ok (.bipush 100, 2) := by decide +kernel
theorem dX10_isAsked_3 : decode cX10_isAsked 3 = .ok (.if_icmp .eq 20, 3) := by decide +kernel
theorem dX10_isAsked_6 : decode cX10_isAsked 6 = .ok (.iload_n 0, 1) := by decide +kernel
theorem dX10_isAsked_7 : decode cX10_isAsked 7 = .ok (.bipush 15, 2) := by decide +kernel
theorem dX10_isAsked_9 : decode cX10_isAsked 9 = .ok (.bipush 20, 2) := by decide +kernel
theorem dX10_isAsked_11 : decode cX10_isAsked 11 = .ok (.invokestatic 61, 3) := by decide +kernel
theorem dX10_isAsked_14 : decode cX10_isAsked 14 = .ok (.ifCond .ne 9, 3) := by decide +kernel
theorem dX10_isAsked_17 : decode cX10_isAsked 17 = .ok (.iload_n 0, 1) := by decide +kernel
theorem dX10_isAsked_18 : decode cX10_isAsked 18 = .ok (.bipush 22, 2) := by decide +kernel
theorem dX10_isAsked_20 : decode cX10_isAsked 20 = .ok (.if_icmp .ne 7, 3) := by decide +kernel
theorem dX10_isAsked_23 : decode cX10_isAsked 23 = .ok (.iconst 1, 1) := by decide +kernel
theorem dX10_isAsked_24 : decode cX10_isAsked 24 = .ok (.goto 4, 3) := by decide +kernel
theorem dX10_isAsked_27 : decode cX10_isAsked 27 = .ok (.iconst 0, 1) := by decide +kernel
theorem dX10_isAsked_28 : decode cX10_isAsked 28 = .ok (.ireturn, 1) := by decide +kernel
theorem dX10_turned_0 : decode cX10_turned 0 = .ok (.iload_n 1, 1) := by decide +kernel
theorem dX10_turned_1 : decode cX10_turned 1 = .ok (.lookupswitch 58 #[(21, 42), (24, 38), (105, 35)], 35) := by decide +kernel
theorem dX10_turned_36 : decode cX10_turned 36 = .ok (.iload_n 2, 1) := by decide +kernel
theorem dX10_turned_37 : decode cX10_turned 37 = .ok (.ineg, 1) := by decide +kernel
theorem dX10_turned_38 : decode cX10_turned 38 = .ok (.ireturn, 1) := by decide +kernel
theorem dX10_turned_39 : decode cX10_turned 39 = .ok (.iconst 1, 1) := by decide +kernel
theorem dX10_turned_40 : decode cX10_turned 40 = .ok (.iload_n 2, 1) := by decide +kernel
theorem dX10_turned_41 : decode cX10_turned 41 = .ok (.isub, 1) := by decide +kernel
theorem dX10_turned_42 : decode cX10_turned 42 = .ok (.ireturn, 1) := by decide +kernel
theorem dX10_turned_43 : decode cX10_turned 43 = .ok (.aload_n 0, 1) := by decide +kernel
theorem dX10_turned_44 : decode cX10_turned 44 = .ok (.iload_n 2, 1) := by decide +kernel
theorem dX10_turned_45 : decode cX10_turned 45 = .ok (.aload_n 0, 1) := by decide +kernel
theorem dX10_turned_46 : decode cX10_turned 46 = .ok (.getfield 20, 3) := by decide +kernel
theorem dX10_turned_49 : decode cX10_turned 49 = .ok (.getfield 52, 3) := by decide +kernel
theorem dX10_turned_52 : decode cX10_turned 52 = .ok (.invokestatic 151, 3) := by decide +kernel
theorem dX10_turned_55 : decode cX10_turned 55 = .ok (.invokevirtual 74, 3) := by decide +kernel
theorem dX10_turned_58 : decode cX10_turned 58 = .ok (.ireturn, 1) := by decide +kernel
theorem dX10_turned_59 : decode cX10_turned 59 = .ok (.aload_n 0, 1) := by decide +kernel
theorem dX10_turned_60 : decode cX10_turned 60 = .ok (.iload_n 2, 1) := by decide +kernel
theorem dX10_turned_61 : decode cX10_turned 61 = .ok (.invokevirtual 176, 3) := by decide +kernel
theorem dX10_turned_64 : decode cX10_turned 64 = .ok (.ifCond .eq 15, 3) := by decide +kernel
theorem dX10_turned_67 : decode cX10_turned 67 = .ok (.aload_n 0, 1) := by decide +kernel
theorem dX10_turned_68 : decode cX10_turned 68 = .ok (.iload_n 2, 1) := by decide +kernel
theorem dX10_turned_69 : decode cX10_turned 69 = .ok (.invokevirtual 113, 3) := by decide +kernel
theorem dX10_turned_72 : decode cX10_turned 72 = .ok (.ifCond .eq 7, 3) := by decide +kernel
theorem dX10_turned_75 : decode cX10_turned 75 = .ok (.iconst 1, 1) := by decide +kernel
theorem dX10_turned_76 : decode cX10_turned 76 = .ok (.goto 4, 3) := by decide +kernel
theorem dX10_turned_79 : decode cX10_turned 79 = .ok (.iconst 0, 1) := by decide +kernel
theorem dX10_turned_80 : decode cX10_turned 80 = .ok (.invokestatic 106, 3) := by decide +kernel
theorem dX10_turned_83 : decode cX10_turned 83 = .ok (.ireturn, 1) := by decide +kernel
theorem dX10_isOfOneNow_0 : decode cX10_isOfOneNow 0 = .ok (.iload_n 0, 1) := by decide +kernel
theorem dX10_isOfOneNow_1 : decode cX10_isOfOneNow 1 = .ok (.bipush 105, 2) := by decide +kernel
theorem dX10_isOfOneNow_3 : decode cX10_isOfOneNow 3 = .ok (.if_icmp .eq 21, 3) := by decide +kernel
theorem dX10_isOfOneNow_6 : decode cX10_isOfOneNow 6 = .ok (.iload_n 0, 1) := by decide +kernel
theorem dX10_isOfOneNow_7 : decode cX10_isOfOneNow 7 = .ok (.bipush 24, 2) := by decide +kernel
theorem dX10_isOfOneNow_9 : decode cX10_isOfOneNow 9 = .ok (.if_icmp .eq 15, 3) := by decide +kernel
theorem dX10_isOfOneNow_12 : decode cX10_isOfOneNow 12 = .ok (.iload_n 0, 1) := by decide +kernel
theorem dX10_isOfOneNow_13 : decode cX10_isOfOneNow 13 = .ok (.bipush 21, 2) := by decide +kernel
theorem dX10_isOfOneNow_15 : decode cX10_isOfOneNow 15 = .ok (.if_icmp .eq 9, 3) := by decide +kernel
theorem dX10_isOfOneNow_18 : decode cX10_isOfOneNow 18 = .ok (.iload_n 0, 1) := by decide +kernel
theorem dX10_isOfOneNow_19 : decode cX10_isOfOneNow 19 = .ok (.bipush 23, 2) := by decide +kernel
theorem dX10_isOfOneNow_21 : decode cX10_isOfOneNow 21 = .ok (.if_icmp .ne 7, 3) := by decide +kernel
theorem dX10_isOfOneNow_24 : decode cX10_isOfOneNow 24 = .ok (.iconst 1, 1) := by decide +kernel
theorem dX10_isOfOneNow_25 : decode cX10_isOfOneNow 25 = .ok (.goto 4, 3) := by decide +kernel
theorem dX10_isOfOneNow_28 : decode cX10_isOfOneNow 28 = .ok (.iconst 0, 1) := by decide +kernel
theorem dX10_isOfOneNow_29 : decode cX10_isOfOneNow 29 = .ok (.ireturn, 1) := by decide +kernel
theorem dX10_reckon_0 : decode cX10_reckon 0 = .ok (.iload_n 0, 1) := by decide +kernel
theorem dX10_reckon_1 : decode cX10_reckon 1 = .ok (.lookupswitch 217 #[(25, 213), (27, 131), (28, 137), (101, 107), (102, 111), (103, 115), (104, 119), (106, 143), (107, 157), (108, 171), (109, 185), (110, 199)], 107) := by decide +kernel
theorem dX10_reckon_108 : decode cX10_reckon 108 = .ok (.iload_n 1, 1) := by decide +kernel
theorem dX10_reckon_109 : decode cX10_reckon 109 = .ok (.iload_n 2, 1) := by decide +kernel
theorem dX10_reckon_110 : decode cX10_reckon 110 = .ok (.iadd, 1) := by decide +kernel
theorem dX10_reckon_111 : decode cX10_reckon 111 = .ok (.ireturn, 1) := by decide +kernel
theorem dX10_reckon_112 : decode cX10_reckon 112 = .ok (.iload_n 1, 1) := by decide +kernel
theorem dX10_reckon_113 : decode cX10_reckon 113 = .ok (.iload_n 2, 1) := by decide +kernel
theorem dX10_reckon_114 : decode cX10_reckon 114 = .ok (.isub, 1) := by decide +kernel
theorem dX10_reckon_115 : decode cX10_reckon 115 = .ok (.ireturn, 1) := by decide +kernel
theorem dX10_reckon_116 : decode cX10_reckon 116 = .ok (.iload_n 1, 1) := by decide +kernel
theorem dX10_reckon_117 : decode cX10_reckon 117 = .ok (.iload_n 2, 1) := by decide +kernel
theorem dX10_reckon_118 : decode cX10_reckon 118 = .ok (.imul, 1) := by decide +kernel
theorem dX10_reckon_119 : decode cX10_reckon 119 = .ok (.ireturn, 1) := by decide +kernel
theorem dX10_reckon_120 : decode cX10_reckon 120 = .ok (.iload_n 2, 1) := by decide +kernel
theorem dX10_reckon_121 : decode cX10_reckon 121 = .ok (.ifCond .ne 7, 3) := by decide +kernel
theorem dX10_reckon_124 : decode cX10_reckon 124 = .ok (.iconst 0, 1) := by decide +kernel
theorem dX10_reckon_125 : decode cX10_reckon 125 = .ok (.goto 6, 3) := by decide +kernel
theorem dX10_reckon_128 : decode cX10_reckon 128 = .ok (.iload_n 1, 1) := by decide +kernel
theorem dX10_reckon_129 : decode cX10_reckon 129 = .ok (.iload_n 2, 1) := by decide +kernel
theorem dX10_reckon_130 : decode cX10_reckon 130 = .ok (.idiv, 1) := by decide +kernel
theorem dX10_reckon_131 : decode cX10_reckon 131 = .ok (.ireturn, 1) := by decide +kernel
theorem dX10_reckon_132 : decode cX10_reckon 132 = .ok (.iload_n 1, 1) := by decide +kernel
theorem dX10_reckon_133 : decode cX10_reckon 133 = .ok (.iload_n 2, 1) := by decide +kernel
theorem dX10_reckon_134 : decode cX10_reckon 134 = .ok (.invokestatic 179, 3) := by decide +kernel
theorem dX10_reckon_137 : decode cX10_reckon 137 = .ok (.ireturn, 1) := by decide +kernel
theorem dX10_reckon_138 : decode cX10_reckon 138 = .ok (.iload_n 1, 1) := by decide +kernel
theorem dX10_reckon_139 : decode cX10_reckon 139 = .ok (.iload_n 2, 1) := by decide +kernel
theorem dX10_reckon_140 : decode cX10_reckon 140 = .ok (.invokestatic 128, 3) := by decide +kernel
theorem dX10_reckon_143 : decode cX10_reckon 143 = .ok (.ireturn, 1) := by decide +kernel
theorem dX10_reckon_144 : decode cX10_reckon 144 = .ok (.iload_n 1, 1) := by decide +kernel
theorem dX10_reckon_145 : decode cX10_reckon 145 = .ok (.iload_n 2, 1) := by decide +kernel
theorem dX10_reckon_146 : decode cX10_reckon 146 = .ok (.if_icmp .ge 7, 3) := by decide +kernel
theorem dX10_reckon_149 : decode cX10_reckon 149 = .ok (.iconst 1, 1) := by decide +kernel
theorem dX10_reckon_150 : decode cX10_reckon 150 = .ok (.goto 4, 3) := by decide +kernel
theorem dX10_reckon_153 : decode cX10_reckon 153 = .ok (.iconst 0, 1) := by decide +kernel
theorem dX10_reckon_154 : decode cX10_reckon 154 = .ok (.invokestatic 106, 3) := by decide +kernel
theorem dX10_reckon_157 : decode cX10_reckon 157 = .ok (.ireturn, 1) := by decide +kernel
theorem dX10_reckon_158 : decode cX10_reckon 158 = .ok (.iload_n 1, 1) := by decide +kernel
theorem dX10_reckon_159 : decode cX10_reckon 159 = .ok (.iload_n 2, 1) := by decide +kernel
theorem dX10_reckon_160 : decode cX10_reckon 160 = .ok (.if_icmp .le 7, 3) := by decide +kernel
theorem dX10_reckon_163 : decode cX10_reckon 163 = .ok (.iconst 1, 1) := by decide +kernel
theorem dX10_reckon_164 : decode cX10_reckon 164 = .ok (.goto 4, 3) := by decide +kernel
theorem dX10_reckon_167 : decode cX10_reckon 167 = .ok (.iconst 0, 1) := by decide +kernel
theorem dX10_reckon_168 : decode cX10_reckon 168 = .ok (.invokestatic 106, 3) := by decide +kernel
theorem dX10_reckon_171 : decode cX10_reckon 171 = .ok (.ireturn, 1) := by decide +kernel
theorem dX10_reckon_172 : decode cX10_reckon 172 = .ok (.iload_n 1, 1) := by decide +kernel
theorem dX10_reckon_173 : decode cX10_reckon 173 = .ok (.iload_n 2, 1) := by decide +kernel
theorem dX10_reckon_174 : decode cX10_reckon 174 = .ok (.if_icmp .ne 7, 3) := by decide +kernel
theorem dX10_reckon_177 : decode cX10_reckon 177 = .ok (.iconst 1, 1) := by decide +kernel
theorem dX10_reckon_178 : decode cX10_reckon 178 = .ok (.goto 4, 3) := by decide +kernel
theorem dX10_reckon_181 : decode cX10_reckon 181 = .ok (.iconst 0, 1) := by decide +kernel
theorem dX10_reckon_182 : decode cX10_reckon 182 = .ok (.invokestatic 106, 3) := by decide +kernel
theorem dX10_reckon_185 : decode cX10_reckon 185 = .ok (.ireturn, 1) := by decide +kernel
theorem dX10_reckon_186 : decode cX10_reckon 186 = .ok (.iload_n 1, 1) := by decide +kernel
theorem dX10_reckon_187 : decode cX10_reckon 187 = .ok (.iload_n 2, 1) := by decide +kernel
theorem dX10_reckon_188 : decode cX10_reckon 188 = .ok (.if_icmp .gt 7, 3) := by decide +kernel
theorem dX10_reckon_191 : decode cX10_reckon 191 = .ok (.iconst 1, 1) := by decide +kernel
theorem dX10_reckon_192 : decode cX10_reckon 192 = .ok (.goto 4, 3) := by decide +kernel
theorem dX10_reckon_195 : decode cX10_reckon 195 = .ok (.iconst 0, 1) := by decide +kernel
theorem dX10_reckon_196 : decode cX10_reckon 196 = .ok (.invokestatic 106, 3) := by decide +kernel
theorem dX10_reckon_199 : decode cX10_reckon 199 = .ok (.ireturn, 1) := by decide +kernel
theorem dX10_reckon_200 : decode cX10_reckon 200 = .ok (.iload_n 1, 1) := by decide +kernel
theorem dX10_reckon_201 : decode cX10_reckon 201 = .ok (.iload_n 2, 1) := by decide +kernel
theorem dX10_reckon_202 : decode cX10_reckon 202 = .ok (.if_icmp .lt 7, 3) := by decide +kernel
theorem dX10_reckon_205 : decode cX10_reckon 205 = .ok (.iconst 1, 1) := by decide +kernel
theorem dX10_reckon_206 : decode cX10_reckon 206 = .ok (.goto 4, 3) := by decide +kernel
theorem dX10_reckon_209 : decode cX10_reckon 209 = .ok (.iconst 0, 1) := by decide +kernel
theorem dX10_reckon_210 : decode cX10_reckon 210 = .ok (.invokestatic 106, 3) := by decide +kernel
theorem dX10_reckon_213 : decode cX10_reckon 213 = .ok (.ireturn, 1) := by decide +kernel
theorem dX10_reckon_214 : decode cX10_reckon 214 = .ok (.iload_n 1, 1) := by decide +kernel
theorem dX10_reckon_215 : decode cX10_reckon 215 = .ok (.iload_n 2, 1) := by decide +kernel
theorem dX10_reckon_216 : decode cX10_reckon 216 = .ok (.iand, 1) := by decide +kernel
theorem dX10_reckon_217 : decode cX10_reckon 217 = .ok (.ireturn, 1) := by decide +kernel
theorem dX10_reckon_218 : decode cX10_reckon 218 = .ok (.iload_n 1, 1) := by decide +kernel
theorem dX10_reckon_219 : decode cX10_reckon 219 = .ok (.iload_n 2, 1) := by decide +kernel
theorem dX10_reckon_220 : decode cX10_reckon 220 = .ok (.ior, 1) := by decide +kernel
theorem dX10_reckon_221 : decode cX10_reckon 221 = .ok (.ireturn, 1) := by decide +kernel
theorem dX10_reckonPart_0 : decode cX10_reckonPart 0 = .ok (.iconst 0, 1) := by decide +kernel
theorem dX10_reckonPart_1 : decode cX10_reckonPart 1 = .ok (.istore_n 2, 1) := by decide +kernel
theorem dX10_reckonPart_2 : decode cX10_reckonPart 2 = .ok (.aload_n 0, 1) := by decide +kernel
theorem dX10_reckonPart_3 : decode cX10_reckonPart 3 = .ok (.getfield 20, 3) := by decide +kernel
theorem dX10_reckonPart_6 : decode cX10_reckonPart 6 = .ok (.getfield 182, 3) := by decide +kernel
theorem dX10_reckonPart_9 : decode cX10_reckonPart 9 = .ok (.iload_n 1, 1) := by decide +kernel
theorem dX10_reckonPart_10 : decode cX10_reckonPart 10 = .ok (.iaload, 1) := by decide +kernel
theorem dX10_reckonPart_11 : decode cX10_reckonPart 11 = .ok (.istore_n 3, 1) := by decide +kernel
theorem dX10_reckonPart_12 : decode cX10_reckonPart 12 = .ok (.iload_n 3, 1) := by decide +kernel
theorem dX10_reckonPart_13 : decode cX10_reckonPart 13 = .ok (.aload_n 0, 1) := by decide +kernel
theorem dX10_reckonPart_14 : decode cX10_reckonPart 14 = .ok (.getfield 20, 3) := by decide +kernel
theorem dX10_reckonPart_17 : decode cX10_reckonPart 17 = .ok (.getfield 185, 3) := by decide +kernel
theorem dX10_reckonPart_20 : decode cX10_reckonPart 20 = .ok (.iload_n 1, 1) := by decide +kernel
theorem dX10_reckonPart_21 : decode cX10_reckonPart 21 = .ok (.iaload, 1) := by decide +kernel
theorem dX10_reckonPart_22 : decode cX10_reckonPart 22 = .ok (.if_icmp .ge 118, 3) := by decide +kernel
theorem dX10_reckonPart_25 : decode cX10_reckonPart 25 = .ok (.aload_n 0, 1) := by decide +kernel
theorem dX10_reckonPart_26 : decode cX10_reckonPart 26 = .ok (.getfield 20, 3) := by decide +kernel
theorem dX10_reckonPart_29 : decode cX10_reckonPart 29 = .ok (.getfield 188, 3) := by decide +kernel
theorem dX10_reckonPart_32 : decode cX10_reckonPart 32 = .ok (.iload_n 3, 1) := by decide +kernel
theorem dX10_reckonPart_33 : decode cX10_reckonPart 33 = .ok (.iaload, 1) := by decide +kernel
theorem dX10_reckonPart_34 : decode cX10_reckonPart 34 = .ok (.istore 4, 2) := by decide +kernel
theorem dX10_reckonPart_36 : decode cX10_reckonPart 36 = .ok (.iload 4, 2) := by decide +kernel
theorem dX10_reckonPart_38 : decode cX10_reckonPart 38 = .ok (.invokestatic 191, 3) := by decide +kernel
theorem dX10_reckonPart_41 : decode cX10_reckonPart 41 = .ok (.ifCond .eq 30, 3) := by decide +kernel
theorem dX10_reckonPart_44 : decode cX10_reckonPart 44 = .ok (.aload_n 0, 1) := by decide +kernel
theorem dX10_reckonPart_45 : decode cX10_reckonPart 45 = .ok (.getfield 46, 3) := by decide +kernel
theorem dX10_reckonPart_48 : decode cX10_reckonPart 48 = .ok (.iload_n 2, 1) := by decide +kernel
theorem dX10_reckonPart_49 : decode cX10_reckonPart 49 = .ok (.aload_n 0, 1) := by decide +kernel
theorem dX10_reckonPart_50 : decode cX10_reckonPart 50 = .ok (.iload 4, 2) := by decide +kernel
theorem dX10_reckonPart_52 : decode cX10_reckonPart 52 = .ok (.aload_n 0, 1) := by decide +kernel
theorem dX10_reckonPart_53 : decode cX10_reckonPart 53 = .ok (.getfield 20, 3) := by decide +kernel
theorem dX10_reckonPart_56 : decode cX10_reckonPart 56 = .ok (.getfield 194, 3) := by decide +kernel
theorem dX10_reckonPart_59 : decode cX10_reckonPart 59 = .ok (.iload_n 3, 1) := by decide +kernel
theorem dX10_reckonPart_60 : decode cX10_reckonPart 60 = .ok (.iaload, 1) := by decide +kernel
theorem dX10_reckonPart_61 : decode cX10_reckonPart 61 = .ok (.invokevirtual 197, 3) := by decide +kernel
theorem dX10_reckonPart_64 : decode cX10_reckonPart 64 = .ok (.iastore, 1) := by decide +kernel
theorem dX10_reckonPart_65 : decode cX10_reckonPart 65 = .ok (.iinc 2 1, 3) := by decide +kernel
theorem dX10_reckonPart_68 : decode cX10_reckonPart 68 = .ok (.goto 66, 3) := by decide +kernel
theorem dX10_reckonPart_71 : decode cX10_reckonPart 71 = .ok (.iload 4, 2) := by decide +kernel
theorem dX10_reckonPart_73 : decode cX10_reckonPart 73 = .ok (.invokestatic 200, 3) := by decide +kernel
theorem dX10_reckonPart_76 : decode cX10_reckonPart 76 = .ok (.ifCond .eq 28, 3) := by decide +kernel
theorem dX10_reckonPart_79 : decode cX10_reckonPart 79 = .ok (.aload_n 0, 1) := by decide +kernel
theorem dX10_reckonPart_80 : decode cX10_reckonPart 80 = .ok (.getfield 46, 3) := by decide +kernel
theorem dX10_reckonPart_83 : decode cX10_reckonPart 83 = .ok (.iload_n 2, 1) := by decide +kernel
theorem dX10_reckonPart_84 : decode cX10_reckonPart 84 = .ok (.iconst 1, 1) := by decide +kernel
theorem dX10_reckonPart_85 : decode cX10_reckonPart 85 = .ok (.isub, 1) := by decide +kernel
theorem dX10_reckonPart_86 : decode cX10_reckonPart 86 = .ok (.aload_n 0, 1) := by decide +kernel
theorem dX10_reckonPart_87 : decode cX10_reckonPart 87 = .ok (.iload 4, 2) := by decide +kernel
theorem dX10_reckonPart_89 : decode cX10_reckonPart 89 = .ok (.aload_n 0, 1) := by decide +kernel
theorem dX10_reckonPart_90 : decode cX10_reckonPart 90 = .ok (.getfield 46, 3) := by decide +kernel
theorem dX10_reckonPart_93 : decode cX10_reckonPart 93 = .ok (.iload_n 2, 1) := by decide +kernel
theorem dX10_reckonPart_94 : decode cX10_reckonPart 94 = .ok (.iconst 1, 1) := by decide +kernel
theorem dX10_reckonPart_95 : decode cX10_reckonPart 95 = .ok (.isub, 1) := by decide +kernel
theorem dX10_reckonPart_96 : decode cX10_reckonPart 96 = .ok (.iaload, 1) := by decide +kernel
theorem dX10_reckonPart_97 : decode cX10_reckonPart 97 = .ok (.invokevirtual 203, 3) := by decide +kernel
theorem dX10_reckonPart_100 : decode cX10_reckonPart 100 = .ok (.iastore, 1) := by decide +kernel
theorem dX10_reckonPart_101 : decode cX10_reckonPart 101 = .ok (.goto 33, 3) := by decide +kernel
theorem dX10_reckonPart_104 : decode cX10_reckonPart 104 = .ok (.iinc 2 (-1), 3) := by decide +kernel
theorem dX10_reckonPart_107 : decode cX10_reckonPart 107 = .ok (.aload_n 0, 1) := by decide +kernel
theorem dX10_reckonPart_108 : decode cX10_reckonPart 108 = .ok (.getfield 46, 3) := by decide +kernel
theorem dX10_reckonPart_111 : decode cX10_reckonPart 111 = .ok (.iload_n 2, 1) := by decide +kernel
theorem dX10_reckonPart_112 : decode cX10_reckonPart 112 = .ok (.iconst 1, 1) := by decide +kernel
theorem dX10_reckonPart_113 : decode cX10_reckonPart 113 = .ok (.isub, 1) := by decide +kernel
theorem dX10_reckonPart_114 : decode cX10_reckonPart 114 = .ok (.iload 4, 2) := by decide +kernel
theorem dX10_reckonPart_116 : decode cX10_reckonPart 116 = .ok (.aload_n 0, 1) := by decide +kernel
theorem dX10_reckonPart_117 : decode cX10_reckonPart 117 = .ok (.getfield 46, 3) := by decide +kernel
theorem dX10_reckonPart_120 : decode cX10_reckonPart 120 = .ok (.iload_n 2, 1) := by decide +kernel
theorem dX10_reckonPart_121 : decode cX10_reckonPart 121 = .ok (.iconst 1, 1) := by decide +kernel
theorem dX10_reckonPart_122 : decode cX10_reckonPart 122 = .ok (.isub, 1) := by decide +kernel
theorem dX10_reckonPart_123 : decode cX10_reckonPart 123 = .ok (.iaload, 1) := by decide +kernel
theorem dX10_reckonPart_124 : decode cX10_reckonPart 124 = .ok (.aload_n 0, 1) := by decide +kernel
theorem dX10_reckonPart_125 : decode cX10_reckonPart 125 = .ok (.getfield 46, 3) := by decide +kernel
theorem dX10_reckonPart_128 : decode cX10_reckonPart 128 = .ok (.iload_n 2, 1) := by decide +kernel
theorem dX10_reckonPart_129 : decode cX10_reckonPart 129 = .ok (.iaload, 1) := by decide +kernel
theorem dX10_reckonPart_130 : decode cX10_reckonPart 130 = .ok (.invokestatic 206, 3) := by decide +kernel
theorem dX10_reckonPart_133 : decode cX10_reckonPart 133 = .ok (.iastore, 1) := by decide +kernel
theorem dX10_reckonPart_134 : decode cX10_reckonPart 134 = .ok (.iinc 3 1, 3) := by decide +kernel
theorem dX10_reckonPart_137 : decode cX10_reckonPart 137 = .ok (.goto (-125), 3) := by decide +kernel
theorem dX10_reckonPart_140 : decode cX10_reckonPart 140 = .ok (.iload_n 2, 1) := by decide +kernel
theorem dX10_reckonPart_141 : decode cX10_reckonPart 141 = .ok (.ifCond .ne 7, 3) := by decide +kernel
theorem dX10_reckonPart_144 : decode cX10_reckonPart 144 = .ok (.iconst 1, 1) := by decide +kernel
theorem dX10_reckonPart_145 : decode cX10_reckonPart 145 = .ok (.goto 9, 3) := by decide +kernel
theorem dX10_reckonPart_148 : decode cX10_reckonPart 148 = .ok (.aload_n 0, 1) := by decide +kernel
theorem dX10_reckonPart_149 : decode cX10_reckonPart 149 = .ok (.getfield 46, 3) := by decide +kernel
theorem dX10_reckonPart_152 : decode cX10_reckonPart 152 = .ok (.iconst 0, 1) := by decide +kernel
theorem dX10_reckonPart_153 : decode cX10_reckonPart 153 = .ok (.iaload, 1) := by decide +kernel
theorem dX10_reckonPart_154 : decode cX10_reckonPart 154 = .ok (.ireturn, 1) := by decide +kernel
theorem dX10_byteOf_0 : decode cX10_byteOf 0 = .ok (.iload_n 1, 1) := by decide +kernel
theorem dX10_byteOf_1 : decode cX10_byteOf 1 = .ok (.aload_n 0, 1) := by decide +kernel
theorem dX10_byteOf_2 : decode cX10_byteOf 2 = .ok (.getfield 210, 3) := by decide +kernel
theorem dX10_byteOf_5 : decode cX10_byteOf 5 = .ok (.if_icmp .ge 12, 3) := by decide +kernel
theorem dX10_byteOf_8 : decode cX10_byteOf 8 = .ok (.aload_n 0, 1) := by decide +kernel
theorem dX10_byteOf_9 : decode cX10_byteOf 9 = .ok (.getfield 9, 3) := by decide +kernel
theorem dX10_byteOf_12 : decode cX10_byteOf 12 = .ok (.iload_n 1, 1) := by decide +kernel
theorem dX10_byteOf_13 : decode cX10_byteOf 13 = .ok (.iaload, 1) := by decide +kernel
theorem dX10_byteOf_14 : decode cX10_byteOf 14 = .ok (.goto 4, 3) := by decide +kernel
theorem dX10_byteOf_17 : decode cX10_byteOf 17 = .ok (.iconst (-1), 1) := by decide +kernel
theorem dX10_byteOf_18 : decode cX10_byteOf 18 = .ok (.ireturn, 1) := by decide +kernel
theorem dX10_isSmall_0 : decode cX10_isSmall 0 = .ok (.iload_n 0, 1) := by decide +kernel
theorem dX10_isSmall_1 : decode cX10_isSmall 1 = .ok (.bipush 97, 2) := by decide +kernel
theorem dX10_isSmall_3 : decode cX10_isSmall 3 = .ok (.if_icmp .lt 13, 3) := by decide +kernel
theorem dX10_isSmall_6 : decode cX10_isSmall 6 = .ok (.iload_n 0, 1) := by decide +kernel
theorem dX10_isSmall_7 : decode cX10_isSmall 7 = .ok (.bipush 122, 2) := by decide +kernel
theorem dX10_isSmall_9 : decode cX10_isSmall 9 = .ok (.if_icmp .gt 7, 3) := by decide +kernel
theorem dX10_isSmall_12 : decode cX10_isSmall 12 = .ok (.iconst 1, 1) := by decide +kernel
theorem dX10_isSmall_13 : decode cX10_isSmall 13 = .ok (.goto 4, 3) := by decide +kernel
theorem dX10_isSmall_16 : decode cX10_isSmall 16 = .ok (.iconst 0, 1) := by decide +kernel
theorem dX10_isSmall_17 : decode cX10_isSmall 17 = .ok (.ireturn, 1) := by decide +kernel
theorem dX10_isDigit_0 : decode cX10_isDigit 0 = .ok (.iload_n 0, 1) := by decide +kernel
theorem dX10_isDigit_1 : decode cX10_isDigit 1 = .ok (.bipush 48, 2) := by decide +kernel
theorem dX10_isDigit_3 : decode cX10_isDigit 3 = .ok (.if_icmp .lt 13, 3) := by decide +kernel
theorem dX10_isDigit_6 : decode cX10_isDigit 6 = .ok (.iload_n 0, 1) := by decide +kernel
theorem dX10_isDigit_7 : decode cX10_isDigit 7 = .ok (.bipush 57, 2) := by decide +kernel
theorem dX10_isDigit_9 : decode cX10_isDigit 9 = .ok (.if_icmp .gt 7, 3) := by decide +kernel
theorem dX10_isDigit_12 : decode cX10_isDigit 12 = .ok (.iconst 1, 1) := by decide +kernel
theorem dX10_isDigit_13 : decode cX10_isDigit 13 = .ok (.goto 4, 3) := by decide +kernel
theorem dX10_isDigit_16 : decode cX10_isDigit 16 = .ok (.iconst 0, 1) := by decide +kernel
theorem dX10_isDigit_17 : decode cX10_isDigit 17 = .ok (.ireturn, 1) := by decide +kernel
theorem dX10_endOf_0 : decode cX10_endOf 0 = .ok (.aload_n 0, 1) := by decide +kernel
theorem dX10_endOf_1 : decode cX10_endOf 1 = .ok (.iload_n 1, 1) := by decide +kernel
theorem dX10_endOf_2 : decode cX10_endOf 2 = .ok (.invokevirtual 213, 3) := by decide +kernel
theorem dX10_endOf_5 : decode cX10_endOf 5 = .ok (.istore_n 2, 1) := by decide +kernel
theorem dX10_endOf_6 : decode cX10_endOf 6 = .ok (.iload_n 1, 1) := by decide +kernel
theorem dX10_endOf_7 : decode cX10_endOf 7 = .ok (.iconst 1, 1) := by decide +kernel
theorem dX10_endOf_8 : decode cX10_endOf 8 = .ok (.iadd, 1) := by decide +kernel
theorem dX10_endOf_9 : decode cX10_endOf 9 = .ok (.istore_n 3, 1) := by decide +kernel
theorem dX10_endOf_10 : decode cX10_endOf 10 = .ok (.iload_n 2, 1) := by decide +kernel
theorem dX10_endOf_11 : decode cX10_endOf 11 = .ok (.invokestatic 216, 3) := by decide +kernel
theorem dX10_endOf_14 : decode cX10_endOf 14 = .ok (.ifCond .eq 31, 3) := by decide +kernel
theorem dX10_endOf_17 : decode cX10_endOf 17 = .ok (.aload_n 0, 1) := by decide +kernel
theorem dX10_endOf_18 : decode cX10_endOf 18 = .ok (.iload_n 3, 1) := by decide +kernel
theorem dX10_endOf_19 : decode cX10_endOf 19 = .ok (.invokevirtual 213, 3) := by decide +kernel
theorem dX10_endOf_22 : decode cX10_endOf 22 = .ok (.invokestatic 216, 3) := by decide +kernel
theorem dX10_endOf_25 : decode cX10_endOf 25 = .ok (.ifCond .ne 14, 3) := by decide +kernel
theorem dX10_endOf_28 : decode cX10_endOf 28 = .ok (.aload_n 0, 1) := by decide +kernel
theorem dX10_endOf_29 : decode cX10_endOf 29 = .ok (.iload_n 3, 1) := by decide +kernel
theorem dX10_endOf_30 : decode cX10_endOf 30 = .ok (.invokevirtual 213, 3) := by decide +kernel
theorem dX10_endOf_33 : decode cX10_endOf 33 = .ok (.invokestatic 219, 3) := by decide +kernel
theorem dX10_endOf_36 : decode cX10_endOf 36 = .ok (.ifCond .eq 9, 3) := by decide +kernel
theorem dX10_endOf_39 : decode cX10_endOf 39 = .ok (.iinc 3 1, 3) := by decide +kernel
theorem dX10_endOf_42 : decode cX10_endOf 42 = .ok (.goto (-25), 3) := by decide +kernel
theorem dX10_endOf_45 : decode cX10_endOf 45 = .ok (.iload_n 2, 1) := by decide +kernel
theorem dX10_endOf_46 : decode cX10_endOf 46 = .ok (.invokestatic 219, 3) := by decide +kernel
theorem dX10_endOf_49 : decode cX10_endOf 49 = .ok (.ifCond .eq 20, 3) := by decide +kernel
theorem dX10_endOf_52 : decode cX10_endOf 52 = .ok (.aload_n 0, 1) := by decide +kernel
theorem dX10_endOf_53 : decode cX10_endOf 53 = .ok (.iload_n 3, 1) := by decide +kernel
theorem dX10_endOf_54 : decode cX10_endOf 54 = .ok (.invokevirtual 213, 3) := by decide +kernel
theorem dX10_endOf_57 : decode cX10_endOf 57 = .ok (.invokestatic 219, 3) := by decide +kernel
theorem dX10_endOf_60 : decode cX10_endOf 60 = .ok (.ifCond .eq 9, 3) := by decide +kernel
theorem dX10_endOf_63 : decode cX10_endOf 63 = .ok (.iinc 3 1, 3) := by decide +kernel
theorem dX10_endOf_66 : decode cX10_endOf 66 = .ok (.goto (-14), 3) := by decide +kernel
theorem dX10_endOf_69 : decode cX10_endOf 69 = .ok (.iload_n 2, 1) := by decide +kernel
theorem dX10_endOf_70 : decode cX10_endOf 70 = .ok (.bipush 60, 2) := by decide +kernel
theorem dX10_endOf_72 : decode cX10_endOf 72 = .ok (.if_icmp .eq 9, 3) := by decide +kernel
theorem dX10_endOf_75 : decode cX10_endOf 75 = .ok (.iload_n 2, 1) := by decide +kernel
theorem dX10_endOf_76 : decode cX10_endOf 76 = .ok (.bipush 62, 2) := by decide +kernel
theorem dX10_endOf_78 : decode cX10_endOf 78 = .ok (.if_icmp .ne 16, 3) := by decide +kernel
theorem dX10_endOf_81 : decode cX10_endOf 81 = .ok (.aload_n 0, 1) := by decide +kernel
theorem dX10_endOf_82 : decode cX10_endOf 82 = .ok (.iload_n 3, 1) := by decide +kernel
theorem dX10_endOf_83 : decode cX10_endOf 83 = .ok (.invokevirtual 213, 3) := by decide +kernel
theorem dX10_endOf_86 : decode cX10_endOf 86 = .ok (.bipush 61, 2) := by decide +kernel
theorem dX10_endOf_88 : decode cX10_endOf 88 = .ok (.if_icmp .ne 6, 3) := by decide +kernel
theorem dX10_endOf_91 : decode cX10_endOf 91 = .ok (.iinc 3 1, 3) := by decide +kernel
theorem dX10_endOf_94 : decode cX10_endOf 94 = .ok (.iload_n 3, 1) := by decide +kernel
theorem dX10_endOf_95 : decode cX10_endOf 95 = .ok (.ireturn, 1) := by decide +kernel
theorem dX10_kindOf_0 : decode cX10_kindOf 0 = .ok (.aload_n 0, 1) := by decide +kernel
theorem dX10_kindOf_1 : decode cX10_kindOf 1 = .ok (.iload_n 2, 1) := by decide +kernel
theorem dX10_kindOf_2 : decode cX10_kindOf 2 = .ok (.invokevirtual 213, 3) := by decide +kernel
theorem dX10_kindOf_5 : decode cX10_kindOf 5 = .ok (.istore 4, 2) := by decide +kernel
theorem dX10_kindOf_7 : decode cX10_kindOf 7 = .ok (.iload 4, 2) := by decide +kernel
theorem dX10_kindOf_9 : decode cX10_kindOf 9 = .ok (.iconst (-1), 1) := by decide +kernel
theorem dX10_kindOf_10 : decode cX10_kindOf 10 = .ok (.if_icmp .ne 6, 3) := by decide +kernel
theorem dX10_kindOf_13 : decode cX10_kindOf 13 = .ok (.bipush 33, 2) := by decide +kernel
theorem dX10_kindOf_15 : decode cX10_kindOf 15 = .ok (.ireturn, 1) := by decide +kernel
theorem dX10_kindOf_16 : decode cX10_kindOf 16 = .ok (.iload 4, 2) := by decide +kernel
theorem dX10_kindOf_18 : decode cX10_kindOf 18 = .ok (.invokestatic 219, 3) := by decide +kernel
theorem dX10_kindOf_21 : decode cX10_kindOf 21 = .ok (.ifCond .eq 24, 3) := by decide +kernel
theorem dX10_kindOf_24 : decode cX10_kindOf 24 = .ok (.iload_n 3, 1) := by decide +kernel
theorem dX10_kindOf_25 : decode cX10_kindOf 25 = .ok (.iload_n 2, 1) := by decide +kernel
theorem dX10_kindOf_26 : decode cX10_kindOf 26 = .ok (.isub, 1) := by decide +kernel
theorem dX10_kindOf_27 : decode cX10_kindOf 27 = .ok (.bipush 6, 2) := by decide +kernel
theorem dX10_kindOf_29 : decode cX10_kindOf 29 = .ok (.if_icmp .le 8, 3) := by decide +kernel
theorem dX10_kindOf_32 : decode cX10_kindOf 32 = .ok (.bipush 32, 2) := by decide +kernel
theorem dX10_kindOf_34 : decode cX10_kindOf 34 = .ok (.goto 10, 3) := by decide +kernel
theorem dX10_kindOf_37 : decode cX10_kindOf 37 = .ok (.aload_n 0, 1) := by decide +kernel
theorem dX10_kindOf_38 : decode cX10_kindOf 38 = .ok (.iload_n 1, 1) := by decide +kernel
theorem dX10_kindOf_39 : decode cX10_kindOf 39 = .ok (.iload_n 2, 1) := by decide +kernel
theorem dX10_kindOf_40 : decode cX10_kindOf 40 = .ok (.iload_n 3, 1) := by decide +kernel
theorem dX10_kindOf_41 : decode cX10_kindOf 41 = .ok (.invokevirtual 222, 3) := by decide +kernel
theorem dX10_kindOf_44 : decode cX10_kindOf 44 = .ok (.ireturn, 1) := by decide +kernel
theorem dX10_kindOf_45 : decode cX10_kindOf 45 = .ok (.iload 4, 2) := by decide +kernel
theorem dX10_kindOf_47 : decode cX10_kindOf 47 = .ok (.invokestatic 216, 3) := by decide +kernel
theorem dX10_kindOf_50 : decode cX10_kindOf 50 = .ok (.ifCond .eq 24, 3) := by decide +kernel
theorem dX10_kindOf_53 : decode cX10_kindOf 53 = .ok (.iload_n 3, 1) := by decide +kernel
theorem dX10_kindOf_54 : decode cX10_kindOf 54 = .ok (.iload_n 2, 1) := by decide +kernel
theorem dX10_kindOf_55 : decode cX10_kindOf 55 = .ok (.isub, 1) := by decide +kernel
theorem dX10_kindOf_56 : decode cX10_kindOf 56 = .ok (.bipush 10, 2) := by decide +kernel
theorem dX10_kindOf_58 : decode cX10_kindOf 58 = .ok (.if_icmp .le 8, 3) := by decide +kernel
theorem dX10_kindOf_61 : decode cX10_kindOf 61 = .ok (.bipush 32, 2) := by decide +kernel
theorem dX10_kindOf_63 : decode cX10_kindOf 63 = .ok (.goto 10, 3) := by decide +kernel
theorem dX10_kindOf_66 : decode cX10_kindOf 66 = .ok (.aload_n 0, 1) := by decide +kernel
theorem dX10_kindOf_67 : decode cX10_kindOf 67 = .ok (.iload_n 1, 1) := by decide +kernel
theorem dX10_kindOf_68 : decode cX10_kindOf 68 = .ok (.iload_n 2, 1) := by decide +kernel
theorem dX10_kindOf_69 : decode cX10_kindOf 69 = .ok (.iload_n 3, 1) := by decide +kernel
theorem dX10_kindOf_70 : decode cX10_kindOf 70 = .ok (.invokevirtual 225, 3) := by decide +kernel
theorem dX10_kindOf_73 : decode cX10_kindOf 73 = .ok (.ireturn, 1) := by decide +kernel
theorem dX10_kindOf_74 : decode cX10_kindOf 74 = .ok (.iload_n 3, 1) := by decide +kernel
theorem dX10_kindOf_75 : decode cX10_kindOf 75 = .ok (.iload_n 2, 1) := by decide +kernel
theorem dX10_kindOf_76 : decode cX10_kindOf 76 = .ok (.isub, 1) := by decide +kernel
theorem dX10_kindOf_77 : decode cX10_kindOf 77 = .ok (.iconst 2, 1) := by decide +kernel
theorem dX10_kindOf_78 : decode cX10_kindOf 78 = .ok (.if_icmp .ne 10, 3) := by decide +kernel
theorem dX10_kindOf_81 : decode cX10_kindOf 81 = .ok (.sipush 256, 3) := by decide +kernel
theorem dX10_kindOf_84 : decode cX10_kindOf 84 = .ok (.iload 4, 2) := by decide +kernel
theorem dX10_kindOf_86 : decode cX10_kindOf 86 = .ok (.iadd, 1) := by decide +kernel
theorem dX10_kindOf_87 : decode cX10_kindOf 87 = .ok (.ireturn, 1) := by decide +kernel
theorem dX10_kindOf_88 : decode cX10_kindOf 88 = .ok (.iload 4, 2) := by decide +kernel
theorem dX10_kindOf_90 : decode cX10_kindOf 90 = .ok (.bipush 40, 2) := by decide +kernel
theorem dX10_kindOf_92 : decode cX10_kindOf 92 = .ok (.if_icmp .eq 87, 3) := by decide +kernel
theorem dX10_kindOf_95 : decode cX10_kindOf 95 = .ok (.iload 4, 2) := by decide +kernel
theorem dX10_kindOf_97 : decode cX10_kindOf 97 = .ok (.bipush 41, 2) := by decide +kernel
theorem dX10_kindOf_99 : decode cX10_kindOf 99 = .ok (.if_icmp .eq 80, 3) := by decide +kernel
theorem dX10_kindOf_102 : decode cX10_kindOf 102 = .ok (.iload 4, 2) := by decide +kernel
theorem dX10_kindOf_104 : decode cX10_kindOf 104 = .ok (.bipush 91, 2) := by decide +kernel
theorem dX10_kindOf_106 : decode cX10_kindOf 106 = .ok (.if_icmp .eq 73, 3) := by decide +kernel
theorem dX10_kindOf_109 : decode cX10_kindOf 109 = .ok (.iload 4, 2) := by decide +kernel
theorem dX10_kindOf_111 : decode cX10_kindOf 111 = .ok (.bipush 93, 2) := by decide +kernel
theorem dX10_kindOf_113 : decode cX10_kindOf 113 = .ok (.if_icmp .eq 66, 3) := by decide +kernel
theorem dX10_kindOf_116 : decode cX10_kindOf 116 = .ok (.iload 4, 2) := by decide +kernel
theorem dX10_kindOf_118 : decode cX10_kindOf 118 = .ok (.bipush 59, 2) := by decide +kernel
theorem dX10_kindOf_120 : decode cX10_kindOf 120 = .ok (.if_icmp .eq 59, 3) := by decide +kernel
theorem dX10_kindOf_123 : decode cX10_kindOf 123 = .ok (.iload 4, 2) := by decide +kernel
theorem dX10_kindOf_125 : decode cX10_kindOf 125 = .ok (.bipush 44, 2) := by decide +kernel
theorem dX10_kindOf_127 : decode cX10_kindOf 127 = .ok (.if_icmp .eq 52, 3) := by decide +kernel
theorem dX10_kindOf_130 : decode cX10_kindOf 130 = .ok (.iload 4, 2) := by decide +kernel
theorem dX10_kindOf_132 : decode cX10_kindOf 132 = .ok (.bipush 43, 2) := by decide +kernel
theorem dX10_kindOf_134 : decode cX10_kindOf 134 = .ok (.if_icmp .eq 45, 3) := by decide +kernel
theorem dX10_kindOf_137 : decode cX10_kindOf 137 = .ok (.iload 4, 2) := by decide +kernel
theorem dX10_kindOf_139 : decode cX10_kindOf 139 = .ok (.bipush 45, 2) := by decide +kernel
theorem dX10_kindOf_141 : decode cX10_kindOf 141 = .ok (.if_icmp .eq 38, 3) := by decide +kernel
theorem dX10_kindOf_144 : decode cX10_kindOf 144 = .ok (.iload 4, 2) := by decide +kernel
theorem dX10_kindOf_146 : decode cX10_kindOf 146 = .ok (.bipush 42, 2) := by decide +kernel
theorem dX10_kindOf_148 : decode cX10_kindOf 148 = .ok (.if_icmp .eq 31, 3) := by decide +kernel
theorem dX10_kindOf_151 : decode cX10_kindOf 151 = .ok (.iload 4, 2) := by decide +kernel
theorem dX10_kindOf_153 : decode cX10_kindOf 153 = .ok (.bipush 47, 2) := by decide +kernel
theorem dX10_kindOf_155 : decode cX10_kindOf 155 = .ok (.if_icmp .eq 24, 3) := by decide +kernel
theorem dX10_kindOf_158 : decode cX10_kindOf 158 = .ok (.iload 4, 2) := by decide +kernel
theorem dX10_kindOf_160 : decode cX10_kindOf 160 = .ok (.bipush 60, 2) := by decide +kernel
theorem dX10_kindOf_162 : decode cX10_kindOf 162 = .ok (.if_icmp .eq 17, 3) := by decide +kernel
theorem dX10_kindOf_165 : decode cX10_kindOf 165 = .ok (.iload 4, 2) := by decide +kernel
theorem dX10_kindOf_167 : decode cX10_kindOf 167 = .ok (.bipush 62, 2) := by decide +kernel
theorem dX10_kindOf_169 : decode cX10_kindOf 169 = .ok (.if_icmp .eq 10, 3) := by decide +kernel
theorem dX10_kindOf_172 : decode cX10_kindOf 172 = .ok (.iload 4, 2) := by decide +kernel
theorem dX10_kindOf_174 : decode cX10_kindOf 174 = .ok (.bipush 61, 2) := by decide +kernel
theorem dX10_kindOf_176 : decode cX10_kindOf 176 = .ok (.if_icmp .ne 8, 3) := by decide +kernel
theorem dX10_kindOf_179 : decode cX10_kindOf 179 = .ok (.iload 4, 2) := by decide +kernel
theorem dX10_kindOf_181 : decode cX10_kindOf 181 = .ok (.goto 5, 3) := by decide +kernel
theorem dX10_kindOf_184 : decode cX10_kindOf 184 = .ok (.bipush 32, 2) := by decide +kernel
theorem dX10_kindOf_186 : decode cX10_kindOf 186 = .ok (.ireturn, 1) := by decide +kernel
theorem dX10_numberAt_0 : decode cX10_numberAt 0 = .ok (.iconst 0, 1) := by decide +kernel
theorem dX10_numberAt_1 : decode cX10_numberAt 1 = .ok (.istore 4, 2) := by decide +kernel
theorem dX10_numberAt_3 : decode cX10_numberAt 3 = .ok (.iload_n 2, 1) := by decide +kernel
theorem dX10_numberAt_4 : decode cX10_numberAt 4 = .ok (.istore 5, 2) := by decide +kernel
theorem dX10_numberAt_6 : decode cX10_numberAt 6 = .ok (.iload 5, 2) := by decide +kernel
theorem dX10_numberAt_8 : decode cX10_numberAt 8 = .ok (.iload_n 3, 1) := by decide +kernel
theorem dX10_numberAt_9 : decode cX10_numberAt 9 = .ok (.if_icmp .ge 27, 3) := by decide +kernel
theorem dX10_numberAt_12 : decode cX10_numberAt 12 = .ok (.bipush 10, 2) := by decide +kernel
theorem dX10_numberAt_14 : decode cX10_numberAt 14 = .ok (.iload 4, 2) := by decide +kernel
theorem dX10_numberAt_16 : decode cX10_numberAt 16 = .ok (.imul, 1) := by decide +kernel
theorem dX10_numberAt_17 : decode cX10_numberAt 17 = .ok (.aload_n 0, 1) := by decide +kernel
theorem dX10_numberAt_18 : decode cX10_numberAt 18 = .ok (.getfield 9, 3) := by decide +kernel
theorem dX10_numberAt_21 : decode cX10_numberAt 21 = .ok (.iload 5, 2) := by decide +kernel
theorem dX10_numberAt_23 : decode cX10_numberAt 23 = .ok (.iaload, 1) := by decide +kernel
theorem dX10_numberAt_24 : decode cX10_numberAt 24 = .ok (.iadd, 1) := by decide +kernel
theorem dX10_numberAt_25 : decode cX10_numberAt 25 = .ok (.bipush 48, 2) := by decide +kernel
theorem dX10_numberAt_27 : decode cX10_numberAt 27 = .ok (.isub, 1) := by decide +kernel
theorem dX10_numberAt_28 : decode cX10_numberAt 28 = .ok (.istore 4, 2) := by decide +kernel
theorem dX10_numberAt_30 : decode cX10_numberAt 30 = .ok (.iinc 5 1, 3) := by decide +kernel
theorem dX10_numberAt_33 : decode cX10_numberAt 33 = .ok (.goto (-27), 3) := by decide +kernel
theorem dX10_numberAt_36 : decode cX10_numberAt 36 = .ok (.aload_n 0, 1) := by decide +kernel
theorem dX10_numberAt_37 : decode cX10_numberAt 37 = .ok (.getfield 33, 3) := by decide +kernel
theorem dX10_numberAt_40 : decode cX10_numberAt 40 = .ok (.iload_n 1, 1) := by decide +kernel
theorem dX10_numberAt_41 : decode cX10_numberAt 41 = .ok (.iload 4, 2) := by decide +kernel
theorem dX10_numberAt_43 : decode cX10_numberAt 43 = .ok (.i2l, 1) := by decide +kernel
theorem dX10_numberAt_44 : decode cX10_numberAt 44 = .ok (.lastore, 1) := by decide +kernel
theorem dX10_numberAt_45 : decode cX10_numberAt 45 = .ok (.bipush 31, 2) := by decide +kernel
theorem dX10_numberAt_47 : decode cX10_numberAt 47 = .ok (.ireturn, 1) := by decide +kernel
theorem dX10_letter_0 : decode cX10_letter 0 = .ok (.iload_n 0, 1) := by decide +kernel
theorem dX10_letter_1 : decode cX10_letter 1 = .ok (.invokestatic 216, 3) := by decide +kernel
theorem dX10_letter_4 : decode cX10_letter 4 = .ok (.ifCond .eq 12, 3) := by decide +kernel
theorem dX10_letter_7 : decode cX10_letter 7 = .ok (.iload_n 0, 1) := by decide +kernel
theorem dX10_letter_8 : decode cX10_letter 8 = .ok (.bipush 97, 2) := by decide +kernel
theorem dX10_letter_10 : decode cX10_letter 10 = .ok (.isub, 1) := by decide +kernel
theorem dX10_letter_11 : decode cX10_letter 11 = .ok (.iconst 1, 1) := by decide +kernel
theorem dX10_letter_12 : decode cX10_letter 12 = .ok (.iadd, 1) := by decide +kernel
theorem dX10_letter_13 : decode cX10_letter 13 = .ok (.goto 10, 3) := by decide +kernel
theorem dX10_letter_16 : decode cX10_letter 16 = .ok (.iload_n 0, 1) := by decide +kernel
theorem dX10_letter_17 : decode cX10_letter 17 = .ok (.bipush 48, 2) := by decide +kernel
theorem dX10_letter_19 : decode cX10_letter 19 = .ok (.isub, 1) := by decide +kernel
theorem dX10_letter_20 : decode cX10_letter 20 = .ok (.bipush 27, 2) := by decide +kernel
theorem dX10_letter_22 : decode cX10_letter 22 = .ok (.iadd, 1) := by decide +kernel
theorem dX10_letter_23 : decode cX10_letter 23 = .ok (.ireturn, 1) := by decide +kernel
theorem dX10_nameOf_0 : decode cX10_nameOf 0 = .ok (.lconst 0, 1) := by decide +kernel
theorem dX10_nameOf_1 : decode cX10_nameOf 1 = .ok (.lstore_n 1, 1) := by decide +kernel
theorem dX10_nameOf_2 : decode cX10_nameOf 2 = .ok (.iconst 0, 1) := by decide +kernel
theorem dX10_nameOf_3 : decode cX10_nameOf 3 = .ok (.istore_n 3, 1) := by decide +kernel
theorem dX10_nameOf_4 : decode cX10_nameOf 4 = .ok (.iload_n 3, 1) := by decide +kernel
theorem dX10_nameOf_5 : decode cX10_nameOf 5 = .ok (.aload_n 0, 1) := by decide +kernel
theorem dX10_nameOf_6 : decode cX10_nameOf 6 = .ok (.invokevirtual 228, 3) := by decide +kernel
theorem dX10_nameOf_9 : decode cX10_nameOf 9 = .ok (.if_icmp .ge 25, 3) := by decide +kernel
theorem dX10_nameOf_12 : decode cX10_nameOf 12 = .ok (.ldc2_w 233, 3) := by decide +kernel
theorem dX10_nameOf_15 : decode cX10_nameOf 15 = .ok (.lload_n 1, 1) := by decide +kernel
theorem dX10_nameOf_16 : decode cX10_nameOf 16 = .ok (.lmul, 1) := by decide +kernel
theorem dX10_nameOf_17 : decode cX10_nameOf 17 = .ok (.aload_n 0, 1) := by decide +kernel
theorem dX10_nameOf_18 : decode cX10_nameOf 18 = .ok (.iload_n 3, 1) := by decide +kernel
theorem dX10_nameOf_19 : decode cX10_nameOf 19 = .ok (.invokevirtual 235, 3) := by decide +kernel
theorem dX10_nameOf_22 : decode cX10_nameOf 22 = .ok (.invokestatic 239, 3) := by decide +kernel
theorem dX10_nameOf_25 : decode cX10_nameOf 25 = .ok (.i2l, 1) := by decide +kernel
theorem dX10_nameOf_26 : decode cX10_nameOf 26 = .ok (.ladd, 1) := by decide +kernel
theorem dX10_nameOf_27 : decode cX10_nameOf 27 = .ok (.lstore_n 1, 1) := by decide +kernel
theorem dX10_nameOf_28 : decode cX10_nameOf 28 = .ok (.iinc 3 1, 3) := by decide +kernel
theorem dX10_nameOf_31 : decode cX10_nameOf 31 = .ok (.goto (-27), 3) := by decide +kernel
theorem dX10_nameOf_34 : decode cX10_nameOf 34 = .ok (.lload_n 1, 1) := by decide +kernel
theorem dX10_nameOf_35 : decode cX10_nameOf 35 = .ok (.lreturn, 1) := by decide +kernel
theorem dX10_wordAt_0 : decode cX10_wordAt 0 = .ok (.lconst 0, 1) := by decide +kernel
theorem dX10_wordAt_1 : decode cX10_wordAt 1 = .ok (.lstore 4, 2) := by decide +kernel
theorem dX10_wordAt_3 : decode cX10_wordAt 3 = .ok (.iload_n 2, 1) := by decide +kernel
theorem dX10_wordAt_4 : decode cX10_wordAt 4 = .ok (.istore 6, 2) := by decide +kernel
theorem dX10_wordAt_6 : decode cX10_wordAt 6 = .ok (.iload 6, 2) := by decide +kernel
theorem dX10_wordAt_8 : decode cX10_wordAt 8 = .ok (.iload_n 3, 1) := by decide +kernel
theorem dX10_wordAt_9 : decode cX10_wordAt 9 = .ok (.if_icmp .ge 29, 3) := by decide +kernel
theorem dX10_wordAt_12 : decode cX10_wordAt 12 = .ok (.ldc2_w 233, 3) := by decide +kernel
theorem dX10_wordAt_15 : decode cX10_wordAt 15 = .ok (.lload 4, 2) := by decide +kernel
theorem dX10_wordAt_17 : decode cX10_wordAt 17 = .ok (.lmul, 1) := by decide +kernel
theorem dX10_wordAt_18 : decode cX10_wordAt 18 = .ok (.aload_n 0, 1) := by decide +kernel
theorem dX10_wordAt_19 : decode cX10_wordAt 19 = .ok (.getfield 9, 3) := by decide +kernel
theorem dX10_wordAt_22 : decode cX10_wordAt 22 = .ok (.iload 6, 2) := by decide +kernel
theorem dX10_wordAt_24 : decode cX10_wordAt 24 = .ok (.iaload, 1) := by decide +kernel
theorem dX10_wordAt_25 : decode cX10_wordAt 25 = .ok (.invokestatic 239, 3) := by decide +kernel
theorem dX10_wordAt_28 : decode cX10_wordAt 28 = .ok (.i2l, 1) := by decide +kernel
theorem dX10_wordAt_29 : decode cX10_wordAt 29 = .ok (.ladd, 1) := by decide +kernel
theorem dX10_wordAt_30 : decode cX10_wordAt 30 = .ok (.lstore 4, 2) := by decide +kernel
theorem dX10_wordAt_32 : decode cX10_wordAt 32 = .ok (.iinc 6 1, 3) := by decide +kernel
theorem dX10_wordAt_35 : decode cX10_wordAt 35 = .ok (.goto (-29), 3) := by decide +kernel
theorem dX10_wordAt_38 : decode cX10_wordAt 38 = .ok (.aload_n 0, 1) := by decide +kernel
theorem dX10_wordAt_39 : decode cX10_wordAt 39 = .ok (.getfield 33, 3) := by decide +kernel
theorem dX10_wordAt_42 : decode cX10_wordAt 42 = .ok (.iload_n 1, 1) := by decide +kernel
theorem dX10_wordAt_43 : decode cX10_wordAt 43 = .ok (.lload 4, 2) := by decide +kernel
theorem dX10_wordAt_45 : decode cX10_wordAt 45 = .ok (.lastore, 1) := by decide +kernel
theorem dX10_wordAt_46 : decode cX10_wordAt 46 = .ok (.iconst 0, 1) := by decide +kernel
theorem dX10_wordAt_47 : decode cX10_wordAt 47 = .ok (.istore 6, 2) := by decide +kernel
theorem dX10_wordAt_49 : decode cX10_wordAt 49 = .ok (.iload 6, 2) := by decide +kernel
theorem dX10_wordAt_51 : decode cX10_wordAt 51 = .ok (.getstatic 242, 3) := by decide +kernel
theorem dX10_wordAt_54 : decode cX10_wordAt 54 = .ok (.arraylength, 1) := by decide +kernel
theorem dX10_wordAt_55 : decode cX10_wordAt 55 = .ok (.if_icmp .ge 27, 3) := by decide +kernel
theorem dX10_wordAt_58 : decode cX10_wordAt 58 = .ok (.getstatic 242, 3) := by decide +kernel
theorem dX10_wordAt_61 : decode cX10_wordAt 61 = .ok (.iload 6, 2) := by decide +kernel
theorem dX10_wordAt_63 : decode cX10_wordAt 63 = .ok (.aaload, 1) := by decide +kernel
theorem dX10_wordAt_64 : decode cX10_wordAt 64 = .ok (.invokestatic 246, 3) := by decide +kernel
theorem dX10_wordAt_67 : decode cX10_wordAt 67 = .ok (.lload 4, 2) := by decide +kernel
theorem dX10_wordAt_69 : decode cX10_wordAt 69 = .ok (.lcmp, 1) := by decide +kernel
theorem dX10_wordAt_70 : decode cX10_wordAt 70 = .ok (.ifCond .ne 6, 3) := by decide +kernel
theorem dX10_wordAt_73 : decode cX10_wordAt 73 = .ok (.iload 6, 2) := by decide +kernel
theorem dX10_wordAt_75 : decode cX10_wordAt 75 = .ok (.ireturn, 1) := by decide +kernel
theorem dX10_wordAt_76 : decode cX10_wordAt 76 = .ok (.iinc 6 1, 3) := by decide +kernel
theorem dX10_wordAt_79 : decode cX10_wordAt 79 = .ok (.goto (-30), 3) := by decide +kernel
theorem dX10_wordAt_82 : decode cX10_wordAt 82 = .ok (.bipush 30, 2) := by decide +kernel
theorem dX10_wordAt_84 : decode cX10_wordAt 84 = .ok (.ireturn, 1) := by decide +kernel
theorem dX10_cutIntoTokens_0 : decode cX10_cutIntoTokens 0 = .ok (.iconst 0, 1) := by decide +kernel
theorem dX10_cutIntoTokens_1 : decode cX10_cutIntoTokens 1 = .ok (.istore_n 1, 1) := by decide +kernel
theorem dX10_cutIntoTokens_2 : decode cX10_cutIntoTokens 2 = .ok (.iconst 0, 1) := by decide +kernel
theorem dX10_cutIntoTokens_3 : decode cX10_cutIntoTokens 3 = .ok (.istore_n 2, 1) := by decide +kernel
theorem dX10_cutIntoTokens_4 : decode cX10_cutIntoTokens 4 = .ok (.iload_n 2, 1) := by decide +kernel
theorem dX10_cutIntoTokens_5 : decode cX10_cutIntoTokens 5 = .ok (.sipush 400, 3) := by decide +kernel
theorem dX10_cutIntoTokens_8 : decode cX10_cutIntoTokens 8 = .ok (.if_icmp .gt 119, 3) := by decide +kernel
theorem dX10_cutIntoTokens_11 : decode cX10_cutIntoTokens 11 = .ok (.aload_n 0, 1) := by decide +kernel
theorem dX10_cutIntoTokens_12 : decode cX10_cutIntoTokens 12 = .ok (.iload_n 1, 1) := by decide +kernel
theorem dX10_cutIntoTokens_13 : decode cX10_cutIntoTokens 13 = .ok (.invokevirtual 213, 3) := by decide +kernel
theorem dX10_cutIntoTokens_16 : decode cX10_cutIntoTokens 16 = .ok (.bipush 32, 2) := by decide +kernel
theorem dX10_cutIntoTokens_18 : decode cX10_cutIntoTokens 18 = .ok (.if_icmp .eq 13, 3) := by decide +kernel
theorem dX10_cutIntoTokens_21 : decode cX10_cutIntoTokens 21 = .ok (.aload_n 0, 1) := by decide +kernel
theorem dX10_cutIntoTokens_22 : decode cX10_cutIntoTokens 22 = .ok (.iload_n 1, 1) := by decide +kernel
theorem dX10_cutIntoTokens_23 : decode cX10_cutIntoTokens 23 = .ok (.invokevirtual 213, 3) := by decide +kernel
theorem dX10_cutIntoTokens_26 : decode cX10_cutIntoTokens 26 = .ok (.bipush 10, 2) := by decide +kernel
theorem dX10_cutIntoTokens_28 : decode cX10_cutIntoTokens 28 = .ok (.if_icmp .ne 9, 3) := by decide +kernel
theorem dX10_cutIntoTokens_31 : decode cX10_cutIntoTokens 31 = .ok (.iinc 1 1, 3) := by decide +kernel
theorem dX10_cutIntoTokens_34 : decode cX10_cutIntoTokens 34 = .ok (.goto (-23), 3) := by decide +kernel
theorem dX10_cutIntoTokens_37 : decode cX10_cutIntoTokens 37 = .ok (.aload_n 0, 1) := by decide +kernel
theorem dX10_cutIntoTokens_38 : decode cX10_cutIntoTokens 38 = .ok (.iload_n 1, 1) := by decide +kernel
theorem dX10_cutIntoTokens_39 : decode cX10_cutIntoTokens 39 = .ok (.invokevirtual 250, 3) := by decide +kernel
theorem dX10_cutIntoTokens_42 : decode cX10_cutIntoTokens 42 = .ok (.istore_n 3, 1) := by decide +kernel
theorem dX10_cutIntoTokens_43 : decode cX10_cutIntoTokens 43 = .ok (.aload_n 0, 1) := by decide +kernel
theorem dX10_cutIntoTokens_44 : decode cX10_cutIntoTokens 44 = .ok (.getfield 27, 3) := by decide +kernel
theorem dX10_cutIntoTokens_47 : decode cX10_cutIntoTokens 47 = .ok (.iload_n 2, 1) := by decide +kernel
theorem dX10_cutIntoTokens_48 : decode cX10_cutIntoTokens 48 = .ok (.iload_n 1, 1) := by decide +kernel
theorem dX10_cutIntoTokens_49 : decode cX10_cutIntoTokens 49 = .ok (.iastore, 1) := by decide +kernel
theorem dX10_cutIntoTokens_50 : decode cX10_cutIntoTokens 50 = .ok (.aload_n 0, 1) := by decide +kernel
theorem dX10_cutIntoTokens_51 : decode cX10_cutIntoTokens 51 = .ok (.getfield 30, 3) := by decide +kernel
theorem dX10_cutIntoTokens_54 : decode cX10_cutIntoTokens 54 = .ok (.iload_n 2, 1) := by decide +kernel
theorem dX10_cutIntoTokens_55 : decode cX10_cutIntoTokens 55 = .ok (.iconst 0, 1) := by decide +kernel
theorem dX10_cutIntoTokens_56 : decode cX10_cutIntoTokens 56 = .ok (.iastore, 1) := by decide +kernel
theorem dX10_cutIntoTokens_57 : decode cX10_cutIntoTokens 57 = .ok (.aload_n 0, 1) := by decide +kernel
theorem dX10_cutIntoTokens_58 : decode cX10_cutIntoTokens 58 = .ok (.getfield 24, 3) := by decide +kernel
theorem dX10_cutIntoTokens_61 : decode cX10_cutIntoTokens 61 = .ok (.iload_n 2, 1) := by decide +kernel
theorem dX10_cutIntoTokens_62 : decode cX10_cutIntoTokens 62 = .ok (.aload_n 0, 1) := by decide +kernel
theorem dX10_cutIntoTokens_63 : decode cX10_cutIntoTokens 63 = .ok (.iload_n 2, 1) := by decide +kernel
theorem dX10_cutIntoTokens_64 : decode cX10_cutIntoTokens 64 = .ok (.iload_n 1, 1) := by decide +kernel
theorem dX10_cutIntoTokens_65 : decode cX10_cutIntoTokens 65 = .ok (.iload_n 3, 1) := by decide +kernel
theorem dX10_cutIntoTokens_66 : decode cX10_cutIntoTokens 66 = .ok (.invokevirtual 253, 3) := by decide +kernel
theorem dX10_cutIntoTokens_69 : decode cX10_cutIntoTokens 69 = .ok (.iastore, 1) := by decide +kernel
theorem dX10_cutIntoTokens_70 : decode cX10_cutIntoTokens 70 = .ok (.iload_n 2, 1) := by decide +kernel
theorem dX10_cutIntoTokens_71 : decode cX10_cutIntoTokens 71 = .ok (.sipush 400, 3) := by decide +kernel
theorem dX10_cutIntoTokens_74 : decode cX10_cutIntoTokens 74 = .ok (.if_icmp .ne 22, 3) := by decide +kernel
theorem dX10_cutIntoTokens_77 : decode cX10_cutIntoTokens 77 = .ok (.aload_n 0, 1) := by decide +kernel
theorem dX10_cutIntoTokens_78 : decode cX10_cutIntoTokens 78 = .ok (.getfield 24, 3) := by decide +kernel
theorem dX10_cutIntoTokens_81 : decode cX10_cutIntoTokens 81 = .ok (.iload_n 2, 1) := by decide +kernel
theorem dX10_cutIntoTokens_82 : decode cX10_cutIntoTokens 82 = .ok (.iaload, 1) := by decide +kernel
theorem dX10_cutIntoTokens_83 : decode cX10_cutIntoTokens 83 = .ok (.bipush 33, 2) := by decide +kernel
theorem dX10_cutIntoTokens_85 : decode cX10_cutIntoTokens 85 = .ok (.if_icmp .eq 11, 3) := by decide +kernel
theorem dX10_cutIntoTokens_88 : decode cX10_cutIntoTokens 88 = .ok (.aload_n 0, 1) := by decide +kernel
theorem dX10_cutIntoTokens_89 : decode cX10_cutIntoTokens 89 = .ok (.getfield 24, 3) := by decide +kernel
theorem dX10_cutIntoTokens_92 : decode cX10_cutIntoTokens 92 = .ok (.iload_n 2, 1) := by decide +kernel
theorem dX10_cutIntoTokens_93 : decode cX10_cutIntoTokens 93 = .ok (.bipush 32, 2) := by decide +kernel
theorem dX10_cutIntoTokens_95 : decode cX10_cutIntoTokens 95 = .ok (.iastore, 1) := by decide +kernel
theorem dX10_cutIntoTokens_96 : decode cX10_cutIntoTokens 96 = .ok (.aload_n 0, 1) := by decide +kernel
theorem dX10_cutIntoTokens_97 : decode cX10_cutIntoTokens 97 = .ok (.getfield 24, 3) := by decide +kernel
theorem dX10_cutIntoTokens_100 : decode cX10_cutIntoTokens 100 = .ok (.iload_n 2, 1) := by decide +kernel
theorem dX10_cutIntoTokens_101 : decode cX10_cutIntoTokens 101 = .ok (.iaload, 1) := by decide +kernel
theorem dX10_cutIntoTokens_102 : decode cX10_cutIntoTokens 102 = .ok (.bipush 32, 2) := by decide +kernel
theorem dX10_cutIntoTokens_104 : decode cX10_cutIntoTokens 104 = .ok (.if_icmp .eq 14, 3) := by decide +kernel
theorem dX10_cutIntoTokens_107 : decode cX10_cutIntoTokens 107 = .ok (.aload_n 0, 1) := by decide +kernel
theorem dX10_cutIntoTokens_108 : decode cX10_cutIntoTokens 108 = .ok (.getfield 24, 3) := by decide +kernel
theorem dX10_cutIntoTokens_111 : decode cX10_cutIntoTokens 111 = .ok (.iload_n 2, 1) := by decide +kernel
theorem dX10_cutIntoTokens_112 : decode cX10_cutIntoTokens 112 = .ok (.iaload, 1) := by decide +kernel
theorem dX10_cutIntoTokens_113 : decode cX10_cutIntoTokens 113 = .ok (.bipush 33, 2) := by decide +kernel
theorem dX10_cutIntoTokens_115 : decode cX10_cutIntoTokens 115 = .ok (.if_icmp .ne 4, 3) := by decide +kernel
theorem dX10_cutIntoTokens_118 : decode cX10_cutIntoTokens 118 = .ok (.return_, 1) := by decide +kernel
theorem dX10_cutIntoTokens_119 : decode cX10_cutIntoTokens 119 = .ok (.iload_n 3, 1) := by decide +kernel
theorem dX10_cutIntoTokens_120 : decode cX10_cutIntoTokens 120 = .ok (.istore_n 1, 1) := by decide +kernel
theorem dX10_cutIntoTokens_121 : decode cX10_cutIntoTokens 121 = .ok (.iinc 2 1, 3) := by decide +kernel
theorem dX10_cutIntoTokens_124 : decode cX10_cutIntoTokens 124 = .ok (.goto (-120), 3) := by decide +kernel
theorem dX10_cutIntoTokens_127 : decode cX10_cutIntoTokens 127 = .ok (.return_, 1) := by decide +kernel
theorem dX10_eat_0 : decode cX10_eat 0 = .ok (.aload_n 0, 1) := by decide +kernel
theorem dX10_eat_1 : decode cX10_eat 1 = .ok (.getfield 24, 3) := by decide +kernel
theorem dX10_eat_4 : decode cX10_eat 4 = .ok (.aload_n 0, 1) := by decide +kernel
theorem dX10_eat_5 : decode cX10_eat 5 = .ok (.getfield 256, 3) := by decide +kernel
theorem dX10_eat_8 : decode cX10_eat 8 = .ok (.iaload, 1) := by decide +kernel
theorem dX10_eat_9 : decode cX10_eat 9 = .ok (.iload_n 1, 1) := by decide +kernel
theorem dX10_eat_10 : decode cX10_eat 10 = .ok (.if_icmp .eq 5, 3) := by decide +kernel
theorem dX10_eat_13 : decode cX10_eat 13 = .ok (.iconst 0, 1) := by decide +kernel
theorem dX10_eat_14 : decode cX10_eat 14 = .ok (.ireturn, 1) := by decide +kernel
theorem dX10_eat_15 : decode cX10_eat 15 = .ok (.aload_n 0, 1) := by decide +kernel
theorem dX10_eat_16 : decode cX10_eat 16 = .ok (.dup, 1) := by decide +kernel
theorem dX10_eat_17 : decode cX10_eat 17 = .ok (.getfield 256, 3) := by decide +kernel
theorem dX10_eat_20 : decode cX10_eat 20 = .ok (.iconst 1, 1) := by decide +kernel
theorem dX10_eat_21 : decode cX10_eat 21 = .ok (.iadd, 1) := by decide +kernel
theorem dX10_eat_22 : decode cX10_eat 22 = .ok (.putfield 256, 3) := by decide +kernel
theorem dX10_eat_25 : decode cX10_eat 25 = .ok (.iconst 1, 1) := by decide +kernel
theorem dX10_eat_26 : decode cX10_eat 26 = .ok (.ireturn, 1) := by decide +kernel
theorem dX10_eatAs_0 : decode cX10_eatAs 0 = .ok (.aload_n 0, 1) := by decide +kernel
theorem dX10_eatAs_1 : decode cX10_eatAs 1 = .ok (.getfield 30, 3) := by decide +kernel
theorem dX10_eatAs_4 : decode cX10_eatAs 4 = .ok (.aload_n 0, 1) := by decide +kernel
theorem dX10_eatAs_5 : decode cX10_eatAs 5 = .ok (.getfield 256, 3) := by decide +kernel
theorem dX10_eatAs_8 : decode cX10_eatAs 8 = .ok (.iload_n 2, 1) := by decide +kernel
theorem dX10_eatAs_9 : decode cX10_eatAs 9 = .ok (.iastore, 1) := by decide +kernel
theorem dX10_eatAs_10 : decode cX10_eatAs 10 = .ok (.aload_n 0, 1) := by decide +kernel
theorem dX10_eatAs_11 : decode cX10_eatAs 11 = .ok (.iload_n 1, 1) := by decide +kernel
theorem dX10_eatAs_12 : decode cX10_eatAs 12 = .ok (.invokevirtual 259, 3) := by decide +kernel
theorem dX10_eatAs_15 : decode cX10_eatAs 15 = .ok (.ireturn, 1) := by decide +kernel
theorem dX10_deeper_0 : decode cX10_deeper 0 = .ok (.aload_n 0, 1) := by decide +kernel
theorem dX10_deeper_1 : decode cX10_deeper 1 = .ok (.getfield 262, 3) := by decide +kernel
theorem dX10_deeper_4 : decode cX10_deeper 4 = .ok (.bipush 8, 2) := by decide +kernel
theorem dX10_deeper_6 : decode cX10_deeper 6 = .ok (.if_icmp .eq 11, 3) := by decide +kernel
theorem dX10_deeper_9 : decode cX10_deeper 9 = .ok (.aload_n 0, 1) := by decide +kernel
theorem dX10_deeper_10 : decode cX10_deeper 10 = .ok (.iload_n 1, 1) := by decide +kernel
theorem dX10_deeper_11 : decode cX10_deeper 11 = .ok (.invokevirtual 259, 3) := by decide +kernel
theorem dX10_deeper_14 : decode cX10_deeper 14 = .ok (.ifCond .ne 5, 3) := by decide +kernel
theorem dX10_deeper_17 : decode cX10_deeper 17 = .ok (.iconst 0, 1) := by decide +kernel
theorem dX10_deeper_18 : decode cX10_deeper 18 = .ok (.ireturn, 1) := by decide +kernel
theorem dX10_deeper_19 : decode cX10_deeper 19 = .ok (.aload_n 0, 1) := by decide +kernel
theorem dX10_deeper_20 : decode cX10_deeper 20 = .ok (.dup, 1) := by decide +kernel
theorem dX10_deeper_21 : decode cX10_deeper 21 = .ok (.getfield 262, 3) := by decide +kernel
theorem dX10_deeper_24 : decode cX10_deeper 24 = .ok (.iconst 1, 1) := by decide +kernel
theorem dX10_deeper_25 : decode cX10_deeper 25 = .ok (.iadd, 1) := by decide +kernel
theorem dX10_deeper_26 : decode cX10_deeper 26 = .ok (.putfield 262, 3) := by decide +kernel
theorem dX10_deeper_29 : decode cX10_deeper 29 = .ok (.iconst 1, 1) := by decide +kernel
theorem dX10_deeper_30 : decode cX10_deeper 30 = .ok (.ireturn, 1) := by decide +kernel
theorem dX10_closes_0 : decode cX10_closes 0 = .ok (.aload_n 0, 1) := by decide +kernel
theorem dX10_closes_1 : decode cX10_closes 1 = .ok (.iload_n 1, 1) := by decide +kernel
theorem dX10_closes_2 : decode cX10_closes 2 = .ok (.invokevirtual 259, 3) := by decide +kernel
theorem dX10_closes_5 : decode cX10_closes 5 = .ok (.ifCond .ne 5, 3) := by decide +kernel
theorem dX10_closes_8 : decode cX10_closes 8 = .ok (.iconst 0, 1) := by decide +kernel
theorem dX10_closes_9 : decode cX10_closes 9 = .ok (.ireturn, 1) := by decide +kernel
theorem dX10_closes_10 : decode cX10_closes 10 = .ok (.aload_n 0, 1) := by decide +kernel
theorem dX10_closes_11 : decode cX10_closes 11 = .ok (.dup, 1) := by decide +kernel
theorem dX10_closes_12 : decode cX10_closes 12 = .ok (.getfield 262, 3) := by decide +kernel
theorem dX10_closes_15 : decode cX10_closes 15 = .ok (.iconst 1, 1) := by decide +kernel
theorem dX10_closes_16 : decode cX10_closes 16 = .ok (.isub, 1) := by decide +kernel
theorem dX10_closes_17 : decode cX10_closes 17 = .ok (.putfield 262, 3) := by decide +kernel
theorem dX10_closes_20 : decode cX10_closes 20 = .ok (.iconst 1, 1) := by decide +kernel
theorem dX10_closes_21 : decode cX10_closes 21 = .ok (.ireturn, 1) := by decide +kernel
theorem dX10_put_0 : decode cX10_put 0 = .ok (.aload_n 1, 1) := by decide +kernel
theorem dX10_put_1 : decode cX10_put 1 = .ok (.getfield 188, 3) := by decide +kernel
theorem dX10_put_4 : decode cX10_put 4 = .ok (.aload_n 1, 1) := by decide +kernel
theorem dX10_put_5 : decode cX10_put 5 = .ok (.getfield 265, 3) := by decide +kernel
theorem dX10_put_8 : decode cX10_put 8 = .ok (.iload_n 2, 1) := by decide +kernel
theorem dX10_put_9 : decode cX10_put 9 = .ok (.iastore, 1) := by decide +kernel
theorem dX10_put_10 : decode cX10_put 10 = .ok (.aload_n 1, 1) := by decide +kernel
theorem dX10_put_11 : decode cX10_put 11 = .ok (.getfield 194, 3) := by decide +kernel
theorem dX10_put_14 : decode cX10_put 14 = .ok (.aload_n 1, 1) := by decide +kernel
theorem dX10_put_15 : decode cX10_put 15 = .ok (.getfield 265, 3) := by decide +kernel
theorem dX10_put_18 : decode cX10_put 18 = .ok (.iload_n 3, 1) := by decide +kernel
theorem dX10_put_19 : decode cX10_put 19 = .ok (.iastore, 1) := by decide +kernel
theorem dX10_put_20 : decode cX10_put 20 = .ok (.aload_n 1, 1) := by decide +kernel
theorem dX10_put_21 : decode cX10_put 21 = .ok (.dup, 1) := by decide +kernel
theorem dX10_put_22 : decode cX10_put 22 = .ok (.getfield 265, 3) := by decide +kernel
theorem dX10_put_25 : decode cX10_put 25 = .ok (.iconst 1, 1) := by decide +kernel
theorem dX10_put_26 : decode cX10_put 26 = .ok (.iadd, 1) := by decide +kernel
theorem dX10_put_27 : decode cX10_put 27 = .ok (.putfield 265, 3) := by decide +kernel
theorem dX10_put_30 : decode cX10_put 30 = .ok (.return_, 1) := by decide +kernel
theorem dX10_isAbout_0 : decode cX10_isAbout 0 = .ok (.aload_n 0, 1) := by decide +kernel
theorem dX10_isAbout_1 : decode cX10_isAbout 1 = .ok (.dup, 1) := by decide +kernel
theorem dX10_isAbout_2 : decode cX10_isAbout 2 = .ok (.getfield 256, 3) := by decide +kernel
theorem dX10_isAbout_5 : decode cX10_isAbout 5 = .ok (.iconst 1, 1) := by decide +kernel
theorem dX10_isAbout_6 : decode cX10_isAbout 6 = .ok (.iadd, 1) := by decide +kernel
theorem dX10_isAbout_7 : decode cX10_isAbout 7 = .ok (.putfield 256, 3) := by decide +kernel
theorem dX10_isAbout_10 : decode cX10_isAbout 10 = .ok (.iload_n 2, 1) := by decide +kernel
theorem dX10_isAbout_11 : decode cX10_isAbout 11 = .ok (.bipush 22, 2) := by decide +kernel
theorem dX10_isAbout_13 : decode cX10_isAbout 13 = .ok (.if_icmp .eq 14, 3) := by decide +kernel
theorem dX10_isAbout_16 : decode cX10_isAbout 16 = .ok (.aload_n 0, 1) := by decide +kernel
theorem dX10_isAbout_17 : decode cX10_isAbout 17 = .ok (.bipush 10, 2) := by decide +kernel
theorem dX10_isAbout_19 : decode cX10_isAbout 19 = .ok (.invokevirtual 259, 3) := by decide +kernel
theorem dX10_isAbout_22 : decode cX10_isAbout 22 = .ok (.ifCond .ne 5, 3) := by decide +kernel
theorem dX10_isAbout_25 : decode cX10_isAbout 25 = .ok (.iconst 0, 1) := by decide +kernel
theorem dX10_isAbout_26 : decode cX10_isAbout 26 = .ok (.ireturn, 1) := by decide +kernel
theorem dX10_isAbout_27 : decode cX10_isAbout 27 = .ok (.aload_n 0, 1) := by decide +kernel
theorem dX10_isAbout_28 : decode cX10_isAbout 28 = .ok (.aload_n 1, 1) := by decide +kernel
theorem dX10_isAbout_29 : decode cX10_isAbout 29 = .ok (.iload_n 2, 1) := by decide +kernel
theorem dX10_isAbout_30 : decode cX10_isAbout 30 = .ok (.aload_n 0, 1) := by decide +kernel
theorem dX10_isAbout_31 : decode cX10_isAbout 31 = .ok (.getfield 256, 3) := by decide +kernel
theorem dX10_isAbout_34 : decode cX10_isAbout 34 = .ok (.invokevirtual 268, 3) := by decide +kernel
theorem dX10_isAbout_37 : decode cX10_isAbout 37 = .ok (.aload_n 0, 1) := by decide +kernel
theorem dX10_isAbout_38 : decode cX10_isAbout 38 = .ok (.bipush 30, 2) := by decide +kernel
theorem dX10_isAbout_40 : decode cX10_isAbout 40 = .ok (.bipush 12, 2) := by decide +kernel
theorem dX10_isAbout_42 : decode cX10_isAbout 42 = .ok (.invokevirtual 272, 3) := by decide +kernel
theorem dX10_isAbout_45 : decode cX10_isAbout 45 = .ok (.ireturn, 1) := by decide +kernel
theorem dX10_isOfOne_0 : decode cX10_isOfOne 0 = .ok (.aload_n 0, 1) := by decide +kernel
theorem dX10_isOfOne_1 : decode cX10_isOfOne 1 = .ok (.dup, 1) := by decide +kernel
theorem dX10_isOfOne_2 : decode cX10_isOfOne 2 = .ok (.getfield 256, 3) := by decide +kernel
theorem dX10_isOfOne_5 : decode cX10_isOfOne 5 = .ok (.iconst 1, 1) := by decide +kernel
theorem dX10_isOfOne_6 : decode cX10_isOfOne 6 = .ok (.iadd, 1) := by decide +kernel
theorem dX10_isOfOne_7 : decode cX10_isOfOne 7 = .ok (.putfield 256, 3) := by decide +kernel
theorem dX10_isOfOne_10 : decode cX10_isOfOne 10 = .ok (.iload_n 2, 1) := by decide +kernel
theorem dX10_isOfOne_11 : decode cX10_isOfOne 11 = .ok (.bipush 21, 2) := by decide +kernel
theorem dX10_isOfOne_13 : decode cX10_isOfOne 13 = .ok (.if_icmp .ne 32, 3) := by decide +kernel
theorem dX10_isOfOne_16 : decode cX10_isOfOne 16 = .ok (.aload_n 0, 1) := by decide +kernel
theorem dX10_isOfOne_17 : decode cX10_isOfOne 17 = .ok (.bipush 40, 2) := by decide +kernel
theorem dX10_isOfOne_19 : decode cX10_isOfOne 19 = .ok (.invokevirtual 275, 3) := by decide +kernel
theorem dX10_isOfOne_22 : decode cX10_isOfOne 22 = .ok (.ifCond .eq 31, 3) := by decide +kernel
theorem dX10_isOfOne_25 : decode cX10_isOfOne 25 = .ok (.aload_n 0, 1) := by decide +kernel
theorem dX10_isOfOne_26 : decode cX10_isOfOne 26 = .ok (.aload_n 1, 1) := by decide +kernel
theorem dX10_isOfOne_27 : decode cX10_isOfOne 27 = .ok (.invokevirtual 278, 3) := by decide +kernel
theorem dX10_isOfOne_30 : decode cX10_isOfOne 30 = .ok (.ifCond .eq 23, 3) := by decide +kernel
theorem dX10_isOfOne_33 : decode cX10_isOfOne 33 = .ok (.aload_n 0, 1) := by decide +kernel
theorem dX10_isOfOne_34 : decode cX10_isOfOne 34 = .ok (.bipush 41, 2) := by decide +kernel
theorem dX10_isOfOne_36 : decode cX10_isOfOne 36 = .ok (.invokevirtual 282, 3) := by decide +kernel
theorem dX10_isOfOne_39 : decode cX10_isOfOne 39 = .ok (.ifCond .ne 16, 3) := by decide +kernel
theorem dX10_isOfOne_42 : decode cX10_isOfOne 42 = .ok (.goto 11, 3) := by decide +kernel
theorem dX10_isOfOne_45 : decode cX10_isOfOne 45 = .ok (.aload_n 0, 1) := by decide +kernel
theorem dX10_isOfOne_46 : decode cX10_isOfOne 46 = .ok (.aload_n 1, 1) := by decide +kernel
theorem dX10_isOfOne_47 : decode cX10_isOfOne 47 = .ok (.invokevirtual 278, 3) := by decide +kernel
theorem dX10_isOfOne_50 : decode cX10_isOfOne 50 = .ok (.ifCond .ne 5, 3) := by decide +kernel
theorem dX10_isOfOne_53 : decode cX10_isOfOne 53 = .ok (.iconst 0, 1) := by decide +kernel
theorem dX10_isOfOne_54 : decode cX10_isOfOne 54 = .ok (.ireturn, 1) := by decide +kernel
theorem dX10_isOfOne_55 : decode cX10_isOfOne 55 = .ok (.aload_n 0, 1) := by decide +kernel
theorem dX10_isOfOne_56 : decode cX10_isOfOne 56 = .ok (.aload_n 1, 1) := by decide +kernel
theorem dX10_isOfOne_57 : decode cX10_isOfOne 57 = .ok (.iload_n 2, 1) := by decide +kernel
theorem dX10_isOfOne_58 : decode cX10_isOfOne 58 = .ok (.iconst 0, 1) := by decide +kernel
theorem dX10_isOfOne_59 : decode cX10_isOfOne 59 = .ok (.invokevirtual 268, 3) := by decide +kernel
theorem dX10_isOfOne_62 : decode cX10_isOfOne 62 = .ok (.iconst 1, 1) := by decide +kernel
theorem dX10_isOfOne_63 : decode cX10_isOfOne 63 = .ok (.ireturn, 1) := by decide +kernel
theorem dX10_isTest_0 : decode cX10_isTest 0 = .ok (.aload_n 0, 1) := by decide +kernel
theorem dX10_isTest_1 : decode cX10_isTest 1 = .ok (.aload_n 1, 1) := by decide +kernel
theorem dX10_isTest_2 : decode cX10_isTest 2 = .ok (.invokevirtual 285, 3) := by decide +kernel
theorem dX10_isTest_5 : decode cX10_isTest 5 = .ok (.ifCond .ne 5, 3) := by decide +kernel
theorem dX10_isTest_8 : decode cX10_isTest 8 = .ok (.iconst 0, 1) := by decide +kernel
theorem dX10_isTest_9 : decode cX10_isTest 9 = .ok (.ireturn, 1) := by decide +kernel
theorem dX10_isTest_10 : decode cX10_isTest 10 = .ok (.aload_n 0, 1) := by decide +kernel
theorem dX10_isTest_11 : decode cX10_isTest 11 = .ok (.bipush 26, 2) := by decide +kernel
theorem dX10_isTest_13 : decode cX10_isTest 13 = .ok (.invokevirtual 259, 3) := by decide +kernel
theorem dX10_isTest_16 : decode cX10_isTest 16 = .ok (.ifCond .eq 24, 3) := by decide +kernel
theorem dX10_isTest_19 : decode cX10_isTest 19 = .ok (.aload_n 0, 1) := by decide +kernel
theorem dX10_isTest_20 : decode cX10_isTest 20 = .ok (.aload_n 1, 1) := by decide +kernel
theorem dX10_isTest_21 : decode cX10_isTest 21 = .ok (.invokevirtual 285, 3) := by decide +kernel
theorem dX10_isTest_24 : decode cX10_isTest 24 = .ok (.ifCond .ne 5, 3) := by decide +kernel
theorem dX10_isTest_27 : decode cX10_isTest 27 = .ok (.iconst 0, 1) := by decide +kernel
theorem dX10_isTest_28 : decode cX10_isTest 28 = .ok (.ireturn, 1) := by decide +kernel
theorem dX10_isTest_29 : decode cX10_isTest 29 = .ok (.aload_n 0, 1) := by decide +kernel
theorem dX10_isTest_30 : decode cX10_isTest 30 = .ok (.aload_n 1, 1) := by decide +kernel
theorem dX10_isTest_31 : decode cX10_isTest 31 = .ok (.bipush 26, 2) := by decide +kernel
theorem dX10_isTest_33 : decode cX10_isTest 33 = .ok (.iconst 0, 1) := by decide +kernel
theorem dX10_isTest_34 : decode cX10_isTest 34 = .ok (.invokevirtual 268, 3) := by decide +kernel
theorem dX10_isTest_37 : decode cX10_isTest 37 = .ok (.goto (-27), 3) := by decide +kernel
theorem dX10_isTest_40 : decode cX10_isTest 40 = .ok (.iconst 1, 1) := by decide +kernel
theorem dX10_isTest_41 : decode cX10_isTest 41 = .ok (.ireturn, 1) := by decide +kernel
theorem dX10_isBoth_0 : decode cX10_isBoth 0 = .ok (.aload_n 0, 1) := by decide +kernel
theorem dX10_isBoth_1 : decode cX10_isBoth 1 = .ok (.aload_n 1, 1) := by decide +kernel
theorem dX10_isBoth_2 : decode cX10_isBoth 2 = .ok (.invokevirtual 288, 3) := by decide +kernel
theorem dX10_isBoth_5 : decode cX10_isBoth 5 = .ok (.ifCond .ne 5, 3) := by decide +kernel
theorem dX10_isBoth_8 : decode cX10_isBoth 8 = .ok (.iconst 0, 1) := by decide +kernel
theorem dX10_isBoth_9 : decode cX10_isBoth 9 = .ok (.ireturn, 1) := by decide +kernel
theorem dX10_isBoth_10 : decode cX10_isBoth 10 = .ok (.aload_n 0, 1) := by decide +kernel
theorem dX10_isBoth_11 : decode cX10_isBoth 11 = .ok (.bipush 25, 2) := by decide +kernel
theorem dX10_isBoth_13 : decode cX10_isBoth 13 = .ok (.invokevirtual 259, 3) := by decide +kernel
theorem dX10_isBoth_16 : decode cX10_isBoth 16 = .ok (.ifCond .eq 24, 3) := by decide +kernel
theorem dX10_isBoth_19 : decode cX10_isBoth 19 = .ok (.aload_n 0, 1) := by decide +kernel
theorem dX10_isBoth_20 : decode cX10_isBoth 20 = .ok (.aload_n 1, 1) := by decide +kernel
theorem dX10_isBoth_21 : decode cX10_isBoth 21 = .ok (.invokevirtual 288, 3) := by decide +kernel
theorem dX10_isBoth_24 : decode cX10_isBoth 24 = .ok (.ifCond .ne 5, 3) := by decide +kernel
theorem dX10_isBoth_27 : decode cX10_isBoth 27 = .ok (.iconst 0, 1) := by decide +kernel
theorem dX10_isBoth_28 : decode cX10_isBoth 28 = .ok (.ireturn, 1) := by decide +kernel
theorem dX10_isBoth_29 : decode cX10_isBoth 29 = .ok (.aload_n 0, 1) := by decide +kernel
theorem dX10_isBoth_30 : decode cX10_isBoth 30 = .ok (.aload_n 1, 1) := by decide +kernel
theorem dX10_isBoth_31 : decode cX10_isBoth 31 = .ok (.bipush 25, 2) := by decide +kernel
theorem dX10_isBoth_33 : decode cX10_isBoth 33 = .ok (.iconst 0, 1) := by decide +kernel
theorem dX10_isBoth_34 : decode cX10_isBoth 34 = .ok (.invokevirtual 268, 3) := by decide +kernel
theorem dX10_isBoth_37 : decode cX10_isBoth 37 = .ok (.goto (-27), 3) := by decide +kernel
theorem dX10_isBoth_40 : decode cX10_isBoth 40 = .ok (.iconst 1, 1) := by decide +kernel
theorem dX10_isBoth_41 : decode cX10_isBoth 41 = .ok (.ireturn, 1) := by decide +kernel
theorem dX10_isSingle_0 : decode cX10_isSingle 0 = .ok (.aload_n 0, 1) := by decide +kernel
theorem dX10_isSingle_1 : decode cX10_isSingle 1 = .ok (.getfield 24, 3) := by decide +kernel
theorem dX10_isSingle_4 : decode cX10_isSingle 4 = .ok (.aload_n 0, 1) := by decide +kernel
theorem dX10_isSingle_5 : decode cX10_isSingle 5 = .ok (.getfield 256, 3) := by decide +kernel
theorem dX10_isSingle_8 : decode cX10_isSingle 8 = .ok (.iaload, 1) := by decide +kernel
theorem dX10_isSingle_9 : decode cX10_isSingle 9 = .ok (.istore_n 2, 1) := by decide +kernel
theorem dX10_isSingle_10 : decode cX10_isSingle 10 = .ok (.iload_n 2, 1) := by decide +kernel
theorem dX10_isSingle_11 : decode cX10_isSingle 11 = .ok (.bipush 24, 2) := by decide +kernel
theorem dX10_isSingle_13 : decode cX10_isSingle 13 = .ok (.if_icmp .ne 42, 3) := by decide +kernel
theorem dX10_isSingle_16 : decode cX10_isSingle 16 = .ok (.aload_n 0, 1) := by decide +kernel
theorem dX10_isSingle_17 : decode cX10_isSingle 17 = .ok (.bipush 24, 2) := by decide +kernel
theorem dX10_isSingle_19 : decode cX10_isSingle 19 = .ok (.invokevirtual 275, 3) := by decide +kernel
theorem dX10_isSingle_22 : decode cX10_isSingle 22 = .ok (.ifCond .eq 11, 3) := by decide +kernel
theorem dX10_isSingle_25 : decode cX10_isSingle 25 = .ok (.aload_n 0, 1) := by decide +kernel
theorem dX10_isSingle_26 : decode cX10_isSingle 26 = .ok (.aload_n 1, 1) := by decide +kernel
theorem dX10_isSingle_27 : decode cX10_isSingle 27 = .ok (.invokevirtual 288, 3) := by decide +kernel
theorem dX10_isSingle_30 : decode cX10_isSingle 30 = .ok (.ifCond .ne 5, 3) := by decide +kernel
theorem dX10_isSingle_33 : decode cX10_isSingle 33 = .ok (.iconst 0, 1) := by decide +kernel
theorem dX10_isSingle_34 : decode cX10_isSingle 34 = .ok (.ireturn, 1) := by decide +kernel
theorem dX10_isSingle_35 : decode cX10_isSingle 35 = .ok (.aload_n 0, 1) := by decide +kernel
theorem dX10_isSingle_36 : decode cX10_isSingle 36 = .ok (.dup, 1) := by decide +kernel
theorem dX10_isSingle_37 : decode cX10_isSingle 37 = .ok (.getfield 262, 3) := by decide +kernel
theorem dX10_isSingle_40 : decode cX10_isSingle 40 = .ok (.iconst 1, 1) := by decide +kernel
theorem dX10_isSingle_41 : decode cX10_isSingle 41 = .ok (.isub, 1) := by decide +kernel
theorem dX10_isSingle_42 : decode cX10_isSingle 42 = .ok (.putfield 262, 3) := by decide +kernel
theorem dX10_isSingle_45 : decode cX10_isSingle 45 = .ok (.aload_n 0, 1) := by decide +kernel
theorem dX10_isSingle_46 : decode cX10_isSingle 46 = .ok (.aload_n 1, 1) := by decide +kernel
theorem dX10_isSingle_47 : decode cX10_isSingle 47 = .ok (.bipush 24, 2) := by decide +kernel
theorem dX10_isSingle_49 : decode cX10_isSingle 49 = .ok (.iconst 0, 1) := by decide +kernel
theorem dX10_isSingle_50 : decode cX10_isSingle 50 = .ok (.invokevirtual 268, 3) := by decide +kernel
theorem dX10_isSingle_53 : decode cX10_isSingle 53 = .ok (.iconst 1, 1) := by decide +kernel
theorem dX10_isSingle_54 : decode cX10_isSingle 54 = .ok (.ireturn, 1) := by decide +kernel
theorem dX10_isSingle_55 : decode cX10_isSingle 55 = .ok (.iload_n 2, 1) := by decide +kernel
theorem dX10_isSingle_56 : decode cX10_isSingle 56 = .ok (.bipush 91, 2) := by decide +kernel
theorem dX10_isSingle_58 : decode cX10_isSingle 58 = .ok (.if_icmp .ne 35, 3) := by decide +kernel
theorem dX10_isSingle_61 : decode cX10_isSingle 61 = .ok (.aload_n 0, 1) := by decide +kernel
theorem dX10_isSingle_62 : decode cX10_isSingle 62 = .ok (.bipush 91, 2) := by decide +kernel
theorem dX10_isSingle_64 : decode cX10_isSingle 64 = .ok (.invokevirtual 275, 3) := by decide +kernel
theorem dX10_isSingle_67 : decode cX10_isSingle 67 = .ok (.ifCond .eq 24, 3) := by decide +kernel
theorem dX10_isSingle_70 : decode cX10_isSingle 70 = .ok (.aload_n 0, 1) := by decide +kernel
theorem dX10_isSingle_71 : decode cX10_isSingle 71 = .ok (.aload_n 1, 1) := by decide +kernel
theorem dX10_isSingle_72 : decode cX10_isSingle 72 = .ok (.invokevirtual 291, 3) := by decide +kernel
theorem dX10_isSingle_75 : decode cX10_isSingle 75 = .ok (.ifCond .eq 16, 3) := by decide +kernel
theorem dX10_isSingle_78 : decode cX10_isSingle 78 = .ok (.aload_n 0, 1) := by decide +kernel
theorem dX10_isSingle_79 : decode cX10_isSingle 79 = .ok (.bipush 93, 2) := by decide +kernel
theorem dX10_isSingle_81 : decode cX10_isSingle 81 = .ok (.invokevirtual 282, 3) := by decide +kernel
theorem dX10_isSingle_84 : decode cX10_isSingle 84 = .ok (.ifCond .eq 7, 3) := by decide +kernel
theorem dX10_isSingle_87 : decode cX10_isSingle 87 = .ok (.iconst 1, 1) := by decide +kernel
theorem dX10_isSingle_88 : decode cX10_isSingle 88 = .ok (.goto 4, 3) := by decide +kernel
theorem dX10_isSingle_91 : decode cX10_isSingle 91 = .ok (.iconst 0, 1) := by decide +kernel
theorem dX10_isSingle_92 : decode cX10_isSingle 92 = .ok (.ireturn, 1) := by decide +kernel
theorem dX10_isSingle_93 : decode cX10_isSingle 93 = .ok (.iload_n 2, 1) := by decide +kernel
theorem dX10_isSingle_94 : decode cX10_isSingle 94 = .ok (.bipush 22, 2) := by decide +kernel
theorem dX10_isSingle_96 : decode cX10_isSingle 96 = .ok (.if_icmp .ne 12, 3) := by decide +kernel
theorem dX10_isSingle_99 : decode cX10_isSingle 99 = .ok (.aload_n 0, 1) := by decide +kernel
theorem dX10_isSingle_100 : decode cX10_isSingle 100 = .ok (.aload_n 1, 1) := by decide +kernel
theorem dX10_isSingle_101 : decode cX10_isSingle 101 = .ok (.iload_n 2, 1) := by decide +kernel
theorem dX10_isSingle_102 : decode cX10_isSingle 102 = .ok (.invokevirtual 294, 3) := by decide +kernel
theorem dX10_isSingle_105 : decode cX10_isSingle 105 = .ok (.goto 23, 3) := by decide +kernel
theorem dX10_isSingle_108 : decode cX10_isSingle 108 = .ok (.iload_n 2, 1) := by decide +kernel
theorem dX10_isSingle_109 : decode cX10_isSingle 109 = .ok (.bipush 23, 2) := by decide +kernel
theorem dX10_isSingle_111 : decode cX10_isSingle 111 = .ok (.if_icmp .ne 12, 3) := by decide +kernel
theorem dX10_isSingle_114 : decode cX10_isSingle 114 = .ok (.aload_n 0, 1) := by decide +kernel
theorem dX10_isSingle_115 : decode cX10_isSingle 115 = .ok (.aload_n 1, 1) := by decide +kernel
theorem dX10_isSingle_116 : decode cX10_isSingle 116 = .ok (.iload_n 2, 1) := by decide +kernel
theorem dX10_isSingle_117 : decode cX10_isSingle 117 = .ok (.invokevirtual 298, 3) := by decide +kernel
theorem dX10_isSingle_120 : decode cX10_isSingle 120 = .ok (.goto 8, 3) := by decide +kernel
theorem dX10_isSingle_123 : decode cX10_isSingle 123 = .ok (.aload_n 0, 1) := by decide +kernel
theorem dX10_isSingle_124 : decode cX10_isSingle 124 = .ok (.aload_n 1, 1) := by decide +kernel
theorem dX10_isSingle_125 : decode cX10_isSingle 125 = .ok (.invokevirtual 301, 3) := by decide +kernel
theorem dX10_isSingle_128 : decode cX10_isSingle 128 = .ok (.ireturn, 1) := by decide +kernel
theorem dX10_isCompare_0 : decode cX10_isCompare 0 = .ok (.aload_n 0, 1) := by decide +kernel
theorem dX10_isCompare_1 : decode cX10_isCompare 1 = .ok (.aload_n 1, 1) := by decide +kernel
theorem dX10_isCompare_2 : decode cX10_isCompare 2 = .ok (.invokevirtual 278, 3) := by decide +kernel
theorem dX10_isCompare_5 : decode cX10_isCompare 5 = .ok (.ifCond .ne 5, 3) := by decide +kernel
theorem dX10_isCompare_8 : decode cX10_isCompare 8 = .ok (.iconst 0, 1) := by decide +kernel
theorem dX10_isCompare_9 : decode cX10_isCompare 9 = .ok (.ireturn, 1) := by decide +kernel
theorem dX10_isCompare_10 : decode cX10_isCompare 10 = .ok (.aload_n 0, 1) := by decide +kernel
theorem dX10_isCompare_11 : decode cX10_isCompare 11 = .ok (.getfield 24, 3) := by decide +kernel
theorem dX10_isCompare_14 : decode cX10_isCompare 14 = .ok (.aload_n 0, 1) := by decide +kernel
theorem dX10_isCompare_15 : decode cX10_isCompare 15 = .ok (.getfield 256, 3) := by decide +kernel
theorem dX10_isCompare_18 : decode cX10_isCompare 18 = .ok (.iaload, 1) := by decide +kernel
theorem dX10_isCompare_19 : decode cX10_isCompare 19 = .ok (.istore_n 2, 1) := by decide +kernel
theorem dX10_isCompare_20 : decode cX10_isCompare 20 = .ok (.iload_n 2, 1) := by decide +kernel
theorem dX10_isCompare_21 : decode cX10_isCompare 21 = .ok (.bipush 60, 2) := by decide +kernel
theorem dX10_isCompare_23 : decode cX10_isCompare 23 = .ok (.if_icmp .ne 8, 3) := by decide +kernel
theorem dX10_isCompare_26 : decode cX10_isCompare 26 = .ok (.bipush 106, 2) := by decide +kernel
theorem dX10_isCompare_28 : decode cX10_isCompare 28 = .ok (.goto 50, 3) := by decide +kernel
theorem dX10_isCompare_31 : decode cX10_isCompare 31 = .ok (.iload_n 2, 1) := by decide +kernel
theorem dX10_isCompare_32 : decode cX10_isCompare 32 = .ok (.bipush 62, 2) := by decide +kernel
theorem dX10_isCompare_34 : decode cX10_isCompare 34 = .ok (.if_icmp .ne 8, 3) := by decide +kernel
theorem dX10_isCompare_37 : decode cX10_isCompare 37 = .ok (.bipush 107, 2) := by decide +kernel
theorem dX10_isCompare_39 : decode cX10_isCompare 39 = .ok (.goto 39, 3) := by decide +kernel
theorem dX10_isCompare_42 : decode cX10_isCompare 42 = .ok (.iload_n 2, 1) := by decide +kernel
theorem dX10_isCompare_43 : decode cX10_isCompare 43 = .ok (.bipush 61, 2) := by decide +kernel
theorem dX10_isCompare_45 : decode cX10_isCompare 45 = .ok (.if_icmp .ne 8, 3) := by decide +kernel
theorem dX10_isCompare_48 : decode cX10_isCompare 48 = .ok (.bipush 108, 2) := by decide +kernel
theorem dX10_isCompare_50 : decode cX10_isCompare 50 = .ok (.goto 28, 3) := by decide +kernel
theorem dX10_isCompare_53 : decode cX10_isCompare 53 = .ok (.iload_n 2, 1) := by decide +kernel
theorem dX10_isCompare_54 : decode cX10_isCompare 54 = .ok (.sipush 316, 3) := by decide +kernel
theorem dX10_isCompare_57 : decode cX10_isCompare 57 = .ok (.if_icmp .ne 8, 3) := by decide +kernel
theorem dX10_isCompare_60 : decode cX10_isCompare 60 = .ok (.bipush 109, 2) := by decide +kernel
theorem dX10_isCompare_62 : decode cX10_isCompare 62 = .ok (.goto 16, 3) := by decide +kernel
theorem dX10_isCompare_65 : decode cX10_isCompare 65 = .ok (.iload_n 2, 1) := by decide +kernel
theorem dX10_isCompare_66 : decode cX10_isCompare 66 = .ok (.sipush 318, 3) := by decide +kernel
theorem dX10_isCompare_69 : decode cX10_isCompare 69 = .ok (.if_icmp .ne 8, 3) := by decide +kernel
theorem dX10_isCompare_72 : decode cX10_isCompare 72 = .ok (.bipush 110, 2) := by decide +kernel
theorem dX10_isCompare_74 : decode cX10_isCompare 74 = .ok (.goto 4, 3) := by decide +kernel
theorem dX10_isCompare_77 : decode cX10_isCompare 77 = .ok (.iconst (-1), 1) := by decide +kernel
theorem dX10_isCompare_78 : decode cX10_isCompare 78 = .ok (.istore_n 3, 1) := by decide +kernel
theorem dX10_isCompare_79 : decode cX10_isCompare 79 = .ok (.iload_n 3, 1) := by decide +kernel
theorem dX10_isCompare_80 : decode cX10_isCompare 80 = .ok (.iconst (-1), 1) := by decide +kernel
theorem dX10_isCompare_81 : decode cX10_isCompare 81 = .ok (.if_icmp .ne 5, 3) := by decide +kernel
theorem dX10_isCompare_84 : decode cX10_isCompare 84 = .ok (.iconst 0, 1) := by decide +kernel
theorem dX10_isCompare_85 : decode cX10_isCompare 85 = .ok (.ireturn, 1) := by decide +kernel
theorem dX10_isCompare_86 : decode cX10_isCompare 86 = .ok (.aload_n 0, 1) := by decide +kernel
theorem dX10_isCompare_87 : decode cX10_isCompare 87 = .ok (.dup, 1) := by decide +kernel
theorem dX10_isCompare_88 : decode cX10_isCompare 88 = .ok (.getfield 256, 3) := by decide +kernel
theorem dX10_isCompare_91 : decode cX10_isCompare 91 = .ok (.iconst 1, 1) := by decide +kernel
theorem dX10_isCompare_92 : decode cX10_isCompare 92 = .ok (.iadd, 1) := by decide +kernel
theorem dX10_isCompare_93 : decode cX10_isCompare 93 = .ok (.putfield 256, 3) := by decide +kernel
theorem dX10_isCompare_96 : decode cX10_isCompare 96 = .ok (.aload_n 0, 1) := by decide +kernel
theorem dX10_isCompare_97 : decode cX10_isCompare 97 = .ok (.aload_n 1, 1) := by decide +kernel
theorem dX10_isCompare_98 : decode cX10_isCompare 98 = .ok (.invokevirtual 278, 3) := by decide +kernel
theorem dX10_isCompare_101 : decode cX10_isCompare 101 = .ok (.ifCond .ne 5, 3) := by decide +kernel
theorem dX10_isCompare_104 : decode cX10_isCompare 104 = .ok (.iconst 0, 1) := by decide +kernel
theorem dX10_isCompare_105 : decode cX10_isCompare 105 = .ok (.ireturn, 1) := by decide +kernel
theorem dX10_isCompare_106 : decode cX10_isCompare 106 = .ok (.aload_n 0, 1) := by decide +kernel
theorem dX10_isCompare_107 : decode cX10_isCompare 107 = .ok (.aload_n 1, 1) := by decide +kernel
theorem dX10_isCompare_108 : decode cX10_isCompare 108 = .ok (.iload_n 3, 1) := by decide +kernel
theorem dX10_isCompare_109 : decode cX10_isCompare 109 = .ok (.iconst 0, 1) := by decide +kernel
theorem dX10_isCompare_110 : decode cX10_isCompare 110 = .ok (.invokevirtual 268, 3) := by decide +kernel
theorem dX10_isCompare_113 : decode cX10_isCompare 113 = .ok (.iconst 1, 1) := by decide +kernel
theorem dX10_isCompare_114 : decode cX10_isCompare 114 = .ok (.ireturn, 1) := by decide +kernel
theorem dX10_isSum_0 : decode cX10_isSum 0 = .ok (.aload_n 0, 1) := by decide +kernel
theorem dX10_isSum_1 : decode cX10_isSum 1 = .ok (.aload_n 1, 1) := by decide +kernel
theorem dX10_isSum_2 : decode cX10_isSum 2 = .ok (.invokevirtual 304, 3) := by decide +kernel
theorem dX10_isSum_5 : decode cX10_isSum 5 = .ok (.ifCond .ne 5, 3) := by decide +kernel
theorem dX10_isSum_8 : decode cX10_isSum 8 = .ok (.iconst 0, 1) := by decide +kernel
theorem dX10_isSum_9 : decode cX10_isSum 9 = .ok (.ireturn, 1) := by decide +kernel
theorem dX10_isSum_10 : decode cX10_isSum 10 = .ok (.aload_n 0, 1) := by decide +kernel
theorem dX10_isSum_11 : decode cX10_isSum 11 = .ok (.getfield 24, 3) := by decide +kernel
theorem dX10_isSum_14 : decode cX10_isSum 14 = .ok (.aload_n 0, 1) := by decide +kernel
theorem dX10_isSum_15 : decode cX10_isSum 15 = .ok (.getfield 256, 3) := by decide +kernel
theorem dX10_isSum_18 : decode cX10_isSum 18 = .ok (.iaload, 1) := by decide +kernel
theorem dX10_isSum_19 : decode cX10_isSum 19 = .ok (.bipush 43, 2) := by decide +kernel
theorem dX10_isSum_21 : decode cX10_isSum 21 = .ok (.if_icmp .eq 17, 3) := by decide +kernel
theorem dX10_isSum_24 : decode cX10_isSum 24 = .ok (.aload_n 0, 1) := by decide +kernel
theorem dX10_isSum_25 : decode cX10_isSum 25 = .ok (.getfield 24, 3) := by decide +kernel
theorem dX10_isSum_28 : decode cX10_isSum 28 = .ok (.aload_n 0, 1) := by decide +kernel
theorem dX10_isSum_29 : decode cX10_isSum 29 = .ok (.getfield 256, 3) := by decide +kernel
theorem dX10_isSum_32 : decode cX10_isSum 32 = .ok (.iaload, 1) := by decide +kernel
theorem dX10_isSum_33 : decode cX10_isSum 33 = .ok (.bipush 45, 2) := by decide +kernel
theorem dX10_isSum_35 : decode cX10_isSum 35 = .ok (.if_icmp .ne 55, 3) := by decide +kernel
theorem dX10_isSum_38 : decode cX10_isSum 38 = .ok (.aload_n 0, 1) := by decide +kernel
theorem dX10_isSum_39 : decode cX10_isSum 39 = .ok (.getfield 24, 3) := by decide +kernel
theorem dX10_isSum_42 : decode cX10_isSum 42 = .ok (.aload_n 0, 1) := by decide +kernel
theorem dX10_isSum_43 : decode cX10_isSum 43 = .ok (.getfield 256, 3) := by decide +kernel
theorem dX10_isSum_46 : decode cX10_isSum 46 = .ok (.iaload, 1) := by decide +kernel
theorem dX10_isSum_47 : decode cX10_isSum 47 = .ok (.bipush 43, 2) := by decide +kernel
theorem dX10_isSum_49 : decode cX10_isSum 49 = .ok (.if_icmp .ne 8, 3) := by decide +kernel
theorem dX10_isSum_52 : decode cX10_isSum 52 = .ok (.bipush 101, 2) := by decide +kernel
theorem dX10_isSum_54 : decode cX10_isSum 54 = .ok (.goto 5, 3) := by decide +kernel
theorem dX10_isSum_57 : decode cX10_isSum 57 = .ok (.bipush 102, 2) := by decide +kernel
theorem dX10_isSum_59 : decode cX10_isSum 59 = .ok (.istore_n 2, 1) := by decide +kernel
theorem dX10_isSum_60 : decode cX10_isSum 60 = .ok (.aload_n 0, 1) := by decide +kernel
theorem dX10_isSum_61 : decode cX10_isSum 61 = .ok (.dup, 1) := by decide +kernel
theorem dX10_isSum_62 : decode cX10_isSum 62 = .ok (.getfield 256, 3) := by decide +kernel
theorem dX10_isSum_65 : decode cX10_isSum 65 = .ok (.iconst 1, 1) := by decide +kernel
theorem dX10_isSum_66 : decode cX10_isSum 66 = .ok (.iadd, 1) := by decide +kernel
theorem dX10_isSum_67 : decode cX10_isSum 67 = .ok (.putfield 256, 3) := by decide +kernel
theorem dX10_isSum_70 : decode cX10_isSum 70 = .ok (.aload_n 0, 1) := by decide +kernel
theorem dX10_isSum_71 : decode cX10_isSum 71 = .ok (.aload_n 1, 1) := by decide +kernel
theorem dX10_isSum_72 : decode cX10_isSum 72 = .ok (.invokevirtual 304, 3) := by decide +kernel
theorem dX10_isSum_75 : decode cX10_isSum 75 = .ok (.ifCond .ne 5, 3) := by decide +kernel
theorem dX10_isSum_78 : decode cX10_isSum 78 = .ok (.iconst 0, 1) := by decide +kernel
theorem dX10_isSum_79 : decode cX10_isSum 79 = .ok (.ireturn, 1) := by decide +kernel
theorem dX10_isSum_80 : decode cX10_isSum 80 = .ok (.aload_n 0, 1) := by decide +kernel
theorem dX10_isSum_81 : decode cX10_isSum 81 = .ok (.aload_n 1, 1) := by decide +kernel
theorem dX10_isSum_82 : decode cX10_isSum 82 = .ok (.iload_n 2, 1) := by decide +kernel
theorem dX10_isSum_83 : decode cX10_isSum 83 = .ok (.iconst 0, 1) := by decide +kernel
theorem dX10_isSum_84 : decode cX10_isSum 84 = .ok (.invokevirtual 268, 3) := by decide +kernel
theorem dX10_isSum_87 : decode cX10_isSum 87 = .ok (.goto (-77), 3) := by decide +kernel
theorem dX10_isSum_90 : decode cX10_isSum 90 = .ok (.iconst 1, 1) := by decide +kernel
theorem dX10_isSum_91 : decode cX10_isSum 91 = .ok (.ireturn, 1) := by decide +kernel
theorem dX10_isProduct_0 : decode cX10_isProduct 0 = .ok (.aload_n 0, 1) := by decide +kernel
theorem dX10_isProduct_1 : decode cX10_isProduct 1 = .ok (.aload_n 1, 1) := by decide +kernel
theorem dX10_isProduct_2 : decode cX10_isProduct 2 = .ok (.invokevirtual 307, 3) := by decide +kernel
theorem dX10_isProduct_5 : decode cX10_isProduct 5 = .ok (.ifCond .ne 5, 3) := by decide +kernel
theorem dX10_isProduct_8 : decode cX10_isProduct 8 = .ok (.iconst 0, 1) := by decide +kernel
theorem dX10_isProduct_9 : decode cX10_isProduct 9 = .ok (.ireturn, 1) := by decide +kernel
theorem dX10_isProduct_10 : decode cX10_isProduct 10 = .ok (.aload_n 0, 1) := by decide +kernel
theorem dX10_isProduct_11 : decode cX10_isProduct 11 = .ok (.getfield 24, 3) := by decide +kernel
theorem dX10_isProduct_14 : decode cX10_isProduct 14 = .ok (.aload_n 0, 1) := by decide +kernel
theorem dX10_isProduct_15 : decode cX10_isProduct 15 = .ok (.getfield 256, 3) := by decide +kernel
theorem dX10_isProduct_18 : decode cX10_isProduct 18 = .ok (.iaload, 1) := by decide +kernel
theorem dX10_isProduct_19 : decode cX10_isProduct 19 = .ok (.bipush 42, 2) := by decide +kernel
theorem dX10_isProduct_21 : decode cX10_isProduct 21 = .ok (.if_icmp .eq 17, 3) := by decide +kernel
theorem dX10_isProduct_24 : decode cX10_isProduct 24 = .ok (.aload_n 0, 1) := by decide +kernel
theorem dX10_isProduct_25 : decode cX10_isProduct 25 = .ok (.getfield 24, 3) := by decide +kernel
theorem dX10_isProduct_28 : decode cX10_isProduct 28 = .ok (.aload_n 0, 1) := by decide +kernel
theorem dX10_isProduct_29 : decode cX10_isProduct 29 = .ok (.getfield 256, 3) := by decide +kernel
theorem dX10_isProduct_32 : decode cX10_isProduct 32 = .ok (.iaload, 1) := by decide +kernel
theorem dX10_isProduct_33 : decode cX10_isProduct 33 = .ok (.bipush 47, 2) := by decide +kernel
theorem dX10_isProduct_35 : decode cX10_isProduct 35 = .ok (.if_icmp .ne 55, 3) := by decide +kernel
theorem dX10_isProduct_38 : decode cX10_isProduct 38 = .ok (.aload_n 0, 1) := by decide +kernel
theorem dX10_isProduct_39 : decode cX10_isProduct 39 = .ok (.getfield 24, 3) := by decide +kernel
theorem dX10_isProduct_42 : decode cX10_isProduct 42 = .ok (.aload_n 0, 1) := by decide +kernel
theorem dX10_isProduct_43 : decode cX10_isProduct 43 = .ok (.getfield 256, 3) := by decide +kernel
theorem dX10_isProduct_46 : decode cX10_isProduct 46 = .ok (.iaload, 1) := by decide +kernel
theorem dX10_isProduct_47 : decode cX10_isProduct 47 = .ok (.bipush 42, 2) := by decide +kernel
theorem dX10_isProduct_49 : decode cX10_isProduct 49 = .ok (.if_icmp .ne 8, 3) := by decide +kernel
theorem dX10_isProduct_52 : decode cX10_isProduct 52 = .ok (.bipush 103, 2) := by decide +kernel
theorem dX10_isProduct_54 : decode cX10_isProduct 54 = .ok (.goto 5, 3) := by decide +kernel
theorem dX10_isProduct_57 : decode cX10_isProduct 57 = .ok (.bipush 104, 2) := by decide +kernel
theorem dX10_isProduct_59 : decode cX10_isProduct 59 = .ok (.istore_n 2, 1) := by decide +kernel
theorem dX10_isProduct_60 : decode cX10_isProduct 60 = .ok (.aload_n 0, 1) := by decide +kernel
theorem dX10_isProduct_61 : decode cX10_isProduct 61 = .ok (.dup, 1) := by decide +kernel
theorem dX10_isProduct_62 : decode cX10_isProduct 62 = .ok (.getfield 256, 3) := by decide +kernel
theorem dX10_isProduct_65 : decode cX10_isProduct 65 = .ok (.iconst 1, 1) := by decide +kernel
theorem dX10_isProduct_66 : decode cX10_isProduct 66 = .ok (.iadd, 1) := by decide +kernel
theorem dX10_isProduct_67 : decode cX10_isProduct 67 = .ok (.putfield 256, 3) := by decide +kernel
theorem dX10_isProduct_70 : decode cX10_isProduct 70 = .ok (.aload_n 0, 1) := by decide +kernel
theorem dX10_isProduct_71 : decode cX10_isProduct 71 = .ok (.aload_n 1, 1) := by decide +kernel
theorem dX10_isProduct_72 : decode cX10_isProduct 72 = .ok (.invokevirtual 307, 3) := by decide +kernel
theorem dX10_isProduct_75 : decode cX10_isProduct 75 = .ok (.ifCond .ne 5, 3) := by decide +kernel
theorem dX10_isProduct_78 : decode cX10_isProduct 78 = .ok (.iconst 0, 1) := by decide +kernel
theorem dX10_isProduct_79 : decode cX10_isProduct 79 = .ok (.ireturn, 1) := by decide +kernel
theorem dX10_isProduct_80 : decode cX10_isProduct 80 = .ok (.aload_n 0, 1) := by decide +kernel
theorem dX10_isProduct_81 : decode cX10_isProduct 81 = .ok (.aload_n 1, 1) := by decide +kernel
theorem dX10_isProduct_82 : decode cX10_isProduct 82 = .ok (.iload_n 2, 1) := by decide +kernel
theorem dX10_isProduct_83 : decode cX10_isProduct 83 = .ok (.iconst 0, 1) := by decide +kernel
theorem dX10_isProduct_84 : decode cX10_isProduct 84 = .ok (.invokevirtual 268, 3) := by decide +kernel
theorem dX10_isProduct_87 : decode cX10_isProduct 87 = .ok (.goto (-77), 3) := by decide +kernel
theorem dX10_isProduct_90 : decode cX10_isProduct 90 = .ok (.iconst 1, 1) := by decide +kernel
theorem dX10_isProduct_91 : decode cX10_isProduct 91 = .ok (.ireturn, 1) := by decide +kernel
theorem dX10_isValue_0 : decode cX10_isValue 0 = .ok (.aload_n 0, 1) := by decide +kernel
theorem dX10_isValue_1 : decode cX10_isValue 1 = .ok (.getfield 24, 3) := by decide +kernel
theorem dX10_isValue_4 : decode cX10_isValue 4 = .ok (.aload_n 0, 1) := by decide +kernel
theorem dX10_isValue_5 : decode cX10_isValue 5 = .ok (.getfield 256, 3) := by decide +kernel
theorem dX10_isValue_8 : decode cX10_isValue 8 = .ok (.iaload, 1) := by decide +kernel
theorem dX10_isValue_9 : decode cX10_isValue 9 = .ok (.istore_n 2, 1) := by decide +kernel
theorem dX10_isValue_10 : decode cX10_isValue 10 = .ok (.iload_n 2, 1) := by decide +kernel
theorem dX10_isValue_11 : decode cX10_isValue 11 = .ok (.bipush 45, 2) := by decide +kernel
theorem dX10_isValue_13 : decode cX10_isValue 13 = .ok (.if_icmp .ne 42, 3) := by decide +kernel
theorem dX10_isValue_16 : decode cX10_isValue 16 = .ok (.aload_n 0, 1) := by decide +kernel
theorem dX10_isValue_17 : decode cX10_isValue 17 = .ok (.bipush 45, 2) := by decide +kernel
theorem dX10_isValue_19 : decode cX10_isValue 19 = .ok (.invokevirtual 275, 3) := by decide +kernel
theorem dX10_isValue_22 : decode cX10_isValue 22 = .ok (.ifCond .eq 11, 3) := by decide +kernel
theorem dX10_isValue_25 : decode cX10_isValue 25 = .ok (.aload_n 0, 1) := by decide +kernel
theorem dX10_isValue_26 : decode cX10_isValue 26 = .ok (.aload_n 1, 1) := by decide +kernel
theorem dX10_isValue_27 : decode cX10_isValue 27 = .ok (.invokevirtual 307, 3) := by decide +kernel
theorem dX10_isValue_30 : decode cX10_isValue 30 = .ok (.ifCond .ne 5, 3) := by decide +kernel
theorem dX10_isValue_33 : decode cX10_isValue 33 = .ok (.iconst 0, 1) := by decide +kernel
theorem dX10_isValue_34 : decode cX10_isValue 34 = .ok (.ireturn, 1) := by decide +kernel
theorem dX10_isValue_35 : decode cX10_isValue 35 = .ok (.aload_n 0, 1) := by decide +kernel
theorem dX10_isValue_36 : decode cX10_isValue 36 = .ok (.dup, 1) := by decide +kernel
theorem dX10_isValue_37 : decode cX10_isValue 37 = .ok (.getfield 262, 3) := by decide +kernel
theorem dX10_isValue_40 : decode cX10_isValue 40 = .ok (.iconst 1, 1) := by decide +kernel
theorem dX10_isValue_41 : decode cX10_isValue 41 = .ok (.isub, 1) := by decide +kernel
theorem dX10_isValue_42 : decode cX10_isValue 42 = .ok (.putfield 262, 3) := by decide +kernel
theorem dX10_isValue_45 : decode cX10_isValue 45 = .ok (.aload_n 0, 1) := by decide +kernel
theorem dX10_isValue_46 : decode cX10_isValue 46 = .ok (.aload_n 1, 1) := by decide +kernel
theorem dX10_isValue_47 : decode cX10_isValue 47 = .ok (.bipush 105, 2) := by decide +kernel
theorem dX10_isValue_49 : decode cX10_isValue 49 = .ok (.iconst 0, 1) := by decide +kernel
theorem dX10_isValue_50 : decode cX10_isValue 50 = .ok (.invokevirtual 268, 3) := by decide +kernel
theorem dX10_isValue_53 : decode cX10_isValue 53 = .ok (.iconst 1, 1) := by decide +kernel
theorem dX10_isValue_54 : decode cX10_isValue 54 = .ok (.ireturn, 1) := by decide +kernel
theorem dX10_isValue_55 : decode cX10_isValue 55 = .ok (.iload_n 2, 1) := by decide +kernel
theorem dX10_isValue_56 : decode cX10_isValue 56 = .ok (.bipush 40, 2) := by decide +kernel
theorem dX10_isValue_58 : decode cX10_isValue 58 = .ok (.if_icmp .ne 35, 3) := by decide +kernel
theorem dX10_isValue_61 : decode cX10_isValue 61 = .ok (.aload_n 0, 1) := by decide +kernel
theorem dX10_isValue_62 : decode cX10_isValue 62 = .ok (.bipush 40, 2) := by decide +kernel
theorem dX10_isValue_64 : decode cX10_isValue 64 = .ok (.invokevirtual 275, 3) := by decide +kernel
theorem dX10_isValue_67 : decode cX10_isValue 67 = .ok (.ifCond .eq 24, 3) := by decide +kernel
theorem dX10_isValue_70 : decode cX10_isValue 70 = .ok (.aload_n 0, 1) := by decide +kernel
theorem dX10_isValue_71 : decode cX10_isValue 71 = .ok (.aload_n 1, 1) := by decide +kernel
theorem dX10_isValue_72 : decode cX10_isValue 72 = .ok (.invokevirtual 278, 3) := by decide +kernel
theorem dX10_isValue_75 : decode cX10_isValue 75 = .ok (.ifCond .eq 16, 3) := by decide +kernel
theorem dX10_isValue_78 : decode cX10_isValue 78 = .ok (.aload_n 0, 1) := by decide +kernel
theorem dX10_isValue_79 : decode cX10_isValue 79 = .ok (.bipush 41, 2) := by decide +kernel
theorem dX10_isValue_81 : decode cX10_isValue 81 = .ok (.invokevirtual 282, 3) := by decide +kernel
theorem dX10_isValue_84 : decode cX10_isValue 84 = .ok (.ifCond .eq 7, 3) := by decide +kernel
theorem dX10_isValue_87 : decode cX10_isValue 87 = .ok (.iconst 1, 1) := by decide +kernel
theorem dX10_isValue_88 : decode cX10_isValue 88 = .ok (.goto 4, 3) := by decide +kernel
theorem dX10_isValue_91 : decode cX10_isValue 91 = .ok (.iconst 0, 1) := by decide +kernel
theorem dX10_isValue_92 : decode cX10_isValue 92 = .ok (.ireturn, 1) := by decide +kernel
theorem dX10_isValue_93 : decode cX10_isValue 93 = .ok (.iload_n 2, 1) := by decide +kernel
theorem dX10_isValue_94 : decode cX10_isValue 94 = .ok (.bipush 27, 2) := by decide +kernel
theorem dX10_isValue_96 : decode cX10_isValue 96 = .ok (.if_icmp .eq 9, 3) := by decide +kernel
theorem dX10_isValue_99 : decode cX10_isValue 99 = .ok (.iload_n 2, 1) := by decide +kernel
theorem dX10_isValue_100 : decode cX10_isValue 100 = .ok (.bipush 28, 2) := by decide +kernel
theorem dX10_isValue_102 : decode cX10_isValue 102 = .ok (.if_icmp .ne 10, 3) := by decide +kernel
theorem dX10_isValue_105 : decode cX10_isValue 105 = .ok (.aload_n 0, 1) := by decide +kernel
theorem dX10_isValue_106 : decode cX10_isValue 106 = .ok (.aload_n 1, 1) := by decide +kernel
theorem dX10_isValue_107 : decode cX10_isValue 107 = .ok (.iload_n 2, 1) := by decide +kernel
theorem dX10_isValue_108 : decode cX10_isValue 108 = .ok (.invokevirtual 310, 3) := by decide +kernel
theorem dX10_isValue_111 : decode cX10_isValue 111 = .ok (.ireturn, 1) := by decide +kernel
theorem dX10_isValue_112 : decode cX10_isValue 112 = .ok (.iload_n 2, 1) := by decide +kernel
theorem dX10_isValue_113 : decode cX10_isValue 113 = .ok (.bipush 19, 2) := by decide +kernel
theorem dX10_isValue_115 : decode cX10_isValue 115 = .ok (.if_icmp .eq 9, 3) := by decide +kernel
theorem dX10_isValue_118 : decode cX10_isValue 118 = .ok (.iload_n 2, 1) := by decide +kernel
theorem dX10_isValue_119 : decode cX10_isValue 119 = .ok (.bipush 20, 2) := by decide +kernel
theorem dX10_isValue_121 : decode cX10_isValue 121 = .ok (.if_icmp .ne 10, 3) := by decide +kernel
theorem dX10_isValue_124 : decode cX10_isValue 124 = .ok (.aload_n 0, 1) := by decide +kernel
theorem dX10_isValue_125 : decode cX10_isValue 125 = .ok (.aload_n 1, 1) := by decide +kernel
theorem dX10_isValue_126 : decode cX10_isValue 126 = .ok (.iload_n 2, 1) := by decide +kernel
theorem dX10_isValue_127 : decode cX10_isValue 127 = .ok (.invokevirtual 294, 3) := by decide +kernel
theorem dX10_isValue_130 : decode cX10_isValue 130 = .ok (.ireturn, 1) := by decide +kernel
theorem dX10_isValue_131 : decode cX10_isValue 131 = .ok (.iload_n 2, 1) := by decide +kernel
theorem dX10_isValue_132 : decode cX10_isValue 132 = .ok (.bipush 21, 2) := by decide +kernel
theorem dX10_isValue_134 : decode cX10_isValue 134 = .ok (.if_icmp .ne 10, 3) := by decide +kernel
theorem dX10_isValue_137 : decode cX10_isValue 137 = .ok (.aload_n 0, 1) := by decide +kernel
theorem dX10_isValue_138 : decode cX10_isValue 138 = .ok (.aload_n 1, 1) := by decide +kernel
theorem dX10_isValue_139 : decode cX10_isValue 139 = .ok (.iload_n 2, 1) := by decide +kernel
theorem dX10_isValue_140 : decode cX10_isValue 140 = .ok (.invokevirtual 298, 3) := by decide +kernel
theorem dX10_isValue_143 : decode cX10_isValue 143 = .ok (.ireturn, 1) := by decide +kernel
theorem dX10_isValue_144 : decode cX10_isValue 144 = .ok (.iload_n 2, 1) := by decide +kernel
theorem dX10_isValue_145 : decode cX10_isValue 145 = .ok (.bipush 31, 2) := by decide +kernel
theorem dX10_isValue_147 : decode cX10_isValue 147 = .ok (.if_icmp .ne 23, 3) := by decide +kernel
theorem dX10_isValue_150 : decode cX10_isValue 150 = .ok (.aload_n 0, 1) := by decide +kernel
theorem dX10_isValue_151 : decode cX10_isValue 151 = .ok (.aload_n 1, 1) := by decide +kernel
theorem dX10_isValue_152 : decode cX10_isValue 152 = .ok (.bipush 100, 2) := by decide +kernel
theorem dX10_isValue_154 : decode cX10_isValue 154 = .ok (.aload_n 0, 1) := by decide +kernel
theorem dX10_isValue_155 : decode cX10_isValue 155 = .ok (.getfield 33, 3) := by decide +kernel
theorem dX10_isValue_158 : decode cX10_isValue 158 = .ok (.aload_n 0, 1) := by decide +kernel
theorem dX10_isValue_159 : decode cX10_isValue 159 = .ok (.getfield 256, 3) := by decide +kernel
theorem dX10_isValue_162 : decode cX10_isValue 162 = .ok (.laload, 1) := by decide +kernel
theorem dX10_isValue_163 : decode cX10_isValue 163 = .ok (.l2i, 1) := by decide +kernel
theorem dX10_isValue_164 : decode cX10_isValue 164 = .ok (.invokevirtual 268, 3) := by decide +kernel
theorem dX10_isValue_167 : decode cX10_isValue 167 = .ok (.goto 26, 3) := by decide +kernel
theorem dX10_isValue_170 : decode cX10_isValue 170 = .ok (.iload_n 2, 1) := by decide +kernel
theorem dX10_isValue_171 : decode cX10_isValue 171 = .ok (.bipush 15, 2) := by decide +kernel
theorem dX10_isValue_173 : decode cX10_isValue 173 = .ok (.bipush 18, 2) := by decide +kernel
theorem dX10_isValue_175 : decode cX10_isValue 175 = .ok (.invokestatic 61, 3) := by decide +kernel
theorem dX10_isValue_178 : decode cX10_isValue 178 = .ok (.ifCond .eq 13, 3) := by decide +kernel
theorem dX10_isValue_181 : decode cX10_isValue 181 = .ok (.aload_n 0, 1) := by decide +kernel
theorem dX10_isValue_182 : decode cX10_isValue 182 = .ok (.aload_n 1, 1) := by decide +kernel
theorem dX10_isValue_183 : decode cX10_isValue 183 = .ok (.iload_n 2, 1) := by decide +kernel
theorem dX10_isValue_184 : decode cX10_isValue 184 = .ok (.iconst 0, 1) := by decide +kernel
theorem dX10_isValue_185 : decode cX10_isValue 185 = .ok (.invokevirtual 268, 3) := by decide +kernel
theorem dX10_isValue_188 : decode cX10_isValue 188 = .ok (.goto 5, 3) := by decide +kernel
theorem dX10_isValue_191 : decode cX10_isValue 191 = .ok (.iconst 0, 1) := by decide +kernel
theorem dX10_isValue_192 : decode cX10_isValue 192 = .ok (.ireturn, 1) := by decide +kernel
theorem dX10_isValue_193 : decode cX10_isValue 193 = .ok (.aload_n 0, 1) := by decide +kernel
theorem dX10_isValue_194 : decode cX10_isValue 194 = .ok (.dup, 1) := by decide +kernel
theorem dX10_isValue_195 : decode cX10_isValue 195 = .ok (.getfield 256, 3) := by decide +kernel
theorem dX10_isValue_198 : decode cX10_isValue 198 = .ok (.iconst 1, 1) := by decide +kernel
theorem dX10_isValue_199 : decode cX10_isValue 199 = .ok (.iadd, 1) := by decide +kernel
theorem dX10_isValue_200 : decode cX10_isValue 200 = .ok (.putfield 256, 3) := by decide +kernel
theorem dX10_isValue_203 : decode cX10_isValue 203 = .ok (.iconst 1, 1) := by decide +kernel
theorem dX10_isValue_204 : decode cX10_isValue 204 = .ok (.ireturn, 1) := by decide +kernel
theorem dX10_isOfTwo_0 : decode cX10_isOfTwo 0 = .ok (.aload_n 0, 1) := by decide +kernel
theorem dX10_isOfTwo_1 : decode cX10_isOfTwo 1 = .ok (.dup, 1) := by decide +kernel
theorem dX10_isOfTwo_2 : decode cX10_isOfTwo 2 = .ok (.getfield 256, 3) := by decide +kernel
theorem dX10_isOfTwo_5 : decode cX10_isOfTwo 5 = .ok (.iconst 1, 1) := by decide +kernel
theorem dX10_isOfTwo_6 : decode cX10_isOfTwo 6 = .ok (.iadd, 1) := by decide +kernel
theorem dX10_isOfTwo_7 : decode cX10_isOfTwo 7 = .ok (.putfield 256, 3) := by decide +kernel
theorem dX10_isOfTwo_10 : decode cX10_isOfTwo 10 = .ok (.aload_n 0, 1) := by decide +kernel
theorem dX10_isOfTwo_11 : decode cX10_isOfTwo 11 = .ok (.bipush 40, 2) := by decide +kernel
theorem dX10_isOfTwo_13 : decode cX10_isOfTwo 13 = .ok (.invokevirtual 275, 3) := by decide +kernel
theorem dX10_isOfTwo_16 : decode cX10_isOfTwo 16 = .ok (.ifCond .eq 37, 3) := by decide +kernel
theorem dX10_isOfTwo_19 : decode cX10_isOfTwo 19 = .ok (.aload_n 0, 1) := by decide +kernel
theorem dX10_isOfTwo_20 : decode cX10_isOfTwo 20 = .ok (.aload_n 1, 1) := by decide +kernel
theorem dX10_isOfTwo_21 : decode cX10_isOfTwo 21 = .ok (.invokevirtual 278, 3) := by decide +kernel
theorem dX10_isOfTwo_24 : decode cX10_isOfTwo 24 = .ok (.ifCond .eq 29, 3) := by decide +kernel
theorem dX10_isOfTwo_27 : decode cX10_isOfTwo 27 = .ok (.aload_n 0, 1) := by decide +kernel
theorem dX10_isOfTwo_28 : decode cX10_isOfTwo 28 = .ok (.bipush 44, 2) := by decide +kernel
theorem dX10_isOfTwo_30 : decode cX10_isOfTwo 30 = .ok (.invokevirtual 259, 3) := by decide +kernel
theorem dX10_isOfTwo_33 : decode cX10_isOfTwo 33 = .ok (.ifCond .eq 20, 3) := by decide +kernel
theorem dX10_isOfTwo_36 : decode cX10_isOfTwo 36 = .ok (.aload_n 0, 1) := by decide +kernel
theorem dX10_isOfTwo_37 : decode cX10_isOfTwo 37 = .ok (.aload_n 1, 1) := by decide +kernel
theorem dX10_isOfTwo_38 : decode cX10_isOfTwo 38 = .ok (.invokevirtual 278, 3) := by decide +kernel
theorem dX10_isOfTwo_41 : decode cX10_isOfTwo 41 = .ok (.ifCond .eq 12, 3) := by decide +kernel
theorem dX10_isOfTwo_44 : decode cX10_isOfTwo 44 = .ok (.aload_n 0, 1) := by decide +kernel
theorem dX10_isOfTwo_45 : decode cX10_isOfTwo 45 = .ok (.bipush 41, 2) := by decide +kernel
theorem dX10_isOfTwo_47 : decode cX10_isOfTwo 47 = .ok (.invokevirtual 282, 3) := by decide +kernel
theorem dX10_isOfTwo_50 : decode cX10_isOfTwo 50 = .ok (.ifCond .ne 5, 3) := by decide +kernel
theorem dX10_isOfTwo_53 : decode cX10_isOfTwo 53 = .ok (.iconst 0, 1) := by decide +kernel
theorem dX10_isOfTwo_54 : decode cX10_isOfTwo 54 = .ok (.ireturn, 1) := by decide +kernel
theorem dX10_isOfTwo_55 : decode cX10_isOfTwo 55 = .ok (.aload_n 0, 1) := by decide +kernel
theorem dX10_isOfTwo_56 : decode cX10_isOfTwo 56 = .ok (.aload_n 1, 1) := by decide +kernel
theorem dX10_isOfTwo_57 : decode cX10_isOfTwo 57 = .ok (.iload_n 2, 1) := by decide +kernel
theorem dX10_isOfTwo_58 : decode cX10_isOfTwo 58 = .ok (.iconst 0, 1) := by decide +kernel
theorem dX10_isOfTwo_59 : decode cX10_isOfTwo 59 = .ok (.invokevirtual 268, 3) := by decide +kernel
theorem dX10_isOfTwo_62 : decode cX10_isOfTwo 62 = .ok (.iconst 1, 1) := by decide +kernel
theorem dX10_isOfTwo_63 : decode cX10_isOfTwo 63 = .ok (.ireturn, 1) := by decide +kernel
theorem dX10_isPart_0 : decode cX10_isPart 0 = .ok (.aload_n 1, 1) := by decide +kernel
theorem dX10_isPart_1 : decode cX10_isPart 1 = .ok (.getfield 182, 3) := by decide +kernel
theorem dX10_isPart_4 : decode cX10_isPart 4 = .ok (.iload_n 2, 1) := by decide +kernel
theorem dX10_isPart_5 : decode cX10_isPart 5 = .ok (.aload_n 1, 1) := by decide +kernel
theorem dX10_isPart_6 : decode cX10_isPart 6 = .ok (.getfield 265, 3) := by decide +kernel
theorem dX10_isPart_9 : decode cX10_isPart 9 = .ok (.iastore, 1) := by decide +kernel
theorem dX10_isPart_10 : decode cX10_isPart 10 = .ok (.iload_n 3, 1) := by decide +kernel
theorem dX10_isPart_11 : decode cX10_isPart 11 = .ok (.ifCond .eq 14, 3) := by decide +kernel
theorem dX10_isPart_14 : decode cX10_isPart 14 = .ok (.aload_n 0, 1) := by decide +kernel
theorem dX10_isPart_15 : decode cX10_isPart 15 = .ok (.aload_n 1, 1) := by decide +kernel
theorem dX10_isPart_16 : decode cX10_isPart 16 = .ok (.invokevirtual 291, 3) := by decide +kernel
theorem dX10_isPart_19 : decode cX10_isPart 19 = .ok (.ifCond .ne 16, 3) := by decide +kernel
theorem dX10_isPart_22 : decode cX10_isPart 22 = .ok (.goto 11, 3) := by decide +kernel
theorem dX10_isPart_25 : decode cX10_isPart 25 = .ok (.aload_n 0, 1) := by decide +kernel
theorem dX10_isPart_26 : decode cX10_isPart 26 = .ok (.aload_n 1, 1) := by decide +kernel
theorem dX10_isPart_27 : decode cX10_isPart 27 = .ok (.invokevirtual 278, 3) := by decide +kernel
theorem dX10_isPart_30 : decode cX10_isPart 30 = .ok (.ifCond .ne 5, 3) := by decide +kernel
theorem dX10_isPart_33 : decode cX10_isPart 33 = .ok (.iconst 0, 1) := by decide +kernel
theorem dX10_isPart_34 : decode cX10_isPart 34 = .ok (.ireturn, 1) := by decide +kernel
theorem dX10_isPart_35 : decode cX10_isPart 35 = .ok (.aload_n 1, 1) := by decide +kernel
theorem dX10_isPart_36 : decode cX10_isPart 36 = .ok (.getfield 185, 3) := by decide +kernel
theorem dX10_isPart_39 : decode cX10_isPart 39 = .ok (.iload_n 2, 1) := by decide +kernel
theorem dX10_isPart_40 : decode cX10_isPart 40 = .ok (.aload_n 1, 1) := by decide +kernel
theorem dX10_isPart_41 : decode cX10_isPart 41 = .ok (.getfield 265, 3) := by decide +kernel
theorem dX10_isPart_44 : decode cX10_isPart 44 = .ok (.iastore, 1) := by decide +kernel
theorem dX10_isPart_45 : decode cX10_isPart 45 = .ok (.iconst 1, 1) := by decide +kernel
theorem dX10_isPart_46 : decode cX10_isPart 46 = .ok (.ireturn, 1) := by decide +kernel
theorem dX10_isOrder_0 : decode cX10_isOrder 0 = .ok (.bipush 15, 2) := by decide +kernel
theorem dX10_isOrder_2 : decode cX10_isOrder 2 = .ok (.aload_n 0, 1) := by decide +kernel
theorem dX10_isOrder_3 : decode cX10_isOrder 3 = .ok (.getfield 313, 3) := by decide +kernel
theorem dX10_isOrder_6 : decode cX10_isOrder 6 = .ok (.invokestatic 179, 3) := by decide +kernel
theorem dX10_isOrder_9 : decode cX10_isOrder 9 = .ok (.istore_n 2, 1) := by decide +kernel
theorem dX10_isOrder_10 : decode cX10_isOrder 10 = .ok (.aload_n 0, 1) := by decide +kernel
theorem dX10_isOrder_11 : decode cX10_isOrder 11 = .ok (.dup, 1) := by decide +kernel
theorem dX10_isOrder_12 : decode cX10_isOrder 12 = .ok (.getfield 313, 3) := by decide +kernel
theorem dX10_isOrder_15 : decode cX10_isOrder 15 = .ok (.iconst 1, 1) := by decide +kernel
theorem dX10_isOrder_16 : decode cX10_isOrder 16 = .ok (.iadd, 1) := by decide +kernel
theorem dX10_isOrder_17 : decode cX10_isOrder 17 = .ok (.putfield 313, 3) := by decide +kernel
theorem dX10_isOrder_20 : decode cX10_isOrder 20 = .ok (.aload_n 1, 1) := by decide +kernel
theorem dX10_isOrder_21 : decode cX10_isOrder 21 = .ok (.getfield 154, 3) := by decide +kernel
theorem dX10_isOrder_24 : decode cX10_isOrder 24 = .ok (.iload_n 2, 1) := by decide +kernel
theorem dX10_isOrder_25 : decode cX10_isOrder 25 = .ok (.aload_n 0, 1) := by decide +kernel
theorem dX10_isOrder_26 : decode cX10_isOrder 26 = .ok (.getfield 24, 3) := by decide +kernel
theorem dX10_isOrder_29 : decode cX10_isOrder 29 = .ok (.aload_n 0, 1) := by decide +kernel
theorem dX10_isOrder_30 : decode cX10_isOrder 30 = .ok (.getfield 256, 3) := by decide +kernel
theorem dX10_isOrder_33 : decode cX10_isOrder 33 = .ok (.iaload, 1) := by decide +kernel
theorem dX10_isOrder_34 : decode cX10_isOrder 34 = .ok (.iastore, 1) := by decide +kernel
theorem dX10_isOrder_35 : decode cX10_isOrder 35 = .ok (.aload_n 0, 1) := by decide +kernel
theorem dX10_isOrder_36 : decode cX10_isOrder 36 = .ok (.getfield 30, 3) := by decide +kernel
theorem dX10_isOrder_39 : decode cX10_isOrder 39 = .ok (.aload_n 0, 1) := by decide +kernel
theorem dX10_isOrder_40 : decode cX10_isOrder 40 = .ok (.getfield 256, 3) := by decide +kernel
theorem dX10_isOrder_43 : decode cX10_isOrder 43 = .ok (.bipush 11, 2) := by decide +kernel
theorem dX10_isOrder_45 : decode cX10_isOrder 45 = .ok (.iastore, 1) := by decide +kernel
theorem dX10_isOrder_46 : decode cX10_isOrder 46 = .ok (.aload_n 0, 1) := by decide +kernel
theorem dX10_isOrder_47 : decode cX10_isOrder 47 = .ok (.dup, 1) := by decide +kernel
theorem dX10_isOrder_48 : decode cX10_isOrder 48 = .ok (.getfield 256, 3) := by decide +kernel
theorem dX10_isOrder_51 : decode cX10_isOrder 51 = .ok (.iconst 1, 1) := by decide +kernel
theorem dX10_isOrder_52 : decode cX10_isOrder 52 = .ok (.iadd, 1) := by decide +kernel
theorem dX10_isOrder_53 : decode cX10_isOrder 53 = .ok (.putfield 256, 3) := by decide +kernel
theorem dX10_isOrder_56 : decode cX10_isOrder 56 = .ok (.aload_n 0, 1) := by decide +kernel
theorem dX10_isOrder_57 : decode cX10_isOrder 57 = .ok (.aload_n 1, 1) := by decide +kernel
theorem dX10_isOrder_58 : decode cX10_isOrder 58 = .ok (.iconst 2, 1) := by decide +kernel
theorem dX10_isOrder_59 : decode cX10_isOrder 59 = .ok (.iload_n 2, 1) := by decide +kernel
theorem dX10_isOrder_60 : decode cX10_isOrder 60 = .ok (.imul, 1) := by decide +kernel
theorem dX10_isOrder_61 : decode cX10_isOrder 61 = .ok (.iconst 0, 1) := by decide +kernel
theorem dX10_isOrder_62 : decode cX10_isOrder 62 = .ok (.invokevirtual 316, 3) := by decide +kernel
theorem dX10_isOrder_65 : decode cX10_isOrder 65 = .ok (.ifCond .ne 5, 3) := by decide +kernel
theorem dX10_isOrder_68 : decode cX10_isOrder 68 = .ok (.iconst 0, 1) := by decide +kernel
theorem dX10_isOrder_69 : decode cX10_isOrder 69 = .ok (.ireturn, 1) := by decide +kernel
theorem dX10_isOrder_70 : decode cX10_isOrder 70 = .ok (.aload_n 1, 1) := by decide +kernel
theorem dX10_isOrder_71 : decode cX10_isOrder 71 = .ok (.getfield 182, 3) := by decide +kernel
theorem dX10_isOrder_74 : decode cX10_isOrder 74 = .ok (.iconst 2, 1) := by decide +kernel
theorem dX10_isOrder_75 : decode cX10_isOrder 75 = .ok (.iload_n 2, 1) := by decide +kernel
theorem dX10_isOrder_76 : decode cX10_isOrder 76 = .ok (.imul, 1) := by decide +kernel
theorem dX10_isOrder_77 : decode cX10_isOrder 77 = .ok (.iconst 1, 1) := by decide +kernel
theorem dX10_isOrder_78 : decode cX10_isOrder 78 = .ok (.iadd, 1) := by decide +kernel
theorem dX10_isOrder_79 : decode cX10_isOrder 79 = .ok (.aload_n 1, 1) := by decide +kernel
theorem dX10_isOrder_80 : decode cX10_isOrder 80 = .ok (.getfield 265, 3) := by decide +kernel
theorem dX10_isOrder_83 : decode cX10_isOrder 83 = .ok (.iastore, 1) := by decide +kernel
theorem dX10_isOrder_84 : decode cX10_isOrder 84 = .ok (.aload_n 1, 1) := by decide +kernel
theorem dX10_isOrder_85 : decode cX10_isOrder 85 = .ok (.getfield 185, 3) := by decide +kernel
theorem dX10_isOrder_88 : decode cX10_isOrder 88 = .ok (.iconst 2, 1) := by decide +kernel
theorem dX10_isOrder_89 : decode cX10_isOrder 89 = .ok (.iload_n 2, 1) := by decide +kernel
theorem dX10_isOrder_90 : decode cX10_isOrder 90 = .ok (.imul, 1) := by decide +kernel
theorem dX10_isOrder_91 : decode cX10_isOrder 91 = .ok (.iconst 1, 1) := by decide +kernel
theorem dX10_isOrder_92 : decode cX10_isOrder 92 = .ok (.iadd, 1) := by decide +kernel
theorem dX10_isOrder_93 : decode cX10_isOrder 93 = .ok (.aload_n 1, 1) := by decide +kernel
theorem dX10_isOrder_94 : decode cX10_isOrder 94 = .ok (.getfield 265, 3) := by decide +kernel
theorem dX10_isOrder_97 : decode cX10_isOrder 97 = .ok (.iastore, 1) := by decide +kernel
theorem dX10_isOrder_98 : decode cX10_isOrder 98 = .ok (.aload_n 0, 1) := by decide +kernel
theorem dX10_isOrder_99 : decode cX10_isOrder 99 = .ok (.bipush 14, 2) := by decide +kernel
theorem dX10_isOrder_101 : decode cX10_isOrder 101 = .ok (.invokevirtual 259, 3) := by decide +kernel
theorem dX10_isOrder_104 : decode cX10_isOrder 104 = .ok (.ifCond .eq 17, 3) := by decide +kernel
theorem dX10_isOrder_107 : decode cX10_isOrder 107 = .ok (.aload_n 0, 1) := by decide +kernel
theorem dX10_isOrder_108 : decode cX10_isOrder 108 = .ok (.aload_n 1, 1) := by decide +kernel
theorem dX10_isOrder_109 : decode cX10_isOrder 109 = .ok (.iconst 2, 1) := by decide +kernel
theorem dX10_isOrder_110 : decode cX10_isOrder 110 = .ok (.iload_n 2, 1) := by decide +kernel
theorem dX10_isOrder_111 : decode cX10_isOrder 111 = .ok (.imul, 1) := by decide +kernel
theorem dX10_isOrder_112 : decode cX10_isOrder 112 = .ok (.iconst 1, 1) := by decide +kernel
theorem dX10_isOrder_113 : decode cX10_isOrder 113 = .ok (.iadd, 1) := by decide +kernel
theorem dX10_isOrder_114 : decode cX10_isOrder 114 = .ok (.iconst 1, 1) := by decide +kernel
theorem dX10_isOrder_115 : decode cX10_isOrder 115 = .ok (.invokevirtual 316, 3) := by decide +kernel
theorem dX10_isOrder_118 : decode cX10_isOrder 118 = .ok (.ifCond .eq 7, 3) := by decide +kernel
theorem dX10_isOrder_121 : decode cX10_isOrder 121 = .ok (.iconst 1, 1) := by decide +kernel
theorem dX10_isOrder_122 : decode cX10_isOrder 122 = .ok (.goto 4, 3) := by decide +kernel
theorem dX10_isOrder_125 : decode cX10_isOrder 125 = .ok (.iconst 0, 1) := by decide +kernel
theorem dX10_isOrder_126 : decode cX10_isOrder 126 = .ok (.ireturn, 1) := by decide +kernel
theorem dX10_isPlace_0 : decode cX10_isPlace 0 = .ok (.aload_n 0, 1) := by decide +kernel
theorem dX10_isPlace_1 : decode cX10_isPlace 1 = .ok (.bipush 8, 2) := by decide +kernel
theorem dX10_isPlace_3 : decode cX10_isPlace 3 = .ok (.invokevirtual 259, 3) := by decide +kernel
theorem dX10_isPlace_6 : decode cX10_isPlace 6 = .ok (.ifCond .eq 38, 3) := by decide +kernel
theorem dX10_isPlace_9 : decode cX10_isPlace 9 = .ok (.aload_n 0, 1) := by decide +kernel
theorem dX10_isPlace_10 : decode cX10_isPlace 10 = .ok (.bipush 31, 2) := by decide +kernel
theorem dX10_isPlace_12 : decode cX10_isPlace 12 = .ok (.bipush 7, 2) := by decide +kernel
theorem dX10_isPlace_14 : decode cX10_isPlace 14 = .ok (.invokevirtual 272, 3) := by decide +kernel
theorem dX10_isPlace_17 : decode cX10_isPlace 17 = .ok (.ifCond .eq 27, 3) := by decide +kernel
theorem dX10_isPlace_20 : decode cX10_isPlace 20 = .ok (.aload_n 0, 1) := by decide +kernel
theorem dX10_isPlace_21 : decode cX10_isPlace 21 = .ok (.bipush 44, 2) := by decide +kernel
theorem dX10_isPlace_23 : decode cX10_isPlace 23 = .ok (.invokevirtual 259, 3) := by decide +kernel
theorem dX10_isPlace_26 : decode cX10_isPlace 26 = .ok (.ifCond .eq 18, 3) := by decide +kernel
theorem dX10_isPlace_29 : decode cX10_isPlace 29 = .ok (.aload_n 0, 1) := by decide +kernel
theorem dX10_isPlace_30 : decode cX10_isPlace 30 = .ok (.bipush 31, 2) := by decide +kernel
theorem dX10_isPlace_32 : decode cX10_isPlace 32 = .ok (.bipush 8, 2) := by decide +kernel
theorem dX10_isPlace_34 : decode cX10_isPlace 34 = .ok (.invokevirtual 272, 3) := by decide +kernel
theorem dX10_isPlace_37 : decode cX10_isPlace 37 = .ok (.ifCond .eq 7, 3) := by decide +kernel
theorem dX10_isPlace_40 : decode cX10_isPlace 40 = .ok (.iconst 1, 1) := by decide +kernel
theorem dX10_isPlace_41 : decode cX10_isPlace 41 = .ok (.goto 4, 3) := by decide +kernel
theorem dX10_isPlace_44 : decode cX10_isPlace 44 = .ok (.iconst 0, 1) := by decide +kernel
theorem dX10_isPlace_45 : decode cX10_isPlace 45 = .ok (.ireturn, 1) := by decide +kernel
theorem dX10_isLine_0 : decode cX10_isLine 0 = .ok (.aload_n 0, 1) := by decide +kernel
theorem dX10_isLine_1 : decode cX10_isLine 1 = .ok (.getfield 24, 3) := by decide +kernel
theorem dX10_isLine_4 : decode cX10_isLine 4 = .ok (.aload_n 0, 1) := by decide +kernel
theorem dX10_isLine_5 : decode cX10_isLine 5 = .ok (.getfield 256, 3) := by decide +kernel
theorem dX10_isLine_8 : decode cX10_isLine 8 = .ok (.iaload, 1) := by decide +kernel
theorem dX10_isLine_9 : decode cX10_isLine 9 = .ok (.istore_n 2, 1) := by decide +kernel
theorem dX10_isLine_10 : decode cX10_isLine 10 = .ok (.iload_n 2, 1) := by decide +kernel
theorem dX10_isLine_11 : decode cX10_isLine 11 = .ok (.bipush 11, 2) := by decide +kernel
theorem dX10_isLine_13 : decode cX10_isLine 13 = .ok (.if_icmp .eq 15, 3) := by decide +kernel
theorem dX10_isLine_16 : decode cX10_isLine 16 = .ok (.iload_n 2, 1) := by decide +kernel
theorem dX10_isLine_17 : decode cX10_isLine 17 = .ok (.bipush 12, 2) := by decide +kernel
theorem dX10_isLine_19 : decode cX10_isLine 19 = .ok (.if_icmp .eq 9, 3) := by decide +kernel
theorem dX10_isLine_22 : decode cX10_isLine 22 = .ok (.iload_n 2, 1) := by decide +kernel
theorem dX10_isLine_23 : decode cX10_isLine 23 = .ok (.bipush 13, 2) := by decide +kernel
theorem dX10_isLine_25 : decode cX10_isLine 25 = .ok (.if_icmp .ne 9, 3) := by decide +kernel
theorem dX10_isLine_28 : decode cX10_isLine 28 = .ok (.aload_n 0, 1) := by decide +kernel
theorem dX10_isLine_29 : decode cX10_isLine 29 = .ok (.aload_n 1, 1) := by decide +kernel
theorem dX10_isLine_30 : decode cX10_isLine 30 = .ok (.invokevirtual 320, 3) := by decide +kernel
theorem dX10_isLine_33 : decode cX10_isLine 33 = .ok (.ireturn, 1) := by decide +kernel
theorem dX10_isLine_34 : decode cX10_isLine 34 = .ok (.iload_n 2, 1) := by decide +kernel
theorem dX10_isLine_35 : decode cX10_isLine 35 = .ok (.iconst 2, 1) := by decide +kernel
theorem dX10_isLine_36 : decode cX10_isLine 36 = .ok (.if_icmp .ne 63, 3) := by decide +kernel
theorem dX10_isLine_39 : decode cX10_isLine 39 = .ok (.aload_n 0, 1) := by decide +kernel
theorem dX10_isLine_40 : decode cX10_isLine 40 = .ok (.iconst 2, 1) := by decide +kernel
theorem dX10_isLine_41 : decode cX10_isLine 41 = .ok (.invokevirtual 259, 3) := by decide +kernel
theorem dX10_isLine_44 : decode cX10_isLine 44 = .ok (.ifCond .eq 53, 3) := by decide +kernel
theorem dX10_isLine_47 : decode cX10_isLine 47 = .ok (.aload_n 0, 1) := by decide +kernel
theorem dX10_isLine_48 : decode cX10_isLine 48 = .ok (.bipush 30, 2) := by decide +kernel
theorem dX10_isLine_50 : decode cX10_isLine 50 = .ok (.iconst 3, 1) := by decide +kernel
theorem dX10_isLine_51 : decode cX10_isLine 51 = .ok (.invokevirtual 272, 3) := by decide +kernel
theorem dX10_isLine_54 : decode cX10_isLine 54 = .ok (.ifCond .eq 43, 3) := by decide +kernel
theorem dX10_isLine_57 : decode cX10_isLine 57 = .ok (.aload_n 0, 1) := by decide +kernel
theorem dX10_isLine_58 : decode cX10_isLine 58 = .ok (.iconst 3, 1) := by decide +kernel
theorem dX10_isLine_59 : decode cX10_isLine 59 = .ok (.invokevirtual 259, 3) := by decide +kernel
theorem dX10_isLine_62 : decode cX10_isLine 62 = .ok (.ifCond .eq 35, 3) := by decide +kernel
theorem dX10_isLine_65 : decode cX10_isLine 65 = .ok (.aload_n 0, 1) := by decide +kernel
theorem dX10_isLine_66 : decode cX10_isLine 66 = .ok (.bipush 31, 2) := by decide +kernel
theorem dX10_isLine_68 : decode cX10_isLine 68 = .ok (.iconst 4, 1) := by decide +kernel
theorem dX10_isLine_69 : decode cX10_isLine 69 = .ok (.invokevirtual 272, 3) := by decide +kernel
theorem dX10_isLine_72 : decode cX10_isLine 72 = .ok (.ifCond .eq 25, 3) := by decide +kernel
theorem dX10_isLine_75 : decode cX10_isLine 75 = .ok (.aload_n 0, 1) := by decide +kernel
theorem dX10_isLine_76 : decode cX10_isLine 76 = .ok (.iconst 4, 1) := by decide +kernel
theorem dX10_isLine_77 : decode cX10_isLine 77 = .ok (.invokevirtual 259, 3) := by decide +kernel
theorem dX10_isLine_80 : decode cX10_isLine 80 = .ok (.ifCond .eq 17, 3) := by decide +kernel
theorem dX10_isLine_83 : decode cX10_isLine 83 = .ok (.aload_n 0, 1) := by decide +kernel
theorem dX10_isLine_84 : decode cX10_isLine 84 = .ok (.bipush 31, 2) := by decide +kernel
theorem dX10_isLine_86 : decode cX10_isLine 86 = .ok (.iconst 5, 1) := by decide +kernel
theorem dX10_isLine_87 : decode cX10_isLine 87 = .ok (.invokevirtual 272, 3) := by decide +kernel
theorem dX10_isLine_90 : decode cX10_isLine 90 = .ok (.ifCond .eq 7, 3) := by decide +kernel
theorem dX10_isLine_93 : decode cX10_isLine 93 = .ok (.iconst 1, 1) := by decide +kernel
theorem dX10_isLine_94 : decode cX10_isLine 94 = .ok (.goto 4, 3) := by decide +kernel
theorem dX10_isLine_97 : decode cX10_isLine 97 = .ok (.iconst 0, 1) := by decide +kernel
theorem dX10_isLine_98 : decode cX10_isLine 98 = .ok (.ireturn, 1) := by decide +kernel
theorem dX10_isLine_99 : decode cX10_isLine 99 = .ok (.iload_n 2, 1) := by decide +kernel
theorem dX10_isLine_100 : decode cX10_isLine 100 = .ok (.bipush 7, 2) := by decide +kernel
theorem dX10_isLine_102 : decode cX10_isLine 102 = .ok (.if_icmp .ne 26, 3) := by decide +kernel
theorem dX10_isLine_105 : decode cX10_isLine 105 = .ok (.aload_n 0, 1) := by decide +kernel
theorem dX10_isLine_106 : decode cX10_isLine 106 = .ok (.bipush 7, 2) := by decide +kernel
theorem dX10_isLine_108 : decode cX10_isLine 108 = .ok (.iconst 0, 1) := by decide +kernel
theorem dX10_isLine_109 : decode cX10_isLine 109 = .ok (.invokevirtual 272, 3) := by decide +kernel
theorem dX10_isLine_112 : decode cX10_isLine 112 = .ok (.ifCond .eq 14, 3) := by decide +kernel
theorem dX10_isLine_115 : decode cX10_isLine 115 = .ok (.aload_n 0, 1) := by decide +kernel
theorem dX10_isLine_116 : decode cX10_isLine 116 = .ok (.invokevirtual 323, 3) := by decide +kernel
theorem dX10_isLine_119 : decode cX10_isLine 119 = .ok (.ifCond .eq 7, 3) := by decide +kernel
theorem dX10_isLine_122 : decode cX10_isLine 122 = .ok (.iconst 1, 1) := by decide +kernel
theorem dX10_isLine_123 : decode cX10_isLine 123 = .ok (.goto 4, 3) := by decide +kernel
theorem dX10_isLine_126 : decode cX10_isLine 126 = .ok (.iconst 0, 1) := by decide +kernel
theorem dX10_isLine_127 : decode cX10_isLine 127 = .ok (.ireturn, 1) := by decide +kernel
theorem dX10_isLine_128 : decode cX10_isLine 128 = .ok (.iload_n 2, 1) := by decide +kernel
theorem dX10_isLine_129 : decode cX10_isLine 129 = .ok (.iconst 5, 1) := by decide +kernel
theorem dX10_isLine_130 : decode cX10_isLine 130 = .ok (.if_icmp .ne 46, 3) := by decide +kernel
theorem dX10_isLine_133 : decode cX10_isLine 133 = .ok (.aload_n 0, 1) := by decide +kernel
theorem dX10_isLine_134 : decode cX10_isLine 134 = .ok (.iconst 5, 1) := by decide +kernel
theorem dX10_isLine_135 : decode cX10_isLine 135 = .ok (.bipush 6, 2) := by decide +kernel
theorem dX10_isLine_137 : decode cX10_isLine 137 = .ok (.invokevirtual 272, 3) := by decide +kernel
theorem dX10_isLine_140 : decode cX10_isLine 140 = .ok (.ifCond .eq 34, 3) := by decide +kernel
theorem dX10_isLine_143 : decode cX10_isLine 143 = .ok (.aload_n 0, 1) := by decide +kernel
theorem dX10_isLine_144 : decode cX10_isLine 144 = .ok (.invokevirtual 323, 3) := by decide +kernel
theorem dX10_isLine_147 : decode cX10_isLine 147 = .ok (.ifCond .eq 27, 3) := by decide +kernel
theorem dX10_isLine_150 : decode cX10_isLine 150 = .ok (.aload_n 0, 1) := by decide +kernel
theorem dX10_isLine_151 : decode cX10_isLine 151 = .ok (.bipush 9, 2) := by decide +kernel
theorem dX10_isLine_153 : decode cX10_isLine 153 = .ok (.invokevirtual 259, 3) := by decide +kernel
theorem dX10_isLine_156 : decode cX10_isLine 156 = .ok (.ifCond .eq 18, 3) := by decide +kernel
theorem dX10_isLine_159 : decode cX10_isLine 159 = .ok (.aload_n 0, 1) := by decide +kernel
theorem dX10_isLine_160 : decode cX10_isLine 160 = .ok (.bipush 31, 2) := by decide +kernel
theorem dX10_isLine_162 : decode cX10_isLine 162 = .ok (.bipush 9, 2) := by decide +kernel
theorem dX10_isLine_164 : decode cX10_isLine 164 = .ok (.invokevirtual 272, 3) := by decide +kernel
theorem dX10_isLine_167 : decode cX10_isLine 167 = .ok (.ifCond .eq 7, 3) := by decide +kernel
theorem dX10_isLine_170 : decode cX10_isLine 170 = .ok (.iconst 1, 1) := by decide +kernel
theorem dX10_isLine_171 : decode cX10_isLine 171 = .ok (.goto 4, 3) := by decide +kernel
theorem dX10_isLine_174 : decode cX10_isLine 174 = .ok (.iconst 0, 1) := by decide +kernel
theorem dX10_isLine_175 : decode cX10_isLine 175 = .ok (.ireturn, 1) := by decide +kernel
theorem dX10_isLine_176 : decode cX10_isLine 176 = .ok (.iload_n 2, 1) := by decide +kernel
theorem dX10_isLine_177 : decode cX10_isLine 177 = .ok (.bipush 6, 2) := by decide +kernel
theorem dX10_isLine_179 : decode cX10_isLine 179 = .ok (.if_icmp .ne 45, 3) := by decide +kernel
theorem dX10_isLine_182 : decode cX10_isLine 182 = .ok (.aload_n 0, 1) := by decide +kernel
theorem dX10_isLine_183 : decode cX10_isLine 183 = .ok (.bipush 6, 2) := by decide +kernel
theorem dX10_isLine_185 : decode cX10_isLine 185 = .ok (.bipush 6, 2) := by decide +kernel
theorem dX10_isLine_187 : decode cX10_isLine 187 = .ok (.invokevirtual 272, 3) := by decide +kernel
theorem dX10_isLine_190 : decode cX10_isLine 190 = .ok (.ifCond .eq 34, 3) := by decide +kernel
theorem dX10_isLine_193 : decode cX10_isLine 193 = .ok (.aload_n 0, 1) := by decide +kernel
theorem dX10_isLine_194 : decode cX10_isLine 194 = .ok (.invokevirtual 323, 3) := by decide +kernel
theorem dX10_isLine_197 : decode cX10_isLine 197 = .ok (.ifCond .eq 27, 3) := by decide +kernel
theorem dX10_isLine_200 : decode cX10_isLine 200 = .ok (.aload_n 0, 1) := by decide +kernel
theorem dX10_isLine_201 : decode cX10_isLine 201 = .ok (.bipush 10, 2) := by decide +kernel
theorem dX10_isLine_203 : decode cX10_isLine 203 = .ok (.invokevirtual 259, 3) := by decide +kernel
theorem dX10_isLine_206 : decode cX10_isLine 206 = .ok (.ifCond .eq 18, 3) := by decide +kernel
theorem dX10_isLine_209 : decode cX10_isLine 209 = .ok (.aload_n 0, 1) := by decide +kernel
theorem dX10_isLine_210 : decode cX10_isLine 210 = .ok (.bipush 30, 2) := by decide +kernel
theorem dX10_isLine_212 : decode cX10_isLine 212 = .ok (.bipush 10, 2) := by decide +kernel
theorem dX10_isLine_214 : decode cX10_isLine 214 = .ok (.invokevirtual 272, 3) := by decide +kernel
theorem dX10_isLine_217 : decode cX10_isLine 217 = .ok (.ifCond .eq 7, 3) := by decide +kernel
theorem dX10_isLine_220 : decode cX10_isLine 220 = .ok (.iconst 1, 1) := by decide +kernel
theorem dX10_isLine_221 : decode cX10_isLine 221 = .ok (.goto 4, 3) := by decide +kernel
theorem dX10_isLine_224 : decode cX10_isLine 224 = .ok (.iconst 0, 1) := by decide +kernel
theorem dX10_isLine_225 : decode cX10_isLine 225 = .ok (.ireturn, 1) := by decide +kernel
theorem dX10_isBook_0 : decode cX10_isBook 0 = .ok (.aload_n 0, 1) := by decide +kernel
theorem dX10_isBook_1 : decode cX10_isBook 1 = .ok (.iconst 0, 1) := by decide +kernel
theorem dX10_isBook_2 : decode cX10_isBook 2 = .ok (.invokevirtual 259, 3) := by decide +kernel
theorem dX10_isBook_5 : decode cX10_isBook 5 = .ok (.ifCond .eq 42, 3) := by decide +kernel
theorem dX10_isBook_8 : decode cX10_isBook 8 = .ok (.aload_n 0, 1) := by decide +kernel
theorem dX10_isBook_9 : decode cX10_isBook 9 = .ok (.bipush 31, 2) := by decide +kernel
theorem dX10_isBook_11 : decode cX10_isBook 11 = .ok (.iconst 1, 1) := by decide +kernel
theorem dX10_isBook_12 : decode cX10_isBook 12 = .ok (.invokevirtual 272, 3) := by decide +kernel
theorem dX10_isBook_15 : decode cX10_isBook 15 = .ok (.ifCond .eq 30, 3) := by decide +kernel
theorem dX10_isBook_18 : decode cX10_isBook 18 = .ok (.aload_n 0, 1) := by decide +kernel
theorem dX10_isBook_19 : decode cX10_isBook 19 = .ok (.iconst 1, 1) := by decide +kernel
theorem dX10_isBook_20 : decode cX10_isBook 20 = .ok (.invokevirtual 259, 3) := by decide +kernel
theorem dX10_isBook_23 : decode cX10_isBook 23 = .ok (.ifCond .eq 22, 3) := by decide +kernel
theorem dX10_isBook_26 : decode cX10_isBook 26 = .ok (.aload_n 0, 1) := by decide +kernel
theorem dX10_isBook_27 : decode cX10_isBook 27 = .ok (.bipush 31, 2) := by decide +kernel
theorem dX10_isBook_29 : decode cX10_isBook 29 = .ok (.iconst 2, 1) := by decide +kernel
theorem dX10_isBook_30 : decode cX10_isBook 30 = .ok (.invokevirtual 272, 3) := by decide +kernel
theorem dX10_isBook_33 : decode cX10_isBook 33 = .ok (.ifCond .eq 12, 3) := by decide +kernel
theorem dX10_isBook_36 : decode cX10_isBook 36 = .ok (.aload_n 0, 1) := by decide +kernel
theorem dX10_isBook_37 : decode cX10_isBook 37 = .ok (.bipush 59, 2) := by decide +kernel
theorem dX10_isBook_39 : decode cX10_isBook 39 = .ok (.invokevirtual 259, 3) := by decide +kernel
theorem dX10_isBook_42 : decode cX10_isBook 42 = .ok (.ifCond .ne 5, 3) := by decide +kernel
theorem dX10_isBook_45 : decode cX10_isBook 45 = .ok (.iconst 0, 1) := by decide +kernel
theorem dX10_isBook_46 : decode cX10_isBook 46 = .ok (.ireturn, 1) := by decide +kernel
theorem dX10_isBook_47 : decode cX10_isBook 47 = .ok (.aload_n 0, 1) := by decide +kernel
theorem dX10_isBook_48 : decode cX10_isBook 48 = .ok (.getfield 24, 3) := by decide +kernel
theorem dX10_isBook_51 : decode cX10_isBook 51 = .ok (.aload_n 0, 1) := by decide +kernel
theorem dX10_isBook_52 : decode cX10_isBook 52 = .ok (.getfield 256, 3) := by decide +kernel
theorem dX10_isBook_55 : decode cX10_isBook 55 = .ok (.iaload, 1) := by decide +kernel
theorem dX10_isBook_56 : decode cX10_isBook 56 = .ok (.bipush 33, 2) := by decide +kernel
theorem dX10_isBook_58 : decode cX10_isBook 58 = .ok (.if_icmp .eq 22, 3) := by decide +kernel
theorem dX10_isBook_61 : decode cX10_isBook 61 = .ok (.aload_n 0, 1) := by decide +kernel
theorem dX10_isBook_62 : decode cX10_isBook 62 = .ok (.aload_n 1, 1) := by decide +kernel
theorem dX10_isBook_63 : decode cX10_isBook 63 = .ok (.invokevirtual 326, 3) := by decide +kernel
theorem dX10_isBook_66 : decode cX10_isBook 66 = .ok (.ifCond .eq 12, 3) := by decide +kernel
theorem dX10_isBook_69 : decode cX10_isBook 69 = .ok (.aload_n 0, 1) := by decide +kernel
theorem dX10_isBook_70 : decode cX10_isBook 70 = .ok (.bipush 59, 2) := by decide +kernel
theorem dX10_isBook_72 : decode cX10_isBook 72 = .ok (.invokevirtual 259, 3) := by decide +kernel
theorem dX10_isBook_75 : decode cX10_isBook 75 = .ok (.ifCond .ne (-28), 3) := by decide +kernel
theorem dX10_isBook_78 : decode cX10_isBook 78 = .ok (.iconst 0, 1) := by decide +kernel
theorem dX10_isBook_79 : decode cX10_isBook 79 = .ok (.ireturn, 1) := by decide +kernel
theorem dX10_isBook_80 : decode cX10_isBook 80 = .ok (.iconst 1, 1) := by decide +kernel
theorem dX10_isBook_81 : decode cX10_isBook 81 = .ok (.ireturn, 1) := by decide +kernel
theorem dX10_find_0 : decode cX10_find 0 = .ok (.iconst 0, 1) := by decide +kernel
theorem dX10_find_1 : decode cX10_find 1 = .ok (.istore_n 3, 1) := by decide +kernel
theorem dX10_find_2 : decode cX10_find 2 = .ok (.iload_n 3, 1) := by decide +kernel
theorem dX10_find_3 : decode cX10_find 3 = .ok (.aload_n 0, 1) := by decide +kernel
theorem dX10_find_4 : decode cX10_find 4 = .ok (.getfield 137, 3) := by decide +kernel
theorem dX10_find_7 : decode cX10_find 7 = .ok (.if_icmp .ge 22, 3) := by decide +kernel
theorem dX10_find_10 : decode cX10_find 10 = .ok (.aload_n 0, 1) := by decide +kernel
theorem dX10_find_11 : decode cX10_find 11 = .ok (.getfield 329, 3) := by decide +kernel
theorem dX10_find_14 : decode cX10_find 14 = .ok (.iload_n 3, 1) := by decide +kernel
theorem dX10_find_15 : decode cX10_find 15 = .ok (.laload, 1) := by decide +kernel
theorem dX10_find_16 : decode cX10_find 16 = .ok (.lload_n 1, 1) := by decide +kernel
theorem dX10_find_17 : decode cX10_find 17 = .ok (.lcmp, 1) := by decide +kernel
theorem dX10_find_18 : decode cX10_find 18 = .ok (.ifCond .ne 5, 3) := by decide +kernel
theorem dX10_find_21 : decode cX10_find 21 = .ok (.iload_n 3, 1) := by decide +kernel
theorem dX10_find_22 : decode cX10_find 22 = .ok (.ireturn, 1) := by decide +kernel
theorem dX10_find_23 : decode cX10_find 23 = .ok (.iinc 3 1, 3) := by decide +kernel
theorem dX10_find_26 : decode cX10_find 26 = .ok (.goto (-24), 3) := by decide +kernel
theorem dX10_find_29 : decode cX10_find 29 = .ok (.iconst (-1), 1) := by decide +kernel
theorem dX10_find_30 : decode cX10_find 30 = .ok (.ireturn, 1) := by decide +kernel
theorem dX10_newEmpire_0 : decode cX10_newEmpire 0 = .ok (.aload_n 1, 1) := by decide +kernel
theorem dX10_newEmpire_1 : decode cX10_newEmpire 1 = .ok (.lload_n 2, 1) := by decide +kernel
theorem dX10_newEmpire_2 : decode cX10_newEmpire 2 = .ok (.invokestatic 332, 3) := by decide +kernel
theorem dX10_newEmpire_5 : decode cX10_newEmpire 5 = .ok (.iconst (-1), 1) := by decide +kernel
theorem dX10_newEmpire_6 : decode cX10_newEmpire 6 = .ok (.if_icmp .eq 5, 3) := by decide +kernel
theorem dX10_newEmpire_9 : decode cX10_newEmpire 9 = .ok (.iconst 2, 1) := by decide +kernel
theorem dX10_newEmpire_10 : decode cX10_newEmpire 10 = .ok (.ireturn, 1) := by decide +kernel
theorem dX10_newEmpire_11 : decode cX10_newEmpire 11 = .ok (.aload_n 1, 1) := by decide +kernel
theorem dX10_newEmpire_12 : decode cX10_newEmpire 12 = .ok (.getfield 137, 3) := by decide +kernel
theorem dX10_newEmpire_15 : decode cX10_newEmpire 15 = .ok (.bipush 6, 2) := by decide +kernel
theorem dX10_newEmpire_17 : decode cX10_newEmpire 17 = .ok (.if_icmp .ne 5, 3) := by decide +kernel
theorem dX10_newEmpire_20 : decode cX10_newEmpire 20 = .ok (.iconst 4, 1) := by decide +kernel
theorem dX10_newEmpire_21 : decode cX10_newEmpire 21 = .ok (.ireturn, 1) := by decide +kernel
theorem dX10_newEmpire_22 : decode cX10_newEmpire 22 = .ok (.aload_n 1, 1) := by decide +kernel
theorem dX10_newEmpire_23 : decode cX10_newEmpire 23 = .ok (.getfield 329, 3) := by decide +kernel
theorem dX10_newEmpire_26 : decode cX10_newEmpire 26 = .ok (.aload_n 1, 1) := by decide +kernel
theorem dX10_newEmpire_27 : decode cX10_newEmpire 27 = .ok (.getfield 137, 3) := by decide +kernel
theorem dX10_newEmpire_30 : decode cX10_newEmpire 30 = .ok (.lload_n 2, 1) := by decide +kernel
theorem dX10_newEmpire_31 : decode cX10_newEmpire 31 = .ok (.lastore, 1) := by decide +kernel
theorem dX10_newEmpire_32 : decode cX10_newEmpire 32 = .ok (.aload_n 1, 1) := by decide +kernel
theorem dX10_newEmpire_33 : decode cX10_newEmpire 33 = .ok (.dup, 1) := by decide +kernel
theorem dX10_newEmpire_34 : decode cX10_newEmpire 34 = .ok (.getfield 137, 3) := by decide +kernel
theorem dX10_newEmpire_37 : decode cX10_newEmpire 37 = .ok (.iconst 1, 1) := by decide +kernel
theorem dX10_newEmpire_38 : decode cX10_newEmpire 38 = .ok (.iadd, 1) := by decide +kernel
theorem dX10_newEmpire_39 : decode cX10_newEmpire 39 = .ok (.putfield 137, 3) := by decide +kernel
theorem dX10_newEmpire_42 : decode cX10_newEmpire 42 = .ok (.iconst 0, 1) := by decide +kernel
theorem dX10_newEmpire_43 : decode cX10_newEmpire 43 = .ok (.ireturn, 1) := by decide +kernel
theorem dX10_itsYears_0 : decode cX10_itsYears 0 = .ok (.aload_n 1, 1) := by decide +kernel
theorem dX10_itsYears_1 : decode cX10_itsYears 1 = .ok (.getfield 137, 3) := by decide +kernel
theorem dX10_itsYears_4 : decode cX10_itsYears 4 = .ok (.iconst 1, 1) := by decide +kernel
theorem dX10_itsYears_5 : decode cX10_itsYears 5 = .ok (.isub, 1) := by decide +kernel
theorem dX10_itsYears_6 : decode cX10_itsYears 6 = .ok (.istore 5, 2) := by decide +kernel
theorem dX10_itsYears_8 : decode cX10_itsYears 8 = .ok (.lload_n 2, 1) := by decide +kernel
theorem dX10_itsYears_9 : decode cX10_itsYears 9 = .ok (.ldc2_w 335, 3) := by decide +kernel
theorem dX10_itsYears_12 : decode cX10_itsYears 12 = .ok (.lcmp, 1) := by decide +kernel
theorem dX10_itsYears_13 : decode cX10_itsYears 13 = .ok (.ifCond .gt 21, 3) := by decide +kernel
theorem dX10_itsYears_16 : decode cX10_itsYears 16 = .ok (.iload 4, 2) := by decide +kernel
theorem dX10_itsYears_18 : decode cX10_itsYears 18 = .ok (.ifCond .ne 18, 3) := by decide +kernel
theorem dX10_itsYears_21 : decode cX10_itsYears 21 = .ok (.lload_n 2, 1) := by decide +kernel
theorem dX10_itsYears_22 : decode cX10_itsYears 22 = .ok (.aload_n 1, 1) := by decide +kernel
theorem dX10_itsYears_23 : decode cX10_itsYears 23 = .ok (.getfield 125, 3) := by decide +kernel
theorem dX10_itsYears_26 : decode cX10_itsYears 26 = .ok (.iload 5, 2) := by decide +kernel
theorem dX10_itsYears_28 : decode cX10_itsYears 28 = .ok (.iaload, 1) := by decide +kernel
theorem dX10_itsYears_29 : decode cX10_itsYears 29 = .ok (.i2l, 1) := by decide +kernel
theorem dX10_itsYears_30 : decode cX10_itsYears 30 = .ok (.lcmp, 1) := by decide +kernel
theorem dX10_itsYears_31 : decode cX10_itsYears 31 = .ok (.ifCond .ge 5, 3) := by decide +kernel
theorem dX10_itsYears_34 : decode cX10_itsYears 34 = .ok (.iconst 5, 1) := by decide +kernel
theorem dX10_itsYears_35 : decode cX10_itsYears 35 = .ok (.ireturn, 1) := by decide +kernel
theorem dX10_itsYears_36 : decode cX10_itsYears 36 = .ok (.iload 4, 2) := by decide +kernel
theorem dX10_itsYears_38 : decode cX10_itsYears 38 = .ok (.ifCond .eq 15, 3) := by decide +kernel
theorem dX10_itsYears_41 : decode cX10_itsYears 41 = .ok (.aload_n 1, 1) := by decide +kernel
theorem dX10_itsYears_42 : decode cX10_itsYears 42 = .ok (.getfield 125, 3) := by decide +kernel
theorem dX10_itsYears_45 : decode cX10_itsYears 45 = .ok (.iload 5, 2) := by decide +kernel
theorem dX10_itsYears_47 : decode cX10_itsYears 47 = .ok (.lload_n 2, 1) := by decide +kernel
theorem dX10_itsYears_48 : decode cX10_itsYears 48 = .ok (.l2i, 1) := by decide +kernel
theorem dX10_itsYears_49 : decode cX10_itsYears 49 = .ok (.iastore, 1) := by decide +kernel
theorem dX10_itsYears_50 : decode cX10_itsYears 50 = .ok (.goto 12, 3) := by decide +kernel
theorem dX10_itsYears_53 : decode cX10_itsYears 53 = .ok (.aload_n 1, 1) := by decide +kernel
theorem dX10_itsYears_54 : decode cX10_itsYears 54 = .ok (.getfield 140, 3) := by decide +kernel
theorem dX10_itsYears_57 : decode cX10_itsYears 57 = .ok (.iload 5, 2) := by decide +kernel
theorem dX10_itsYears_59 : decode cX10_itsYears 59 = .ok (.lload_n 2, 1) := by decide +kernel
theorem dX10_itsYears_60 : decode cX10_itsYears 60 = .ok (.l2i, 1) := by decide +kernel
theorem dX10_itsYears_61 : decode cX10_itsYears 61 = .ok (.iastore, 1) := by decide +kernel
theorem dX10_itsYears_62 : decode cX10_itsYears 62 = .ok (.iconst 0, 1) := by decide +kernel
theorem dX10_itsYears_63 : decode cX10_itsYears 63 = .ok (.ireturn, 1) := by decide +kernel
theorem dX10_newFind_0 : decode cX10_newFind 0 = .ok (.aload_n 0, 1) := by decide +kernel
theorem dX10_newFind_1 : decode cX10_newFind 1 = .ok (.iconst 0, 1) := by decide +kernel
theorem dX10_newFind_2 : decode cX10_newFind 2 = .ok (.putfield 337, 3) := by decide +kernel
theorem dX10_newFind_5 : decode cX10_newFind 5 = .ok (.aload_n 1, 1) := by decide +kernel
theorem dX10_newFind_6 : decode cX10_newFind 6 = .ok (.getfield 65, 3) := by decide +kernel
theorem dX10_newFind_9 : decode cX10_newFind 9 = .ok (.bipush 24, 2) := by decide +kernel
theorem dX10_newFind_11 : decode cX10_newFind 11 = .ok (.if_icmp .ne 5, 3) := by decide +kernel
theorem dX10_newFind_14 : decode cX10_newFind 14 = .ok (.iconst 4, 1) := by decide +kernel
theorem dX10_newFind_15 : decode cX10_newFind 15 = .ok (.ireturn, 1) := by decide +kernel
theorem dX10_newFind_16 : decode cX10_newFind 16 = .ok (.aload_n 1, 1) := by decide +kernel
theorem dX10_newFind_17 : decode cX10_newFind 17 = .ok (.getfield 119, 3) := by decide +kernel
theorem dX10_newFind_20 : decode cX10_newFind 20 = .ok (.aload_n 1, 1) := by decide +kernel
theorem dX10_newFind_21 : decode cX10_newFind 21 = .ok (.getfield 65, 3) := by decide +kernel
theorem dX10_newFind_24 : decode cX10_newFind 24 = .ok (.iload_n 2, 1) := by decide +kernel
theorem dX10_newFind_25 : decode cX10_newFind 25 = .ok (.bastore, 1) := by decide +kernel
theorem dX10_newFind_26 : decode cX10_newFind 26 = .ok (.aload_n 1, 1) := by decide +kernel
theorem dX10_newFind_27 : decode cX10_newFind 27 = .ok (.dup, 1) := by decide +kernel
theorem dX10_newFind_28 : decode cX10_newFind 28 = .ok (.getfield 65, 3) := by decide +kernel
theorem dX10_newFind_31 : decode cX10_newFind 31 = .ok (.iconst 1, 1) := by decide +kernel
theorem dX10_newFind_32 : decode cX10_newFind 32 = .ok (.iadd, 1) := by decide +kernel
theorem dX10_newFind_33 : decode cX10_newFind 33 = .ok (.putfield 65, 3) := by decide +kernel
theorem dX10_newFind_36 : decode cX10_newFind 36 = .ok (.iconst 0, 1) := by decide +kernel
theorem dX10_newFind_37 : decode cX10_newFind 37 = .ok (.ireturn, 1) := by decide +kernel
theorem dX10_itsSeat_0 : decode cX10_itsSeat 0 = .ok (.aload_n 0, 1) := by decide +kernel
theorem dX10_itsSeat_1 : decode cX10_itsSeat 1 = .ok (.getfield 24, 3) := by decide +kernel
theorem dX10_itsSeat_4 : decode cX10_itsSeat 4 = .ok (.iload_n 2, 1) := by decide +kernel
theorem dX10_itsSeat_5 : decode cX10_itsSeat 5 = .ok (.iconst 2, 1) := by decide +kernel
theorem dX10_itsSeat_6 : decode cX10_itsSeat 6 = .ok (.isub, 1) := by decide +kernel
theorem dX10_itsSeat_7 : decode cX10_itsSeat 7 = .ok (.iaload, 1) := by decide +kernel
theorem dX10_itsSeat_8 : decode cX10_itsSeat 8 = .ok (.bipush 7, 2) := by decide +kernel
theorem dX10_itsSeat_10 : decode cX10_itsSeat 10 = .ok (.if_icmp .ne 8, 3) := by decide +kernel
theorem dX10_itsSeat_13 : decode cX10_itsSeat 13 = .ok (.aload_n 0, 1) := by decide +kernel
theorem dX10_itsSeat_14 : decode cX10_itsSeat 14 = .ok (.iconst 1, 1) := by decide +kernel
theorem dX10_itsSeat_15 : decode cX10_itsSeat 15 = .ok (.putfield 337, 3) := by decide +kernel
theorem dX10_itsSeat_18 : decode cX10_itsSeat 18 = .ok (.aload_n 0, 1) := by decide +kernel
theorem dX10_itsSeat_19 : decode cX10_itsSeat 19 = .ok (.getfield 33, 3) := by decide +kernel
theorem dX10_itsSeat_22 : decode cX10_itsSeat 22 = .ok (.iload_n 2, 1) := by decide +kernel
theorem dX10_itsSeat_23 : decode cX10_itsSeat 23 = .ok (.laload, 1) := by decide +kernel
theorem dX10_itsSeat_24 : decode cX10_itsSeat 24 = .ok (.aload_n 1, 1) := by decide +kernel
theorem dX10_itsSeat_25 : decode cX10_itsSeat 25 = .ok (.getfield 52, 3) := by decide +kernel
theorem dX10_itsSeat_28 : decode cX10_itsSeat 28 = .ok (.i2l, 1) := by decide +kernel
theorem dX10_itsSeat_29 : decode cX10_itsSeat 29 = .ok (.lcmp, 1) := by decide +kernel
theorem dX10_itsSeat_30 : decode cX10_itsSeat 30 = .ok (.ifCond .lt 5, 3) := by decide +kernel
theorem dX10_itsSeat_33 : decode cX10_itsSeat 33 = .ok (.iconst 5, 1) := by decide +kernel
theorem dX10_itsSeat_34 : decode cX10_itsSeat 34 = .ok (.ireturn, 1) := by decide +kernel
theorem dX10_itsSeat_35 : decode cX10_itsSeat 35 = .ok (.aload_n 0, 1) := by decide +kernel
theorem dX10_itsSeat_36 : decode cX10_itsSeat 36 = .ok (.aload_n 0, 1) := by decide +kernel
theorem dX10_itsSeat_37 : decode cX10_itsSeat 37 = .ok (.getfield 33, 3) := by decide +kernel
theorem dX10_itsSeat_40 : decode cX10_itsSeat 40 = .ok (.iload_n 2, 1) := by decide +kernel
theorem dX10_itsSeat_41 : decode cX10_itsSeat 41 = .ok (.laload, 1) := by decide +kernel
theorem dX10_itsSeat_42 : decode cX10_itsSeat 42 = .ok (.l2i, 1) := by decide +kernel
theorem dX10_itsSeat_43 : decode cX10_itsSeat 43 = .ok (.putfield 341, 3) := by decide +kernel
theorem dX10_itsSeat_46 : decode cX10_itsSeat 46 = .ok (.iconst 0, 1) := by decide +kernel
theorem dX10_itsSeat_47 : decode cX10_itsSeat 47 = .ok (.ireturn, 1) := by decide +kernel
theorem dX10_itsStratum_0 : decode cX10_itsStratum 0 = .ok (.lload_n 2, 1) := by decide +kernel
theorem dX10_itsStratum_1 : decode cX10_itsStratum 1 = .ok (.aload_n 1, 1) := by decide +kernel
theorem dX10_itsStratum_2 : decode cX10_itsStratum 2 = .ok (.getfield 55, 3) := by decide +kernel
theorem dX10_itsStratum_5 : decode cX10_itsStratum 5 = .ok (.i2l, 1) := by decide +kernel
theorem dX10_itsStratum_6 : decode cX10_itsStratum 6 = .ok (.lcmp, 1) := by decide +kernel
theorem dX10_itsStratum_7 : decode cX10_itsStratum 7 = .ok (.ifCond .lt 5, 3) := by decide +kernel
theorem dX10_itsStratum_10 : decode cX10_itsStratum 10 = .ok (.iconst 5, 1) := by decide +kernel
theorem dX10_itsStratum_11 : decode cX10_itsStratum 11 = .ok (.ireturn, 1) := by decide +kernel
theorem dX10_itsStratum_12 : decode cX10_itsStratum 12 = .ok (.bipush 10, 2) := by decide +kernel
theorem dX10_itsStratum_14 : decode cX10_itsStratum 14 = .ok (.aload_n 0, 1) := by decide +kernel
theorem dX10_itsStratum_15 : decode cX10_itsStratum 15 = .ok (.getfield 341, 3) := by decide +kernel
theorem dX10_itsStratum_18 : decode cX10_itsStratum 18 = .ok (.imul, 1) := by decide +kernel
theorem dX10_itsStratum_19 : decode cX10_itsStratum 19 = .ok (.lload_n 2, 1) := by decide +kernel
theorem dX10_itsStratum_20 : decode cX10_itsStratum 20 = .ok (.l2i, 1) := by decide +kernel
theorem dX10_itsStratum_21 : decode cX10_itsStratum 21 = .ok (.iadd, 1) := by decide +kernel
theorem dX10_itsStratum_22 : decode cX10_itsStratum 22 = .ok (.istore 4, 2) := by decide +kernel
theorem dX10_itsStratum_24 : decode cX10_itsStratum 24 = .ok (.aload_n 0, 1) := by decide +kernel
theorem dX10_itsStratum_25 : decode cX10_itsStratum 25 = .ok (.getfield 337, 3) := by decide +kernel
theorem dX10_itsStratum_28 : decode cX10_itsStratum 28 = .ok (.ifCond .eq 16, 3) := by decide +kernel
theorem dX10_itsStratum_31 : decode cX10_itsStratum 31 = .ok (.aload_n 1, 1) := by decide +kernel
theorem dX10_itsStratum_32 : decode cX10_itsStratum 32 = .ok (.getfield 85, 3) := by decide +kernel
theorem dX10_itsStratum_35 : decode cX10_itsStratum 35 = .ok (.iload 4, 2) := by decide +kernel
theorem dX10_itsStratum_37 : decode cX10_itsStratum 37 = .ok (.baload, 1) := by decide +kernel
theorem dX10_itsStratum_38 : decode cX10_itsStratum 38 = .ok (.ifCond .eq 19, 3) := by decide +kernel
theorem dX10_itsStratum_41 : decode cX10_itsStratum 41 = .ok (.goto 14, 3) := by decide +kernel
theorem dX10_itsStratum_44 : decode cX10_itsStratum 44 = .ok (.aload_n 1, 1) := by decide +kernel
theorem dX10_itsStratum_45 : decode cX10_itsStratum 45 = .ok (.getfield 100, 3) := by decide +kernel
theorem dX10_itsStratum_48 : decode cX10_itsStratum 48 = .ok (.iload 4, 2) := by decide +kernel
theorem dX10_itsStratum_50 : decode cX10_itsStratum 50 = .ok (.iaload, 1) := by decide +kernel
theorem dX10_itsStratum_51 : decode cX10_itsStratum 51 = .ok (.iconst (-1), 1) := by decide +kernel
theorem dX10_itsStratum_52 : decode cX10_itsStratum 52 = .ok (.if_icmp .eq 5, 3) := by decide +kernel
theorem dX10_itsStratum_55 : decode cX10_itsStratum 55 = .ok (.iconst 2, 1) := by decide +kernel
theorem dX10_itsStratum_56 : decode cX10_itsStratum 56 = .ok (.ireturn, 1) := by decide +kernel
theorem dX10_itsStratum_57 : decode cX10_itsStratum 57 = .ok (.aload_n 0, 1) := by decide +kernel
theorem dX10_itsStratum_58 : decode cX10_itsStratum 58 = .ok (.getfield 337, 3) := by decide +kernel
theorem dX10_itsStratum_61 : decode cX10_itsStratum 61 = .ok (.ifCond .eq 13, 3) := by decide +kernel
theorem dX10_itsStratum_64 : decode cX10_itsStratum 64 = .ok (.aload_n 1, 1) := by decide +kernel
theorem dX10_itsStratum_65 : decode cX10_itsStratum 65 = .ok (.getfield 85, 3) := by decide +kernel
theorem dX10_itsStratum_68 : decode cX10_itsStratum 68 = .ok (.iload 4, 2) := by decide +kernel
theorem dX10_itsStratum_70 : decode cX10_itsStratum 70 = .ok (.iconst 1, 1) := by decide +kernel
theorem dX10_itsStratum_71 : decode cX10_itsStratum 71 = .ok (.bastore, 1) := by decide +kernel
theorem dX10_itsStratum_72 : decode cX10_itsStratum 72 = .ok (.iconst 0, 1) := by decide +kernel
theorem dX10_itsStratum_73 : decode cX10_itsStratum 73 = .ok (.ireturn, 1) := by decide +kernel
theorem dX10_itsStratum_74 : decode cX10_itsStratum 74 = .ok (.aload_n 1, 1) := by decide +kernel
theorem dX10_itsStratum_75 : decode cX10_itsStratum 75 = .ok (.getfield 100, 3) := by decide +kernel
theorem dX10_itsStratum_78 : decode cX10_itsStratum 78 = .ok (.iload 4, 2) := by decide +kernel
theorem dX10_itsStratum_80 : decode cX10_itsStratum 80 = .ok (.aload_n 1, 1) := by decide +kernel
theorem dX10_itsStratum_81 : decode cX10_itsStratum 81 = .ok (.getfield 65, 3) := by decide +kernel
theorem dX10_itsStratum_84 : decode cX10_itsStratum 84 = .ok (.iconst 1, 1) := by decide +kernel
theorem dX10_itsStratum_85 : decode cX10_itsStratum 85 = .ok (.isub, 1) := by decide +kernel
theorem dX10_itsStratum_86 : decode cX10_itsStratum 86 = .ok (.iastore, 1) := by decide +kernel
theorem dX10_itsStratum_87 : decode cX10_itsStratum 87 = .ok (.aload_n 1, 1) := by decide +kernel
theorem dX10_itsStratum_88 : decode cX10_itsStratum 88 = .ok (.getfield 110, 3) := by decide +kernel
theorem dX10_itsStratum_91 : decode cX10_itsStratum 91 = .ok (.aload_n 1, 1) := by decide +kernel
theorem dX10_itsStratum_92 : decode cX10_itsStratum 92 = .ok (.getfield 65, 3) := by decide +kernel
theorem dX10_itsStratum_95 : decode cX10_itsStratum 95 = .ok (.iconst 1, 1) := by decide +kernel
theorem dX10_itsStratum_96 : decode cX10_itsStratum 96 = .ok (.isub, 1) := by decide +kernel
theorem dX10_itsStratum_97 : decode cX10_itsStratum 97 = .ok (.iload 4, 2) := by decide +kernel
theorem dX10_itsStratum_99 : decode cX10_itsStratum 99 = .ok (.iastore, 1) := by decide +kernel
theorem dX10_itsStratum_100 : decode cX10_itsStratum 100 = .ok (.iconst 0, 1) := by decide +kernel
theorem dX10_itsStratum_101 : decode cX10_itsStratum 101 = .ok (.ireturn, 1) := by decide +kernel
theorem dX10_itsYear_0 : decode cX10_itsYear 0 = .ok (.lload_n 2, 1) := by decide +kernel
theorem dX10_itsYear_1 : decode cX10_itsYear 1 = .ok (.ldc2_w 335, 3) := by decide +kernel
theorem dX10_itsYear_4 : decode cX10_itsYear 4 = .ok (.lcmp, 1) := by decide +kernel
theorem dX10_itsYear_5 : decode cX10_itsYear 5 = .ok (.ifCond .le 5, 3) := by decide +kernel
theorem dX10_itsYear_8 : decode cX10_itsYear 8 = .ok (.iconst 5, 1) := by decide +kernel
theorem dX10_itsYear_9 : decode cX10_itsYear 9 = .ok (.ireturn, 1) := by decide +kernel
theorem dX10_itsYear_10 : decode cX10_itsYear 10 = .ok (.aload_n 1, 1) := by decide +kernel
theorem dX10_itsYear_11 : decode cX10_itsYear 11 = .ok (.getfield 122, 3) := by decide +kernel
theorem dX10_itsYear_14 : decode cX10_itsYear 14 = .ok (.aload_n 1, 1) := by decide +kernel
theorem dX10_itsYear_15 : decode cX10_itsYear 15 = .ok (.getfield 65, 3) := by decide +kernel
theorem dX10_itsYear_18 : decode cX10_itsYear 18 = .ok (.iconst 1, 1) := by decide +kernel
theorem dX10_itsYear_19 : decode cX10_itsYear 19 = .ok (.isub, 1) := by decide +kernel
theorem dX10_itsYear_20 : decode cX10_itsYear 20 = .ok (.lload_n 2, 1) := by decide +kernel
theorem dX10_itsYear_21 : decode cX10_itsYear 21 = .ok (.l2i, 1) := by decide +kernel
theorem dX10_itsYear_22 : decode cX10_itsYear 22 = .ok (.iastore, 1) := by decide +kernel
theorem dX10_itsYear_23 : decode cX10_itsYear 23 = .ok (.iconst 0, 1) := by decide +kernel
theorem dX10_itsYear_24 : decode cX10_itsYear 24 = .ok (.ireturn, 1) := by decide +kernel
theorem dX10_anEmpire_0 : decode cX10_anEmpire 0 = .ok (.aload_n 0, 1) := by decide +kernel
theorem dX10_anEmpire_1 : decode cX10_anEmpire 1 = .ok (.getfield 37, 3) := by decide +kernel
theorem dX10_anEmpire_4 : decode cX10_anEmpire 4 = .ok (.iload_n 2, 1) := by decide +kernel
theorem dX10_anEmpire_5 : decode cX10_anEmpire 5 = .ok (.aload_n 1, 1) := by decide +kernel
theorem dX10_anEmpire_6 : decode cX10_anEmpire 6 = .ok (.aload_n 0, 1) := by decide +kernel
theorem dX10_anEmpire_7 : decode cX10_anEmpire 7 = .ok (.getfield 33, 3) := by decide +kernel
theorem dX10_anEmpire_10 : decode cX10_anEmpire 10 = .ok (.iload_n 2, 1) := by decide +kernel
theorem dX10_anEmpire_11 : decode cX10_anEmpire 11 = .ok (.laload, 1) := by decide +kernel
theorem dX10_anEmpire_12 : decode cX10_anEmpire 12 = .ok (.invokestatic 332, 3) := by decide +kernel
theorem dX10_anEmpire_15 : decode cX10_anEmpire 15 = .ok (.iastore, 1) := by decide +kernel
theorem dX10_anEmpire_16 : decode cX10_anEmpire 16 = .ok (.aload_n 0, 1) := by decide +kernel
theorem dX10_anEmpire_17 : decode cX10_anEmpire 17 = .ok (.getfield 37, 3) := by decide +kernel
theorem dX10_anEmpire_20 : decode cX10_anEmpire 20 = .ok (.iload_n 2, 1) := by decide +kernel
theorem dX10_anEmpire_21 : decode cX10_anEmpire 21 = .ok (.iaload, 1) := by decide +kernel
theorem dX10_anEmpire_22 : decode cX10_anEmpire 22 = .ok (.iconst (-1), 1) := by decide +kernel
theorem dX10_anEmpire_23 : decode cX10_anEmpire 23 = .ok (.if_icmp .ne 5, 3) := by decide +kernel
theorem dX10_anEmpire_26 : decode cX10_anEmpire 26 = .ok (.iconst 3, 1) := by decide +kernel
theorem dX10_anEmpire_27 : decode cX10_anEmpire 27 = .ok (.ireturn, 1) := by decide +kernel
theorem dX10_anEmpire_28 : decode cX10_anEmpire 28 = .ok (.aload_n 0, 1) := by decide +kernel
theorem dX10_anEmpire_29 : decode cX10_anEmpire 29 = .ok (.getfield 30, 3) := by decide +kernel
theorem dX10_anEmpire_32 : decode cX10_anEmpire 32 = .ok (.iload_n 2, 1) := by decide +kernel
theorem dX10_anEmpire_33 : decode cX10_anEmpire 33 = .ok (.iaload, 1) := by decide +kernel
theorem dX10_anEmpire_34 : decode cX10_anEmpire 34 = .ok (.bipush 10, 2) := by decide +kernel
theorem dX10_anEmpire_36 : decode cX10_anEmpire 36 = .ok (.if_icmp .ne 20, 3) := by decide +kernel
theorem dX10_anEmpire_39 : decode cX10_anEmpire 39 = .ok (.aload_n 1, 1) := by decide +kernel
theorem dX10_anEmpire_40 : decode cX10_anEmpire 40 = .ok (.getfield 122, 3) := by decide +kernel
theorem dX10_anEmpire_43 : decode cX10_anEmpire 43 = .ok (.aload_n 1, 1) := by decide +kernel
theorem dX10_anEmpire_44 : decode cX10_anEmpire 44 = .ok (.getfield 65, 3) := by decide +kernel
theorem dX10_anEmpire_47 : decode cX10_anEmpire 47 = .ok (.iconst 1, 1) := by decide +kernel
theorem dX10_anEmpire_48 : decode cX10_anEmpire 48 = .ok (.isub, 1) := by decide +kernel
theorem dX10_anEmpire_49 : decode cX10_anEmpire 49 = .ok (.aload_n 0, 1) := by decide +kernel
theorem dX10_anEmpire_50 : decode cX10_anEmpire 50 = .ok (.getfield 37, 3) := by decide +kernel
theorem dX10_anEmpire_53 : decode cX10_anEmpire 53 = .ok (.iload_n 2, 1) := by decide +kernel
theorem dX10_anEmpire_54 : decode cX10_anEmpire 54 = .ok (.iaload, 1) := by decide +kernel
theorem dX10_anEmpire_55 : decode cX10_anEmpire 55 = .ok (.iastore, 1) := by decide +kernel
theorem dX10_anEmpire_56 : decode cX10_anEmpire 56 = .ok (.iconst 0, 1) := by decide +kernel
theorem dX10_anEmpire_57 : decode cX10_anEmpire 57 = .ok (.ireturn, 1) := by decide +kernel
theorem dX10_newOrder_0 : decode cX10_newOrder 0 = .ok (.aload_n 1, 1) := by decide +kernel
theorem dX10_newOrder_1 : decode cX10_newOrder 1 = .ok (.getfield 167, 3) := by decide +kernel
theorem dX10_newOrder_4 : decode cX10_newOrder 4 = .ok (.bipush 16, 2) := by decide +kernel
theorem dX10_newOrder_6 : decode cX10_newOrder 6 = .ok (.if_icmp .ne 5, 3) := by decide +kernel
theorem dX10_newOrder_9 : decode cX10_newOrder 9 = .ok (.iconst 4, 1) := by decide +kernel
theorem dX10_newOrder_10 : decode cX10_newOrder 10 = .ok (.ireturn, 1) := by decide +kernel
theorem dX10_newOrder_11 : decode cX10_newOrder 11 = .ok (.aload_n 1, 1) := by decide +kernel
theorem dX10_newOrder_12 : decode cX10_newOrder 12 = .ok (.dup, 1) := by decide +kernel
theorem dX10_newOrder_13 : decode cX10_newOrder 13 = .ok (.getfield 167, 3) := by decide +kernel
theorem dX10_newOrder_16 : decode cX10_newOrder 16 = .ok (.iconst 1, 1) := by decide +kernel
theorem dX10_newOrder_17 : decode cX10_newOrder 17 = .ok (.iadd, 1) := by decide +kernel
theorem dX10_newOrder_18 : decode cX10_newOrder 18 = .ok (.putfield 167, 3) := by decide +kernel
theorem dX10_newOrder_21 : decode cX10_newOrder 21 = .ok (.iconst 0, 1) := by decide +kernel
theorem dX10_newOrder_22 : decode cX10_newOrder 22 = .ok (.ireturn, 1) := by decide +kernel
theorem dX10_itsSeats_0 : decode cX10_itsSeats 0 = .ok (.lload_n 2, 1) := by decide +kernel
theorem dX10_itsSeats_1 : decode cX10_itsSeats 1 = .ok (.ldc2_w 344, 3) := by decide +kernel
theorem dX10_itsSeats_4 : decode cX10_itsSeats 4 = .ok (.lcmp, 1) := by decide +kernel
theorem dX10_itsSeats_5 : decode cX10_itsSeats 5 = .ok (.ifCond .lt 11, 3) := by decide +kernel
theorem dX10_itsSeats_8 : decode cX10_itsSeats 8 = .ok (.lload_n 2, 1) := by decide +kernel
theorem dX10_itsSeats_9 : decode cX10_itsSeats 9 = .ok (.ldc2_w 346, 3) := by decide +kernel
theorem dX10_itsSeats_12 : decode cX10_itsSeats 12 = .ok (.lcmp, 1) := by decide +kernel
theorem dX10_itsSeats_13 : decode cX10_itsSeats 13 = .ok (.ifCond .le 5, 3) := by decide +kernel
theorem dX10_itsSeats_16 : decode cX10_itsSeats 16 = .ok (.iconst 5, 1) := by decide +kernel
theorem dX10_itsSeats_17 : decode cX10_itsSeats 17 = .ok (.ireturn, 1) := by decide +kernel
theorem dX10_itsSeats_18 : decode cX10_itsSeats 18 = .ok (.aload_n 1, 1) := by decide +kernel
theorem dX10_itsSeats_19 : decode cX10_itsSeats 19 = .ok (.lload_n 2, 1) := by decide +kernel
theorem dX10_itsSeats_20 : decode cX10_itsSeats 20 = .ok (.l2i, 1) := by decide +kernel
theorem dX10_itsSeats_21 : decode cX10_itsSeats 21 = .ok (.putfield 52, 3) := by decide +kernel
theorem dX10_itsSeats_24 : decode cX10_itsSeats 24 = .ok (.iconst 0, 1) := by decide +kernel
theorem dX10_itsSeats_25 : decode cX10_itsSeats 25 = .ok (.ireturn, 1) := by decide +kernel
theorem dX10_itsLayers_0 : decode cX10_itsLayers 0 = .ok (.lload_n 2, 1) := by decide +kernel
theorem dX10_itsLayers_1 : decode cX10_itsLayers 1 = .ok (.ldc2_w 344, 3) := by decide +kernel
theorem dX10_itsLayers_4 : decode cX10_itsLayers 4 = .ok (.lcmp, 1) := by decide +kernel
theorem dX10_itsLayers_5 : decode cX10_itsLayers 5 = .ok (.ifCond .lt 11, 3) := by decide +kernel
theorem dX10_itsLayers_8 : decode cX10_itsLayers 8 = .ok (.lload_n 2, 1) := by decide +kernel
theorem dX10_itsLayers_9 : decode cX10_itsLayers 9 = .ok (.ldc2_w 348, 3) := by decide +kernel
theorem dX10_itsLayers_12 : decode cX10_itsLayers 12 = .ok (.lcmp, 1) := by decide +kernel
theorem dX10_itsLayers_13 : decode cX10_itsLayers 13 = .ok (.ifCond .le 5, 3) := by decide +kernel
theorem dX10_itsLayers_16 : decode cX10_itsLayers 16 = .ok (.iconst 5, 1) := by decide +kernel
theorem dX10_itsLayers_17 : decode cX10_itsLayers 17 = .ok (.ireturn, 1) := by decide +kernel
theorem dX10_itsLayers_18 : decode cX10_itsLayers 18 = .ok (.aload_n 1, 1) := by decide +kernel
theorem dX10_itsLayers_19 : decode cX10_itsLayers 19 = .ok (.lload_n 2, 1) := by decide +kernel
theorem dX10_itsLayers_20 : decode cX10_itsLayers 20 = .ok (.l2i, 1) := by decide +kernel
theorem dX10_itsLayers_21 : decode cX10_itsLayers 21 = .ok (.putfield 55, 3) := by decide +kernel
theorem dX10_itsLayers_24 : decode cX10_itsLayers 24 = .ok (.iconst 0, 1) := by decide +kernel
theorem dX10_itsLayers_25 : decode cX10_itsLayers 25 = .ok (.ireturn, 1) := by decide +kernel
theorem dX10_errorOf_0 : decode cX10_errorOf 0 = .ok (.aload_n 0, 1) := by decide +kernel
theorem dX10_errorOf_1 : decode cX10_errorOf 1 = .ok (.getfield 30, 3) := by decide +kernel
theorem dX10_errorOf_4 : decode cX10_errorOf 4 = .ok (.iload_n 2, 1) := by decide +kernel
theorem dX10_errorOf_5 : decode cX10_errorOf 5 = .ok (.iaload, 1) := by decide +kernel
theorem dX10_errorOf_6 : decode cX10_errorOf 6 = .ok (.tableswitch 184 0 11 #[62, 64, 76, 88, 100, 113, 126, 147, 154, 166, 184, 178], 62) := by decide +kernel
theorem dX10_errorOf_68 : decode cX10_errorOf 68 = .ok (.iconst 0, 1) := by decide +kernel
theorem dX10_errorOf_69 : decode cX10_errorOf 69 = .ok (.ireturn, 1) := by decide +kernel
theorem dX10_errorOf_70 : decode cX10_errorOf 70 = .ok (.aload_n 0, 1) := by decide +kernel
theorem dX10_errorOf_71 : decode cX10_errorOf 71 = .ok (.aload_n 1, 1) := by decide +kernel
theorem dX10_errorOf_72 : decode cX10_errorOf 72 = .ok (.aload_n 0, 1) := by decide +kernel
theorem dX10_errorOf_73 : decode cX10_errorOf 73 = .ok (.getfield 33, 3) := by decide +kernel
theorem dX10_errorOf_76 : decode cX10_errorOf 76 = .ok (.iload_n 2, 1) := by decide +kernel
theorem dX10_errorOf_77 : decode cX10_errorOf 77 = .ok (.laload, 1) := by decide +kernel
theorem dX10_errorOf_78 : decode cX10_errorOf 78 = .ok (.invokevirtual 350, 3) := by decide +kernel
theorem dX10_errorOf_81 : decode cX10_errorOf 81 = .ok (.ireturn, 1) := by decide +kernel
theorem dX10_errorOf_82 : decode cX10_errorOf 82 = .ok (.aload_n 0, 1) := by decide +kernel
theorem dX10_errorOf_83 : decode cX10_errorOf 83 = .ok (.aload_n 1, 1) := by decide +kernel
theorem dX10_errorOf_84 : decode cX10_errorOf 84 = .ok (.aload_n 0, 1) := by decide +kernel
theorem dX10_errorOf_85 : decode cX10_errorOf 85 = .ok (.getfield 33, 3) := by decide +kernel
theorem dX10_errorOf_88 : decode cX10_errorOf 88 = .ok (.iload_n 2, 1) := by decide +kernel
theorem dX10_errorOf_89 : decode cX10_errorOf 89 = .ok (.laload, 1) := by decide +kernel
theorem dX10_errorOf_90 : decode cX10_errorOf 90 = .ok (.invokevirtual 353, 3) := by decide +kernel
theorem dX10_errorOf_93 : decode cX10_errorOf 93 = .ok (.ireturn, 1) := by decide +kernel
theorem dX10_errorOf_94 : decode cX10_errorOf 94 = .ok (.aload_n 0, 1) := by decide +kernel
theorem dX10_errorOf_95 : decode cX10_errorOf 95 = .ok (.aload_n 1, 1) := by decide +kernel
theorem dX10_errorOf_96 : decode cX10_errorOf 96 = .ok (.aload_n 0, 1) := by decide +kernel
theorem dX10_errorOf_97 : decode cX10_errorOf 97 = .ok (.getfield 33, 3) := by decide +kernel
theorem dX10_errorOf_100 : decode cX10_errorOf 100 = .ok (.iload_n 2, 1) := by decide +kernel
theorem dX10_errorOf_101 : decode cX10_errorOf 101 = .ok (.laload, 1) := by decide +kernel
theorem dX10_errorOf_102 : decode cX10_errorOf 102 = .ok (.invokevirtual 356, 3) := by decide +kernel
theorem dX10_errorOf_105 : decode cX10_errorOf 105 = .ok (.ireturn, 1) := by decide +kernel
theorem dX10_errorOf_106 : decode cX10_errorOf 106 = .ok (.aload_n 0, 1) := by decide +kernel
theorem dX10_errorOf_107 : decode cX10_errorOf 107 = .ok (.aload_n 1, 1) := by decide +kernel
theorem dX10_errorOf_108 : decode cX10_errorOf 108 = .ok (.aload_n 0, 1) := by decide +kernel
theorem dX10_errorOf_109 : decode cX10_errorOf 109 = .ok (.getfield 33, 3) := by decide +kernel
theorem dX10_errorOf_112 : decode cX10_errorOf 112 = .ok (.iload_n 2, 1) := by decide +kernel
theorem dX10_errorOf_113 : decode cX10_errorOf 113 = .ok (.laload, 1) := by decide +kernel
theorem dX10_errorOf_114 : decode cX10_errorOf 114 = .ok (.iconst 1, 1) := by decide +kernel
theorem dX10_errorOf_115 : decode cX10_errorOf 115 = .ok (.invokevirtual 359, 3) := by decide +kernel
theorem dX10_errorOf_118 : decode cX10_errorOf 118 = .ok (.ireturn, 1) := by decide +kernel
theorem dX10_errorOf_119 : decode cX10_errorOf 119 = .ok (.aload_n 0, 1) := by decide +kernel
theorem dX10_errorOf_120 : decode cX10_errorOf 120 = .ok (.aload_n 1, 1) := by decide +kernel
theorem dX10_errorOf_121 : decode cX10_errorOf 121 = .ok (.aload_n 0, 1) := by decide +kernel
theorem dX10_errorOf_122 : decode cX10_errorOf 122 = .ok (.getfield 33, 3) := by decide +kernel
theorem dX10_errorOf_125 : decode cX10_errorOf 125 = .ok (.iload_n 2, 1) := by decide +kernel
theorem dX10_errorOf_126 : decode cX10_errorOf 126 = .ok (.laload, 1) := by decide +kernel
theorem dX10_errorOf_127 : decode cX10_errorOf 127 = .ok (.iconst 0, 1) := by decide +kernel
theorem dX10_errorOf_128 : decode cX10_errorOf 128 = .ok (.invokevirtual 359, 3) := by decide +kernel
theorem dX10_errorOf_131 : decode cX10_errorOf 131 = .ok (.ireturn, 1) := by decide +kernel
theorem dX10_errorOf_132 : decode cX10_errorOf 132 = .ok (.aload_n 0, 1) := by decide +kernel
theorem dX10_errorOf_133 : decode cX10_errorOf 133 = .ok (.aload_n 1, 1) := by decide +kernel
theorem dX10_errorOf_134 : decode cX10_errorOf 134 = .ok (.aload_n 0, 1) := by decide +kernel
theorem dX10_errorOf_135 : decode cX10_errorOf 135 = .ok (.getfield 24, 3) := by decide +kernel
theorem dX10_errorOf_138 : decode cX10_errorOf 138 = .ok (.iload_n 2, 1) := by decide +kernel
theorem dX10_errorOf_139 : decode cX10_errorOf 139 = .ok (.iaload, 1) := by decide +kernel
theorem dX10_errorOf_140 : decode cX10_errorOf 140 = .ok (.iconst 5, 1) := by decide +kernel
theorem dX10_errorOf_141 : decode cX10_errorOf 141 = .ok (.if_icmp .ne 7, 3) := by decide +kernel
theorem dX10_errorOf_144 : decode cX10_errorOf 144 = .ok (.iconst 1, 1) := by decide +kernel
theorem dX10_errorOf_145 : decode cX10_errorOf 145 = .ok (.goto 4, 3) := by decide +kernel
theorem dX10_errorOf_148 : decode cX10_errorOf 148 = .ok (.iconst 0, 1) := by decide +kernel
theorem dX10_errorOf_149 : decode cX10_errorOf 149 = .ok (.invokevirtual 363, 3) := by decide +kernel
theorem dX10_errorOf_152 : decode cX10_errorOf 152 = .ok (.ireturn, 1) := by decide +kernel
theorem dX10_errorOf_153 : decode cX10_errorOf 153 = .ok (.aload_n 0, 1) := by decide +kernel
theorem dX10_errorOf_154 : decode cX10_errorOf 154 = .ok (.aload_n 1, 1) := by decide +kernel
theorem dX10_errorOf_155 : decode cX10_errorOf 155 = .ok (.iload_n 2, 1) := by decide +kernel
theorem dX10_errorOf_156 : decode cX10_errorOf 156 = .ok (.invokevirtual 367, 3) := by decide +kernel
theorem dX10_errorOf_159 : decode cX10_errorOf 159 = .ok (.ireturn, 1) := by decide +kernel
theorem dX10_errorOf_160 : decode cX10_errorOf 160 = .ok (.aload_n 0, 1) := by decide +kernel
theorem dX10_errorOf_161 : decode cX10_errorOf 161 = .ok (.aload_n 1, 1) := by decide +kernel
theorem dX10_errorOf_162 : decode cX10_errorOf 162 = .ok (.aload_n 0, 1) := by decide +kernel
theorem dX10_errorOf_163 : decode cX10_errorOf 163 = .ok (.getfield 33, 3) := by decide +kernel
theorem dX10_errorOf_166 : decode cX10_errorOf 166 = .ok (.iload_n 2, 1) := by decide +kernel
theorem dX10_errorOf_167 : decode cX10_errorOf 167 = .ok (.laload, 1) := by decide +kernel
theorem dX10_errorOf_168 : decode cX10_errorOf 168 = .ok (.invokevirtual 370, 3) := by decide +kernel
theorem dX10_errorOf_171 : decode cX10_errorOf 171 = .ok (.ireturn, 1) := by decide +kernel
theorem dX10_errorOf_172 : decode cX10_errorOf 172 = .ok (.aload_n 0, 1) := by decide +kernel
theorem dX10_errorOf_173 : decode cX10_errorOf 173 = .ok (.aload_n 1, 1) := by decide +kernel
theorem dX10_errorOf_174 : decode cX10_errorOf 174 = .ok (.aload_n 0, 1) := by decide +kernel
theorem dX10_errorOf_175 : decode cX10_errorOf 175 = .ok (.getfield 33, 3) := by decide +kernel
theorem dX10_errorOf_178 : decode cX10_errorOf 178 = .ok (.iload_n 2, 1) := by decide +kernel
theorem dX10_errorOf_179 : decode cX10_errorOf 179 = .ok (.laload, 1) := by decide +kernel
theorem dX10_errorOf_180 : decode cX10_errorOf 180 = .ok (.invokevirtual 373, 3) := by decide +kernel
theorem dX10_errorOf_183 : decode cX10_errorOf 183 = .ok (.ireturn, 1) := by decide +kernel
theorem dX10_errorOf_184 : decode cX10_errorOf 184 = .ok (.aload_n 0, 1) := by decide +kernel
theorem dX10_errorOf_185 : decode cX10_errorOf 185 = .ok (.aload_n 1, 1) := by decide +kernel
theorem dX10_errorOf_186 : decode cX10_errorOf 186 = .ok (.invokevirtual 376, 3) := by decide +kernel
theorem dX10_errorOf_189 : decode cX10_errorOf 189 = .ok (.ireturn, 1) := by decide +kernel
theorem dX10_errorOf_190 : decode cX10_errorOf 190 = .ok (.aload_n 0, 1) := by decide +kernel
theorem dX10_errorOf_191 : decode cX10_errorOf 191 = .ok (.aload_n 1, 1) := by decide +kernel
theorem dX10_errorOf_192 : decode cX10_errorOf 192 = .ok (.iload_n 2, 1) := by decide +kernel
theorem dX10_errorOf_193 : decode cX10_errorOf 193 = .ok (.invokevirtual 380, 3) := by decide +kernel
theorem dX10_errorOf_196 : decode cX10_errorOf 196 = .ok (.ireturn, 1) := by decide +kernel
theorem dX10_settle__0 : decode cX10_settle_ 0 = .ok (.iconst 0, 1) := by decide +kernel
theorem dX10_settle__1 : decode cX10_settle_ 1 = .ok (.istore_n 2, 1) := by decide +kernel
theorem dX10_settle__2 : decode cX10_settle_ 2 = .ok (.iload_n 2, 1) := by decide +kernel
theorem dX10_settle__3 : decode cX10_settle_ 3 = .ok (.aload_n 1, 1) := by decide +kernel
theorem dX10_settle__4 : decode cX10_settle_ 4 = .ok (.getfield 265, 3) := by decide +kernel
theorem dX10_settle__7 : decode cX10_settle_ 7 = .ok (.if_icmp .ge 51, 3) := by decide +kernel
theorem dX10_settle__10 : decode cX10_settle_ 10 = .ok (.aload_n 1, 1) := by decide +kernel
theorem dX10_settle__11 : decode cX10_settle_ 11 = .ok (.getfield 188, 3) := by decide +kernel
theorem dX10_settle__14 : decode cX10_settle_ 14 = .ok (.iload_n 2, 1) := by decide +kernel
theorem dX10_settle__15 : decode cX10_settle_ 15 = .ok (.iaload, 1) := by decide +kernel
theorem dX10_settle__16 : decode cX10_settle_ 16 = .ok (.istore_n 3, 1) := by decide +kernel
theorem dX10_settle__17 : decode cX10_settle_ 17 = .ok (.iload_n 3, 1) := by decide +kernel
theorem dX10_settle__18 : decode cX10_settle_ 18 = .ok (.bipush 19, 2) := by decide +kernel
theorem dX10_settle__20 : decode cX10_settle_ 20 = .ok (.if_icmp .eq 15, 3) := by decide +kernel
theorem dX10_settle__23 : decode cX10_settle_ 23 = .ok (.iload_n 3, 1) := by decide +kernel
theorem dX10_settle__24 : decode cX10_settle_ 24 = .ok (.bipush 20, 2) := by decide +kernel
theorem dX10_settle__26 : decode cX10_settle_ 26 = .ok (.if_icmp .eq 9, 3) := by decide +kernel
theorem dX10_settle__29 : decode cX10_settle_ 29 = .ok (.iload_n 3, 1) := by decide +kernel
theorem dX10_settle__30 : decode cX10_settle_ 30 = .ok (.bipush 22, 2) := by decide +kernel
theorem dX10_settle__32 : decode cX10_settle_ 32 = .ok (.if_icmp .ne 20, 3) := by decide +kernel
theorem dX10_settle__35 : decode cX10_settle_ 35 = .ok (.aload_n 1, 1) := by decide +kernel
theorem dX10_settle__36 : decode cX10_settle_ 36 = .ok (.getfield 194, 3) := by decide +kernel
theorem dX10_settle__39 : decode cX10_settle_ 39 = .ok (.iload_n 2, 1) := by decide +kernel
theorem dX10_settle__40 : decode cX10_settle_ 40 = .ok (.aload_n 0, 1) := by decide +kernel
theorem dX10_settle__41 : decode cX10_settle_ 41 = .ok (.getfield 37, 3) := by decide +kernel
theorem dX10_settle__44 : decode cX10_settle_ 44 = .ok (.aload_n 1, 1) := by decide +kernel
theorem dX10_settle__45 : decode cX10_settle_ 45 = .ok (.getfield 194, 3) := by decide +kernel
theorem dX10_settle__48 : decode cX10_settle_ 48 = .ok (.iload_n 2, 1) := by decide +kernel
theorem dX10_settle__49 : decode cX10_settle_ 49 = .ok (.iaload, 1) := by decide +kernel
theorem dX10_settle__50 : decode cX10_settle_ 50 = .ok (.iaload, 1) := by decide +kernel
theorem dX10_settle__51 : decode cX10_settle_ 51 = .ok (.iastore, 1) := by decide +kernel
theorem dX10_settle__52 : decode cX10_settle_ 52 = .ok (.iinc 2 1, 3) := by decide +kernel
theorem dX10_settle__55 : decode cX10_settle_ 55 = .ok (.goto (-53), 3) := by decide +kernel
theorem dX10_settle__58 : decode cX10_settle_ 58 = .ok (.return_, 1) := by decide +kernel
theorem dX10_read_0 : decode cX10_read 0 = .ok (.aload_n 0, 1) := by decide +kernel
theorem dX10_read_1 : decode cX10_read 1 = .ok (.invokevirtual 383, 3) := by decide +kernel
theorem dX10_read_4 : decode cX10_read 4 = .ok (.aload_n 0, 1) := by decide +kernel
theorem dX10_read_5 : decode cX10_read 5 = .ok (.iconst 0, 1) := by decide +kernel
theorem dX10_read_6 : decode cX10_read 6 = .ok (.putfield 256, 3) := by decide +kernel
theorem dX10_read_9 : decode cX10_read 9 = .ok (.aload_n 0, 1) := by decide +kernel
theorem dX10_read_10 : decode cX10_read 10 = .ok (.iconst 0, 1) := by decide +kernel
theorem dX10_read_11 : decode cX10_read 11 = .ok (.putfield 262, 3) := by decide +kernel
theorem dX10_read_14 : decode cX10_read 14 = .ok (.aload_n 0, 1) := by decide +kernel
theorem dX10_read_15 : decode cX10_read 15 = .ok (.iconst 0, 1) := by decide +kernel
theorem dX10_read_16 : decode cX10_read 16 = .ok (.putfield 313, 3) := by decide +kernel
theorem dX10_read_19 : decode cX10_read 19 = .ok (.aload_n 0, 1) := by decide +kernel
theorem dX10_read_20 : decode cX10_read 20 = .ok (.aload_n 1, 1) := by decide +kernel
theorem dX10_read_21 : decode cX10_read 21 = .ok (.invokevirtual 386, 3) := by decide +kernel
theorem dX10_read_24 : decode cX10_read 24 = .ok (.ifCond .ne 18, 3) := by decide +kernel
theorem dX10_read_27 : decode cX10_read 27 = .ok (.aload_n 0, 1) := by decide +kernel
theorem dX10_read_28 : decode cX10_read 28 = .ok (.aload_n 0, 1) := by decide +kernel
theorem dX10_read_29 : decode cX10_read 29 = .ok (.getfield 27, 3) := by decide +kernel
theorem dX10_read_32 : decode cX10_read 32 = .ok (.aload_n 0, 1) := by decide +kernel
theorem dX10_read_33 : decode cX10_read 33 = .ok (.getfield 256, 3) := by decide +kernel
theorem dX10_read_36 : decode cX10_read 36 = .ok (.iaload, 1) := by decide +kernel
theorem dX10_read_37 : decode cX10_read 37 = .ok (.putfield 13, 3) := by decide +kernel
theorem dX10_read_40 : decode cX10_read 40 = .ok (.iconst 1, 1) := by decide +kernel
theorem dX10_read_41 : decode cX10_read 41 = .ok (.ireturn, 1) := by decide +kernel
theorem dX10_read_42 : decode cX10_read 42 = .ok (.iconst 0, 1) := by decide +kernel
theorem dX10_read_43 : decode cX10_read 43 = .ok (.istore_n 2, 1) := by decide +kernel
theorem dX10_read_44 : decode cX10_read 44 = .ok (.iload_n 2, 1) := by decide +kernel
theorem dX10_read_45 : decode cX10_read 45 = .ok (.aload_n 0, 1) := by decide +kernel
theorem dX10_read_46 : decode cX10_read 46 = .ok (.getfield 256, 3) := by decide +kernel
theorem dX10_read_49 : decode cX10_read 49 = .ok (.if_icmp .ge 35, 3) := by decide +kernel
theorem dX10_read_52 : decode cX10_read 52 = .ok (.aload_n 0, 1) := by decide +kernel
theorem dX10_read_53 : decode cX10_read 53 = .ok (.aload_n 1, 1) := by decide +kernel
theorem dX10_read_54 : decode cX10_read 54 = .ok (.iload_n 2, 1) := by decide +kernel
theorem dX10_read_55 : decode cX10_read 55 = .ok (.invokevirtual 389, 3) := by decide +kernel
theorem dX10_read_58 : decode cX10_read 58 = .ok (.istore_n 3, 1) := by decide +kernel
theorem dX10_read_59 : decode cX10_read 59 = .ok (.iload_n 3, 1) := by decide +kernel
theorem dX10_read_60 : decode cX10_read 60 = .ok (.ifCond .ne 6, 3) := by decide +kernel
theorem dX10_read_63 : decode cX10_read 63 = .ok (.goto 15, 3) := by decide +kernel
theorem dX10_read_66 : decode cX10_read 66 = .ok (.aload_n 0, 1) := by decide +kernel
theorem dX10_read_67 : decode cX10_read 67 = .ok (.aload_n 0, 1) := by decide +kernel
theorem dX10_read_68 : decode cX10_read 68 = .ok (.getfield 27, 3) := by decide +kernel
theorem dX10_read_71 : decode cX10_read 71 = .ok (.iload_n 2, 1) := by decide +kernel
theorem dX10_read_72 : decode cX10_read 72 = .ok (.iaload, 1) := by decide +kernel
theorem dX10_read_73 : decode cX10_read 73 = .ok (.putfield 13, 3) := by decide +kernel
theorem dX10_read_76 : decode cX10_read 76 = .ok (.iload_n 3, 1) := by decide +kernel
theorem dX10_read_77 : decode cX10_read 77 = .ok (.ireturn, 1) := by decide +kernel
theorem dX10_read_78 : decode cX10_read 78 = .ok (.iinc 2 1, 3) := by decide +kernel
theorem dX10_read_81 : decode cX10_read 81 = .ok (.goto (-37), 3) := by decide +kernel
theorem dX10_read_84 : decode cX10_read 84 = .ok (.aload_n 0, 1) := by decide +kernel
theorem dX10_read_85 : decode cX10_read 85 = .ok (.aload_n 1, 1) := by decide +kernel
theorem dX10_read_86 : decode cX10_read 86 = .ok (.invokevirtual 392, 3) := by decide +kernel
theorem dX10_read_89 : decode cX10_read 89 = .ok (.iconst 0, 1) := by decide +kernel
theorem dX10_read_90 : decode cX10_read 90 = .ok (.ireturn, 1) := by decide +kernel
theorem dX10_feed_0 : decode cX10_feed 0 = .ok (.aload_n 0, 1) := by decide +kernel
theorem dX10_feed_1 : decode cX10_feed 1 = .ok (.iconst 0, 1) := by decide +kernel
theorem dX10_feed_2 : decode cX10_feed 2 = .ok (.putfield 58, 3) := by decide +kernel
theorem dX10_feed_5 : decode cX10_feed 5 = .ok (.aload_n 0, 1) := by decide +kernel
theorem dX10_feed_6 : decode cX10_feed 6 = .ok (.getfield 210, 3) := by decide +kernel
theorem dX10_feed_9 : decode cX10_feed 9 = .ok (.sipush 1980, 3) := by decide +kernel
theorem dX10_feed_12 : decode cX10_feed 12 = .ok (.if_icmp .le 9, 3) := by decide +kernel
theorem dX10_feed_15 : decode cX10_feed 15 = .ok (.aload_n 0, 1) := by decide +kernel
theorem dX10_feed_16 : decode cX10_feed 16 = .ok (.iconst 1, 1) := by decide +kernel
theorem dX10_feed_17 : decode cX10_feed 17 = .ok (.invokevirtual 395, 3) := by decide +kernel
theorem dX10_feed_20 : decode cX10_feed 20 = .ok (.ireturn, 1) := by decide +kernel
theorem dX10_feed_21 : decode cX10_feed 21 = .ok (.iconst 5, 1) := by decide +kernel
theorem dX10_feed_22 : decode cX10_feed 22 = .ok (.newarray .int, 2) := by decide +kernel
theorem dX10_feed_24 : decode cX10_feed 24 = .ok (.dup, 1) := by decide +kernel
theorem dX10_feed_25 : decode cX10_feed 25 = .ok (.iconst 0, 1) := by decide +kernel
theorem dX10_feed_26 : decode cX10_feed 26 = .ok (.iload_n 1, 1) := by decide +kernel
theorem dX10_feed_27 : decode cX10_feed 27 = .ok (.iastore, 1) := by decide +kernel
theorem dX10_feed_28 : decode cX10_feed 28 = .ok (.dup, 1) := by decide +kernel
theorem dX10_feed_29 : decode cX10_feed 29 = .ok (.iconst 1, 1) := by decide +kernel
theorem dX10_feed_30 : decode cX10_feed 30 = .ok (.iload_n 2, 1) := by decide +kernel
theorem dX10_feed_31 : decode cX10_feed 31 = .ok (.iastore, 1) := by decide +kernel
theorem dX10_feed_32 : decode cX10_feed 32 = .ok (.dup, 1) := by decide +kernel
theorem dX10_feed_33 : decode cX10_feed 33 = .ok (.iconst 2, 1) := by decide +kernel
theorem dX10_feed_34 : decode cX10_feed 34 = .ok (.iload_n 3, 1) := by decide +kernel
theorem dX10_feed_35 : decode cX10_feed 35 = .ok (.iastore, 1) := by decide +kernel
theorem dX10_feed_36 : decode cX10_feed 36 = .ok (.dup, 1) := by decide +kernel
theorem dX10_feed_37 : decode cX10_feed 37 = .ok (.iconst 3, 1) := by decide +kernel
theorem dX10_feed_38 : decode cX10_feed 38 = .ok (.iload 4, 2) := by decide +kernel
theorem dX10_feed_40 : decode cX10_feed 40 = .ok (.iastore, 1) := by decide +kernel
theorem dX10_feed_41 : decode cX10_feed 41 = .ok (.dup, 1) := by decide +kernel
theorem dX10_feed_42 : decode cX10_feed 42 = .ok (.iconst 4, 1) := by decide +kernel
theorem dX10_feed_43 : decode cX10_feed 43 = .ok (.iload 5, 2) := by decide +kernel
theorem dX10_feed_45 : decode cX10_feed 45 = .ok (.iastore, 1) := by decide +kernel
theorem dX10_feed_46 : decode cX10_feed 46 = .ok (.astore 6, 2) := by decide +kernel
theorem dX10_feed_48 : decode cX10_feed 48 = .ok (.iconst 0, 1) := by decide +kernel
theorem dX10_feed_49 : decode cX10_feed 49 = .ok (.istore 7, 2) := by decide +kernel
theorem dX10_feed_51 : decode cX10_feed 51 = .ok (.iload 7, 2) := by decide +kernel
theorem dX10_feed_53 : decode cX10_feed 53 = .ok (.bipush 20, 2) := by decide +kernel
theorem dX10_feed_55 : decode cX10_feed 55 = .ok (.if_icmp .ge 43, 3) := by decide +kernel
theorem dX10_feed_58 : decode cX10_feed 58 = .ok (.aload_n 0, 1) := by decide +kernel
theorem dX10_feed_59 : decode cX10_feed 59 = .ok (.getfield 9, 3) := by decide +kernel
theorem dX10_feed_62 : decode cX10_feed 62 = .ok (.aload_n 0, 1) := by decide +kernel
theorem dX10_feed_63 : decode cX10_feed 63 = .ok (.getfield 210, 3) := by decide +kernel
theorem dX10_feed_66 : decode cX10_feed 66 = .ok (.iload 7, 2) := by decide +kernel
theorem dX10_feed_68 : decode cX10_feed 68 = .ok (.iadd, 1) := by decide +kernel
theorem dX10_feed_69 : decode cX10_feed 69 = .ok (.aload 6, 2) := by decide +kernel
theorem dX10_feed_71 : decode cX10_feed 71 = .ok (.iload 7, 2) := by decide +kernel
theorem dX10_feed_73 : decode cX10_feed 73 = .ok (.iconst 4, 1) := by decide +kernel
theorem dX10_feed_74 : decode cX10_feed 74 = .ok (.idiv, 1) := by decide +kernel
theorem dX10_feed_75 : decode cX10_feed 75 = .ok (.iaload, 1) := by decide +kernel
theorem dX10_feed_76 : decode cX10_feed 76 = .ok (.bipush 24, 2) := by decide +kernel
theorem dX10_feed_78 : decode cX10_feed 78 = .ok (.bipush 8, 2) := by decide +kernel
theorem dX10_feed_80 : decode cX10_feed 80 = .ok (.iload 7, 2) := by decide +kernel
theorem dX10_feed_82 : decode cX10_feed 82 = .ok (.iconst 4, 1) := by decide +kernel
theorem dX10_feed_83 : decode cX10_feed 83 = .ok (.irem, 1) := by decide +kernel
theorem dX10_feed_84 : decode cX10_feed 84 = .ok (.imul, 1) := by decide +kernel
theorem dX10_feed_85 : decode cX10_feed 85 = .ok (.isub, 1) := by decide +kernel
theorem dX10_feed_86 : decode cX10_feed 86 = .ok (.ishr, 1) := by decide +kernel
theorem dX10_feed_87 : decode cX10_feed 87 = .ok (.sipush 255, 3) := by decide +kernel
theorem dX10_feed_90 : decode cX10_feed 90 = .ok (.iand, 1) := by decide +kernel
theorem dX10_feed_91 : decode cX10_feed 91 = .ok (.iastore, 1) := by decide +kernel
theorem dX10_feed_92 : decode cX10_feed 92 = .ok (.iinc 7 1, 3) := by decide +kernel
theorem dX10_feed_95 : decode cX10_feed 95 = .ok (.goto (-44), 3) := by decide +kernel
theorem dX10_feed_98 : decode cX10_feed 98 = .ok (.aload_n 0, 1) := by decide +kernel
theorem dX10_feed_99 : decode cX10_feed 99 = .ok (.dup, 1) := by decide +kernel
theorem dX10_feed_100 : decode cX10_feed 100 = .ok (.getfield 210, 3) := by decide +kernel
theorem dX10_feed_103 : decode cX10_feed 103 = .ok (.bipush 20, 2) := by decide +kernel
theorem dX10_feed_105 : decode cX10_feed 105 = .ok (.iadd, 1) := by decide +kernel
theorem dX10_feed_106 : decode cX10_feed 106 = .ok (.putfield 210, 3) := by decide +kernel
theorem dX10_feed_109 : decode cX10_feed 109 = .ok (.aload_n 0, 1) := by decide +kernel
theorem dX10_feed_110 : decode cX10_feed 110 = .ok (.getfield 210, 3) := by decide +kernel
theorem dX10_feed_113 : decode cX10_feed 113 = .ok (.ireturn, 1) := by decide +kernel
theorem dX10_trim_0 : decode cX10_trim 0 = .ok (.aload_n 0, 1) := by decide +kernel
theorem dX10_trim_1 : decode cX10_trim 1 = .ok (.iconst 0, 1) := by decide +kernel
theorem dX10_trim_2 : decode cX10_trim 2 = .ok (.putfield 58, 3) := by decide +kernel
theorem dX10_trim_5 : decode cX10_trim 5 = .ok (.iload_n 1, 1) := by decide +kernel
theorem dX10_trim_6 : decode cX10_trim 6 = .ok (.iconst 0, 1) := by decide +kernel
theorem dX10_trim_7 : decode cX10_trim 7 = .ok (.aload_n 0, 1) := by decide +kernel
theorem dX10_trim_8 : decode cX10_trim 8 = .ok (.getfield 210, 3) := by decide +kernel
theorem dX10_trim_11 : decode cX10_trim 11 = .ok (.invokestatic 61, 3) := by decide +kernel
theorem dX10_trim_14 : decode cX10_trim 14 = .ok (.ifCond .ne 9, 3) := by decide +kernel
theorem dX10_trim_17 : decode cX10_trim 17 = .ok (.aload_n 0, 1) := by decide +kernel
theorem dX10_trim_18 : decode cX10_trim 18 = .ok (.iconst 1, 1) := by decide +kernel
theorem dX10_trim_19 : decode cX10_trim 19 = .ok (.invokevirtual 395, 3) := by decide +kernel
theorem dX10_trim_22 : decode cX10_trim 22 = .ok (.ireturn, 1) := by decide +kernel
theorem dX10_trim_23 : decode cX10_trim 23 = .ok (.aload_n 0, 1) := by decide +kernel
theorem dX10_trim_24 : decode cX10_trim 24 = .ok (.iload_n 1, 1) := by decide +kernel
theorem dX10_trim_25 : decode cX10_trim 25 = .ok (.putfield 210, 3) := by decide +kernel
theorem dX10_trim_28 : decode cX10_trim 28 = .ok (.iload_n 1, 1) := by decide +kernel
theorem dX10_trim_29 : decode cX10_trim 29 = .ok (.ireturn, 1) := by decide +kernel
theorem dX10_teach_0 : decode cX10_teach 0 = .ok (.aload_n 0, 1) := by decide +kernel
theorem dX10_teach_1 : decode cX10_teach 1 = .ok (.iconst 0, 1) := by decide +kernel
theorem dX10_teach_2 : decode cX10_teach 2 = .ok (.putfield 58, 3) := by decide +kernel
theorem dX10_teach_5 : decode cX10_teach 5 = .ok (.aload_n 0, 1) := by decide +kernel
theorem dX10_teach_6 : decode cX10_teach 6 = .ok (.iconst (-1), 1) := by decide +kernel
theorem dX10_teach_7 : decode cX10_teach 7 = .ok (.putfield 13, 3) := by decide +kernel
theorem dX10_teach_10 : decode cX10_teach 10 = .ok (.new 17, 3) := by decide +kernel
theorem dX10_teach_13 : decode cX10_teach 13 = .ok (.dup, 1) := by decide +kernel
theorem dX10_teach_14 : decode cX10_teach 14 = .ok (.invokespecial 19, 3) := by decide +kernel
theorem dX10_teach_17 : decode cX10_teach 17 = .ok (.astore_n 1, 1) := by decide +kernel
theorem dX10_teach_18 : decode cX10_teach 18 = .ok (.aload_n 0, 1) := by decide +kernel
theorem dX10_teach_19 : decode cX10_teach 19 = .ok (.aload_n 1, 1) := by decide +kernel
theorem dX10_teach_20 : decode cX10_teach 20 = .ok (.invokevirtual 398, 3) := by decide +kernel
theorem dX10_teach_23 : decode cX10_teach 23 = .ok (.istore_n 2, 1) := by decide +kernel
theorem dX10_teach_24 : decode cX10_teach 24 = .ok (.aload_n 0, 1) := by decide +kernel
theorem dX10_teach_25 : decode cX10_teach 25 = .ok (.iconst 0, 1) := by decide +kernel
theorem dX10_teach_26 : decode cX10_teach 26 = .ok (.putfield 210, 3) := by decide +kernel
theorem dX10_teach_29 : decode cX10_teach 29 = .ok (.iload_n 2, 1) := by decide +kernel
theorem dX10_teach_30 : decode cX10_teach 30 = .ok (.ifCond .le 5, 3) := by decide +kernel
theorem dX10_teach_33 : decode cX10_teach 33 = .ok (.iload_n 2, 1) := by decide +kernel
theorem dX10_teach_34 : decode cX10_teach 34 = .ok (.ireturn, 1) := by decide +kernel
theorem dX10_teach_35 : decode cX10_teach 35 = .ok (.aload_n 0, 1) := by decide +kernel
theorem dX10_teach_36 : decode cX10_teach 36 = .ok (.aload_n 1, 1) := by decide +kernel
theorem dX10_teach_37 : decode cX10_teach 37 = .ok (.putfield 20, 3) := by decide +kernel
theorem dX10_teach_40 : decode cX10_teach 40 = .ok (.aload_n 0, 1) := by decide +kernel
theorem dX10_teach_41 : decode cX10_teach 41 = .ok (.invokevirtual 49, 3) := by decide +kernel
theorem dX10_teach_44 : decode cX10_teach 44 = .ok (.iconst 0, 1) := by decide +kernel
theorem dX10_teach_45 : decode cX10_teach 45 = .ok (.ireturn, 1) := by decide +kernel
theorem dX10_errorAt_0 : decode cX10_errorAt 0 = .ok (.aload_n 0, 1) := by decide +kernel
theorem dX10_errorAt_1 : decode cX10_errorAt 1 = .ok (.aload_n 0, 1) := by decide +kernel
theorem dX10_errorAt_2 : decode cX10_errorAt 2 = .ok (.getfield 13, 3) := by decide +kernel
theorem dX10_errorAt_5 : decode cX10_errorAt 5 = .ok (.invokevirtual 401, 3) := by decide +kernel
theorem dX10_errorAt_8 : decode cX10_errorAt 8 = .ok (.ireturn, 1) := by decide +kernel
theorem dX10_seats_0 : decode cX10_seats 0 = .ok (.aload_n 0, 1) := by decide +kernel
theorem dX10_seats_1 : decode cX10_seats 1 = .ok (.aload_n 0, 1) := by decide +kernel
theorem dX10_seats_2 : decode cX10_seats 2 = .ok (.getfield 20, 3) := by decide +kernel
theorem dX10_seats_5 : decode cX10_seats 5 = .ok (.getfield 52, 3) := by decide +kernel
theorem dX10_seats_8 : decode cX10_seats 8 = .ok (.invokevirtual 401, 3) := by decide +kernel
theorem dX10_seats_11 : decode cX10_seats 11 = .ok (.ireturn, 1) := by decide +kernel
theorem dX10_strata_0 : decode cX10_strata 0 = .ok (.aload_n 0, 1) := by decide +kernel
theorem dX10_strata_1 : decode cX10_strata 1 = .ok (.aload_n 0, 1) := by decide +kernel
theorem dX10_strata_2 : decode cX10_strata 2 = .ok (.getfield 20, 3) := by decide +kernel
theorem dX10_strata_5 : decode cX10_strata 5 = .ok (.getfield 55, 3) := by decide +kernel
theorem dX10_strata_8 : decode cX10_strata 8 = .ok (.invokevirtual 401, 3) := by decide +kernel
theorem dX10_strata_11 : decode cX10_strata 11 = .ok (.ireturn, 1) := by decide +kernel
theorem dX10_finds_0 : decode cX10_finds 0 = .ok (.aload_n 0, 1) := by decide +kernel
theorem dX10_finds_1 : decode cX10_finds 1 = .ok (.aload_n 0, 1) := by decide +kernel
theorem dX10_finds_2 : decode cX10_finds 2 = .ok (.getfield 20, 3) := by decide +kernel
theorem dX10_finds_5 : decode cX10_finds 5 = .ok (.getfield 65, 3) := by decide +kernel
theorem dX10_finds_8 : decode cX10_finds 8 = .ok (.invokevirtual 401, 3) := by decide +kernel
theorem dX10_finds_11 : decode cX10_finds 11 = .ok (.ireturn, 1) := by decide +kernel
theorem dX10_days_0 : decode cX10_days 0 = .ok (.aload_n 0, 1) := by decide +kernel
theorem dX10_days_1 : decode cX10_days 1 = .ok (.aload_n 0, 1) := by decide +kernel
theorem dX10_days_2 : decode cX10_days 2 = .ok (.getfield 40, 3) := by decide +kernel
theorem dX10_days_5 : decode cX10_days 5 = .ok (.iconst 0, 1) := by decide +kernel
theorem dX10_days_6 : decode cX10_days 6 = .ok (.iaload, 1) := by decide +kernel
theorem dX10_days_7 : decode cX10_days 7 = .ok (.invokevirtual 401, 3) := by decide +kernel
theorem dX10_days_10 : decode cX10_days 10 = .ok (.ireturn, 1) := by decide +kernel
theorem dX10_ordersCarriedOut_0 : decode cX10_ordersCarriedOut 0 = .ok (.aload_n 0, 1) := by decide +kernel
theorem dX10_ordersCarriedOut_1 : decode cX10_ordersCarriedOut 1 = .ok (.aload_n 0, 1) := by decide +kernel
theorem dX10_ordersCarriedOut_2 : decode cX10_ordersCarriedOut 2 = .ok (.getfield 40, 3) := by decide +kernel
theorem dX10_ordersCarriedOut_5 : decode cX10_ordersCarriedOut 5 = .ok (.iconst 1, 1) := by decide +kernel
theorem dX10_ordersCarriedOut_6 : decode cX10_ordersCarriedOut 6 = .ok (.iaload, 1) := by decide +kernel
theorem dX10_ordersCarriedOut_7 : decode cX10_ordersCarriedOut 7 = .ok (.invokevirtual 401, 3) := by decide +kernel
theorem dX10_ordersCarriedOut_10 : decode cX10_ordersCarriedOut 10 = .ok (.ireturn, 1) := by decide +kernel
theorem dX10_cushionsDug_0 : decode cX10_cushionsDug 0 = .ok (.aload_n 0, 1) := by decide +kernel
theorem dX10_cushionsDug_1 : decode cX10_cushionsDug 1 = .ok (.aload_n 0, 1) := by decide +kernel
theorem dX10_cushionsDug_2 : decode cX10_cushionsDug 2 = .ok (.getfield 40, 3) := by decide +kernel
theorem dX10_cushionsDug_5 : decode cX10_cushionsDug 5 = .ok (.iconst 2, 1) := by decide +kernel
theorem dX10_cushionsDug_6 : decode cX10_cushionsDug 6 = .ok (.iaload, 1) := by decide +kernel
theorem dX10_cushionsDug_7 : decode cX10_cushionsDug 7 = .ok (.invokevirtual 401, 3) := by decide +kernel
theorem dX10_cushionsDug_10 : decode cX10_cushionsDug 10 = .ok (.ireturn, 1) := by decide +kernel
theorem dX10_slides_0 : decode cX10_slides 0 = .ok (.aload_n 0, 1) := by decide +kernel
theorem dX10_slides_1 : decode cX10_slides 1 = .ok (.aload_n 0, 1) := by decide +kernel
theorem dX10_slides_2 : decode cX10_slides 2 = .ok (.getfield 40, 3) := by decide +kernel
theorem dX10_slides_5 : decode cX10_slides 5 = .ok (.iconst 3, 1) := by decide +kernel
theorem dX10_slides_6 : decode cX10_slides 6 = .ok (.iaload, 1) := by decide +kernel
theorem dX10_slides_7 : decode cX10_slides 7 = .ok (.invokevirtual 401, 3) := by decide +kernel
theorem dX10_slides_10 : decode cX10_slides 10 = .ok (.ireturn, 1) := by decide +kernel
theorem dX10_found_0 : decode cX10_found 0 = .ok (.aload_n 0, 1) := by decide +kernel
theorem dX10_found_1 : decode cX10_found 1 = .ok (.aload_n 0, 1) := by decide +kernel
theorem dX10_found_2 : decode cX10_found 2 = .ok (.iconst 1, 1) := by decide +kernel
theorem dX10_found_3 : decode cX10_found 3 = .ok (.invokevirtual 164, 3) := by decide +kernel
theorem dX10_found_6 : decode cX10_found 6 = .ok (.invokevirtual 401, 3) := by decide +kernel
theorem dX10_found_9 : decode cX10_found 9 = .ok (.ireturn, 1) := by decide +kernel
theorem dX10_sureFinds_0 : decode cX10_sureFinds 0 = .ok (.aload_n 0, 1) := by decide +kernel
theorem dX10_sureFinds_1 : decode cX10_sureFinds 1 = .ok (.aload_n 0, 1) := by decide +kernel
theorem dX10_sureFinds_2 : decode cX10_sureFinds 2 = .ok (.iconst 2, 1) := by decide +kernel
theorem dX10_sureFinds_3 : decode cX10_sureFinds 3 = .ok (.invokevirtual 164, 3) := by decide +kernel
theorem dX10_sureFinds_6 : decode cX10_sureFinds 6 = .ok (.invokevirtual 401, 3) := by decide +kernel
theorem dX10_sureFinds_9 : decode cX10_sureFinds 9 = .ok (.ireturn, 1) := by decide +kernel
theorem dX10_props_0 : decode cX10_props 0 = .ok (.aload_n 0, 1) := by decide +kernel
theorem dX10_props_1 : decode cX10_props 1 = .ok (.aload_n 0, 1) := by decide +kernel
theorem dX10_props_2 : decode cX10_props 2 = .ok (.getfield 40, 3) := by decide +kernel
theorem dX10_props_5 : decode cX10_props 5 = .ok (.iconst 4, 1) := by decide +kernel
theorem dX10_props_6 : decode cX10_props 6 = .ok (.iaload, 1) := by decide +kernel
theorem dX10_props_7 : decode cX10_props 7 = .ok (.invokestatic 143, 3) := by decide +kernel
theorem dX10_props_10 : decode cX10_props 10 = .ok (.invokevirtual 401, 3) := by decide +kernel
theorem dX10_props_13 : decode cX10_props 13 = .ok (.ireturn, 1) := by decide +kernel
theorem dX10_heightOf_0 : decode cX10_heightOf 0 = .ok (.aload_n 0, 1) := by decide +kernel
theorem dX10_heightOf_1 : decode cX10_heightOf 1 = .ok (.iconst 0, 1) := by decide +kernel
theorem dX10_heightOf_2 : decode cX10_heightOf 2 = .ok (.putfield 58, 3) := by decide +kernel
theorem dX10_heightOf_5 : decode cX10_heightOf 5 = .ok (.aload_n 0, 1) := by decide +kernel
theorem dX10_heightOf_6 : decode cX10_heightOf 6 = .ok (.iload_n 1, 1) := by decide +kernel
theorem dX10_heightOf_7 : decode cX10_heightOf 7 = .ok (.invokevirtual 78, 3) := by decide +kernel
theorem dX10_heightOf_10 : decode cX10_heightOf 10 = .ok (.ifCond .eq 11, 3) := by decide +kernel
theorem dX10_heightOf_13 : decode cX10_heightOf 13 = .ok (.aload_n 0, 1) := by decide +kernel
theorem dX10_heightOf_14 : decode cX10_heightOf 14 = .ok (.iload_n 1, 1) := by decide +kernel
theorem dX10_heightOf_15 : decode cX10_heightOf 15 = .ok (.invokevirtual 74, 3) := by decide +kernel
theorem dX10_heightOf_18 : decode cX10_heightOf 18 = .ok (.goto 8, 3) := by decide +kernel
theorem dX10_heightOf_21 : decode cX10_heightOf 21 = .ok (.aload_n 0, 1) := by decide +kernel
theorem dX10_heightOf_22 : decode cX10_heightOf 22 = .ok (.iconst 1, 1) := by decide +kernel
theorem dX10_heightOf_23 : decode cX10_heightOf 23 = .ok (.invokevirtual 395, 3) := by decide +kernel
theorem dX10_heightOf_26 : decode cX10_heightOf 26 = .ok (.ireturn, 1) := by decide +kernel
theorem dX10_isPropped_0 : decode cX10_isPropped 0 = .ok (.aload_n 0, 1) := by decide +kernel
theorem dX10_isPropped_1 : decode cX10_isPropped 1 = .ok (.iconst 0, 1) := by decide +kernel
theorem dX10_isPropped_2 : decode cX10_isPropped 2 = .ok (.putfield 58, 3) := by decide +kernel
theorem dX10_isPropped_5 : decode cX10_isPropped 5 = .ok (.aload_n 0, 1) := by decide +kernel
theorem dX10_isPropped_6 : decode cX10_isPropped 6 = .ok (.iload_n 1, 1) := by decide +kernel
theorem dX10_isPropped_7 : decode cX10_isPropped 7 = .ok (.invokevirtual 78, 3) := by decide +kernel
theorem dX10_isPropped_10 : decode cX10_isPropped 10 = .ok (.ifCond .eq 11, 3) := by decide +kernel
theorem dX10_isPropped_13 : decode cX10_isPropped 13 = .ok (.aload_n 0, 1) := by decide +kernel
theorem dX10_isPropped_14 : decode cX10_isPropped 14 = .ok (.iload_n 1, 1) := by decide +kernel
theorem dX10_isPropped_15 : decode cX10_isPropped 15 = .ok (.invokevirtual 82, 3) := by decide +kernel
theorem dX10_isPropped_18 : decode cX10_isPropped 18 = .ok (.goto 8, 3) := by decide +kernel
theorem dX10_isPropped_21 : decode cX10_isPropped 21 = .ok (.aload_n 0, 1) := by decide +kernel
theorem dX10_isPropped_22 : decode cX10_isPropped 22 = .ok (.iconst 1, 1) := by decide +kernel
theorem dX10_isPropped_23 : decode cX10_isPropped 23 = .ok (.invokevirtual 404, 3) := by decide +kernel
theorem dX10_isPropped_26 : decode cX10_isPropped 26 = .ok (.ireturn, 1) := by decide +kernel
theorem dX10_hasTop_0 : decode cX10_hasTop 0 = .ok (.aload_n 0, 1) := by decide +kernel
theorem dX10_hasTop_1 : decode cX10_hasTop 1 = .ok (.aload_n 0, 1) := by decide +kernel
theorem dX10_hasTop_2 : decode cX10_hasTop 2 = .ok (.iload_n 1, 1) := by decide +kernel
theorem dX10_hasTop_3 : decode cX10_hasTop 3 = .ok (.invokevirtual 78, 3) := by decide +kernel
theorem dX10_hasTop_6 : decode cX10_hasTop 6 = .ok (.ifCond .ne 7, 3) := by decide +kernel
theorem dX10_hasTop_9 : decode cX10_hasTop 9 = .ok (.iconst 1, 1) := by decide +kernel
theorem dX10_hasTop_10 : decode cX10_hasTop 10 = .ok (.goto 16, 3) := by decide +kernel
theorem dX10_hasTop_13 : decode cX10_hasTop 13 = .ok (.aload_n 0, 1) := by decide +kernel
theorem dX10_hasTop_14 : decode cX10_hasTop 14 = .ok (.iload_n 1, 1) := by decide +kernel
theorem dX10_hasTop_15 : decode cX10_hasTop 15 = .ok (.invokevirtual 74, 3) := by decide +kernel
theorem dX10_hasTop_18 : decode cX10_hasTop 18 = .ok (.ifCond .ne 7, 3) := by decide +kernel
theorem dX10_hasTop_21 : decode cX10_hasTop 21 = .ok (.iconst 2, 1) := by decide +kernel
theorem dX10_hasTop_22 : decode cX10_hasTop 22 = .ok (.goto 4, 3) := by decide +kernel
theorem dX10_hasTop_25 : decode cX10_hasTop 25 = .ok (.iconst 0, 1) := by decide +kernel
theorem dX10_hasTop_26 : decode cX10_hasTop 26 = .ok (.putfield 58, 3) := by decide +kernel
theorem dX10_hasTop_29 : decode cX10_hasTop 29 = .ok (.aload_n 0, 1) := by decide +kernel
theorem dX10_hasTop_30 : decode cX10_hasTop 30 = .ok (.getfield 58, 3) := by decide +kernel
theorem dX10_hasTop_33 : decode cX10_hasTop 33 = .ok (.ifCond .ne 7, 3) := by decide +kernel
theorem dX10_hasTop_36 : decode cX10_hasTop 36 = .ok (.iconst 1, 1) := by decide +kernel
theorem dX10_hasTop_37 : decode cX10_hasTop 37 = .ok (.goto 4, 3) := by decide +kernel
theorem dX10_hasTop_40 : decode cX10_hasTop 40 = .ok (.iconst 0, 1) := by decide +kernel
theorem dX10_hasTop_41 : decode cX10_hasTop 41 = .ok (.ireturn, 1) := by decide +kernel
theorem dX10_topStratum_0 : decode cX10_topStratum 0 = .ok (.aload_n 0, 1) := by decide +kernel
theorem dX10_topStratum_1 : decode cX10_topStratum 1 = .ok (.iload_n 1, 1) := by decide +kernel
theorem dX10_topStratum_2 : decode cX10_topStratum 2 = .ok (.invokevirtual 407, 3) := by decide +kernel
theorem dX10_topStratum_5 : decode cX10_topStratum 5 = .ok (.ifCond .eq 14, 3) := by decide +kernel
theorem dX10_topStratum_8 : decode cX10_topStratum 8 = .ok (.aload_n 0, 1) := by decide +kernel
theorem dX10_topStratum_9 : decode cX10_topStratum 9 = .ok (.iload_n 1, 1) := by decide +kernel
theorem dX10_topStratum_10 : decode cX10_topStratum 10 = .ok (.invokevirtual 89, 3) := by decide +kernel
theorem dX10_topStratum_13 : decode cX10_topStratum 13 = .ok (.bipush 10, 2) := by decide +kernel
theorem dX10_topStratum_15 : decode cX10_topStratum 15 = .ok (.irem, 1) := by decide +kernel
theorem dX10_topStratum_16 : decode cX10_topStratum 16 = .ok (.goto 4, 3) := by decide +kernel
theorem dX10_topStratum_19 : decode cX10_topStratum 19 = .ok (.iconst 0, 1) := by decide +kernel
theorem dX10_topStratum_20 : decode cX10_topStratum 20 = .ok (.ireturn, 1) := by decide +kernel
theorem dX10_isTopLoose_0 : decode cX10_isTopLoose 0 = .ok (.aload_n 0, 1) := by decide +kernel
theorem dX10_isTopLoose_1 : decode cX10_isTopLoose 1 = .ok (.iload_n 1, 1) := by decide +kernel
theorem dX10_isTopLoose_2 : decode cX10_isTopLoose 2 = .ok (.invokevirtual 407, 3) := by decide +kernel
theorem dX10_isTopLoose_5 : decode cX10_isTopLoose 5 = .ok (.ifCond .eq 24, 3) := by decide +kernel
theorem dX10_isTopLoose_8 : decode cX10_isTopLoose 8 = .ok (.aload_n 0, 1) := by decide +kernel
theorem dX10_isTopLoose_9 : decode cX10_isTopLoose 9 = .ok (.getfield 40, 3) := by decide +kernel
theorem dX10_isTopLoose_12 : decode cX10_isTopLoose 12 = .ok (.bipush 93, 2) := by decide +kernel
theorem dX10_isTopLoose_14 : decode cX10_isTopLoose 14 = .ok (.aload_n 0, 1) := by decide +kernel
theorem dX10_isTopLoose_15 : decode cX10_isTopLoose 15 = .ok (.iload_n 1, 1) := by decide +kernel
theorem dX10_isTopLoose_16 : decode cX10_isTopLoose 16 = .ok (.invokevirtual 89, 3) := by decide +kernel
theorem dX10_isTopLoose_19 : decode cX10_isTopLoose 19 = .ok (.iadd, 1) := by decide +kernel
theorem dX10_isTopLoose_20 : decode cX10_isTopLoose 20 = .ok (.iaload, 1) := by decide +kernel
theorem dX10_isTopLoose_21 : decode cX10_isTopLoose 21 = .ok (.iconst 1, 1) := by decide +kernel
theorem dX10_isTopLoose_22 : decode cX10_isTopLoose 22 = .ok (.if_icmp .ne 7, 3) := by decide +kernel
theorem dX10_isTopLoose_25 : decode cX10_isTopLoose 25 = .ok (.iconst 1, 1) := by decide +kernel
theorem dX10_isTopLoose_26 : decode cX10_isTopLoose 26 = .ok (.goto 4, 3) := by decide +kernel
theorem dX10_isTopLoose_29 : decode cX10_isTopLoose 29 = .ok (.iconst 0, 1) := by decide +kernel
theorem dX10_isTopLoose_30 : decode cX10_isTopLoose 30 = .ok (.ireturn, 1) := by decide +kernel
theorem dX10_hasTopSpring_0 : decode cX10_hasTopSpring 0 = .ok (.aload_n 0, 1) := by decide +kernel
theorem dX10_hasTopSpring_1 : decode cX10_hasTopSpring 1 = .ok (.iload_n 1, 1) := by decide +kernel
theorem dX10_hasTopSpring_2 : decode cX10_hasTopSpring 2 = .ok (.invokevirtual 407, 3) := by decide +kernel
theorem dX10_hasTopSpring_5 : decode cX10_hasTopSpring 5 = .ok (.ifCond .eq 23, 3) := by decide +kernel
theorem dX10_hasTopSpring_8 : decode cX10_hasTopSpring 8 = .ok (.aload_n 0, 1) := by decide +kernel
theorem dX10_hasTopSpring_9 : decode cX10_hasTopSpring 9 = .ok (.getfield 20, 3) := by decide +kernel
theorem dX10_hasTopSpring_12 : decode cX10_hasTopSpring 12 = .ok (.getfield 85, 3) := by decide +kernel
theorem dX10_hasTopSpring_15 : decode cX10_hasTopSpring 15 = .ok (.aload_n 0, 1) := by decide +kernel
theorem dX10_hasTopSpring_16 : decode cX10_hasTopSpring 16 = .ok (.iload_n 1, 1) := by decide +kernel
theorem dX10_hasTopSpring_17 : decode cX10_hasTopSpring 17 = .ok (.invokevirtual 89, 3) := by decide +kernel
theorem dX10_hasTopSpring_20 : decode cX10_hasTopSpring 20 = .ok (.baload, 1) := by decide +kernel
theorem dX10_hasTopSpring_21 : decode cX10_hasTopSpring 21 = .ok (.ifCond .eq 7, 3) := by decide +kernel
theorem dX10_hasTopSpring_24 : decode cX10_hasTopSpring 24 = .ok (.iconst 1, 1) := by decide +kernel
theorem dX10_hasTopSpring_25 : decode cX10_hasTopSpring 25 = .ok (.goto 4, 3) := by decide +kernel
theorem dX10_hasTopSpring_28 : decode cX10_hasTopSpring 28 = .ok (.iconst 0, 1) := by decide +kernel
theorem dX10_hasTopSpring_29 : decode cX10_hasTopSpring 29 = .ok (.ireturn, 1) := by decide +kernel
theorem dX10_findsLeft_0 : decode cX10_findsLeft 0 = .ok (.aload_n 0, 1) := by decide +kernel
theorem dX10_findsLeft_1 : decode cX10_findsLeft 1 = .ok (.iconst 0, 1) := by decide +kernel
theorem dX10_findsLeft_2 : decode cX10_findsLeft 2 = .ok (.putfield 58, 3) := by decide +kernel
theorem dX10_findsLeft_5 : decode cX10_findsLeft 5 = .ok (.aload_n 0, 1) := by decide +kernel
theorem dX10_findsLeft_6 : decode cX10_findsLeft 6 = .ok (.iload_n 1, 1) := by decide +kernel
theorem dX10_findsLeft_7 : decode cX10_findsLeft 7 = .ok (.invokevirtual 78, 3) := by decide +kernel
theorem dX10_findsLeft_10 : decode cX10_findsLeft 10 = .ok (.ifCond .eq 11, 3) := by decide +kernel
theorem dX10_findsLeft_13 : decode cX10_findsLeft 13 = .ok (.aload_n 0, 1) := by decide +kernel
theorem dX10_findsLeft_14 : decode cX10_findsLeft 14 = .ok (.iload_n 1, 1) := by decide +kernel
theorem dX10_findsLeft_15 : decode cX10_findsLeft 15 = .ok (.invokevirtual 410, 3) := by decide +kernel
theorem dX10_findsLeft_18 : decode cX10_findsLeft 18 = .ok (.goto 8, 3) := by decide +kernel
theorem dX10_findsLeft_21 : decode cX10_findsLeft 21 = .ok (.aload_n 0, 1) := by decide +kernel
theorem dX10_findsLeft_22 : decode cX10_findsLeft 22 = .ok (.iconst 1, 1) := by decide +kernel
theorem dX10_findsLeft_23 : decode cX10_findsLeft 23 = .ok (.invokevirtual 395, 3) := by decide +kernel
theorem dX10_findsLeft_26 : decode cX10_findsLeft 26 = .ok (.ireturn, 1) := by decide +kernel
theorem dX10_isCoin_0 : decode cX10_isCoin 0 = .ok (.aload_n 0, 1) := by decide +kernel
theorem dX10_isCoin_1 : decode cX10_isCoin 1 = .ok (.iconst 0, 1) := by decide +kernel
theorem dX10_isCoin_2 : decode cX10_isCoin 2 = .ok (.putfield 58, 3) := by decide +kernel
theorem dX10_isCoin_5 : decode cX10_isCoin 5 = .ok (.aload_n 0, 1) := by decide +kernel
theorem dX10_isCoin_6 : decode cX10_isCoin 6 = .ok (.iload_n 1, 1) := by decide +kernel
theorem dX10_isCoin_7 : decode cX10_isCoin 7 = .ok (.invokevirtual 176, 3) := by decide +kernel
theorem dX10_isCoin_10 : decode cX10_isCoin 10 = .ok (.ifCond .eq 15, 3) := by decide +kernel
theorem dX10_isCoin_13 : decode cX10_isCoin 13 = .ok (.aload_n 0, 1) := by decide +kernel
theorem dX10_isCoin_14 : decode cX10_isCoin 14 = .ok (.getfield 20, 3) := by decide +kernel
theorem dX10_isCoin_17 : decode cX10_isCoin 17 = .ok (.getfield 119, 3) := by decide +kernel
theorem dX10_isCoin_20 : decode cX10_isCoin 20 = .ok (.iload_n 1, 1) := by decide +kernel
theorem dX10_isCoin_21 : decode cX10_isCoin 21 = .ok (.baload, 1) := by decide +kernel
theorem dX10_isCoin_22 : decode cX10_isCoin 22 = .ok (.goto 8, 3) := by decide +kernel
theorem dX10_isCoin_25 : decode cX10_isCoin 25 = .ok (.aload_n 0, 1) := by decide +kernel
theorem dX10_isCoin_26 : decode cX10_isCoin 26 = .ok (.iconst 1, 1) := by decide +kernel
theorem dX10_isCoin_27 : decode cX10_isCoin 27 = .ok (.invokevirtual 404, 3) := by decide +kernel
theorem dX10_isCoin_30 : decode cX10_isCoin 30 = .ok (.ireturn, 1) := by decide +kernel
theorem dX10_isFound_0 : decode cX10_isFound 0 = .ok (.aload_n 0, 1) := by decide +kernel
theorem dX10_isFound_1 : decode cX10_isFound 1 = .ok (.iconst 0, 1) := by decide +kernel
theorem dX10_isFound_2 : decode cX10_isFound 2 = .ok (.putfield 58, 3) := by decide +kernel
theorem dX10_isFound_5 : decode cX10_isFound 5 = .ok (.aload_n 0, 1) := by decide +kernel
theorem dX10_isFound_6 : decode cX10_isFound 6 = .ok (.iload_n 1, 1) := by decide +kernel
theorem dX10_isFound_7 : decode cX10_isFound 7 = .ok (.invokevirtual 176, 3) := by decide +kernel
theorem dX10_isFound_10 : decode cX10_isFound 10 = .ok (.ifCond .eq 24, 3) := by decide +kernel
theorem dX10_isFound_13 : decode cX10_isFound 13 = .ok (.aload_n 0, 1) := by decide +kernel
theorem dX10_isFound_14 : decode cX10_isFound 14 = .ok (.getfield 40, 3) := by decide +kernel
theorem dX10_isFound_17 : decode cX10_isFound 17 = .ok (.sipush 173, 3) := by decide +kernel
theorem dX10_isFound_20 : decode cX10_isFound 20 = .ok (.iload_n 1, 1) := by decide +kernel
theorem dX10_isFound_21 : decode cX10_isFound 21 = .ok (.iadd, 1) := by decide +kernel
theorem dX10_isFound_22 : decode cX10_isFound 22 = .ok (.iaload, 1) := by decide +kernel
theorem dX10_isFound_23 : decode cX10_isFound 23 = .ok (.ifCond .le 7, 3) := by decide +kernel
theorem dX10_isFound_26 : decode cX10_isFound 26 = .ok (.iconst 1, 1) := by decide +kernel
theorem dX10_isFound_27 : decode cX10_isFound 27 = .ok (.goto 12, 3) := by decide +kernel
theorem dX10_isFound_30 : decode cX10_isFound 30 = .ok (.iconst 0, 1) := by decide +kernel
theorem dX10_isFound_31 : decode cX10_isFound 31 = .ok (.goto 8, 3) := by decide +kernel
theorem dX10_isFound_34 : decode cX10_isFound 34 = .ok (.aload_n 0, 1) := by decide +kernel
theorem dX10_isFound_35 : decode cX10_isFound 35 = .ok (.iconst 1, 1) := by decide +kernel
theorem dX10_isFound_36 : decode cX10_isFound 36 = .ok (.invokevirtual 404, 3) := by decide +kernel
theorem dX10_isFound_39 : decode cX10_isFound 39 = .ok (.ireturn, 1) := by decide +kernel
theorem dX10_isSure_0 : decode cX10_isSure 0 = .ok (.aload_n 0, 1) := by decide +kernel
theorem dX10_isSure_1 : decode cX10_isSure 1 = .ok (.aload_n 0, 1) := by decide +kernel
theorem dX10_isSure_2 : decode cX10_isSure 2 = .ok (.iload_n 1, 1) := by decide +kernel
theorem dX10_isSure_3 : decode cX10_isSure 3 = .ok (.invokevirtual 176, 3) := by decide +kernel
theorem dX10_isSure_6 : decode cX10_isSure 6 = .ok (.ifCond .ne 7, 3) := by decide +kernel
theorem dX10_isSure_9 : decode cX10_isSure 9 = .ok (.iconst 1, 1) := by decide +kernel
theorem dX10_isSure_10 : decode cX10_isSure 10 = .ok (.goto 21, 3) := by decide +kernel
theorem dX10_isSure_13 : decode cX10_isSure 13 = .ok (.aload_n 0, 1) := by decide +kernel
theorem dX10_isSure_14 : decode cX10_isSure 14 = .ok (.getfield 40, 3) := by decide +kernel
theorem dX10_isSure_17 : decode cX10_isSure 17 = .ok (.sipush 173, 3) := by decide +kernel
theorem dX10_isSure_20 : decode cX10_isSure 20 = .ok (.iload_n 1, 1) := by decide +kernel
theorem dX10_isSure_21 : decode cX10_isSure 21 = .ok (.iadd, 1) := by decide +kernel
theorem dX10_isSure_22 : decode cX10_isSure 22 = .ok (.iaload, 1) := by decide +kernel
theorem dX10_isSure_23 : decode cX10_isSure 23 = .ok (.ifCond .ne 7, 3) := by decide +kernel
theorem dX10_isSure_26 : decode cX10_isSure 26 = .ok (.iconst 2, 1) := by decide +kernel
theorem dX10_isSure_27 : decode cX10_isSure 27 = .ok (.goto 4, 3) := by decide +kernel
theorem dX10_isSure_30 : decode cX10_isSure 30 = .ok (.iconst 0, 1) := by decide +kernel
theorem dX10_isSure_31 : decode cX10_isSure 31 = .ok (.putfield 58, 3) := by decide +kernel
theorem dX10_isSure_34 : decode cX10_isSure 34 = .ok (.aload_n 0, 1) := by decide +kernel
theorem dX10_isSure_35 : decode cX10_isSure 35 = .ok (.getfield 58, 3) := by decide +kernel
theorem dX10_isSure_38 : decode cX10_isSure 38 = .ok (.ifCond .ne 15, 3) := by decide +kernel
theorem dX10_isSure_41 : decode cX10_isSure 41 = .ok (.aload_n 0, 1) := by decide +kernel
theorem dX10_isSure_42 : decode cX10_isSure 42 = .ok (.iload_n 1, 1) := by decide +kernel
theorem dX10_isSure_43 : decode cX10_isSure 43 = .ok (.invokevirtual 113, 3) := by decide +kernel
theorem dX10_isSure_46 : decode cX10_isSure 46 = .ok (.ifCond .eq 7, 3) := by decide +kernel
theorem dX10_isSure_49 : decode cX10_isSure 49 = .ok (.iconst 1, 1) := by decide +kernel
theorem dX10_isSure_50 : decode cX10_isSure 50 = .ok (.goto 4, 3) := by decide +kernel
theorem dX10_isSure_53 : decode cX10_isSure 53 = .ok (.iconst 0, 1) := by decide +kernel
theorem dX10_isSure_54 : decode cX10_isSure 54 = .ok (.ireturn, 1) := by decide +kernel
theorem dX10_stratumOf_0 : decode cX10_stratumOf 0 = .ok (.aload_n 0, 1) := by decide +kernel
theorem dX10_stratumOf_1 : decode cX10_stratumOf 1 = .ok (.iconst 0, 1) := by decide +kernel
theorem dX10_stratumOf_2 : decode cX10_stratumOf 2 = .ok (.putfield 58, 3) := by decide +kernel
theorem dX10_stratumOf_5 : decode cX10_stratumOf 5 = .ok (.aload_n 0, 1) := by decide +kernel
theorem dX10_stratumOf_6 : decode cX10_stratumOf 6 = .ok (.iload_n 1, 1) := by decide +kernel
theorem dX10_stratumOf_7 : decode cX10_stratumOf 7 = .ok (.invokevirtual 176, 3) := by decide +kernel
theorem dX10_stratumOf_10 : decode cX10_stratumOf 10 = .ok (.ifCond .eq 11, 3) := by decide +kernel
theorem dX10_stratumOf_13 : decode cX10_stratumOf 13 = .ok (.aload_n 0, 1) := by decide +kernel
theorem dX10_stratumOf_14 : decode cX10_stratumOf 14 = .ok (.iload_n 1, 1) := by decide +kernel
theorem dX10_stratumOf_15 : decode cX10_stratumOf 15 = .ok (.invokevirtual 116, 3) := by decide +kernel
theorem dX10_stratumOf_18 : decode cX10_stratumOf 18 = .ok (.goto 8, 3) := by decide +kernel
theorem dX10_stratumOf_21 : decode cX10_stratumOf 21 = .ok (.aload_n 0, 1) := by decide +kernel
theorem dX10_stratumOf_22 : decode cX10_stratumOf 22 = .ok (.iconst 1, 1) := by decide +kernel
theorem dX10_stratumOf_23 : decode cX10_stratumOf 23 = .ok (.invokevirtual 395, 3) := by decide +kernel
theorem dX10_stratumOf_26 : decode cX10_stratumOf 26 = .ok (.ireturn, 1) := by decide +kernel
theorem dX10_whatOf_0 : decode cX10_whatOf 0 = .ok (.aload_n 0, 1) := by decide +kernel
theorem dX10_whatOf_1 : decode cX10_whatOf 1 = .ok (.iconst 0, 1) := by decide +kernel
theorem dX10_whatOf_2 : decode cX10_whatOf 2 = .ok (.putfield 58, 3) := by decide +kernel
theorem dX10_whatOf_5 : decode cX10_whatOf 5 = .ok (.aload_n 0, 1) := by decide +kernel
theorem dX10_whatOf_6 : decode cX10_whatOf 6 = .ok (.iload_n 1, 1) := by decide +kernel
theorem dX10_whatOf_7 : decode cX10_whatOf 7 = .ok (.invokevirtual 176, 3) := by decide +kernel
theorem dX10_whatOf_10 : decode cX10_whatOf 10 = .ok (.ifCond .ne 9, 3) := by decide +kernel
theorem dX10_whatOf_13 : decode cX10_whatOf 13 = .ok (.aload_n 0, 1) := by decide +kernel
theorem dX10_whatOf_14 : decode cX10_whatOf 14 = .ok (.iconst 1, 1) := by decide +kernel
theorem dX10_whatOf_15 : decode cX10_whatOf 15 = .ok (.invokevirtual 395, 3) := by decide +kernel
theorem dX10_whatOf_18 : decode cX10_whatOf 18 = .ok (.ireturn, 1) := by decide +kernel
theorem dX10_whatOf_19 : decode cX10_whatOf 19 = .ok (.aload_n 0, 1) := by decide +kernel
theorem dX10_whatOf_20 : decode cX10_whatOf 20 = .ok (.getfield 20, 3) := by decide +kernel
theorem dX10_whatOf_23 : decode cX10_whatOf 23 = .ok (.getfield 119, 3) := by decide +kernel
theorem dX10_whatOf_26 : decode cX10_whatOf 26 = .ok (.iload_n 1, 1) := by decide +kernel
theorem dX10_whatOf_27 : decode cX10_whatOf 27 = .ok (.baload, 1) := by decide +kernel
theorem dX10_whatOf_28 : decode cX10_whatOf 28 = .ok (.iload_n 2, 1) := by decide +kernel
theorem dX10_whatOf_29 : decode cX10_whatOf 29 = .ok (.if_icmp .ne 15, 3) := by decide +kernel
theorem dX10_whatOf_32 : decode cX10_whatOf 32 = .ok (.aload_n 0, 1) := by decide +kernel
theorem dX10_whatOf_33 : decode cX10_whatOf 33 = .ok (.getfield 20, 3) := by decide +kernel
theorem dX10_whatOf_36 : decode cX10_whatOf 36 = .ok (.getfield 122, 3) := by decide +kernel
theorem dX10_whatOf_39 : decode cX10_whatOf 39 = .ok (.iload_n 1, 1) := by decide +kernel
theorem dX10_whatOf_40 : decode cX10_whatOf 40 = .ok (.iaload, 1) := by decide +kernel
theorem dX10_whatOf_41 : decode cX10_whatOf 41 = .ok (.goto 8, 3) := by decide +kernel
theorem dX10_whatOf_44 : decode cX10_whatOf 44 = .ok (.aload_n 0, 1) := by decide +kernel
theorem dX10_whatOf_45 : decode cX10_whatOf 45 = .ok (.iconst 2, 1) := by decide +kernel
theorem dX10_whatOf_46 : decode cX10_whatOf 46 = .ok (.invokevirtual 395, 3) := by decide +kernel
theorem dX10_whatOf_49 : decode cX10_whatOf 49 = .ok (.ireturn, 1) := by decide +kernel
theorem dX10_yearOf_0 : decode cX10_yearOf 0 = .ok (.aload_n 0, 1) := by decide +kernel
theorem dX10_yearOf_1 : decode cX10_yearOf 1 = .ok (.iload_n 1, 1) := by decide +kernel
theorem dX10_yearOf_2 : decode cX10_yearOf 2 = .ok (.iconst 1, 1) := by decide +kernel
theorem dX10_yearOf_3 : decode cX10_yearOf 3 = .ok (.invokevirtual 413, 3) := by decide +kernel
theorem dX10_yearOf_6 : decode cX10_yearOf 6 = .ok (.ireturn, 1) := by decide +kernel
theorem dX10_empireOf_0 : decode cX10_empireOf 0 = .ok (.aload_n 0, 1) := by decide +kernel
theorem dX10_empireOf_1 : decode cX10_empireOf 1 = .ok (.iload_n 1, 1) := by decide +kernel
theorem dX10_empireOf_2 : decode cX10_empireOf 2 = .ok (.iconst 0, 1) := by decide +kernel
theorem dX10_empireOf_3 : decode cX10_empireOf 3 = .ok (.invokevirtual 413, 3) := by decide +kernel
theorem dX10_empireOf_6 : decode cX10_empireOf 6 = .ok (.ireturn, 1) := by decide +kernel
theorem dX10_buriedUnder_0 : decode cX10_buriedUnder 0 = .ok (.aload_n 0, 1) := by decide +kernel
theorem dX10_buriedUnder_1 : decode cX10_buriedUnder 1 = .ok (.iconst 0, 1) := by decide +kernel
theorem dX10_buriedUnder_2 : decode cX10_buriedUnder 2 = .ok (.putfield 58, 3) := by decide +kernel
theorem dX10_buriedUnder_5 : decode cX10_buriedUnder 5 = .ok (.aload_n 0, 1) := by decide +kernel
theorem dX10_buriedUnder_6 : decode cX10_buriedUnder 6 = .ok (.iload_n 1, 1) := by decide +kernel
theorem dX10_buriedUnder_7 : decode cX10_buriedUnder 7 = .ok (.invokevirtual 176, 3) := by decide +kernel
theorem dX10_buriedUnder_10 : decode cX10_buriedUnder 10 = .ok (.ifCond .ne 9, 3) := by decide +kernel
theorem dX10_buriedUnder_13 : decode cX10_buriedUnder 13 = .ok (.aload_n 0, 1) := by decide +kernel
theorem dX10_buriedUnder_14 : decode cX10_buriedUnder 14 = .ok (.iconst 1, 1) := by decide +kernel
theorem dX10_buriedUnder_15 : decode cX10_buriedUnder 15 = .ok (.invokevirtual 395, 3) := by decide +kernel
theorem dX10_buriedUnder_18 : decode cX10_buriedUnder 18 = .ok (.ireturn, 1) := by decide +kernel
theorem dX10_buriedUnder_19 : decode cX10_buriedUnder 19 = .ok (.aload_n 0, 1) := by decide +kernel
theorem dX10_buriedUnder_20 : decode cX10_buriedUnder 20 = .ok (.getfield 40, 3) := by decide +kernel
theorem dX10_buriedUnder_23 : decode cX10_buriedUnder 23 = .ok (.sipush 173, 3) := by decide +kernel
theorem dX10_buriedUnder_26 : decode cX10_buriedUnder 26 = .ok (.iload_n 1, 1) := by decide +kernel
theorem dX10_buriedUnder_27 : decode cX10_buriedUnder 27 = .ok (.iadd, 1) := by decide +kernel
theorem dX10_buriedUnder_28 : decode cX10_buriedUnder 28 = .ok (.iaload, 1) := by decide +kernel
theorem dX10_buriedUnder_29 : decode cX10_buriedUnder 29 = .ok (.ifCond .le 11, 3) := by decide +kernel
theorem dX10_buriedUnder_32 : decode cX10_buriedUnder 32 = .ok (.aload_n 0, 1) := by decide +kernel
theorem dX10_buriedUnder_33 : decode cX10_buriedUnder 33 = .ok (.iconst 2, 1) := by decide +kernel
theorem dX10_buriedUnder_34 : decode cX10_buriedUnder 34 = .ok (.invokevirtual 395, 3) := by decide +kernel
theorem dX10_buriedUnder_37 : decode cX10_buriedUnder 37 = .ok (.goto 8, 3) := by decide +kernel
theorem dX10_buriedUnder_40 : decode cX10_buriedUnder 40 = .ok (.aload_n 0, 1) := by decide +kernel
theorem dX10_buriedUnder_41 : decode cX10_buriedUnder 41 = .ok (.iload_n 1, 1) := by decide +kernel
theorem dX10_buriedUnder_42 : decode cX10_buriedUnder 42 = .ok (.invokevirtual 417, 3) := by decide +kernel
theorem dX10_buriedUnder_45 : decode cX10_buriedUnder 45 = .ok (.ireturn, 1) := by decide +kernel
theorem dX10_notBefore_0 : decode cX10_notBefore 0 = .ok (.aload_n 0, 1) := by decide +kernel
theorem dX10_notBefore_1 : decode cX10_notBefore 1 = .ok (.iconst 0, 1) := by decide +kernel
theorem dX10_notBefore_2 : decode cX10_notBefore 2 = .ok (.putfield 58, 3) := by decide +kernel
theorem dX10_notBefore_5 : decode cX10_notBefore 5 = .ok (.aload_n 0, 1) := by decide +kernel
theorem dX10_notBefore_6 : decode cX10_notBefore 6 = .ok (.iload_n 1, 1) := by decide +kernel
theorem dX10_notBefore_7 : decode cX10_notBefore 7 = .ok (.invokevirtual 420, 3) := by decide +kernel
theorem dX10_notBefore_10 : decode cX10_notBefore 10 = .ok (.ifCond .eq 11, 3) := by decide +kernel
theorem dX10_notBefore_13 : decode cX10_notBefore 13 = .ok (.aload_n 0, 1) := by decide +kernel
theorem dX10_notBefore_14 : decode cX10_notBefore 14 = .ok (.iload_n 1, 1) := by decide +kernel
theorem dX10_notBefore_15 : decode cX10_notBefore 15 = .ok (.invokevirtual 423, 3) := by decide +kernel
theorem dX10_notBefore_18 : decode cX10_notBefore 18 = .ok (.goto 8, 3) := by decide +kernel
theorem dX10_notBefore_21 : decode cX10_notBefore 21 = .ok (.aload_n 0, 1) := by decide +kernel
theorem dX10_notBefore_22 : decode cX10_notBefore 22 = .ok (.iconst 1, 1) := by decide +kernel
theorem dX10_notBefore_23 : decode cX10_notBefore 23 = .ok (.invokevirtual 395, 3) := by decide +kernel
theorem dX10_notBefore_26 : decode cX10_notBefore 26 = .ok (.ireturn, 1) := by decide +kernel
theorem dX10_isSeenIn_0 : decode cX10_isSeenIn 0 = .ok (.aload_n 0, 1) := by decide +kernel
theorem dX10_isSeenIn_1 : decode cX10_isSeenIn 1 = .ok (.iconst 0, 1) := by decide +kernel
theorem dX10_isSeenIn_2 : decode cX10_isSeenIn 2 = .ok (.putfield 58, 3) := by decide +kernel
theorem dX10_isSeenIn_5 : decode cX10_isSeenIn 5 = .ok (.aload_n 0, 1) := by decide +kernel
theorem dX10_isSeenIn_6 : decode cX10_isSeenIn 6 = .ok (.iload_n 1, 1) := by decide +kernel
theorem dX10_isSeenIn_7 : decode cX10_isSeenIn 7 = .ok (.invokevirtual 420, 3) := by decide +kernel
theorem dX10_isSeenIn_10 : decode cX10_isSeenIn 10 = .ok (.ifCond .eq 29, 3) := by decide +kernel
theorem dX10_isSeenIn_13 : decode cX10_isSeenIn 13 = .ok (.iload_n 2, 1) := by decide +kernel
theorem dX10_isSeenIn_14 : decode cX10_isSeenIn 14 = .ok (.iconst 0, 1) := by decide +kernel
theorem dX10_isSeenIn_15 : decode cX10_isSeenIn 15 = .ok (.aload_n 0, 1) := by decide +kernel
theorem dX10_isSeenIn_16 : decode cX10_isSeenIn 16 = .ok (.getfield 20, 3) := by decide +kernel
theorem dX10_isSeenIn_19 : decode cX10_isSeenIn 19 = .ok (.getfield 137, 3) := by decide +kernel
theorem dX10_isSeenIn_22 : decode cX10_isSeenIn 22 = .ok (.iconst 1, 1) := by decide +kernel
theorem dX10_isSeenIn_23 : decode cX10_isSeenIn 23 = .ok (.isub, 1) := by decide +kernel
theorem dX10_isSeenIn_24 : decode cX10_isSeenIn 24 = .ok (.invokestatic 61, 3) := by decide +kernel
theorem dX10_isSeenIn_27 : decode cX10_isSeenIn 27 = .ok (.ifCond .eq 12, 3) := by decide +kernel
theorem dX10_isSeenIn_30 : decode cX10_isSeenIn 30 = .ok (.aload_n 0, 1) := by decide +kernel
theorem dX10_isSeenIn_31 : decode cX10_isSeenIn 31 = .ok (.iload_n 1, 1) := by decide +kernel
theorem dX10_isSeenIn_32 : decode cX10_isSeenIn 32 = .ok (.iload_n 2, 1) := by decide +kernel
theorem dX10_isSeenIn_33 : decode cX10_isSeenIn 33 = .ok (.invokevirtual 134, 3) := by decide +kernel
theorem dX10_isSeenIn_36 : decode cX10_isSeenIn 36 = .ok (.goto 8, 3) := by decide +kernel
theorem dX10_isSeenIn_39 : decode cX10_isSeenIn 39 = .ok (.aload_n 0, 1) := by decide +kernel
theorem dX10_isSeenIn_40 : decode cX10_isSeenIn 40 = .ok (.iconst 1, 1) := by decide +kernel
theorem dX10_isSeenIn_41 : decode cX10_isSeenIn 41 = .ok (.invokevirtual 404, 3) := by decide +kernel
theorem dX10_isSeenIn_44 : decode cX10_isSeenIn 44 = .ok (.ireturn, 1) := by decide +kernel
theorem dX10_isMixed_0 : decode cX10_isMixed 0 = .ok (.aload_n 0, 1) := by decide +kernel
theorem dX10_isMixed_1 : decode cX10_isMixed 1 = .ok (.iconst 0, 1) := by decide +kernel
theorem dX10_isMixed_2 : decode cX10_isMixed 2 = .ok (.putfield 58, 3) := by decide +kernel
theorem dX10_isMixed_5 : decode cX10_isMixed 5 = .ok (.aload_n 0, 1) := by decide +kernel
theorem dX10_isMixed_6 : decode cX10_isMixed 6 = .ok (.iload_n 1, 1) := by decide +kernel
theorem dX10_isMixed_7 : decode cX10_isMixed 7 = .ok (.invokevirtual 420, 3) := by decide +kernel
theorem dX10_isMixed_10 : decode cX10_isMixed 10 = .ok (.ifCond .eq 11, 3) := by decide +kernel
theorem dX10_isMixed_13 : decode cX10_isMixed 13 = .ok (.aload_n 0, 1) := by decide +kernel
theorem dX10_isMixed_14 : decode cX10_isMixed 14 = .ok (.iload_n 1, 1) := by decide +kernel
theorem dX10_isMixed_15 : decode cX10_isMixed 15 = .ok (.invokevirtual 426, 3) := by decide +kernel
theorem dX10_isMixed_18 : decode cX10_isMixed 18 = .ok (.goto 8, 3) := by decide +kernel
theorem dX10_isMixed_21 : decode cX10_isMixed 21 = .ok (.aload_n 0, 1) := by decide +kernel
theorem dX10_isMixed_22 : decode cX10_isMixed 22 = .ok (.iconst 1, 1) := by decide +kernel
theorem dX10_isMixed_23 : decode cX10_isMixed 23 = .ok (.invokevirtual 404, 3) := by decide +kernel
theorem dX10_isMixed_26 : decode cX10_isMixed 26 = .ok (.ireturn, 1) := by decide +kernel
theorem dX10_dig_0 : decode cX10_dig 0 = .ok (.aload_n 0, 1) := by decide +kernel
theorem dX10_dig_1 : decode cX10_dig 1 = .ok (.iload_n 1, 1) := by decide +kernel
theorem dX10_dig_2 : decode cX10_dig 2 = .ok (.invokevirtual 407, 3) := by decide +kernel
theorem dX10_dig_5 : decode cX10_dig 5 = .ok (.ifCond .eq 11, 3) := by decide +kernel
theorem dX10_dig_8 : decode cX10_dig 8 = .ok (.aload_n 0, 1) := by decide +kernel
theorem dX10_dig_9 : decode cX10_dig 9 = .ok (.iload_n 1, 1) := by decide +kernel
theorem dX10_dig_10 : decode cX10_dig 10 = .ok (.invokevirtual 157, 3) := by decide +kernel
theorem dX10_dig_13 : decode cX10_dig 13 = .ok (.goto 4, 3) := by decide +kernel
theorem dX10_dig_16 : decode cX10_dig 16 = .ok (.iconst 0, 1) := by decide +kernel
theorem dX10_dig_17 : decode cX10_dig 17 = .ok (.ireturn, 1) := by decide +kernel
theorem dX10_prop_0 : decode cX10_prop 0 = .ok (.aload_n 0, 1) := by decide +kernel
theorem dX10_prop_1 : decode cX10_prop 1 = .ok (.iconst 0, 1) := by decide +kernel
theorem dX10_prop_2 : decode cX10_prop 2 = .ok (.putfield 58, 3) := by decide +kernel
theorem dX10_prop_5 : decode cX10_prop 5 = .ok (.aload_n 0, 1) := by decide +kernel
theorem dX10_prop_6 : decode cX10_prop 6 = .ok (.iload_n 1, 1) := by decide +kernel
theorem dX10_prop_7 : decode cX10_prop 7 = .ok (.invokevirtual 78, 3) := by decide +kernel
theorem dX10_prop_10 : decode cX10_prop 10 = .ok (.ifCond .ne 9, 3) := by decide +kernel
theorem dX10_prop_13 : decode cX10_prop 13 = .ok (.aload_n 0, 1) := by decide +kernel
theorem dX10_prop_14 : decode cX10_prop 14 = .ok (.iconst 1, 1) := by decide +kernel
theorem dX10_prop_15 : decode cX10_prop 15 = .ok (.invokevirtual 395, 3) := by decide +kernel
theorem dX10_prop_18 : decode cX10_prop 18 = .ok (.ireturn, 1) := by decide +kernel
theorem dX10_prop_19 : decode cX10_prop 19 = .ok (.aload_n 0, 1) := by decide +kernel
theorem dX10_prop_20 : decode cX10_prop 20 = .ok (.iload_n 1, 1) := by decide +kernel
theorem dX10_prop_21 : decode cX10_prop 21 = .ok (.invokevirtual 82, 3) := by decide +kernel
theorem dX10_prop_24 : decode cX10_prop 24 = .ok (.ifCond .ne 10, 3) := by decide +kernel
theorem dX10_prop_27 : decode cX10_prop 27 = .ok (.aload_n 0, 1) := by decide +kernel
theorem dX10_prop_28 : decode cX10_prop 28 = .ok (.invokevirtual 160, 3) := by decide +kernel
theorem dX10_prop_31 : decode cX10_prop 31 = .ok (.ifCond .eq 9, 3) := by decide +kernel
theorem dX10_prop_34 : decode cX10_prop 34 = .ok (.aload_n 0, 1) := by decide +kernel
theorem dX10_prop_35 : decode cX10_prop 35 = .ok (.iconst 2, 1) := by decide +kernel
theorem dX10_prop_36 : decode cX10_prop 36 = .ok (.invokevirtual 395, 3) := by decide +kernel
theorem dX10_prop_39 : decode cX10_prop 39 = .ok (.ireturn, 1) := by decide +kernel
theorem dX10_prop_40 : decode cX10_prop 40 = .ok (.aload_n 0, 1) := by decide +kernel
theorem dX10_prop_41 : decode cX10_prop 41 = .ok (.getfield 40, 3) := by decide +kernel
theorem dX10_prop_44 : decode cX10_prop 44 = .ok (.iconst 4, 1) := by decide +kernel
theorem dX10_prop_45 : decode cX10_prop 45 = .ok (.dup2, 1) := by decide +kernel
theorem dX10_prop_46 : decode cX10_prop 46 = .ok (.iaload, 1) := by decide +kernel
theorem dX10_prop_47 : decode cX10_prop 47 = .ok (.iconst 1, 1) := by decide +kernel
theorem dX10_prop_48 : decode cX10_prop 48 = .ok (.iload_n 1, 1) := by decide +kernel
theorem dX10_prop_49 : decode cX10_prop 49 = .ok (.ishl, 1) := by decide +kernel
theorem dX10_prop_50 : decode cX10_prop 50 = .ok (.ior, 1) := by decide +kernel
theorem dX10_prop_51 : decode cX10_prop 51 = .ok (.iastore, 1) := by decide +kernel
theorem dX10_prop_52 : decode cX10_prop 52 = .ok (.aload_n 0, 1) := by decide +kernel
theorem dX10_prop_53 : decode cX10_prop 53 = .ok (.getfield 40, 3) := by decide +kernel
theorem dX10_prop_56 : decode cX10_prop 56 = .ok (.iconst 4, 1) := by decide +kernel
theorem dX10_prop_57 : decode cX10_prop 57 = .ok (.iaload, 1) := by decide +kernel
theorem dX10_prop_58 : decode cX10_prop 58 = .ok (.invokestatic 143, 3) := by decide +kernel
theorem dX10_prop_61 : decode cX10_prop 61 = .ok (.ireturn, 1) := by decide +kernel
theorem dX10_takeProp_0 : decode cX10_takeProp 0 = .ok (.aload_n 0, 1) := by decide +kernel
theorem dX10_takeProp_1 : decode cX10_takeProp 1 = .ok (.iconst 0, 1) := by decide +kernel
theorem dX10_takeProp_2 : decode cX10_takeProp 2 = .ok (.putfield 58, 3) := by decide +kernel
theorem dX10_takeProp_5 : decode cX10_takeProp 5 = .ok (.aload_n 0, 1) := by decide +kernel
theorem dX10_takeProp_6 : decode cX10_takeProp 6 = .ok (.iload_n 1, 1) := by decide +kernel
theorem dX10_takeProp_7 : decode cX10_takeProp 7 = .ok (.invokevirtual 78, 3) := by decide +kernel
theorem dX10_takeProp_10 : decode cX10_takeProp 10 = .ok (.ifCond .ne 9, 3) := by decide +kernel
theorem dX10_takeProp_13 : decode cX10_takeProp 13 = .ok (.aload_n 0, 1) := by decide +kernel
theorem dX10_takeProp_14 : decode cX10_takeProp 14 = .ok (.iconst 1, 1) := by decide +kernel
theorem dX10_takeProp_15 : decode cX10_takeProp 15 = .ok (.invokevirtual 395, 3) := by decide +kernel
theorem dX10_takeProp_18 : decode cX10_takeProp 18 = .ok (.ireturn, 1) := by decide +kernel
theorem dX10_takeProp_19 : decode cX10_takeProp 19 = .ok (.aload_n 0, 1) := by decide +kernel
theorem dX10_takeProp_20 : decode cX10_takeProp 20 = .ok (.iload_n 1, 1) := by decide +kernel
theorem dX10_takeProp_21 : decode cX10_takeProp 21 = .ok (.invokevirtual 82, 3) := by decide +kernel
theorem dX10_takeProp_24 : decode cX10_takeProp 24 = .ok (.ifCond .ne 9, 3) := by decide +kernel
theorem dX10_takeProp_27 : decode cX10_takeProp 27 = .ok (.aload_n 0, 1) := by decide +kernel
theorem dX10_takeProp_28 : decode cX10_takeProp 28 = .ok (.iconst 2, 1) := by decide +kernel
theorem dX10_takeProp_29 : decode cX10_takeProp 29 = .ok (.invokevirtual 395, 3) := by decide +kernel
theorem dX10_takeProp_32 : decode cX10_takeProp 32 = .ok (.ireturn, 1) := by decide +kernel
theorem dX10_takeProp_33 : decode cX10_takeProp 33 = .ok (.aload_n 0, 1) := by decide +kernel
theorem dX10_takeProp_34 : decode cX10_takeProp 34 = .ok (.getfield 40, 3) := by decide +kernel
theorem dX10_takeProp_37 : decode cX10_takeProp 37 = .ok (.iconst 4, 1) := by decide +kernel
theorem dX10_takeProp_38 : decode cX10_takeProp 38 = .ok (.dup2, 1) := by decide +kernel
theorem dX10_takeProp_39 : decode cX10_takeProp 39 = .ok (.iaload, 1) := by decide +kernel
theorem dX10_takeProp_40 : decode cX10_takeProp 40 = .ok (.iconst 1, 1) := by decide +kernel
theorem dX10_takeProp_41 : decode cX10_takeProp 41 = .ok (.iload_n 1, 1) := by decide +kernel
theorem dX10_takeProp_42 : decode cX10_takeProp 42 = .ok (.ishl, 1) := by decide +kernel
theorem dX10_takeProp_43 : decode cX10_takeProp 43 = .ok (.iconst (-1), 1) := by decide +kernel
theorem dX10_takeProp_44 : decode cX10_takeProp 44 = .ok (.ixor, 1) := by decide +kernel
theorem dX10_takeProp_45 : decode cX10_takeProp 45 = .ok (.iand, 1) := by decide +kernel
theorem dX10_takeProp_46 : decode cX10_takeProp 46 = .ok (.iastore, 1) := by decide +kernel
theorem dX10_takeProp_47 : decode cX10_takeProp 47 = .ok (.aload_n 0, 1) := by decide +kernel
theorem dX10_takeProp_48 : decode cX10_takeProp 48 = .ok (.invokevirtual 103, 3) := by decide +kernel
theorem dX10_takeProp_51 : decode cX10_takeProp 51 = .ok (.ireturn, 1) := by decide +kernel
theorem dX10_passDays_0 : decode cX10_passDays 0 = .ok (.aload_n 0, 1) := by decide +kernel
theorem dX10_passDays_1 : decode cX10_passDays 1 = .ok (.iconst 0, 1) := by decide +kernel
theorem dX10_passDays_2 : decode cX10_passDays 2 = .ok (.putfield 58, 3) := by decide +kernel
theorem dX10_passDays_5 : decode cX10_passDays 5 = .ok (.iload_n 1, 1) := by decide +kernel
theorem dX10_passDays_6 : decode cX10_passDays 6 = .ok (.iconst 1, 1) := by decide +kernel
theorem dX10_passDays_7 : decode cX10_passDays 7 = .ok (.bipush 30, 2) := by decide +kernel
theorem dX10_passDays_9 : decode cX10_passDays 9 = .ok (.invokestatic 61, 3) := by decide +kernel
theorem dX10_passDays_12 : decode cX10_passDays 12 = .ok (.ifCond .eq 11, 3) := by decide +kernel
theorem dX10_passDays_15 : decode cX10_passDays 15 = .ok (.aload_n 0, 1) := by decide +kernel
theorem dX10_passDays_16 : decode cX10_passDays 16 = .ok (.iload_n 1, 1) := by decide +kernel
theorem dX10_passDays_17 : decode cX10_passDays 17 = .ok (.invokevirtual 429, 3) := by decide +kernel
theorem dX10_passDays_20 : decode cX10_passDays 20 = .ok (.goto 8, 3) := by decide +kernel
theorem dX10_passDays_23 : decode cX10_passDays 23 = .ok (.aload_n 0, 1) := by decide +kernel
theorem dX10_passDays_24 : decode cX10_passDays 24 = .ok (.iconst 1, 1) := by decide +kernel
theorem dX10_passDays_25 : decode cX10_passDays 25 = .ok (.invokevirtual 395, 3) := by decide +kernel
theorem dX10_passDays_28 : decode cX10_passDays 28 = .ok (.ireturn, 1) := by decide +kernel
theorem dX10_foundAfter_0 : decode cX10_foundAfter 0 = .ok (.aload_n 0, 1) := by decide +kernel
theorem dX10_foundAfter_1 : decode cX10_foundAfter 1 = .ok (.iconst 0, 1) := by decide +kernel
theorem dX10_foundAfter_2 : decode cX10_foundAfter 2 = .ok (.putfield 58, 3) := by decide +kernel
theorem dX10_foundAfter_5 : decode cX10_foundAfter 5 = .ok (.iload_n 1, 1) := by decide +kernel
theorem dX10_foundAfter_6 : decode cX10_foundAfter 6 = .ok (.iconst 1, 1) := by decide +kernel
theorem dX10_foundAfter_7 : decode cX10_foundAfter 7 = .ok (.bipush 30, 2) := by decide +kernel
theorem dX10_foundAfter_9 : decode cX10_foundAfter 9 = .ok (.invokestatic 61, 3) := by decide +kernel
theorem dX10_foundAfter_12 : decode cX10_foundAfter 12 = .ok (.ifCond .ne 9, 3) := by decide +kernel
theorem dX10_foundAfter_15 : decode cX10_foundAfter 15 = .ok (.aload_n 0, 1) := by decide +kernel
theorem dX10_foundAfter_16 : decode cX10_foundAfter 16 = .ok (.iconst 1, 1) := by decide +kernel
theorem dX10_foundAfter_17 : decode cX10_foundAfter 17 = .ok (.invokevirtual 395, 3) := by decide +kernel
theorem dX10_foundAfter_20 : decode cX10_foundAfter 20 = .ok (.ireturn, 1) := by decide +kernel
theorem dX10_foundAfter_21 : decode cX10_foundAfter 21 = .ok (.aload_n 0, 1) := by decide +kernel
theorem dX10_foundAfter_22 : decode cX10_foundAfter 22 = .ok (.invokevirtual 432, 3) := by decide +kernel
theorem dX10_foundAfter_25 : decode cX10_foundAfter 25 = .ok (.aload_n 0, 1) := by decide +kernel
theorem dX10_foundAfter_26 : decode cX10_foundAfter 26 = .ok (.iload_n 1, 1) := by decide +kernel
theorem dX10_foundAfter_27 : decode cX10_foundAfter 27 = .ok (.invokevirtual 429, 3) := by decide +kernel
theorem dX10_foundAfter_30 : decode cX10_foundAfter 30 = .ok (.pop, 1) := by decide +kernel
theorem dX10_foundAfter_31 : decode cX10_foundAfter 31 = .ok (.aload_n 0, 1) := by decide +kernel
theorem dX10_foundAfter_32 : decode cX10_foundAfter 32 = .ok (.iconst 1, 1) := by decide +kernel
theorem dX10_foundAfter_33 : decode cX10_foundAfter 33 = .ok (.invokevirtual 164, 3) := by decide +kernel
theorem dX10_foundAfter_36 : decode cX10_foundAfter 36 = .ok (.istore_n 2, 1) := by decide +kernel
theorem dX10_foundAfter_37 : decode cX10_foundAfter 37 = .ok (.aload_n 0, 1) := by decide +kernel
theorem dX10_foundAfter_38 : decode cX10_foundAfter 38 = .ok (.invokevirtual 435, 3) := by decide +kernel
theorem dX10_foundAfter_41 : decode cX10_foundAfter 41 = .ok (.iload_n 2, 1) := by decide +kernel
theorem dX10_foundAfter_42 : decode cX10_foundAfter 42 = .ok (.ireturn, 1) := by decide +kernel
theorem dX10_daysUntilFound_0 : decode cX10_daysUntilFound 0 = .ok (.aload_n 0, 1) := by decide +kernel
theorem dX10_daysUntilFound_1 : decode cX10_daysUntilFound 1 = .ok (.iconst 0, 1) := by decide +kernel
theorem dX10_daysUntilFound_2 : decode cX10_daysUntilFound 2 = .ok (.putfield 58, 3) := by decide +kernel
theorem dX10_daysUntilFound_5 : decode cX10_daysUntilFound 5 = .ok (.aload_n 0, 1) := by decide +kernel
theorem dX10_daysUntilFound_6 : decode cX10_daysUntilFound 6 = .ok (.iload_n 1, 1) := by decide +kernel
theorem dX10_daysUntilFound_7 : decode cX10_daysUntilFound 7 = .ok (.invokevirtual 176, 3) := by decide +kernel
theorem dX10_daysUntilFound_10 : decode cX10_daysUntilFound 10 = .ok (.ifCond .ne 9, 3) := by decide +kernel
theorem dX10_daysUntilFound_13 : decode cX10_daysUntilFound 13 = .ok (.aload_n 0, 1) := by decide +kernel
theorem dX10_daysUntilFound_14 : decode cX10_daysUntilFound 14 = .ok (.iconst 1, 1) := by decide +kernel
theorem dX10_daysUntilFound_15 : decode cX10_daysUntilFound 15 = .ok (.invokevirtual 395, 3) := by decide +kernel
theorem dX10_daysUntilFound_18 : decode cX10_daysUntilFound 18 = .ok (.ireturn, 1) := by decide +kernel
theorem dX10_daysUntilFound_19 : decode cX10_daysUntilFound 19 = .ok (.aload_n 0, 1) := by decide +kernel
theorem dX10_daysUntilFound_20 : decode cX10_daysUntilFound 20 = .ok (.invokevirtual 432, 3) := by decide +kernel
theorem dX10_daysUntilFound_23 : decode cX10_daysUntilFound 23 = .ok (.iconst 0, 1) := by decide +kernel
theorem dX10_daysUntilFound_24 : decode cX10_daysUntilFound 24 = .ok (.istore_n 2, 1) := by decide +kernel
theorem dX10_daysUntilFound_25 : decode cX10_daysUntilFound 25 = .ok (.iload_n 2, 1) := by decide +kernel
theorem dX10_daysUntilFound_26 : decode cX10_daysUntilFound 26 = .ok (.bipush 30, 2) := by decide +kernel
theorem dX10_daysUntilFound_28 : decode cX10_daysUntilFound 28 = .ok (.if_icmp .gt 28, 3) := by decide +kernel
theorem dX10_daysUntilFound_31 : decode cX10_daysUntilFound 31 = .ok (.aload_n 0, 1) := by decide +kernel
theorem dX10_daysUntilFound_32 : decode cX10_daysUntilFound 32 = .ok (.getfield 40, 3) := by decide +kernel
theorem dX10_daysUntilFound_35 : decode cX10_daysUntilFound 35 = .ok (.sipush 173, 3) := by decide +kernel
theorem dX10_daysUntilFound_38 : decode cX10_daysUntilFound 38 = .ok (.iload_n 1, 1) := by decide +kernel
theorem dX10_daysUntilFound_39 : decode cX10_daysUntilFound 39 = .ok (.iadd, 1) := by decide +kernel
theorem dX10_daysUntilFound_40 : decode cX10_daysUntilFound 40 = .ok (.iaload, 1) := by decide +kernel
theorem dX10_daysUntilFound_41 : decode cX10_daysUntilFound 41 = .ok (.ifCond .ne 15, 3) := by decide +kernel
theorem dX10_daysUntilFound_44 : decode cX10_daysUntilFound 44 = .ok (.aload_n 0, 1) := by decide +kernel
theorem dX10_daysUntilFound_45 : decode cX10_daysUntilFound 45 = .ok (.iconst 1, 1) := by decide +kernel
theorem dX10_daysUntilFound_46 : decode cX10_daysUntilFound 46 = .ok (.invokevirtual 429, 3) := by decide +kernel
theorem dX10_daysUntilFound_49 : decode cX10_daysUntilFound 49 = .ok (.pop, 1) := by decide +kernel
theorem dX10_daysUntilFound_50 : decode cX10_daysUntilFound 50 = .ok (.iinc 2 1, 3) := by decide +kernel
theorem dX10_daysUntilFound_53 : decode cX10_daysUntilFound 53 = .ok (.goto (-28), 3) := by decide +kernel
theorem dX10_daysUntilFound_56 : decode cX10_daysUntilFound 56 = .ok (.aload_n 0, 1) := by decide +kernel
theorem dX10_daysUntilFound_57 : decode cX10_daysUntilFound 57 = .ok (.invokevirtual 435, 3) := by decide +kernel
theorem dX10_daysUntilFound_60 : decode cX10_daysUntilFound 60 = .ok (.iload_n 2, 1) := by decide +kernel
theorem dX10_daysUntilFound_61 : decode cX10_daysUntilFound 61 = .ok (.bipush 30, 2) := by decide +kernel
theorem dX10_daysUntilFound_63 : decode cX10_daysUntilFound 63 = .ok (.if_icmp .le 7, 3) := by decide +kernel
theorem dX10_daysUntilFound_66 : decode cX10_daysUntilFound 66 = .ok (.iconst (-1), 1) := by decide +kernel
theorem dX10_daysUntilFound_67 : decode cX10_daysUntilFound 67 = .ok (.goto 4, 3) := by decide +kernel
theorem dX10_daysUntilFound_70 : decode cX10_daysUntilFound 70 = .ok (.iload_n 2, 1) := by decide +kernel
theorem dX10_daysUntilFound_71 : decode cX10_daysUntilFound 71 = .ok (.ireturn, 1) := by decide +kernel
theorem dX10_slideBy_0 : decode cX10_slideBy 0 = .ok (.aload_n 0, 1) := by decide +kernel
theorem dX10_slideBy_1 : decode cX10_slideBy 1 = .ok (.invokevirtual 432, 3) := by decide +kernel
theorem dX10_slideBy_4 : decode cX10_slideBy 4 = .ok (.aload_n 0, 1) := by decide +kernel
theorem dX10_slideBy_5 : decode cX10_slideBy 5 = .ok (.getfield 40, 3) := by decide +kernel
theorem dX10_slideBy_8 : decode cX10_slideBy 8 = .ok (.iconst 3, 1) := by decide +kernel
theorem dX10_slideBy_9 : decode cX10_slideBy 9 = .ok (.iaload, 1) := by decide +kernel
theorem dX10_slideBy_10 : decode cX10_slideBy 10 = .ok (.istore_n 2, 1) := by decide +kernel
theorem dX10_slideBy_11 : decode cX10_slideBy 11 = .ok (.aload_n 0, 1) := by decide +kernel
theorem dX10_slideBy_12 : decode cX10_slideBy 12 = .ok (.iload_n 1, 1) := by decide +kernel
theorem dX10_slideBy_13 : decode cX10_slideBy 13 = .ok (.invokevirtual 157, 3) := by decide +kernel
theorem dX10_slideBy_16 : decode cX10_slideBy 16 = .ok (.pop, 1) := by decide +kernel
theorem dX10_slideBy_17 : decode cX10_slideBy 17 = .ok (.aload_n 0, 1) := by decide +kernel
theorem dX10_slideBy_18 : decode cX10_slideBy 18 = .ok (.getfield 40, 3) := by decide +kernel
theorem dX10_slideBy_21 : decode cX10_slideBy 21 = .ok (.iconst 3, 1) := by decide +kernel
theorem dX10_slideBy_22 : decode cX10_slideBy 22 = .ok (.iaload, 1) := by decide +kernel
theorem dX10_slideBy_23 : decode cX10_slideBy 23 = .ok (.iload_n 2, 1) := by decide +kernel
theorem dX10_slideBy_24 : decode cX10_slideBy 24 = .ok (.isub, 1) := by decide +kernel
theorem dX10_slideBy_25 : decode cX10_slideBy 25 = .ok (.istore_n 3, 1) := by decide +kernel
theorem dX10_slideBy_26 : decode cX10_slideBy 26 = .ok (.aload_n 0, 1) := by decide +kernel
theorem dX10_slideBy_27 : decode cX10_slideBy 27 = .ok (.invokevirtual 435, 3) := by decide +kernel
theorem dX10_slideBy_30 : decode cX10_slideBy 30 = .ok (.iload_n 3, 1) := by decide +kernel
theorem dX10_slideBy_31 : decode cX10_slideBy 31 = .ok (.ireturn, 1) := by decide +kernel
theorem dX10_wouldSlide_0 : decode cX10_wouldSlide 0 = .ok (.aload_n 0, 1) := by decide +kernel
theorem dX10_wouldSlide_1 : decode cX10_wouldSlide 1 = .ok (.iload_n 1, 1) := by decide +kernel
theorem dX10_wouldSlide_2 : decode cX10_wouldSlide 2 = .ok (.invokevirtual 407, 3) := by decide +kernel
theorem dX10_wouldSlide_5 : decode cX10_wouldSlide 5 = .ok (.ifCond .eq 11, 3) := by decide +kernel
theorem dX10_wouldSlide_8 : decode cX10_wouldSlide 8 = .ok (.aload_n 0, 1) := by decide +kernel
theorem dX10_wouldSlide_9 : decode cX10_wouldSlide 9 = .ok (.iload_n 1, 1) := by decide +kernel
theorem dX10_wouldSlide_10 : decode cX10_wouldSlide 10 = .ok (.invokevirtual 438, 3) := by decide +kernel
theorem dX10_wouldSlide_13 : decode cX10_wouldSlide 13 = .ok (.goto 4, 3) := by decide +kernel
theorem dX10_wouldSlide_16 : decode cX10_wouldSlide 16 = .ok (.iconst 0, 1) := by decide +kernel
theorem dX10_wouldSlide_17 : decode cX10_wouldSlide 17 = .ok (.ireturn, 1) := by decide +kernel
theorem dX10_best_0 : decode cX10_best 0 = .ok (.iconst (-1), 1) := by decide +kernel
theorem dX10_best_1 : decode cX10_best 1 = .ok (.istore_n 1, 1) := by decide +kernel
theorem dX10_best_2 : decode cX10_best 2 = .ok (.iconst 0, 1) := by decide +kernel
theorem dX10_best_3 : decode cX10_best 3 = .ok (.istore_n 2, 1) := by decide +kernel
theorem dX10_best_4 : decode cX10_best 4 = .ok (.iconst 0, 1) := by decide +kernel
theorem dX10_best_5 : decode cX10_best 5 = .ok (.istore_n 3, 1) := by decide +kernel
theorem dX10_best_6 : decode cX10_best 6 = .ok (.iload_n 3, 1) := by decide +kernel
theorem dX10_best_7 : decode cX10_best 7 = .ok (.aload_n 0, 1) := by decide +kernel
theorem dX10_best_8 : decode cX10_best 8 = .ok (.getfield 20, 3) := by decide +kernel
theorem dX10_best_11 : decode cX10_best 11 = .ok (.getfield 52, 3) := by decide +kernel
theorem dX10_best_14 : decode cX10_best 14 = .ok (.if_icmp .ge 65, 3) := by decide +kernel
theorem dX10_best_17 : decode cX10_best 17 = .ok (.aload_n 0, 1) := by decide +kernel
theorem dX10_best_18 : decode cX10_best 18 = .ok (.iload_n 3, 1) := by decide +kernel
theorem dX10_best_19 : decode cX10_best 19 = .ok (.invokevirtual 74, 3) := by decide +kernel
theorem dX10_best_22 : decode cX10_best 22 = .ok (.ifCond .ne 6, 3) := by decide +kernel
theorem dX10_best_25 : decode cX10_best 25 = .ok (.goto 48, 3) := by decide +kernel
theorem dX10_best_28 : decode cX10_best 28 = .ok (.aload_n 0, 1) := by decide +kernel
theorem dX10_best_29 : decode cX10_best 29 = .ok (.iload_n 3, 1) := by decide +kernel
theorem dX10_best_30 : decode cX10_best 30 = .ok (.invokevirtual 438, 3) := by decide +kernel
theorem dX10_best_33 : decode cX10_best 33 = .ok (.istore 4, 2) := by decide +kernel
theorem dX10_best_35 : decode cX10_best 35 = .ok (.iload_n 1, 1) := by decide +kernel
theorem dX10_best_36 : decode cX10_best 36 = .ok (.iconst (-1), 1) := by decide +kernel
theorem dX10_best_37 : decode cX10_best 37 = .ok (.if_icmp .eq 31, 3) := by decide +kernel
theorem dX10_best_40 : decode cX10_best 40 = .ok (.iload 4, 2) := by decide +kernel
theorem dX10_best_42 : decode cX10_best 42 = .ok (.iload_n 2, 1) := by decide +kernel
theorem dX10_best_43 : decode cX10_best 43 = .ok (.if_icmp .gt 30, 3) := by decide +kernel
theorem dX10_best_46 : decode cX10_best 46 = .ok (.iload 4, 2) := by decide +kernel
theorem dX10_best_48 : decode cX10_best 48 = .ok (.iload_n 2, 1) := by decide +kernel
theorem dX10_best_49 : decode cX10_best 49 = .ok (.if_icmp .ne 19, 3) := by decide +kernel
theorem dX10_best_52 : decode cX10_best 52 = .ok (.aload_n 0, 1) := by decide +kernel
theorem dX10_best_53 : decode cX10_best 53 = .ok (.iload_n 3, 1) := by decide +kernel
theorem dX10_best_54 : decode cX10_best 54 = .ok (.invokevirtual 410, 3) := by decide +kernel
theorem dX10_best_57 : decode cX10_best 57 = .ok (.aload_n 0, 1) := by decide +kernel
theorem dX10_best_58 : decode cX10_best 58 = .ok (.iload_n 1, 1) := by decide +kernel
theorem dX10_best_59 : decode cX10_best 59 = .ok (.invokevirtual 410, 3) := by decide +kernel
theorem dX10_best_62 : decode cX10_best 62 = .ok (.if_icmp .gt 6, 3) := by decide +kernel
theorem dX10_best_65 : decode cX10_best 65 = .ok (.goto 8, 3) := by decide +kernel
theorem dX10_best_68 : decode cX10_best 68 = .ok (.iload_n 3, 1) := by decide +kernel
theorem dX10_best_69 : decode cX10_best 69 = .ok (.istore_n 1, 1) := by decide +kernel
theorem dX10_best_70 : decode cX10_best 70 = .ok (.iload 4, 2) := by decide +kernel
theorem dX10_best_72 : decode cX10_best 72 = .ok (.istore_n 2, 1) := by decide +kernel
theorem dX10_best_73 : decode cX10_best 73 = .ok (.iinc 3 1, 3) := by decide +kernel
theorem dX10_best_76 : decode cX10_best 76 = .ok (.goto (-70), 3) := by decide +kernel
theorem dX10_best_79 : decode cX10_best 79 = .ok (.iload_n 1, 1) := by decide +kernel
theorem dX10_best_80 : decode cX10_best 80 = .ok (.ireturn, 1) := by decide +kernel
theorem dX10_bestDig_0 : decode cX10_bestDig 0 = .ok (.aload_n 0, 1) := by decide +kernel
theorem dX10_bestDig_1 : decode cX10_bestDig 1 = .ok (.aload_n 0, 1) := by decide +kernel
theorem dX10_bestDig_2 : decode cX10_bestDig 2 = .ok (.invokevirtual 441, 3) := by decide +kernel
theorem dX10_bestDig_5 : decode cX10_bestDig 5 = .ok (.invokevirtual 401, 3) := by decide +kernel
theorem dX10_bestDig_8 : decode cX10_bestDig 8 = .ok (.ireturn, 1) := by decide +kernel
theorem dX10_meanYear_0 : decode cX10_meanYear 0 = .ok (.aload_n 0, 1) := by decide +kernel
theorem dX10_meanYear_1 : decode cX10_meanYear 1 = .ok (.iconst 0, 1) := by decide +kernel
theorem dX10_meanYear_2 : decode cX10_meanYear 2 = .ok (.putfield 58, 3) := by decide +kernel
theorem dX10_meanYear_5 : decode cX10_meanYear 5 = .ok (.iconst 0, 1) := by decide +kernel
theorem dX10_meanYear_6 : decode cX10_meanYear 6 = .ok (.istore_n 1, 1) := by decide +kernel
theorem dX10_meanYear_7 : decode cX10_meanYear 7 = .ok (.iconst 0, 1) := by decide +kernel
theorem dX10_meanYear_8 : decode cX10_meanYear 8 = .ok (.istore_n 2, 1) := by decide +kernel
theorem dX10_meanYear_9 : decode cX10_meanYear 9 = .ok (.iconst 0, 1) := by decide +kernel
theorem dX10_meanYear_10 : decode cX10_meanYear 10 = .ok (.istore_n 3, 1) := by decide +kernel
theorem dX10_meanYear_11 : decode cX10_meanYear 11 = .ok (.iload_n 3, 1) := by decide +kernel
theorem dX10_meanYear_12 : decode cX10_meanYear 12 = .ok (.aload_n 0, 1) := by decide +kernel
theorem dX10_meanYear_13 : decode cX10_meanYear 13 = .ok (.getfield 20, 3) := by decide +kernel
theorem dX10_meanYear_16 : decode cX10_meanYear 16 = .ok (.getfield 65, 3) := by decide +kernel
theorem dX10_meanYear_19 : decode cX10_meanYear 19 = .ok (.if_icmp .ge 47, 3) := by decide +kernel
theorem dX10_meanYear_22 : decode cX10_meanYear 22 = .ok (.aload_n 0, 1) := by decide +kernel
theorem dX10_meanYear_23 : decode cX10_meanYear 23 = .ok (.getfield 20, 3) := by decide +kernel
theorem dX10_meanYear_26 : decode cX10_meanYear 26 = .ok (.getfield 119, 3) := by decide +kernel
theorem dX10_meanYear_29 : decode cX10_meanYear 29 = .ok (.iload_n 3, 1) := by decide +kernel
theorem dX10_meanYear_30 : decode cX10_meanYear 30 = .ok (.baload, 1) := by decide +kernel
theorem dX10_meanYear_31 : decode cX10_meanYear 31 = .ok (.ifCond .eq 29, 3) := by decide +kernel
theorem dX10_meanYear_34 : decode cX10_meanYear 34 = .ok (.aload_n 0, 1) := by decide +kernel
theorem dX10_meanYear_35 : decode cX10_meanYear 35 = .ok (.iload_n 3, 1) := by decide +kernel
theorem dX10_meanYear_36 : decode cX10_meanYear 36 = .ok (.invokevirtual 113, 3) := by decide +kernel
theorem dX10_meanYear_39 : decode cX10_meanYear 39 = .ok (.ifCond .ne 6, 3) := by decide +kernel
theorem dX10_meanYear_42 : decode cX10_meanYear 42 = .ok (.goto 18, 3) := by decide +kernel
theorem dX10_meanYear_45 : decode cX10_meanYear 45 = .ok (.iload_n 1, 1) := by decide +kernel
theorem dX10_meanYear_46 : decode cX10_meanYear 46 = .ok (.aload_n 0, 1) := by decide +kernel
theorem dX10_meanYear_47 : decode cX10_meanYear 47 = .ok (.getfield 20, 3) := by decide +kernel
theorem dX10_meanYear_50 : decode cX10_meanYear 50 = .ok (.getfield 122, 3) := by decide +kernel
theorem dX10_meanYear_53 : decode cX10_meanYear 53 = .ok (.iload_n 3, 1) := by decide +kernel
theorem dX10_meanYear_54 : decode cX10_meanYear 54 = .ok (.iaload, 1) := by decide +kernel
theorem dX10_meanYear_55 : decode cX10_meanYear 55 = .ok (.iadd, 1) := by decide +kernel
theorem dX10_meanYear_56 : decode cX10_meanYear 56 = .ok (.istore_n 1, 1) := by decide +kernel
theorem dX10_meanYear_57 : decode cX10_meanYear 57 = .ok (.iinc 2 1, 3) := by decide +kernel
theorem dX10_meanYear_60 : decode cX10_meanYear 60 = .ok (.iinc 3 1, 3) := by decide +kernel
theorem dX10_meanYear_63 : decode cX10_meanYear 63 = .ok (.goto (-52), 3) := by decide +kernel
theorem dX10_meanYear_66 : decode cX10_meanYear 66 = .ok (.iload_n 2, 1) := by decide +kernel
theorem dX10_meanYear_67 : decode cX10_meanYear 67 = .ok (.ifCond .ne 7, 3) := by decide +kernel
theorem dX10_meanYear_70 : decode cX10_meanYear 70 = .ok (.dconst 0, 1) := by decide +kernel
theorem dX10_meanYear_71 : decode cX10_meanYear 71 = .ok (.goto 8, 3) := by decide +kernel
theorem dX10_meanYear_74 : decode cX10_meanYear 74 = .ok (.iload_n 1, 1) := by decide +kernel
theorem dX10_meanYear_75 : decode cX10_meanYear 75 = .ok (.i2d, 1) := by decide +kernel
theorem dX10_meanYear_76 : decode cX10_meanYear 76 = .ok (.iload_n 2, 1) := by decide +kernel
theorem dX10_meanYear_77 : decode cX10_meanYear 77 = .ok (.i2d, 1) := by decide +kernel
theorem dX10_meanYear_78 : decode cX10_meanYear 78 = .ok (.ddiv, 1) := by decide +kernel
theorem dX10_meanYear_79 : decode cX10_meanYear 79 = .ok (.dreturn, 1) := by decide +kernel
theorem dX10_digest_0 : decode cX10_digest 0 = .ok (.aload_n 0, 1) := by decide +kernel
theorem dX10_digest_1 : decode cX10_digest 1 = .ok (.iconst 0, 1) := by decide +kernel
theorem dX10_digest_2 : decode cX10_digest 2 = .ok (.putfield 58, 3) := by decide +kernel
theorem dX10_digest_5 : decode cX10_digest 5 = .ok (.bipush 10, 2) := by decide +kernel
theorem dX10_digest_7 : decode cX10_digest 7 = .ok (.newarray .int, 2) := by decide +kernel
theorem dX10_digest_9 : decode cX10_digest 9 = .ok (.dup, 1) := by decide +kernel
theorem dX10_digest_10 : decode cX10_digest 10 = .ok (.iconst 0, 1) := by decide +kernel
theorem dX10_digest_11 : decode cX10_digest 11 = .ok (.aload_n 0, 1) := by decide +kernel
theorem dX10_digest_12 : decode cX10_digest 12 = .ok (.getfield 20, 3) := by decide +kernel
theorem dX10_digest_15 : decode cX10_digest 15 = .ok (.getfield 52, 3) := by decide +kernel
theorem dX10_digest_18 : decode cX10_digest 18 = .ok (.iastore, 1) := by decide +kernel
theorem dX10_digest_19 : decode cX10_digest 19 = .ok (.dup, 1) := by decide +kernel
theorem dX10_digest_20 : decode cX10_digest 20 = .ok (.iconst 1, 1) := by decide +kernel
theorem dX10_digest_21 : decode cX10_digest 21 = .ok (.aload_n 0, 1) := by decide +kernel
theorem dX10_digest_22 : decode cX10_digest 22 = .ok (.getfield 20, 3) := by decide +kernel
theorem dX10_digest_25 : decode cX10_digest 25 = .ok (.getfield 55, 3) := by decide +kernel
theorem dX10_digest_28 : decode cX10_digest 28 = .ok (.iastore, 1) := by decide +kernel
theorem dX10_digest_29 : decode cX10_digest 29 = .ok (.dup, 1) := by decide +kernel
theorem dX10_digest_30 : decode cX10_digest 30 = .ok (.iconst 2, 1) := by decide +kernel
theorem dX10_digest_31 : decode cX10_digest 31 = .ok (.aload_n 0, 1) := by decide +kernel
theorem dX10_digest_32 : decode cX10_digest 32 = .ok (.getfield 20, 3) := by decide +kernel
theorem dX10_digest_35 : decode cX10_digest 35 = .ok (.getfield 65, 3) := by decide +kernel
theorem dX10_digest_38 : decode cX10_digest 38 = .ok (.iastore, 1) := by decide +kernel
theorem dX10_digest_39 : decode cX10_digest 39 = .ok (.dup, 1) := by decide +kernel
theorem dX10_digest_40 : decode cX10_digest 40 = .ok (.iconst 3, 1) := by decide +kernel
theorem dX10_digest_41 : decode cX10_digest 41 = .ok (.aload_n 0, 1) := by decide +kernel
theorem dX10_digest_42 : decode cX10_digest 42 = .ok (.getfield 40, 3) := by decide +kernel
theorem dX10_digest_45 : decode cX10_digest 45 = .ok (.iconst 0, 1) := by decide +kernel
theorem dX10_digest_46 : decode cX10_digest 46 = .ok (.iaload, 1) := by decide +kernel
theorem dX10_digest_47 : decode cX10_digest 47 = .ok (.iastore, 1) := by decide +kernel
theorem dX10_digest_48 : decode cX10_digest 48 = .ok (.dup, 1) := by decide +kernel
theorem dX10_digest_49 : decode cX10_digest 49 = .ok (.iconst 4, 1) := by decide +kernel
theorem dX10_digest_50 : decode cX10_digest 50 = .ok (.aload_n 0, 1) := by decide +kernel
theorem dX10_digest_51 : decode cX10_digest 51 = .ok (.getfield 40, 3) := by decide +kernel
theorem dX10_digest_54 : decode cX10_digest 54 = .ok (.iconst 1, 1) := by decide +kernel
theorem dX10_digest_55 : decode cX10_digest 55 = .ok (.iaload, 1) := by decide +kernel
theorem dX10_digest_56 : decode cX10_digest 56 = .ok (.iastore, 1) := by decide +kernel
theorem dX10_digest_57 : decode cX10_digest 57 = .ok (.dup, 1) := by decide +kernel
theorem dX10_digest_58 : decode cX10_digest 58 = .ok (.iconst 5, 1) := by decide +kernel
theorem dX10_digest_59 : decode cX10_digest 59 = .ok (.aload_n 0, 1) := by decide +kernel
theorem dX10_digest_60 : decode cX10_digest 60 = .ok (.getfield 40, 3) := by decide +kernel
theorem dX10_digest_63 : decode cX10_digest 63 = .ok (.iconst 2, 1) := by decide +kernel
theorem dX10_digest_64 : decode cX10_digest 64 = .ok (.iaload, 1) := by decide +kernel
theorem dX10_digest_65 : decode cX10_digest 65 = .ok (.iastore, 1) := by decide +kernel
theorem dX10_digest_66 : decode cX10_digest 66 = .ok (.dup, 1) := by decide +kernel
theorem dX10_digest_67 : decode cX10_digest 67 = .ok (.bipush 6, 2) := by decide +kernel
theorem dX10_digest_69 : decode cX10_digest 69 = .ok (.aload_n 0, 1) := by decide +kernel
theorem dX10_digest_70 : decode cX10_digest 70 = .ok (.getfield 40, 3) := by decide +kernel
theorem dX10_digest_73 : decode cX10_digest 73 = .ok (.iconst 3, 1) := by decide +kernel
theorem dX10_digest_74 : decode cX10_digest 74 = .ok (.iaload, 1) := by decide +kernel
theorem dX10_digest_75 : decode cX10_digest 75 = .ok (.iastore, 1) := by decide +kernel
theorem dX10_digest_76 : decode cX10_digest 76 = .ok (.dup, 1) := by decide +kernel
theorem dX10_digest_77 : decode cX10_digest 77 = .ok (.bipush 7, 2) := by decide +kernel
theorem dX10_digest_79 : decode cX10_digest 79 = .ok (.aload_n 0, 1) := by decide +kernel
theorem dX10_digest_80 : decode cX10_digest 80 = .ok (.iconst 1, 1) := by decide +kernel
theorem dX10_digest_81 : decode cX10_digest 81 = .ok (.invokevirtual 164, 3) := by decide +kernel
theorem dX10_digest_84 : decode cX10_digest 84 = .ok (.iastore, 1) := by decide +kernel
theorem dX10_digest_85 : decode cX10_digest 85 = .ok (.dup, 1) := by decide +kernel
theorem dX10_digest_86 : decode cX10_digest 86 = .ok (.bipush 8, 2) := by decide +kernel
theorem dX10_digest_88 : decode cX10_digest 88 = .ok (.aload_n 0, 1) := by decide +kernel
theorem dX10_digest_89 : decode cX10_digest 89 = .ok (.iconst 2, 1) := by decide +kernel
theorem dX10_digest_90 : decode cX10_digest 90 = .ok (.invokevirtual 164, 3) := by decide +kernel
theorem dX10_digest_93 : decode cX10_digest 93 = .ok (.iastore, 1) := by decide +kernel
theorem dX10_digest_94 : decode cX10_digest 94 = .ok (.dup, 1) := by decide +kernel
theorem dX10_digest_95 : decode cX10_digest 95 = .ok (.bipush 9, 2) := by decide +kernel
theorem dX10_digest_97 : decode cX10_digest 97 = .ok (.aload_n 0, 1) := by decide +kernel
theorem dX10_digest_98 : decode cX10_digest 98 = .ok (.invokevirtual 441, 3) := by decide +kernel
theorem dX10_digest_101 : decode cX10_digest 101 = .ok (.iastore, 1) := by decide +kernel
theorem dX10_digest_102 : decode cX10_digest 102 = .ok (.astore_n 1, 1) := by decide +kernel
theorem dX10_digest_103 : decode cX10_digest 103 = .ok (.ldc2_w 444, 3) := by decide +kernel
theorem dX10_digest_106 : decode cX10_digest 106 = .ok (.lstore_n 2, 1) := by decide +kernel
theorem dX10_digest_107 : decode cX10_digest 107 = .ok (.aload_n 1, 1) := by decide +kernel
theorem dX10_digest_108 : decode cX10_digest 108 = .ok (.astore 4, 2) := by decide +kernel
theorem dX10_digest_110 : decode cX10_digest 110 = .ok (.aload 4, 2) := by decide +kernel
theorem dX10_digest_112 : decode cX10_digest 112 = .ok (.arraylength, 1) := by decide +kernel
theorem dX10_digest_113 : decode cX10_digest 113 = .ok (.istore 5, 2) := by decide +kernel
theorem dX10_digest_115 : decode cX10_digest 115 = .ok (.iconst 0, 1) := by decide +kernel
theorem dX10_digest_116 : decode cX10_digest 116 = .ok (.istore 6, 2) := by decide +kernel
theorem dX10_digest_118 : decode cX10_digest 118 = .ok (.iload 6, 2) := by decide +kernel
theorem dX10_digest_120 : decode cX10_digest 120 = .ok (.iload 5, 2) := by decide +kernel
theorem dX10_digest_122 : decode cX10_digest 122 = .ok (.if_icmp .ge 26, 3) := by decide +kernel
theorem dX10_digest_125 : decode cX10_digest 125 = .ok (.aload 4, 2) := by decide +kernel
theorem dX10_digest_127 : decode cX10_digest 127 = .ok (.iload 6, 2) := by decide +kernel
theorem dX10_digest_129 : decode cX10_digest 129 = .ok (.iaload, 1) := by decide +kernel
theorem dX10_digest_130 : decode cX10_digest 130 = .ok (.istore 7, 2) := by decide +kernel
theorem dX10_digest_132 : decode cX10_digest 132 = .ok (.lload_n 2, 1) := by decide +kernel
theorem dX10_digest_133 : decode cX10_digest 133 = .ok (.ldc2_w 446, 3) := by decide +kernel
theorem dX10_digest_136 : decode cX10_digest 136 = .ok (.lmul, 1) := by decide +kernel
theorem dX10_digest_137 : decode cX10_digest 137 = .ok (.iload 7, 2) := by decide +kernel
theorem dX10_digest_139 : decode cX10_digest 139 = .ok (.i2l, 1) := by decide +kernel
theorem dX10_digest_140 : decode cX10_digest 140 = .ok (.ladd, 1) := by decide +kernel
theorem dX10_digest_141 : decode cX10_digest 141 = .ok (.lstore_n 2, 1) := by decide +kernel
theorem dX10_digest_142 : decode cX10_digest 142 = .ok (.iinc 6 1, 3) := by decide +kernel
theorem dX10_digest_145 : decode cX10_digest 145 = .ok (.goto (-27), 3) := by decide +kernel
theorem dX10_digest_148 : decode cX10_digest 148 = .ok (.iconst 0, 1) := by decide +kernel
theorem dX10_digest_149 : decode cX10_digest 149 = .ok (.istore 4, 2) := by decide +kernel
theorem dX10_digest_151 : decode cX10_digest 151 = .ok (.iload 4, 2) := by decide +kernel
theorem dX10_digest_153 : decode cX10_digest 153 = .ok (.aload_n 0, 1) := by decide +kernel
theorem dX10_digest_154 : decode cX10_digest 154 = .ok (.getfield 20, 3) := by decide +kernel
theorem dX10_digest_157 : decode cX10_digest 157 = .ok (.getfield 52, 3) := by decide +kernel
theorem dX10_digest_160 : decode cX10_digest 160 = .ok (.if_icmp .ge 78, 3) := by decide +kernel
theorem dX10_digest_163 : decode cX10_digest 163 = .ok (.lload_n 2, 1) := by decide +kernel
theorem dX10_digest_164 : decode cX10_digest 164 = .ok (.ldc2_w 446, 3) := by decide +kernel
theorem dX10_digest_167 : decode cX10_digest 167 = .ok (.lmul, 1) := by decide +kernel
theorem dX10_digest_168 : decode cX10_digest 168 = .ok (.aload_n 0, 1) := by decide +kernel
theorem dX10_digest_169 : decode cX10_digest 169 = .ok (.iload 4, 2) := by decide +kernel
theorem dX10_digest_171 : decode cX10_digest 171 = .ok (.invokevirtual 74, 3) := by decide +kernel
theorem dX10_digest_174 : decode cX10_digest 174 = .ok (.i2l, 1) := by decide +kernel
theorem dX10_digest_175 : decode cX10_digest 175 = .ok (.ladd, 1) := by decide +kernel
theorem dX10_digest_176 : decode cX10_digest 176 = .ok (.ldc2_w 446, 3) := by decide +kernel
theorem dX10_digest_179 : decode cX10_digest 179 = .ok (.lmul, 1) := by decide +kernel
theorem dX10_digest_180 : decode cX10_digest 180 = .ok (.aload_n 0, 1) := by decide +kernel
theorem dX10_digest_181 : decode cX10_digest 181 = .ok (.iload 4, 2) := by decide +kernel
theorem dX10_digest_183 : decode cX10_digest 183 = .ok (.invokevirtual 82, 3) := by decide +kernel
theorem dX10_digest_186 : decode cX10_digest 186 = .ok (.invokestatic 106, 3) := by decide +kernel
theorem dX10_digest_189 : decode cX10_digest 189 = .ok (.i2l, 1) := by decide +kernel
theorem dX10_digest_190 : decode cX10_digest 190 = .ok (.ladd, 1) := by decide +kernel
theorem dX10_digest_191 : decode cX10_digest 191 = .ok (.ldc2_w 446, 3) := by decide +kernel
theorem dX10_digest_194 : decode cX10_digest 194 = .ok (.lmul, 1) := by decide +kernel
theorem dX10_digest_195 : decode cX10_digest 195 = .ok (.aload_n 0, 1) := by decide +kernel
theorem dX10_digest_196 : decode cX10_digest 196 = .ok (.iload 4, 2) := by decide +kernel
theorem dX10_digest_198 : decode cX10_digest 198 = .ok (.invokevirtual 410, 3) := by decide +kernel
theorem dX10_digest_201 : decode cX10_digest 201 = .ok (.i2l, 1) := by decide +kernel
theorem dX10_digest_202 : decode cX10_digest 202 = .ok (.ladd, 1) := by decide +kernel
theorem dX10_digest_203 : decode cX10_digest 203 = .ok (.ldc2_w 446, 3) := by decide +kernel
theorem dX10_digest_206 : decode cX10_digest 206 = .ok (.lmul, 1) := by decide +kernel
theorem dX10_digest_207 : decode cX10_digest 207 = .ok (.aload_n 0, 1) := by decide +kernel
theorem dX10_digest_208 : decode cX10_digest 208 = .ok (.iload 4, 2) := by decide +kernel
theorem dX10_digest_210 : decode cX10_digest 210 = .ok (.invokevirtual 74, 3) := by decide +kernel
theorem dX10_digest_213 : decode cX10_digest 213 = .ok (.ifCond .ne 7, 3) := by decide +kernel
theorem dX10_digest_216 : decode cX10_digest 216 = .ok (.iconst (-1), 1) := by decide +kernel
theorem dX10_digest_217 : decode cX10_digest 217 = .ok (.goto 12, 3) := by decide +kernel
theorem dX10_digest_220 : decode cX10_digest 220 = .ok (.aload_n 0, 1) := by decide +kernel
theorem dX10_digest_221 : decode cX10_digest 221 = .ok (.iload 4, 2) := by decide +kernel
theorem dX10_digest_223 : decode cX10_digest 223 = .ok (.invokevirtual 89, 3) := by decide +kernel
theorem dX10_digest_226 : decode cX10_digest 226 = .ok (.bipush 10, 2) := by decide +kernel
theorem dX10_digest_228 : decode cX10_digest 228 = .ok (.irem, 1) := by decide +kernel
theorem dX10_digest_229 : decode cX10_digest 229 = .ok (.i2l, 1) := by decide +kernel
theorem dX10_digest_230 : decode cX10_digest 230 = .ok (.ladd, 1) := by decide +kernel
theorem dX10_digest_231 : decode cX10_digest 231 = .ok (.lstore_n 2, 1) := by decide +kernel
theorem dX10_digest_232 : decode cX10_digest 232 = .ok (.iinc 4 1, 3) := by decide +kernel
theorem dX10_digest_235 : decode cX10_digest 235 = .ok (.goto (-84), 3) := by decide +kernel
theorem dX10_digest_238 : decode cX10_digest 238 = .ok (.iconst 0, 1) := by decide +kernel
theorem dX10_digest_239 : decode cX10_digest 239 = .ok (.istore 4, 2) := by decide +kernel
theorem dX10_digest_241 : decode cX10_digest 241 = .ok (.iload 4, 2) := by decide +kernel
theorem dX10_digest_243 : decode cX10_digest 243 = .ok (.aload_n 0, 1) := by decide +kernel
theorem dX10_digest_244 : decode cX10_digest 244 = .ok (.getfield 20, 3) := by decide +kernel
theorem dX10_digest_247 : decode cX10_digest 247 = .ok (.getfield 65, 3) := by decide +kernel
theorem dX10_digest_250 : decode cX10_digest 250 = .ok (.if_icmp .ge 54, 3) := by decide +kernel
theorem dX10_digest_253 : decode cX10_digest 253 = .ok (.lload_n 2, 1) := by decide +kernel
theorem dX10_digest_254 : decode cX10_digest 254 = .ok (.ldc2_w 446, 3) := by decide +kernel
theorem dX10_digest_257 : decode cX10_digest 257 = .ok (.lmul, 1) := by decide +kernel
theorem dX10_digest_258 : decode cX10_digest 258 = .ok (.aload_n 0, 1) := by decide +kernel
theorem dX10_digest_259 : decode cX10_digest 259 = .ok (.getfield 40, 3) := by decide +kernel
theorem dX10_digest_262 : decode cX10_digest 262 = .ok (.sipush 173, 3) := by decide +kernel
theorem dX10_digest_265 : decode cX10_digest 265 = .ok (.iload 4, 2) := by decide +kernel
theorem dX10_digest_267 : decode cX10_digest 267 = .ok (.iadd, 1) := by decide +kernel
theorem dX10_digest_268 : decode cX10_digest 268 = .ok (.iaload, 1) := by decide +kernel
theorem dX10_digest_269 : decode cX10_digest 269 = .ok (.ifCond .le 7, 3) := by decide +kernel
theorem dX10_digest_272 : decode cX10_digest 272 = .ok (.iconst 1, 1) := by decide +kernel
theorem dX10_digest_273 : decode cX10_digest 273 = .ok (.goto 4, 3) := by decide +kernel
theorem dX10_digest_276 : decode cX10_digest 276 = .ok (.iconst 0, 1) := by decide +kernel
theorem dX10_digest_277 : decode cX10_digest 277 = .ok (.invokestatic 106, 3) := by decide +kernel
theorem dX10_digest_280 : decode cX10_digest 280 = .ok (.i2l, 1) := by decide +kernel
theorem dX10_digest_281 : decode cX10_digest 281 = .ok (.ladd, 1) := by decide +kernel
theorem dX10_digest_282 : decode cX10_digest 282 = .ok (.ldc2_w 446, 3) := by decide +kernel
theorem dX10_digest_285 : decode cX10_digest 285 = .ok (.lmul, 1) := by decide +kernel
theorem dX10_digest_286 : decode cX10_digest 286 = .ok (.aload_n 0, 1) := by decide +kernel
theorem dX10_digest_287 : decode cX10_digest 287 = .ok (.iload 4, 2) := by decide +kernel
theorem dX10_digest_289 : decode cX10_digest 289 = .ok (.invokevirtual 113, 3) := by decide +kernel
theorem dX10_digest_292 : decode cX10_digest 292 = .ok (.invokestatic 106, 3) := by decide +kernel
theorem dX10_digest_295 : decode cX10_digest 295 = .ok (.i2l, 1) := by decide +kernel
theorem dX10_digest_296 : decode cX10_digest 296 = .ok (.ladd, 1) := by decide +kernel
theorem dX10_digest_297 : decode cX10_digest 297 = .ok (.lstore_n 2, 1) := by decide +kernel
theorem dX10_digest_298 : decode cX10_digest 298 = .ok (.iinc 4 1, 3) := by decide +kernel
theorem dX10_digest_301 : decode cX10_digest 301 = .ok (.goto (-60), 3) := by decide +kernel
theorem dX10_digest_304 : decode cX10_digest 304 = .ok (.iconst 0, 1) := by decide +kernel
theorem dX10_digest_305 : decode cX10_digest 305 = .ok (.istore 4, 2) := by decide +kernel
theorem dX10_digest_307 : decode cX10_digest 307 = .ok (.iload 4, 2) := by decide +kernel
theorem dX10_digest_309 : decode cX10_digest 309 = .ok (.aload_n 0, 1) := by decide +kernel
theorem dX10_digest_310 : decode cX10_digest 310 = .ok (.getfield 20, 3) := by decide +kernel
theorem dX10_digest_313 : decode cX10_digest 313 = .ok (.getfield 55, 3) := by decide +kernel
theorem dX10_digest_316 : decode cX10_digest 316 = .ok (.if_icmp .ge 38, 3) := by decide +kernel
theorem dX10_digest_319 : decode cX10_digest 319 = .ok (.lload_n 2, 1) := by decide +kernel
theorem dX10_digest_320 : decode cX10_digest 320 = .ok (.ldc2_w 446, 3) := by decide +kernel
theorem dX10_digest_323 : decode cX10_digest 323 = .ok (.lmul, 1) := by decide +kernel
theorem dX10_digest_324 : decode cX10_digest 324 = .ok (.aload_n 0, 1) := by decide +kernel
theorem dX10_digest_325 : decode cX10_digest 325 = .ok (.iload 4, 2) := by decide +kernel
theorem dX10_digest_327 : decode cX10_digest 327 = .ok (.invokevirtual 423, 3) := by decide +kernel
theorem dX10_digest_330 : decode cX10_digest 330 = .ok (.i2l, 1) := by decide +kernel
theorem dX10_digest_331 : decode cX10_digest 331 = .ok (.ladd, 1) := by decide +kernel
theorem dX10_digest_332 : decode cX10_digest 332 = .ok (.ldc2_w 446, 3) := by decide +kernel
theorem dX10_digest_335 : decode cX10_digest 335 = .ok (.lmul, 1) := by decide +kernel
theorem dX10_digest_336 : decode cX10_digest 336 = .ok (.aload_n 0, 1) := by decide +kernel
theorem dX10_digest_337 : decode cX10_digest 337 = .ok (.iload 4, 2) := by decide +kernel
theorem dX10_digest_339 : decode cX10_digest 339 = .ok (.invokevirtual 426, 3) := by decide +kernel
theorem dX10_digest_342 : decode cX10_digest 342 = .ok (.invokestatic 106, 3) := by decide +kernel
theorem dX10_digest_345 : decode cX10_digest 345 = .ok (.i2l, 1) := by decide +kernel
theorem dX10_digest_346 : decode cX10_digest 346 = .ok (.ladd, 1) := by decide +kernel
theorem dX10_digest_347 : decode cX10_digest 347 = .ok (.lstore_n 2, 1) := by decide +kernel
theorem dX10_digest_348 : decode cX10_digest 348 = .ok (.iinc 4 1, 3) := by decide +kernel
theorem dX10_digest_351 : decode cX10_digest 351 = .ok (.goto (-44), 3) := by decide +kernel
theorem dX10_digest_354 : decode cX10_digest 354 = .ok (.lload_n 2, 1) := by decide +kernel
theorem dX10_digest_355 : decode cX10_digest 355 = .ok (.lreturn, 1) := by decide +kernel

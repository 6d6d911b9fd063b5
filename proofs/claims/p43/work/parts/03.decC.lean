theorem dX0_ofWord_0 : decode cX0_ofWord 0 = .ok (.iconst 0, 1) := by decide +kernel
theorem dX0_ofWord_1 : decode cX0_ofWord 1 = .ok (.istore_n 3, 1) := by decide +kernel
theorem dX0_ofWord_2 : decode cX0_ofWord 2 = .ok (.iload_n 3, 1) := by decide +kernel
theorem dX0_ofWord_3 : decode cX0_ofWord 3 = .ok (.iconst 1, 1) := by decide +kernel
theorem dX0_ofWord_4 : decode cX0_ofWord 4 = .ok (.iadd, 1) := by decide +kernel
theorem dX0_ofWord_5 : decode cX0_ofWord 5 = .ok (.bipush 7, 2) := by decide +kernel
theorem dX0_ofWord_7 : decode cX0_ofWord 7 = .ok (.imul, 1) := by decide +kernel
theorem dX0_ofWord_8 : decode cX0_ofWord 8 = .ok (.ldc 9, 2) := by decide +kernel
theorem dX0_ofWord_10 : decode cX0_ofWord 10 = .ok (.invokevirtual 11, 3) := by decide +kernel
theorem dX0_ofWord_13 : decode cX0_ofWord 13 = .ok (.if_icmp .gt 32, 3) := by decide +kernel
theorem dX0_ofWord_16 : decode cX0_ofWord 16 = .ok (.iload_n 2, 1) := by decide +kernel
theorem dX0_ofWord_17 : decode cX0_ofWord 17 = .ok (.bipush 7, 2) := by decide +kernel
theorem dX0_ofWord_19 : decode cX0_ofWord 19 = .ok (.if_icmp .ge 20, 3) := by decide +kernel
theorem dX0_ofWord_22 : decode cX0_ofWord 22 = .ok (.iload_n 3, 1) := by decide +kernel
theorem dX0_ofWord_23 : decode cX0_ofWord 23 = .ok (.bipush 7, 2) := by decide +kernel
theorem dX0_ofWord_25 : decode cX0_ofWord 25 = .ok (.imul, 1) := by decide +kernel
theorem dX0_ofWord_26 : decode cX0_ofWord 26 = .ok (.aload_n 0, 1) := by decide +kernel
theorem dX0_ofWord_27 : decode cX0_ofWord 27 = .ok (.iload_n 1, 1) := by decide +kernel
theorem dX0_ofWord_28 : decode cX0_ofWord 28 = .ok (.iload_n 2, 1) := by decide +kernel
theorem dX0_ofWord_29 : decode cX0_ofWord 29 = .ok (.invokestatic 17, 3) := by decide +kernel
theorem dX0_ofWord_32 : decode cX0_ofWord 32 = .ok (.ifCond .eq 7, 3) := by decide +kernel
theorem dX0_ofWord_35 : decode cX0_ofWord 35 = .ok (.iconst 0, 1) := by decide +kernel
theorem dX0_ofWord_36 : decode cX0_ofWord 36 = .ok (.iload_n 3, 1) := by decide +kernel
theorem dX0_ofWord_37 : decode cX0_ofWord 37 = .ok (.iadd, 1) := by decide +kernel
theorem dX0_ofWord_38 : decode cX0_ofWord 38 = .ok (.ireturn, 1) := by decide +kernel
theorem dX0_ofWord_39 : decode cX0_ofWord 39 = .ok (.iinc 3 1, 3) := by decide +kernel
theorem dX0_ofWord_42 : decode cX0_ofWord 42 = .ok (.goto (-40), 3) := by decide +kernel
theorem dX0_ofWord_45 : decode cX0_ofWord 45 = .ok (.bipush 44, 2) := by decide +kernel
theorem dX0_ofWord_47 : decode cX0_ofWord 47 = .ok (.ireturn, 1) := by decide +kernel
theorem dX0_isWord_0 : decode cX0_isWord 0 = .ok (.iconst 0, 1) := by decide +kernel
theorem dX0_isWord_1 : decode cX0_isWord 1 = .ok (.istore 4, 2) := by decide +kernel
theorem dX0_isWord_3 : decode cX0_isWord 3 = .ok (.iload 4, 2) := by decide +kernel
theorem dX0_isWord_5 : decode cX0_isWord 5 = .ok (.iload_n 3, 1) := by decide +kernel
theorem dX0_isWord_6 : decode cX0_isWord 6 = .ok (.if_icmp .ge 31, 3) := by decide +kernel
theorem dX0_isWord_9 : decode cX0_isWord 9 = .ok (.ldc 9, 2) := by decide +kernel
theorem dX0_isWord_11 : decode cX0_isWord 11 = .ok (.iload_n 0, 1) := by decide +kernel
theorem dX0_isWord_12 : decode cX0_isWord 12 = .ok (.iload 4, 2) := by decide +kernel
theorem dX0_isWord_14 : decode cX0_isWord 14 = .ok (.iadd, 1) := by decide +kernel
theorem dX0_isWord_15 : decode cX0_isWord 15 = .ok (.invokevirtual 21, 3) := by decide +kernel
theorem dX0_isWord_18 : decode cX0_isWord 18 = .ok (.aload_n 1, 1) := by decide +kernel
theorem dX0_isWord_19 : decode cX0_isWord 19 = .ok (.iload_n 2, 1) := by decide +kernel
theorem dX0_isWord_20 : decode cX0_isWord 20 = .ok (.iload 4, 2) := by decide +kernel
theorem dX0_isWord_22 : decode cX0_isWord 22 = .ok (.iadd, 1) := by decide +kernel
theorem dX0_isWord_23 : decode cX0_isWord 23 = .ok (.invokevirtual 25, 3) := by decide +kernel
theorem dX0_isWord_26 : decode cX0_isWord 26 = .ok (.if_icmp .eq 5, 3) := by decide +kernel
theorem dX0_isWord_29 : decode cX0_isWord 29 = .ok (.iconst 0, 1) := by decide +kernel
theorem dX0_isWord_30 : decode cX0_isWord 30 = .ok (.ireturn, 1) := by decide +kernel
theorem dX0_isWord_31 : decode cX0_isWord 31 = .ok (.iinc 4 1, 3) := by decide +kernel
theorem dX0_isWord_34 : decode cX0_isWord 34 = .ok (.goto (-31), 3) := by decide +kernel
theorem dX0_isWord_37 : decode cX0_isWord 37 = .ok (.ldc 9, 2) := by decide +kernel
theorem dX0_isWord_39 : decode cX0_isWord 39 = .ok (.iload_n 0, 1) := by decide +kernel
theorem dX0_isWord_40 : decode cX0_isWord 40 = .ok (.iload_n 3, 1) := by decide +kernel
theorem dX0_isWord_41 : decode cX0_isWord 41 = .ok (.iadd, 1) := by decide +kernel
theorem dX0_isWord_42 : decode cX0_isWord 42 = .ok (.invokevirtual 21, 3) := by decide +kernel
theorem dX0_isWord_45 : decode cX0_isWord 45 = .ok (.bipush 32, 2) := by decide +kernel
theorem dX0_isWord_47 : decode cX0_isWord 47 = .ok (.if_icmp .ne 7, 3) := by decide +kernel
theorem dX0_isWord_50 : decode cX0_isWord 50 = .ok (.iconst 1, 1) := by decide +kernel
theorem dX0_isWord_51 : decode cX0_isWord 51 = .ok (.goto 4, 3) := by decide +kernel
theorem dX0_isWord_54 : decode cX0_isWord 54 = .ok (.iconst 0, 1) := by decide +kernel
theorem dX0_isWord_55 : decode cX0_isWord 55 = .ok (.ireturn, 1) := by decide +kernel
theorem dX0_ofSign_0 : decode cX0_ofSign 0 = .ok (.ldc 31, 2) := by decide +kernel
theorem dX0_ofSign_2 : decode cX0_ofSign 2 = .ok (.invokevirtual 11, 3) := by decide +kernel
theorem dX0_ofSign_5 : decode cX0_ofSign 5 = .ok (.iconst 2, 1) := by decide +kernel
theorem dX0_ofSign_6 : decode cX0_ofSign 6 = .ok (.isub, 1) := by decide +kernel
theorem dX0_ofSign_7 : decode cX0_ofSign 7 = .ok (.istore_n 2, 1) := by decide +kernel
theorem dX0_ofSign_8 : decode cX0_ofSign 8 = .ok (.iload_n 2, 1) := by decide +kernel
theorem dX0_ofSign_9 : decode cX0_ofSign 9 = .ok (.ifCond .lt 51, 3) := by decide +kernel
theorem dX0_ofSign_12 : decode cX0_ofSign 12 = .ok (.ldc 31, 2) := by decide +kernel
theorem dX0_ofSign_14 : decode cX0_ofSign 14 = .ok (.iload_n 2, 1) := by decide +kernel
theorem dX0_ofSign_15 : decode cX0_ofSign 15 = .ok (.invokevirtual 21, 3) := by decide +kernel
theorem dX0_ofSign_18 : decode cX0_ofSign 18 = .ok (.iload_n 0, 1) := by decide +kernel
theorem dX0_ofSign_19 : decode cX0_ofSign 19 = .ok (.if_icmp .ne 35, 3) := by decide +kernel
theorem dX0_ofSign_22 : decode cX0_ofSign 22 = .ok (.ldc 31, 2) := by decide +kernel
theorem dX0_ofSign_24 : decode cX0_ofSign 24 = .ok (.iload_n 2, 1) := by decide +kernel
theorem dX0_ofSign_25 : decode cX0_ofSign 25 = .ok (.iconst 1, 1) := by decide +kernel
theorem dX0_ofSign_26 : decode cX0_ofSign 26 = .ok (.iadd, 1) := by decide +kernel
theorem dX0_ofSign_27 : decode cX0_ofSign 27 = .ok (.invokevirtual 21, 3) := by decide +kernel
theorem dX0_ofSign_30 : decode cX0_ofSign 30 = .ok (.bipush 32, 2) := by decide +kernel
theorem dX0_ofSign_32 : decode cX0_ofSign 32 = .ok (.if_icmp .eq 15, 3) := by decide +kernel
theorem dX0_ofSign_35 : decode cX0_ofSign 35 = .ok (.ldc 31, 2) := by decide +kernel
theorem dX0_ofSign_37 : decode cX0_ofSign 37 = .ok (.iload_n 2, 1) := by decide +kernel
theorem dX0_ofSign_38 : decode cX0_ofSign 38 = .ok (.iconst 1, 1) := by decide +kernel
theorem dX0_ofSign_39 : decode cX0_ofSign 39 = .ok (.iadd, 1) := by decide +kernel
theorem dX0_ofSign_40 : decode cX0_ofSign 40 = .ok (.invokevirtual 21, 3) := by decide +kernel
theorem dX0_ofSign_43 : decode cX0_ofSign 43 = .ok (.iload_n 1, 1) := by decide +kernel
theorem dX0_ofSign_44 : decode cX0_ofSign 44 = .ok (.if_icmp .ne 10, 3) := by decide +kernel
theorem dX0_ofSign_47 : decode cX0_ofSign 47 = .ok (.bipush 29, 2) := by decide +kernel
theorem dX0_ofSign_49 : decode cX0_ofSign 49 = .ok (.iload_n 2, 1) := by decide +kernel
theorem dX0_ofSign_50 : decode cX0_ofSign 50 = .ok (.iconst 2, 1) := by decide +kernel
theorem dX0_ofSign_51 : decode cX0_ofSign 51 = .ok (.idiv, 1) := by decide +kernel
theorem dX0_ofSign_52 : decode cX0_ofSign 52 = .ok (.iadd, 1) := by decide +kernel
theorem dX0_ofSign_53 : decode cX0_ofSign 53 = .ok (.ireturn, 1) := by decide +kernel
theorem dX0_ofSign_54 : decode cX0_ofSign 54 = .ok (.iinc 2 (-2), 3) := by decide +kernel
theorem dX0_ofSign_57 : decode cX0_ofSign 57 = .ok (.goto (-49), 3) := by decide +kernel
theorem dX0_ofSign_60 : decode cX0_ofSign 60 = .ok (.bipush 48, 2) := by decide +kernel
theorem dX0_ofSign_62 : decode cX0_ofSign 62 = .ok (.ireturn, 1) := by decide +kernel
theorem dX0_lengthOfSign_0 : decode cX0_lengthOfSign 0 = .ok (.iload_n 0, 1) := by decide +kernel
theorem dX0_lengthOfSign_1 : decode cX0_lengthOfSign 1 = .ok (.bipush 42, 2) := by decide +kernel
theorem dX0_lengthOfSign_3 : decode cX0_lengthOfSign 3 = .ok (.if_icmp .eq 9, 3) := by decide +kernel
theorem dX0_lengthOfSign_6 : decode cX0_lengthOfSign 6 = .ok (.iload_n 0, 1) := by decide +kernel
theorem dX0_lengthOfSign_7 : decode cX0_lengthOfSign 7 = .ok (.bipush 43, 2) := by decide +kernel
theorem dX0_lengthOfSign_9 : decode cX0_lengthOfSign 9 = .ok (.if_icmp .ne 7, 3) := by decide +kernel
theorem dX0_lengthOfSign_12 : decode cX0_lengthOfSign 12 = .ok (.iconst 2, 1) := by decide +kernel
theorem dX0_lengthOfSign_13 : decode cX0_lengthOfSign 13 = .ok (.goto 4, 3) := by decide +kernel
theorem dX0_lengthOfSign_16 : decode cX0_lengthOfSign 16 = .ok (.iconst 1, 1) := by decide +kernel
theorem dX0_lengthOfSign_17 : decode cX0_lengthOfSign 17 = .ok (.ireturn, 1) := by decide +kernel
theorem dX1_init_0 : decode cX1_init 0 = .ok (.aload_n 0, 1) := by decide +kernel
theorem dX1_init_1 : decode cX1_init 1 = .ok (.invokespecial 3, 3) := by decide +kernel
theorem dX1_init_4 : decode cX1_init 4 = .ok (.aload_n 0, 1) := by decide +kernel
theorem dX1_init_5 : decode cX1_init 5 = .ok (.bipush 16, 2) := by decide +kernel
theorem dX1_init_7 : decode cX1_init 7 = .ok (.newarray .int, 2) := by decide +kernel
theorem dX1_init_9 : decode cX1_init 9 = .ok (.putfield 9, 3) := by decide +kernel
theorem dX1_init_12 : decode cX1_init 12 = .ok (.aload_n 0, 1) := by decide +kernel
theorem dX1_init_13 : decode cX1_init 13 = .ok (.bipush 16, 2) := by decide +kernel
theorem dX1_init_15 : decode cX1_init 15 = .ok (.newarray .int, 2) := by decide +kernel
theorem dX1_init_17 : decode cX1_init 17 = .ok (.putfield 15, 3) := by decide +kernel
theorem dX1_init_20 : decode cX1_init 20 = .ok (.aload_n 0, 1) := by decide +kernel
theorem dX1_init_21 : decode cX1_init 21 = .ok (.bipush 16, 2) := by decide +kernel
theorem dX1_init_23 : decode cX1_init 23 = .ok (.newarray .int, 2) := by decide +kernel
theorem dX1_init_25 : decode cX1_init 25 = .ok (.putfield 18, 3) := by decide +kernel
theorem dX1_init_28 : decode cX1_init 28 = .ok (.aload_n 0, 1) := by decide +kernel
theorem dX1_init_29 : decode cX1_init 29 = .ok (.sipush 400, 3) := by decide +kernel
theorem dX1_init_32 : decode cX1_init 32 = .ok (.newarray .int, 2) := by decide +kernel
theorem dX1_init_34 : decode cX1_init 34 = .ok (.putfield 21, 3) := by decide +kernel
theorem dX1_init_37 : decode cX1_init 37 = .ok (.aload_n 0, 1) := by decide +kernel
theorem dX1_init_38 : decode cX1_init 38 = .ok (.sipush 400, 3) := by decide +kernel
theorem dX1_init_41 : decode cX1_init 41 = .ok (.newarray .int, 2) := by decide +kernel
theorem dX1_init_43 : decode cX1_init 43 = .ok (.putfield 24, 3) := by decide +kernel
theorem dX1_init_46 : decode cX1_init 46 = .ok (.return_, 1) := by decide +kernel
theorem dX1_clear_0 : decode cX1_clear 0 = .ok (.aload_n 0, 1) := by decide +kernel
theorem dX1_clear_1 : decode cX1_clear 1 = .ok (.iconst 0, 1) := by decide +kernel
theorem dX1_clear_2 : decode cX1_clear 2 = .ok (.putfield 27, 3) := by decide +kernel
theorem dX1_clear_5 : decode cX1_clear 5 = .ok (.aload_n 0, 1) := by decide +kernel
theorem dX1_clear_6 : decode cX1_clear 6 = .ok (.iconst 0, 1) := by decide +kernel
theorem dX1_clear_7 : decode cX1_clear 7 = .ok (.putfield 31, 3) := by decide +kernel
theorem dX1_clear_10 : decode cX1_clear 10 = .ok (.return_, 1) := by decide +kernel
theorem dX1_addStep_0 : decode cX1_addStep 0 = .ok (.aload_n 0, 1) := by decide +kernel
theorem dX1_addStep_1 : decode cX1_addStep 1 = .ok (.getfield 31, 3) := by decide +kernel
theorem dX1_addStep_4 : decode cX1_addStep 4 = .ok (.sipush 400, 3) := by decide +kernel
theorem dX1_addStep_7 : decode cX1_addStep 7 = .ok (.if_icmp .ge 33, 3) := by decide +kernel
theorem dX1_addStep_10 : decode cX1_addStep 10 = .ok (.aload_n 0, 1) := by decide +kernel
theorem dX1_addStep_11 : decode cX1_addStep 11 = .ok (.getfield 21, 3) := by decide +kernel
theorem dX1_addStep_14 : decode cX1_addStep 14 = .ok (.aload_n 0, 1) := by decide +kernel
theorem dX1_addStep_15 : decode cX1_addStep 15 = .ok (.getfield 31, 3) := by decide +kernel
theorem dX1_addStep_18 : decode cX1_addStep 18 = .ok (.iload_n 1, 1) := by decide +kernel
theorem dX1_addStep_19 : decode cX1_addStep 19 = .ok (.iastore, 1) := by decide +kernel
theorem dX1_addStep_20 : decode cX1_addStep 20 = .ok (.aload_n 0, 1) := by decide +kernel
theorem dX1_addStep_21 : decode cX1_addStep 21 = .ok (.getfield 24, 3) := by decide +kernel
theorem dX1_addStep_24 : decode cX1_addStep 24 = .ok (.aload_n 0, 1) := by decide +kernel
theorem dX1_addStep_25 : decode cX1_addStep 25 = .ok (.getfield 31, 3) := by decide +kernel
theorem dX1_addStep_28 : decode cX1_addStep 28 = .ok (.iload_n 2, 1) := by decide +kernel
theorem dX1_addStep_29 : decode cX1_addStep 29 = .ok (.iastore, 1) := by decide +kernel
theorem dX1_addStep_30 : decode cX1_addStep 30 = .ok (.aload_n 0, 1) := by decide +kernel
theorem dX1_addStep_31 : decode cX1_addStep 31 = .ok (.dup, 1) := by decide +kernel
theorem dX1_addStep_32 : decode cX1_addStep 32 = .ok (.getfield 31, 3) := by decide +kernel
theorem dX1_addStep_35 : decode cX1_addStep 35 = .ok (.iconst 1, 1) := by decide +kernel
theorem dX1_addStep_36 : decode cX1_addStep 36 = .ok (.iadd, 1) := by decide +kernel
theorem dX1_addStep_37 : decode cX1_addStep 37 = .ok (.putfield 31, 3) := by decide +kernel
theorem dX1_addStep_40 : decode cX1_addStep 40 = .ok (.return_, 1) := by decide +kernel
theorem dX1_addOrder_0 : decode cX1_addOrder 0 = .ok (.aload_n 0, 1) := by decide +kernel
theorem dX1_addOrder_1 : decode cX1_addOrder 1 = .ok (.getfield 27, 3) := by decide +kernel
theorem dX1_addOrder_4 : decode cX1_addOrder 4 = .ok (.bipush 16, 2) := by decide +kernel
theorem dX1_addOrder_6 : decode cX1_addOrder 6 = .ok (.if_icmp .ge 46, 3) := by decide +kernel
theorem dX1_addOrder_9 : decode cX1_addOrder 9 = .ok (.aload_n 0, 1) := by decide +kernel
theorem dX1_addOrder_10 : decode cX1_addOrder 10 = .ok (.getfield 9, 3) := by decide +kernel
theorem dX1_addOrder_13 : decode cX1_addOrder 13 = .ok (.aload_n 0, 1) := by decide +kernel
theorem dX1_addOrder_14 : decode cX1_addOrder 14 = .ok (.getfield 27, 3) := by decide +kernel
theorem dX1_addOrder_17 : decode cX1_addOrder 17 = .ok (.iload_n 1, 1) := by decide +kernel
theorem dX1_addOrder_18 : decode cX1_addOrder 18 = .ok (.iastore, 1) := by decide +kernel
theorem dX1_addOrder_19 : decode cX1_addOrder 19 = .ok (.aload_n 0, 1) := by decide +kernel
theorem dX1_addOrder_20 : decode cX1_addOrder 20 = .ok (.getfield 15, 3) := by decide +kernel
theorem dX1_addOrder_23 : decode cX1_addOrder 23 = .ok (.aload_n 0, 1) := by decide +kernel
theorem dX1_addOrder_24 : decode cX1_addOrder 24 = .ok (.getfield 27, 3) := by decide +kernel
theorem dX1_addOrder_27 : decode cX1_addOrder 27 = .ok (.iload_n 2, 1) := by decide +kernel
theorem dX1_addOrder_28 : decode cX1_addOrder 28 = .ok (.iastore, 1) := by decide +kernel
theorem dX1_addOrder_29 : decode cX1_addOrder 29 = .ok (.aload_n 0, 1) := by decide +kernel
theorem dX1_addOrder_30 : decode cX1_addOrder 30 = .ok (.getfield 18, 3) := by decide +kernel
theorem dX1_addOrder_33 : decode cX1_addOrder 33 = .ok (.aload_n 0, 1) := by decide +kernel
theorem dX1_addOrder_34 : decode cX1_addOrder 34 = .ok (.getfield 27, 3) := by decide +kernel
theorem dX1_addOrder_37 : decode cX1_addOrder 37 = .ok (.aload_n 0, 1) := by decide +kernel
theorem dX1_addOrder_38 : decode cX1_addOrder 38 = .ok (.getfield 31, 3) := by decide +kernel
theorem dX1_addOrder_41 : decode cX1_addOrder 41 = .ok (.iastore, 1) := by decide +kernel
theorem dX1_addOrder_42 : decode cX1_addOrder 42 = .ok (.aload_n 0, 1) := by decide +kernel
theorem dX1_addOrder_43 : decode cX1_addOrder 43 = .ok (.dup, 1) := by decide +kernel
theorem dX1_addOrder_44 : decode cX1_addOrder 44 = .ok (.getfield 27, 3) := by decide +kernel
theorem dX1_addOrder_47 : decode cX1_addOrder 47 = .ok (.iconst 1, 1) := by decide +kernel
theorem dX1_addOrder_48 : decode cX1_addOrder 48 = .ok (.iadd, 1) := by decide +kernel
theorem dX1_addOrder_49 : decode cX1_addOrder 49 = .ok (.putfield 27, 3) := by decide +kernel
theorem dX1_addOrder_52 : decode cX1_addOrder 52 = .ok (.return_, 1) := by decide +kernel
theorem dX1_kindOf_0 : decode cX1_kindOf 0 = .ok (.aload_n 0, 1) := by decide +kernel
theorem dX1_kindOf_1 : decode cX1_kindOf 1 = .ok (.iload_n 1, 1) := by decide +kernel
theorem dX1_kindOf_2 : decode cX1_kindOf 2 = .ok (.invokevirtual 34, 3) := by decide +kernel
theorem dX1_kindOf_5 : decode cX1_kindOf 5 = .ok (.ifCond .eq 12, 3) := by decide +kernel
theorem dX1_kindOf_8 : decode cX1_kindOf 8 = .ok (.aload_n 0, 1) := by decide +kernel
theorem dX1_kindOf_9 : decode cX1_kindOf 9 = .ok (.getfield 9, 3) := by decide +kernel
theorem dX1_kindOf_12 : decode cX1_kindOf 12 = .ok (.iload_n 1, 1) := by decide +kernel
theorem dX1_kindOf_13 : decode cX1_kindOf 13 = .ok (.iaload, 1) := by decide +kernel
theorem dX1_kindOf_14 : decode cX1_kindOf 14 = .ok (.goto 5, 3) := by decide +kernel
theorem dX1_kindOf_17 : decode cX1_kindOf 17 = .ok (.bipush 48, 2) := by decide +kernel
theorem dX1_kindOf_19 : decode cX1_kindOf 19 = .ok (.ireturn, 1) := by decide +kernel
theorem dX1_sumStart_0 : decode cX1_sumStart 0 = .ok (.aload_n 0, 1) := by decide +kernel
theorem dX1_sumStart_1 : decode cX1_sumStart 1 = .ok (.iload_n 1, 1) := by decide +kernel
theorem dX1_sumStart_2 : decode cX1_sumStart 2 = .ok (.iconst 1, 1) := by decide +kernel
theorem dX1_sumStart_3 : decode cX1_sumStart 3 = .ok (.isub, 1) := by decide +kernel
theorem dX1_sumStart_4 : decode cX1_sumStart 4 = .ok (.invokevirtual 40, 3) := by decide +kernel
theorem dX1_sumStart_7 : decode cX1_sumStart 7 = .ok (.ireturn, 1) := by decide +kernel
theorem dX1_sumEnd_0 : decode cX1_sumEnd 0 = .ok (.aload_n 0, 1) := by decide +kernel
theorem dX1_sumEnd_1 : decode cX1_sumEnd 1 = .ok (.iload_n 1, 1) := by decide +kernel
theorem dX1_sumEnd_2 : decode cX1_sumEnd 2 = .ok (.invokevirtual 34, 3) := by decide +kernel
theorem dX1_sumEnd_5 : decode cX1_sumEnd 5 = .ok (.ifCond .eq 12, 3) := by decide +kernel
theorem dX1_sumEnd_8 : decode cX1_sumEnd 8 = .ok (.aload_n 0, 1) := by decide +kernel
theorem dX1_sumEnd_9 : decode cX1_sumEnd 9 = .ok (.getfield 15, 3) := by decide +kernel
theorem dX1_sumEnd_12 : decode cX1_sumEnd 12 = .ok (.iload_n 1, 1) := by decide +kernel
theorem dX1_sumEnd_13 : decode cX1_sumEnd 13 = .ok (.iaload, 1) := by decide +kernel
theorem dX1_sumEnd_14 : decode cX1_sumEnd 14 = .ok (.goto 4, 3) := by decide +kernel
theorem dX1_sumEnd_17 : decode cX1_sumEnd 17 = .ok (.iconst 0, 1) := by decide +kernel
theorem dX1_sumEnd_18 : decode cX1_sumEnd 18 = .ok (.ireturn, 1) := by decide +kernel
theorem dX1_testEnd_0 : decode cX1_testEnd 0 = .ok (.aload_n 0, 1) := by decide +kernel
theorem dX1_testEnd_1 : decode cX1_testEnd 1 = .ok (.iload_n 1, 1) := by decide +kernel
theorem dX1_testEnd_2 : decode cX1_testEnd 2 = .ok (.invokevirtual 34, 3) := by decide +kernel
theorem dX1_testEnd_5 : decode cX1_testEnd 5 = .ok (.ifCond .eq 12, 3) := by decide +kernel
theorem dX1_testEnd_8 : decode cX1_testEnd 8 = .ok (.aload_n 0, 1) := by decide +kernel
theorem dX1_testEnd_9 : decode cX1_testEnd 9 = .ok (.getfield 18, 3) := by decide +kernel
theorem dX1_testEnd_12 : decode cX1_testEnd 12 = .ok (.iload_n 1, 1) := by decide +kernel
theorem dX1_testEnd_13 : decode cX1_testEnd 13 = .ok (.iaload, 1) := by decide +kernel
theorem dX1_testEnd_14 : decode cX1_testEnd 14 = .ok (.goto 4, 3) := by decide +kernel
theorem dX1_testEnd_17 : decode cX1_testEnd 17 = .ok (.iconst 0, 1) := by decide +kernel
theorem dX1_testEnd_18 : decode cX1_testEnd 18 = .ok (.ireturn, 1) := by decide +kernel
theorem dX1_stepKind_0 : decode cX1_stepKind 0 = .ok (.aload_n 0, 1) := by decide +kernel
theorem dX1_stepKind_1 : decode cX1_stepKind 1 = .ok (.iload_n 1, 1) := by decide +kernel
theorem dX1_stepKind_2 : decode cX1_stepKind 2 = .ok (.invokevirtual 44, 3) := by decide +kernel
theorem dX1_stepKind_5 : decode cX1_stepKind 5 = .ok (.ifCond .eq 12, 3) := by decide +kernel
theorem dX1_stepKind_8 : decode cX1_stepKind 8 = .ok (.aload_n 0, 1) := by decide +kernel
theorem dX1_stepKind_9 : decode cX1_stepKind 9 = .ok (.getfield 21, 3) := by decide +kernel
theorem dX1_stepKind_12 : decode cX1_stepKind 12 = .ok (.iload_n 1, 1) := by decide +kernel
theorem dX1_stepKind_13 : decode cX1_stepKind 13 = .ok (.iaload, 1) := by decide +kernel
theorem dX1_stepKind_14 : decode cX1_stepKind 14 = .ok (.goto 5, 3) := by decide +kernel
theorem dX1_stepKind_17 : decode cX1_stepKind 17 = .ok (.bipush 48, 2) := by decide +kernel
theorem dX1_stepKind_19 : decode cX1_stepKind 19 = .ok (.ireturn, 1) := by decide +kernel
theorem dX1_stepDetail_0 : decode cX1_stepDetail 0 = .ok (.aload_n 0, 1) := by decide +kernel
theorem dX1_stepDetail_1 : decode cX1_stepDetail 1 = .ok (.iload_n 1, 1) := by decide +kernel
theorem dX1_stepDetail_2 : decode cX1_stepDetail 2 = .ok (.invokevirtual 44, 3) := by decide +kernel
theorem dX1_stepDetail_5 : decode cX1_stepDetail 5 = .ok (.ifCond .eq 12, 3) := by decide +kernel
theorem dX1_stepDetail_8 : decode cX1_stepDetail 8 = .ok (.aload_n 0, 1) := by decide +kernel
theorem dX1_stepDetail_9 : decode cX1_stepDetail 9 = .ok (.getfield 24, 3) := by decide +kernel
theorem dX1_stepDetail_12 : decode cX1_stepDetail 12 = .ok (.iload_n 1, 1) := by decide +kernel
theorem dX1_stepDetail_13 : decode cX1_stepDetail 13 = .ok (.iaload, 1) := by decide +kernel
theorem dX1_stepDetail_14 : decode cX1_stepDetail 14 = .ok (.goto 4, 3) := by decide +kernel
theorem dX1_stepDetail_17 : decode cX1_stepDetail 17 = .ok (.iconst 0, 1) := by decide +kernel
theorem dX1_stepDetail_18 : decode cX1_stepDetail 18 = .ok (.ireturn, 1) := by decide +kernel
theorem dX1_isOrder_0 : decode cX1_isOrder 0 = .ok (.iload_n 1, 1) := by decide +kernel
theorem dX1_isOrder_1 : decode cX1_isOrder 1 = .ok (.ifCond .lt 15, 3) := by decide +kernel
theorem dX1_isOrder_4 : decode cX1_isOrder 4 = .ok (.iload_n 1, 1) := by decide +kernel
theorem dX1_isOrder_5 : decode cX1_isOrder 5 = .ok (.aload_n 0, 1) := by decide +kernel
theorem dX1_isOrder_6 : decode cX1_isOrder 6 = .ok (.getfield 27, 3) := by decide +kernel
theorem dX1_isOrder_9 : decode cX1_isOrder 9 = .ok (.if_icmp .ge 7, 3) := by decide +kernel
theorem dX1_isOrder_12 : decode cX1_isOrder 12 = .ok (.iconst 1, 1) := by decide +kernel
theorem dX1_isOrder_13 : decode cX1_isOrder 13 = .ok (.goto 4, 3) := by decide +kernel
theorem dX1_isOrder_16 : decode cX1_isOrder 16 = .ok (.iconst 0, 1) := by decide +kernel
theorem dX1_isOrder_17 : decode cX1_isOrder 17 = .ok (.ireturn, 1) := by decide +kernel
theorem dX1_isStep_0 : decode cX1_isStep 0 = .ok (.iload_n 1, 1) := by decide +kernel
theorem dX1_isStep_1 : decode cX1_isStep 1 = .ok (.ifCond .lt 15, 3) := by decide +kernel
theorem dX1_isStep_4 : decode cX1_isStep 4 = .ok (.iload_n 1, 1) := by decide +kernel
theorem dX1_isStep_5 : decode cX1_isStep 5 = .ok (.aload_n 0, 1) := by decide +kernel
theorem dX1_isStep_6 : decode cX1_isStep 6 = .ok (.getfield 31, 3) := by decide +kernel
theorem dX1_isStep_9 : decode cX1_isStep 9 = .ok (.if_icmp .ge 7, 3) := by decide +kernel
theorem dX1_isStep_12 : decode cX1_isStep 12 = .ok (.iconst 1, 1) := by decide +kernel
theorem dX1_isStep_13 : decode cX1_isStep 13 = .ok (.goto 4, 3) := by decide +kernel
theorem dX1_isStep_16 : decode cX1_isStep 16 = .ok (.iconst 0, 1) := by decide +kernel
theorem dX1_isStep_17 : decode cX1_isStep 17 = .ok (.ireturn, 1) := by decide +kernel
theorem dX2_init_0 : decode cX2_init 0 = .ok (.aload_n 0, 1) := by decide +kernel
theorem dX2_init_1 : decode cX2_init 1 = .ok (.invokespecial 3, 3) := by decide +kernel
theorem dX2_init_4 : decode cX2_init 4 = .ok (.aload_n 0, 1) := by decide +kernel
theorem dX2_init_5 : decode cX2_init 5 = .ok (.sipush 400, 3) := by decide +kernel
theorem dX2_init_8 : decode cX2_init 8 = .ok (.newarray .int, 2) := by decide +kernel
theorem dX2_init_10 : decode cX2_init 10 = .ok (.putfield 9, 3) := by decide +kernel
theorem dX2_init_13 : decode cX2_init 13 = .ok (.return_, 1) := by decide +kernel
theorem dX2_liveDays_0 : decode cX2_liveDays 0 = .ok (.aload_n 1, 1) := by decide +kernel
theorem dX2_liveDays_1 : decode cX2_liveDays 1 = .ok (.getfield 15, 3) := by decide +kernel
theorem dX2_liveDays_4 : decode cX2_liveDays 4 = .ok (.getfield 21, 3) := by decide +kernel
theorem dX2_liveDays_7 : decode cX2_liveDays 7 = .ok (.astore_n 3, 1) := by decide +kernel
theorem dX2_liveDays_8 : decode cX2_liveDays 8 = .ok (.iconst 0, 1) := by decide +kernel
theorem dX2_liveDays_9 : decode cX2_liveDays 9 = .ok (.istore 4, 2) := by decide +kernel
theorem dX2_liveDays_11 : decode cX2_liveDays 11 = .ok (.iload 4, 2) := by decide +kernel
theorem dX2_liveDays_13 : decode cX2_liveDays 13 = .ok (.iload_n 2, 1) := by decide +kernel
theorem dX2_liveDays_14 : decode cX2_liveDays 14 = .ok (.if_icmp .ge 86, 3) := by decide +kernel
theorem dX2_liveDays_17 : decode cX2_liveDays 17 = .ok (.iconst 0, 1) := by decide +kernel
theorem dX2_liveDays_18 : decode cX2_liveDays 18 = .ok (.istore 5, 2) := by decide +kernel
theorem dX2_liveDays_20 : decode cX2_liveDays 20 = .ok (.iload 5, 2) := by decide +kernel
theorem dX2_liveDays_22 : decode cX2_liveDays 22 = .ok (.aload_n 3, 1) := by decide +kernel
theorem dX2_liveDays_23 : decode cX2_liveDays 23 = .ok (.getfield 27, 3) := by decide +kernel
theorem dX2_liveDays_26 : decode cX2_liveDays 26 = .ok (.if_icmp .ge 58, 3) := by decide +kernel
theorem dX2_liveDays_29 : decode cX2_liveDays 29 = .ok (.aload_n 0, 1) := by decide +kernel
theorem dX2_liveDays_30 : decode cX2_liveDays 30 = .ok (.aload_n 1, 1) := by decide +kernel
theorem dX2_liveDays_31 : decode cX2_liveDays 31 = .ok (.aload_n 3, 1) := by decide +kernel
theorem dX2_liveDays_32 : decode cX2_liveDays 32 = .ok (.iload 5, 2) := by decide +kernel
theorem dX2_liveDays_34 : decode cX2_liveDays 34 = .ok (.invokevirtual 33, 3) := by decide +kernel
theorem dX2_liveDays_37 : decode cX2_liveDays 37 = .ok (.ifCond .eq 41, 3) := by decide +kernel
theorem dX2_liveDays_40 : decode cX2_liveDays 40 = .ok (.aload_n 0, 1) := by decide +kernel
theorem dX2_liveDays_41 : decode cX2_liveDays 41 = .ok (.aload_n 1, 1) := by decide +kernel
theorem dX2_liveDays_42 : decode cX2_liveDays 42 = .ok (.aload_n 3, 1) := by decide +kernel
theorem dX2_liveDays_43 : decode cX2_liveDays 43 = .ok (.iload 5, 2) := by decide +kernel
theorem dX2_liveDays_45 : decode cX2_liveDays 45 = .ok (.invokevirtual 37, 3) := by decide +kernel
theorem dX2_liveDays_48 : decode cX2_liveDays 48 = .ok (.aload_n 3, 1) := by decide +kernel
theorem dX2_liveDays_49 : decode cX2_liveDays 49 = .ok (.iload 5, 2) := by decide +kernel
theorem dX2_liveDays_51 : decode cX2_liveDays 51 = .ok (.invokevirtual 41, 3) := by decide +kernel
theorem dX2_liveDays_54 : decode cX2_liveDays 54 = .ok (.invokevirtual 44, 3) := by decide +kernel
theorem dX2_liveDays_57 : decode cX2_liveDays 57 = .ok (.istore 6, 2) := by decide +kernel
theorem dX2_liveDays_59 : decode cX2_liveDays 59 = .ok (.aload_n 1, 1) := by decide +kernel
theorem dX2_liveDays_60 : decode cX2_liveDays 60 = .ok (.aload_n 3, 1) := by decide +kernel
theorem dX2_liveDays_61 : decode cX2_liveDays 61 = .ok (.iload 5, 2) := by decide +kernel
theorem dX2_liveDays_63 : decode cX2_liveDays 63 = .ok (.invokevirtual 48, 3) := by decide +kernel
theorem dX2_liveDays_66 : decode cX2_liveDays 66 = .ok (.aload_n 1, 1) := by decide +kernel
theorem dX2_liveDays_67 : decode cX2_liveDays 67 = .ok (.getfield 15, 3) := by decide +kernel
theorem dX2_liveDays_70 : decode cX2_liveDays 70 = .ok (.iload 6, 2) := by decide +kernel
theorem dX2_liveDays_72 : decode cX2_liveDays 72 = .ok (.invokevirtual 51, 3) := by decide +kernel
theorem dX2_liveDays_75 : decode cX2_liveDays 75 = .ok (.invokestatic 54, 3) := by decide +kernel
theorem dX2_liveDays_78 : decode cX2_liveDays 78 = .ok (.iinc 5 1, 3) := by decide +kernel
theorem dX2_liveDays_81 : decode cX2_liveDays 81 = .ok (.goto (-61), 3) := by decide +kernel
theorem dX2_liveDays_84 : decode cX2_liveDays 84 = .ok (.aload_n 1, 1) := by decide +kernel
theorem dX2_liveDays_85 : decode cX2_liveDays 85 = .ok (.dup, 1) := by decide +kernel
theorem dX2_liveDays_86 : decode cX2_liveDays 86 = .ok (.getfield 58, 3) := by decide +kernel
theorem dX2_liveDays_89 : decode cX2_liveDays 89 = .ok (.iconst 1, 1) := by decide +kernel
theorem dX2_liveDays_90 : decode cX2_liveDays 90 = .ok (.iadd, 1) := by decide +kernel
theorem dX2_liveDays_91 : decode cX2_liveDays 91 = .ok (.putfield 58, 3) := by decide +kernel
theorem dX2_liveDays_94 : decode cX2_liveDays 94 = .ok (.iinc 4 1, 3) := by decide +kernel
theorem dX2_liveDays_97 : decode cX2_liveDays 97 = .ok (.goto (-86), 3) := by decide +kernel
theorem dX2_liveDays_100 : decode cX2_liveDays 100 = .ok (.return_, 1) := by decide +kernel
theorem dX2_isDue_0 : decode cX2_isDue 0 = .ok (.aload_n 2, 1) := by decide +kernel
theorem dX2_isDue_1 : decode cX2_isDue 1 = .ok (.iload_n 3, 1) := by decide +kernel
theorem dX2_isDue_2 : decode cX2_isDue 2 = .ok (.invokevirtual 41, 3) := by decide +kernel
theorem dX2_isDue_5 : decode cX2_isDue 5 = .ok (.istore 4, 2) := by decide +kernel
theorem dX2_isDue_7 : decode cX2_isDue 7 = .ok (.aload_n 2, 1) := by decide +kernel
theorem dX2_isDue_8 : decode cX2_isDue 8 = .ok (.iload_n 3, 1) := by decide +kernel
theorem dX2_isDue_9 : decode cX2_isDue 9 = .ok (.invokevirtual 61, 3) := by decide +kernel
theorem dX2_isDue_12 : decode cX2_isDue 12 = .ok (.istore 5, 2) := by decide +kernel
theorem dX2_isDue_14 : decode cX2_isDue 14 = .ok (.iload 4, 2) := by decide +kernel
theorem dX2_isDue_16 : decode cX2_isDue 16 = .ok (.iload 5, 2) := by decide +kernel
theorem dX2_isDue_18 : decode cX2_isDue 18 = .ok (.if_icmp .eq 15, 3) := by decide +kernel
theorem dX2_isDue_21 : decode cX2_isDue 21 = .ok (.aload_n 0, 1) := by decide +kernel
theorem dX2_isDue_22 : decode cX2_isDue 22 = .ok (.aload_n 1, 1) := by decide +kernel
theorem dX2_isDue_23 : decode cX2_isDue 23 = .ok (.iload 4, 2) := by decide +kernel
theorem dX2_isDue_25 : decode cX2_isDue 25 = .ok (.iload 5, 2) := by decide +kernel
theorem dX2_isDue_27 : decode cX2_isDue 27 = .ok (.invokevirtual 44, 3) := by decide +kernel
theorem dX2_isDue_30 : decode cX2_isDue 30 = .ok (.ifCond .eq 7, 3) := by decide +kernel
theorem dX2_isDue_33 : decode cX2_isDue 33 = .ok (.iconst 1, 1) := by decide +kernel
theorem dX2_isDue_34 : decode cX2_isDue 34 = .ok (.goto 4, 3) := by decide +kernel
theorem dX2_isDue_37 : decode cX2_isDue 37 = .ok (.iconst 0, 1) := by decide +kernel
theorem dX2_isDue_38 : decode cX2_isDue 38 = .ok (.ireturn, 1) := by decide +kernel
theorem dX2_carryOut_0 : decode cX2_carryOut 0 = .ok (.iload_n 1, 1) := by decide +kernel
theorem dX2_carryOut_1 : decode cX2_carryOut 1 = .ok (.bipush 11, 2) := by decide +kernel
theorem dX2_carryOut_3 : decode cX2_carryOut 3 = .ok (.if_icmp .ne 30, 3) := by decide +kernel
theorem dX2_carryOut_6 : decode cX2_carryOut 6 = .ok (.aload_n 0, 1) := by decide +kernel
theorem dX2_carryOut_7 : decode cX2_carryOut 7 = .ok (.iload_n 2, 1) := by decide +kernel
theorem dX2_carryOut_8 : decode cX2_carryOut 8 = .ok (.invokevirtual 66, 3) := by decide +kernel
theorem dX2_carryOut_11 : decode cX2_carryOut 11 = .ok (.ifCond .le 22, 3) := by decide +kernel
theorem dX2_carryOut_14 : decode cX2_carryOut 14 = .ok (.aload_n 0, 1) := by decide +kernel
theorem dX2_carryOut_15 : decode cX2_carryOut 15 = .ok (.iload_n 2, 1) := by decide +kernel
theorem dX2_carryOut_16 : decode cX2_carryOut 16 = .ok (.invokevirtual 69, 3) := by decide +kernel
theorem dX2_carryOut_19 : decode cX2_carryOut 19 = .ok (.pop, 1) := by decide +kernel
theorem dX2_carryOut_20 : decode cX2_carryOut 20 = .ok (.aload_n 0, 1) := by decide +kernel
theorem dX2_carryOut_21 : decode cX2_carryOut 21 = .ok (.dup, 1) := by decide +kernel
theorem dX2_carryOut_22 : decode cX2_carryOut 22 = .ok (.getfield 72, 3) := by decide +kernel
theorem dX2_carryOut_25 : decode cX2_carryOut 25 = .ok (.iconst 1, 1) := by decide +kernel
theorem dX2_carryOut_26 : decode cX2_carryOut 26 = .ok (.iadd, 1) := by decide +kernel
theorem dX2_carryOut_27 : decode cX2_carryOut 27 = .ok (.putfield 72, 3) := by decide +kernel
theorem dX2_carryOut_30 : decode cX2_carryOut 30 = .ok (.goto 64, 3) := by decide +kernel
theorem dX2_carryOut_33 : decode cX2_carryOut 33 = .ok (.iload_n 1, 1) := by decide +kernel
theorem dX2_carryOut_34 : decode cX2_carryOut 34 = .ok (.bipush 12, 2) := by decide +kernel
theorem dX2_carryOut_36 : decode cX2_carryOut 36 = .ok (.if_icmp .ne 29, 3) := by decide +kernel
theorem dX2_carryOut_39 : decode cX2_carryOut 39 = .ok (.aload_n 0, 1) := by decide +kernel
theorem dX2_carryOut_40 : decode cX2_carryOut 40 = .ok (.iload_n 2, 1) := by decide +kernel
theorem dX2_carryOut_41 : decode cX2_carryOut 41 = .ok (.invokevirtual 75, 3) := by decide +kernel
theorem dX2_carryOut_44 : decode cX2_carryOut 44 = .ok (.ifCond .eq 21, 3) := by decide +kernel
theorem dX2_carryOut_47 : decode cX2_carryOut 47 = .ok (.aload_n 0, 1) := by decide +kernel
theorem dX2_carryOut_48 : decode cX2_carryOut 48 = .ok (.iload_n 2, 1) := by decide +kernel
theorem dX2_carryOut_49 : decode cX2_carryOut 49 = .ok (.invokevirtual 79, 3) := by decide +kernel
theorem dX2_carryOut_52 : decode cX2_carryOut 52 = .ok (.aload_n 0, 1) := by decide +kernel
theorem dX2_carryOut_53 : decode cX2_carryOut 53 = .ok (.dup, 1) := by decide +kernel
theorem dX2_carryOut_54 : decode cX2_carryOut 54 = .ok (.getfield 72, 3) := by decide +kernel
theorem dX2_carryOut_57 : decode cX2_carryOut 57 = .ok (.iconst 1, 1) := by decide +kernel
theorem dX2_carryOut_58 : decode cX2_carryOut 58 = .ok (.iadd, 1) := by decide +kernel
theorem dX2_carryOut_59 : decode cX2_carryOut 59 = .ok (.putfield 72, 3) := by decide +kernel
theorem dX2_carryOut_62 : decode cX2_carryOut 62 = .ok (.goto 32, 3) := by decide +kernel
theorem dX2_carryOut_65 : decode cX2_carryOut 65 = .ok (.iload_n 1, 1) := by decide +kernel
theorem dX2_carryOut_66 : decode cX2_carryOut 66 = .ok (.bipush 13, 2) := by decide +kernel
theorem dX2_carryOut_68 : decode cX2_carryOut 68 = .ok (.if_icmp .ne 26, 3) := by decide +kernel
theorem dX2_carryOut_71 : decode cX2_carryOut 71 = .ok (.aload_n 0, 1) := by decide +kernel
theorem dX2_carryOut_72 : decode cX2_carryOut 72 = .ok (.iload_n 2, 1) := by decide +kernel
theorem dX2_carryOut_73 : decode cX2_carryOut 73 = .ok (.invokevirtual 83, 3) := by decide +kernel
theorem dX2_carryOut_76 : decode cX2_carryOut 76 = .ok (.ifCond .eq 18, 3) := by decide +kernel
theorem dX2_carryOut_79 : decode cX2_carryOut 79 = .ok (.aload_n 0, 1) := by decide +kernel
theorem dX2_carryOut_80 : decode cX2_carryOut 80 = .ok (.iload_n 2, 1) := by decide +kernel
theorem dX2_carryOut_81 : decode cX2_carryOut 81 = .ok (.invokevirtual 86, 3) := by decide +kernel
theorem dX2_carryOut_84 : decode cX2_carryOut 84 = .ok (.aload_n 0, 1) := by decide +kernel
theorem dX2_carryOut_85 : decode cX2_carryOut 85 = .ok (.dup, 1) := by decide +kernel
theorem dX2_carryOut_86 : decode cX2_carryOut 86 = .ok (.getfield 72, 3) := by decide +kernel
theorem dX2_carryOut_89 : decode cX2_carryOut 89 = .ok (.iconst 1, 1) := by decide +kernel
theorem dX2_carryOut_90 : decode cX2_carryOut 90 = .ok (.iadd, 1) := by decide +kernel
theorem dX2_carryOut_91 : decode cX2_carryOut 91 = .ok (.putfield 72, 3) := by decide +kernel
theorem dX2_carryOut_94 : decode cX2_carryOut 94 = .ok (.return_, 1) := by decide +kernel
theorem dX2_reckon_0 : decode cX2_reckon 0 = .ok (.aload_n 1, 1) := by decide +kernel
theorem dX2_reckon_1 : decode cX2_reckon 1 = .ok (.getfield 15, 3) := by decide +kernel
theorem dX2_reckon_4 : decode cX2_reckon 4 = .ok (.getfield 21, 3) := by decide +kernel
theorem dX2_reckon_7 : decode cX2_reckon 7 = .ok (.astore 4, 2) := by decide +kernel
theorem dX2_reckon_9 : decode cX2_reckon 9 = .ok (.aload_n 0, 1) := by decide +kernel
theorem dX2_reckon_10 : decode cX2_reckon 10 = .ok (.iconst 0, 1) := by decide +kernel
theorem dX2_reckon_11 : decode cX2_reckon 11 = .ok (.putfield 89, 3) := by decide +kernel
theorem dX2_reckon_14 : decode cX2_reckon 14 = .ok (.iload_n 2, 1) := by decide +kernel
theorem dX2_reckon_15 : decode cX2_reckon 15 = .ok (.istore 5, 2) := by decide +kernel
theorem dX2_reckon_17 : decode cX2_reckon 17 = .ok (.iload 5, 2) := by decide +kernel
theorem dX2_reckon_19 : decode cX2_reckon 19 = .ok (.iload_n 3, 1) := by decide +kernel
theorem dX2_reckon_20 : decode cX2_reckon 20 = .ok (.if_icmp .ge 28, 3) := by decide +kernel
theorem dX2_reckon_23 : decode cX2_reckon 23 = .ok (.aload_n 0, 1) := by decide +kernel
theorem dX2_reckon_24 : decode cX2_reckon 24 = .ok (.aload_n 1, 1) := by decide +kernel
theorem dX2_reckon_25 : decode cX2_reckon 25 = .ok (.aload 4, 2) := by decide +kernel
theorem dX2_reckon_27 : decode cX2_reckon 27 = .ok (.iload 5, 2) := by decide +kernel
theorem dX2_reckon_29 : decode cX2_reckon 29 = .ok (.invokevirtual 92, 3) := by decide +kernel
theorem dX2_reckon_32 : decode cX2_reckon 32 = .ok (.aload 4, 2) := by decide +kernel
theorem dX2_reckon_34 : decode cX2_reckon 34 = .ok (.iload 5, 2) := by decide +kernel
theorem dX2_reckon_36 : decode cX2_reckon 36 = .ok (.invokevirtual 95, 3) := by decide +kernel
theorem dX2_reckon_39 : decode cX2_reckon 39 = .ok (.invokevirtual 98, 3) := by decide +kernel
theorem dX2_reckon_42 : decode cX2_reckon 42 = .ok (.iinc 5 1, 3) := by decide +kernel
theorem dX2_reckon_45 : decode cX2_reckon 45 = .ok (.goto (-28), 3) := by decide +kernel
theorem dX2_reckon_48 : decode cX2_reckon 48 = .ok (.aload_n 0, 1) := by decide +kernel
theorem dX2_reckon_49 : decode cX2_reckon 49 = .ok (.invokevirtual 101, 3) := by decide +kernel
theorem dX2_reckon_52 : decode cX2_reckon 52 = .ok (.ireturn, 1) := by decide +kernel
theorem dX2_takeStep_0 : decode cX2_takeStep 0 = .ok (.iload_n 2, 1) := by decide +kernel
theorem dX2_takeStep_1 : decode cX2_takeStep 1 = .ok (.tableswitch 305 15 46 #[151, 162, 173, 184, 195, 210, 237, 225, 259, 286, 305, 305, 305, 305, 305, 305, 305, 305, 305, 305, 305, 305, 305, 305, 305, 305, 305, 305, 305, 305, 143, 274], 143) := by decide +kernel
theorem dX2_takeStep_144 : decode cX2_takeStep 144 = .ok (.aload_n 0, 1) := by decide +kernel
theorem dX2_takeStep_145 : decode cX2_takeStep 145 = .ok (.iload_n 3, 1) := by decide +kernel
theorem dX2_takeStep_146 : decode cX2_takeStep 146 = .ok (.invokevirtual 105, 3) := by decide +kernel
theorem dX2_takeStep_149 : decode cX2_takeStep 149 = .ok (.goto 181, 3) := by decide +kernel
theorem dX2_takeStep_152 : decode cX2_takeStep 152 = .ok (.aload_n 0, 1) := by decide +kernel
theorem dX2_takeStep_153 : decode cX2_takeStep 153 = .ok (.aload_n 1, 1) := by decide +kernel
theorem dX2_takeStep_154 : decode cX2_takeStep 154 = .ok (.getfield 58, 3) := by decide +kernel
theorem dX2_takeStep_157 : decode cX2_takeStep 157 = .ok (.invokevirtual 105, 3) := by decide +kernel
theorem dX2_takeStep_160 : decode cX2_takeStep 160 = .ok (.goto 170, 3) := by decide +kernel
theorem dX2_takeStep_163 : decode cX2_takeStep 163 = .ok (.aload_n 0, 1) := by decide +kernel
theorem dX2_takeStep_164 : decode cX2_takeStep 164 = .ok (.aload_n 1, 1) := by decide +kernel
theorem dX2_takeStep_165 : decode cX2_takeStep 165 = .ok (.getfield 108, 3) := by decide +kernel
theorem dX2_takeStep_168 : decode cX2_takeStep 168 = .ok (.invokevirtual 105, 3) := by decide +kernel
theorem dX2_takeStep_171 : decode cX2_takeStep 171 = .ok (.goto 159, 3) := by decide +kernel
theorem dX2_takeStep_174 : decode cX2_takeStep 174 = .ok (.aload_n 0, 1) := by decide +kernel
theorem dX2_takeStep_175 : decode cX2_takeStep 175 = .ok (.aload_n 1, 1) := by decide +kernel
theorem dX2_takeStep_176 : decode cX2_takeStep 176 = .ok (.getfield 111, 3) := by decide +kernel
theorem dX2_takeStep_179 : decode cX2_takeStep 179 = .ok (.invokevirtual 105, 3) := by decide +kernel
theorem dX2_takeStep_182 : decode cX2_takeStep 182 = .ok (.goto 148, 3) := by decide +kernel
theorem dX2_takeStep_185 : decode cX2_takeStep 185 = .ok (.aload_n 0, 1) := by decide +kernel
theorem dX2_takeStep_186 : decode cX2_takeStep 186 = .ok (.aload_n 1, 1) := by decide +kernel
theorem dX2_takeStep_187 : decode cX2_takeStep 187 = .ok (.getfield 114, 3) := by decide +kernel
theorem dX2_takeStep_190 : decode cX2_takeStep 190 = .ok (.invokevirtual 105, 3) := by decide +kernel
theorem dX2_takeStep_193 : decode cX2_takeStep 193 = .ok (.goto 137, 3) := by decide +kernel
theorem dX2_takeStep_196 : decode cX2_takeStep 196 = .ok (.aload_n 0, 1) := by decide +kernel
theorem dX2_takeStep_197 : decode cX2_takeStep 197 = .ok (.aload_n 1, 1) := by decide +kernel
theorem dX2_takeStep_198 : decode cX2_takeStep 198 = .ok (.getfield 15, 3) := by decide +kernel
theorem dX2_takeStep_201 : decode cX2_takeStep 201 = .ok (.iload_n 3, 1) := by decide +kernel
theorem dX2_takeStep_202 : decode cX2_takeStep 202 = .ok (.invokevirtual 117, 3) := by decide +kernel
theorem dX2_takeStep_205 : decode cX2_takeStep 205 = .ok (.invokevirtual 105, 3) := by decide +kernel
theorem dX2_takeStep_208 : decode cX2_takeStep 208 = .ok (.goto 122, 3) := by decide +kernel
theorem dX2_takeStep_211 : decode cX2_takeStep 211 = .ok (.aload_n 0, 1) := by decide +kernel
theorem dX2_takeStep_212 : decode cX2_takeStep 212 = .ok (.aload_n 1, 1) := by decide +kernel
theorem dX2_takeStep_213 : decode cX2_takeStep 213 = .ok (.getfield 15, 3) := by decide +kernel
theorem dX2_takeStep_216 : decode cX2_takeStep 216 = .ok (.iload_n 3, 1) := by decide +kernel
theorem dX2_takeStep_217 : decode cX2_takeStep 217 = .ok (.invokevirtual 120, 3) := by decide +kernel
theorem dX2_takeStep_220 : decode cX2_takeStep 220 = .ok (.invokevirtual 105, 3) := by decide +kernel
theorem dX2_takeStep_223 : decode cX2_takeStep 223 = .ok (.goto 107, 3) := by decide +kernel
theorem dX2_takeStep_226 : decode cX2_takeStep 226 = .ok (.aload_n 0, 1) := by decide +kernel
theorem dX2_takeStep_227 : decode cX2_takeStep 227 = .ok (.aload_n 1, 1) := by decide +kernel
theorem dX2_takeStep_228 : decode cX2_takeStep 228 = .ok (.iload_n 3, 1) := by decide +kernel
theorem dX2_takeStep_229 : decode cX2_takeStep 229 = .ok (.invokevirtual 123, 3) := by decide +kernel
theorem dX2_takeStep_232 : decode cX2_takeStep 232 = .ok (.invokevirtual 126, 3) := by decide +kernel
theorem dX2_takeStep_235 : decode cX2_takeStep 235 = .ok (.goto 95, 3) := by decide +kernel
theorem dX2_takeStep_238 : decode cX2_takeStep 238 = .ok (.aload_n 0, 1) := by decide +kernel
theorem dX2_takeStep_239 : decode cX2_takeStep 239 = .ok (.aload_n 1, 1) := by decide +kernel
theorem dX2_takeStep_240 : decode cX2_takeStep 240 = .ok (.aload_n 1, 1) := by decide +kernel
theorem dX2_takeStep_241 : decode cX2_takeStep 241 = .ok (.getfield 15, 3) := by decide +kernel
theorem dX2_takeStep_244 : decode cX2_takeStep 244 = .ok (.aload_n 0, 1) := by decide +kernel
theorem dX2_takeStep_245 : decode cX2_takeStep 245 = .ok (.invokevirtual 101, 3) := by decide +kernel
theorem dX2_takeStep_248 : decode cX2_takeStep 248 = .ok (.invokevirtual 51, 3) := by decide +kernel
theorem dX2_takeStep_251 : decode cX2_takeStep 251 = .ok (.invokevirtual 66, 3) := by decide +kernel
theorem dX2_takeStep_254 : decode cX2_takeStep 254 = .ok (.invokevirtual 105, 3) := by decide +kernel
theorem dX2_takeStep_257 : decode cX2_takeStep 257 = .ok (.goto 73, 3) := by decide +kernel
theorem dX2_takeStep_260 : decode cX2_takeStep 260 = .ok (.aload_n 0, 1) := by decide +kernel
theorem dX2_takeStep_261 : decode cX2_takeStep 261 = .ok (.aload_n 1, 1) := by decide +kernel
theorem dX2_takeStep_262 : decode cX2_takeStep 262 = .ok (.aload_n 0, 1) := by decide +kernel
theorem dX2_takeStep_263 : decode cX2_takeStep 263 = .ok (.invokevirtual 101, 3) := by decide +kernel
theorem dX2_takeStep_266 : decode cX2_takeStep 266 = .ok (.invokevirtual 130, 3) := by decide +kernel
theorem dX2_takeStep_269 : decode cX2_takeStep 269 = .ok (.invokevirtual 126, 3) := by decide +kernel
theorem dX2_takeStep_272 : decode cX2_takeStep 272 = .ok (.goto 58, 3) := by decide +kernel
theorem dX2_takeStep_275 : decode cX2_takeStep 275 = .ok (.aload_n 0, 1) := by decide +kernel
theorem dX2_takeStep_276 : decode cX2_takeStep 276 = .ok (.aload_n 0, 1) := by decide +kernel
theorem dX2_takeStep_277 : decode cX2_takeStep 277 = .ok (.invokevirtual 101, 3) := by decide +kernel
theorem dX2_takeStep_280 : decode cX2_takeStep 280 = .ok (.ineg, 1) := by decide +kernel
theorem dX2_takeStep_281 : decode cX2_takeStep 281 = .ok (.invokevirtual 105, 3) := by decide +kernel
theorem dX2_takeStep_284 : decode cX2_takeStep 284 = .ok (.goto 46, 3) := by decide +kernel
theorem dX2_takeStep_287 : decode cX2_takeStep 287 = .ok (.aload_n 0, 1) := by decide +kernel
theorem dX2_takeStep_288 : decode cX2_takeStep 288 = .ok (.aload_n 0, 1) := by decide +kernel
theorem dX2_takeStep_289 : decode cX2_takeStep 289 = .ok (.invokevirtual 101, 3) := by decide +kernel
theorem dX2_takeStep_292 : decode cX2_takeStep 292 = .ok (.ifCond .ne 7, 3) := by decide +kernel
theorem dX2_takeStep_295 : decode cX2_takeStep 295 = .ok (.iconst 1, 1) := by decide +kernel
theorem dX2_takeStep_296 : decode cX2_takeStep 296 = .ok (.goto 4, 3) := by decide +kernel
theorem dX2_takeStep_299 : decode cX2_takeStep 299 = .ok (.iconst 0, 1) := by decide +kernel
theorem dX2_takeStep_300 : decode cX2_takeStep 300 = .ok (.invokevirtual 126, 3) := by decide +kernel
theorem dX2_takeStep_303 : decode cX2_takeStep 303 = .ok (.goto 27, 3) := by decide +kernel
theorem dX2_takeStep_306 : decode cX2_takeStep 306 = .ok (.aload_n 0, 1) := by decide +kernel
theorem dX2_takeStep_307 : decode cX2_takeStep 307 = .ok (.invokevirtual 101, 3) := by decide +kernel
theorem dX2_takeStep_310 : decode cX2_takeStep 310 = .ok (.istore 4, 2) := by decide +kernel
theorem dX2_takeStep_312 : decode cX2_takeStep 312 = .ok (.aload_n 0, 1) := by decide +kernel
theorem dX2_takeStep_313 : decode cX2_takeStep 313 = .ok (.invokevirtual 101, 3) := by decide +kernel
theorem dX2_takeStep_316 : decode cX2_takeStep 316 = .ok (.istore 5, 2) := by decide +kernel
theorem dX2_takeStep_318 : decode cX2_takeStep 318 = .ok (.aload_n 0, 1) := by decide +kernel
theorem dX2_takeStep_319 : decode cX2_takeStep 319 = .ok (.iload_n 2, 1) := by decide +kernel
theorem dX2_takeStep_320 : decode cX2_takeStep 320 = .ok (.iload 5, 2) := by decide +kernel
theorem dX2_takeStep_322 : decode cX2_takeStep 322 = .ok (.iload 4, 2) := by decide +kernel
theorem dX2_takeStep_324 : decode cX2_takeStep 324 = .ok (.invokestatic 133, 3) := by decide +kernel
theorem dX2_takeStep_327 : decode cX2_takeStep 327 = .ok (.invokevirtual 105, 3) := by decide +kernel
theorem dX2_takeStep_330 : decode cX2_takeStep 330 = .ok (.return_, 1) := by decide +kernel
theorem dX2_join_0 : decode cX2_join 0 = .ok (.iload_n 0, 1) := by decide +kernel
theorem dX2_join_1 : decode cX2_join 1 = .ok (.tableswitch 115 25 38 #[107, 111, 95, 101, 115, 115, 115, 115, 115, 115, 71, 75, 79, 83], 71) := by decide +kernel
theorem dX2_join_72 : decode cX2_join 72 = .ok (.iload_n 1, 1) := by decide +kernel
theorem dX2_join_73 : decode cX2_join 73 = .ok (.iload_n 2, 1) := by decide +kernel
theorem dX2_join_74 : decode cX2_join 74 = .ok (.iadd, 1) := by decide +kernel
theorem dX2_join_75 : decode cX2_join 75 = .ok (.ireturn, 1) := by decide +kernel
theorem dX2_join_76 : decode cX2_join 76 = .ok (.iload_n 1, 1) := by decide +kernel
theorem dX2_join_77 : decode cX2_join 77 = .ok (.iload_n 2, 1) := by decide +kernel
theorem dX2_join_78 : decode cX2_join 78 = .ok (.isub, 1) := by decide +kernel
theorem dX2_join_79 : decode cX2_join 79 = .ok (.ireturn, 1) := by decide +kernel
theorem dX2_join_80 : decode cX2_join 80 = .ok (.iload_n 1, 1) := by decide +kernel
theorem dX2_join_81 : decode cX2_join 81 = .ok (.iload_n 2, 1) := by decide +kernel
theorem dX2_join_82 : decode cX2_join 82 = .ok (.imul, 1) := by decide +kernel
theorem dX2_join_83 : decode cX2_join 83 = .ok (.ireturn, 1) := by decide +kernel
theorem dX2_join_84 : decode cX2_join 84 = .ok (.iload_n 2, 1) := by decide +kernel
theorem dX2_join_85 : decode cX2_join 85 = .ok (.ifCond .ne 7, 3) := by decide +kernel
theorem dX2_join_88 : decode cX2_join 88 = .ok (.iconst 0, 1) := by decide +kernel
theorem dX2_join_89 : decode cX2_join 89 = .ok (.goto 6, 3) := by decide +kernel
theorem dX2_join_92 : decode cX2_join 92 = .ok (.iload_n 1, 1) := by decide +kernel
theorem dX2_join_93 : decode cX2_join 93 = .ok (.iload_n 2, 1) := by decide +kernel
theorem dX2_join_94 : decode cX2_join 94 = .ok (.idiv, 1) := by decide +kernel
theorem dX2_join_95 : decode cX2_join 95 = .ok (.ireturn, 1) := by decide +kernel
theorem dX2_join_96 : decode cX2_join 96 = .ok (.iload_n 1, 1) := by decide +kernel
theorem dX2_join_97 : decode cX2_join 97 = .ok (.iload_n 2, 1) := by decide +kernel
theorem dX2_join_98 : decode cX2_join 98 = .ok (.invokestatic 137, 3) := by decide +kernel
theorem dX2_join_101 : decode cX2_join 101 = .ok (.ireturn, 1) := by decide +kernel
theorem dX2_join_102 : decode cX2_join 102 = .ok (.iload_n 1, 1) := by decide +kernel
theorem dX2_join_103 : decode cX2_join 103 = .ok (.iload_n 2, 1) := by decide +kernel
theorem dX2_join_104 : decode cX2_join 104 = .ok (.invokestatic 143, 3) := by decide +kernel
theorem dX2_join_107 : decode cX2_join 107 = .ok (.ireturn, 1) := by decide +kernel
theorem dX2_join_108 : decode cX2_join 108 = .ok (.iload_n 1, 1) := by decide +kernel
theorem dX2_join_109 : decode cX2_join 109 = .ok (.iload_n 2, 1) := by decide +kernel
theorem dX2_join_110 : decode cX2_join 110 = .ok (.iand, 1) := by decide +kernel
theorem dX2_join_111 : decode cX2_join 111 = .ok (.ireturn, 1) := by decide +kernel
theorem dX2_join_112 : decode cX2_join 112 = .ok (.iload_n 1, 1) := by decide +kernel
theorem dX2_join_113 : decode cX2_join 113 = .ok (.iload_n 2, 1) := by decide +kernel
theorem dX2_join_114 : decode cX2_join 114 = .ok (.ior, 1) := by decide +kernel
theorem dX2_join_115 : decode cX2_join 115 = .ok (.ireturn, 1) := by decide +kernel
theorem dX2_join_116 : decode cX2_join 116 = .ok (.iload_n 0, 1) := by decide +kernel
theorem dX2_join_117 : decode cX2_join 117 = .ok (.iload_n 1, 1) := by decide +kernel
theorem dX2_join_118 : decode cX2_join 118 = .ok (.iload_n 2, 1) := by decide +kernel
theorem dX2_join_119 : decode cX2_join 119 = .ok (.invokestatic 146, 3) := by decide +kernel
theorem dX2_join_122 : decode cX2_join 122 = .ok (.ifCond .eq 7, 3) := by decide +kernel
theorem dX2_join_125 : decode cX2_join 125 = .ok (.iconst 1, 1) := by decide +kernel
theorem dX2_join_126 : decode cX2_join 126 = .ok (.goto 4, 3) := by decide +kernel
theorem dX2_join_129 : decode cX2_join 129 = .ok (.iconst 0, 1) := by decide +kernel
theorem dX2_join_130 : decode cX2_join 130 = .ok (.ireturn, 1) := by decide +kernel
theorem dX2_compares_0 : decode cX2_compares 0 = .ok (.iload_n 0, 1) := by decide +kernel
theorem dX2_compares_1 : decode cX2_compares 1 = .ok (.tableswitch 90 39 43 #[35, 46, 57, 68, 79], 35) := by decide +kernel
theorem dX2_compares_36 : decode cX2_compares 36 = .ok (.iload_n 1, 1) := by decide +kernel
theorem dX2_compares_37 : decode cX2_compares 37 = .ok (.iload_n 2, 1) := by decide +kernel
theorem dX2_compares_38 : decode cX2_compares 38 = .ok (.if_icmp .ge 7, 3) := by decide +kernel
theorem dX2_compares_41 : decode cX2_compares 41 = .ok (.iconst 1, 1) := by decide +kernel
theorem dX2_compares_42 : decode cX2_compares 42 = .ok (.goto 4, 3) := by decide +kernel
theorem dX2_compares_45 : decode cX2_compares 45 = .ok (.iconst 0, 1) := by decide +kernel
theorem dX2_compares_46 : decode cX2_compares 46 = .ok (.ireturn, 1) := by decide +kernel
theorem dX2_compares_47 : decode cX2_compares 47 = .ok (.iload_n 1, 1) := by decide +kernel
theorem dX2_compares_48 : decode cX2_compares 48 = .ok (.iload_n 2, 1) := by decide +kernel
theorem dX2_compares_49 : decode cX2_compares 49 = .ok (.if_icmp .le 7, 3) := by decide +kernel
theorem dX2_compares_52 : decode cX2_compares 52 = .ok (.iconst 1, 1) := by decide +kernel
theorem dX2_compares_53 : decode cX2_compares 53 = .ok (.goto 4, 3) := by decide +kernel
theorem dX2_compares_56 : decode cX2_compares 56 = .ok (.iconst 0, 1) := by decide +kernel
theorem dX2_compares_57 : decode cX2_compares 57 = .ok (.ireturn, 1) := by decide +kernel
theorem dX2_compares_58 : decode cX2_compares 58 = .ok (.iload_n 1, 1) := by decide +kernel
theorem dX2_compares_59 : decode cX2_compares 59 = .ok (.iload_n 2, 1) := by decide +kernel
theorem dX2_compares_60 : decode cX2_compares 60 = .ok (.if_icmp .ne 7, 3) := by decide +kernel
theorem dX2_compares_63 : decode cX2_compares 63 = .ok (.iconst 1, 1) := by decide +kernel
theorem dX2_compares_64 : decode cX2_compares 64 = .ok (.goto 4, 3) := by decide +kernel
theorem dX2_compares_67 : decode cX2_compares 67 = .ok (.iconst 0, 1) := by decide +kernel
theorem dX2_compares_68 : decode cX2_compares 68 = .ok (.ireturn, 1) := by decide +kernel
theorem dX2_compares_69 : decode cX2_compares 69 = .ok (.iload_n 1, 1) := by decide +kernel
theorem dX2_compares_70 : decode cX2_compares 70 = .ok (.iload_n 2, 1) := by decide +kernel
theorem dX2_compares_71 : decode cX2_compares 71 = .ok (.if_icmp .gt 7, 3) := by decide +kernel
theorem dX2_compares_74 : decode cX2_compares 74 = .ok (.iconst 1, 1) := by decide +kernel
theorem dX2_compares_75 : decode cX2_compares 75 = .ok (.goto 4, 3) := by decide +kernel
theorem dX2_compares_78 : decode cX2_compares 78 = .ok (.iconst 0, 1) := by decide +kernel
theorem dX2_compares_79 : decode cX2_compares 79 = .ok (.ireturn, 1) := by decide +kernel
theorem dX2_compares_80 : decode cX2_compares 80 = .ok (.iload_n 1, 1) := by decide +kernel
theorem dX2_compares_81 : decode cX2_compares 81 = .ok (.iload_n 2, 1) := by decide +kernel
theorem dX2_compares_82 : decode cX2_compares 82 = .ok (.if_icmp .lt 7, 3) := by decide +kernel
theorem dX2_compares_85 : decode cX2_compares 85 = .ok (.iconst 1, 1) := by decide +kernel
theorem dX2_compares_86 : decode cX2_compares 86 = .ok (.goto 4, 3) := by decide +kernel
theorem dX2_compares_89 : decode cX2_compares 89 = .ok (.iconst 0, 1) := by decide +kernel
theorem dX2_compares_90 : decode cX2_compares 90 = .ok (.ireturn, 1) := by decide +kernel
theorem dX2_compares_91 : decode cX2_compares 91 = .ok (.iconst 0, 1) := by decide +kernel
theorem dX2_compares_92 : decode cX2_compares 92 = .ok (.ireturn, 1) := by decide +kernel
theorem dX2_pushTruth_0 : decode cX2_pushTruth 0 = .ok (.aload_n 0, 1) := by decide +kernel
theorem dX2_pushTruth_1 : decode cX2_pushTruth 1 = .ok (.iload_n 1, 1) := by decide +kernel
theorem dX2_pushTruth_2 : decode cX2_pushTruth 2 = .ok (.ifCond .eq 7, 3) := by decide +kernel
theorem dX2_pushTruth_5 : decode cX2_pushTruth 5 = .ok (.iconst 1, 1) := by decide +kernel
theorem dX2_pushTruth_6 : decode cX2_pushTruth 6 = .ok (.goto 4, 3) := by decide +kernel
theorem dX2_pushTruth_9 : decode cX2_pushTruth 9 = .ok (.iconst 0, 1) := by decide +kernel
theorem dX2_pushTruth_10 : decode cX2_pushTruth 10 = .ok (.invokevirtual 105, 3) := by decide +kernel
theorem dX2_pushTruth_13 : decode cX2_pushTruth 13 = .ok (.return_, 1) := by decide +kernel
theorem dX2_push_0 : decode cX2_push 0 = .ok (.aload_n 0, 1) := by decide +kernel
theorem dX2_push_1 : decode cX2_push 1 = .ok (.getfield 89, 3) := by decide +kernel
theorem dX2_push_4 : decode cX2_push 4 = .ok (.ifCond .lt 33, 3) := by decide +kernel
theorem dX2_push_7 : decode cX2_push 7 = .ok (.aload_n 0, 1) := by decide +kernel
theorem dX2_push_8 : decode cX2_push 8 = .ok (.getfield 89, 3) := by decide +kernel
theorem dX2_push_11 : decode cX2_push 11 = .ok (.sipush 400, 3) := by decide +kernel
theorem dX2_push_14 : decode cX2_push 14 = .ok (.if_icmp .ge 23, 3) := by decide +kernel
theorem dX2_push_17 : decode cX2_push 17 = .ok (.aload_n 0, 1) := by decide +kernel
theorem dX2_push_18 : decode cX2_push 18 = .ok (.getfield 9, 3) := by decide +kernel
theorem dX2_push_21 : decode cX2_push 21 = .ok (.aload_n 0, 1) := by decide +kernel
theorem dX2_push_22 : decode cX2_push 22 = .ok (.getfield 89, 3) := by decide +kernel
theorem dX2_push_25 : decode cX2_push 25 = .ok (.iload_n 1, 1) := by decide +kernel
theorem dX2_push_26 : decode cX2_push 26 = .ok (.iastore, 1) := by decide +kernel
theorem dX2_push_27 : decode cX2_push 27 = .ok (.aload_n 0, 1) := by decide +kernel
theorem dX2_push_28 : decode cX2_push 28 = .ok (.dup, 1) := by decide +kernel
theorem dX2_push_29 : decode cX2_push 29 = .ok (.getfield 89, 3) := by decide +kernel
theorem dX2_push_32 : decode cX2_push 32 = .ok (.iconst 1, 1) := by decide +kernel
theorem dX2_push_33 : decode cX2_push 33 = .ok (.iadd, 1) := by decide +kernel
theorem dX2_push_34 : decode cX2_push 34 = .ok (.putfield 89, 3) := by decide +kernel
theorem dX2_push_37 : decode cX2_push 37 = .ok (.return_, 1) := by decide +kernel
theorem dX2_pull_0 : decode cX2_pull 0 = .ok (.aload_n 0, 1) := by decide +kernel
theorem dX2_pull_1 : decode cX2_pull 1 = .ok (.getfield 89, 3) := by decide +kernel
theorem dX2_pull_4 : decode cX2_pull 4 = .ok (.ifCond .le 13, 3) := by decide +kernel
theorem dX2_pull_7 : decode cX2_pull 7 = .ok (.aload_n 0, 1) := by decide +kernel
theorem dX2_pull_8 : decode cX2_pull 8 = .ok (.getfield 89, 3) := by decide +kernel
theorem dX2_pull_11 : decode cX2_pull 11 = .ok (.sipush 400, 3) := by decide +kernel
theorem dX2_pull_14 : decode cX2_pull 14 = .ok (.if_icmp .le 5, 3) := by decide +kernel
theorem dX2_pull_17 : decode cX2_pull 17 = .ok (.iconst 0, 1) := by decide +kernel
theorem dX2_pull_18 : decode cX2_pull 18 = .ok (.ireturn, 1) := by decide +kernel
theorem dX2_pull_19 : decode cX2_pull 19 = .ok (.aload_n 0, 1) := by decide +kernel
theorem dX2_pull_20 : decode cX2_pull 20 = .ok (.dup, 1) := by decide +kernel
theorem dX2_pull_21 : decode cX2_pull 21 = .ok (.getfield 89, 3) := by decide +kernel
theorem dX2_pull_24 : decode cX2_pull 24 = .ok (.iconst 1, 1) := by decide +kernel
theorem dX2_pull_25 : decode cX2_pull 25 = .ok (.isub, 1) := by decide +kernel
theorem dX2_pull_26 : decode cX2_pull 26 = .ok (.putfield 89, 3) := by decide +kernel
theorem dX2_pull_29 : decode cX2_pull 29 = .ok (.aload_n 0, 1) := by decide +kernel
theorem dX2_pull_30 : decode cX2_pull 30 = .ok (.getfield 9, 3) := by decide +kernel
theorem dX2_pull_33 : decode cX2_pull 33 = .ok (.aload_n 0, 1) := by decide +kernel
theorem dX2_pull_34 : decode cX2_pull 34 = .ok (.getfield 89, 3) := by decide +kernel
theorem dX2_pull_37 : decode cX2_pull 37 = .ok (.iaload, 1) := by decide +kernel
theorem dX2_pull_38 : decode cX2_pull 38 = .ok (.ireturn, 1) := by decide +kernel
theorem dX3_init_0 : decode cX3_init 0 = .ok (.aload_n 0, 1) := by decide +kernel
theorem dX3_init_1 : decode cX3_init 1 = .ok (.invokespecial 3, 3) := by decide +kernel
theorem dX3_init_4 : decode cX3_init 4 = .ok (.aload_n 0, 1) := by decide +kernel
theorem dX3_init_5 : decode cX3_init 5 = .ok (.new 9, 3) := by decide +kernel
theorem dX3_init_8 : decode cX3_init 8 = .ok (.dup, 1) := by decide +kernel
theorem dX3_init_9 : decode cX3_init 9 = .ok (.aload_n 1, 1) := by decide +kernel
theorem dX3_init_10 : decode cX3_init 10 = .ok (.invokespecial 11, 3) := by decide +kernel
theorem dX3_init_13 : decode cX3_init 13 = .ok (.putfield 14, 3) := by decide +kernel
theorem dX3_init_16 : decode cX3_init 16 = .ok (.aload_n 0, 1) := by decide +kernel
theorem dX3_init_17 : decode cX3_init 17 = .ok (.new 20, 3) := by decide +kernel
theorem dX3_init_20 : decode cX3_init 20 = .ok (.dup, 1) := by decide +kernel
theorem dX3_init_21 : decode cX3_init 21 = .ok (.invokespecial 22, 3) := by decide +kernel
theorem dX3_init_24 : decode cX3_init 24 = .ok (.putfield 23, 3) := by decide +kernel
theorem dX3_init_27 : decode cX3_init 27 = .ok (.aload_n 0, 1) := by decide +kernel
theorem dX3_init_28 : decode cX3_init 28 = .ok (.iconst (-1), 1) := by decide +kernel
theorem dX3_init_29 : decode cX3_init 29 = .ok (.putfield 27, 3) := by decide +kernel
theorem dX3_init_32 : decode cX3_init 32 = .ok (.return_, 1) := by decide +kernel
theorem dX3_read_0 : decode cX3_read 0 = .ok (.aload_n 0, 1) := by decide +kernel
theorem dX3_read_1 : decode cX3_read 1 = .ok (.iconst 0, 1) := by decide +kernel
theorem dX3_read_2 : decode cX3_read 2 = .ok (.putfield 31, 3) := by decide +kernel
theorem dX3_read_5 : decode cX3_read 5 = .ok (.aload_n 0, 1) := by decide +kernel
theorem dX3_read_6 : decode cX3_read 6 = .ok (.iconst (-1), 1) := by decide +kernel
theorem dX3_read_7 : decode cX3_read 7 = .ok (.putfield 27, 3) := by decide +kernel
theorem dX3_read_10 : decode cX3_read 10 = .ok (.aload_n 0, 1) := by decide +kernel
theorem dX3_read_11 : decode cX3_read 11 = .ok (.getfield 23, 3) := by decide +kernel
theorem dX3_read_14 : decode cX3_read 14 = .ok (.invokevirtual 34, 3) := by decide +kernel
theorem dX3_read_17 : decode cX3_read 17 = .ok (.aload_n 0, 1) := by decide +kernel
theorem dX3_read_18 : decode cX3_read 18 = .ok (.getfield 14, 3) := by decide +kernel
theorem dX3_read_21 : decode cX3_read 21 = .ok (.invokevirtual 37, 3) := by decide +kernel
theorem dX3_read_24 : decode cX3_read 24 = .ok (.aload_n 0, 1) := by decide +kernel
theorem dX3_read_25 : decode cX3_read 25 = .ok (.iconst 0, 1) := by decide +kernel
theorem dX3_read_26 : decode cX3_read 26 = .ok (.putfield 40, 3) := by decide +kernel
theorem dX3_read_29 : decode cX3_read 29 = .ok (.aload_n 0, 1) := by decide +kernel
theorem dX3_read_30 : decode cX3_read 30 = .ok (.aload_n 0, 1) := by decide +kernel
theorem dX3_read_31 : decode cX3_read 31 = .ok (.getfield 14, 3) := by decide +kernel
theorem dX3_read_34 : decode cX3_read 34 = .ok (.getfield 43, 3) := by decide +kernel
theorem dX3_read_37 : decode cX3_read 37 = .ok (.aload_n 0, 1) := by decide +kernel
theorem dX3_read_38 : decode cX3_read 38 = .ok (.getfield 40, 3) := by decide +kernel
theorem dX3_read_41 : decode cX3_read 41 = .ok (.iaload, 1) := by decide +kernel
theorem dX3_read_42 : decode cX3_read 42 = .ok (.putfield 47, 3) := by decide +kernel
theorem dX3_read_45 : decode cX3_read 45 = .ok (.aload_n 0, 1) := by decide +kernel
theorem dX3_read_46 : decode cX3_read 46 = .ok (.getfield 47, 3) := by decide +kernel
theorem dX3_read_49 : decode cX3_read 49 = .ok (.ifCond .ne 7, 3) := by decide +kernel
theorem dX3_read_52 : decode cX3_read 52 = .ok (.aload_n 0, 1) := by decide +kernel
theorem dX3_read_53 : decode cX3_read 53 = .ok (.invokevirtual 50, 3) := by decide +kernel
theorem dX3_read_56 : decode cX3_read 56 = .ok (.iconst 0, 1) := by decide +kernel
theorem dX3_read_57 : decode cX3_read 57 = .ok (.istore_n 1, 1) := by decide +kernel
theorem dX3_read_58 : decode cX3_read 58 = .ok (.iload_n 1, 1) := by decide +kernel
theorem dX3_read_59 : decode cX3_read 59 = .ok (.sipush 400, 3) := by decide +kernel
theorem dX3_read_62 : decode cX3_read 62 = .ok (.if_icmp .ge 36, 3) := by decide +kernel
theorem dX3_read_65 : decode cX3_read 65 = .ok (.aload_n 0, 1) := by decide +kernel
theorem dX3_read_66 : decode cX3_read 66 = .ok (.getfield 47, 3) := by decide +kernel
theorem dX3_read_69 : decode cX3_read 69 = .ok (.bipush 47, 2) := by decide +kernel
theorem dX3_read_71 : decode cX3_read 71 = .ok (.if_icmp .eq 27, 3) := by decide +kernel
theorem dX3_read_74 : decode cX3_read 74 = .ok (.aload_n 0, 1) := by decide +kernel
theorem dX3_read_75 : decode cX3_read 75 = .ok (.getfield 31, 3) := by decide +kernel
theorem dX3_read_78 : decode cX3_read 78 = .ok (.iconst 1, 1) := by decide +kernel
theorem dX3_read_79 : decode cX3_read 79 = .ok (.if_icmp .eq 19, 3) := by decide +kernel
theorem dX3_read_82 : decode cX3_read 82 = .ok (.aload_n 0, 1) := by decide +kernel
theorem dX3_read_83 : decode cX3_read 83 = .ok (.invokevirtual 55, 3) := by decide +kernel
theorem dX3_read_86 : decode cX3_read 86 = .ok (.aload_n 0, 1) := by decide +kernel
theorem dX3_read_87 : decode cX3_read 87 = .ok (.bipush 33, 2) := by decide +kernel
theorem dX3_read_89 : decode cX3_read 89 = .ok (.invokevirtual 58, 3) := by decide +kernel
theorem dX3_read_92 : decode cX3_read 92 = .ok (.iinc 1 1, 3) := by decide +kernel
theorem dX3_read_95 : decode cX3_read 95 = .ok (.goto (-37), 3) := by decide +kernel
theorem dX3_read_98 : decode cX3_read 98 = .ok (.aload_n 0, 1) := by decide +kernel
theorem dX3_read_99 : decode cX3_read 99 = .ok (.getfield 31, 3) := by decide +kernel
theorem dX3_read_102 : decode cX3_read 102 = .ok (.ireturn, 1) := by decide +kernel
theorem dX3_errorPlace_0 : decode cX3_errorPlace 0 = .ok (.aload_n 0, 1) := by decide +kernel
theorem dX3_errorPlace_1 : decode cX3_errorPlace 1 = .ok (.getfield 27, 3) := by decide +kernel
theorem dX3_errorPlace_4 : decode cX3_errorPlace 4 = .ok (.ireturn, 1) := by decide +kernel
theorem dX3_exchange_0 : decode cX3_exchange 0 = .ok (.aload_n 0, 1) := by decide +kernel
theorem dX3_exchange_1 : decode cX3_exchange 1 = .ok (.getfield 23, 3) := by decide +kernel
theorem dX3_exchange_4 : decode cX3_exchange 4 = .ok (.astore_n 2, 1) := by decide +kernel
theorem dX3_exchange_5 : decode cX3_exchange 5 = .ok (.aload_n 0, 1) := by decide +kernel
theorem dX3_exchange_6 : decode cX3_exchange 6 = .ok (.aload_n 1, 1) := by decide +kernel
theorem dX3_exchange_7 : decode cX3_exchange 7 = .ok (.putfield 23, 3) := by decide +kernel
theorem dX3_exchange_10 : decode cX3_exchange 10 = .ok (.aload_n 2, 1) := by decide +kernel
theorem dX3_exchange_11 : decode cX3_exchange 11 = .ok (.areturn, 1) := by decide +kernel
theorem dX3_advance_0 : decode cX3_advance 0 = .ok (.aload_n 0, 1) := by decide +kernel
theorem dX3_advance_1 : decode cX3_advance 1 = .ok (.getfield 40, 3) := by decide +kernel
theorem dX3_advance_4 : decode cX3_advance 4 = .ok (.iconst 1, 1) := by decide +kernel
theorem dX3_advance_5 : decode cX3_advance 5 = .ok (.iadd, 1) := by decide +kernel
theorem dX3_advance_6 : decode cX3_advance 6 = .ok (.aload_n 0, 1) := by decide +kernel
theorem dX3_advance_7 : decode cX3_advance 7 = .ok (.getfield 14, 3) := by decide +kernel
theorem dX3_advance_10 : decode cX3_advance 10 = .ok (.getfield 62, 3) := by decide +kernel
theorem dX3_advance_13 : decode cX3_advance 13 = .ok (.if_icmp .ge 41, 3) := by decide +kernel
theorem dX3_advance_16 : decode cX3_advance 16 = .ok (.aload_n 0, 1) := by decide +kernel
theorem dX3_advance_17 : decode cX3_advance 17 = .ok (.getfield 40, 3) := by decide +kernel
theorem dX3_advance_20 : decode cX3_advance 20 = .ok (.iconst 1, 1) := by decide +kernel
theorem dX3_advance_21 : decode cX3_advance 21 = .ok (.iadd, 1) := by decide +kernel
theorem dX3_advance_22 : decode cX3_advance 22 = .ok (.sipush 400, 3) := by decide +kernel
theorem dX3_advance_25 : decode cX3_advance 25 = .ok (.if_icmp .gt 29, 3) := by decide +kernel
theorem dX3_advance_28 : decode cX3_advance 28 = .ok (.aload_n 0, 1) := by decide +kernel
theorem dX3_advance_29 : decode cX3_advance 29 = .ok (.dup, 1) := by decide +kernel
theorem dX3_advance_30 : decode cX3_advance 30 = .ok (.getfield 40, 3) := by decide +kernel
theorem dX3_advance_33 : decode cX3_advance 33 = .ok (.iconst 1, 1) := by decide +kernel
theorem dX3_advance_34 : decode cX3_advance 34 = .ok (.iadd, 1) := by decide +kernel
theorem dX3_advance_35 : decode cX3_advance 35 = .ok (.putfield 40, 3) := by decide +kernel
theorem dX3_advance_38 : decode cX3_advance 38 = .ok (.aload_n 0, 1) := by decide +kernel
theorem dX3_advance_39 : decode cX3_advance 39 = .ok (.aload_n 0, 1) := by decide +kernel
theorem dX3_advance_40 : decode cX3_advance 40 = .ok (.getfield 14, 3) := by decide +kernel
theorem dX3_advance_43 : decode cX3_advance 43 = .ok (.getfield 43, 3) := by decide +kernel
theorem dX3_advance_46 : decode cX3_advance 46 = .ok (.aload_n 0, 1) := by decide +kernel
theorem dX3_advance_47 : decode cX3_advance 47 = .ok (.getfield 40, 3) := by decide +kernel
theorem dX3_advance_50 : decode cX3_advance 50 = .ok (.iaload, 1) := by decide +kernel
theorem dX3_advance_51 : decode cX3_advance 51 = .ok (.putfield 47, 3) := by decide +kernel
theorem dX3_advance_54 : decode cX3_advance 54 = .ok (.return_, 1) := by decide +kernel
theorem dX3_refuse_0 : decode cX3_refuse 0 = .ok (.aload_n 0, 1) := by decide +kernel
theorem dX3_refuse_1 : decode cX3_refuse 1 = .ok (.getfield 31, 3) := by decide +kernel
theorem dX3_refuse_4 : decode cX3_refuse 4 = .ok (.iconst 1, 1) := by decide +kernel
theorem dX3_refuse_5 : decode cX3_refuse 5 = .ok (.if_icmp .eq 24, 3) := by decide +kernel
theorem dX3_refuse_8 : decode cX3_refuse 8 = .ok (.aload_n 0, 1) := by decide +kernel
theorem dX3_refuse_9 : decode cX3_refuse 9 = .ok (.iconst 1, 1) := by decide +kernel
theorem dX3_refuse_10 : decode cX3_refuse 10 = .ok (.putfield 31, 3) := by decide +kernel
theorem dX3_refuse_13 : decode cX3_refuse 13 = .ok (.aload_n 0, 1) := by decide +kernel
theorem dX3_refuse_14 : decode cX3_refuse 14 = .ok (.aload_n 0, 1) := by decide +kernel
theorem dX3_refuse_15 : decode cX3_refuse 15 = .ok (.getfield 14, 3) := by decide +kernel
theorem dX3_refuse_18 : decode cX3_refuse 18 = .ok (.getfield 65, 3) := by decide +kernel
theorem dX3_refuse_21 : decode cX3_refuse 21 = .ok (.aload_n 0, 1) := by decide +kernel
theorem dX3_refuse_22 : decode cX3_refuse 22 = .ok (.getfield 40, 3) := by decide +kernel
theorem dX3_refuse_25 : decode cX3_refuse 25 = .ok (.iaload, 1) := by decide +kernel
theorem dX3_refuse_26 : decode cX3_refuse 26 = .ok (.putfield 27, 3) := by decide +kernel
theorem dX3_refuse_29 : decode cX3_refuse 29 = .ok (.aload_n 0, 1) := by decide +kernel
theorem dX3_refuse_30 : decode cX3_refuse 30 = .ok (.bipush 48, 2) := by decide +kernel
theorem dX3_refuse_32 : decode cX3_refuse 32 = .ok (.putfield 47, 3) := by decide +kernel
theorem dX3_refuse_35 : decode cX3_refuse 35 = .ok (.return_, 1) := by decide +kernel
theorem dX3_complain_0 : decode cX3_complain 0 = .ok (.aload_n 0, 1) := by decide +kernel
theorem dX3_complain_1 : decode cX3_complain 1 = .ok (.getfield 31, 3) := by decide +kernel
theorem dX3_complain_4 : decode cX3_complain 4 = .ok (.ifCond .ne 24, 3) := by decide +kernel
theorem dX3_complain_7 : decode cX3_complain 7 = .ok (.aload_n 0, 1) := by decide +kernel
theorem dX3_complain_8 : decode cX3_complain 8 = .ok (.iload_n 1, 1) := by decide +kernel
theorem dX3_complain_9 : decode cX3_complain 9 = .ok (.putfield 31, 3) := by decide +kernel
theorem dX3_complain_12 : decode cX3_complain 12 = .ok (.aload_n 0, 1) := by decide +kernel
theorem dX3_complain_13 : decode cX3_complain 13 = .ok (.aload_n 0, 1) := by decide +kernel
theorem dX3_complain_14 : decode cX3_complain 14 = .ok (.getfield 14, 3) := by decide +kernel
theorem dX3_complain_17 : decode cX3_complain 17 = .ok (.getfield 65, 3) := by decide +kernel
theorem dX3_complain_20 : decode cX3_complain 20 = .ok (.aload_n 0, 1) := by decide +kernel
theorem dX3_complain_21 : decode cX3_complain 21 = .ok (.getfield 40, 3) := by decide +kernel
theorem dX3_complain_24 : decode cX3_complain 24 = .ok (.iaload, 1) := by decide +kernel
theorem dX3_complain_25 : decode cX3_complain 25 = .ok (.putfield 27, 3) := by decide +kernel
theorem dX3_complain_28 : decode cX3_complain 28 = .ok (.return_, 1) := by decide +kernel
theorem dX3_expect_0 : decode cX3_expect 0 = .ok (.aload_n 0, 1) := by decide +kernel
theorem dX3_expect_1 : decode cX3_expect 1 = .ok (.getfield 47, 3) := by decide +kernel
theorem dX3_expect_4 : decode cX3_expect 4 = .ok (.iload_n 1, 1) := by decide +kernel
theorem dX3_expect_5 : decode cX3_expect 5 = .ok (.if_icmp .ne 10, 3) := by decide +kernel
theorem dX3_expect_8 : decode cX3_expect 8 = .ok (.aload_n 0, 1) := by decide +kernel
theorem dX3_expect_9 : decode cX3_expect 9 = .ok (.invokevirtual 68, 3) := by decide +kernel
theorem dX3_expect_12 : decode cX3_expect 12 = .ok (.goto 7, 3) := by decide +kernel
theorem dX3_expect_15 : decode cX3_expect 15 = .ok (.aload_n 0, 1) := by decide +kernel
theorem dX3_expect_16 : decode cX3_expect 16 = .ok (.invokevirtual 71, 3) := by decide +kernel
theorem dX3_expect_19 : decode cX3_expect 19 = .ok (.return_, 1) := by decide +kernel
theorem dX3_expectNumber_0 : decode cX3_expectNumber 0 = .ok (.aload_n 0, 1) := by decide +kernel
theorem dX3_expectNumber_1 : decode cX3_expectNumber 1 = .ok (.getfield 14, 3) := by decide +kernel
theorem dX3_expectNumber_4 : decode cX3_expectNumber 4 = .ok (.getfield 74, 3) := by decide +kernel
theorem dX3_expectNumber_7 : decode cX3_expectNumber 7 = .ok (.aload_n 0, 1) := by decide +kernel
theorem dX3_expectNumber_8 : decode cX3_expectNumber 8 = .ok (.getfield 40, 3) := by decide +kernel
theorem dX3_expectNumber_11 : decode cX3_expectNumber 11 = .ok (.iaload, 1) := by decide +kernel
theorem dX3_expectNumber_12 : decode cX3_expectNumber 12 = .ok (.istore_n 3, 1) := by decide +kernel
theorem dX3_expectNumber_13 : decode cX3_expectNumber 13 = .ok (.aload_n 0, 1) := by decide +kernel
theorem dX3_expectNumber_14 : decode cX3_expectNumber 14 = .ok (.getfield 47, 3) := by decide +kernel
theorem dX3_expectNumber_17 : decode cX3_expectNumber 17 = .ok (.bipush 45, 2) := by decide +kernel
theorem dX3_expectNumber_19 : decode cX3_expectNumber 19 = .ok (.if_icmp .eq 9, 3) := by decide +kernel
theorem dX3_expectNumber_22 : decode cX3_expectNumber 22 = .ok (.aload_n 0, 1) := by decide +kernel
theorem dX3_expectNumber_23 : decode cX3_expectNumber 23 = .ok (.invokevirtual 71, 3) := by decide +kernel
theorem dX3_expectNumber_26 : decode cX3_expectNumber 26 = .ok (.iload_n 1, 1) := by decide +kernel
theorem dX3_expectNumber_27 : decode cX3_expectNumber 27 = .ok (.ireturn, 1) := by decide +kernel
theorem dX3_expectNumber_28 : decode cX3_expectNumber 28 = .ok (.iload_n 3, 1) := by decide +kernel
theorem dX3_expectNumber_29 : decode cX3_expectNumber 29 = .ok (.iload_n 1, 1) := by decide +kernel
theorem dX3_expectNumber_30 : decode cX3_expectNumber 30 = .ok (.if_icmp .lt 8, 3) := by decide +kernel
theorem dX3_expectNumber_33 : decode cX3_expectNumber 33 = .ok (.iload_n 3, 1) := by decide +kernel
theorem dX3_expectNumber_34 : decode cX3_expectNumber 34 = .ok (.iload_n 2, 1) := by decide +kernel
theorem dX3_expectNumber_35 : decode cX3_expectNumber 35 = .ok (.if_icmp .le 8, 3) := by decide +kernel
theorem dX3_expectNumber_38 : decode cX3_expectNumber 38 = .ok (.aload_n 0, 1) := by decide +kernel
theorem dX3_expectNumber_39 : decode cX3_expectNumber 39 = .ok (.iconst 5, 1) := by decide +kernel
theorem dX3_expectNumber_40 : decode cX3_expectNumber 40 = .ok (.invokevirtual 77, 3) := by decide +kernel
theorem dX3_expectNumber_43 : decode cX3_expectNumber 43 = .ok (.aload_n 0, 1) := by decide +kernel
theorem dX3_expectNumber_44 : decode cX3_expectNumber 44 = .ok (.invokevirtual 68, 3) := by decide +kernel
theorem dX3_expectNumber_47 : decode cX3_expectNumber 47 = .ok (.iload_n 3, 1) := by decide +kernel
theorem dX3_expectNumber_48 : decode cX3_expectNumber 48 = .ok (.ireturn, 1) := by decide +kernel
theorem dX3_readSize_0 : decode cX3_readSize 0 = .ok (.aload_n 0, 1) := by decide +kernel
theorem dX3_readSize_1 : decode cX3_readSize 1 = .ok (.iconst 0, 1) := by decide +kernel
theorem dX3_readSize_2 : decode cX3_readSize 2 = .ok (.invokevirtual 58, 3) := by decide +kernel
theorem dX3_readSize_5 : decode cX3_readSize 5 = .ok (.aload_n 0, 1) := by decide +kernel
theorem dX3_readSize_6 : decode cX3_readSize 6 = .ok (.iconst 2, 1) := by decide +kernel
theorem dX3_readSize_7 : decode cX3_readSize 7 = .ok (.bipush 8, 2) := by decide +kernel
theorem dX3_readSize_9 : decode cX3_readSize 9 = .ok (.invokevirtual 80, 3) := by decide +kernel
theorem dX3_readSize_12 : decode cX3_readSize 12 = .ok (.istore_n 1, 1) := by decide +kernel
theorem dX3_readSize_13 : decode cX3_readSize 13 = .ok (.aload_n 0, 1) := by decide +kernel
theorem dX3_readSize_14 : decode cX3_readSize 14 = .ok (.iconst 1, 1) := by decide +kernel
theorem dX3_readSize_15 : decode cX3_readSize 15 = .ok (.invokevirtual 58, 3) := by decide +kernel
theorem dX3_readSize_18 : decode cX3_readSize 18 = .ok (.aload_n 0, 1) := by decide +kernel
theorem dX3_readSize_19 : decode cX3_readSize 19 = .ok (.iconst 2, 1) := by decide +kernel
theorem dX3_readSize_20 : decode cX3_readSize 20 = .ok (.bipush 10, 2) := by decide +kernel
theorem dX3_readSize_22 : decode cX3_readSize 22 = .ok (.invokevirtual 80, 3) := by decide +kernel
theorem dX3_readSize_25 : decode cX3_readSize 25 = .ok (.istore_n 2, 1) := by decide +kernel
theorem dX3_readSize_26 : decode cX3_readSize 26 = .ok (.aload_n 0, 1) := by decide +kernel
theorem dX3_readSize_27 : decode cX3_readSize 27 = .ok (.bipush 33, 2) := by decide +kernel
theorem dX3_readSize_29 : decode cX3_readSize 29 = .ok (.invokevirtual 58, 3) := by decide +kernel
theorem dX3_readSize_32 : decode cX3_readSize 32 = .ok (.aload_n 0, 1) := by decide +kernel
theorem dX3_readSize_33 : decode cX3_readSize 33 = .ok (.getfield 31, 3) := by decide +kernel
theorem dX3_readSize_36 : decode cX3_readSize 36 = .ok (.ifCond .ne 12, 3) := by decide +kernel
theorem dX3_readSize_39 : decode cX3_readSize 39 = .ok (.aload_n 0, 1) := by decide +kernel
theorem dX3_readSize_40 : decode cX3_readSize 40 = .ok (.getfield 23, 3) := by decide +kernel
theorem dX3_readSize_43 : decode cX3_readSize 43 = .ok (.iload_n 1, 1) := by decide +kernel
theorem dX3_readSize_44 : decode cX3_readSize 44 = .ok (.iload_n 2, 1) := by decide +kernel
theorem dX3_readSize_45 : decode cX3_readSize 45 = .ok (.invokevirtual 84, 3) := by decide +kernel
theorem dX3_readSize_48 : decode cX3_readSize 48 = .ok (.return_, 1) := by decide +kernel
theorem dX3_readLine_0 : decode cX3_readLine 0 = .ok (.aload_n 0, 1) := by decide +kernel
theorem dX3_readLine_1 : decode cX3_readLine 1 = .ok (.getfield 47, 3) := by decide +kernel
theorem dX3_readLine_4 : decode cX3_readLine 4 = .ok (.tableswitch 99 2 13 #[64, 99, 99, 71, 78, 85, 99, 99, 99, 92, 92, 92], 64) := by decide +kernel
theorem dX3_readLine_68 : decode cX3_readLine 68 = .ok (.aload_n 0, 1) := by decide +kernel
theorem dX3_readLine_69 : decode cX3_readLine 69 = .ok (.invokevirtual 88, 3) := by decide +kernel
theorem dX3_readLine_72 : decode cX3_readLine 72 = .ok (.goto 35, 3) := by decide +kernel
theorem dX3_readLine_75 : decode cX3_readLine 75 = .ok (.aload_n 0, 1) := by decide +kernel
theorem dX3_readLine_76 : decode cX3_readLine 76 = .ok (.invokevirtual 91, 3) := by decide +kernel
theorem dX3_readLine_79 : decode cX3_readLine 79 = .ok (.goto 28, 3) := by decide +kernel
theorem dX3_readLine_82 : decode cX3_readLine 82 = .ok (.aload_n 0, 1) := by decide +kernel
theorem dX3_readLine_83 : decode cX3_readLine 83 = .ok (.invokevirtual 94, 3) := by decide +kernel
theorem dX3_readLine_86 : decode cX3_readLine 86 = .ok (.goto 21, 3) := by decide +kernel
theorem dX3_readLine_89 : decode cX3_readLine 89 = .ok (.aload_n 0, 1) := by decide +kernel
theorem dX3_readLine_90 : decode cX3_readLine 90 = .ok (.invokevirtual 97, 3) := by decide +kernel
theorem dX3_readLine_93 : decode cX3_readLine 93 = .ok (.goto 14, 3) := by decide +kernel
theorem dX3_readLine_96 : decode cX3_readLine 96 = .ok (.aload_n 0, 1) := by decide +kernel
theorem dX3_readLine_97 : decode cX3_readLine 97 = .ok (.invokevirtual 100, 3) := by decide +kernel
theorem dX3_readLine_100 : decode cX3_readLine 100 = .ok (.goto 7, 3) := by decide +kernel
theorem dX3_readLine_103 : decode cX3_readLine 103 = .ok (.aload_n 0, 1) := by decide +kernel
theorem dX3_readLine_104 : decode cX3_readLine 104 = .ok (.invokevirtual 71, 3) := by decide +kernel
theorem dX3_readLine_107 : decode cX3_readLine 107 = .ok (.return_, 1) := by decide +kernel
theorem dX3_readEmpire_0 : decode cX3_readEmpire 0 = .ok (.aload_n 0, 1) := by decide +kernel
theorem dX3_readEmpire_1 : decode cX3_readEmpire 1 = .ok (.iconst 2, 1) := by decide +kernel
theorem dX3_readEmpire_2 : decode cX3_readEmpire 2 = .ok (.invokevirtual 58, 3) := by decide +kernel
theorem dX3_readEmpire_5 : decode cX3_readEmpire 5 = .ok (.aload_n 0, 1) := by decide +kernel
theorem dX3_readEmpire_6 : decode cX3_readEmpire 6 = .ok (.getfield 14, 3) := by decide +kernel
theorem dX3_readEmpire_9 : decode cX3_readEmpire 9 = .ok (.getfield 103, 3) := by decide +kernel
theorem dX3_readEmpire_12 : decode cX3_readEmpire 12 = .ok (.aload_n 0, 1) := by decide +kernel
theorem dX3_readEmpire_13 : decode cX3_readEmpire 13 = .ok (.getfield 40, 3) := by decide +kernel
theorem dX3_readEmpire_16 : decode cX3_readEmpire 16 = .ok (.laload, 1) := by decide +kernel
theorem dX3_readEmpire_17 : decode cX3_readEmpire 17 = .ok (.lstore_n 1, 1) := by decide +kernel
theorem dX3_readEmpire_18 : decode cX3_readEmpire 18 = .ok (.aload_n 0, 1) := by decide +kernel
theorem dX3_readEmpire_19 : decode cX3_readEmpire 19 = .ok (.getfield 47, 3) := by decide +kernel
theorem dX3_readEmpire_22 : decode cX3_readEmpire 22 = .ok (.bipush 44, 2) := by decide +kernel
theorem dX3_readEmpire_24 : decode cX3_readEmpire 24 = .ok (.if_icmp .ne 23, 3) := by decide +kernel
theorem dX3_readEmpire_27 : decode cX3_readEmpire 27 = .ok (.aload_n 0, 1) := by decide +kernel
theorem dX3_readEmpire_28 : decode cX3_readEmpire 28 = .ok (.getfield 23, 3) := by decide +kernel
theorem dX3_readEmpire_31 : decode cX3_readEmpire 31 = .ok (.lload_n 1, 1) := by decide +kernel
theorem dX3_readEmpire_32 : decode cX3_readEmpire 32 = .ok (.invokevirtual 107, 3) := by decide +kernel
theorem dX3_readEmpire_35 : decode cX3_readEmpire 35 = .ok (.iconst (-1), 1) := by decide +kernel
theorem dX3_readEmpire_36 : decode cX3_readEmpire 36 = .ok (.if_icmp .eq 11, 3) := by decide +kernel
theorem dX3_readEmpire_39 : decode cX3_readEmpire 39 = .ok (.aload_n 0, 1) := by decide +kernel
theorem dX3_readEmpire_40 : decode cX3_readEmpire 40 = .ok (.iconst 2, 1) := by decide +kernel
theorem dX3_readEmpire_41 : decode cX3_readEmpire 41 = .ok (.invokevirtual 77, 3) := by decide +kernel
theorem dX3_readEmpire_44 : decode cX3_readEmpire 44 = .ok (.goto 29, 3) := by decide +kernel
theorem dX3_readEmpire_47 : decode cX3_readEmpire 47 = .ok (.aload_n 0, 1) := by decide +kernel
theorem dX3_readEmpire_48 : decode cX3_readEmpire 48 = .ok (.getfield 47, 3) := by decide +kernel
theorem dX3_readEmpire_51 : decode cX3_readEmpire 51 = .ok (.bipush 44, 2) := by decide +kernel
theorem dX3_readEmpire_53 : decode cX3_readEmpire 53 = .ok (.if_icmp .ne 20, 3) := by decide +kernel
theorem dX3_readEmpire_56 : decode cX3_readEmpire 56 = .ok (.aload_n 0, 1) := by decide +kernel
theorem dX3_readEmpire_57 : decode cX3_readEmpire 57 = .ok (.getfield 23, 3) := by decide +kernel
theorem dX3_readEmpire_60 : decode cX3_readEmpire 60 = .ok (.getfield 111, 3) := by decide +kernel
theorem dX3_readEmpire_63 : decode cX3_readEmpire 63 = .ok (.bipush 6, 2) := by decide +kernel
theorem dX3_readEmpire_65 : decode cX3_readEmpire 65 = .ok (.if_icmp .lt 8, 3) := by decide +kernel
theorem dX3_readEmpire_68 : decode cX3_readEmpire 68 = .ok (.aload_n 0, 1) := by decide +kernel
theorem dX3_readEmpire_69 : decode cX3_readEmpire 69 = .ok (.iconst 4, 1) := by decide +kernel
theorem dX3_readEmpire_70 : decode cX3_readEmpire 70 = .ok (.invokevirtual 77, 3) := by decide +kernel
theorem dX3_readEmpire_73 : decode cX3_readEmpire 73 = .ok (.aload_n 0, 1) := by decide +kernel
theorem dX3_readEmpire_74 : decode cX3_readEmpire 74 = .ok (.bipush 44, 2) := by decide +kernel
theorem dX3_readEmpire_76 : decode cX3_readEmpire 76 = .ok (.invokevirtual 58, 3) := by decide +kernel
theorem dX3_readEmpire_79 : decode cX3_readEmpire 79 = .ok (.aload_n 0, 1) := by decide +kernel
theorem dX3_readEmpire_80 : decode cX3_readEmpire 80 = .ok (.iconst 3, 1) := by decide +kernel
theorem dX3_readEmpire_81 : decode cX3_readEmpire 81 = .ok (.invokevirtual 58, 3) := by decide +kernel
theorem dX3_readEmpire_84 : decode cX3_readEmpire 84 = .ok (.aload_n 0, 1) := by decide +kernel
theorem dX3_readEmpire_85 : decode cX3_readEmpire 85 = .ok (.iconst 0, 1) := by decide +kernel
theorem dX3_readEmpire_86 : decode cX3_readEmpire 86 = .ok (.sipush 999, 3) := by decide +kernel
theorem dX3_readEmpire_89 : decode cX3_readEmpire 89 = .ok (.invokevirtual 80, 3) := by decide +kernel
theorem dX3_readEmpire_92 : decode cX3_readEmpire 92 = .ok (.istore_n 3, 1) := by decide +kernel
theorem dX3_readEmpire_93 : decode cX3_readEmpire 93 = .ok (.aload_n 0, 1) := by decide +kernel
theorem dX3_readEmpire_94 : decode cX3_readEmpire 94 = .ok (.iconst 4, 1) := by decide +kernel
theorem dX3_readEmpire_95 : decode cX3_readEmpire 95 = .ok (.invokevirtual 58, 3) := by decide +kernel
theorem dX3_readEmpire_98 : decode cX3_readEmpire 98 = .ok (.aload_n 0, 1) := by decide +kernel
theorem dX3_readEmpire_99 : decode cX3_readEmpire 99 = .ok (.iload_n 3, 1) := by decide +kernel
theorem dX3_readEmpire_100 : decode cX3_readEmpire 100 = .ok (.sipush 999, 3) := by decide +kernel
theorem dX3_readEmpire_103 : decode cX3_readEmpire 103 = .ok (.invokevirtual 80, 3) := by decide +kernel
theorem dX3_readEmpire_106 : decode cX3_readEmpire 106 = .ok (.istore 4, 2) := by decide +kernel
theorem dX3_readEmpire_108 : decode cX3_readEmpire 108 = .ok (.aload_n 0, 1) := by decide +kernel
theorem dX3_readEmpire_109 : decode cX3_readEmpire 109 = .ok (.getfield 31, 3) := by decide +kernel
theorem dX3_readEmpire_112 : decode cX3_readEmpire 112 = .ok (.ifCond .ne 14, 3) := by decide +kernel
theorem dX3_readEmpire_115 : decode cX3_readEmpire 115 = .ok (.aload_n 0, 1) := by decide +kernel
theorem dX3_readEmpire_116 : decode cX3_readEmpire 116 = .ok (.getfield 23, 3) := by decide +kernel
theorem dX3_readEmpire_119 : decode cX3_readEmpire 119 = .ok (.lload_n 1, 1) := by decide +kernel
theorem dX3_readEmpire_120 : decode cX3_readEmpire 120 = .ok (.iload_n 3, 1) := by decide +kernel
theorem dX3_readEmpire_121 : decode cX3_readEmpire 121 = .ok (.iload 4, 2) := by decide +kernel
theorem dX3_readEmpire_123 : decode cX3_readEmpire 123 = .ok (.invokevirtual 114, 3) := by decide +kernel
theorem dX3_readEmpire_126 : decode cX3_readEmpire 126 = .ok (.return_, 1) := by decide +kernel
theorem dX3_readCoin_0 : decode cX3_readCoin 0 = .ok (.aload_n 0, 1) := by decide +kernel
theorem dX3_readCoin_1 : decode cX3_readCoin 1 = .ok (.invokevirtual 118, 3) := by decide +kernel
theorem dX3_readCoin_4 : decode cX3_readCoin 4 = .ok (.aload_n 0, 1) := by decide +kernel
theorem dX3_readCoin_5 : decode cX3_readCoin 5 = .ok (.iconst 0, 1) := by decide +kernel
theorem dX3_readCoin_6 : decode cX3_readCoin 6 = .ok (.invokevirtual 121, 3) := by decide +kernel
theorem dX3_readCoin_9 : decode cX3_readCoin 9 = .ok (.istore_n 1, 1) := by decide +kernel
theorem dX3_readCoin_10 : decode cX3_readCoin 10 = .ok (.aload_n 0, 1) := by decide +kernel
theorem dX3_readCoin_11 : decode cX3_readCoin 11 = .ok (.bipush 9, 2) := by decide +kernel
theorem dX3_readCoin_13 : decode cX3_readCoin 13 = .ok (.invokevirtual 58, 3) := by decide +kernel
theorem dX3_readCoin_16 : decode cX3_readCoin 16 = .ok (.aload_n 0, 1) := by decide +kernel
theorem dX3_readCoin_17 : decode cX3_readCoin 17 = .ok (.iconst 0, 1) := by decide +kernel
theorem dX3_readCoin_18 : decode cX3_readCoin 18 = .ok (.sipush 999, 3) := by decide +kernel
theorem dX3_readCoin_21 : decode cX3_readCoin 21 = .ok (.invokevirtual 80, 3) := by decide +kernel
theorem dX3_readCoin_24 : decode cX3_readCoin 24 = .ok (.istore_n 2, 1) := by decide +kernel
theorem dX3_readCoin_25 : decode cX3_readCoin 25 = .ok (.aload_n 0, 1) := by decide +kernel
theorem dX3_readCoin_26 : decode cX3_readCoin 26 = .ok (.getfield 31, 3) := by decide +kernel
theorem dX3_readCoin_29 : decode cX3_readCoin 29 = .ok (.ifCond .ne 13, 3) := by decide +kernel
theorem dX3_readCoin_32 : decode cX3_readCoin 32 = .ok (.aload_n 0, 1) := by decide +kernel
theorem dX3_readCoin_33 : decode cX3_readCoin 33 = .ok (.getfield 23, 3) := by decide +kernel
theorem dX3_readCoin_36 : decode cX3_readCoin 36 = .ok (.iconst 1, 1) := by decide +kernel
theorem dX3_readCoin_37 : decode cX3_readCoin 37 = .ok (.iload_n 1, 1) := by decide +kernel
theorem dX3_readCoin_38 : decode cX3_readCoin 38 = .ok (.iload_n 2, 1) := by decide +kernel
theorem dX3_readCoin_39 : decode cX3_readCoin 39 = .ok (.invokevirtual 125, 3) := by decide +kernel
theorem dX3_readCoin_42 : decode cX3_readCoin 42 = .ok (.return_, 1) := by decide +kernel
theorem dX3_readCrumbs_0 : decode cX3_readCrumbs 0 = .ok (.aload_n 0, 1) := by decide +kernel
theorem dX3_readCrumbs_1 : decode cX3_readCrumbs 1 = .ok (.invokevirtual 118, 3) := by decide +kernel
theorem dX3_readCrumbs_4 : decode cX3_readCrumbs 4 = .ok (.aload_n 0, 1) := by decide +kernel
theorem dX3_readCrumbs_5 : decode cX3_readCrumbs 5 = .ok (.iconst 0, 1) := by decide +kernel
theorem dX3_readCrumbs_6 : decode cX3_readCrumbs 6 = .ok (.invokevirtual 121, 3) := by decide +kernel
theorem dX3_readCrumbs_9 : decode cX3_readCrumbs 9 = .ok (.istore_n 1, 1) := by decide +kernel
theorem dX3_readCrumbs_10 : decode cX3_readCrumbs 10 = .ok (.aload_n 0, 1) := by decide +kernel
theorem dX3_readCrumbs_11 : decode cX3_readCrumbs 11 = .ok (.bipush 10, 2) := by decide +kernel
theorem dX3_readCrumbs_13 : decode cX3_readCrumbs 13 = .ok (.invokevirtual 58, 3) := by decide +kernel
theorem dX3_readCrumbs_16 : decode cX3_readCrumbs 16 = .ok (.aload_n 0, 1) := by decide +kernel
theorem dX3_readCrumbs_17 : decode cX3_readCrumbs 17 = .ok (.invokevirtual 129, 3) := by decide +kernel
theorem dX3_readCrumbs_20 : decode cX3_readCrumbs 20 = .ok (.istore_n 2, 1) := by decide +kernel
theorem dX3_readCrumbs_21 : decode cX3_readCrumbs 21 = .ok (.aload_n 0, 1) := by decide +kernel
theorem dX3_readCrumbs_22 : decode cX3_readCrumbs 22 = .ok (.getfield 31, 3) := by decide +kernel
theorem dX3_readCrumbs_25 : decode cX3_readCrumbs 25 = .ok (.ifCond .ne 13, 3) := by decide +kernel
theorem dX3_readCrumbs_28 : decode cX3_readCrumbs 28 = .ok (.aload_n 0, 1) := by decide +kernel
theorem dX3_readCrumbs_29 : decode cX3_readCrumbs 29 = .ok (.getfield 23, 3) := by decide +kernel
theorem dX3_readCrumbs_32 : decode cX3_readCrumbs 32 = .ok (.iconst 0, 1) := by decide +kernel
theorem dX3_readCrumbs_33 : decode cX3_readCrumbs 33 = .ok (.iload_n 1, 1) := by decide +kernel
theorem dX3_readCrumbs_34 : decode cX3_readCrumbs 34 = .ok (.iload_n 2, 1) := by decide +kernel
theorem dX3_readCrumbs_35 : decode cX3_readCrumbs 35 = .ok (.invokevirtual 125, 3) := by decide +kernel
theorem dX3_readCrumbs_38 : decode cX3_readCrumbs 38 = .ok (.return_, 1) := by decide +kernel
theorem dX3_startFind_0 : decode cX3_startFind 0 = .ok (.aload_n 0, 1) := by decide +kernel
theorem dX3_startFind_1 : decode cX3_startFind 1 = .ok (.getfield 23, 3) := by decide +kernel
theorem dX3_startFind_4 : decode cX3_startFind 4 = .ok (.getfield 133, 3) := by decide +kernel
theorem dX3_startFind_7 : decode cX3_startFind 7 = .ok (.bipush 24, 2) := by decide +kernel
theorem dX3_startFind_9 : decode cX3_startFind 9 = .ok (.if_icmp .lt 8, 3) := by decide +kernel
theorem dX3_startFind_12 : decode cX3_startFind 12 = .ok (.aload_n 0, 1) := by decide +kernel
theorem dX3_startFind_13 : decode cX3_startFind 13 = .ok (.iconst 4, 1) := by decide +kernel
theorem dX3_startFind_14 : decode cX3_startFind 14 = .ok (.invokevirtual 77, 3) := by decide +kernel
theorem dX3_startFind_17 : decode cX3_startFind 17 = .ok (.aload_n 0, 1) := by decide +kernel
theorem dX3_startFind_18 : decode cX3_startFind 18 = .ok (.invokevirtual 68, 3) := by decide +kernel
theorem dX3_startFind_21 : decode cX3_startFind 21 = .ok (.return_, 1) := by decide +kernel
theorem dX3_readSpring_0 : decode cX3_readSpring 0 = .ok (.aload_n 0, 1) := by decide +kernel
theorem dX3_readSpring_1 : decode cX3_readSpring 1 = .ok (.bipush 7, 2) := by decide +kernel
theorem dX3_readSpring_3 : decode cX3_readSpring 3 = .ok (.invokevirtual 58, 3) := by decide +kernel
theorem dX3_readSpring_6 : decode cX3_readSpring 6 = .ok (.aload_n 0, 1) := by decide +kernel
theorem dX3_readSpring_7 : decode cX3_readSpring 7 = .ok (.iconst 1, 1) := by decide +kernel
theorem dX3_readSpring_8 : decode cX3_readSpring 8 = .ok (.invokevirtual 121, 3) := by decide +kernel
theorem dX3_readSpring_11 : decode cX3_readSpring 11 = .ok (.istore_n 1, 1) := by decide +kernel
theorem dX3_readSpring_12 : decode cX3_readSpring 12 = .ok (.aload_n 0, 1) := by decide +kernel
theorem dX3_readSpring_13 : decode cX3_readSpring 13 = .ok (.getfield 31, 3) := by decide +kernel
theorem dX3_readSpring_16 : decode cX3_readSpring 16 = .ok (.ifCond .ne 11, 3) := by decide +kernel
theorem dX3_readSpring_19 : decode cX3_readSpring 19 = .ok (.aload_n 0, 1) := by decide +kernel
theorem dX3_readSpring_20 : decode cX3_readSpring 20 = .ok (.getfield 23, 3) := by decide +kernel
theorem dX3_readSpring_23 : decode cX3_readSpring 23 = .ok (.iload_n 1, 1) := by decide +kernel
theorem dX3_readSpring_24 : decode cX3_readSpring 24 = .ok (.invokevirtual 136, 3) := by decide +kernel
theorem dX3_readSpring_27 : decode cX3_readSpring 27 = .ok (.return_, 1) := by decide +kernel
theorem dX3_readPlace_0 : decode cX3_readPlace 0 = .ok (.aload_n 0, 1) := by decide +kernel
theorem dX3_readPlace_1 : decode cX3_readPlace 1 = .ok (.bipush 8, 2) := by decide +kernel
theorem dX3_readPlace_3 : decode cX3_readPlace 3 = .ok (.invokevirtual 58, 3) := by decide +kernel
theorem dX3_readPlace_6 : decode cX3_readPlace 6 = .ok (.aload_n 0, 1) := by decide +kernel
theorem dX3_readPlace_7 : decode cX3_readPlace 7 = .ok (.iconst 0, 1) := by decide +kernel
theorem dX3_readPlace_8 : decode cX3_readPlace 8 = .ok (.aload_n 0, 1) := by decide +kernel
theorem dX3_readPlace_9 : decode cX3_readPlace 9 = .ok (.getfield 23, 3) := by decide +kernel
theorem dX3_readPlace_12 : decode cX3_readPlace 12 = .ok (.getfield 139, 3) := by decide +kernel
theorem dX3_readPlace_15 : decode cX3_readPlace 15 = .ok (.iconst 1, 1) := by decide +kernel
theorem dX3_readPlace_16 : decode cX3_readPlace 16 = .ok (.isub, 1) := by decide +kernel
theorem dX3_readPlace_17 : decode cX3_readPlace 17 = .ok (.invokevirtual 80, 3) := by decide +kernel
theorem dX3_readPlace_20 : decode cX3_readPlace 20 = .ok (.istore_n 2, 1) := by decide +kernel
theorem dX3_readPlace_21 : decode cX3_readPlace 21 = .ok (.aload_n 0, 1) := by decide +kernel
theorem dX3_readPlace_22 : decode cX3_readPlace 22 = .ok (.bipush 34, 2) := by decide +kernel
theorem dX3_readPlace_24 : decode cX3_readPlace 24 = .ok (.invokevirtual 58, 3) := by decide +kernel
theorem dX3_readPlace_27 : decode cX3_readPlace 27 = .ok (.aload_n 0, 1) := by decide +kernel
theorem dX3_readPlace_28 : decode cX3_readPlace 28 = .ok (.getfield 47, 3) := by decide +kernel
theorem dX3_readPlace_31 : decode cX3_readPlace 31 = .ok (.bipush 45, 2) := by decide +kernel
theorem dX3_readPlace_33 : decode cX3_readPlace 33 = .ok (.if_icmp .ne 26, 3) := by decide +kernel
theorem dX3_readPlace_36 : decode cX3_readPlace 36 = .ok (.aload_n 0, 1) := by decide +kernel
theorem dX3_readPlace_37 : decode cX3_readPlace 37 = .ok (.getfield 23, 3) := by decide +kernel
theorem dX3_readPlace_40 : decode cX3_readPlace 40 = .ok (.iload_n 2, 1) := by decide +kernel
theorem dX3_readPlace_41 : decode cX3_readPlace 41 = .ok (.aload_n 0, 1) := by decide +kernel
theorem dX3_readPlace_42 : decode cX3_readPlace 42 = .ok (.getfield 14, 3) := by decide +kernel
theorem dX3_readPlace_45 : decode cX3_readPlace 45 = .ok (.getfield 74, 3) := by decide +kernel
theorem dX3_readPlace_48 : decode cX3_readPlace 48 = .ok (.aload_n 0, 1) := by decide +kernel
theorem dX3_readPlace_49 : decode cX3_readPlace 49 = .ok (.getfield 40, 3) := by decide +kernel
theorem dX3_readPlace_52 : decode cX3_readPlace 52 = .ok (.iaload, 1) := by decide +kernel
theorem dX3_readPlace_53 : decode cX3_readPlace 53 = .ok (.invokevirtual 142, 3) := by decide +kernel
theorem dX3_readPlace_56 : decode cX3_readPlace 56 = .ok (.goto 4, 3) := by decide +kernel
theorem dX3_readPlace_59 : decode cX3_readPlace 59 = .ok (.iconst (-1), 1) := by decide +kernel
theorem dX3_readPlace_60 : decode cX3_readPlace 60 = .ok (.istore_n 3, 1) := by decide +kernel
theorem dX3_readPlace_61 : decode cX3_readPlace 61 = .ok (.iload_n 1, 1) := by decide +kernel
theorem dX3_readPlace_62 : decode cX3_readPlace 62 = .ok (.ifCond .eq 17, 3) := by decide +kernel
theorem dX3_readPlace_65 : decode cX3_readPlace 65 = .ok (.aload_n 0, 1) := by decide +kernel
theorem dX3_readPlace_66 : decode cX3_readPlace 66 = .ok (.getfield 23, 3) := by decide +kernel
theorem dX3_readPlace_69 : decode cX3_readPlace 69 = .ok (.iload_n 3, 1) := by decide +kernel
theorem dX3_readPlace_70 : decode cX3_readPlace 70 = .ok (.invokevirtual 145, 3) := by decide +kernel
theorem dX3_readPlace_73 : decode cX3_readPlace 73 = .ok (.ifCond .eq 23, 3) := by decide +kernel
theorem dX3_readPlace_76 : decode cX3_readPlace 76 = .ok (.goto 15, 3) := by decide +kernel
theorem dX3_readPlace_79 : decode cX3_readPlace 79 = .ok (.aload_n 0, 1) := by decide +kernel
theorem dX3_readPlace_80 : decode cX3_readPlace 80 = .ok (.getfield 23, 3) := by decide +kernel
theorem dX3_readPlace_83 : decode cX3_readPlace 83 = .ok (.iload_n 3, 1) := by decide +kernel
theorem dX3_readPlace_84 : decode cX3_readPlace 84 = .ok (.invokevirtual 149, 3) := by decide +kernel
theorem dX3_readPlace_87 : decode cX3_readPlace 87 = .ok (.iconst (-1), 1) := by decide +kernel
theorem dX3_readPlace_88 : decode cX3_readPlace 88 = .ok (.if_icmp .eq 8, 3) := by decide +kernel
theorem dX3_readPlace_91 : decode cX3_readPlace 91 = .ok (.aload_n 0, 1) := by decide +kernel
theorem dX3_readPlace_92 : decode cX3_readPlace 92 = .ok (.iconst 2, 1) := by decide +kernel
theorem dX3_readPlace_93 : decode cX3_readPlace 93 = .ok (.invokevirtual 77, 3) := by decide +kernel
theorem dX3_readPlace_96 : decode cX3_readPlace 96 = .ok (.aload_n 0, 1) := by decide +kernel
theorem dX3_readPlace_97 : decode cX3_readPlace 97 = .ok (.iconst 0, 1) := by decide +kernel
theorem dX3_readPlace_98 : decode cX3_readPlace 98 = .ok (.aload_n 0, 1) := by decide +kernel
theorem dX3_readPlace_99 : decode cX3_readPlace 99 = .ok (.getfield 23, 3) := by decide +kernel
theorem dX3_readPlace_102 : decode cX3_readPlace 102 = .ok (.getfield 153, 3) := by decide +kernel
theorem dX3_readPlace_105 : decode cX3_readPlace 105 = .ok (.iconst 1, 1) := by decide +kernel
theorem dX3_readPlace_106 : decode cX3_readPlace 106 = .ok (.isub, 1) := by decide +kernel
theorem dX3_readPlace_107 : decode cX3_readPlace 107 = .ok (.invokevirtual 80, 3) := by decide +kernel
theorem dX3_readPlace_110 : decode cX3_readPlace 110 = .ok (.pop, 1) := by decide +kernel
theorem dX3_readPlace_111 : decode cX3_readPlace 111 = .ok (.aload_n 0, 1) := by decide +kernel
theorem dX3_readPlace_112 : decode cX3_readPlace 112 = .ok (.getfield 31, 3) := by decide +kernel
theorem dX3_readPlace_115 : decode cX3_readPlace 115 = .ok (.ifCond .ne 7, 3) := by decide +kernel
theorem dX3_readPlace_118 : decode cX3_readPlace 118 = .ok (.iload_n 3, 1) := by decide +kernel
theorem dX3_readPlace_119 : decode cX3_readPlace 119 = .ok (.goto 4, 3) := by decide +kernel
theorem dX3_readPlace_122 : decode cX3_readPlace 122 = .ok (.iconst (-1), 1) := by decide +kernel
theorem dX3_readPlace_123 : decode cX3_readPlace 123 = .ok (.ireturn, 1) := by decide +kernel
theorem dX3_readKnownEmpire_0 : decode cX3_readKnownEmpire 0 = .ok (.aload_n 0, 1) := by decide +kernel
theorem dX3_readKnownEmpire_1 : decode cX3_readKnownEmpire 1 = .ok (.getfield 47, 3) := by decide +kernel
theorem dX3_readKnownEmpire_4 : decode cX3_readKnownEmpire 4 = .ok (.bipush 44, 2) := by decide +kernel
theorem dX3_readKnownEmpire_6 : decode cX3_readKnownEmpire 6 = .ok (.if_icmp .eq 9, 3) := by decide +kernel
theorem dX3_readKnownEmpire_9 : decode cX3_readKnownEmpire 9 = .ok (.aload_n 0, 1) := by decide +kernel
theorem dX3_readKnownEmpire_10 : decode cX3_readKnownEmpire 10 = .ok (.invokevirtual 71, 3) := by decide +kernel
theorem dX3_readKnownEmpire_13 : decode cX3_readKnownEmpire 13 = .ok (.iconst (-1), 1) := by decide +kernel
theorem dX3_readKnownEmpire_14 : decode cX3_readKnownEmpire 14 = .ok (.ireturn, 1) := by decide +kernel
theorem dX3_readKnownEmpire_15 : decode cX3_readKnownEmpire 15 = .ok (.aload_n 0, 1) := by decide +kernel
theorem dX3_readKnownEmpire_16 : decode cX3_readKnownEmpire 16 = .ok (.getfield 23, 3) := by decide +kernel
theorem dX3_readKnownEmpire_19 : decode cX3_readKnownEmpire 19 = .ok (.aload_n 0, 1) := by decide +kernel
theorem dX3_readKnownEmpire_20 : decode cX3_readKnownEmpire 20 = .ok (.getfield 14, 3) := by decide +kernel
theorem dX3_readKnownEmpire_23 : decode cX3_readKnownEmpire 23 = .ok (.getfield 103, 3) := by decide +kernel
theorem dX3_readKnownEmpire_26 : decode cX3_readKnownEmpire 26 = .ok (.aload_n 0, 1) := by decide +kernel
theorem dX3_readKnownEmpire_27 : decode cX3_readKnownEmpire 27 = .ok (.getfield 40, 3) := by decide +kernel
theorem dX3_readKnownEmpire_30 : decode cX3_readKnownEmpire 30 = .ok (.laload, 1) := by decide +kernel
theorem dX3_readKnownEmpire_31 : decode cX3_readKnownEmpire 31 = .ok (.invokevirtual 107, 3) := by decide +kernel
theorem dX3_readKnownEmpire_34 : decode cX3_readKnownEmpire 34 = .ok (.istore_n 1, 1) := by decide +kernel
theorem dX3_readKnownEmpire_35 : decode cX3_readKnownEmpire 35 = .ok (.iload_n 1, 1) := by decide +kernel
theorem dX3_readKnownEmpire_36 : decode cX3_readKnownEmpire 36 = .ok (.iconst (-1), 1) := by decide +kernel
theorem dX3_readKnownEmpire_37 : decode cX3_readKnownEmpire 37 = .ok (.if_icmp .ne 8, 3) := by decide +kernel
theorem dX3_readKnownEmpire_40 : decode cX3_readKnownEmpire 40 = .ok (.aload_n 0, 1) := by decide +kernel
theorem dX3_readKnownEmpire_41 : decode cX3_readKnownEmpire 41 = .ok (.iconst 3, 1) := by decide +kernel
theorem dX3_readKnownEmpire_42 : decode cX3_readKnownEmpire 42 = .ok (.invokevirtual 77, 3) := by decide +kernel
theorem dX3_readKnownEmpire_45 : decode cX3_readKnownEmpire 45 = .ok (.aload_n 0, 1) := by decide +kernel
theorem dX3_readKnownEmpire_46 : decode cX3_readKnownEmpire 46 = .ok (.invokevirtual 68, 3) := by decide +kernel
theorem dX3_readKnownEmpire_49 : decode cX3_readKnownEmpire 49 = .ok (.iload_n 1, 1) := by decide +kernel
theorem dX3_readKnownEmpire_50 : decode cX3_readKnownEmpire 50 = .ok (.ireturn, 1) := by decide +kernel
theorem dX3_readOrder_0 : decode cX3_readOrder 0 = .ok (.aload_n 0, 1) := by decide +kernel
theorem dX3_readOrder_1 : decode cX3_readOrder 1 = .ok (.getfield 23, 3) := by decide +kernel
theorem dX3_readOrder_4 : decode cX3_readOrder 4 = .ok (.getfield 156, 3) := by decide +kernel
theorem dX3_readOrder_7 : decode cX3_readOrder 7 = .ok (.getfield 160, 3) := by decide +kernel
theorem dX3_readOrder_10 : decode cX3_readOrder 10 = .ok (.bipush 16, 2) := by decide +kernel
theorem dX3_readOrder_12 : decode cX3_readOrder 12 = .ok (.if_icmp .lt 8, 3) := by decide +kernel
theorem dX3_readOrder_15 : decode cX3_readOrder 15 = .ok (.aload_n 0, 1) := by decide +kernel
theorem dX3_readOrder_16 : decode cX3_readOrder 16 = .ok (.iconst 4, 1) := by decide +kernel
theorem dX3_readOrder_17 : decode cX3_readOrder 17 = .ok (.invokevirtual 77, 3) := by decide +kernel
theorem dX3_readOrder_20 : decode cX3_readOrder 20 = .ok (.aload_n 0, 1) := by decide +kernel
theorem dX3_readOrder_21 : decode cX3_readOrder 21 = .ok (.getfield 47, 3) := by decide +kernel
theorem dX3_readOrder_24 : decode cX3_readOrder 24 = .ok (.istore_n 1, 1) := by decide +kernel
theorem dX3_readOrder_25 : decode cX3_readOrder 25 = .ok (.aload_n 0, 1) := by decide +kernel
theorem dX3_readOrder_26 : decode cX3_readOrder 26 = .ok (.invokevirtual 68, 3) := by decide +kernel
theorem dX3_readOrder_29 : decode cX3_readOrder 29 = .ok (.aload_n 0, 1) := by decide +kernel
theorem dX3_readOrder_30 : decode cX3_readOrder 30 = .ok (.iconst 0, 1) := by decide +kernel
theorem dX3_readOrder_31 : decode cX3_readOrder 31 = .ok (.invokevirtual 165, 3) := by decide +kernel
theorem dX3_readOrder_34 : decode cX3_readOrder 34 = .ok (.aload_n 0, 1) := by decide +kernel
theorem dX3_readOrder_35 : decode cX3_readOrder 35 = .ok (.getfield 23, 3) := by decide +kernel
theorem dX3_readOrder_38 : decode cX3_readOrder 38 = .ok (.getfield 156, 3) := by decide +kernel
theorem dX3_readOrder_41 : decode cX3_readOrder 41 = .ok (.getfield 168, 3) := by decide +kernel
theorem dX3_readOrder_44 : decode cX3_readOrder 44 = .ok (.istore_n 2, 1) := by decide +kernel
theorem dX3_readOrder_45 : decode cX3_readOrder 45 = .ok (.aload_n 0, 1) := by decide +kernel
theorem dX3_readOrder_46 : decode cX3_readOrder 46 = .ok (.getfield 47, 3) := by decide +kernel
theorem dX3_readOrder_49 : decode cX3_readOrder 49 = .ok (.bipush 14, 2) := by decide +kernel
theorem dX3_readOrder_51 : decode cX3_readOrder 51 = .ok (.if_icmp .ne 12, 3) := by decide +kernel
theorem dX3_readOrder_54 : decode cX3_readOrder 54 = .ok (.aload_n 0, 1) := by decide +kernel
theorem dX3_readOrder_55 : decode cX3_readOrder 55 = .ok (.invokevirtual 68, 3) := by decide +kernel
theorem dX3_readOrder_58 : decode cX3_readOrder 58 = .ok (.aload_n 0, 1) := by decide +kernel
theorem dX3_readOrder_59 : decode cX3_readOrder 59 = .ok (.iconst 0, 1) := by decide +kernel
theorem dX3_readOrder_60 : decode cX3_readOrder 60 = .ok (.invokevirtual 171, 3) := by decide +kernel
theorem dX3_readOrder_63 : decode cX3_readOrder 63 = .ok (.aload_n 0, 1) := by decide +kernel
theorem dX3_readOrder_64 : decode cX3_readOrder 64 = .ok (.getfield 31, 3) := by decide +kernel
theorem dX3_readOrder_67 : decode cX3_readOrder 67 = .ok (.ifCond .ne 15, 3) := by decide +kernel
theorem dX3_readOrder_70 : decode cX3_readOrder 70 = .ok (.aload_n 0, 1) := by decide +kernel
theorem dX3_readOrder_71 : decode cX3_readOrder 71 = .ok (.getfield 23, 3) := by decide +kernel
theorem dX3_readOrder_74 : decode cX3_readOrder 74 = .ok (.getfield 156, 3) := by decide +kernel
theorem dX3_readOrder_77 : decode cX3_readOrder 77 = .ok (.iload_n 1, 1) := by decide +kernel
theorem dX3_readOrder_78 : decode cX3_readOrder 78 = .ok (.iload_n 2, 1) := by decide +kernel
theorem dX3_readOrder_79 : decode cX3_readOrder 79 = .ok (.invokevirtual 174, 3) := by decide +kernel
theorem dX3_readOrder_82 : decode cX3_readOrder 82 = .ok (.return_, 1) := by decide +kernel
theorem dX3_readTest_0 : decode cX3_readTest 0 = .ok (.aload_n 0, 1) := by decide +kernel
theorem dX3_readTest_1 : decode cX3_readTest 1 = .ok (.iload_n 1, 1) := by decide +kernel
theorem dX3_readTest_2 : decode cX3_readTest 2 = .ok (.invokevirtual 177, 3) := by decide +kernel
theorem dX3_readTest_5 : decode cX3_readTest 5 = .ok (.iconst 0, 1) := by decide +kernel
theorem dX3_readTest_6 : decode cX3_readTest 6 = .ok (.istore_n 2, 1) := by decide +kernel
theorem dX3_readTest_7 : decode cX3_readTest 7 = .ok (.iload_n 2, 1) := by decide +kernel
theorem dX3_readTest_8 : decode cX3_readTest 8 = .ok (.sipush 400, 3) := by decide +kernel
theorem dX3_readTest_11 : decode cX3_readTest 11 = .ok (.if_icmp .ge 40, 3) := by decide +kernel
theorem dX3_readTest_14 : decode cX3_readTest 14 = .ok (.aload_n 0, 1) := by decide +kernel
theorem dX3_readTest_15 : decode cX3_readTest 15 = .ok (.getfield 47, 3) := by decide +kernel
theorem dX3_readTest_18 : decode cX3_readTest 18 = .ok (.bipush 26, 2) := by decide +kernel
theorem dX3_readTest_20 : decode cX3_readTest 20 = .ok (.if_icmp .ne 31, 3) := by decide +kernel
theorem dX3_readTest_23 : decode cX3_readTest 23 = .ok (.aload_n 0, 1) := by decide +kernel
theorem dX3_readTest_24 : decode cX3_readTest 24 = .ok (.invokevirtual 68, 3) := by decide +kernel
theorem dX3_readTest_27 : decode cX3_readTest 27 = .ok (.aload_n 0, 1) := by decide +kernel
theorem dX3_readTest_28 : decode cX3_readTest 28 = .ok (.iload_n 1, 1) := by decide +kernel
theorem dX3_readTest_29 : decode cX3_readTest 29 = .ok (.invokevirtual 177, 3) := by decide +kernel
theorem dX3_readTest_32 : decode cX3_readTest 32 = .ok (.aload_n 0, 1) := by decide +kernel
theorem dX3_readTest_33 : decode cX3_readTest 33 = .ok (.getfield 23, 3) := by decide +kernel
theorem dX3_readTest_36 : decode cX3_readTest 36 = .ok (.getfield 156, 3) := by decide +kernel
theorem dX3_readTest_39 : decode cX3_readTest 39 = .ok (.bipush 26, 2) := by decide +kernel
theorem dX3_readTest_41 : decode cX3_readTest 41 = .ok (.iconst 0, 1) := by decide +kernel
theorem dX3_readTest_42 : decode cX3_readTest 42 = .ok (.invokevirtual 180, 3) := by decide +kernel
theorem dX3_readTest_45 : decode cX3_readTest 45 = .ok (.iinc 2 1, 3) := by decide +kernel
theorem dX3_readTest_48 : decode cX3_readTest 48 = .ok (.goto (-41), 3) := by decide +kernel
theorem dX3_readTest_51 : decode cX3_readTest 51 = .ok (.return_, 1) := by decide +kernel
theorem dX3_readBoth_0 : decode cX3_readBoth 0 = .ok (.aload_n 0, 1) := by decide +kernel
theorem dX3_readBoth_1 : decode cX3_readBoth 1 = .ok (.iload_n 1, 1) := by decide +kernel
theorem dX3_readBoth_2 : decode cX3_readBoth 2 = .ok (.invokevirtual 183, 3) := by decide +kernel
theorem dX3_readBoth_5 : decode cX3_readBoth 5 = .ok (.iconst 0, 1) := by decide +kernel
theorem dX3_readBoth_6 : decode cX3_readBoth 6 = .ok (.istore_n 2, 1) := by decide +kernel
theorem dX3_readBoth_7 : decode cX3_readBoth 7 = .ok (.iload_n 2, 1) := by decide +kernel
theorem dX3_readBoth_8 : decode cX3_readBoth 8 = .ok (.sipush 400, 3) := by decide +kernel
theorem dX3_readBoth_11 : decode cX3_readBoth 11 = .ok (.if_icmp .ge 40, 3) := by decide +kernel
theorem dX3_readBoth_14 : decode cX3_readBoth 14 = .ok (.aload_n 0, 1) := by decide +kernel
theorem dX3_readBoth_15 : decode cX3_readBoth 15 = .ok (.getfield 47, 3) := by decide +kernel
theorem dX3_readBoth_18 : decode cX3_readBoth 18 = .ok (.bipush 25, 2) := by decide +kernel
theorem dX3_readBoth_20 : decode cX3_readBoth 20 = .ok (.if_icmp .ne 31, 3) := by decide +kernel
theorem dX3_readBoth_23 : decode cX3_readBoth 23 = .ok (.aload_n 0, 1) := by decide +kernel
theorem dX3_readBoth_24 : decode cX3_readBoth 24 = .ok (.invokevirtual 68, 3) := by decide +kernel
theorem dX3_readBoth_27 : decode cX3_readBoth 27 = .ok (.aload_n 0, 1) := by decide +kernel
theorem dX3_readBoth_28 : decode cX3_readBoth 28 = .ok (.iload_n 1, 1) := by decide +kernel
theorem dX3_readBoth_29 : decode cX3_readBoth 29 = .ok (.invokevirtual 183, 3) := by decide +kernel
theorem dX3_readBoth_32 : decode cX3_readBoth 32 = .ok (.aload_n 0, 1) := by decide +kernel
theorem dX3_readBoth_33 : decode cX3_readBoth 33 = .ok (.getfield 23, 3) := by decide +kernel
theorem dX3_readBoth_36 : decode cX3_readBoth 36 = .ok (.getfield 156, 3) := by decide +kernel
theorem dX3_readBoth_39 : decode cX3_readBoth 39 = .ok (.bipush 25, 2) := by decide +kernel
theorem dX3_readBoth_41 : decode cX3_readBoth 41 = .ok (.iconst 0, 1) := by decide +kernel
theorem dX3_readBoth_42 : decode cX3_readBoth 42 = .ok (.invokevirtual 180, 3) := by decide +kernel
theorem dX3_readBoth_45 : decode cX3_readBoth 45 = .ok (.iinc 2 1, 3) := by decide +kernel
theorem dX3_readBoth_48 : decode cX3_readBoth 48 = .ok (.goto (-41), 3) := by decide +kernel
theorem dX3_readBoth_51 : decode cX3_readBoth 51 = .ok (.return_, 1) := by decide +kernel
theorem dX3_readSingle_0 : decode cX3_readSingle 0 = .ok (.aload_n 0, 1) := by decide +kernel
theorem dX3_readSingle_1 : decode cX3_readSingle 1 = .ok (.getfield 47, 3) := by decide +kernel
theorem dX3_readSingle_4 : decode cX3_readSingle 4 = .ok (.tableswitch 163 22 31 #[115, 138, 56, 163, 163, 163, 163, 163, 163, 89], 56) := by decide +kernel
theorem dX3_readSingle_60 : decode cX3_readSingle 60 = .ok (.aload_n 0, 1) := by decide +kernel
theorem dX3_readSingle_61 : decode cX3_readSingle 61 = .ok (.bipush 24, 2) := by decide +kernel
theorem dX3_readSingle_63 : decode cX3_readSingle 63 = .ok (.iload_n 1, 1) := by decide +kernel
theorem dX3_readSingle_64 : decode cX3_readSingle 64 = .ok (.invokevirtual 186, 3) := by decide +kernel
theorem dX3_readSingle_67 : decode cX3_readSingle 67 = .ok (.ifCond .eq 131, 3) := by decide +kernel
theorem dX3_readSingle_70 : decode cX3_readSingle 70 = .ok (.aload_n 0, 1) := by decide +kernel
theorem dX3_readSingle_71 : decode cX3_readSingle 71 = .ok (.iload_n 1, 1) := by decide +kernel
theorem dX3_readSingle_72 : decode cX3_readSingle 72 = .ok (.iconst 1, 1) := by decide +kernel
theorem dX3_readSingle_73 : decode cX3_readSingle 73 = .ok (.iadd, 1) := by decide +kernel
theorem dX3_readSingle_74 : decode cX3_readSingle 74 = .ok (.invokevirtual 183, 3) := by decide +kernel
theorem dX3_readSingle_77 : decode cX3_readSingle 77 = .ok (.aload_n 0, 1) := by decide +kernel
theorem dX3_readSingle_78 : decode cX3_readSingle 78 = .ok (.getfield 23, 3) := by decide +kernel
theorem dX3_readSingle_81 : decode cX3_readSingle 81 = .ok (.getfield 156, 3) := by decide +kernel
theorem dX3_readSingle_84 : decode cX3_readSingle 84 = .ok (.bipush 24, 2) := by decide +kernel
theorem dX3_readSingle_86 : decode cX3_readSingle 86 = .ok (.iconst 0, 1) := by decide +kernel
theorem dX3_readSingle_87 : decode cX3_readSingle 87 = .ok (.invokevirtual 180, 3) := by decide +kernel
theorem dX3_readSingle_90 : decode cX3_readSingle 90 = .ok (.goto 108, 3) := by decide +kernel
theorem dX3_readSingle_93 : decode cX3_readSingle 93 = .ok (.aload_n 0, 1) := by decide +kernel
theorem dX3_readSingle_94 : decode cX3_readSingle 94 = .ok (.bipush 31, 2) := by decide +kernel
theorem dX3_readSingle_96 : decode cX3_readSingle 96 = .ok (.iload_n 1, 1) := by decide +kernel
theorem dX3_readSingle_97 : decode cX3_readSingle 97 = .ok (.invokevirtual 186, 3) := by decide +kernel
theorem dX3_readSingle_100 : decode cX3_readSingle 100 = .ok (.ifCond .eq 98, 3) := by decide +kernel
theorem dX3_readSingle_103 : decode cX3_readSingle 103 = .ok (.aload_n 0, 1) := by decide +kernel
theorem dX3_readSingle_104 : decode cX3_readSingle 104 = .ok (.iload_n 1, 1) := by decide +kernel
theorem dX3_readSingle_105 : decode cX3_readSingle 105 = .ok (.iconst 1, 1) := by decide +kernel
theorem dX3_readSingle_106 : decode cX3_readSingle 106 = .ok (.iadd, 1) := by decide +kernel
theorem dX3_readSingle_107 : decode cX3_readSingle 107 = .ok (.invokevirtual 171, 3) := by decide +kernel
theorem dX3_readSingle_110 : decode cX3_readSingle 110 = .ok (.aload_n 0, 1) := by decide +kernel
theorem dX3_readSingle_111 : decode cX3_readSingle 111 = .ok (.bipush 32, 2) := by decide +kernel
theorem dX3_readSingle_113 : decode cX3_readSingle 113 = .ok (.invokevirtual 58, 3) := by decide +kernel
theorem dX3_readSingle_116 : decode cX3_readSingle 116 = .ok (.goto 82, 3) := by decide +kernel
theorem dX3_readSingle_119 : decode cX3_readSingle 119 = .ok (.aload_n 0, 1) := by decide +kernel
theorem dX3_readSingle_120 : decode cX3_readSingle 120 = .ok (.invokevirtual 68, 3) := by decide +kernel
theorem dX3_readSingle_123 : decode cX3_readSingle 123 = .ok (.aload_n 0, 1) := by decide +kernel
theorem dX3_readSingle_124 : decode cX3_readSingle 124 = .ok (.getfield 23, 3) := by decide +kernel
theorem dX3_readSingle_127 : decode cX3_readSingle 127 = .ok (.getfield 156, 3) := by decide +kernel
theorem dX3_readSingle_130 : decode cX3_readSingle 130 = .ok (.bipush 22, 2) := by decide +kernel
theorem dX3_readSingle_132 : decode cX3_readSingle 132 = .ok (.aload_n 0, 1) := by decide +kernel
theorem dX3_readSingle_133 : decode cX3_readSingle 133 = .ok (.invokevirtual 129, 3) := by decide +kernel
theorem dX3_readSingle_136 : decode cX3_readSingle 136 = .ok (.invokevirtual 180, 3) := by decide +kernel
theorem dX3_readSingle_139 : decode cX3_readSingle 139 = .ok (.goto 59, 3) := by decide +kernel
theorem dX3_readSingle_142 : decode cX3_readSingle 142 = .ok (.aload_n 0, 1) := by decide +kernel
theorem dX3_readSingle_143 : decode cX3_readSingle 143 = .ok (.invokevirtual 68, 3) := by decide +kernel
theorem dX3_readSingle_146 : decode cX3_readSingle 146 = .ok (.aload_n 0, 1) := by decide +kernel
theorem dX3_readSingle_147 : decode cX3_readSingle 147 = .ok (.iload_n 1, 1) := by decide +kernel
theorem dX3_readSingle_148 : decode cX3_readSingle 148 = .ok (.invokevirtual 165, 3) := by decide +kernel
theorem dX3_readSingle_151 : decode cX3_readSingle 151 = .ok (.aload_n 0, 1) := by decide +kernel
theorem dX3_readSingle_152 : decode cX3_readSingle 152 = .ok (.getfield 23, 3) := by decide +kernel
theorem dX3_readSingle_155 : decode cX3_readSingle 155 = .ok (.getfield 156, 3) := by decide +kernel
theorem dX3_readSingle_158 : decode cX3_readSingle 158 = .ok (.bipush 23, 2) := by decide +kernel
theorem dX3_readSingle_160 : decode cX3_readSingle 160 = .ok (.iconst 0, 1) := by decide +kernel
theorem dX3_readSingle_161 : decode cX3_readSingle 161 = .ok (.invokevirtual 180, 3) := by decide +kernel
theorem dX3_readSingle_164 : decode cX3_readSingle 164 = .ok (.goto 34, 3) := by decide +kernel
theorem dX3_readSingle_167 : decode cX3_readSingle 167 = .ok (.aload_n 0, 1) := by decide +kernel
theorem dX3_readSingle_168 : decode cX3_readSingle 168 = .ok (.iload_n 1, 1) := by decide +kernel
theorem dX3_readSingle_169 : decode cX3_readSingle 169 = .ok (.invokevirtual 165, 3) := by decide +kernel
theorem dX3_readSingle_172 : decode cX3_readSingle 172 = .ok (.aload_n 0, 1) := by decide +kernel
theorem dX3_readSingle_173 : decode cX3_readSingle 173 = .ok (.getfield 47, 3) := by decide +kernel
theorem dX3_readSingle_176 : decode cX3_readSingle 176 = .ok (.istore_n 2, 1) := by decide +kernel
theorem dX3_readSingle_177 : decode cX3_readSingle 177 = .ok (.aload_n 0, 1) := by decide +kernel
theorem dX3_readSingle_178 : decode cX3_readSingle 178 = .ok (.invokevirtual 190, 3) := by decide +kernel
theorem dX3_readSingle_181 : decode cX3_readSingle 181 = .ok (.aload_n 0, 1) := by decide +kernel
theorem dX3_readSingle_182 : decode cX3_readSingle 182 = .ok (.iload_n 1, 1) := by decide +kernel
theorem dX3_readSingle_183 : decode cX3_readSingle 183 = .ok (.invokevirtual 165, 3) := by decide +kernel
theorem dX3_readSingle_186 : decode cX3_readSingle 186 = .ok (.aload_n 0, 1) := by decide +kernel
theorem dX3_readSingle_187 : decode cX3_readSingle 187 = .ok (.getfield 23, 3) := by decide +kernel
theorem dX3_readSingle_190 : decode cX3_readSingle 190 = .ok (.getfield 156, 3) := by decide +kernel
theorem dX3_readSingle_193 : decode cX3_readSingle 193 = .ok (.iload_n 2, 1) := by decide +kernel
theorem dX3_readSingle_194 : decode cX3_readSingle 194 = .ok (.iconst 0, 1) := by decide +kernel
theorem dX3_readSingle_195 : decode cX3_readSingle 195 = .ok (.invokevirtual 180, 3) := by decide +kernel
theorem dX3_readSingle_198 : decode cX3_readSingle 198 = .ok (.return_, 1) := by decide +kernel
theorem dX3_expectComparison_0 : decode cX3_expectComparison 0 = .ok (.aload_n 0, 1) := by decide +kernel
theorem dX3_expectComparison_1 : decode cX3_expectComparison 1 = .ok (.getfield 47, 3) := by decide +kernel
theorem dX3_expectComparison_4 : decode cX3_expectComparison 4 = .ok (.bipush 39, 2) := by decide +kernel
theorem dX3_expectComparison_6 : decode cX3_expectComparison 6 = .ok (.if_icmp .lt 19, 3) := by decide +kernel
theorem dX3_expectComparison_9 : decode cX3_expectComparison 9 = .ok (.aload_n 0, 1) := by decide +kernel
theorem dX3_expectComparison_10 : decode cX3_expectComparison 10 = .ok (.getfield 47, 3) := by decide +kernel
theorem dX3_expectComparison_13 : decode cX3_expectComparison 13 = .ok (.bipush 43, 2) := by decide +kernel
theorem dX3_expectComparison_15 : decode cX3_expectComparison 15 = .ok (.if_icmp .gt 10, 3) := by decide +kernel
theorem dX3_expectComparison_18 : decode cX3_expectComparison 18 = .ok (.aload_n 0, 1) := by decide +kernel
theorem dX3_expectComparison_19 : decode cX3_expectComparison 19 = .ok (.invokevirtual 68, 3) := by decide +kernel
theorem dX3_expectComparison_22 : decode cX3_expectComparison 22 = .ok (.goto 7, 3) := by decide +kernel
theorem dX3_expectComparison_25 : decode cX3_expectComparison 25 = .ok (.aload_n 0, 1) := by decide +kernel
theorem dX3_expectComparison_26 : decode cX3_expectComparison 26 = .ok (.invokevirtual 71, 3) := by decide +kernel
theorem dX3_expectComparison_29 : decode cX3_expectComparison 29 = .ok (.return_, 1) := by decide +kernel
theorem dX3_readSum_0 : decode cX3_readSum 0 = .ok (.aload_n 0, 1) := by decide +kernel
theorem dX3_readSum_1 : decode cX3_readSum 1 = .ok (.iload_n 1, 1) := by decide +kernel
theorem dX3_readSum_2 : decode cX3_readSum 2 = .ok (.invokevirtual 193, 3) := by decide +kernel
theorem dX3_readSum_5 : decode cX3_readSum 5 = .ok (.iconst 0, 1) := by decide +kernel
theorem dX3_readSum_6 : decode cX3_readSum 6 = .ok (.istore_n 2, 1) := by decide +kernel
theorem dX3_readSum_7 : decode cX3_readSum 7 = .ok (.iload_n 2, 1) := by decide +kernel
theorem dX3_readSum_8 : decode cX3_readSum 8 = .ok (.sipush 400, 3) := by decide +kernel
theorem dX3_readSum_11 : decode cX3_readSum 11 = .ok (.if_icmp .ge 53, 3) := by decide +kernel
theorem dX3_readSum_14 : decode cX3_readSum 14 = .ok (.aload_n 0, 1) := by decide +kernel
theorem dX3_readSum_15 : decode cX3_readSum 15 = .ok (.getfield 47, 3) := by decide +kernel
theorem dX3_readSum_18 : decode cX3_readSum 18 = .ok (.bipush 35, 2) := by decide +kernel
theorem dX3_readSum_20 : decode cX3_readSum 20 = .ok (.if_icmp .eq 12, 3) := by decide +kernel
theorem dX3_readSum_23 : decode cX3_readSum 23 = .ok (.aload_n 0, 1) := by decide +kernel
theorem dX3_readSum_24 : decode cX3_readSum 24 = .ok (.getfield 47, 3) := by decide +kernel
theorem dX3_readSum_27 : decode cX3_readSum 27 = .ok (.bipush 36, 2) := by decide +kernel
theorem dX3_readSum_29 : decode cX3_readSum 29 = .ok (.if_icmp .ne 35, 3) := by decide +kernel
theorem dX3_readSum_32 : decode cX3_readSum 32 = .ok (.aload_n 0, 1) := by decide +kernel
theorem dX3_readSum_33 : decode cX3_readSum 33 = .ok (.getfield 47, 3) := by decide +kernel
theorem dX3_readSum_36 : decode cX3_readSum 36 = .ok (.istore_n 3, 1) := by decide +kernel
theorem dX3_readSum_37 : decode cX3_readSum 37 = .ok (.aload_n 0, 1) := by decide +kernel
theorem dX3_readSum_38 : decode cX3_readSum 38 = .ok (.invokevirtual 68, 3) := by decide +kernel
theorem dX3_readSum_41 : decode cX3_readSum 41 = .ok (.aload_n 0, 1) := by decide +kernel
theorem dX3_readSum_42 : decode cX3_readSum 42 = .ok (.iload_n 1, 1) := by decide +kernel
theorem dX3_readSum_43 : decode cX3_readSum 43 = .ok (.invokevirtual 193, 3) := by decide +kernel
theorem dX3_readSum_46 : decode cX3_readSum 46 = .ok (.aload_n 0, 1) := by decide +kernel
theorem dX3_readSum_47 : decode cX3_readSum 47 = .ok (.getfield 23, 3) := by decide +kernel
theorem dX3_readSum_50 : decode cX3_readSum 50 = .ok (.getfield 156, 3) := by decide +kernel
theorem dX3_readSum_53 : decode cX3_readSum 53 = .ok (.iload_n 3, 1) := by decide +kernel
theorem dX3_readSum_54 : decode cX3_readSum 54 = .ok (.iconst 0, 1) := by decide +kernel
theorem dX3_readSum_55 : decode cX3_readSum 55 = .ok (.invokevirtual 180, 3) := by decide +kernel
theorem dX3_readSum_58 : decode cX3_readSum 58 = .ok (.iinc 2 1, 3) := by decide +kernel
theorem dX3_readSum_61 : decode cX3_readSum 61 = .ok (.goto (-54), 3) := by decide +kernel
theorem dX3_readSum_64 : decode cX3_readSum 64 = .ok (.return_, 1) := by decide +kernel
theorem dX3_readProduct_0 : decode cX3_readProduct 0 = .ok (.aload_n 0, 1) := by decide +kernel
theorem dX3_readProduct_1 : decode cX3_readProduct 1 = .ok (.iload_n 1, 1) := by decide +kernel
theorem dX3_readProduct_2 : decode cX3_readProduct 2 = .ok (.invokevirtual 196, 3) := by decide +kernel
theorem dX3_readProduct_5 : decode cX3_readProduct 5 = .ok (.iconst 0, 1) := by decide +kernel
theorem dX3_readProduct_6 : decode cX3_readProduct 6 = .ok (.istore_n 2, 1) := by decide +kernel
theorem dX3_readProduct_7 : decode cX3_readProduct 7 = .ok (.iload_n 2, 1) := by decide +kernel
theorem dX3_readProduct_8 : decode cX3_readProduct 8 = .ok (.sipush 400, 3) := by decide +kernel
theorem dX3_readProduct_11 : decode cX3_readProduct 11 = .ok (.if_icmp .ge 53, 3) := by decide +kernel
theorem dX3_readProduct_14 : decode cX3_readProduct 14 = .ok (.aload_n 0, 1) := by decide +kernel
theorem dX3_readProduct_15 : decode cX3_readProduct 15 = .ok (.getfield 47, 3) := by decide +kernel
theorem dX3_readProduct_18 : decode cX3_readProduct 18 = .ok (.bipush 37, 2) := by decide +kernel
theorem dX3_readProduct_20 : decode cX3_readProduct 20 = .ok (.if_icmp .eq 12, 3) := by decide +kernel
theorem dX3_readProduct_23 : decode cX3_readProduct 23 = .ok (.aload_n 0, 1) := by decide +kernel
theorem dX3_readProduct_24 : decode cX3_readProduct 24 = .ok (.getfield 47, 3) := by decide +kernel
theorem dX3_readProduct_27 : decode cX3_readProduct 27 = .ok (.bipush 38, 2) := by decide +kernel
theorem dX3_readProduct_29 : decode cX3_readProduct 29 = .ok (.if_icmp .ne 35, 3) := by decide +kernel
theorem dX3_readProduct_32 : decode cX3_readProduct 32 = .ok (.aload_n 0, 1) := by decide +kernel
theorem dX3_readProduct_33 : decode cX3_readProduct 33 = .ok (.getfield 47, 3) := by decide +kernel
theorem dX3_readProduct_36 : decode cX3_readProduct 36 = .ok (.istore_n 3, 1) := by decide +kernel
theorem dX3_readProduct_37 : decode cX3_readProduct 37 = .ok (.aload_n 0, 1) := by decide +kernel
theorem dX3_readProduct_38 : decode cX3_readProduct 38 = .ok (.invokevirtual 68, 3) := by decide +kernel
theorem dX3_readProduct_41 : decode cX3_readProduct 41 = .ok (.aload_n 0, 1) := by decide +kernel
theorem dX3_readProduct_42 : decode cX3_readProduct 42 = .ok (.iload_n 1, 1) := by decide +kernel
theorem dX3_readProduct_43 : decode cX3_readProduct 43 = .ok (.invokevirtual 196, 3) := by decide +kernel
theorem dX3_readProduct_46 : decode cX3_readProduct 46 = .ok (.aload_n 0, 1) := by decide +kernel
theorem dX3_readProduct_47 : decode cX3_readProduct 47 = .ok (.getfield 23, 3) := by decide +kernel
theorem dX3_readProduct_50 : decode cX3_readProduct 50 = .ok (.getfield 156, 3) := by decide +kernel
theorem dX3_readProduct_53 : decode cX3_readProduct 53 = .ok (.iload_n 3, 1) := by decide +kernel
theorem dX3_readProduct_54 : decode cX3_readProduct 54 = .ok (.iconst 0, 1) := by decide +kernel
theorem dX3_readProduct_55 : decode cX3_readProduct 55 = .ok (.invokevirtual 180, 3) := by decide +kernel
theorem dX3_readProduct_58 : decode cX3_readProduct 58 = .ok (.iinc 2 1, 3) := by decide +kernel
theorem dX3_readProduct_61 : decode cX3_readProduct 61 = .ok (.goto (-54), 3) := by decide +kernel
theorem dX3_readProduct_64 : decode cX3_readProduct 64 = .ok (.return_, 1) := by decide +kernel
theorem dX3_readValue_0 : decode cX3_readValue 0 = .ok (.aload_n 0, 1) := by decide +kernel
theorem dX3_readValue_1 : decode cX3_readValue 1 = .ok (.getfield 47, 3) := by decide +kernel
theorem dX3_readValue_4 : decode cX3_readValue 4 = .ok (.istore_n 2, 1) := by decide +kernel
theorem dX3_readValue_5 : decode cX3_readValue 5 = .ok (.iload_n 2, 1) := by decide +kernel
theorem dX3_readValue_6 : decode cX3_readValue 6 = .ok (.tableswitch 306 15 45 #[169, 169, 169, 169, 188, 188, 216, 306, 306, 306, 306, 306, 282, 282, 274, 306, 306, 306, 306, 306, 306, 241, 306, 306, 306, 306, 306, 306, 306, 306, 138], 138) := by decide +kernel
theorem dX3_readValue_144 : decode cX3_readValue 144 = .ok (.aload_n 0, 1) := by decide +kernel
theorem dX3_readValue_145 : decode cX3_readValue 145 = .ok (.getfield 23, 3) := by decide +kernel
theorem dX3_readValue_148 : decode cX3_readValue 148 = .ok (.getfield 156, 3) := by decide +kernel
theorem dX3_readValue_151 : decode cX3_readValue 151 = .ok (.bipush 45, 2) := by decide +kernel
theorem dX3_readValue_153 : decode cX3_readValue 153 = .ok (.aload_n 0, 1) := by decide +kernel
theorem dX3_readValue_154 : decode cX3_readValue 154 = .ok (.getfield 14, 3) := by decide +kernel
theorem dX3_readValue_157 : decode cX3_readValue 157 = .ok (.getfield 74, 3) := by decide +kernel
theorem dX3_readValue_160 : decode cX3_readValue 160 = .ok (.aload_n 0, 1) := by decide +kernel
theorem dX3_readValue_161 : decode cX3_readValue 161 = .ok (.getfield 40, 3) := by decide +kernel
theorem dX3_readValue_164 : decode cX3_readValue 164 = .ok (.iaload, 1) := by decide +kernel
theorem dX3_readValue_165 : decode cX3_readValue 165 = .ok (.invokevirtual 180, 3) := by decide +kernel
theorem dX3_readValue_168 : decode cX3_readValue 168 = .ok (.aload_n 0, 1) := by decide +kernel
theorem dX3_readValue_169 : decode cX3_readValue 169 = .ok (.invokevirtual 68, 3) := by decide +kernel
theorem dX3_readValue_172 : decode cX3_readValue 172 = .ok (.goto 144, 3) := by decide +kernel
theorem dX3_readValue_175 : decode cX3_readValue 175 = .ok (.aload_n 0, 1) := by decide +kernel
theorem dX3_readValue_176 : decode cX3_readValue 176 = .ok (.getfield 23, 3) := by decide +kernel
theorem dX3_readValue_179 : decode cX3_readValue 179 = .ok (.getfield 156, 3) := by decide +kernel
theorem dX3_readValue_182 : decode cX3_readValue 182 = .ok (.iload_n 2, 1) := by decide +kernel
theorem dX3_readValue_183 : decode cX3_readValue 183 = .ok (.iconst 0, 1) := by decide +kernel
theorem dX3_readValue_184 : decode cX3_readValue 184 = .ok (.invokevirtual 180, 3) := by decide +kernel
theorem dX3_readValue_187 : decode cX3_readValue 187 = .ok (.aload_n 0, 1) := by decide +kernel
theorem dX3_readValue_188 : decode cX3_readValue 188 = .ok (.invokevirtual 68, 3) := by decide +kernel
theorem dX3_readValue_191 : decode cX3_readValue 191 = .ok (.goto 125, 3) := by decide +kernel
theorem dX3_readValue_194 : decode cX3_readValue 194 = .ok (.aload_n 0, 1) := by decide +kernel
theorem dX3_readValue_195 : decode cX3_readValue 195 = .ok (.invokevirtual 68, 3) := by decide +kernel
theorem dX3_readValue_198 : decode cX3_readValue 198 = .ok (.aload_n 0, 1) := by decide +kernel
theorem dX3_readValue_199 : decode cX3_readValue 199 = .ok (.bipush 10, 2) := by decide +kernel
theorem dX3_readValue_201 : decode cX3_readValue 201 = .ok (.invokevirtual 58, 3) := by decide +kernel
theorem dX3_readValue_204 : decode cX3_readValue 204 = .ok (.aload_n 0, 1) := by decide +kernel
theorem dX3_readValue_205 : decode cX3_readValue 205 = .ok (.getfield 23, 3) := by decide +kernel
theorem dX3_readValue_208 : decode cX3_readValue 208 = .ok (.getfield 156, 3) := by decide +kernel
theorem dX3_readValue_211 : decode cX3_readValue 211 = .ok (.iload_n 2, 1) := by decide +kernel
theorem dX3_readValue_212 : decode cX3_readValue 212 = .ok (.aload_n 0, 1) := by decide +kernel
theorem dX3_readValue_213 : decode cX3_readValue 213 = .ok (.invokevirtual 129, 3) := by decide +kernel
theorem dX3_readValue_216 : decode cX3_readValue 216 = .ok (.invokevirtual 180, 3) := by decide +kernel
theorem dX3_readValue_219 : decode cX3_readValue 219 = .ok (.goto 97, 3) := by decide +kernel
theorem dX3_readValue_222 : decode cX3_readValue 222 = .ok (.aload_n 0, 1) := by decide +kernel
theorem dX3_readValue_223 : decode cX3_readValue 223 = .ok (.invokevirtual 68, 3) := by decide +kernel
theorem dX3_readValue_226 : decode cX3_readValue 226 = .ok (.aload_n 0, 1) := by decide +kernel
theorem dX3_readValue_227 : decode cX3_readValue 227 = .ok (.iload_n 1, 1) := by decide +kernel
theorem dX3_readValue_228 : decode cX3_readValue 228 = .ok (.invokevirtual 199, 3) := by decide +kernel
theorem dX3_readValue_231 : decode cX3_readValue 231 = .ok (.aload_n 0, 1) := by decide +kernel
theorem dX3_readValue_232 : decode cX3_readValue 232 = .ok (.getfield 23, 3) := by decide +kernel
theorem dX3_readValue_235 : decode cX3_readValue 235 = .ok (.getfield 156, 3) := by decide +kernel
theorem dX3_readValue_238 : decode cX3_readValue 238 = .ok (.bipush 21, 2) := by decide +kernel
theorem dX3_readValue_240 : decode cX3_readValue 240 = .ok (.iconst 0, 1) := by decide +kernel
theorem dX3_readValue_241 : decode cX3_readValue 241 = .ok (.invokevirtual 180, 3) := by decide +kernel
theorem dX3_readValue_244 : decode cX3_readValue 244 = .ok (.goto 72, 3) := by decide +kernel
theorem dX3_readValue_247 : decode cX3_readValue 247 = .ok (.aload_n 0, 1) := by decide +kernel
theorem dX3_readValue_248 : decode cX3_readValue 248 = .ok (.bipush 36, 2) := by decide +kernel
theorem dX3_readValue_250 : decode cX3_readValue 250 = .ok (.iload_n 1, 1) := by decide +kernel
theorem dX3_readValue_251 : decode cX3_readValue 251 = .ok (.invokevirtual 186, 3) := by decide +kernel
theorem dX3_readValue_254 : decode cX3_readValue 254 = .ok (.ifCond .eq 62, 3) := by decide +kernel
theorem dX3_readValue_257 : decode cX3_readValue 257 = .ok (.aload_n 0, 1) := by decide +kernel
theorem dX3_readValue_258 : decode cX3_readValue 258 = .ok (.iload_n 1, 1) := by decide +kernel
theorem dX3_readValue_259 : decode cX3_readValue 259 = .ok (.iconst 1, 1) := by decide +kernel
theorem dX3_readValue_260 : decode cX3_readValue 260 = .ok (.iadd, 1) := by decide +kernel
theorem dX3_readValue_261 : decode cX3_readValue 261 = .ok (.invokevirtual 196, 3) := by decide +kernel
theorem dX3_readValue_264 : decode cX3_readValue 264 = .ok (.aload_n 0, 1) := by decide +kernel
theorem dX3_readValue_265 : decode cX3_readValue 265 = .ok (.getfield 23, 3) := by decide +kernel
theorem dX3_readValue_268 : decode cX3_readValue 268 = .ok (.getfield 156, 3) := by decide +kernel
theorem dX3_readValue_271 : decode cX3_readValue 271 = .ok (.bipush 46, 2) := by decide +kernel
theorem dX3_readValue_273 : decode cX3_readValue 273 = .ok (.iconst 0, 1) := by decide +kernel
theorem dX3_readValue_274 : decode cX3_readValue 274 = .ok (.invokevirtual 180, 3) := by decide +kernel
theorem dX3_readValue_277 : decode cX3_readValue 277 = .ok (.goto 39, 3) := by decide +kernel
theorem dX3_readValue_280 : decode cX3_readValue 280 = .ok (.aload_n 0, 1) := by decide +kernel
theorem dX3_readValue_281 : decode cX3_readValue 281 = .ok (.iload_n 1, 1) := by decide +kernel
theorem dX3_readValue_282 : decode cX3_readValue 282 = .ok (.invokevirtual 199, 3) := by decide +kernel
theorem dX3_readValue_285 : decode cX3_readValue 285 = .ok (.goto 31, 3) := by decide +kernel
theorem dX3_readValue_288 : decode cX3_readValue 288 = .ok (.aload_n 0, 1) := by decide +kernel
theorem dX3_readValue_289 : decode cX3_readValue 289 = .ok (.invokevirtual 68, 3) := by decide +kernel
theorem dX3_readValue_292 : decode cX3_readValue 292 = .ok (.aload_n 0, 1) := by decide +kernel
theorem dX3_readValue_293 : decode cX3_readValue 293 = .ok (.iload_n 1, 1) := by decide +kernel
theorem dX3_readValue_294 : decode cX3_readValue 294 = .ok (.invokevirtual 202, 3) := by decide +kernel
theorem dX3_readValue_297 : decode cX3_readValue 297 = .ok (.aload_n 0, 1) := by decide +kernel
theorem dX3_readValue_298 : decode cX3_readValue 298 = .ok (.getfield 23, 3) := by decide +kernel
theorem dX3_readValue_301 : decode cX3_readValue 301 = .ok (.getfield 156, 3) := by decide +kernel
theorem dX3_readValue_304 : decode cX3_readValue 304 = .ok (.iload_n 2, 1) := by decide +kernel
theorem dX3_readValue_305 : decode cX3_readValue 305 = .ok (.iconst 0, 1) := by decide +kernel
theorem dX3_readValue_306 : decode cX3_readValue 306 = .ok (.invokevirtual 180, 3) := by decide +kernel
theorem dX3_readValue_309 : decode cX3_readValue 309 = .ok (.goto 7, 3) := by decide +kernel
theorem dX3_readValue_312 : decode cX3_readValue 312 = .ok (.aload_n 0, 1) := by decide +kernel
theorem dX3_readValue_313 : decode cX3_readValue 313 = .ok (.invokevirtual 71, 3) := by decide +kernel
theorem dX3_readValue_316 : decode cX3_readValue 316 = .ok (.return_, 1) := by decide +kernel
theorem dX3_readEnclosed_0 : decode cX3_readEnclosed 0 = .ok (.aload_n 0, 1) := by decide +kernel
theorem dX3_readEnclosed_1 : decode cX3_readEnclosed 1 = .ok (.bipush 29, 2) := by decide +kernel
theorem dX3_readEnclosed_3 : decode cX3_readEnclosed 3 = .ok (.iload_n 1, 1) := by decide +kernel
theorem dX3_readEnclosed_4 : decode cX3_readEnclosed 4 = .ok (.invokevirtual 186, 3) := by decide +kernel
theorem dX3_readEnclosed_7 : decode cX3_readEnclosed 7 = .ok (.ifCond .eq 16, 3) := by decide +kernel
theorem dX3_readEnclosed_10 : decode cX3_readEnclosed 10 = .ok (.aload_n 0, 1) := by decide +kernel
theorem dX3_readEnclosed_11 : decode cX3_readEnclosed 11 = .ok (.iload_n 1, 1) := by decide +kernel
theorem dX3_readEnclosed_12 : decode cX3_readEnclosed 12 = .ok (.iconst 1, 1) := by decide +kernel
theorem dX3_readEnclosed_13 : decode cX3_readEnclosed 13 = .ok (.iadd, 1) := by decide +kernel
theorem dX3_readEnclosed_14 : decode cX3_readEnclosed 14 = .ok (.invokevirtual 165, 3) := by decide +kernel
theorem dX3_readEnclosed_17 : decode cX3_readEnclosed 17 = .ok (.aload_n 0, 1) := by decide +kernel
theorem dX3_readEnclosed_18 : decode cX3_readEnclosed 18 = .ok (.bipush 30, 2) := by decide +kernel
theorem dX3_readEnclosed_20 : decode cX3_readEnclosed 20 = .ok (.invokevirtual 58, 3) := by decide +kernel
theorem dX3_readEnclosed_23 : decode cX3_readEnclosed 23 = .ok (.return_, 1) := by decide +kernel
theorem dX3_readPair_0 : decode cX3_readPair 0 = .ok (.aload_n 0, 1) := by decide +kernel
theorem dX3_readPair_1 : decode cX3_readPair 1 = .ok (.bipush 29, 2) := by decide +kernel
theorem dX3_readPair_3 : decode cX3_readPair 3 = .ok (.iload_n 1, 1) := by decide +kernel
theorem dX3_readPair_4 : decode cX3_readPair 4 = .ok (.invokevirtual 186, 3) := by decide +kernel
theorem dX3_readPair_7 : decode cX3_readPair 7 = .ok (.ifCond .eq 29, 3) := by decide +kernel
theorem dX3_readPair_10 : decode cX3_readPair 10 = .ok (.aload_n 0, 1) := by decide +kernel
theorem dX3_readPair_11 : decode cX3_readPair 11 = .ok (.iload_n 1, 1) := by decide +kernel
theorem dX3_readPair_12 : decode cX3_readPair 12 = .ok (.iconst 1, 1) := by decide +kernel
theorem dX3_readPair_13 : decode cX3_readPair 13 = .ok (.iadd, 1) := by decide +kernel
theorem dX3_readPair_14 : decode cX3_readPair 14 = .ok (.invokevirtual 165, 3) := by decide +kernel
theorem dX3_readPair_17 : decode cX3_readPair 17 = .ok (.aload_n 0, 1) := by decide +kernel
theorem dX3_readPair_18 : decode cX3_readPair 18 = .ok (.bipush 34, 2) := by decide +kernel
theorem dX3_readPair_20 : decode cX3_readPair 20 = .ok (.invokevirtual 58, 3) := by decide +kernel
theorem dX3_readPair_23 : decode cX3_readPair 23 = .ok (.aload_n 0, 1) := by decide +kernel
theorem dX3_readPair_24 : decode cX3_readPair 24 = .ok (.iload_n 1, 1) := by decide +kernel
theorem dX3_readPair_25 : decode cX3_readPair 25 = .ok (.iconst 1, 1) := by decide +kernel
theorem dX3_readPair_26 : decode cX3_readPair 26 = .ok (.iadd, 1) := by decide +kernel
theorem dX3_readPair_27 : decode cX3_readPair 27 = .ok (.invokevirtual 165, 3) := by decide +kernel
theorem dX3_readPair_30 : decode cX3_readPair 30 = .ok (.aload_n 0, 1) := by decide +kernel
theorem dX3_readPair_31 : decode cX3_readPair 31 = .ok (.bipush 30, 2) := by decide +kernel
theorem dX3_readPair_33 : decode cX3_readPair 33 = .ok (.invokevirtual 58, 3) := by decide +kernel
theorem dX3_readPair_36 : decode cX3_readPair 36 = .ok (.return_, 1) := by decide +kernel
theorem dX3_goesDeeper_0 : decode cX3_goesDeeper 0 = .ok (.aload_n 0, 1) := by decide +kernel
theorem dX3_goesDeeper_1 : decode cX3_goesDeeper 1 = .ok (.getfield 47, 3) := by decide +kernel
theorem dX3_goesDeeper_4 : decode cX3_goesDeeper 4 = .ok (.iload_n 1, 1) := by decide +kernel
theorem dX3_goesDeeper_5 : decode cX3_goesDeeper 5 = .ok (.if_icmp .ne 9, 3) := by decide +kernel
theorem dX3_goesDeeper_8 : decode cX3_goesDeeper 8 = .ok (.iload_n 2, 1) := by decide +kernel
theorem dX3_goesDeeper_9 : decode cX3_goesDeeper 9 = .ok (.bipush 8, 2) := by decide +kernel
theorem dX3_goesDeeper_11 : decode cX3_goesDeeper 11 = .ok (.if_icmp .lt 9, 3) := by decide +kernel
theorem dX3_goesDeeper_14 : decode cX3_goesDeeper 14 = .ok (.aload_n 0, 1) := by decide +kernel
theorem dX3_goesDeeper_15 : decode cX3_goesDeeper 15 = .ok (.invokevirtual 71, 3) := by decide +kernel
theorem dX3_goesDeeper_18 : decode cX3_goesDeeper 18 = .ok (.iconst 0, 1) := by decide +kernel
theorem dX3_goesDeeper_19 : decode cX3_goesDeeper 19 = .ok (.ireturn, 1) := by decide +kernel
theorem dX3_goesDeeper_20 : decode cX3_goesDeeper 20 = .ok (.aload_n 0, 1) := by decide +kernel
theorem dX3_goesDeeper_21 : decode cX3_goesDeeper 21 = .ok (.invokevirtual 68, 3) := by decide +kernel
theorem dX3_goesDeeper_24 : decode cX3_goesDeeper 24 = .ok (.iconst 1, 1) := by decide +kernel
theorem dX3_goesDeeper_25 : decode cX3_goesDeeper 25 = .ok (.ireturn, 1) := by decide +kernel
theorem dX4_init_0 : decode cX4_init 0 = .ok (.aload_n 0, 1) := by decide +kernel
theorem dX4_init_1 : decode cX4_init 1 = .ok (.invokespecial 3, 3) := by decide +kernel
theorem dX4_init_4 : decode cX4_init 4 = .ok (.aload_n 0, 1) := by decide +kernel
theorem dX4_init_5 : decode cX4_init 5 = .ok (.bipush 80, 2) := by decide +kernel
theorem dX4_init_7 : decode cX4_init 7 = .ok (.newarray .int, 2) := by decide +kernel
theorem dX4_init_9 : decode cX4_init 9 = .ok (.putfield 9, 3) := by decide +kernel
theorem dX4_init_12 : decode cX4_init 12 = .ok (.aload_n 0, 1) := by decide +kernel
theorem dX4_init_13 : decode cX4_init 13 = .ok (.bipush 8, 2) := by decide +kernel
theorem dX4_init_15 : decode cX4_init 15 = .ok (.newarray .int, 2) := by decide +kernel
theorem dX4_init_17 : decode cX4_init 17 = .ok (.putfield 15, 3) := by decide +kernel
theorem dX4_init_20 : decode cX4_init 20 = .ok (.aload_n 0, 1) := by decide +kernel
theorem dX4_init_21 : decode cX4_init 21 = .ok (.bipush 80, 2) := by decide +kernel
theorem dX4_init_23 : decode cX4_init 23 = .ok (.newarray .boolean, 2) := by decide +kernel
theorem dX4_init_25 : decode cX4_init 25 = .ok (.putfield 18, 3) := by decide +kernel
theorem dX4_init_28 : decode cX4_init 28 = .ok (.aload_n 0, 1) := by decide +kernel
theorem dX4_init_29 : decode cX4_init 29 = .ok (.bipush 8, 2) := by decide +kernel
theorem dX4_init_31 : decode cX4_init 31 = .ok (.newarray .boolean, 2) := by decide +kernel
theorem dX4_init_33 : decode cX4_init 33 = .ok (.putfield 22, 3) := by decide +kernel
theorem dX4_init_36 : decode cX4_init 36 = .ok (.aload_n 0, 1) := by decide +kernel
theorem dX4_init_37 : decode cX4_init 37 = .ok (.bipush 24, 2) := by decide +kernel
theorem dX4_init_39 : decode cX4_init 39 = .ok (.newarray .boolean, 2) := by decide +kernel
theorem dX4_init_41 : decode cX4_init 41 = .ok (.putfield 25, 3) := by decide +kernel
theorem dX4_init_44 : decode cX4_init 44 = .ok (.aload_n 0, 1) := by decide +kernel
theorem dX4_init_45 : decode cX4_init 45 = .ok (.bipush 24, 2) := by decide +kernel
theorem dX4_init_47 : decode cX4_init 47 = .ok (.newarray .boolean, 2) := by decide +kernel
theorem dX4_init_49 : decode cX4_init 49 = .ok (.putfield 28, 3) := by decide +kernel
theorem dX4_init_52 : decode cX4_init 52 = .ok (.aload_n 0, 1) := by decide +kernel
theorem dX4_init_53 : decode cX4_init 53 = .ok (.aload_n 1, 1) := by decide +kernel
theorem dX4_init_54 : decode cX4_init 54 = .ok (.putfield 31, 3) := by decide +kernel
theorem dX4_init_57 : decode cX4_init 57 = .ok (.aload_n 0, 1) := by decide +kernel
theorem dX4_init_58 : decode cX4_init 58 = .ok (.aload_n 1, 1) := by decide +kernel
theorem dX4_init_59 : decode cX4_init 59 = .ok (.invokevirtual 35, 3) := by decide +kernel
theorem dX4_init_62 : decode cX4_init 62 = .ok (.return_, 1) := by decide +kernel
theorem dX4_begin_0 : decode cX4_begin 0 = .ok (.aload_n 0, 1) := by decide +kernel
theorem dX4_begin_1 : decode cX4_begin 1 = .ok (.aload_n 1, 1) := by decide +kernel
theorem dX4_begin_2 : decode cX4_begin 2 = .ok (.putfield 31, 3) := by decide +kernel
theorem dX4_begin_5 : decode cX4_begin 5 = .ok (.iconst 0, 1) := by decide +kernel
theorem dX4_begin_6 : decode cX4_begin 6 = .ok (.istore_n 2, 1) := by decide +kernel
theorem dX4_begin_7 : decode cX4_begin 7 = .ok (.iload_n 2, 1) := by decide +kernel
theorem dX4_begin_8 : decode cX4_begin 8 = .ok (.bipush 80, 2) := by decide +kernel
theorem dX4_begin_10 : decode cX4_begin 10 = .ok (.if_icmp .ge 23, 3) := by decide +kernel
theorem dX4_begin_13 : decode cX4_begin 13 = .ok (.aload_n 0, 1) := by decide +kernel
theorem dX4_begin_14 : decode cX4_begin 14 = .ok (.getfield 9, 3) := by decide +kernel
theorem dX4_begin_17 : decode cX4_begin 17 = .ok (.iload_n 2, 1) := by decide +kernel
theorem dX4_begin_18 : decode cX4_begin 18 = .ok (.iload_n 2, 1) := by decide +kernel
theorem dX4_begin_19 : decode cX4_begin 19 = .ok (.iastore, 1) := by decide +kernel
theorem dX4_begin_20 : decode cX4_begin 20 = .ok (.aload_n 0, 1) := by decide +kernel
theorem dX4_begin_21 : decode cX4_begin 21 = .ok (.getfield 18, 3) := by decide +kernel
theorem dX4_begin_24 : decode cX4_begin 24 = .ok (.iload_n 2, 1) := by decide +kernel
theorem dX4_begin_25 : decode cX4_begin 25 = .ok (.iconst 0, 1) := by decide +kernel
theorem dX4_begin_26 : decode cX4_begin 26 = .ok (.bastore, 1) := by decide +kernel
theorem dX4_begin_27 : decode cX4_begin 27 = .ok (.iinc 2 1, 3) := by decide +kernel
theorem dX4_begin_30 : decode cX4_begin 30 = .ok (.goto (-23), 3) := by decide +kernel
theorem dX4_begin_33 : decode cX4_begin 33 = .ok (.iconst 0, 1) := by decide +kernel
theorem dX4_begin_34 : decode cX4_begin 34 = .ok (.istore_n 2, 1) := by decide +kernel
theorem dX4_begin_35 : decode cX4_begin 35 = .ok (.iload_n 2, 1) := by decide +kernel
theorem dX4_begin_36 : decode cX4_begin 36 = .ok (.bipush 8, 2) := by decide +kernel
theorem dX4_begin_38 : decode cX4_begin 38 = .ok (.if_icmp .ge 44, 3) := by decide +kernel
theorem dX4_begin_41 : decode cX4_begin 41 = .ok (.aload_n 0, 1) := by decide +kernel
theorem dX4_begin_42 : decode cX4_begin 42 = .ok (.getfield 15, 3) := by decide +kernel
theorem dX4_begin_45 : decode cX4_begin 45 = .ok (.iload_n 2, 1) := by decide +kernel
theorem dX4_begin_46 : decode cX4_begin 46 = .ok (.iload_n 2, 1) := by decide +kernel
theorem dX4_begin_47 : decode cX4_begin 47 = .ok (.aload_n 0, 1) := by decide +kernel
theorem dX4_begin_48 : decode cX4_begin 48 = .ok (.getfield 31, 3) := by decide +kernel
theorem dX4_begin_51 : decode cX4_begin 51 = .ok (.getfield 39, 3) := by decide +kernel
theorem dX4_begin_54 : decode cX4_begin 54 = .ok (.if_icmp .ge 13, 3) := by decide +kernel
theorem dX4_begin_57 : decode cX4_begin 57 = .ok (.aload_n 0, 1) := by decide +kernel
theorem dX4_begin_58 : decode cX4_begin 58 = .ok (.getfield 31, 3) := by decide +kernel
theorem dX4_begin_61 : decode cX4_begin 61 = .ok (.getfield 45, 3) := by decide +kernel
theorem dX4_begin_64 : decode cX4_begin 64 = .ok (.goto 4, 3) := by decide +kernel
theorem dX4_begin_67 : decode cX4_begin 67 = .ok (.iconst 0, 1) := by decide +kernel
theorem dX4_begin_68 : decode cX4_begin 68 = .ok (.iastore, 1) := by decide +kernel
theorem dX4_begin_69 : decode cX4_begin 69 = .ok (.aload_n 0, 1) := by decide +kernel
theorem dX4_begin_70 : decode cX4_begin 70 = .ok (.getfield 22, 3) := by decide +kernel
theorem dX4_begin_73 : decode cX4_begin 73 = .ok (.iload_n 2, 1) := by decide +kernel
theorem dX4_begin_74 : decode cX4_begin 74 = .ok (.iconst 0, 1) := by decide +kernel
theorem dX4_begin_75 : decode cX4_begin 75 = .ok (.bastore, 1) := by decide +kernel
theorem dX4_begin_76 : decode cX4_begin 76 = .ok (.iinc 2 1, 3) := by decide +kernel
theorem dX4_begin_79 : decode cX4_begin 79 = .ok (.goto (-44), 3) := by decide +kernel
theorem dX4_begin_82 : decode cX4_begin 82 = .ok (.iconst 0, 1) := by decide +kernel
theorem dX4_begin_83 : decode cX4_begin 83 = .ok (.istore_n 2, 1) := by decide +kernel
theorem dX4_begin_84 : decode cX4_begin 84 = .ok (.iload_n 2, 1) := by decide +kernel
theorem dX4_begin_85 : decode cX4_begin 85 = .ok (.bipush 24, 2) := by decide +kernel
theorem dX4_begin_87 : decode cX4_begin 87 = .ok (.if_icmp .ge 23, 3) := by decide +kernel
theorem dX4_begin_90 : decode cX4_begin 90 = .ok (.aload_n 0, 1) := by decide +kernel
theorem dX4_begin_91 : decode cX4_begin 91 = .ok (.getfield 25, 3) := by decide +kernel
theorem dX4_begin_94 : decode cX4_begin 94 = .ok (.iload_n 2, 1) := by decide +kernel
theorem dX4_begin_95 : decode cX4_begin 95 = .ok (.iconst 0, 1) := by decide +kernel
theorem dX4_begin_96 : decode cX4_begin 96 = .ok (.bastore, 1) := by decide +kernel
theorem dX4_begin_97 : decode cX4_begin 97 = .ok (.aload_n 0, 1) := by decide +kernel
theorem dX4_begin_98 : decode cX4_begin 98 = .ok (.getfield 28, 3) := by decide +kernel
theorem dX4_begin_101 : decode cX4_begin 101 = .ok (.iload_n 2, 1) := by decide +kernel
theorem dX4_begin_102 : decode cX4_begin 102 = .ok (.iconst 0, 1) := by decide +kernel
theorem dX4_begin_103 : decode cX4_begin 103 = .ok (.bastore, 1) := by decide +kernel
theorem dX4_begin_104 : decode cX4_begin 104 = .ok (.iinc 2 1, 3) := by decide +kernel
theorem dX4_begin_107 : decode cX4_begin 107 = .ok (.goto (-23), 3) := by decide +kernel
theorem dX4_begin_110 : decode cX4_begin 110 = .ok (.aload_n 0, 1) := by decide +kernel
theorem dX4_begin_111 : decode cX4_begin 111 = .ok (.iconst 0, 1) := by decide +kernel
theorem dX4_begin_112 : decode cX4_begin 112 = .ok (.putfield 48, 3) := by decide +kernel
theorem dX4_begin_115 : decode cX4_begin 115 = .ok (.aload_n 0, 1) := by decide +kernel
theorem dX4_begin_116 : decode cX4_begin 116 = .ok (.iconst 0, 1) := by decide +kernel
theorem dX4_begin_117 : decode cX4_begin 117 = .ok (.putfield 51, 3) := by decide +kernel
theorem dX4_begin_120 : decode cX4_begin 120 = .ok (.aload_n 0, 1) := by decide +kernel
theorem dX4_begin_121 : decode cX4_begin 121 = .ok (.iconst 0, 1) := by decide +kernel
theorem dX4_begin_122 : decode cX4_begin 122 = .ok (.putfield 54, 3) := by decide +kernel
theorem dX4_begin_125 : decode cX4_begin 125 = .ok (.aload_n 0, 1) := by decide +kernel
theorem dX4_begin_126 : decode cX4_begin 126 = .ok (.iconst 0, 1) := by decide +kernel
theorem dX4_begin_127 : decode cX4_begin 127 = .ok (.putfield 57, 3) := by decide +kernel
theorem dX4_begin_130 : decode cX4_begin 130 = .ok (.aload_n 0, 1) := by decide +kernel
theorem dX4_begin_131 : decode cX4_begin 131 = .ok (.iconst 0, 1) := by decide +kernel
theorem dX4_begin_132 : decode cX4_begin 132 = .ok (.putfield 60, 3) := by decide +kernel
theorem dX4_begin_135 : decode cX4_begin 135 = .ok (.aload_n 0, 1) := by decide +kernel
theorem dX4_begin_136 : decode cX4_begin 136 = .ok (.iconst 0, 1) := by decide +kernel
theorem dX4_begin_137 : decode cX4_begin 137 = .ok (.putfield 63, 3) := by decide +kernel
theorem dX4_begin_140 : decode cX4_begin 140 = .ok (.aload_n 0, 1) := by decide +kernel
theorem dX4_begin_141 : decode cX4_begin 141 = .ok (.iconst 0, 1) := by decide +kernel
theorem dX4_begin_142 : decode cX4_begin 142 = .ok (.putfield 66, 3) := by decide +kernel
theorem dX4_begin_145 : decode cX4_begin 145 = .ok (.return_, 1) := by decide +kernel
theorem dX4_copyFrom_0 : decode cX4_copyFrom 0 = .ok (.aload_n 0, 1) := by decide +kernel
theorem dX4_copyFrom_1 : decode cX4_copyFrom 1 = .ok (.aload_n 1, 1) := by decide +kernel
theorem dX4_copyFrom_2 : decode cX4_copyFrom 2 = .ok (.getfield 31, 3) := by decide +kernel
theorem dX4_copyFrom_5 : decode cX4_copyFrom 5 = .ok (.putfield 31, 3) := by decide +kernel
theorem dX4_copyFrom_8 : decode cX4_copyFrom 8 = .ok (.iconst 0, 1) := by decide +kernel
theorem dX4_copyFrom_9 : decode cX4_copyFrom 9 = .ok (.istore_n 2, 1) := by decide +kernel
theorem dX4_copyFrom_10 : decode cX4_copyFrom 10 = .ok (.iload_n 2, 1) := by decide +kernel
theorem dX4_copyFrom_11 : decode cX4_copyFrom 11 = .ok (.bipush 80, 2) := by decide +kernel
theorem dX4_copyFrom_13 : decode cX4_copyFrom 13 = .ok (.if_icmp .ge 33, 3) := by decide +kernel
theorem dX4_copyFrom_16 : decode cX4_copyFrom 16 = .ok (.aload_n 0, 1) := by decide +kernel
theorem dX4_copyFrom_17 : decode cX4_copyFrom 17 = .ok (.getfield 9, 3) := by decide +kernel
theorem dX4_copyFrom_20 : decode cX4_copyFrom 20 = .ok (.iload_n 2, 1) := by decide +kernel
theorem dX4_copyFrom_21 : decode cX4_copyFrom 21 = .ok (.aload_n 1, 1) := by decide +kernel
theorem dX4_copyFrom_22 : decode cX4_copyFrom 22 = .ok (.getfield 9, 3) := by decide +kernel
theorem dX4_copyFrom_25 : decode cX4_copyFrom 25 = .ok (.iload_n 2, 1) := by decide +kernel
theorem dX4_copyFrom_26 : decode cX4_copyFrom 26 = .ok (.iaload, 1) := by decide +kernel
theorem dX4_copyFrom_27 : decode cX4_copyFrom 27 = .ok (.iastore, 1) := by decide +kernel
theorem dX4_copyFrom_28 : decode cX4_copyFrom 28 = .ok (.aload_n 0, 1) := by decide +kernel
theorem dX4_copyFrom_29 : decode cX4_copyFrom 29 = .ok (.getfield 18, 3) := by decide +kernel
theorem dX4_copyFrom_32 : decode cX4_copyFrom 32 = .ok (.iload_n 2, 1) := by decide +kernel
theorem dX4_copyFrom_33 : decode cX4_copyFrom 33 = .ok (.aload_n 1, 1) := by decide +kernel
theorem dX4_copyFrom_34 : decode cX4_copyFrom 34 = .ok (.getfield 18, 3) := by decide +kernel
theorem dX4_copyFrom_37 : decode cX4_copyFrom 37 = .ok (.iload_n 2, 1) := by decide +kernel
theorem dX4_copyFrom_38 : decode cX4_copyFrom 38 = .ok (.baload, 1) := by decide +kernel
theorem dX4_copyFrom_39 : decode cX4_copyFrom 39 = .ok (.bastore, 1) := by decide +kernel
theorem dX4_copyFrom_40 : decode cX4_copyFrom 40 = .ok (.iinc 2 1, 3) := by decide +kernel
theorem dX4_copyFrom_43 : decode cX4_copyFrom 43 = .ok (.goto (-33), 3) := by decide +kernel
theorem dX4_copyFrom_46 : decode cX4_copyFrom 46 = .ok (.iconst 0, 1) := by decide +kernel
theorem dX4_copyFrom_47 : decode cX4_copyFrom 47 = .ok (.istore_n 2, 1) := by decide +kernel
theorem dX4_copyFrom_48 : decode cX4_copyFrom 48 = .ok (.iload_n 2, 1) := by decide +kernel
theorem dX4_copyFrom_49 : decode cX4_copyFrom 49 = .ok (.bipush 8, 2) := by decide +kernel
theorem dX4_copyFrom_51 : decode cX4_copyFrom 51 = .ok (.if_icmp .ge 33, 3) := by decide +kernel
theorem dX4_copyFrom_54 : decode cX4_copyFrom 54 = .ok (.aload_n 0, 1) := by decide +kernel
theorem dX4_copyFrom_55 : decode cX4_copyFrom 55 = .ok (.getfield 15, 3) := by decide +kernel
theorem dX4_copyFrom_58 : decode cX4_copyFrom 58 = .ok (.iload_n 2, 1) := by decide +kernel
theorem dX4_copyFrom_59 : decode cX4_copyFrom 59 = .ok (.aload_n 1, 1) := by decide +kernel
theorem dX4_copyFrom_60 : decode cX4_copyFrom 60 = .ok (.getfield 15, 3) := by decide +kernel
theorem dX4_copyFrom_63 : decode cX4_copyFrom 63 = .ok (.iload_n 2, 1) := by decide +kernel
theorem dX4_copyFrom_64 : decode cX4_copyFrom 64 = .ok (.iaload, 1) := by decide +kernel
theorem dX4_copyFrom_65 : decode cX4_copyFrom 65 = .ok (.iastore, 1) := by decide +kernel
theorem dX4_copyFrom_66 : decode cX4_copyFrom 66 = .ok (.aload_n 0, 1) := by decide +kernel
theorem dX4_copyFrom_67 : decode cX4_copyFrom 67 = .ok (.getfield 22, 3) := by decide +kernel
theorem dX4_copyFrom_70 : decode cX4_copyFrom 70 = .ok (.iload_n 2, 1) := by decide +kernel
theorem dX4_copyFrom_71 : decode cX4_copyFrom 71 = .ok (.aload_n 1, 1) := by decide +kernel
theorem dX4_copyFrom_72 : decode cX4_copyFrom 72 = .ok (.getfield 22, 3) := by decide +kernel
theorem dX4_copyFrom_75 : decode cX4_copyFrom 75 = .ok (.iload_n 2, 1) := by decide +kernel
theorem dX4_copyFrom_76 : decode cX4_copyFrom 76 = .ok (.baload, 1) := by decide +kernel
theorem dX4_copyFrom_77 : decode cX4_copyFrom 77 = .ok (.bastore, 1) := by decide +kernel
theorem dX4_copyFrom_78 : decode cX4_copyFrom 78 = .ok (.iinc 2 1, 3) := by decide +kernel
theorem dX4_copyFrom_81 : decode cX4_copyFrom 81 = .ok (.goto (-33), 3) := by decide +kernel
theorem dX4_copyFrom_84 : decode cX4_copyFrom 84 = .ok (.iconst 0, 1) := by decide +kernel
theorem dX4_copyFrom_85 : decode cX4_copyFrom 85 = .ok (.istore_n 2, 1) := by decide +kernel
theorem dX4_copyFrom_86 : decode cX4_copyFrom 86 = .ok (.iload_n 2, 1) := by decide +kernel
theorem dX4_copyFrom_87 : decode cX4_copyFrom 87 = .ok (.bipush 24, 2) := by decide +kernel
theorem dX4_copyFrom_89 : decode cX4_copyFrom 89 = .ok (.if_icmp .ge 33, 3) := by decide +kernel
theorem dX4_copyFrom_92 : decode cX4_copyFrom 92 = .ok (.aload_n 0, 1) := by decide +kernel
theorem dX4_copyFrom_93 : decode cX4_copyFrom 93 = .ok (.getfield 25, 3) := by decide +kernel
theorem dX4_copyFrom_96 : decode cX4_copyFrom 96 = .ok (.iload_n 2, 1) := by decide +kernel
theorem dX4_copyFrom_97 : decode cX4_copyFrom 97 = .ok (.aload_n 1, 1) := by decide +kernel
theorem dX4_copyFrom_98 : decode cX4_copyFrom 98 = .ok (.getfield 25, 3) := by decide +kernel
theorem dX4_copyFrom_101 : decode cX4_copyFrom 101 = .ok (.iload_n 2, 1) := by decide +kernel
theorem dX4_copyFrom_102 : decode cX4_copyFrom 102 = .ok (.baload, 1) := by decide +kernel
theorem dX4_copyFrom_103 : decode cX4_copyFrom 103 = .ok (.bastore, 1) := by decide +kernel
theorem dX4_copyFrom_104 : decode cX4_copyFrom 104 = .ok (.aload_n 0, 1) := by decide +kernel
theorem dX4_copyFrom_105 : decode cX4_copyFrom 105 = .ok (.getfield 28, 3) := by decide +kernel
theorem dX4_copyFrom_108 : decode cX4_copyFrom 108 = .ok (.iload_n 2, 1) := by decide +kernel
theorem dX4_copyFrom_109 : decode cX4_copyFrom 109 = .ok (.aload_n 1, 1) := by decide +kernel
theorem dX4_copyFrom_110 : decode cX4_copyFrom 110 = .ok (.getfield 28, 3) := by decide +kernel
theorem dX4_copyFrom_113 : decode cX4_copyFrom 113 = .ok (.iload_n 2, 1) := by decide +kernel
theorem dX4_copyFrom_114 : decode cX4_copyFrom 114 = .ok (.baload, 1) := by decide +kernel
theorem dX4_copyFrom_115 : decode cX4_copyFrom 115 = .ok (.bastore, 1) := by decide +kernel
theorem dX4_copyFrom_116 : decode cX4_copyFrom 116 = .ok (.iinc 2 1, 3) := by decide +kernel
theorem dX4_copyFrom_119 : decode cX4_copyFrom 119 = .ok (.goto (-33), 3) := by decide +kernel
theorem dX4_copyFrom_122 : decode cX4_copyFrom 122 = .ok (.aload_n 0, 1) := by decide +kernel
theorem dX4_copyFrom_123 : decode cX4_copyFrom 123 = .ok (.aload_n 1, 1) := by decide +kernel
theorem dX4_copyFrom_124 : decode cX4_copyFrom 124 = .ok (.getfield 48, 3) := by decide +kernel
theorem dX4_copyFrom_127 : decode cX4_copyFrom 127 = .ok (.putfield 48, 3) := by decide +kernel
theorem dX4_copyFrom_130 : decode cX4_copyFrom 130 = .ok (.aload_n 0, 1) := by decide +kernel
theorem dX4_copyFrom_131 : decode cX4_copyFrom 131 = .ok (.aload_n 1, 1) := by decide +kernel
theorem dX4_copyFrom_132 : decode cX4_copyFrom 132 = .ok (.getfield 51, 3) := by decide +kernel
theorem dX4_copyFrom_135 : decode cX4_copyFrom 135 = .ok (.putfield 51, 3) := by decide +kernel
theorem dX4_copyFrom_138 : decode cX4_copyFrom 138 = .ok (.aload_n 0, 1) := by decide +kernel
theorem dX4_copyFrom_139 : decode cX4_copyFrom 139 = .ok (.aload_n 1, 1) := by decide +kernel
theorem dX4_copyFrom_140 : decode cX4_copyFrom 140 = .ok (.getfield 54, 3) := by decide +kernel
theorem dX4_copyFrom_143 : decode cX4_copyFrom 143 = .ok (.putfield 54, 3) := by decide +kernel
theorem dX4_copyFrom_146 : decode cX4_copyFrom 146 = .ok (.aload_n 0, 1) := by decide +kernel
theorem dX4_copyFrom_147 : decode cX4_copyFrom 147 = .ok (.aload_n 1, 1) := by decide +kernel
theorem dX4_copyFrom_148 : decode cX4_copyFrom 148 = .ok (.getfield 57, 3) := by decide +kernel
theorem dX4_copyFrom_151 : decode cX4_copyFrom 151 = .ok (.putfield 57, 3) := by decide +kernel
theorem dX4_copyFrom_154 : decode cX4_copyFrom 154 = .ok (.aload_n 0, 1) := by decide +kernel
theorem dX4_copyFrom_155 : decode cX4_copyFrom 155 = .ok (.aload_n 1, 1) := by decide +kernel
theorem dX4_copyFrom_156 : decode cX4_copyFrom 156 = .ok (.getfield 60, 3) := by decide +kernel
theorem dX4_copyFrom_159 : decode cX4_copyFrom 159 = .ok (.putfield 60, 3) := by decide +kernel
theorem dX4_copyFrom_162 : decode cX4_copyFrom 162 = .ok (.aload_n 0, 1) := by decide +kernel
theorem dX4_copyFrom_163 : decode cX4_copyFrom 163 = .ok (.aload_n 1, 1) := by decide +kernel
theorem dX4_copyFrom_164 : decode cX4_copyFrom 164 = .ok (.getfield 63, 3) := by decide +kernel
theorem dX4_copyFrom_167 : decode cX4_copyFrom 167 = .ok (.putfield 63, 3) := by decide +kernel
theorem dX4_copyFrom_170 : decode cX4_copyFrom 170 = .ok (.aload_n 0, 1) := by decide +kernel
theorem dX4_copyFrom_171 : decode cX4_copyFrom 171 = .ok (.aload_n 1, 1) := by decide +kernel
theorem dX4_copyFrom_172 : decode cX4_copyFrom 172 = .ok (.getfield 66, 3) := by decide +kernel
theorem dX4_copyFrom_175 : decode cX4_copyFrom 175 = .ok (.putfield 66, 3) := by decide +kernel
theorem dX4_copyFrom_178 : decode cX4_copyFrom 178 = .ok (.return_, 1) := by decide +kernel
theorem dX4_heightAt_0 : decode cX4_heightAt 0 = .ok (.iload_n 1, 1) := by decide +kernel
theorem dX4_heightAt_1 : decode cX4_heightAt 1 = .ok (.ifCond .lt 18, 3) := by decide +kernel
theorem dX4_heightAt_4 : decode cX4_heightAt 4 = .ok (.iload_n 1, 1) := by decide +kernel
theorem dX4_heightAt_5 : decode cX4_heightAt 5 = .ok (.bipush 8, 2) := by decide +kernel
theorem dX4_heightAt_7 : decode cX4_heightAt 7 = .ok (.if_icmp .ge 12, 3) := by decide +kernel
theorem dX4_heightAt_10 : decode cX4_heightAt 10 = .ok (.aload_n 0, 1) := by decide +kernel
theorem dX4_heightAt_11 : decode cX4_heightAt 11 = .ok (.getfield 15, 3) := by decide +kernel
theorem dX4_heightAt_14 : decode cX4_heightAt 14 = .ok (.iload_n 1, 1) := by decide +kernel
theorem dX4_heightAt_15 : decode cX4_heightAt 15 = .ok (.iaload, 1) := by decide +kernel
theorem dX4_heightAt_16 : decode cX4_heightAt 16 = .ok (.goto 4, 3) := by decide +kernel
theorem dX4_heightAt_19 : decode cX4_heightAt 19 = .ok (.iconst 0, 1) := by decide +kernel
theorem dX4_heightAt_20 : decode cX4_heightAt 20 = .ok (.ireturn, 1) := by decide +kernel
theorem dX4_hasProp_0 : decode cX4_hasProp 0 = .ok (.iload_n 1, 1) := by decide +kernel
theorem dX4_hasProp_1 : decode cX4_hasProp 1 = .ok (.ifCond .lt 22, 3) := by decide +kernel
theorem dX4_hasProp_4 : decode cX4_hasProp 4 = .ok (.iload_n 1, 1) := by decide +kernel
theorem dX4_hasProp_5 : decode cX4_hasProp 5 = .ok (.bipush 8, 2) := by decide +kernel
theorem dX4_hasProp_7 : decode cX4_hasProp 7 = .ok (.if_icmp .ge 16, 3) := by decide +kernel
theorem dX4_hasProp_10 : decode cX4_hasProp 10 = .ok (.aload_n 0, 1) := by decide +kernel
theorem dX4_hasProp_11 : decode cX4_hasProp 11 = .ok (.getfield 22, 3) := by decide +kernel
theorem dX4_hasProp_14 : decode cX4_hasProp 14 = .ok (.iload_n 1, 1) := by decide +kernel
theorem dX4_hasProp_15 : decode cX4_hasProp 15 = .ok (.baload, 1) := by decide +kernel
theorem dX4_hasProp_16 : decode cX4_hasProp 16 = .ok (.ifCond .eq 7, 3) := by decide +kernel
theorem dX4_hasProp_19 : decode cX4_hasProp 19 = .ok (.iconst 1, 1) := by decide +kernel
theorem dX4_hasProp_20 : decode cX4_hasProp 20 = .ok (.goto 4, 3) := by decide +kernel
theorem dX4_hasProp_23 : decode cX4_hasProp 23 = .ok (.iconst 0, 1) := by decide +kernel
theorem dX4_hasProp_24 : decode cX4_hasProp 24 = .ok (.ireturn, 1) := by decide +kernel
theorem dX4_topOf_0 : decode cX4_topOf 0 = .ok (.aload_n 0, 1) := by decide +kernel
theorem dX4_topOf_1 : decode cX4_topOf 1 = .ok (.iload_n 1, 1) := by decide +kernel
theorem dX4_topOf_2 : decode cX4_topOf 2 = .ok (.aload_n 0, 1) := by decide +kernel
theorem dX4_topOf_3 : decode cX4_topOf 3 = .ok (.iload_n 1, 1) := by decide +kernel
theorem dX4_topOf_4 : decode cX4_topOf 4 = .ok (.invokevirtual 69, 3) := by decide +kernel
theorem dX4_topOf_7 : decode cX4_topOf 7 = .ok (.iconst 1, 1) := by decide +kernel
theorem dX4_topOf_8 : decode cX4_topOf 8 = .ok (.isub, 1) := by decide +kernel
theorem dX4_topOf_9 : decode cX4_topOf 9 = .ok (.invokevirtual 73, 3) := by decide +kernel
theorem dX4_topOf_12 : decode cX4_topOf 12 = .ok (.ireturn, 1) := by decide +kernel
theorem dX4_isLoose_0 : decode cX4_isLoose 0 = .ok (.iload_n 1, 1) := by decide +kernel
theorem dX4_isLoose_1 : decode cX4_isLoose 1 = .ok (.ifCond .lt 22, 3) := by decide +kernel
theorem dX4_isLoose_4 : decode cX4_isLoose 4 = .ok (.iload_n 1, 1) := by decide +kernel
theorem dX4_isLoose_5 : decode cX4_isLoose 5 = .ok (.bipush 80, 2) := by decide +kernel
theorem dX4_isLoose_7 : decode cX4_isLoose 7 = .ok (.if_icmp .ge 16, 3) := by decide +kernel
theorem dX4_isLoose_10 : decode cX4_isLoose 10 = .ok (.aload_n 0, 1) := by decide +kernel
theorem dX4_isLoose_11 : decode cX4_isLoose 11 = .ok (.getfield 18, 3) := by decide +kernel
theorem dX4_isLoose_14 : decode cX4_isLoose 14 = .ok (.iload_n 1, 1) := by decide +kernel
theorem dX4_isLoose_15 : decode cX4_isLoose 15 = .ok (.baload, 1) := by decide +kernel
theorem dX4_isLoose_16 : decode cX4_isLoose 16 = .ok (.ifCond .eq 7, 3) := by decide +kernel
theorem dX4_isLoose_19 : decode cX4_isLoose 19 = .ok (.iconst 1, 1) := by decide +kernel
theorem dX4_isLoose_20 : decode cX4_isLoose 20 = .ok (.goto 4, 3) := by decide +kernel
theorem dX4_isLoose_23 : decode cX4_isLoose 23 = .ok (.iconst 0, 1) := by decide +kernel
theorem dX4_isLoose_24 : decode cX4_isLoose 24 = .ok (.ireturn, 1) := by decide +kernel
theorem dX4_wasFound_0 : decode cX4_wasFound 0 = .ok (.iload_n 1, 1) := by decide +kernel
theorem dX4_wasFound_1 : decode cX4_wasFound 1 = .ok (.ifCond .lt 22, 3) := by decide +kernel
theorem dX4_wasFound_4 : decode cX4_wasFound 4 = .ok (.iload_n 1, 1) := by decide +kernel
theorem dX4_wasFound_5 : decode cX4_wasFound 5 = .ok (.bipush 24, 2) := by decide +kernel
theorem dX4_wasFound_7 : decode cX4_wasFound 7 = .ok (.if_icmp .ge 16, 3) := by decide +kernel
theorem dX4_wasFound_10 : decode cX4_wasFound 10 = .ok (.aload_n 0, 1) := by decide +kernel
theorem dX4_wasFound_11 : decode cX4_wasFound 11 = .ok (.getfield 25, 3) := by decide +kernel
theorem dX4_wasFound_14 : decode cX4_wasFound 14 = .ok (.iload_n 1, 1) := by decide +kernel
theorem dX4_wasFound_15 : decode cX4_wasFound 15 = .ok (.baload, 1) := by decide +kernel
theorem dX4_wasFound_16 : decode cX4_wasFound 16 = .ok (.ifCond .eq 7, 3) := by decide +kernel
theorem dX4_wasFound_19 : decode cX4_wasFound 19 = .ok (.iconst 1, 1) := by decide +kernel
theorem dX4_wasFound_20 : decode cX4_wasFound 20 = .ok (.goto 4, 3) := by decide +kernel
theorem dX4_wasFound_23 : decode cX4_wasFound 23 = .ok (.iconst 0, 1) := by decide +kernel
theorem dX4_wasFound_24 : decode cX4_wasFound 24 = .ok (.ireturn, 1) := by decide +kernel
theorem dX4_wasSure_0 : decode cX4_wasSure 0 = .ok (.iload_n 1, 1) := by decide +kernel
theorem dX4_wasSure_1 : decode cX4_wasSure 1 = .ok (.ifCond .lt 22, 3) := by decide +kernel
theorem dX4_wasSure_4 : decode cX4_wasSure 4 = .ok (.iload_n 1, 1) := by decide +kernel
theorem dX4_wasSure_5 : decode cX4_wasSure 5 = .ok (.bipush 24, 2) := by decide +kernel
theorem dX4_wasSure_7 : decode cX4_wasSure 7 = .ok (.if_icmp .ge 16, 3) := by decide +kernel
theorem dX4_wasSure_10 : decode cX4_wasSure 10 = .ok (.aload_n 0, 1) := by decide +kernel
theorem dX4_wasSure_11 : decode cX4_wasSure 11 = .ok (.getfield 28, 3) := by decide +kernel
theorem dX4_wasSure_14 : decode cX4_wasSure 14 = .ok (.iload_n 1, 1) := by decide +kernel
theorem dX4_wasSure_15 : decode cX4_wasSure 15 = .ok (.baload, 1) := by decide +kernel
theorem dX4_wasSure_16 : decode cX4_wasSure 16 = .ok (.ifCond .eq 7, 3) := by decide +kernel
theorem dX4_wasSure_19 : decode cX4_wasSure 19 = .ok (.iconst 1, 1) := by decide +kernel
theorem dX4_wasSure_20 : decode cX4_wasSure 20 = .ok (.goto 4, 3) := by decide +kernel
theorem dX4_wasSure_23 : decode cX4_wasSure 23 = .ok (.iconst 0, 1) := by decide +kernel
theorem dX4_wasSure_24 : decode cX4_wasSure 24 = .ok (.ireturn, 1) := by decide +kernel
theorem dX4_findsInStack_0 : decode cX4_findsInStack 0 = .ok (.iconst 0, 1) := by decide +kernel
theorem dX4_findsInStack_1 : decode cX4_findsInStack 1 = .ok (.istore_n 2, 1) := by decide +kernel
theorem dX4_findsInStack_2 : decode cX4_findsInStack 2 = .ok (.iconst 0, 1) := by decide +kernel
theorem dX4_findsInStack_3 : decode cX4_findsInStack 3 = .ok (.istore_n 3, 1) := by decide +kernel
theorem dX4_findsInStack_4 : decode cX4_findsInStack 4 = .ok (.iload_n 3, 1) := by decide +kernel
theorem dX4_findsInStack_5 : decode cX4_findsInStack 5 = .ok (.aload_n 0, 1) := by decide +kernel
theorem dX4_findsInStack_6 : decode cX4_findsInStack 6 = .ok (.iload_n 1, 1) := by decide +kernel
theorem dX4_findsInStack_7 : decode cX4_findsInStack 7 = .ok (.invokevirtual 69, 3) := by decide +kernel
theorem dX4_findsInStack_10 : decode cX4_findsInStack 10 = .ok (.if_icmp .ge 29, 3) := by decide +kernel
theorem dX4_findsInStack_13 : decode cX4_findsInStack 13 = .ok (.aload_n 0, 1) := by decide +kernel
theorem dX4_findsInStack_14 : decode cX4_findsInStack 14 = .ok (.getfield 31, 3) := by decide +kernel
theorem dX4_findsInStack_17 : decode cX4_findsInStack 17 = .ok (.aload_n 0, 1) := by decide +kernel
theorem dX4_findsInStack_18 : decode cX4_findsInStack 18 = .ok (.iload_n 1, 1) := by decide +kernel
theorem dX4_findsInStack_19 : decode cX4_findsInStack 19 = .ok (.iload_n 3, 1) := by decide +kernel
theorem dX4_findsInStack_20 : decode cX4_findsInStack 20 = .ok (.invokevirtual 73, 3) := by decide +kernel
theorem dX4_findsInStack_23 : decode cX4_findsInStack 23 = .ok (.invokevirtual 77, 3) := by decide +kernel
theorem dX4_findsInStack_26 : decode cX4_findsInStack 26 = .ok (.iconst (-1), 1) := by decide +kernel
theorem dX4_findsInStack_27 : decode cX4_findsInStack 27 = .ok (.if_icmp .eq 6, 3) := by decide +kernel
theorem dX4_findsInStack_30 : decode cX4_findsInStack 30 = .ok (.iinc 2 1, 3) := by decide +kernel
theorem dX4_findsInStack_33 : decode cX4_findsInStack 33 = .ok (.iinc 3 1, 3) := by decide +kernel
theorem dX4_findsInStack_36 : decode cX4_findsInStack 36 = .ok (.goto (-32), 3) := by decide +kernel
theorem dX4_findsInStack_39 : decode cX4_findsInStack 39 = .ok (.iload_n 2, 1) := by decide +kernel
theorem dX4_findsInStack_40 : decode cX4_findsInStack 40 = .ok (.ireturn, 1) := by decide +kernel
theorem dX4_cushionsAbove_0 : decode cX4_cushionsAbove 0 = .ok (.iconst 0, 1) := by decide +kernel
theorem dX4_cushionsAbove_1 : decode cX4_cushionsAbove 1 = .ok (.istore_n 2, 1) := by decide +kernel
theorem dX4_cushionsAbove_2 : decode cX4_cushionsAbove 2 = .ok (.iload_n 2, 1) := by decide +kernel
theorem dX4_cushionsAbove_3 : decode cX4_cushionsAbove 3 = .ok (.aload_n 0, 1) := by decide +kernel
theorem dX4_cushionsAbove_4 : decode cX4_cushionsAbove 4 = .ok (.getfield 31, 3) := by decide +kernel
theorem dX4_cushionsAbove_7 : decode cX4_cushionsAbove 7 = .ok (.getfield 39, 3) := by decide +kernel
theorem dX4_cushionsAbove_10 : decode cX4_cushionsAbove 10 = .ok (.if_icmp .ge 46, 3) := by decide +kernel
theorem dX4_cushionsAbove_13 : decode cX4_cushionsAbove 13 = .ok (.iconst 0, 1) := by decide +kernel
theorem dX4_cushionsAbove_14 : decode cX4_cushionsAbove 14 = .ok (.istore_n 3, 1) := by decide +kernel
theorem dX4_cushionsAbove_15 : decode cX4_cushionsAbove 15 = .ok (.iload_n 3, 1) := by decide +kernel
theorem dX4_cushionsAbove_16 : decode cX4_cushionsAbove 16 = .ok (.aload_n 0, 1) := by decide +kernel
theorem dX4_cushionsAbove_17 : decode cX4_cushionsAbove 17 = .ok (.iload_n 2, 1) := by decide +kernel
theorem dX4_cushionsAbove_18 : decode cX4_cushionsAbove 18 = .ok (.invokevirtual 69, 3) := by decide +kernel
theorem dX4_cushionsAbove_21 : decode cX4_cushionsAbove 21 = .ok (.if_icmp .ge 29, 3) := by decide +kernel
theorem dX4_cushionsAbove_24 : decode cX4_cushionsAbove 24 = .ok (.aload_n 0, 1) := by decide +kernel
theorem dX4_cushionsAbove_25 : decode cX4_cushionsAbove 25 = .ok (.iload_n 2, 1) := by decide +kernel
theorem dX4_cushionsAbove_26 : decode cX4_cushionsAbove 26 = .ok (.iload_n 3, 1) := by decide +kernel
theorem dX4_cushionsAbove_27 : decode cX4_cushionsAbove 27 = .ok (.invokevirtual 73, 3) := by decide +kernel
theorem dX4_cushionsAbove_30 : decode cX4_cushionsAbove 30 = .ok (.iload_n 1, 1) := by decide +kernel
theorem dX4_cushionsAbove_31 : decode cX4_cushionsAbove 31 = .ok (.if_icmp .ne 13, 3) := by decide +kernel
theorem dX4_cushionsAbove_34 : decode cX4_cushionsAbove 34 = .ok (.aload_n 0, 1) := by decide +kernel
theorem dX4_cushionsAbove_35 : decode cX4_cushionsAbove 35 = .ok (.iload_n 2, 1) := by decide +kernel
theorem dX4_cushionsAbove_36 : decode cX4_cushionsAbove 36 = .ok (.invokevirtual 69, 3) := by decide +kernel
theorem dX4_cushionsAbove_39 : decode cX4_cushionsAbove 39 = .ok (.iconst 1, 1) := by decide +kernel
theorem dX4_cushionsAbove_40 : decode cX4_cushionsAbove 40 = .ok (.isub, 1) := by decide +kernel
theorem dX4_cushionsAbove_41 : decode cX4_cushionsAbove 41 = .ok (.iload_n 3, 1) := by decide +kernel
theorem dX4_cushionsAbove_42 : decode cX4_cushionsAbove 42 = .ok (.isub, 1) := by decide +kernel
theorem dX4_cushionsAbove_43 : decode cX4_cushionsAbove 43 = .ok (.ireturn, 1) := by decide +kernel
theorem dX4_cushionsAbove_44 : decode cX4_cushionsAbove 44 = .ok (.iinc 3 1, 3) := by decide +kernel
theorem dX4_cushionsAbove_47 : decode cX4_cushionsAbove 47 = .ok (.goto (-32), 3) := by decide +kernel
theorem dX4_cushionsAbove_50 : decode cX4_cushionsAbove 50 = .ok (.iinc 2 1, 3) := by decide +kernel
theorem dX4_cushionsAbove_53 : decode cX4_cushionsAbove 53 = .ok (.goto (-51), 3) := by decide +kernel
theorem dX4_cushionsAbove_56 : decode cX4_cushionsAbove 56 = .ok (.iconst 0, 1) := by decide +kernel
theorem dX4_cushionsAbove_57 : decode cX4_cushionsAbove 57 = .ok (.ireturn, 1) := by decide +kernel
theorem dX4_earliestYear_0 : decode cX4_earliestYear 0 = .ok (.iconst (-1), 1) := by decide +kernel
theorem dX4_earliestYear_1 : decode cX4_earliestYear 1 = .ok (.istore_n 2, 1) := by decide +kernel
theorem dX4_earliestYear_2 : decode cX4_earliestYear 2 = .ok (.iconst 0, 1) := by decide +kernel
theorem dX4_earliestYear_3 : decode cX4_earliestYear 3 = .ok (.istore_n 3, 1) := by decide +kernel
theorem dX4_earliestYear_4 : decode cX4_earliestYear 4 = .ok (.iload_n 3, 1) := by decide +kernel
theorem dX4_earliestYear_5 : decode cX4_earliestYear 5 = .ok (.aload_n 0, 1) := by decide +kernel
theorem dX4_earliestYear_6 : decode cX4_earliestYear 6 = .ok (.getfield 31, 3) := by decide +kernel
theorem dX4_earliestYear_9 : decode cX4_earliestYear 9 = .ok (.getfield 80, 3) := by decide +kernel
theorem dX4_earliestYear_12 : decode cX4_earliestYear 12 = .ok (.if_icmp .ge 42, 3) := by decide +kernel
theorem dX4_earliestYear_15 : decode cX4_earliestYear 15 = .ok (.aload_n 0, 1) := by decide +kernel
theorem dX4_earliestYear_16 : decode cX4_earliestYear 16 = .ok (.iload_n 3, 1) := by decide +kernel
theorem dX4_earliestYear_17 : decode cX4_earliestYear 17 = .ok (.invokevirtual 83, 3) := by decide +kernel
theorem dX4_earliestYear_20 : decode cX4_earliestYear 20 = .ok (.ifCond .eq 28, 3) := by decide +kernel
theorem dX4_earliestYear_23 : decode cX4_earliestYear 23 = .ok (.aload_n 0, 1) := by decide +kernel
theorem dX4_earliestYear_24 : decode cX4_earliestYear 24 = .ok (.getfield 31, 3) := by decide +kernel
theorem dX4_earliestYear_27 : decode cX4_earliestYear 27 = .ok (.iload_n 3, 1) := by decide +kernel
theorem dX4_earliestYear_28 : decode cX4_earliestYear 28 = .ok (.invokevirtual 87, 3) := by decide +kernel
theorem dX4_earliestYear_31 : decode cX4_earliestYear 31 = .ok (.iload_n 1, 1) := by decide +kernel
theorem dX4_earliestYear_32 : decode cX4_earliestYear 32 = .ok (.if_icmp .gt 16, 3) := by decide +kernel
theorem dX4_earliestYear_35 : decode cX4_earliestYear 35 = .ok (.iload_n 2, 1) := by decide +kernel
theorem dX4_earliestYear_36 : decode cX4_earliestYear 36 = .ok (.aload_n 0, 1) := by decide +kernel
theorem dX4_earliestYear_37 : decode cX4_earliestYear 37 = .ok (.getfield 31, 3) := by decide +kernel
theorem dX4_earliestYear_40 : decode cX4_earliestYear 40 = .ok (.iload_n 3, 1) := by decide +kernel
theorem dX4_earliestYear_41 : decode cX4_earliestYear 41 = .ok (.invokevirtual 90, 3) := by decide +kernel
theorem dX4_earliestYear_44 : decode cX4_earliestYear 44 = .ok (.invokestatic 93, 3) := by decide +kernel
theorem dX4_earliestYear_47 : decode cX4_earliestYear 47 = .ok (.istore_n 2, 1) := by decide +kernel
theorem dX4_earliestYear_48 : decode cX4_earliestYear 48 = .ok (.iinc 3 1, 3) := by decide +kernel
theorem dX4_earliestYear_51 : decode cX4_earliestYear 51 = .ok (.goto (-47), 3) := by decide +kernel
theorem dX4_earliestYear_54 : decode cX4_earliestYear 54 = .ok (.iload_n 2, 1) := by decide +kernel
theorem dX4_earliestYear_55 : decode cX4_earliestYear 55 = .ok (.ireturn, 1) := by decide +kernel
theorem dX4_sawEmpire_0 : decode cX4_sawEmpire 0 = .ok (.iconst 0, 1) := by decide +kernel
theorem dX4_sawEmpire_1 : decode cX4_sawEmpire 1 = .ok (.istore_n 3, 1) := by decide +kernel
theorem dX4_sawEmpire_2 : decode cX4_sawEmpire 2 = .ok (.iload_n 3, 1) := by decide +kernel
theorem dX4_sawEmpire_3 : decode cX4_sawEmpire 3 = .ok (.aload_n 0, 1) := by decide +kernel
theorem dX4_sawEmpire_4 : decode cX4_sawEmpire 4 = .ok (.getfield 31, 3) := by decide +kernel
theorem dX4_sawEmpire_7 : decode cX4_sawEmpire 7 = .ok (.getfield 80, 3) := by decide +kernel
theorem dX4_sawEmpire_10 : decode cX4_sawEmpire 10 = .ok (.if_icmp .ge 43, 3) := by decide +kernel
theorem dX4_sawEmpire_13 : decode cX4_sawEmpire 13 = .ok (.aload_n 0, 1) := by decide +kernel
theorem dX4_sawEmpire_14 : decode cX4_sawEmpire 14 = .ok (.iload_n 3, 1) := by decide +kernel
theorem dX4_sawEmpire_15 : decode cX4_sawEmpire 15 = .ok (.invokevirtual 83, 3) := by decide +kernel
theorem dX4_sawEmpire_18 : decode cX4_sawEmpire 18 = .ok (.ifCond .eq 29, 3) := by decide +kernel
theorem dX4_sawEmpire_21 : decode cX4_sawEmpire 21 = .ok (.aload_n 0, 1) := by decide +kernel
theorem dX4_sawEmpire_22 : decode cX4_sawEmpire 22 = .ok (.getfield 31, 3) := by decide +kernel
theorem dX4_sawEmpire_25 : decode cX4_sawEmpire 25 = .ok (.iload_n 3, 1) := by decide +kernel
theorem dX4_sawEmpire_26 : decode cX4_sawEmpire 26 = .ok (.invokevirtual 87, 3) := by decide +kernel
theorem dX4_sawEmpire_29 : decode cX4_sawEmpire 29 = .ok (.iload_n 1, 1) := by decide +kernel
theorem dX4_sawEmpire_30 : decode cX4_sawEmpire 30 = .ok (.if_icmp .ne 17, 3) := by decide +kernel
theorem dX4_sawEmpire_33 : decode cX4_sawEmpire 33 = .ok (.aload_n 0, 1) := by decide +kernel
theorem dX4_sawEmpire_34 : decode cX4_sawEmpire 34 = .ok (.getfield 31, 3) := by decide +kernel
theorem dX4_sawEmpire_37 : decode cX4_sawEmpire 37 = .ok (.iload_n 3, 1) := by decide +kernel
theorem dX4_sawEmpire_38 : decode cX4_sawEmpire 38 = .ok (.invokevirtual 98, 3) := by decide +kernel
theorem dX4_sawEmpire_41 : decode cX4_sawEmpire 41 = .ok (.iload_n 2, 1) := by decide +kernel
theorem dX4_sawEmpire_42 : decode cX4_sawEmpire 42 = .ok (.if_icmp .ne 5, 3) := by decide +kernel
theorem dX4_sawEmpire_45 : decode cX4_sawEmpire 45 = .ok (.iconst 1, 1) := by decide +kernel
theorem dX4_sawEmpire_46 : decode cX4_sawEmpire 46 = .ok (.ireturn, 1) := by decide +kernel
theorem dX4_sawEmpire_47 : decode cX4_sawEmpire 47 = .ok (.iinc 3 1, 3) := by decide +kernel
theorem dX4_sawEmpire_50 : decode cX4_sawEmpire 50 = .ok (.goto (-48), 3) := by decide +kernel
theorem dX4_sawEmpire_53 : decode cX4_sawEmpire 53 = .ok (.iconst 0, 1) := by decide +kernel
theorem dX4_sawEmpire_54 : decode cX4_sawEmpire 54 = .ok (.ireturn, 1) := by decide +kernel
theorem dX4_sawEmpireAnywhere_0 : decode cX4_sawEmpireAnywhere 0 = .ok (.iconst 0, 1) := by decide +kernel
theorem dX4_sawEmpireAnywhere_1 : decode cX4_sawEmpireAnywhere 1 = .ok (.istore_n 2, 1) := by decide +kernel
theorem dX4_sawEmpireAnywhere_2 : decode cX4_sawEmpireAnywhere 2 = .ok (.iload_n 2, 1) := by decide +kernel
theorem dX4_sawEmpireAnywhere_3 : decode cX4_sawEmpireAnywhere 3 = .ok (.aload_n 0, 1) := by decide +kernel
theorem dX4_sawEmpireAnywhere_4 : decode cX4_sawEmpireAnywhere 4 = .ok (.getfield 31, 3) := by decide +kernel
theorem dX4_sawEmpireAnywhere_7 : decode cX4_sawEmpireAnywhere 7 = .ok (.getfield 80, 3) := by decide +kernel
theorem dX4_sawEmpireAnywhere_10 : decode cX4_sawEmpireAnywhere 10 = .ok (.if_icmp .ge 31, 3) := by decide +kernel
theorem dX4_sawEmpireAnywhere_13 : decode cX4_sawEmpireAnywhere 13 = .ok (.aload_n 0, 1) := by decide +kernel
theorem dX4_sawEmpireAnywhere_14 : decode cX4_sawEmpireAnywhere 14 = .ok (.iload_n 2, 1) := by decide +kernel
theorem dX4_sawEmpireAnywhere_15 : decode cX4_sawEmpireAnywhere 15 = .ok (.invokevirtual 83, 3) := by decide +kernel
theorem dX4_sawEmpireAnywhere_18 : decode cX4_sawEmpireAnywhere 18 = .ok (.ifCond .eq 17, 3) := by decide +kernel
theorem dX4_sawEmpireAnywhere_21 : decode cX4_sawEmpireAnywhere 21 = .ok (.aload_n 0, 1) := by decide +kernel
theorem dX4_sawEmpireAnywhere_22 : decode cX4_sawEmpireAnywhere 22 = .ok (.getfield 31, 3) := by decide +kernel
theorem dX4_sawEmpireAnywhere_25 : decode cX4_sawEmpireAnywhere 25 = .ok (.iload_n 2, 1) := by decide +kernel
theorem dX4_sawEmpireAnywhere_26 : decode cX4_sawEmpireAnywhere 26 = .ok (.invokevirtual 98, 3) := by decide +kernel
theorem dX4_sawEmpireAnywhere_29 : decode cX4_sawEmpireAnywhere 29 = .ok (.iload_n 1, 1) := by decide +kernel
theorem dX4_sawEmpireAnywhere_30 : decode cX4_sawEmpireAnywhere 30 = .ok (.if_icmp .ne 5, 3) := by decide +kernel
theorem dX4_sawEmpireAnywhere_33 : decode cX4_sawEmpireAnywhere 33 = .ok (.iconst 1, 1) := by decide +kernel
theorem dX4_sawEmpireAnywhere_34 : decode cX4_sawEmpireAnywhere 34 = .ok (.ireturn, 1) := by decide +kernel
theorem dX4_sawEmpireAnywhere_35 : decode cX4_sawEmpireAnywhere 35 = .ok (.iinc 2 1, 3) := by decide +kernel
theorem dX4_sawEmpireAnywhere_38 : decode cX4_sawEmpireAnywhere 38 = .ok (.goto (-36), 3) := by decide +kernel
theorem dX4_sawEmpireAnywhere_41 : decode cX4_sawEmpireAnywhere 41 = .ok (.iconst 0, 1) := by decide +kernel
theorem dX4_sawEmpireAnywhere_42 : decode cX4_sawEmpireAnywhere 42 = .ok (.ireturn, 1) := by decide +kernel
theorem dX4_showsMixture_0 : decode cX4_showsMixture 0 = .ok (.iconst 0, 1) := by decide +kernel
theorem dX4_showsMixture_1 : decode cX4_showsMixture 1 = .ok (.istore_n 2, 1) := by decide +kernel
theorem dX4_showsMixture_2 : decode cX4_showsMixture 2 = .ok (.iload_n 2, 1) := by decide +kernel
theorem dX4_showsMixture_3 : decode cX4_showsMixture 3 = .ok (.aload_n 0, 1) := by decide +kernel
theorem dX4_showsMixture_4 : decode cX4_showsMixture 4 = .ok (.getfield 31, 3) := by decide +kernel
theorem dX4_showsMixture_7 : decode cX4_showsMixture 7 = .ok (.getfield 101, 3) := by decide +kernel
theorem dX4_showsMixture_10 : decode cX4_showsMixture 10 = .ok (.if_icmp .ge 67, 3) := by decide +kernel
theorem dX4_showsMixture_13 : decode cX4_showsMixture 13 = .ok (.iconst 0, 1) := by decide +kernel
theorem dX4_showsMixture_14 : decode cX4_showsMixture 14 = .ok (.istore_n 3, 1) := by decide +kernel
theorem dX4_showsMixture_15 : decode cX4_showsMixture 15 = .ok (.iload_n 3, 1) := by decide +kernel
theorem dX4_showsMixture_16 : decode cX4_showsMixture 16 = .ok (.aload_n 0, 1) := by decide +kernel
theorem dX4_showsMixture_17 : decode cX4_showsMixture 17 = .ok (.getfield 31, 3) := by decide +kernel
theorem dX4_showsMixture_20 : decode cX4_showsMixture 20 = .ok (.getfield 101, 3) := by decide +kernel
theorem dX4_showsMixture_23 : decode cX4_showsMixture 23 = .ok (.if_icmp .ge 48, 3) := by decide +kernel
theorem dX4_showsMixture_26 : decode cX4_showsMixture 26 = .ok (.aload_n 0, 1) := by decide +kernel
theorem dX4_showsMixture_27 : decode cX4_showsMixture 27 = .ok (.getfield 31, 3) := by decide +kernel
theorem dX4_showsMixture_30 : decode cX4_showsMixture 30 = .ok (.iload_n 2, 1) := by decide +kernel
theorem dX4_showsMixture_31 : decode cX4_showsMixture 31 = .ok (.invokevirtual 104, 3) := by decide +kernel
theorem dX4_showsMixture_34 : decode cX4_showsMixture 34 = .ok (.aload_n 0, 1) := by decide +kernel
theorem dX4_showsMixture_35 : decode cX4_showsMixture 35 = .ok (.getfield 31, 3) := by decide +kernel
theorem dX4_showsMixture_38 : decode cX4_showsMixture 38 = .ok (.iload_n 3, 1) := by decide +kernel
theorem dX4_showsMixture_39 : decode cX4_showsMixture 39 = .ok (.invokevirtual 107, 3) := by decide +kernel
theorem dX4_showsMixture_42 : decode cX4_showsMixture 42 = .ok (.if_icmp .ge 23, 3) := by decide +kernel
theorem dX4_showsMixture_45 : decode cX4_showsMixture 45 = .ok (.aload_n 0, 1) := by decide +kernel
theorem dX4_showsMixture_46 : decode cX4_showsMixture 46 = .ok (.iload_n 1, 1) := by decide +kernel
theorem dX4_showsMixture_47 : decode cX4_showsMixture 47 = .ok (.iload_n 2, 1) := by decide +kernel
theorem dX4_showsMixture_48 : decode cX4_showsMixture 48 = .ok (.invokevirtual 110, 3) := by decide +kernel
theorem dX4_showsMixture_51 : decode cX4_showsMixture 51 = .ok (.ifCond .eq 14, 3) := by decide +kernel
theorem dX4_showsMixture_54 : decode cX4_showsMixture 54 = .ok (.aload_n 0, 1) := by decide +kernel
theorem dX4_showsMixture_55 : decode cX4_showsMixture 55 = .ok (.iload_n 1, 1) := by decide +kernel
theorem dX4_showsMixture_56 : decode cX4_showsMixture 56 = .ok (.iload_n 3, 1) := by decide +kernel
theorem dX4_showsMixture_57 : decode cX4_showsMixture 57 = .ok (.invokevirtual 110, 3) := by decide +kernel
theorem dX4_showsMixture_60 : decode cX4_showsMixture 60 = .ok (.ifCond .eq 5, 3) := by decide +kernel
theorem dX4_showsMixture_63 : decode cX4_showsMixture 63 = .ok (.iconst 1, 1) := by decide +kernel
theorem dX4_showsMixture_64 : decode cX4_showsMixture 64 = .ok (.ireturn, 1) := by decide +kernel
theorem dX4_showsMixture_65 : decode cX4_showsMixture 65 = .ok (.iinc 3 1, 3) := by decide +kernel
theorem dX4_showsMixture_68 : decode cX4_showsMixture 68 = .ok (.goto (-53), 3) := by decide +kernel
theorem dX4_showsMixture_71 : decode cX4_showsMixture 71 = .ok (.iinc 2 1, 3) := by decide +kernel
theorem dX4_showsMixture_74 : decode cX4_showsMixture 74 = .ok (.goto (-72), 3) := by decide +kernel
theorem dX4_showsMixture_77 : decode cX4_showsMixture 77 = .ok (.iconst 0, 1) := by decide +kernel
theorem dX4_showsMixture_78 : decode cX4_showsMixture 78 = .ok (.ireturn, 1) := by decide +kernel
theorem dX4_digSeat_0 : decode cX4_digSeat 0 = .ok (.aload_n 0, 1) := by decide +kernel
theorem dX4_digSeat_1 : decode cX4_digSeat 1 = .ok (.iload_n 1, 1) := by decide +kernel
theorem dX4_digSeat_2 : decode cX4_digSeat 2 = .ok (.invokevirtual 114, 3) := by decide +kernel
theorem dX4_digSeat_5 : decode cX4_digSeat 5 = .ok (.istore_n 2, 1) := by decide +kernel
theorem dX4_digSeat_6 : decode cX4_digSeat 6 = .ok (.aload_n 0, 1) := by decide +kernel
theorem dX4_digSeat_7 : decode cX4_digSeat 7 = .ok (.getfield 31, 3) := by decide +kernel
theorem dX4_digSeat_10 : decode cX4_digSeat 10 = .ok (.iload_n 2, 1) := by decide +kernel
theorem dX4_digSeat_11 : decode cX4_digSeat 11 = .ok (.invokevirtual 77, 3) := by decide +kernel
theorem dX4_digSeat_14 : decode cX4_digSeat 14 = .ok (.istore_n 3, 1) := by decide +kernel
theorem dX4_digSeat_15 : decode cX4_digSeat 15 = .ok (.iload_n 2, 1) := by decide +kernel
theorem dX4_digSeat_16 : decode cX4_digSeat 16 = .ok (.iconst (-1), 1) := by decide +kernel
theorem dX4_digSeat_17 : decode cX4_digSeat 17 = .ok (.if_icmp .eq 53, 3) := by decide +kernel
theorem dX4_digSeat_20 : decode cX4_digSeat 20 = .ok (.aload_n 0, 1) := by decide +kernel
theorem dX4_digSeat_21 : decode cX4_digSeat 21 = .ok (.iload_n 1, 1) := by decide +kernel
theorem dX4_digSeat_22 : decode cX4_digSeat 22 = .ok (.invokevirtual 69, 3) := by decide +kernel
theorem dX4_digSeat_25 : decode cX4_digSeat 25 = .ok (.ifCond .le 45, 3) := by decide +kernel
theorem dX4_digSeat_28 : decode cX4_digSeat 28 = .ok (.aload_n 0, 1) := by decide +kernel
theorem dX4_digSeat_29 : decode cX4_digSeat 29 = .ok (.getfield 15, 3) := by decide +kernel
theorem dX4_digSeat_32 : decode cX4_digSeat 32 = .ok (.iload_n 1, 1) := by decide +kernel
theorem dX4_digSeat_33 : decode cX4_digSeat 33 = .ok (.dup2, 1) := by decide +kernel
theorem dX4_digSeat_34 : decode cX4_digSeat 34 = .ok (.iaload, 1) := by decide +kernel
theorem dX4_digSeat_35 : decode cX4_digSeat 35 = .ok (.iconst 1, 1) := by decide +kernel
theorem dX4_digSeat_36 : decode cX4_digSeat 36 = .ok (.isub, 1) := by decide +kernel
theorem dX4_digSeat_37 : decode cX4_digSeat 37 = .ok (.iastore, 1) := by decide +kernel
theorem dX4_digSeat_38 : decode cX4_digSeat 38 = .ok (.aload_n 0, 1) := by decide +kernel
theorem dX4_digSeat_39 : decode cX4_digSeat 39 = .ok (.dup, 1) := by decide +kernel
theorem dX4_digSeat_40 : decode cX4_digSeat 40 = .ok (.getfield 54, 3) := by decide +kernel
theorem dX4_digSeat_43 : decode cX4_digSeat 43 = .ok (.iconst 1, 1) := by decide +kernel
theorem dX4_digSeat_44 : decode cX4_digSeat 44 = .ok (.iadd, 1) := by decide +kernel
theorem dX4_digSeat_45 : decode cX4_digSeat 45 = .ok (.putfield 54, 3) := by decide +kernel
theorem dX4_digSeat_48 : decode cX4_digSeat 48 = .ok (.aload_n 0, 1) := by decide +kernel
theorem dX4_digSeat_49 : decode cX4_digSeat 49 = .ok (.iload_n 3, 1) := by decide +kernel
theorem dX4_digSeat_50 : decode cX4_digSeat 50 = .ok (.aload_n 0, 1) := by decide +kernel
theorem dX4_digSeat_51 : decode cX4_digSeat 51 = .ok (.iload_n 2, 1) := by decide +kernel
theorem dX4_digSeat_52 : decode cX4_digSeat 52 = .ok (.invokevirtual 117, 3) := by decide +kernel
theorem dX4_digSeat_55 : decode cX4_digSeat 55 = .ok (.ifCond .ne 7, 3) := by decide +kernel
theorem dX4_digSeat_58 : decode cX4_digSeat 58 = .ok (.iconst 1, 1) := by decide +kernel
theorem dX4_digSeat_59 : decode cX4_digSeat 59 = .ok (.goto 4, 3) := by decide +kernel
theorem dX4_digSeat_62 : decode cX4_digSeat 62 = .ok (.iconst 0, 1) := by decide +kernel
theorem dX4_digSeat_63 : decode cX4_digSeat 63 = .ok (.invokevirtual 120, 3) := by decide +kernel
theorem dX4_digSeat_66 : decode cX4_digSeat 66 = .ok (.aload_n 0, 1) := by decide +kernel
theorem dX4_digSeat_67 : decode cX4_digSeat 67 = .ok (.invokevirtual 124, 3) := by decide +kernel
theorem dX4_digSeat_70 : decode cX4_digSeat 70 = .ok (.iload_n 3, 1) := by decide +kernel
theorem dX4_digSeat_71 : decode cX4_digSeat 71 = .ok (.ireturn, 1) := by decide +kernel
theorem dX4_canProp_0 : decode cX4_canProp 0 = .ok (.iload_n 1, 1) := by decide +kernel
theorem dX4_canProp_1 : decode cX4_canProp 1 = .ok (.ifCond .lt 34, 3) := by decide +kernel
theorem dX4_canProp_4 : decode cX4_canProp 4 = .ok (.iload_n 1, 1) := by decide +kernel
theorem dX4_canProp_5 : decode cX4_canProp 5 = .ok (.aload_n 0, 1) := by decide +kernel
theorem dX4_canProp_6 : decode cX4_canProp 6 = .ok (.getfield 31, 3) := by decide +kernel
theorem dX4_canProp_9 : decode cX4_canProp 9 = .ok (.getfield 39, 3) := by decide +kernel
theorem dX4_canProp_12 : decode cX4_canProp 12 = .ok (.if_icmp .ge 23, 3) := by decide +kernel
theorem dX4_canProp_15 : decode cX4_canProp 15 = .ok (.aload_n 0, 1) := by decide +kernel
theorem dX4_canProp_16 : decode cX4_canProp 16 = .ok (.iload_n 1, 1) := by decide +kernel
theorem dX4_canProp_17 : decode cX4_canProp 17 = .ok (.invokevirtual 127, 3) := by decide +kernel
theorem dX4_canProp_20 : decode cX4_canProp 20 = .ok (.ifCond .ne 15, 3) := by decide +kernel
theorem dX4_canProp_23 : decode cX4_canProp 23 = .ok (.aload_n 0, 1) := by decide +kernel
theorem dX4_canProp_24 : decode cX4_canProp 24 = .ok (.getfield 66, 3) := by decide +kernel
theorem dX4_canProp_27 : decode cX4_canProp 27 = .ok (.iconst 3, 1) := by decide +kernel
theorem dX4_canProp_28 : decode cX4_canProp 28 = .ok (.if_icmp .ge 7, 3) := by decide +kernel
theorem dX4_canProp_31 : decode cX4_canProp 31 = .ok (.iconst 1, 1) := by decide +kernel
theorem dX4_canProp_32 : decode cX4_canProp 32 = .ok (.goto 4, 3) := by decide +kernel
theorem dX4_canProp_35 : decode cX4_canProp 35 = .ok (.iconst 0, 1) := by decide +kernel
theorem dX4_canProp_36 : decode cX4_canProp 36 = .ok (.ireturn, 1) := by decide +kernel
theorem dX4_putProp_0 : decode cX4_putProp 0 = .ok (.aload_n 0, 1) := by decide +kernel
theorem dX4_putProp_1 : decode cX4_putProp 1 = .ok (.iload_n 1, 1) := by decide +kernel
theorem dX4_putProp_2 : decode cX4_putProp 2 = .ok (.invokevirtual 130, 3) := by decide +kernel
theorem dX4_putProp_5 : decode cX4_putProp 5 = .ok (.ifCond .eq 20, 3) := by decide +kernel
theorem dX4_putProp_8 : decode cX4_putProp 8 = .ok (.aload_n 0, 1) := by decide +kernel
theorem dX4_putProp_9 : decode cX4_putProp 9 = .ok (.getfield 22, 3) := by decide +kernel
theorem dX4_putProp_12 : decode cX4_putProp 12 = .ok (.iload_n 1, 1) := by decide +kernel
theorem dX4_putProp_13 : decode cX4_putProp 13 = .ok (.iconst 1, 1) := by decide +kernel
theorem dX4_putProp_14 : decode cX4_putProp 14 = .ok (.bastore, 1) := by decide +kernel
theorem dX4_putProp_15 : decode cX4_putProp 15 = .ok (.aload_n 0, 1) := by decide +kernel
theorem dX4_putProp_16 : decode cX4_putProp 16 = .ok (.dup, 1) := by decide +kernel
theorem dX4_putProp_17 : decode cX4_putProp 17 = .ok (.getfield 66, 3) := by decide +kernel
theorem dX4_putProp_20 : decode cX4_putProp 20 = .ok (.iconst 1, 1) := by decide +kernel
theorem dX4_putProp_21 : decode cX4_putProp 21 = .ok (.iadd, 1) := by decide +kernel
theorem dX4_putProp_22 : decode cX4_putProp 22 = .ok (.putfield 66, 3) := by decide +kernel
theorem dX4_putProp_25 : decode cX4_putProp 25 = .ok (.return_, 1) := by decide +kernel
theorem dX4_freeSeat_0 : decode cX4_freeSeat 0 = .ok (.aload_n 0, 1) := by decide +kernel
theorem dX4_freeSeat_1 : decode cX4_freeSeat 1 = .ok (.iload_n 1, 1) := by decide +kernel
theorem dX4_freeSeat_2 : decode cX4_freeSeat 2 = .ok (.invokevirtual 127, 3) := by decide +kernel
theorem dX4_freeSeat_5 : decode cX4_freeSeat 5 = .ok (.ifCond .eq 24, 3) := by decide +kernel
theorem dX4_freeSeat_8 : decode cX4_freeSeat 8 = .ok (.aload_n 0, 1) := by decide +kernel
theorem dX4_freeSeat_9 : decode cX4_freeSeat 9 = .ok (.getfield 22, 3) := by decide +kernel
theorem dX4_freeSeat_12 : decode cX4_freeSeat 12 = .ok (.iload_n 1, 1) := by decide +kernel
theorem dX4_freeSeat_13 : decode cX4_freeSeat 13 = .ok (.iconst 0, 1) := by decide +kernel
theorem dX4_freeSeat_14 : decode cX4_freeSeat 14 = .ok (.bastore, 1) := by decide +kernel
theorem dX4_freeSeat_15 : decode cX4_freeSeat 15 = .ok (.aload_n 0, 1) := by decide +kernel
theorem dX4_freeSeat_16 : decode cX4_freeSeat 16 = .ok (.dup, 1) := by decide +kernel
theorem dX4_freeSeat_17 : decode cX4_freeSeat 17 = .ok (.getfield 66, 3) := by decide +kernel
theorem dX4_freeSeat_20 : decode cX4_freeSeat 20 = .ok (.iconst 1, 1) := by decide +kernel
theorem dX4_freeSeat_21 : decode cX4_freeSeat 21 = .ok (.isub, 1) := by decide +kernel
theorem dX4_freeSeat_22 : decode cX4_freeSeat 22 = .ok (.putfield 66, 3) := by decide +kernel
theorem dX4_freeSeat_25 : decode cX4_freeSeat 25 = .ok (.aload_n 0, 1) := by decide +kernel
theorem dX4_freeSeat_26 : decode cX4_freeSeat 26 = .ok (.invokevirtual 124, 3) := by decide +kernel
theorem dX4_freeSeat_29 : decode cX4_freeSeat 29 = .ok (.return_, 1) := by decide +kernel
theorem dX4_noteFind_0 : decode cX4_noteFind 0 = .ok (.iload_n 1, 1) := by decide +kernel
theorem dX4_noteFind_1 : decode cX4_noteFind 1 = .ok (.ifCond .lt 9, 3) := by decide +kernel
theorem dX4_noteFind_4 : decode cX4_noteFind 4 = .ok (.iload_n 1, 1) := by decide +kernel
theorem dX4_noteFind_5 : decode cX4_noteFind 5 = .ok (.bipush 24, 2) := by decide +kernel
theorem dX4_noteFind_7 : decode cX4_noteFind 7 = .ok (.if_icmp .lt 4, 3) := by decide +kernel
theorem dX4_noteFind_10 : decode cX4_noteFind 10 = .ok (.return_, 1) := by decide +kernel
theorem dX4_noteFind_11 : decode cX4_noteFind 11 = .ok (.aload_n 0, 1) := by decide +kernel
theorem dX4_noteFind_12 : decode cX4_noteFind 12 = .ok (.getfield 25, 3) := by decide +kernel
theorem dX4_noteFind_15 : decode cX4_noteFind 15 = .ok (.iload_n 1, 1) := by decide +kernel
theorem dX4_noteFind_16 : decode cX4_noteFind 16 = .ok (.iconst 1, 1) := by decide +kernel
theorem dX4_noteFind_17 : decode cX4_noteFind 17 = .ok (.bastore, 1) := by decide +kernel
theorem dX4_noteFind_18 : decode cX4_noteFind 18 = .ok (.aload_n 0, 1) := by decide +kernel
theorem dX4_noteFind_19 : decode cX4_noteFind 19 = .ok (.dup, 1) := by decide +kernel
theorem dX4_noteFind_20 : decode cX4_noteFind 20 = .ok (.getfield 60, 3) := by decide +kernel
theorem dX4_noteFind_23 : decode cX4_noteFind 23 = .ok (.iconst 1, 1) := by decide +kernel
theorem dX4_noteFind_24 : decode cX4_noteFind 24 = .ok (.iadd, 1) := by decide +kernel
theorem dX4_noteFind_25 : decode cX4_noteFind 25 = .ok (.putfield 60, 3) := by decide +kernel
theorem dX4_noteFind_28 : decode cX4_noteFind 28 = .ok (.iload_n 2, 1) := by decide +kernel
theorem dX4_noteFind_29 : decode cX4_noteFind 29 = .ok (.ifCond .eq 20, 3) := by decide +kernel
theorem dX4_noteFind_32 : decode cX4_noteFind 32 = .ok (.aload_n 0, 1) := by decide +kernel
theorem dX4_noteFind_33 : decode cX4_noteFind 33 = .ok (.getfield 28, 3) := by decide +kernel
theorem dX4_noteFind_36 : decode cX4_noteFind 36 = .ok (.iload_n 1, 1) := by decide +kernel
theorem dX4_noteFind_37 : decode cX4_noteFind 37 = .ok (.iconst 1, 1) := by decide +kernel
theorem dX4_noteFind_38 : decode cX4_noteFind 38 = .ok (.bastore, 1) := by decide +kernel
theorem dX4_noteFind_39 : decode cX4_noteFind 39 = .ok (.aload_n 0, 1) := by decide +kernel
theorem dX4_noteFind_40 : decode cX4_noteFind 40 = .ok (.dup, 1) := by decide +kernel
theorem dX4_noteFind_41 : decode cX4_noteFind 41 = .ok (.getfield 63, 3) := by decide +kernel
theorem dX4_noteFind_44 : decode cX4_noteFind 44 = .ok (.iconst 1, 1) := by decide +kernel
theorem dX4_noteFind_45 : decode cX4_noteFind 45 = .ok (.iadd, 1) := by decide +kernel
theorem dX4_noteFind_46 : decode cX4_noteFind 46 = .ok (.putfield 63, 3) := by decide +kernel
theorem dX4_noteFind_49 : decode cX4_noteFind 49 = .ok (.return_, 1) := by decide +kernel
theorem dX4_settle_0 : decode cX4_settle 0 = .ok (.iconst 0, 1) := by decide +kernel
theorem dX4_settle_1 : decode cX4_settle 1 = .ok (.istore_n 1, 1) := by decide +kernel
theorem dX4_settle_2 : decode cX4_settle 2 = .ok (.iconst 0, 1) := by decide +kernel
theorem dX4_settle_3 : decode cX4_settle 3 = .ok (.istore_n 2, 1) := by decide +kernel
theorem dX4_settle_4 : decode cX4_settle 4 = .ok (.iload_n 2, 1) := by decide +kernel
theorem dX4_settle_5 : decode cX4_settle 5 = .ok (.ldc 133, 2) := by decide +kernel
theorem dX4_settle_7 : decode cX4_settle 7 = .ok (.if_icmp .ge 71, 3) := by decide +kernel
theorem dX4_settle_10 : decode cX4_settle 10 = .ok (.iload_n 1, 1) := by decide +kernel
theorem dX4_settle_11 : decode cX4_settle 11 = .ok (.aload_n 0, 1) := by decide +kernel
theorem dX4_settle_12 : decode cX4_settle 12 = .ok (.getfield 31, 3) := by decide +kernel
theorem dX4_settle_15 : decode cX4_settle 15 = .ok (.getfield 39, 3) := by decide +kernel
theorem dX4_settle_18 : decode cX4_settle 18 = .ok (.if_icmp .ge 60, 3) := by decide +kernel
theorem dX4_settle_21 : decode cX4_settle 21 = .ok (.aload_n 0, 1) := by decide +kernel
theorem dX4_settle_22 : decode cX4_settle 22 = .ok (.iload_n 1, 1) := by decide +kernel
theorem dX4_settle_23 : decode cX4_settle 23 = .ok (.iconst 1, 1) := by decide +kernel
theorem dX4_settle_24 : decode cX4_settle 24 = .ok (.isub, 1) := by decide +kernel
theorem dX4_settle_25 : decode cX4_settle 25 = .ok (.iload_n 1, 1) := by decide +kernel
theorem dX4_settle_26 : decode cX4_settle 26 = .ok (.invokevirtual 134, 3) := by decide +kernel
theorem dX4_settle_29 : decode cX4_settle 29 = .ok (.ifCond .eq 16, 3) := by decide +kernel
theorem dX4_settle_32 : decode cX4_settle 32 = .ok (.aload_n 0, 1) := by decide +kernel
theorem dX4_settle_33 : decode cX4_settle 33 = .ok (.iload_n 1, 1) := by decide +kernel
theorem dX4_settle_34 : decode cX4_settle 34 = .ok (.iconst 1, 1) := by decide +kernel
theorem dX4_settle_35 : decode cX4_settle 35 = .ok (.isub, 1) := by decide +kernel
theorem dX4_settle_36 : decode cX4_settle 36 = .ok (.iload_n 1, 1) := by decide +kernel
theorem dX4_settle_37 : decode cX4_settle 37 = .ok (.invokevirtual 137, 3) := by decide +kernel
theorem dX4_settle_40 : decode cX4_settle 40 = .ok (.iconst 0, 1) := by decide +kernel
theorem dX4_settle_41 : decode cX4_settle 41 = .ok (.istore_n 1, 1) := by decide +kernel
theorem dX4_settle_42 : decode cX4_settle 42 = .ok (.goto 30, 3) := by decide +kernel
theorem dX4_settle_45 : decode cX4_settle 45 = .ok (.aload_n 0, 1) := by decide +kernel
theorem dX4_settle_46 : decode cX4_settle 46 = .ok (.iload_n 1, 1) := by decide +kernel
theorem dX4_settle_47 : decode cX4_settle 47 = .ok (.iconst 1, 1) := by decide +kernel
theorem dX4_settle_48 : decode cX4_settle 48 = .ok (.iadd, 1) := by decide +kernel
theorem dX4_settle_49 : decode cX4_settle 49 = .ok (.iload_n 1, 1) := by decide +kernel
theorem dX4_settle_50 : decode cX4_settle 50 = .ok (.invokevirtual 134, 3) := by decide +kernel
theorem dX4_settle_53 : decode cX4_settle 53 = .ok (.ifCond .eq 16, 3) := by decide +kernel
theorem dX4_settle_56 : decode cX4_settle 56 = .ok (.aload_n 0, 1) := by decide +kernel
theorem dX4_settle_57 : decode cX4_settle 57 = .ok (.iload_n 1, 1) := by decide +kernel
theorem dX4_settle_58 : decode cX4_settle 58 = .ok (.iconst 1, 1) := by decide +kernel
theorem dX4_settle_59 : decode cX4_settle 59 = .ok (.iadd, 1) := by decide +kernel
theorem dX4_settle_60 : decode cX4_settle 60 = .ok (.iload_n 1, 1) := by decide +kernel
theorem dX4_settle_61 : decode cX4_settle 61 = .ok (.invokevirtual 137, 3) := by decide +kernel
theorem dX4_settle_64 : decode cX4_settle 64 = .ok (.iconst 0, 1) := by decide +kernel
theorem dX4_settle_65 : decode cX4_settle 65 = .ok (.istore_n 1, 1) := by decide +kernel
theorem dX4_settle_66 : decode cX4_settle 66 = .ok (.goto 6, 3) := by decide +kernel
theorem dX4_settle_69 : decode cX4_settle 69 = .ok (.iinc 1 1, 3) := by decide +kernel
theorem dX4_settle_72 : decode cX4_settle 72 = .ok (.iinc 2 1, 3) := by decide +kernel
theorem dX4_settle_75 : decode cX4_settle 75 = .ok (.goto (-71), 3) := by decide +kernel
theorem dX4_settle_78 : decode cX4_settle 78 = .ok (.return_, 1) := by decide +kernel
theorem dX4_slidesOnto_0 : decode cX4_slidesOnto 0 = .ok (.aload_n 0, 1) := by decide +kernel
theorem dX4_slidesOnto_1 : decode cX4_slidesOnto 1 = .ok (.iload_n 1, 1) := by decide +kernel
theorem dX4_slidesOnto_2 : decode cX4_slidesOnto 2 = .ok (.invokevirtual 69, 3) := by decide +kernel
theorem dX4_slidesOnto_5 : decode cX4_slidesOnto 5 = .ok (.aload_n 0, 1) := by decide +kernel
theorem dX4_slidesOnto_6 : decode cX4_slidesOnto 6 = .ok (.iload_n 2, 1) := by decide +kernel
theorem dX4_slidesOnto_7 : decode cX4_slidesOnto 7 = .ok (.invokevirtual 69, 3) := by decide +kernel
theorem dX4_slidesOnto_10 : decode cX4_slidesOnto 10 = .ok (.isub, 1) := by decide +kernel
theorem dX4_slidesOnto_11 : decode cX4_slidesOnto 11 = .ok (.iconst 3, 1) := by decide +kernel
theorem dX4_slidesOnto_12 : decode cX4_slidesOnto 12 = .ok (.if_icmp .le 30, 3) := by decide +kernel
theorem dX4_slidesOnto_15 : decode cX4_slidesOnto 15 = .ok (.aload_n 0, 1) := by decide +kernel
theorem dX4_slidesOnto_16 : decode cX4_slidesOnto 16 = .ok (.iload_n 1, 1) := by decide +kernel
theorem dX4_slidesOnto_17 : decode cX4_slidesOnto 17 = .ok (.invokevirtual 127, 3) := by decide +kernel
theorem dX4_slidesOnto_20 : decode cX4_slidesOnto 20 = .ok (.ifCond .ne 22, 3) := by decide +kernel
theorem dX4_slidesOnto_23 : decode cX4_slidesOnto 23 = .ok (.aload_n 0, 1) := by decide +kernel
theorem dX4_slidesOnto_24 : decode cX4_slidesOnto 24 = .ok (.getfield 31, 3) := by decide +kernel
theorem dX4_slidesOnto_27 : decode cX4_slidesOnto 27 = .ok (.aload_n 0, 1) := by decide +kernel
theorem dX4_slidesOnto_28 : decode cX4_slidesOnto 28 = .ok (.iload_n 1, 1) := by decide +kernel
theorem dX4_slidesOnto_29 : decode cX4_slidesOnto 29 = .ok (.invokevirtual 114, 3) := by decide +kernel
theorem dX4_slidesOnto_32 : decode cX4_slidesOnto 32 = .ok (.invokevirtual 141, 3) := by decide +kernel
theorem dX4_slidesOnto_35 : decode cX4_slidesOnto 35 = .ok (.ifCond .ne 7, 3) := by decide +kernel
theorem dX4_slidesOnto_38 : decode cX4_slidesOnto 38 = .ok (.iconst 1, 1) := by decide +kernel
theorem dX4_slidesOnto_39 : decode cX4_slidesOnto 39 = .ok (.goto 4, 3) := by decide +kernel
theorem dX4_slidesOnto_42 : decode cX4_slidesOnto 42 = .ok (.iconst 0, 1) := by decide +kernel
theorem dX4_slidesOnto_43 : decode cX4_slidesOnto 43 = .ok (.ireturn, 1) := by decide +kernel
theorem dX4_moveTop_0 : decode cX4_moveTop 0 = .ok (.aload_n 0, 1) := by decide +kernel
theorem dX4_moveTop_1 : decode cX4_moveTop 1 = .ok (.iload_n 2, 1) := by decide +kernel
theorem dX4_moveTop_2 : decode cX4_moveTop 2 = .ok (.invokevirtual 69, 3) := by decide +kernel
theorem dX4_moveTop_5 : decode cX4_moveTop 5 = .ok (.istore_n 3, 1) := by decide +kernel
theorem dX4_moveTop_6 : decode cX4_moveTop 6 = .ok (.aload_n 0, 1) := by decide +kernel
theorem dX4_moveTop_7 : decode cX4_moveTop 7 = .ok (.iload_n 1, 1) := by decide +kernel
theorem dX4_moveTop_8 : decode cX4_moveTop 8 = .ok (.aload_n 0, 1) := by decide +kernel
theorem dX4_moveTop_9 : decode cX4_moveTop 9 = .ok (.iload_n 1, 1) := by decide +kernel
theorem dX4_moveTop_10 : decode cX4_moveTop 10 = .ok (.invokevirtual 69, 3) := by decide +kernel
theorem dX4_moveTop_13 : decode cX4_moveTop 13 = .ok (.iconst 1, 1) := by decide +kernel
theorem dX4_moveTop_14 : decode cX4_moveTop 14 = .ok (.isub, 1) := by decide +kernel
theorem dX4_moveTop_15 : decode cX4_moveTop 15 = .ok (.invokevirtual 73, 3) := by decide +kernel
theorem dX4_moveTop_18 : decode cX4_moveTop 18 = .ok (.istore 4, 2) := by decide +kernel
theorem dX4_moveTop_20 : decode cX4_moveTop 20 = .ok (.iload 4, 2) := by decide +kernel
theorem dX4_moveTop_22 : decode cX4_moveTop 22 = .ok (.ifCond .lt 76, 3) := by decide +kernel
theorem dX4_moveTop_25 : decode cX4_moveTop 25 = .ok (.iload 4, 2) := by decide +kernel
theorem dX4_moveTop_27 : decode cX4_moveTop 27 = .ok (.bipush 80, 2) := by decide +kernel
theorem dX4_moveTop_29 : decode cX4_moveTop 29 = .ok (.if_icmp .ge 69, 3) := by decide +kernel
theorem dX4_moveTop_32 : decode cX4_moveTop 32 = .ok (.iload_n 2, 1) := by decide +kernel
theorem dX4_moveTop_33 : decode cX4_moveTop 33 = .ok (.ifCond .lt 65, 3) := by decide +kernel
theorem dX4_moveTop_36 : decode cX4_moveTop 36 = .ok (.iload_n 2, 1) := by decide +kernel
theorem dX4_moveTop_37 : decode cX4_moveTop 37 = .ok (.bipush 8, 2) := by decide +kernel
theorem dX4_moveTop_39 : decode cX4_moveTop 39 = .ok (.if_icmp .ge 59, 3) := by decide +kernel
theorem dX4_moveTop_42 : decode cX4_moveTop 42 = .ok (.iload_n 3, 1) := by decide +kernel
theorem dX4_moveTop_43 : decode cX4_moveTop 43 = .ok (.bipush 10, 2) := by decide +kernel
theorem dX4_moveTop_45 : decode cX4_moveTop 45 = .ok (.if_icmp .ge 53, 3) := by decide +kernel
theorem dX4_moveTop_48 : decode cX4_moveTop 48 = .ok (.aload_n 0, 1) := by decide +kernel
theorem dX4_moveTop_49 : decode cX4_moveTop 49 = .ok (.getfield 15, 3) := by decide +kernel
theorem dX4_moveTop_52 : decode cX4_moveTop 52 = .ok (.iload_n 1, 1) := by decide +kernel
theorem dX4_moveTop_53 : decode cX4_moveTop 53 = .ok (.dup2, 1) := by decide +kernel
theorem dX4_moveTop_54 : decode cX4_moveTop 54 = .ok (.iaload, 1) := by decide +kernel
theorem dX4_moveTop_55 : decode cX4_moveTop 55 = .ok (.iconst 1, 1) := by decide +kernel
theorem dX4_moveTop_56 : decode cX4_moveTop 56 = .ok (.isub, 1) := by decide +kernel
theorem dX4_moveTop_57 : decode cX4_moveTop 57 = .ok (.iastore, 1) := by decide +kernel
theorem dX4_moveTop_58 : decode cX4_moveTop 58 = .ok (.aload_n 0, 1) := by decide +kernel
theorem dX4_moveTop_59 : decode cX4_moveTop 59 = .ok (.getfield 9, 3) := by decide +kernel
theorem dX4_moveTop_62 : decode cX4_moveTop 62 = .ok (.iload_n 2, 1) := by decide +kernel
theorem dX4_moveTop_63 : decode cX4_moveTop 63 = .ok (.bipush 10, 2) := by decide +kernel
theorem dX4_moveTop_65 : decode cX4_moveTop 65 = .ok (.imul, 1) := by decide +kernel
theorem dX4_moveTop_66 : decode cX4_moveTop 66 = .ok (.iload_n 3, 1) := by decide +kernel
theorem dX4_moveTop_67 : decode cX4_moveTop 67 = .ok (.iadd, 1) := by decide +kernel
theorem dX4_moveTop_68 : decode cX4_moveTop 68 = .ok (.iload 4, 2) := by decide +kernel
theorem dX4_moveTop_70 : decode cX4_moveTop 70 = .ok (.iastore, 1) := by decide +kernel
theorem dX4_moveTop_71 : decode cX4_moveTop 71 = .ok (.aload_n 0, 1) := by decide +kernel
theorem dX4_moveTop_72 : decode cX4_moveTop 72 = .ok (.getfield 15, 3) := by decide +kernel
theorem dX4_moveTop_75 : decode cX4_moveTop 75 = .ok (.iload_n 2, 1) := by decide +kernel
theorem dX4_moveTop_76 : decode cX4_moveTop 76 = .ok (.iload_n 3, 1) := by decide +kernel
theorem dX4_moveTop_77 : decode cX4_moveTop 77 = .ok (.iconst 1, 1) := by decide +kernel
theorem dX4_moveTop_78 : decode cX4_moveTop 78 = .ok (.iadd, 1) := by decide +kernel
theorem dX4_moveTop_79 : decode cX4_moveTop 79 = .ok (.iastore, 1) := by decide +kernel
theorem dX4_moveTop_80 : decode cX4_moveTop 80 = .ok (.aload_n 0, 1) := by decide +kernel
theorem dX4_moveTop_81 : decode cX4_moveTop 81 = .ok (.getfield 18, 3) := by decide +kernel
theorem dX4_moveTop_84 : decode cX4_moveTop 84 = .ok (.iload 4, 2) := by decide +kernel
theorem dX4_moveTop_86 : decode cX4_moveTop 86 = .ok (.iconst 1, 1) := by decide +kernel
theorem dX4_moveTop_87 : decode cX4_moveTop 87 = .ok (.bastore, 1) := by decide +kernel
theorem dX4_moveTop_88 : decode cX4_moveTop 88 = .ok (.aload_n 0, 1) := by decide +kernel
theorem dX4_moveTop_89 : decode cX4_moveTop 89 = .ok (.dup, 1) := by decide +kernel
theorem dX4_moveTop_90 : decode cX4_moveTop 90 = .ok (.getfield 57, 3) := by decide +kernel
theorem dX4_moveTop_93 : decode cX4_moveTop 93 = .ok (.iconst 1, 1) := by decide +kernel
theorem dX4_moveTop_94 : decode cX4_moveTop 94 = .ok (.iadd, 1) := by decide +kernel
theorem dX4_moveTop_95 : decode cX4_moveTop 95 = .ok (.putfield 57, 3) := by decide +kernel
theorem dX4_moveTop_98 : decode cX4_moveTop 98 = .ok (.return_, 1) := by decide +kernel
theorem dX4_cushionAt_0 : decode cX4_cushionAt 0 = .ok (.iload_n 1, 1) := by decide +kernel
theorem dX4_cushionAt_1 : decode cX4_cushionAt 1 = .ok (.ifCond .lt 19, 3) := by decide +kernel
theorem dX4_cushionAt_4 : decode cX4_cushionAt 4 = .ok (.iload_n 1, 1) := by decide +kernel
theorem dX4_cushionAt_5 : decode cX4_cushionAt 5 = .ok (.bipush 8, 2) := by decide +kernel
theorem dX4_cushionAt_7 : decode cX4_cushionAt 7 = .ok (.if_icmp .ge 13, 3) := by decide +kernel
theorem dX4_cushionAt_10 : decode cX4_cushionAt 10 = .ok (.iload_n 2, 1) := by decide +kernel
theorem dX4_cushionAt_11 : decode cX4_cushionAt 11 = .ok (.ifCond .lt 9, 3) := by decide +kernel
theorem dX4_cushionAt_14 : decode cX4_cushionAt 14 = .ok (.iload_n 2, 1) := by decide +kernel
theorem dX4_cushionAt_15 : decode cX4_cushionAt 15 = .ok (.bipush 10, 2) := by decide +kernel
theorem dX4_cushionAt_17 : decode cX4_cushionAt 17 = .ok (.if_icmp .lt 5, 3) := by decide +kernel
theorem dX4_cushionAt_20 : decode cX4_cushionAt 20 = .ok (.iconst (-1), 1) := by decide +kernel
theorem dX4_cushionAt_21 : decode cX4_cushionAt 21 = .ok (.ireturn, 1) := by decide +kernel
theorem dX4_cushionAt_22 : decode cX4_cushionAt 22 = .ok (.aload_n 0, 1) := by decide +kernel
theorem dX4_cushionAt_23 : decode cX4_cushionAt 23 = .ok (.getfield 9, 3) := by decide +kernel
theorem dX4_cushionAt_26 : decode cX4_cushionAt 26 = .ok (.iload_n 1, 1) := by decide +kernel
theorem dX4_cushionAt_27 : decode cX4_cushionAt 27 = .ok (.bipush 10, 2) := by decide +kernel
theorem dX4_cushionAt_29 : decode cX4_cushionAt 29 = .ok (.imul, 1) := by decide +kernel
theorem dX4_cushionAt_30 : decode cX4_cushionAt 30 = .ok (.iload_n 2, 1) := by decide +kernel
theorem dX4_cushionAt_31 : decode cX4_cushionAt 31 = .ok (.iadd, 1) := by decide +kernel
theorem dX4_cushionAt_32 : decode cX4_cushionAt 32 = .ok (.iaload, 1) := by decide +kernel
theorem dX4_cushionAt_33 : decode cX4_cushionAt 33 = .ok (.ireturn, 1) := by decide +kernel
theorem dX5_init_0 : decode cX5_init 0 = .ok (.aload_n 0, 1) := by decide +kernel
theorem dX5_init_1 : decode cX5_init 1 = .ok (.invokespecial 3, 3) := by decide +kernel
theorem dX5_init_4 : decode cX5_init 4 = .ok (.aload_n 0, 1) := by decide +kernel
theorem dX5_init_5 : decode cX5_init 5 = .ok (.sipush 2000, 3) := by decide +kernel
theorem dX5_init_8 : decode cX5_init 8 = .ok (.newarray .byte, 2) := by decide +kernel
theorem dX5_init_10 : decode cX5_init 10 = .ok (.putfield 9, 3) := by decide +kernel
theorem dX5_init_13 : decode cX5_init 13 = .ok (.return_, 1) := by decide +kernel
theorem dX5_append_0 : decode cX5_append 0 = .ok (.bipush 24, 2) := by decide +kernel
theorem dX5_append_2 : decode cX5_append 2 = .ok (.istore_n 2, 1) := by decide +kernel
theorem dX5_append_3 : decode cX5_append 3 = .ok (.iload_n 2, 1) := by decide +kernel
theorem dX5_append_4 : decode cX5_append 4 = .ok (.ifCond .lt 49, 3) := by decide +kernel
theorem dX5_append_7 : decode cX5_append 7 = .ok (.aload_n 0, 1) := by decide +kernel
theorem dX5_append_8 : decode cX5_append 8 = .ok (.getfield 15, 3) := by decide +kernel
theorem dX5_append_11 : decode cX5_append 11 = .ok (.ifCond .lt 36, 3) := by decide +kernel
theorem dX5_append_14 : decode cX5_append 14 = .ok (.aload_n 0, 1) := by decide +kernel
theorem dX5_append_15 : decode cX5_append 15 = .ok (.getfield 15, 3) := by decide +kernel
theorem dX5_append_18 : decode cX5_append 18 = .ok (.sipush 2000, 3) := by decide +kernel
theorem dX5_append_21 : decode cX5_append 21 = .ok (.if_icmp .ge 26, 3) := by decide +kernel
theorem dX5_append_24 : decode cX5_append 24 = .ok (.aload_n 0, 1) := by decide +kernel
theorem dX5_append_25 : decode cX5_append 25 = .ok (.getfield 9, 3) := by decide +kernel
theorem dX5_append_28 : decode cX5_append 28 = .ok (.aload_n 0, 1) := by decide +kernel
theorem dX5_append_29 : decode cX5_append 29 = .ok (.getfield 15, 3) := by decide +kernel
theorem dX5_append_32 : decode cX5_append 32 = .ok (.iload_n 1, 1) := by decide +kernel
theorem dX5_append_33 : decode cX5_append 33 = .ok (.iload_n 2, 1) := by decide +kernel
theorem dX5_append_34 : decode cX5_append 34 = .ok (.iushr, 1) := by decide +kernel
theorem dX5_append_35 : decode cX5_append 35 = .ok (.i2b, 1) := by decide +kernel
theorem dX5_append_36 : decode cX5_append 36 = .ok (.bastore, 1) := by decide +kernel
theorem dX5_append_37 : decode cX5_append 37 = .ok (.aload_n 0, 1) := by decide +kernel
theorem dX5_append_38 : decode cX5_append 38 = .ok (.dup, 1) := by decide +kernel
theorem dX5_append_39 : decode cX5_append 39 = .ok (.getfield 15, 3) := by decide +kernel
theorem dX5_append_42 : decode cX5_append 42 = .ok (.iconst 1, 1) := by decide +kernel
theorem dX5_append_43 : decode cX5_append 43 = .ok (.iadd, 1) := by decide +kernel
theorem dX5_append_44 : decode cX5_append 44 = .ok (.putfield 15, 3) := by decide +kernel
theorem dX5_append_47 : decode cX5_append 47 = .ok (.iinc 2 (-8), 3) := by decide +kernel
theorem dX5_append_50 : decode cX5_append 50 = .ok (.goto (-47), 3) := by decide +kernel
theorem dX5_append_53 : decode cX5_append 53 = .ok (.return_, 1) := by decide +kernel
theorem dX5_byteAt_0 : decode cX5_byteAt 0 = .ok (.iload_n 1, 1) := by decide +kernel
theorem dX5_byteAt_1 : decode cX5_byteAt 1 = .ok (.ifCond .lt 18, 3) := by decide +kernel
theorem dX5_byteAt_4 : decode cX5_byteAt 4 = .ok (.iload_n 1, 1) := by decide +kernel
theorem dX5_byteAt_5 : decode cX5_byteAt 5 = .ok (.aload_n 0, 1) := by decide +kernel
theorem dX5_byteAt_6 : decode cX5_byteAt 6 = .ok (.getfield 15, 3) := by decide +kernel
theorem dX5_byteAt_9 : decode cX5_byteAt 9 = .ok (.if_icmp .ge 10, 3) := by decide +kernel
theorem dX5_byteAt_12 : decode cX5_byteAt 12 = .ok (.iload_n 1, 1) := by decide +kernel
theorem dX5_byteAt_13 : decode cX5_byteAt 13 = .ok (.sipush 2000, 3) := by decide +kernel
theorem dX5_byteAt_16 : decode cX5_byteAt 16 = .ok (.if_icmp .lt 5, 3) := by decide +kernel
theorem dX5_byteAt_19 : decode cX5_byteAt 19 = .ok (.iconst (-1), 1) := by decide +kernel
theorem dX5_byteAt_20 : decode cX5_byteAt 20 = .ok (.ireturn, 1) := by decide +kernel
theorem dX5_byteAt_21 : decode cX5_byteAt 21 = .ok (.aload_n 0, 1) := by decide +kernel
theorem dX5_byteAt_22 : decode cX5_byteAt 22 = .ok (.getfield 9, 3) := by decide +kernel
theorem dX5_byteAt_25 : decode cX5_byteAt 25 = .ok (.iload_n 1, 1) := by decide +kernel
theorem dX5_byteAt_26 : decode cX5_byteAt 26 = .ok (.baload, 1) := by decide +kernel
theorem dX5_byteAt_27 : decode cX5_byteAt 27 = .ok (.sipush 255, 3) := by decide +kernel
theorem dX5_byteAt_30 : decode cX5_byteAt 30 = .ok (.iand, 1) := by decide +kernel
theorem dX5_byteAt_31 : decode cX5_byteAt 31 = .ok (.ireturn, 1) := by decide +kernel
theorem dX6_init_0 : decode cX6_init 0 = .ok (.aload_n 0, 1) := by decide +kernel
theorem dX6_init_1 : decode cX6_init 1 = .ok (.invokespecial 3, 3) := by decide +kernel
theorem dX6_init_4 : decode cX6_init 4 = .ok (.aload_n 0, 1) := by decide +kernel
theorem dX6_init_5 : decode cX6_init 5 = .ok (.sipush 401, 3) := by decide +kernel
theorem dX6_init_8 : decode cX6_init 8 = .ok (.newarray .int, 2) := by decide +kernel
theorem dX6_init_10 : decode cX6_init 10 = .ok (.putfield 9, 3) := by decide +kernel
theorem dX6_init_13 : decode cX6_init 13 = .ok (.aload_n 0, 1) := by decide +kernel
theorem dX6_init_14 : decode cX6_init 14 = .ok (.sipush 401, 3) := by decide +kernel
theorem dX6_init_17 : decode cX6_init 17 = .ok (.newarray .int, 2) := by decide +kernel
theorem dX6_init_19 : decode cX6_init 19 = .ok (.putfield 15, 3) := by decide +kernel
theorem dX6_init_22 : decode cX6_init 22 = .ok (.aload_n 0, 1) := by decide +kernel
theorem dX6_init_23 : decode cX6_init 23 = .ok (.sipush 401, 3) := by decide +kernel
theorem dX6_init_26 : decode cX6_init 26 = .ok (.newarray .int, 2) := by decide +kernel
theorem dX6_init_28 : decode cX6_init 28 = .ok (.putfield 18, 3) := by decide +kernel
theorem dX6_init_31 : decode cX6_init 31 = .ok (.aload_n 0, 1) := by decide +kernel
theorem dX6_init_32 : decode cX6_init 32 = .ok (.sipush 401, 3) := by decide +kernel
theorem dX6_init_35 : decode cX6_init 35 = .ok (.newarray .long, 2) := by decide +kernel
theorem dX6_init_37 : decode cX6_init 37 = .ok (.putfield 21, 3) := by decide +kernel
theorem dX6_init_40 : decode cX6_init 40 = .ok (.aload_n 0, 1) := by decide +kernel
theorem dX6_init_41 : decode cX6_init 41 = .ok (.aload_n 1, 1) := by decide +kernel
theorem dX6_init_42 : decode cX6_init 42 = .ok (.putfield 25, 3) := by decide +kernel
theorem dX6_init_45 : decode cX6_init 45 = .ok (.return_, 1) := by decide +kernel
theorem dX6_readAll_0 : decode cX6_readAll 0 = .ok (.aload_n 0, 1) := by decide +kernel
theorem dX6_readAll_1 : decode cX6_readAll 1 = .ok (.iconst 0, 1) := by decide +kernel
theorem dX6_readAll_2 : decode cX6_readAll 2 = .ok (.putfield 29, 3) := by decide +kernel
theorem dX6_readAll_5 : decode cX6_readAll 5 = .ok (.aload_n 0, 1) := by decide +kernel
theorem dX6_readAll_6 : decode cX6_readAll 6 = .ok (.iconst 0, 1) := by decide +kernel
theorem dX6_readAll_7 : decode cX6_readAll 7 = .ok (.putfield 33, 3) := by decide +kernel
theorem dX6_readAll_10 : decode cX6_readAll 10 = .ok (.bipush 34, 2) := by decide +kernel
theorem dX6_readAll_12 : decode cX6_readAll 12 = .ok (.istore_n 1, 1) := by decide +kernel
theorem dX6_readAll_13 : decode cX6_readAll 13 = .ok (.aload_n 0, 1) := by decide +kernel
theorem dX6_readAll_14 : decode cX6_readAll 14 = .ok (.getfield 33, 3) := by decide +kernel
theorem dX6_readAll_17 : decode cX6_readAll 17 = .ok (.sipush 400, 3) := by decide +kernel
theorem dX6_readAll_20 : decode cX6_readAll 20 = .ok (.if_icmp .gt 71, 3) := by decide +kernel
theorem dX6_readAll_23 : decode cX6_readAll 23 = .ok (.iload_n 1, 1) := by decide +kernel
theorem dX6_readAll_24 : decode cX6_readAll 24 = .ok (.bipush 47, 2) := by decide +kernel
theorem dX6_readAll_26 : decode cX6_readAll 26 = .ok (.if_icmp .eq 65, 3) := by decide +kernel
theorem dX6_readAll_29 : decode cX6_readAll 29 = .ok (.iload_n 1, 1) := by decide +kernel
theorem dX6_readAll_30 : decode cX6_readAll 30 = .ok (.bipush 48, 2) := by decide +kernel
theorem dX6_readAll_32 : decode cX6_readAll 32 = .ok (.if_icmp .eq 59, 3) := by decide +kernel
theorem dX6_readAll_35 : decode cX6_readAll 35 = .ok (.aload_n 0, 1) := by decide +kernel
theorem dX6_readAll_36 : decode cX6_readAll 36 = .ok (.invokevirtual 38, 3) := by decide +kernel
theorem dX6_readAll_39 : decode cX6_readAll 39 = .ok (.aload_n 0, 1) := by decide +kernel
theorem dX6_readAll_40 : decode cX6_readAll 40 = .ok (.getfield 15, 3) := by decide +kernel
theorem dX6_readAll_43 : decode cX6_readAll 43 = .ok (.aload_n 0, 1) := by decide +kernel
theorem dX6_readAll_44 : decode cX6_readAll 44 = .ok (.getfield 33, 3) := by decide +kernel
theorem dX6_readAll_47 : decode cX6_readAll 47 = .ok (.aload_n 0, 1) := by decide +kernel
theorem dX6_readAll_48 : decode cX6_readAll 48 = .ok (.getfield 29, 3) := by decide +kernel
theorem dX6_readAll_51 : decode cX6_readAll 51 = .ok (.iastore, 1) := by decide +kernel
theorem dX6_readAll_52 : decode cX6_readAll 52 = .ok (.aload_n 0, 1) := by decide +kernel
theorem dX6_readAll_53 : decode cX6_readAll 53 = .ok (.aload_n 0, 1) := by decide +kernel
theorem dX6_readAll_54 : decode cX6_readAll 54 = .ok (.getfield 25, 3) := by decide +kernel
theorem dX6_readAll_57 : decode cX6_readAll 57 = .ok (.aload_n 0, 1) := by decide +kernel
theorem dX6_readAll_58 : decode cX6_readAll 58 = .ok (.getfield 29, 3) := by decide +kernel
theorem dX6_readAll_61 : decode cX6_readAll 61 = .ok (.invokevirtual 41, 3) := by decide +kernel
theorem dX6_readAll_64 : decode cX6_readAll 64 = .ok (.invokevirtual 47, 3) := by decide +kernel
theorem dX6_readAll_67 : decode cX6_readAll 67 = .ok (.istore_n 1, 1) := by decide +kernel
theorem dX6_readAll_68 : decode cX6_readAll 68 = .ok (.aload_n 0, 1) := by decide +kernel
theorem dX6_readAll_69 : decode cX6_readAll 69 = .ok (.getfield 9, 3) := by decide +kernel
theorem dX6_readAll_72 : decode cX6_readAll 72 = .ok (.aload_n 0, 1) := by decide +kernel
theorem dX6_readAll_73 : decode cX6_readAll 73 = .ok (.getfield 33, 3) := by decide +kernel
theorem dX6_readAll_76 : decode cX6_readAll 76 = .ok (.iload_n 1, 1) := by decide +kernel
theorem dX6_readAll_77 : decode cX6_readAll 77 = .ok (.iastore, 1) := by decide +kernel
theorem dX6_readAll_78 : decode cX6_readAll 78 = .ok (.aload_n 0, 1) := by decide +kernel
theorem dX6_readAll_79 : decode cX6_readAll 79 = .ok (.dup, 1) := by decide +kernel
theorem dX6_readAll_80 : decode cX6_readAll 80 = .ok (.getfield 33, 3) := by decide +kernel
theorem dX6_readAll_83 : decode cX6_readAll 83 = .ok (.iconst 1, 1) := by decide +kernel
theorem dX6_readAll_84 : decode cX6_readAll 84 = .ok (.iadd, 1) := by decide +kernel
theorem dX6_readAll_85 : decode cX6_readAll 85 = .ok (.putfield 33, 3) := by decide +kernel
theorem dX6_readAll_88 : decode cX6_readAll 88 = .ok (.goto (-75), 3) := by decide +kernel
theorem dX6_readAll_91 : decode cX6_readAll 91 = .ok (.return_, 1) := by decide +kernel
theorem dX6_readToken_0 : decode cX6_readToken 0 = .ok (.iload_n 1, 1) := by decide +kernel
theorem dX6_readToken_1 : decode cX6_readToken 1 = .ok (.iconst (-1), 1) := by decide +kernel
theorem dX6_readToken_2 : decode cX6_readToken 2 = .ok (.if_icmp .ne 6, 3) := by decide +kernel
theorem dX6_readToken_5 : decode cX6_readToken 5 = .ok (.bipush 47, 2) := by decide +kernel
theorem dX6_readToken_7 : decode cX6_readToken 7 = .ok (.ireturn, 1) := by decide +kernel
theorem dX6_readToken_8 : decode cX6_readToken 8 = .ok (.aload_n 0, 1) := by decide +kernel
theorem dX6_readToken_9 : decode cX6_readToken 9 = .ok (.getfield 33, 3) := by decide +kernel
theorem dX6_readToken_12 : decode cX6_readToken 12 = .ok (.sipush 400, 3) := by decide +kernel
theorem dX6_readToken_15 : decode cX6_readToken 15 = .ok (.if_icmp .lt 6, 3) := by decide +kernel
theorem dX6_readToken_18 : decode cX6_readToken 18 = .ok (.bipush 48, 2) := by decide +kernel
theorem dX6_readToken_20 : decode cX6_readToken 20 = .ok (.ireturn, 1) := by decide +kernel
theorem dX6_readToken_21 : decode cX6_readToken 21 = .ok (.iload_n 1, 1) := by decide +kernel
theorem dX6_readToken_22 : decode cX6_readToken 22 = .ok (.invokestatic 50, 3) := by decide +kernel
theorem dX6_readToken_25 : decode cX6_readToken 25 = .ok (.ifCond .eq 8, 3) := by decide +kernel
theorem dX6_readToken_28 : decode cX6_readToken 28 = .ok (.aload_n 0, 1) := by decide +kernel
theorem dX6_readToken_29 : decode cX6_readToken 29 = .ok (.invokevirtual 54, 3) := by decide +kernel
theorem dX6_readToken_32 : decode cX6_readToken 32 = .ok (.ireturn, 1) := by decide +kernel
theorem dX6_readToken_33 : decode cX6_readToken 33 = .ok (.iload_n 1, 1) := by decide +kernel
theorem dX6_readToken_34 : decode cX6_readToken 34 = .ok (.invokestatic 58, 3) := by decide +kernel
theorem dX6_readToken_37 : decode cX6_readToken 37 = .ok (.ifCond .eq 8, 3) := by decide +kernel
theorem dX6_readToken_40 : decode cX6_readToken 40 = .ok (.aload_n 0, 1) := by decide +kernel
theorem dX6_readToken_41 : decode cX6_readToken 41 = .ok (.invokevirtual 61, 3) := by decide +kernel
theorem dX6_readToken_44 : decode cX6_readToken 44 = .ok (.ireturn, 1) := by decide +kernel
theorem dX6_readToken_45 : decode cX6_readToken 45 = .ok (.iload_n 1, 1) := by decide +kernel
theorem dX6_readToken_46 : decode cX6_readToken 46 = .ok (.aload_n 0, 1) := by decide +kernel
theorem dX6_readToken_47 : decode cX6_readToken 47 = .ok (.getfield 25, 3) := by decide +kernel
theorem dX6_readToken_50 : decode cX6_readToken 50 = .ok (.aload_n 0, 1) := by decide +kernel
theorem dX6_readToken_51 : decode cX6_readToken 51 = .ok (.getfield 29, 3) := by decide +kernel
theorem dX6_readToken_54 : decode cX6_readToken 54 = .ok (.iconst 1, 1) := by decide +kernel
theorem dX6_readToken_55 : decode cX6_readToken 55 = .ok (.iadd, 1) := by decide +kernel
theorem dX6_readToken_56 : decode cX6_readToken 56 = .ok (.invokevirtual 41, 3) := by decide +kernel
theorem dX6_readToken_59 : decode cX6_readToken 59 = .ok (.invokestatic 64, 3) := by decide +kernel
theorem dX6_readToken_62 : decode cX6_readToken 62 = .ok (.istore_n 2, 1) := by decide +kernel
theorem dX6_readToken_63 : decode cX6_readToken 63 = .ok (.aload_n 0, 1) := by decide +kernel
theorem dX6_readToken_64 : decode cX6_readToken 64 = .ok (.dup, 1) := by decide +kernel
theorem dX6_readToken_65 : decode cX6_readToken 65 = .ok (.getfield 29, 3) := by decide +kernel
theorem dX6_readToken_68 : decode cX6_readToken 68 = .ok (.iload_n 2, 1) := by decide +kernel
theorem dX6_readToken_69 : decode cX6_readToken 69 = .ok (.invokestatic 68, 3) := by decide +kernel
theorem dX6_readToken_72 : decode cX6_readToken 72 = .ok (.iadd, 1) := by decide +kernel
theorem dX6_readToken_73 : decode cX6_readToken 73 = .ok (.putfield 29, 3) := by decide +kernel
theorem dX6_readToken_76 : decode cX6_readToken 76 = .ok (.iload_n 2, 1) := by decide +kernel
theorem dX6_readToken_77 : decode cX6_readToken 77 = .ok (.ireturn, 1) := by decide +kernel
theorem dX6_skipBlanks_0 : decode cX6_skipBlanks 0 = .ok (.iconst 0, 1) := by decide +kernel
theorem dX6_skipBlanks_1 : decode cX6_skipBlanks 1 = .ok (.istore_n 1, 1) := by decide +kernel
theorem dX6_skipBlanks_2 : decode cX6_skipBlanks 2 = .ok (.iload_n 1, 1) := by decide +kernel
theorem dX6_skipBlanks_3 : decode cX6_skipBlanks 3 = .ok (.sipush 2000, 3) := by decide +kernel
theorem dX6_skipBlanks_6 : decode cX6_skipBlanks 6 = .ok (.if_icmp .ge 36, 3) := by decide +kernel
theorem dX6_skipBlanks_9 : decode cX6_skipBlanks 9 = .ok (.aload_n 0, 1) := by decide +kernel
theorem dX6_skipBlanks_10 : decode cX6_skipBlanks 10 = .ok (.getfield 25, 3) := by decide +kernel
theorem dX6_skipBlanks_13 : decode cX6_skipBlanks 13 = .ok (.aload_n 0, 1) := by decide +kernel
theorem dX6_skipBlanks_14 : decode cX6_skipBlanks 14 = .ok (.getfield 29, 3) := by decide +kernel
theorem dX6_skipBlanks_17 : decode cX6_skipBlanks 17 = .ok (.invokevirtual 41, 3) := by decide +kernel
theorem dX6_skipBlanks_20 : decode cX6_skipBlanks 20 = .ok (.invokestatic 71, 3) := by decide +kernel
theorem dX6_skipBlanks_23 : decode cX6_skipBlanks 23 = .ok (.ifCond .eq 19, 3) := by decide +kernel
theorem dX6_skipBlanks_26 : decode cX6_skipBlanks 26 = .ok (.aload_n 0, 1) := by decide +kernel
theorem dX6_skipBlanks_27 : decode cX6_skipBlanks 27 = .ok (.dup, 1) := by decide +kernel
theorem dX6_skipBlanks_28 : decode cX6_skipBlanks 28 = .ok (.getfield 29, 3) := by decide +kernel
theorem dX6_skipBlanks_31 : decode cX6_skipBlanks 31 = .ok (.iconst 1, 1) := by decide +kernel
theorem dX6_skipBlanks_32 : decode cX6_skipBlanks 32 = .ok (.iadd, 1) := by decide +kernel
theorem dX6_skipBlanks_33 : decode cX6_skipBlanks 33 = .ok (.putfield 29, 3) := by decide +kernel
theorem dX6_skipBlanks_36 : decode cX6_skipBlanks 36 = .ok (.iinc 1 1, 3) := by decide +kernel
theorem dX6_skipBlanks_39 : decode cX6_skipBlanks 39 = .ok (.goto (-37), 3) := by decide +kernel
theorem dX6_skipBlanks_42 : decode cX6_skipBlanks 42 = .ok (.return_, 1) := by decide +kernel
theorem dX6_readWord_0 : decode cX6_readWord 0 = .ok (.aload_n 0, 1) := by decide +kernel
theorem dX6_readWord_1 : decode cX6_readWord 1 = .ok (.getfield 29, 3) := by decide +kernel
theorem dX6_readWord_4 : decode cX6_readWord 4 = .ok (.istore_n 1, 1) := by decide +kernel
theorem dX6_readWord_5 : decode cX6_readWord 5 = .ok (.lconst 0, 1) := by decide +kernel
theorem dX6_readWord_6 : decode cX6_readWord 6 = .ok (.lstore_n 2, 1) := by decide +kernel
theorem dX6_readWord_7 : decode cX6_readWord 7 = .ok (.iconst 0, 1) := by decide +kernel
theorem dX6_readWord_8 : decode cX6_readWord 8 = .ok (.istore 4, 2) := by decide +kernel
theorem dX6_readWord_10 : decode cX6_readWord 10 = .ok (.iload 4, 2) := by decide +kernel
theorem dX6_readWord_12 : decode cX6_readWord 12 = .ok (.sipush 2000, 3) := by decide +kernel
theorem dX6_readWord_15 : decode cX6_readWord 15 = .ok (.if_icmp .ge 58, 3) := by decide +kernel
theorem dX6_readWord_18 : decode cX6_readWord 18 = .ok (.aload_n 0, 1) := by decide +kernel
theorem dX6_readWord_19 : decode cX6_readWord 19 = .ok (.getfield 25, 3) := by decide +kernel
theorem dX6_readWord_22 : decode cX6_readWord 22 = .ok (.aload_n 0, 1) := by decide +kernel
theorem dX6_readWord_23 : decode cX6_readWord 23 = .ok (.getfield 29, 3) := by decide +kernel
theorem dX6_readWord_26 : decode cX6_readWord 26 = .ok (.invokevirtual 41, 3) := by decide +kernel
theorem dX6_readWord_29 : decode cX6_readWord 29 = .ok (.invokestatic 74, 3) := by decide +kernel
theorem dX6_readWord_32 : decode cX6_readWord 32 = .ok (.ifCond .eq 41, 3) := by decide +kernel
theorem dX6_readWord_35 : decode cX6_readWord 35 = .ok (.lload_n 2, 1) := by decide +kernel
theorem dX6_readWord_36 : decode cX6_readWord 36 = .ok (.ldc2_w 77, 3) := by decide +kernel
theorem dX6_readWord_39 : decode cX6_readWord 39 = .ok (.lmul, 1) := by decide +kernel
theorem dX6_readWord_40 : decode cX6_readWord 40 = .ok (.aload_n 0, 1) := by decide +kernel
theorem dX6_readWord_41 : decode cX6_readWord 41 = .ok (.getfield 25, 3) := by decide +kernel
theorem dX6_readWord_44 : decode cX6_readWord 44 = .ok (.aload_n 0, 1) := by decide +kernel
theorem dX6_readWord_45 : decode cX6_readWord 45 = .ok (.getfield 29, 3) := by decide +kernel
theorem dX6_readWord_48 : decode cX6_readWord 48 = .ok (.invokevirtual 41, 3) := by decide +kernel
theorem dX6_readWord_51 : decode cX6_readWord 51 = .ok (.invokestatic 79, 3) := by decide +kernel
theorem dX6_readWord_54 : decode cX6_readWord 54 = .ok (.i2l, 1) := by decide +kernel
theorem dX6_readWord_55 : decode cX6_readWord 55 = .ok (.ladd, 1) := by decide +kernel
theorem dX6_readWord_56 : decode cX6_readWord 56 = .ok (.lstore_n 2, 1) := by decide +kernel
theorem dX6_readWord_57 : decode cX6_readWord 57 = .ok (.aload_n 0, 1) := by decide +kernel
theorem dX6_readWord_58 : decode cX6_readWord 58 = .ok (.dup, 1) := by decide +kernel
theorem dX6_readWord_59 : decode cX6_readWord 59 = .ok (.getfield 29, 3) := by decide +kernel
theorem dX6_readWord_62 : decode cX6_readWord 62 = .ok (.iconst 1, 1) := by decide +kernel
theorem dX6_readWord_63 : decode cX6_readWord 63 = .ok (.iadd, 1) := by decide +kernel
theorem dX6_readWord_64 : decode cX6_readWord 64 = .ok (.putfield 29, 3) := by decide +kernel
theorem dX6_readWord_67 : decode cX6_readWord 67 = .ok (.iinc 4 1, 3) := by decide +kernel
theorem dX6_readWord_70 : decode cX6_readWord 70 = .ok (.goto (-60), 3) := by decide +kernel
theorem dX6_readWord_73 : decode cX6_readWord 73 = .ok (.aload_n 0, 1) := by decide +kernel
theorem dX6_readWord_74 : decode cX6_readWord 74 = .ok (.getfield 21, 3) := by decide +kernel
theorem dX6_readWord_77 : decode cX6_readWord 77 = .ok (.aload_n 0, 1) := by decide +kernel
theorem dX6_readWord_78 : decode cX6_readWord 78 = .ok (.getfield 33, 3) := by decide +kernel
theorem dX6_readWord_81 : decode cX6_readWord 81 = .ok (.lload_n 2, 1) := by decide +kernel
theorem dX6_readWord_82 : decode cX6_readWord 82 = .ok (.lastore, 1) := by decide +kernel
theorem dX6_readWord_83 : decode cX6_readWord 83 = .ok (.aload_n 0, 1) := by decide +kernel
theorem dX6_readWord_84 : decode cX6_readWord 84 = .ok (.getfield 29, 3) := by decide +kernel
theorem dX6_readWord_87 : decode cX6_readWord 87 = .ok (.iload_n 1, 1) := by decide +kernel
theorem dX6_readWord_88 : decode cX6_readWord 88 = .ok (.isub, 1) := by decide +kernel
theorem dX6_readWord_89 : decode cX6_readWord 89 = .ok (.bipush 10, 2) := by decide +kernel
theorem dX6_readWord_91 : decode cX6_readWord 91 = .ok (.if_icmp .le 8, 3) := by decide +kernel
theorem dX6_readWord_94 : decode cX6_readWord 94 = .ok (.bipush 48, 2) := by decide +kernel
theorem dX6_readWord_96 : decode cX6_readWord 96 = .ok (.goto 17, 3) := by decide +kernel
theorem dX6_readWord_99 : decode cX6_readWord 99 = .ok (.aload_n 0, 1) := by decide +kernel
theorem dX6_readWord_100 : decode cX6_readWord 100 = .ok (.getfield 25, 3) := by decide +kernel
theorem dX6_readWord_103 : decode cX6_readWord 103 = .ok (.iload_n 1, 1) := by decide +kernel
theorem dX6_readWord_104 : decode cX6_readWord 104 = .ok (.aload_n 0, 1) := by decide +kernel
theorem dX6_readWord_105 : decode cX6_readWord 105 = .ok (.getfield 29, 3) := by decide +kernel
theorem dX6_readWord_108 : decode cX6_readWord 108 = .ok (.iload_n 1, 1) := by decide +kernel
theorem dX6_readWord_109 : decode cX6_readWord 109 = .ok (.isub, 1) := by decide +kernel
theorem dX6_readWord_110 : decode cX6_readWord 110 = .ok (.invokestatic 82, 3) := by decide +kernel
theorem dX6_readWord_113 : decode cX6_readWord 113 = .ok (.ireturn, 1) := by decide +kernel
theorem dX6_readNumber_0 : decode cX6_readNumber 0 = .ok (.aload_n 0, 1) := by decide +kernel
theorem dX6_readNumber_1 : decode cX6_readNumber 1 = .ok (.getfield 29, 3) := by decide +kernel
theorem dX6_readNumber_4 : decode cX6_readNumber 4 = .ok (.istore_n 1, 1) := by decide +kernel
theorem dX6_readNumber_5 : decode cX6_readNumber 5 = .ok (.iconst 0, 1) := by decide +kernel
theorem dX6_readNumber_6 : decode cX6_readNumber 6 = .ok (.istore_n 2, 1) := by decide +kernel
theorem dX6_readNumber_7 : decode cX6_readNumber 7 = .ok (.iconst 0, 1) := by decide +kernel
theorem dX6_readNumber_8 : decode cX6_readNumber 8 = .ok (.istore_n 3, 1) := by decide +kernel
theorem dX6_readNumber_9 : decode cX6_readNumber 9 = .ok (.iload_n 3, 1) := by decide +kernel
theorem dX6_readNumber_10 : decode cX6_readNumber 10 = .ok (.sipush 2000, 3) := by decide +kernel
theorem dX6_readNumber_13 : decode cX6_readNumber 13 = .ok (.if_icmp .ge 56, 3) := by decide +kernel
theorem dX6_readNumber_16 : decode cX6_readNumber 16 = .ok (.aload_n 0, 1) := by decide +kernel
theorem dX6_readNumber_17 : decode cX6_readNumber 17 = .ok (.getfield 25, 3) := by decide +kernel
theorem dX6_readNumber_20 : decode cX6_readNumber 20 = .ok (.aload_n 0, 1) := by decide +kernel
theorem dX6_readNumber_21 : decode cX6_readNumber 21 = .ok (.getfield 29, 3) := by decide +kernel
theorem dX6_readNumber_24 : decode cX6_readNumber 24 = .ok (.invokevirtual 41, 3) := by decide +kernel
theorem dX6_readNumber_27 : decode cX6_readNumber 27 = .ok (.invokestatic 58, 3) := by decide +kernel
theorem dX6_readNumber_30 : decode cX6_readNumber 30 = .ok (.ifCond .eq 39, 3) := by decide +kernel
theorem dX6_readNumber_33 : decode cX6_readNumber 33 = .ok (.iload_n 2, 1) := by decide +kernel
theorem dX6_readNumber_34 : decode cX6_readNumber 34 = .ok (.bipush 10, 2) := by decide +kernel
theorem dX6_readNumber_36 : decode cX6_readNumber 36 = .ok (.imul, 1) := by decide +kernel
theorem dX6_readNumber_37 : decode cX6_readNumber 37 = .ok (.aload_n 0, 1) := by decide +kernel
theorem dX6_readNumber_38 : decode cX6_readNumber 38 = .ok (.getfield 25, 3) := by decide +kernel
theorem dX6_readNumber_41 : decode cX6_readNumber 41 = .ok (.aload_n 0, 1) := by decide +kernel
theorem dX6_readNumber_42 : decode cX6_readNumber 42 = .ok (.getfield 29, 3) := by decide +kernel
theorem dX6_readNumber_45 : decode cX6_readNumber 45 = .ok (.invokevirtual 41, 3) := by decide +kernel
theorem dX6_readNumber_48 : decode cX6_readNumber 48 = .ok (.bipush 48, 2) := by decide +kernel
theorem dX6_readNumber_50 : decode cX6_readNumber 50 = .ok (.isub, 1) := by decide +kernel
theorem dX6_readNumber_51 : decode cX6_readNumber 51 = .ok (.iadd, 1) := by decide +kernel
theorem dX6_readNumber_52 : decode cX6_readNumber 52 = .ok (.istore_n 2, 1) := by decide +kernel
theorem dX6_readNumber_53 : decode cX6_readNumber 53 = .ok (.aload_n 0, 1) := by decide +kernel
theorem dX6_readNumber_54 : decode cX6_readNumber 54 = .ok (.dup, 1) := by decide +kernel
theorem dX6_readNumber_55 : decode cX6_readNumber 55 = .ok (.getfield 29, 3) := by decide +kernel
theorem dX6_readNumber_58 : decode cX6_readNumber 58 = .ok (.iconst 1, 1) := by decide +kernel
theorem dX6_readNumber_59 : decode cX6_readNumber 59 = .ok (.iadd, 1) := by decide +kernel
theorem dX6_readNumber_60 : decode cX6_readNumber 60 = .ok (.putfield 29, 3) := by decide +kernel
theorem dX6_readNumber_63 : decode cX6_readNumber 63 = .ok (.iinc 3 1, 3) := by decide +kernel
theorem dX6_readNumber_66 : decode cX6_readNumber 66 = .ok (.goto (-57), 3) := by decide +kernel
theorem dX6_readNumber_69 : decode cX6_readNumber 69 = .ok (.aload_n 0, 1) := by decide +kernel
theorem dX6_readNumber_70 : decode cX6_readNumber 70 = .ok (.getfield 18, 3) := by decide +kernel
theorem dX6_readNumber_73 : decode cX6_readNumber 73 = .ok (.aload_n 0, 1) := by decide +kernel
theorem dX6_readNumber_74 : decode cX6_readNumber 74 = .ok (.getfield 33, 3) := by decide +kernel
theorem dX6_readNumber_77 : decode cX6_readNumber 77 = .ok (.iload_n 2, 1) := by decide +kernel
theorem dX6_readNumber_78 : decode cX6_readNumber 78 = .ok (.iastore, 1) := by decide +kernel
theorem dX6_readNumber_79 : decode cX6_readNumber 79 = .ok (.aload_n 0, 1) := by decide +kernel
theorem dX6_readNumber_80 : decode cX6_readNumber 80 = .ok (.getfield 29, 3) := by decide +kernel
theorem dX6_readNumber_83 : decode cX6_readNumber 83 = .ok (.iload_n 1, 1) := by decide +kernel
theorem dX6_readNumber_84 : decode cX6_readNumber 84 = .ok (.isub, 1) := by decide +kernel
theorem dX6_readNumber_85 : decode cX6_readNumber 85 = .ok (.bipush 6, 2) := by decide +kernel
theorem dX6_readNumber_87 : decode cX6_readNumber 87 = .ok (.if_icmp .le 8, 3) := by decide +kernel
theorem dX6_readNumber_90 : decode cX6_readNumber 90 = .ok (.bipush 48, 2) := by decide +kernel
theorem dX6_readNumber_92 : decode cX6_readNumber 92 = .ok (.goto 5, 3) := by decide +kernel
theorem dX6_readNumber_95 : decode cX6_readNumber 95 = .ok (.bipush 45, 2) := by decide +kernel
theorem dX6_readNumber_97 : decode cX6_readNumber 97 = .ok (.ireturn, 1) := by decide +kernel
theorem dX6_numberOfSign_0 : decode cX6_numberOfSign 0 = .ok (.iload_n 0, 1) := by decide +kernel
theorem dX6_numberOfSign_1 : decode cX6_numberOfSign 1 = .ok (.invokestatic 58, 3) := by decide +kernel
theorem dX6_numberOfSign_4 : decode cX6_numberOfSign 4 = .ok (.ifCond .eq 12, 3) := by decide +kernel
theorem dX6_numberOfSign_7 : decode cX6_numberOfSign 7 = .ok (.iload_n 0, 1) := by decide +kernel
theorem dX6_numberOfSign_8 : decode cX6_numberOfSign 8 = .ok (.bipush 48, 2) := by decide +kernel
theorem dX6_numberOfSign_10 : decode cX6_numberOfSign 10 = .ok (.isub, 1) := by decide +kernel
theorem dX6_numberOfSign_11 : decode cX6_numberOfSign 11 = .ok (.iconst 1, 1) := by decide +kernel
theorem dX6_numberOfSign_12 : decode cX6_numberOfSign 12 = .ok (.iadd, 1) := by decide +kernel
theorem dX6_numberOfSign_13 : decode cX6_numberOfSign 13 = .ok (.goto 10, 3) := by decide +kernel
theorem dX6_numberOfSign_16 : decode cX6_numberOfSign 16 = .ok (.iload_n 0, 1) := by decide +kernel
theorem dX6_numberOfSign_17 : decode cX6_numberOfSign 17 = .ok (.bipush 97, 2) := by decide +kernel
theorem dX6_numberOfSign_19 : decode cX6_numberOfSign 19 = .ok (.isub, 1) := by decide +kernel
theorem dX6_numberOfSign_20 : decode cX6_numberOfSign 20 = .ok (.bipush 11, 2) := by decide +kernel
theorem dX6_numberOfSign_22 : decode cX6_numberOfSign 22 = .ok (.iadd, 1) := by decide +kernel
theorem dX6_numberOfSign_23 : decode cX6_numberOfSign 23 = .ok (.ireturn, 1) := by decide +kernel
theorem dX6_isBlank_0 : decode cX6_isBlank 0 = .ok (.iload_n 0, 1) := by decide +kernel
theorem dX6_isBlank_1 : decode cX6_isBlank 1 = .ok (.bipush 32, 2) := by decide +kernel
theorem dX6_isBlank_3 : decode cX6_isBlank 3 = .ok (.if_icmp .eq 9, 3) := by decide +kernel
theorem dX6_isBlank_6 : decode cX6_isBlank 6 = .ok (.iload_n 0, 1) := by decide +kernel
theorem dX6_isBlank_7 : decode cX6_isBlank 7 = .ok (.bipush 10, 2) := by decide +kernel
theorem dX6_isBlank_9 : decode cX6_isBlank 9 = .ok (.if_icmp .ne 7, 3) := by decide +kernel
theorem dX6_isBlank_12 : decode cX6_isBlank 12 = .ok (.iconst 1, 1) := by decide +kernel
theorem dX6_isBlank_13 : decode cX6_isBlank 13 = .ok (.goto 4, 3) := by decide +kernel
theorem dX6_isBlank_16 : decode cX6_isBlank 16 = .ok (.iconst 0, 1) := by decide +kernel
theorem dX6_isBlank_17 : decode cX6_isBlank 17 = .ok (.ireturn, 1) := by decide +kernel
theorem dX6_isLetter_0 : decode cX6_isLetter 0 = .ok (.iload_n 0, 1) := by decide +kernel
theorem dX6_isLetter_1 : decode cX6_isLetter 1 = .ok (.bipush 97, 2) := by decide +kernel
theorem dX6_isLetter_3 : decode cX6_isLetter 3 = .ok (.if_icmp .lt 13, 3) := by decide +kernel
theorem dX6_isLetter_6 : decode cX6_isLetter 6 = .ok (.iload_n 0, 1) := by decide +kernel
theorem dX6_isLetter_7 : decode cX6_isLetter 7 = .ok (.bipush 122, 2) := by decide +kernel
theorem dX6_isLetter_9 : decode cX6_isLetter 9 = .ok (.if_icmp .gt 7, 3) := by decide +kernel
theorem dX6_isLetter_12 : decode cX6_isLetter 12 = .ok (.iconst 1, 1) := by decide +kernel
theorem dX6_isLetter_13 : decode cX6_isLetter 13 = .ok (.goto 4, 3) := by decide +kernel
theorem dX6_isLetter_16 : decode cX6_isLetter 16 = .ok (.iconst 0, 1) := by decide +kernel
theorem dX6_isLetter_17 : decode cX6_isLetter 17 = .ok (.ireturn, 1) := by decide +kernel
theorem dX6_isDigit_0 : decode cX6_isDigit 0 = .ok (.iload_n 0, 1) := by decide +kernel
theorem dX6_isDigit_1 : decode cX6_isDigit 1 = .ok (.bipush 48, 2) := by decide +kernel
theorem dX6_isDigit_3 : decode cX6_isDigit 3 = .ok (.if_icmp .lt 13, 3) := by decide +kernel
theorem dX6_isDigit_6 : decode cX6_isDigit 6 = .ok (.iload_n 0, 1) := by decide +kernel
theorem dX6_isDigit_7 : decode cX6_isDigit 7 = .ok (.bipush 57, 2) := by decide +kernel
theorem dX6_isDigit_9 : decode cX6_isDigit 9 = .ok (.if_icmp .gt 7, 3) := by decide +kernel
theorem dX6_isDigit_12 : decode cX6_isDigit 12 = .ok (.iconst 1, 1) := by decide +kernel
theorem dX6_isDigit_13 : decode cX6_isDigit 13 = .ok (.goto 4, 3) := by decide +kernel
theorem dX6_isDigit_16 : decode cX6_isDigit 16 = .ok (.iconst 0, 1) := by decide +kernel
theorem dX6_isDigit_17 : decode cX6_isDigit 17 = .ok (.ireturn, 1) := by decide +kernel
theorem dX6_isOfWord_0 : decode cX6_isOfWord 0 = .ok (.iload_n 0, 1) := by decide +kernel
theorem dX6_isOfWord_1 : decode cX6_isOfWord 1 = .ok (.invokestatic 50, 3) := by decide +kernel
theorem dX6_isOfWord_4 : decode cX6_isOfWord 4 = .ok (.ifCond .ne 10, 3) := by decide +kernel
theorem dX6_isOfWord_7 : decode cX6_isOfWord 7 = .ok (.iload_n 0, 1) := by decide +kernel
theorem dX6_isOfWord_8 : decode cX6_isOfWord 8 = .ok (.invokestatic 58, 3) := by decide +kernel
theorem dX6_isOfWord_11 : decode cX6_isOfWord 11 = .ok (.ifCond .eq 7, 3) := by decide +kernel
theorem dX6_isOfWord_14 : decode cX6_isOfWord 14 = .ok (.iconst 1, 1) := by decide +kernel
theorem dX6_isOfWord_15 : decode cX6_isOfWord 15 = .ok (.goto 4, 3) := by decide +kernel
theorem dX6_isOfWord_18 : decode cX6_isOfWord 18 = .ok (.iconst 0, 1) := by decide +kernel
theorem dX6_isOfWord_19 : decode cX6_isOfWord 19 = .ok (.ireturn, 1) := by decide +kernel
theorem dX7_init_0 : decode cX7_init 0 = .ok (.aload_n 0, 1) := by decide +kernel
theorem dX7_init_1 : decode cX7_init 1 = .ok (.invokespecial 3, 3) := by decide +kernel
theorem dX7_init_4 : decode cX7_init 4 = .ok (.aload_n 0, 1) := by decide +kernel
theorem dX7_init_5 : decode cX7_init 5 = .ok (.new 9, 3) := by decide +kernel
theorem dX7_init_8 : decode cX7_init 8 = .ok (.dup, 1) := by decide +kernel
theorem dX7_init_9 : decode cX7_init 9 = .ok (.invokespecial 11, 3) := by decide +kernel
theorem dX7_init_12 : decode cX7_init 12 = .ok (.putfield 12, 3) := by decide +kernel
theorem dX7_init_15 : decode cX7_init 15 = .ok (.aload_n 0, 1) := by decide +kernel
theorem dX7_init_16 : decode cX7_init 16 = .ok (.bipush 6, 2) := by decide +kernel
theorem dX7_init_18 : decode cX7_init 18 = .ok (.newarray .long, 2) := by decide +kernel
theorem dX7_init_20 : decode cX7_init 20 = .ok (.putfield 18, 3) := by decide +kernel
theorem dX7_init_23 : decode cX7_init 23 = .ok (.aload_n 0, 1) := by decide +kernel
theorem dX7_init_24 : decode cX7_init 24 = .ok (.bipush 6, 2) := by decide +kernel
theorem dX7_init_26 : decode cX7_init 26 = .ok (.newarray .int, 2) := by decide +kernel
theorem dX7_init_28 : decode cX7_init 28 = .ok (.putfield 22, 3) := by decide +kernel
theorem dX7_init_31 : decode cX7_init 31 = .ok (.aload_n 0, 1) := by decide +kernel
theorem dX7_init_32 : decode cX7_init 32 = .ok (.bipush 6, 2) := by decide +kernel
theorem dX7_init_34 : decode cX7_init 34 = .ok (.newarray .int, 2) := by decide +kernel
theorem dX7_init_36 : decode cX7_init 36 = .ok (.putfield 26, 3) := by decide +kernel
theorem dX7_init_39 : decode cX7_init 39 = .ok (.aload_n 0, 1) := by decide +kernel
theorem dX7_init_40 : decode cX7_init 40 = .ok (.bipush 24, 2) := by decide +kernel
theorem dX7_init_42 : decode cX7_init 42 = .ok (.newarray .boolean, 2) := by decide +kernel
theorem dX7_init_44 : decode cX7_init 44 = .ok (.putfield 29, 3) := by decide +kernel
theorem dX7_init_47 : decode cX7_init 47 = .ok (.aload_n 0, 1) := by decide +kernel
theorem dX7_init_48 : decode cX7_init 48 = .ok (.bipush 24, 2) := by decide +kernel
theorem dX7_init_50 : decode cX7_init 50 = .ok (.newarray .int, 2) := by decide +kernel
theorem dX7_init_52 : decode cX7_init 52 = .ok (.putfield 33, 3) := by decide +kernel
theorem dX7_init_55 : decode cX7_init 55 = .ok (.aload_n 0, 1) := by decide +kernel
theorem dX7_init_56 : decode cX7_init 56 = .ok (.bipush 24, 2) := by decide +kernel
theorem dX7_init_58 : decode cX7_init 58 = .ok (.newarray .int, 2) := by decide +kernel
theorem dX7_init_60 : decode cX7_init 60 = .ok (.putfield 36, 3) := by decide +kernel
theorem dX7_init_63 : decode cX7_init 63 = .ok (.aload_n 0, 1) := by decide +kernel
theorem dX7_init_64 : decode cX7_init 64 = .ok (.bipush 80, 2) := by decide +kernel
theorem dX7_init_66 : decode cX7_init 66 = .ok (.newarray .int, 2) := by decide +kernel
theorem dX7_init_68 : decode cX7_init 68 = .ok (.putfield 39, 3) := by decide +kernel
theorem dX7_init_71 : decode cX7_init 71 = .ok (.aload_n 0, 1) := by decide +kernel
theorem dX7_init_72 : decode cX7_init 72 = .ok (.bipush 80, 2) := by decide +kernel
theorem dX7_init_74 : decode cX7_init 74 = .ok (.newarray .boolean, 2) := by decide +kernel
theorem dX7_init_76 : decode cX7_init 76 = .ok (.putfield 42, 3) := by decide +kernel
theorem dX7_init_79 : decode cX7_init 79 = .ok (.aload_n 0, 1) := by decide +kernel
theorem dX7_init_80 : decode cX7_init 80 = .ok (.invokevirtual 45, 3) := by decide +kernel
theorem dX7_init_83 : decode cX7_init 83 = .ok (.return_, 1) := by decide +kernel
theorem dX7_clear_0 : decode cX7_clear 0 = .ok (.aload_n 0, 1) := by decide +kernel
theorem dX7_clear_1 : decode cX7_clear 1 = .ok (.iconst 4, 1) := by decide +kernel
theorem dX7_clear_2 : decode cX7_clear 2 = .ok (.bipush 6, 2) := by decide +kernel
theorem dX7_clear_4 : decode cX7_clear 4 = .ok (.invokevirtual 48, 3) := by decide +kernel
theorem dX7_clear_7 : decode cX7_clear 7 = .ok (.aload_n 0, 1) := by decide +kernel
theorem dX7_clear_8 : decode cX7_clear 8 = .ok (.iconst 0, 1) := by decide +kernel
theorem dX7_clear_9 : decode cX7_clear 9 = .ok (.putfield 52, 3) := by decide +kernel
theorem dX7_clear_12 : decode cX7_clear 12 = .ok (.aload_n 0, 1) := by decide +kernel
theorem dX7_clear_13 : decode cX7_clear 13 = .ok (.iconst 0, 1) := by decide +kernel
theorem dX7_clear_14 : decode cX7_clear 14 = .ok (.putfield 56, 3) := by decide +kernel
theorem dX7_clear_17 : decode cX7_clear 17 = .ok (.aload_n 0, 1) := by decide +kernel
theorem dX7_clear_18 : decode cX7_clear 18 = .ok (.getfield 39, 3) := by decide +kernel
theorem dX7_clear_21 : decode cX7_clear 21 = .ok (.iconst (-1), 1) := by decide +kernel
theorem dX7_clear_22 : decode cX7_clear 22 = .ok (.invokestatic 59, 3) := by decide +kernel
theorem dX7_clear_25 : decode cX7_clear 25 = .ok (.iconst 0, 1) := by decide +kernel
theorem dX7_clear_26 : decode cX7_clear 26 = .ok (.istore_n 1, 1) := by decide +kernel
theorem dX7_clear_27 : decode cX7_clear 27 = .ok (.iload_n 1, 1) := by decide +kernel
theorem dX7_clear_28 : decode cX7_clear 28 = .ok (.bipush 80, 2) := by decide +kernel
theorem dX7_clear_30 : decode cX7_clear 30 = .ok (.if_icmp .ge 16, 3) := by decide +kernel
theorem dX7_clear_33 : decode cX7_clear 33 = .ok (.aload_n 0, 1) := by decide +kernel
theorem dX7_clear_34 : decode cX7_clear 34 = .ok (.getfield 42, 3) := by decide +kernel
theorem dX7_clear_37 : decode cX7_clear 37 = .ok (.iload_n 1, 1) := by decide +kernel
theorem dX7_clear_38 : decode cX7_clear 38 = .ok (.iconst 0, 1) := by decide +kernel
theorem dX7_clear_39 : decode cX7_clear 39 = .ok (.bastore, 1) := by decide +kernel
theorem dX7_clear_40 : decode cX7_clear 40 = .ok (.iinc 1 1, 3) := by decide +kernel
theorem dX7_clear_43 : decode cX7_clear 43 = .ok (.goto (-16), 3) := by decide +kernel
theorem dX7_clear_46 : decode cX7_clear 46 = .ok (.aload_n 0, 1) := by decide +kernel
theorem dX7_clear_47 : decode cX7_clear 47 = .ok (.getfield 12, 3) := by decide +kernel
theorem dX7_clear_50 : decode cX7_clear 50 = .ok (.invokevirtual 65, 3) := by decide +kernel
theorem dX7_clear_53 : decode cX7_clear 53 = .ok (.return_, 1) := by decide +kernel
theorem dX7_resize_0 : decode cX7_resize 0 = .ok (.aload_n 0, 1) := by decide +kernel
theorem dX7_resize_1 : decode cX7_resize 1 = .ok (.iload_n 1, 1) := by decide +kernel
theorem dX7_resize_2 : decode cX7_resize 2 = .ok (.putfield 66, 3) := by decide +kernel
theorem dX7_resize_5 : decode cX7_resize 5 = .ok (.aload_n 0, 1) := by decide +kernel
theorem dX7_resize_6 : decode cX7_resize 6 = .ok (.iload_n 2, 1) := by decide +kernel
theorem dX7_resize_7 : decode cX7_resize 7 = .ok (.putfield 69, 3) := by decide +kernel
theorem dX7_resize_10 : decode cX7_resize 10 = .ok (.return_, 1) := by decide +kernel
theorem dX7_addEmpire_0 : decode cX7_addEmpire 0 = .ok (.aload_n 0, 1) := by decide +kernel
theorem dX7_addEmpire_1 : decode cX7_addEmpire 1 = .ok (.getfield 52, 3) := by decide +kernel
theorem dX7_addEmpire_4 : decode cX7_addEmpire 4 = .ok (.bipush 6, 2) := by decide +kernel
theorem dX7_addEmpire_6 : decode cX7_addEmpire 6 = .ok (.if_icmp .ge 44, 3) := by decide +kernel
theorem dX7_addEmpire_9 : decode cX7_addEmpire 9 = .ok (.aload_n 0, 1) := by decide +kernel
theorem dX7_addEmpire_10 : decode cX7_addEmpire 10 = .ok (.getfield 18, 3) := by decide +kernel
theorem dX7_addEmpire_13 : decode cX7_addEmpire 13 = .ok (.aload_n 0, 1) := by decide +kernel
theorem dX7_addEmpire_14 : decode cX7_addEmpire 14 = .ok (.getfield 52, 3) := by decide +kernel
theorem dX7_addEmpire_17 : decode cX7_addEmpire 17 = .ok (.lload_n 1, 1) := by decide +kernel
theorem dX7_addEmpire_18 : decode cX7_addEmpire 18 = .ok (.lastore, 1) := by decide +kernel
theorem dX7_addEmpire_19 : decode cX7_addEmpire 19 = .ok (.aload_n 0, 1) := by decide +kernel
theorem dX7_addEmpire_20 : decode cX7_addEmpire 20 = .ok (.getfield 22, 3) := by decide +kernel
theorem dX7_addEmpire_23 : decode cX7_addEmpire 23 = .ok (.aload_n 0, 1) := by decide +kernel
theorem dX7_addEmpire_24 : decode cX7_addEmpire 24 = .ok (.getfield 52, 3) := by decide +kernel
theorem dX7_addEmpire_27 : decode cX7_addEmpire 27 = .ok (.iload_n 3, 1) := by decide +kernel
theorem dX7_addEmpire_28 : decode cX7_addEmpire 28 = .ok (.iastore, 1) := by decide +kernel
theorem dX7_addEmpire_29 : decode cX7_addEmpire 29 = .ok (.aload_n 0, 1) := by decide +kernel
theorem dX7_addEmpire_30 : decode cX7_addEmpire 30 = .ok (.getfield 26, 3) := by decide +kernel
theorem dX7_addEmpire_33 : decode cX7_addEmpire 33 = .ok (.aload_n 0, 1) := by decide +kernel
theorem dX7_addEmpire_34 : decode cX7_addEmpire 34 = .ok (.getfield 52, 3) := by decide +kernel
theorem dX7_addEmpire_37 : decode cX7_addEmpire 37 = .ok (.iload 4, 2) := by decide +kernel
theorem dX7_addEmpire_39 : decode cX7_addEmpire 39 = .ok (.iastore, 1) := by decide +kernel
theorem dX7_addEmpire_40 : decode cX7_addEmpire 40 = .ok (.aload_n 0, 1) := by decide +kernel
theorem dX7_addEmpire_41 : decode cX7_addEmpire 41 = .ok (.dup, 1) := by decide +kernel
theorem dX7_addEmpire_42 : decode cX7_addEmpire 42 = .ok (.getfield 52, 3) := by decide +kernel
theorem dX7_addEmpire_45 : decode cX7_addEmpire 45 = .ok (.iconst 1, 1) := by decide +kernel
theorem dX7_addEmpire_46 : decode cX7_addEmpire 46 = .ok (.iadd, 1) := by decide +kernel
theorem dX7_addEmpire_47 : decode cX7_addEmpire 47 = .ok (.putfield 52, 3) := by decide +kernel
theorem dX7_addEmpire_50 : decode cX7_addEmpire 50 = .ok (.return_, 1) := by decide +kernel
theorem dX7_addFind_0 : decode cX7_addFind 0 = .ok (.aload_n 0, 1) := by decide +kernel
theorem dX7_addFind_1 : decode cX7_addFind 1 = .ok (.getfield 56, 3) := by decide +kernel
theorem dX7_addFind_4 : decode cX7_addFind 4 = .ok (.bipush 24, 2) := by decide +kernel
theorem dX7_addFind_6 : decode cX7_addFind 6 = .ok (.if_icmp .ge 60, 3) := by decide +kernel
theorem dX7_addFind_9 : decode cX7_addFind 9 = .ok (.iload_n 2, 1) := by decide +kernel
theorem dX7_addFind_10 : decode cX7_addFind 10 = .ok (.invokestatic 72, 3) := by decide +kernel
theorem dX7_addFind_13 : decode cX7_addFind 13 = .ok (.ifCond .eq 53, 3) := by decide +kernel
theorem dX7_addFind_16 : decode cX7_addFind 16 = .ok (.aload_n 0, 1) := by decide +kernel
theorem dX7_addFind_17 : decode cX7_addFind 17 = .ok (.getfield 29, 3) := by decide +kernel
theorem dX7_addFind_20 : decode cX7_addFind 20 = .ok (.aload_n 0, 1) := by decide +kernel
theorem dX7_addFind_21 : decode cX7_addFind 21 = .ok (.getfield 56, 3) := by decide +kernel
theorem dX7_addFind_24 : decode cX7_addFind 24 = .ok (.iload_n 1, 1) := by decide +kernel
theorem dX7_addFind_25 : decode cX7_addFind 25 = .ok (.bastore, 1) := by decide +kernel
theorem dX7_addFind_26 : decode cX7_addFind 26 = .ok (.aload_n 0, 1) := by decide +kernel
theorem dX7_addFind_27 : decode cX7_addFind 27 = .ok (.getfield 33, 3) := by decide +kernel
theorem dX7_addFind_30 : decode cX7_addFind 30 = .ok (.aload_n 0, 1) := by decide +kernel
theorem dX7_addFind_31 : decode cX7_addFind 31 = .ok (.getfield 56, 3) := by decide +kernel
theorem dX7_addFind_34 : decode cX7_addFind 34 = .ok (.iload_n 2, 1) := by decide +kernel
theorem dX7_addFind_35 : decode cX7_addFind 35 = .ok (.iastore, 1) := by decide +kernel
theorem dX7_addFind_36 : decode cX7_addFind 36 = .ok (.aload_n 0, 1) := by decide +kernel
theorem dX7_addFind_37 : decode cX7_addFind 37 = .ok (.getfield 36, 3) := by decide +kernel
theorem dX7_addFind_40 : decode cX7_addFind 40 = .ok (.aload_n 0, 1) := by decide +kernel
theorem dX7_addFind_41 : decode cX7_addFind 41 = .ok (.getfield 56, 3) := by decide +kernel
theorem dX7_addFind_44 : decode cX7_addFind 44 = .ok (.iload_n 3, 1) := by decide +kernel
theorem dX7_addFind_45 : decode cX7_addFind 45 = .ok (.iastore, 1) := by decide +kernel
theorem dX7_addFind_46 : decode cX7_addFind 46 = .ok (.aload_n 0, 1) := by decide +kernel
theorem dX7_addFind_47 : decode cX7_addFind 47 = .ok (.getfield 39, 3) := by decide +kernel
theorem dX7_addFind_50 : decode cX7_addFind 50 = .ok (.iload_n 2, 1) := by decide +kernel
theorem dX7_addFind_51 : decode cX7_addFind 51 = .ok (.aload_n 0, 1) := by decide +kernel
theorem dX7_addFind_52 : decode cX7_addFind 52 = .ok (.getfield 56, 3) := by decide +kernel
theorem dX7_addFind_55 : decode cX7_addFind 55 = .ok (.iastore, 1) := by decide +kernel
theorem dX7_addFind_56 : decode cX7_addFind 56 = .ok (.aload_n 0, 1) := by decide +kernel
theorem dX7_addFind_57 : decode cX7_addFind 57 = .ok (.dup, 1) := by decide +kernel
theorem dX7_addFind_58 : decode cX7_addFind 58 = .ok (.getfield 56, 3) := by decide +kernel
theorem dX7_addFind_61 : decode cX7_addFind 61 = .ok (.iconst 1, 1) := by decide +kernel
theorem dX7_addFind_62 : decode cX7_addFind 62 = .ok (.iadd, 1) := by decide +kernel
theorem dX7_addFind_63 : decode cX7_addFind 63 = .ok (.putfield 56, 3) := by decide +kernel
theorem dX7_addFind_66 : decode cX7_addFind 66 = .ok (.return_, 1) := by decide +kernel
theorem dX7_addSpring_0 : decode cX7_addSpring 0 = .ok (.iload_n 1, 1) := by decide +kernel
theorem dX7_addSpring_1 : decode cX7_addSpring 1 = .ok (.invokestatic 72, 3) := by decide +kernel
theorem dX7_addSpring_4 : decode cX7_addSpring 4 = .ok (.ifCond .eq 10, 3) := by decide +kernel
theorem dX7_addSpring_7 : decode cX7_addSpring 7 = .ok (.aload_n 0, 1) := by decide +kernel
theorem dX7_addSpring_8 : decode cX7_addSpring 8 = .ok (.getfield 42, 3) := by decide +kernel
theorem dX7_addSpring_11 : decode cX7_addSpring 11 = .ok (.iload_n 1, 1) := by decide +kernel
theorem dX7_addSpring_12 : decode cX7_addSpring 12 = .ok (.iconst 1, 1) := by decide +kernel
theorem dX7_addSpring_13 : decode cX7_addSpring 13 = .ok (.bastore, 1) := by decide +kernel
theorem dX7_addSpring_14 : decode cX7_addSpring 14 = .ok (.return_, 1) := by decide +kernel
theorem dX7_empireNamed_0 : decode cX7_empireNamed 0 = .ok (.iconst 0, 1) := by decide +kernel
theorem dX7_empireNamed_1 : decode cX7_empireNamed 1 = .ok (.istore_n 3, 1) := by decide +kernel
theorem dX7_empireNamed_2 : decode cX7_empireNamed 2 = .ok (.iload_n 3, 1) := by decide +kernel
theorem dX7_empireNamed_3 : decode cX7_empireNamed 3 = .ok (.aload_n 0, 1) := by decide +kernel
theorem dX7_empireNamed_4 : decode cX7_empireNamed 4 = .ok (.getfield 52, 3) := by decide +kernel
theorem dX7_empireNamed_7 : decode cX7_empireNamed 7 = .ok (.if_icmp .ge 22, 3) := by decide +kernel
theorem dX7_empireNamed_10 : decode cX7_empireNamed 10 = .ok (.aload_n 0, 1) := by decide +kernel
theorem dX7_empireNamed_11 : decode cX7_empireNamed 11 = .ok (.getfield 18, 3) := by decide +kernel
theorem dX7_empireNamed_14 : decode cX7_empireNamed 14 = .ok (.iload_n 3, 1) := by decide +kernel
theorem dX7_empireNamed_15 : decode cX7_empireNamed 15 = .ok (.laload, 1) := by decide +kernel
theorem dX7_empireNamed_16 : decode cX7_empireNamed 16 = .ok (.lload_n 1, 1) := by decide +kernel
theorem dX7_empireNamed_17 : decode cX7_empireNamed 17 = .ok (.lcmp, 1) := by decide +kernel
theorem dX7_empireNamed_18 : decode cX7_empireNamed 18 = .ok (.ifCond .ne 5, 3) := by decide +kernel
theorem dX7_empireNamed_21 : decode cX7_empireNamed 21 = .ok (.iload_n 3, 1) := by decide +kernel
theorem dX7_empireNamed_22 : decode cX7_empireNamed 22 = .ok (.ireturn, 1) := by decide +kernel
theorem dX7_empireNamed_23 : decode cX7_empireNamed 23 = .ok (.iinc 3 1, 3) := by decide +kernel
theorem dX7_empireNamed_26 : decode cX7_empireNamed 26 = .ok (.goto (-24), 3) := by decide +kernel
theorem dX7_empireNamed_29 : decode cX7_empireNamed 29 = .ok (.iconst (-1), 1) := by decide +kernel
theorem dX7_empireNamed_30 : decode cX7_empireNamed 30 = .ok (.ireturn, 1) := by decide +kernel
theorem dX7_seatOfSum_0 : decode cX7_seatOfSum 0 = .ok (.aload_n 0, 1) := by decide +kernel
theorem dX7_seatOfSum_1 : decode cX7_seatOfSum 1 = .ok (.getfield 66, 3) := by decide +kernel
theorem dX7_seatOfSum_4 : decode cX7_seatOfSum 4 = .ok (.iconst 2, 1) := by decide +kernel
theorem dX7_seatOfSum_5 : decode cX7_seatOfSum 5 = .ok (.if_icmp .ge 7, 3) := by decide +kernel
theorem dX7_seatOfSum_8 : decode cX7_seatOfSum 8 = .ok (.iconst 0, 1) := by decide +kernel
theorem dX7_seatOfSum_9 : decode cX7_seatOfSum 9 = .ok (.goto 11, 3) := by decide +kernel
theorem dX7_seatOfSum_12 : decode cX7_seatOfSum 12 = .ok (.iload_n 1, 1) := by decide +kernel
theorem dX7_seatOfSum_13 : decode cX7_seatOfSum 13 = .ok (.aload_n 0, 1) := by decide +kernel
theorem dX7_seatOfSum_14 : decode cX7_seatOfSum 14 = .ok (.getfield 66, 3) := by decide +kernel
theorem dX7_seatOfSum_17 : decode cX7_seatOfSum 17 = .ok (.invokestatic 76, 3) := by decide +kernel
theorem dX7_seatOfSum_20 : decode cX7_seatOfSum 20 = .ok (.ireturn, 1) := by decide +kernel
theorem dX7_cushionTold_0 : decode cX7_cushionTold 0 = .ok (.iload_n 1, 1) := by decide +kernel
theorem dX7_cushionTold_1 : decode cX7_cushionTold 1 = .ok (.ifCond .lt 23, 3) := by decide +kernel
theorem dX7_cushionTold_4 : decode cX7_cushionTold 4 = .ok (.iload_n 1, 1) := by decide +kernel
theorem dX7_cushionTold_5 : decode cX7_cushionTold 5 = .ok (.aload_n 0, 1) := by decide +kernel
theorem dX7_cushionTold_6 : decode cX7_cushionTold 6 = .ok (.getfield 66, 3) := by decide +kernel
theorem dX7_cushionTold_9 : decode cX7_cushionTold 9 = .ok (.if_icmp .ge 15, 3) := by decide +kernel
theorem dX7_cushionTold_12 : decode cX7_cushionTold 12 = .ok (.iload_n 2, 1) := by decide +kernel
theorem dX7_cushionTold_13 : decode cX7_cushionTold 13 = .ok (.ifCond .lt 11, 3) := by decide +kernel
theorem dX7_cushionTold_16 : decode cX7_cushionTold 16 = .ok (.iload_n 2, 1) := by decide +kernel
theorem dX7_cushionTold_17 : decode cX7_cushionTold 17 = .ok (.aload_n 0, 1) := by decide +kernel
theorem dX7_cushionTold_18 : decode cX7_cushionTold 18 = .ok (.getfield 69, 3) := by decide +kernel
theorem dX7_cushionTold_21 : decode cX7_cushionTold 21 = .ok (.if_icmp .lt 5, 3) := by decide +kernel
theorem dX7_cushionTold_24 : decode cX7_cushionTold 24 = .ok (.iconst (-1), 1) := by decide +kernel
theorem dX7_cushionTold_25 : decode cX7_cushionTold 25 = .ok (.ireturn, 1) := by decide +kernel
theorem dX7_cushionTold_26 : decode cX7_cushionTold 26 = .ok (.iload_n 1, 1) := by decide +kernel
theorem dX7_cushionTold_27 : decode cX7_cushionTold 27 = .ok (.bipush 10, 2) := by decide +kernel
theorem dX7_cushionTold_29 : decode cX7_cushionTold 29 = .ok (.imul, 1) := by decide +kernel
theorem dX7_cushionTold_30 : decode cX7_cushionTold 30 = .ok (.iload_n 2, 1) := by decide +kernel
theorem dX7_cushionTold_31 : decode cX7_cushionTold 31 = .ok (.iadd, 1) := by decide +kernel
theorem dX7_cushionTold_32 : decode cX7_cushionTold 32 = .ok (.ireturn, 1) := by decide +kernel
theorem dX7_stratumOfCushion_0 : decode cX7_stratumOfCushion 0 = .ok (.iload_n 1, 1) := by decide +kernel
theorem dX7_stratumOfCushion_1 : decode cX7_stratumOfCushion 1 = .ok (.invokestatic 72, 3) := by decide +kernel
theorem dX7_stratumOfCushion_4 : decode cX7_stratumOfCushion 4 = .ok (.ifCond .eq 10, 3) := by decide +kernel
theorem dX7_stratumOfCushion_7 : decode cX7_stratumOfCushion 7 = .ok (.iload_n 1, 1) := by decide +kernel
theorem dX7_stratumOfCushion_8 : decode cX7_stratumOfCushion 8 = .ok (.bipush 10, 2) := by decide +kernel
theorem dX7_stratumOfCushion_10 : decode cX7_stratumOfCushion 10 = .ok (.irem, 1) := by decide +kernel
theorem dX7_stratumOfCushion_11 : decode cX7_stratumOfCushion 11 = .ok (.goto 4, 3) := by decide +kernel
theorem dX7_stratumOfCushion_14 : decode cX7_stratumOfCushion 14 = .ok (.iconst (-1), 1) := by decide +kernel
theorem dX7_stratumOfCushion_15 : decode cX7_stratumOfCushion 15 = .ok (.ireturn, 1) := by decide +kernel
theorem dX7_findIn_0 : decode cX7_findIn 0 = .ok (.iload_n 1, 1) := by decide +kernel
theorem dX7_findIn_1 : decode cX7_findIn 1 = .ok (.invokestatic 72, 3) := by decide +kernel
theorem dX7_findIn_4 : decode cX7_findIn 4 = .ok (.ifCond .eq 12, 3) := by decide +kernel
theorem dX7_findIn_7 : decode cX7_findIn 7 = .ok (.aload_n 0, 1) := by decide +kernel
theorem dX7_findIn_8 : decode cX7_findIn 8 = .ok (.getfield 39, 3) := by decide +kernel
theorem dX7_findIn_11 : decode cX7_findIn 11 = .ok (.iload_n 1, 1) := by decide +kernel
theorem dX7_findIn_12 : decode cX7_findIn 12 = .ok (.iaload, 1) := by decide +kernel
theorem dX7_findIn_13 : decode cX7_findIn 13 = .ok (.goto 4, 3) := by decide +kernel
theorem dX7_findIn_16 : decode cX7_findIn 16 = .ok (.iconst (-1), 1) := by decide +kernel
theorem dX7_findIn_17 : decode cX7_findIn 17 = .ok (.ireturn, 1) := by decide +kernel
theorem dX7_hasSpring_0 : decode cX7_hasSpring 0 = .ok (.iload_n 1, 1) := by decide +kernel
theorem dX7_hasSpring_1 : decode cX7_hasSpring 1 = .ok (.invokestatic 72, 3) := by decide +kernel
theorem dX7_hasSpring_4 : decode cX7_hasSpring 4 = .ok (.ifCond .eq 16, 3) := by decide +kernel
theorem dX7_hasSpring_7 : decode cX7_hasSpring 7 = .ok (.aload_n 0, 1) := by decide +kernel
theorem dX7_hasSpring_8 : decode cX7_hasSpring 8 = .ok (.getfield 42, 3) := by decide +kernel
theorem dX7_hasSpring_11 : decode cX7_hasSpring 11 = .ok (.iload_n 1, 1) := by decide +kernel
theorem dX7_hasSpring_12 : decode cX7_hasSpring 12 = .ok (.baload, 1) := by decide +kernel
theorem dX7_hasSpring_13 : decode cX7_hasSpring 13 = .ok (.ifCond .eq 7, 3) := by decide +kernel
theorem dX7_hasSpring_16 : decode cX7_hasSpring 16 = .ok (.iconst 1, 1) := by decide +kernel
theorem dX7_hasSpring_17 : decode cX7_hasSpring 17 = .ok (.goto 4, 3) := by decide +kernel
theorem dX7_hasSpring_20 : decode cX7_hasSpring 20 = .ok (.iconst 0, 1) := by decide +kernel
theorem dX7_hasSpring_21 : decode cX7_hasSpring 21 = .ok (.ireturn, 1) := by decide +kernel
theorem dX7_tellsCoin_0 : decode cX7_tellsCoin 0 = .ok (.aload_n 0, 1) := by decide +kernel
theorem dX7_tellsCoin_1 : decode cX7_tellsCoin 1 = .ok (.iload_n 1, 1) := by decide +kernel
theorem dX7_tellsCoin_2 : decode cX7_tellsCoin 2 = .ok (.invokevirtual 82, 3) := by decide +kernel
theorem dX7_tellsCoin_5 : decode cX7_tellsCoin 5 = .ok (.ifCond .eq 16, 3) := by decide +kernel
theorem dX7_tellsCoin_8 : decode cX7_tellsCoin 8 = .ok (.aload_n 0, 1) := by decide +kernel
theorem dX7_tellsCoin_9 : decode cX7_tellsCoin 9 = .ok (.getfield 29, 3) := by decide +kernel
theorem dX7_tellsCoin_12 : decode cX7_tellsCoin 12 = .ok (.iload_n 1, 1) := by decide +kernel
theorem dX7_tellsCoin_13 : decode cX7_tellsCoin 13 = .ok (.baload, 1) := by decide +kernel
theorem dX7_tellsCoin_14 : decode cX7_tellsCoin 14 = .ok (.ifCond .eq 7, 3) := by decide +kernel
theorem dX7_tellsCoin_17 : decode cX7_tellsCoin 17 = .ok (.iconst 1, 1) := by decide +kernel
theorem dX7_tellsCoin_18 : decode cX7_tellsCoin 18 = .ok (.goto 4, 3) := by decide +kernel
theorem dX7_tellsCoin_21 : decode cX7_tellsCoin 21 = .ok (.iconst 0, 1) := by decide +kernel
theorem dX7_tellsCoin_22 : decode cX7_tellsCoin 22 = .ok (.ireturn, 1) := by decide +kernel
theorem dX7_cushionOf_0 : decode cX7_cushionOf 0 = .ok (.aload_n 0, 1) := by decide +kernel
theorem dX7_cushionOf_1 : decode cX7_cushionOf 1 = .ok (.iload_n 1, 1) := by decide +kernel
theorem dX7_cushionOf_2 : decode cX7_cushionOf 2 = .ok (.invokevirtual 82, 3) := by decide +kernel
theorem dX7_cushionOf_5 : decode cX7_cushionOf 5 = .ok (.ifCond .eq 12, 3) := by decide +kernel
theorem dX7_cushionOf_8 : decode cX7_cushionOf 8 = .ok (.aload_n 0, 1) := by decide +kernel
theorem dX7_cushionOf_9 : decode cX7_cushionOf 9 = .ok (.getfield 33, 3) := by decide +kernel
theorem dX7_cushionOf_12 : decode cX7_cushionOf 12 = .ok (.iload_n 1, 1) := by decide +kernel
theorem dX7_cushionOf_13 : decode cX7_cushionOf 13 = .ok (.iaload, 1) := by decide +kernel
theorem dX7_cushionOf_14 : decode cX7_cushionOf 14 = .ok (.goto 4, 3) := by decide +kernel
theorem dX7_cushionOf_17 : decode cX7_cushionOf 17 = .ok (.iconst (-1), 1) := by decide +kernel
theorem dX7_cushionOf_18 : decode cX7_cushionOf 18 = .ok (.ireturn, 1) := by decide +kernel
theorem dX7_stratumOfFind_0 : decode cX7_stratumOfFind 0 = .ok (.aload_n 0, 1) := by decide +kernel
theorem dX7_stratumOfFind_1 : decode cX7_stratumOfFind 1 = .ok (.aload_n 0, 1) := by decide +kernel
theorem dX7_stratumOfFind_2 : decode cX7_stratumOfFind 2 = .ok (.iload_n 1, 1) := by decide +kernel
theorem dX7_stratumOfFind_3 : decode cX7_stratumOfFind 3 = .ok (.invokevirtual 85, 3) := by decide +kernel
theorem dX7_stratumOfFind_6 : decode cX7_stratumOfFind 6 = .ok (.invokevirtual 89, 3) := by decide +kernel
theorem dX7_stratumOfFind_9 : decode cX7_stratumOfFind 9 = .ok (.ireturn, 1) := by decide +kernel
theorem dX7_coinYear_0 : decode cX7_coinYear 0 = .ok (.aload_n 0, 1) := by decide +kernel
theorem dX7_coinYear_1 : decode cX7_coinYear 1 = .ok (.iload_n 1, 1) := by decide +kernel
theorem dX7_coinYear_2 : decode cX7_coinYear 2 = .ok (.invokevirtual 92, 3) := by decide +kernel
theorem dX7_coinYear_5 : decode cX7_coinYear 5 = .ok (.ifCond .eq 12, 3) := by decide +kernel
theorem dX7_coinYear_8 : decode cX7_coinYear 8 = .ok (.aload_n 0, 1) := by decide +kernel
theorem dX7_coinYear_9 : decode cX7_coinYear 9 = .ok (.getfield 36, 3) := by decide +kernel
theorem dX7_coinYear_12 : decode cX7_coinYear 12 = .ok (.iload_n 1, 1) := by decide +kernel
theorem dX7_coinYear_13 : decode cX7_coinYear 13 = .ok (.iaload, 1) := by decide +kernel
theorem dX7_coinYear_14 : decode cX7_coinYear 14 = .ok (.goto 4, 3) := by decide +kernel
theorem dX7_coinYear_17 : decode cX7_coinYear 17 = .ok (.iconst (-1), 1) := by decide +kernel
theorem dX7_coinYear_18 : decode cX7_coinYear 18 = .ok (.ireturn, 1) := by decide +kernel
theorem dX7_crumbsEmpire_0 : decode cX7_crumbsEmpire 0 = .ok (.aload_n 0, 1) := by decide +kernel
theorem dX7_crumbsEmpire_1 : decode cX7_crumbsEmpire 1 = .ok (.iload_n 1, 1) := by decide +kernel
theorem dX7_crumbsEmpire_2 : decode cX7_crumbsEmpire 2 = .ok (.invokevirtual 82, 3) := by decide +kernel
theorem dX7_crumbsEmpire_5 : decode cX7_crumbsEmpire 5 = .ok (.ifCond .eq 21, 3) := by decide +kernel
theorem dX7_crumbsEmpire_8 : decode cX7_crumbsEmpire 8 = .ok (.aload_n 0, 1) := by decide +kernel
theorem dX7_crumbsEmpire_9 : decode cX7_crumbsEmpire 9 = .ok (.getfield 29, 3) := by decide +kernel
theorem dX7_crumbsEmpire_12 : decode cX7_crumbsEmpire 12 = .ok (.iload_n 1, 1) := by decide +kernel
theorem dX7_crumbsEmpire_13 : decode cX7_crumbsEmpire 13 = .ok (.baload, 1) := by decide +kernel
theorem dX7_crumbsEmpire_14 : decode cX7_crumbsEmpire 14 = .ok (.ifCond .ne 12, 3) := by decide +kernel
theorem dX7_crumbsEmpire_17 : decode cX7_crumbsEmpire 17 = .ok (.aload_n 0, 1) := by decide +kernel
theorem dX7_crumbsEmpire_18 : decode cX7_crumbsEmpire 18 = .ok (.getfield 36, 3) := by decide +kernel
theorem dX7_crumbsEmpire_21 : decode cX7_crumbsEmpire 21 = .ok (.iload_n 1, 1) := by decide +kernel
theorem dX7_crumbsEmpire_22 : decode cX7_crumbsEmpire 22 = .ok (.iaload, 1) := by decide +kernel
theorem dX7_crumbsEmpire_23 : decode cX7_crumbsEmpire 23 = .ok (.goto 4, 3) := by decide +kernel
theorem dX7_crumbsEmpire_26 : decode cX7_crumbsEmpire 26 = .ok (.iconst (-1), 1) := by decide +kernel
theorem dX7_crumbsEmpire_27 : decode cX7_crumbsEmpire 27 = .ok (.ireturn, 1) := by decide +kernel
theorem dX7_fromOf_0 : decode cX7_fromOf 0 = .ok (.aload_n 0, 1) := by decide +kernel
theorem dX7_fromOf_1 : decode cX7_fromOf 1 = .ok (.iload_n 1, 1) := by decide +kernel
theorem dX7_fromOf_2 : decode cX7_fromOf 2 = .ok (.invokevirtual 95, 3) := by decide +kernel
theorem dX7_fromOf_5 : decode cX7_fromOf 5 = .ok (.ifCond .eq 12, 3) := by decide +kernel
theorem dX7_fromOf_8 : decode cX7_fromOf 8 = .ok (.aload_n 0, 1) := by decide +kernel
theorem dX7_fromOf_9 : decode cX7_fromOf 9 = .ok (.getfield 22, 3) := by decide +kernel
theorem dX7_fromOf_12 : decode cX7_fromOf 12 = .ok (.iload_n 1, 1) := by decide +kernel
theorem dX7_fromOf_13 : decode cX7_fromOf 13 = .ok (.iaload, 1) := by decide +kernel
theorem dX7_fromOf_14 : decode cX7_fromOf 14 = .ok (.goto 4, 3) := by decide +kernel
theorem dX7_fromOf_17 : decode cX7_fromOf 17 = .ok (.iconst (-1), 1) := by decide +kernel
theorem dX7_fromOf_18 : decode cX7_fromOf 18 = .ok (.ireturn, 1) := by decide +kernel
theorem dX7_toOf_0 : decode cX7_toOf 0 = .ok (.aload_n 0, 1) := by decide +kernel
theorem dX7_toOf_1 : decode cX7_toOf 1 = .ok (.iload_n 1, 1) := by decide +kernel
theorem dX7_toOf_2 : decode cX7_toOf 2 = .ok (.invokevirtual 95, 3) := by decide +kernel
theorem dX7_toOf_5 : decode cX7_toOf 5 = .ok (.ifCond .eq 12, 3) := by decide +kernel
theorem dX7_toOf_8 : decode cX7_toOf 8 = .ok (.aload_n 0, 1) := by decide +kernel
theorem dX7_toOf_9 : decode cX7_toOf 9 = .ok (.getfield 26, 3) := by decide +kernel
theorem dX7_toOf_12 : decode cX7_toOf 12 = .ok (.iload_n 1, 1) := by decide +kernel
theorem dX7_toOf_13 : decode cX7_toOf 13 = .ok (.iaload, 1) := by decide +kernel
theorem dX7_toOf_14 : decode cX7_toOf 14 = .ok (.goto 4, 3) := by decide +kernel
theorem dX7_toOf_17 : decode cX7_toOf 17 = .ok (.iconst (-1), 1) := by decide +kernel
theorem dX7_toOf_18 : decode cX7_toOf 18 = .ok (.ireturn, 1) := by decide +kernel
theorem dX7_earliestYearOf_0 : decode cX7_earliestYearOf 0 = .ok (.aload_n 0, 1) := by decide +kernel
theorem dX7_earliestYearOf_1 : decode cX7_earliestYearOf 1 = .ok (.iload_n 1, 1) := by decide +kernel
theorem dX7_earliestYearOf_2 : decode cX7_earliestYearOf 2 = .ok (.invokevirtual 92, 3) := by decide +kernel
theorem dX7_earliestYearOf_5 : decode cX7_earliestYearOf 5 = .ok (.ifCond .eq 11, 3) := by decide +kernel
theorem dX7_earliestYearOf_8 : decode cX7_earliestYearOf 8 = .ok (.aload_n 0, 1) := by decide +kernel
theorem dX7_earliestYearOf_9 : decode cX7_earliestYearOf 9 = .ok (.iload_n 1, 1) := by decide +kernel
theorem dX7_earliestYearOf_10 : decode cX7_earliestYearOf 10 = .ok (.invokevirtual 98, 3) := by decide +kernel
theorem dX7_earliestYearOf_13 : decode cX7_earliestYearOf 13 = .ok (.goto 12, 3) := by decide +kernel
theorem dX7_earliestYearOf_16 : decode cX7_earliestYearOf 16 = .ok (.aload_n 0, 1) := by decide +kernel
theorem dX7_earliestYearOf_17 : decode cX7_earliestYearOf 17 = .ok (.aload_n 0, 1) := by decide +kernel
theorem dX7_earliestYearOf_18 : decode cX7_earliestYearOf 18 = .ok (.iload_n 1, 1) := by decide +kernel
theorem dX7_earliestYearOf_19 : decode cX7_earliestYearOf 19 = .ok (.invokevirtual 101, 3) := by decide +kernel
theorem dX7_earliestYearOf_22 : decode cX7_earliestYearOf 22 = .ok (.invokevirtual 104, 3) := by decide +kernel
theorem dX7_earliestYearOf_25 : decode cX7_earliestYearOf 25 = .ok (.ireturn, 1) := by decide +kernel
theorem dX7_isEmpire_0 : decode cX7_isEmpire 0 = .ok (.iload_n 1, 1) := by decide +kernel
theorem dX7_isEmpire_1 : decode cX7_isEmpire 1 = .ok (.ifCond .lt 15, 3) := by decide +kernel
theorem dX7_isEmpire_4 : decode cX7_isEmpire 4 = .ok (.iload_n 1, 1) := by decide +kernel
theorem dX7_isEmpire_5 : decode cX7_isEmpire 5 = .ok (.aload_n 0, 1) := by decide +kernel
theorem dX7_isEmpire_6 : decode cX7_isEmpire 6 = .ok (.getfield 52, 3) := by decide +kernel
theorem dX7_isEmpire_9 : decode cX7_isEmpire 9 = .ok (.if_icmp .ge 7, 3) := by decide +kernel
theorem dX7_isEmpire_12 : decode cX7_isEmpire 12 = .ok (.iconst 1, 1) := by decide +kernel
theorem dX7_isEmpire_13 : decode cX7_isEmpire 13 = .ok (.goto 4, 3) := by decide +kernel
theorem dX7_isEmpire_16 : decode cX7_isEmpire 16 = .ok (.iconst 0, 1) := by decide +kernel
theorem dX7_isEmpire_17 : decode cX7_isEmpire 17 = .ok (.ireturn, 1) := by decide +kernel
theorem dX7_isFind_0 : decode cX7_isFind 0 = .ok (.iload_n 1, 1) := by decide +kernel
theorem dX7_isFind_1 : decode cX7_isFind 1 = .ok (.ifCond .lt 15, 3) := by decide +kernel
theorem dX7_isFind_4 : decode cX7_isFind 4 = .ok (.iload_n 1, 1) := by decide +kernel
theorem dX7_isFind_5 : decode cX7_isFind 5 = .ok (.aload_n 0, 1) := by decide +kernel
theorem dX7_isFind_6 : decode cX7_isFind 6 = .ok (.getfield 56, 3) := by decide +kernel
theorem dX7_isFind_9 : decode cX7_isFind 9 = .ok (.if_icmp .ge 7, 3) := by decide +kernel
theorem dX7_isFind_12 : decode cX7_isFind 12 = .ok (.iconst 1, 1) := by decide +kernel
theorem dX7_isFind_13 : decode cX7_isFind 13 = .ok (.goto 4, 3) := by decide +kernel
theorem dX7_isFind_16 : decode cX7_isFind 16 = .ok (.iconst 0, 1) := by decide +kernel
theorem dX7_isFind_17 : decode cX7_isFind 17 = .ok (.ireturn, 1) := by decide +kernel
theorem dX7_isCushion_0 : decode cX7_isCushion 0 = .ok (.iload_n 0, 1) := by decide +kernel
theorem dX7_isCushion_1 : decode cX7_isCushion 1 = .ok (.ifCond .lt 13, 3) := by decide +kernel
theorem dX7_isCushion_4 : decode cX7_isCushion 4 = .ok (.iload_n 0, 1) := by decide +kernel
theorem dX7_isCushion_5 : decode cX7_isCushion 5 = .ok (.bipush 80, 2) := by decide +kernel
theorem dX7_isCushion_7 : decode cX7_isCushion 7 = .ok (.if_icmp .ge 7, 3) := by decide +kernel
theorem dX7_isCushion_10 : decode cX7_isCushion 10 = .ok (.iconst 1, 1) := by decide +kernel
theorem dX7_isCushion_11 : decode cX7_isCushion 11 = .ok (.goto 4, 3) := by decide +kernel
theorem dX7_isCushion_14 : decode cX7_isCushion 14 = .ok (.iconst 0, 1) := by decide +kernel
theorem dX7_isCushion_15 : decode cX7_isCushion 15 = .ok (.ireturn, 1) := by decide +kernel
theorem dX8_init_0 : decode cX8_init 0 = .ok (.aload_n 0, 1) := by decide +kernel
theorem dX8_init_1 : decode cX8_init 1 = .ok (.invokespecial 1, 3) := by decide +kernel
theorem dX8_init_4 : decode cX8_init 4 = .ok (.new 7, 3) := by decide +kernel
theorem dX8_init_7 : decode cX8_init 7 = .ok (.dup, 1) := by decide +kernel
theorem dX8_init_8 : decode cX8_init 8 = .ok (.invokespecial 9, 3) := by decide +kernel
theorem dX8_init_11 : decode cX8_init 11 = .ok (.astore_n 1, 1) := by decide +kernel
theorem dX8_init_12 : decode cX8_init 12 = .ok (.new 10, 3) := by decide +kernel
theorem dX8_init_15 : decode cX8_init 15 = .ok (.dup, 1) := by decide +kernel
theorem dX8_init_16 : decode cX8_init 16 = .ok (.invokespecial 12, 3) := by decide +kernel
theorem dX8_init_19 : decode cX8_init 19 = .ok (.astore_n 2, 1) := by decide +kernel
theorem dX8_init_20 : decode cX8_init 20 = .ok (.aload_n 0, 1) := by decide +kernel
theorem dX8_init_21 : decode cX8_init 21 = .ok (.aload_n 1, 1) := by decide +kernel
theorem dX8_init_22 : decode cX8_init 22 = .ok (.putfield 13, 3) := by decide +kernel
theorem dX8_init_25 : decode cX8_init 25 = .ok (.aload_n 0, 1) := by decide +kernel
theorem dX8_init_26 : decode cX8_init 26 = .ok (.new 19, 3) := by decide +kernel
theorem dX8_init_29 : decode cX8_init 29 = .ok (.dup, 1) := by decide +kernel
theorem dX8_init_30 : decode cX8_init 30 = .ok (.aload_n 1, 1) := by decide +kernel
theorem dX8_init_31 : decode cX8_init 31 = .ok (.invokespecial 21, 3) := by decide +kernel
theorem dX8_init_34 : decode cX8_init 34 = .ok (.putfield 24, 3) := by decide +kernel
theorem dX8_init_37 : decode cX8_init 37 = .ok (.aload_n 0, 1) := by decide +kernel
theorem dX8_init_38 : decode cX8_init 38 = .ok (.new 28, 3) := by decide +kernel
theorem dX8_init_41 : decode cX8_init 41 = .ok (.dup, 1) := by decide +kernel
theorem dX8_init_42 : decode cX8_init 42 = .ok (.invokespecial 30, 3) := by decide +kernel
theorem dX8_init_45 : decode cX8_init 45 = .ok (.putfield 31, 3) := by decide +kernel
theorem dX8_init_48 : decode cX8_init 48 = .ok (.aload_n 0, 1) := by decide +kernel
theorem dX8_init_49 : decode cX8_init 49 = .ok (.new 35, 3) := by decide +kernel
theorem dX8_init_52 : decode cX8_init 52 = .ok (.dup, 1) := by decide +kernel
theorem dX8_init_53 : decode cX8_init 53 = .ok (.aload_n 2, 1) := by decide +kernel
theorem dX8_init_54 : decode cX8_init 54 = .ok (.invokespecial 37, 3) := by decide +kernel
theorem dX8_init_57 : decode cX8_init 57 = .ok (.putfield 40, 3) := by decide +kernel
theorem dX8_init_60 : decode cX8_init 60 = .ok (.aload_n 0, 1) := by decide +kernel
theorem dX8_init_61 : decode cX8_init 61 = .ok (.new 35, 3) := by decide +kernel
theorem dX8_init_64 : decode cX8_init 64 = .ok (.dup, 1) := by decide +kernel
theorem dX8_init_65 : decode cX8_init 65 = .ok (.aload_n 2, 1) := by decide +kernel
theorem dX8_init_66 : decode cX8_init 66 = .ok (.invokespecial 37, 3) := by decide +kernel
theorem dX8_init_69 : decode cX8_init 69 = .ok (.putfield 44, 3) := by decide +kernel
theorem dX8_init_72 : decode cX8_init 72 = .ok (.aload_n 0, 1) := by decide +kernel
theorem dX8_init_73 : decode cX8_init 73 = .ok (.aload_n 2, 1) := by decide +kernel
theorem dX8_init_74 : decode cX8_init 74 = .ok (.putfield 47, 3) := by decide +kernel
theorem dX8_init_77 : decode cX8_init 77 = .ok (.aload_n 0, 1) := by decide +kernel
theorem dX8_init_78 : decode cX8_init 78 = .ok (.iconst (-1), 1) := by decide +kernel
theorem dX8_init_79 : decode cX8_init 79 = .ok (.putfield 51, 3) := by decide +kernel
theorem dX8_init_82 : decode cX8_init 82 = .ok (.return_, 1) := by decide +kernel
theorem dX8_feed_0 : decode cX8_feed 0 = .ok (.aload_n 0, 1) := by decide +kernel
theorem dX8_feed_1 : decode cX8_feed 1 = .ok (.getfield 13, 3) := by decide +kernel
theorem dX8_feed_4 : decode cX8_feed 4 = .ok (.getfield 55, 3) := by decide +kernel
theorem dX8_feed_7 : decode cX8_feed 7 = .ok (.bipush 20, 2) := by decide +kernel
theorem dX8_feed_9 : decode cX8_feed 9 = .ok (.iadd, 1) := by decide +kernel
theorem dX8_feed_10 : decode cX8_feed 10 = .ok (.sipush 2000, 3) := by decide +kernel
theorem dX8_feed_13 : decode cX8_feed 13 = .ok (.if_icmp .le 13, 3) := by decide +kernel
theorem dX8_feed_16 : decode cX8_feed 16 = .ok (.new 58, 3) := by decide +kernel
theorem dX8_feed_19 : decode cX8_feed 19 = .ok (.dup, 1) := by decide +kernel
theorem dX8_feed_20 : decode cX8_feed 20 = .ok (.ldc 60, 2) := by decide +kernel
theorem dX8_feed_22 : decode cX8_feed 22 = .ok (.invokespecial 62, 3) := by decide +kernel
theorem dX8_feed_25 : decode cX8_feed 25 = .ok (.athrow, 1) := by decide +kernel
theorem dX8_feed_26 : decode cX8_feed 26 = .ok (.aload_n 0, 1) := by decide +kernel
theorem dX8_feed_27 : decode cX8_feed 27 = .ok (.getfield 13, 3) := by decide +kernel
theorem dX8_feed_30 : decode cX8_feed 30 = .ok (.iload_n 1, 1) := by decide +kernel
theorem dX8_feed_31 : decode cX8_feed 31 = .ok (.invokevirtual 65, 3) := by decide +kernel
theorem dX8_feed_34 : decode cX8_feed 34 = .ok (.aload_n 0, 1) := by decide +kernel
theorem dX8_feed_35 : decode cX8_feed 35 = .ok (.getfield 13, 3) := by decide +kernel
theorem dX8_feed_38 : decode cX8_feed 38 = .ok (.iload_n 2, 1) := by decide +kernel
theorem dX8_feed_39 : decode cX8_feed 39 = .ok (.invokevirtual 65, 3) := by decide +kernel
theorem dX8_feed_42 : decode cX8_feed 42 = .ok (.aload_n 0, 1) := by decide +kernel
theorem dX8_feed_43 : decode cX8_feed 43 = .ok (.getfield 13, 3) := by decide +kernel
theorem dX8_feed_46 : decode cX8_feed 46 = .ok (.iload_n 3, 1) := by decide +kernel
theorem dX8_feed_47 : decode cX8_feed 47 = .ok (.invokevirtual 65, 3) := by decide +kernel
theorem dX8_feed_50 : decode cX8_feed 50 = .ok (.aload_n 0, 1) := by decide +kernel
theorem dX8_feed_51 : decode cX8_feed 51 = .ok (.getfield 13, 3) := by decide +kernel
theorem dX8_feed_54 : decode cX8_feed 54 = .ok (.iload 4, 2) := by decide +kernel
theorem dX8_feed_56 : decode cX8_feed 56 = .ok (.invokevirtual 65, 3) := by decide +kernel
theorem dX8_feed_59 : decode cX8_feed 59 = .ok (.aload_n 0, 1) := by decide +kernel
theorem dX8_feed_60 : decode cX8_feed 60 = .ok (.getfield 13, 3) := by decide +kernel
theorem dX8_feed_63 : decode cX8_feed 63 = .ok (.iload 5, 2) := by decide +kernel
theorem dX8_feed_65 : decode cX8_feed 65 = .ok (.invokevirtual 65, 3) := by decide +kernel
theorem dX8_feed_68 : decode cX8_feed 68 = .ok (.aload_n 0, 1) := by decide +kernel
theorem dX8_feed_69 : decode cX8_feed 69 = .ok (.getfield 13, 3) := by decide +kernel
theorem dX8_feed_72 : decode cX8_feed 72 = .ok (.getfield 55, 3) := by decide +kernel
theorem dX8_feed_75 : decode cX8_feed 75 = .ok (.ireturn, 1) := by decide +kernel
theorem dX8_trim_0 : decode cX8_trim 0 = .ok (.iload_n 1, 1) := by decide +kernel
theorem dX8_trim_1 : decode cX8_trim 1 = .ok (.ifCond .lt 14, 3) := by decide +kernel
theorem dX8_trim_4 : decode cX8_trim 4 = .ok (.iload_n 1, 1) := by decide +kernel
theorem dX8_trim_5 : decode cX8_trim 5 = .ok (.aload_n 0, 1) := by decide +kernel
theorem dX8_trim_6 : decode cX8_trim 6 = .ok (.getfield 13, 3) := by decide +kernel
theorem dX8_trim_9 : decode cX8_trim 9 = .ok (.getfield 55, 3) := by decide +kernel
theorem dX8_trim_12 : decode cX8_trim 12 = .ok (.if_icmp .le 13, 3) := by decide +kernel
theorem dX8_trim_15 : decode cX8_trim 15 = .ok (.new 69, 3) := by decide +kernel
theorem dX8_trim_18 : decode cX8_trim 18 = .ok (.dup, 1) := by decide +kernel
theorem dX8_trim_19 : decode cX8_trim 19 = .ok (.ldc 71, 2) := by decide +kernel
theorem dX8_trim_21 : decode cX8_trim 21 = .ok (.invokespecial 73, 3) := by decide +kernel
theorem dX8_trim_24 : decode cX8_trim 24 = .ok (.athrow, 1) := by decide +kernel
theorem dX8_trim_25 : decode cX8_trim 25 = .ok (.aload_n 0, 1) := by decide +kernel
theorem dX8_trim_26 : decode cX8_trim 26 = .ok (.getfield 13, 3) := by decide +kernel
theorem dX8_trim_29 : decode cX8_trim 29 = .ok (.iload_n 1, 1) := by decide +kernel
theorem dX8_trim_30 : decode cX8_trim 30 = .ok (.putfield 55, 3) := by decide +kernel
theorem dX8_trim_33 : decode cX8_trim 33 = .ok (.iload_n 1, 1) := by decide +kernel
theorem dX8_trim_34 : decode cX8_trim 34 = .ok (.ireturn, 1) := by decide +kernel
theorem dX8_teach_0 : decode cX8_teach 0 = .ok (.aload_n 0, 1) := by decide +kernel
theorem dX8_teach_1 : decode cX8_teach 1 = .ok (.getfield 24, 3) := by decide +kernel
theorem dX8_teach_4 : decode cX8_teach 4 = .ok (.invokevirtual 74, 3) := by decide +kernel
theorem dX8_teach_7 : decode cX8_teach 7 = .ok (.istore_n 1, 1) := by decide +kernel
theorem dX8_teach_8 : decode cX8_teach 8 = .ok (.aload_n 0, 1) := by decide +kernel
theorem dX8_teach_9 : decode cX8_teach 9 = .ok (.aload_n 0, 1) := by decide +kernel
theorem dX8_teach_10 : decode cX8_teach 10 = .ok (.getfield 24, 3) := by decide +kernel
theorem dX8_teach_13 : decode cX8_teach 13 = .ok (.invokevirtual 78, 3) := by decide +kernel
theorem dX8_teach_16 : decode cX8_teach 16 = .ok (.putfield 51, 3) := by decide +kernel
theorem dX8_teach_19 : decode cX8_teach 19 = .ok (.aload_n 0, 1) := by decide +kernel
theorem dX8_teach_20 : decode cX8_teach 20 = .ok (.getfield 13, 3) := by decide +kernel
theorem dX8_teach_23 : decode cX8_teach 23 = .ok (.iconst 0, 1) := by decide +kernel
theorem dX8_teach_24 : decode cX8_teach 24 = .ok (.putfield 55, 3) := by decide +kernel
theorem dX8_teach_27 : decode cX8_teach 27 = .ok (.iload_n 1, 1) := by decide +kernel
theorem dX8_teach_28 : decode cX8_teach 28 = .ok (.ifCond .ne 29, 3) := by decide +kernel
theorem dX8_teach_31 : decode cX8_teach 31 = .ok (.aload_n 0, 1) := by decide +kernel
theorem dX8_teach_32 : decode cX8_teach 32 = .ok (.aload_n 0, 1) := by decide +kernel
theorem dX8_teach_33 : decode cX8_teach 33 = .ok (.getfield 24, 3) := by decide +kernel
theorem dX8_teach_36 : decode cX8_teach 36 = .ok (.aload_n 0, 1) := by decide +kernel
theorem dX8_teach_37 : decode cX8_teach 37 = .ok (.getfield 47, 3) := by decide +kernel
theorem dX8_teach_40 : decode cX8_teach 40 = .ok (.invokevirtual 80, 3) := by decide +kernel
theorem dX8_teach_43 : decode cX8_teach 43 = .ok (.putfield 47, 3) := by decide +kernel
theorem dX8_teach_46 : decode cX8_teach 46 = .ok (.aload_n 0, 1) := by decide +kernel
theorem dX8_teach_47 : decode cX8_teach 47 = .ok (.getfield 40, 3) := by decide +kernel
theorem dX8_teach_50 : decode cX8_teach 50 = .ok (.aload_n 0, 1) := by decide +kernel
theorem dX8_teach_51 : decode cX8_teach 51 = .ok (.getfield 47, 3) := by decide +kernel
theorem dX8_teach_54 : decode cX8_teach 54 = .ok (.invokevirtual 84, 3) := by decide +kernel
theorem dX8_teach_57 : decode cX8_teach 57 = .ok (.iload_n 1, 1) := by decide +kernel
theorem dX8_teach_58 : decode cX8_teach 58 = .ok (.ireturn, 1) := by decide +kernel
theorem dX8_seats_0 : decode cX8_seats 0 = .ok (.aload_n 0, 1) := by decide +kernel
theorem dX8_seats_1 : decode cX8_seats 1 = .ok (.getfield 47, 3) := by decide +kernel
theorem dX8_seats_4 : decode cX8_seats 4 = .ok (.getfield 87, 3) := by decide +kernel
theorem dX8_seats_7 : decode cX8_seats 7 = .ok (.ireturn, 1) := by decide +kernel
theorem dX8_strata_0 : decode cX8_strata 0 = .ok (.aload_n 0, 1) := by decide +kernel
theorem dX8_strata_1 : decode cX8_strata 1 = .ok (.getfield 47, 3) := by decide +kernel
theorem dX8_strata_4 : decode cX8_strata 4 = .ok (.getfield 90, 3) := by decide +kernel
theorem dX8_strata_7 : decode cX8_strata 7 = .ok (.ireturn, 1) := by decide +kernel
theorem dX8_finds_0 : decode cX8_finds 0 = .ok (.aload_n 0, 1) := by decide +kernel
theorem dX8_finds_1 : decode cX8_finds 1 = .ok (.getfield 47, 3) := by decide +kernel
theorem dX8_finds_4 : decode cX8_finds 4 = .ok (.getfield 93, 3) := by decide +kernel
theorem dX8_finds_7 : decode cX8_finds 7 = .ok (.ireturn, 1) := by decide +kernel
theorem dX8_days_0 : decode cX8_days 0 = .ok (.aload_n 0, 1) := by decide +kernel
theorem dX8_days_1 : decode cX8_days 1 = .ok (.getfield 40, 3) := by decide +kernel
theorem dX8_days_4 : decode cX8_days 4 = .ok (.getfield 96, 3) := by decide +kernel
theorem dX8_days_7 : decode cX8_days 7 = .ok (.ireturn, 1) := by decide +kernel
theorem dX8_ordersCarriedOut_0 : decode cX8_ordersCarriedOut 0 = .ok (.aload_n 0, 1) := by decide +kernel
theorem dX8_ordersCarriedOut_1 : decode cX8_ordersCarriedOut 1 = .ok (.getfield 40, 3) := by decide +kernel
theorem dX8_ordersCarriedOut_4 : decode cX8_ordersCarriedOut 4 = .ok (.getfield 99, 3) := by decide +kernel
theorem dX8_ordersCarriedOut_7 : decode cX8_ordersCarriedOut 7 = .ok (.ireturn, 1) := by decide +kernel
theorem dX8_cushionsDug_0 : decode cX8_cushionsDug 0 = .ok (.aload_n 0, 1) := by decide +kernel
theorem dX8_cushionsDug_1 : decode cX8_cushionsDug 1 = .ok (.getfield 40, 3) := by decide +kernel
theorem dX8_cushionsDug_4 : decode cX8_cushionsDug 4 = .ok (.getfield 102, 3) := by decide +kernel
theorem dX8_cushionsDug_7 : decode cX8_cushionsDug 7 = .ok (.ireturn, 1) := by decide +kernel
theorem dX8_slides_0 : decode cX8_slides 0 = .ok (.aload_n 0, 1) := by decide +kernel
theorem dX8_slides_1 : decode cX8_slides 1 = .ok (.getfield 40, 3) := by decide +kernel
theorem dX8_slides_4 : decode cX8_slides 4 = .ok (.getfield 105, 3) := by decide +kernel
theorem dX8_slides_7 : decode cX8_slides 7 = .ok (.ireturn, 1) := by decide +kernel
theorem dX8_found_0 : decode cX8_found 0 = .ok (.aload_n 0, 1) := by decide +kernel
theorem dX8_found_1 : decode cX8_found 1 = .ok (.getfield 40, 3) := by decide +kernel
theorem dX8_found_4 : decode cX8_found 4 = .ok (.getfield 108, 3) := by decide +kernel
theorem dX8_found_7 : decode cX8_found 7 = .ok (.ireturn, 1) := by decide +kernel
theorem dX8_sureFinds_0 : decode cX8_sureFinds 0 = .ok (.aload_n 0, 1) := by decide +kernel
theorem dX8_sureFinds_1 : decode cX8_sureFinds 1 = .ok (.getfield 40, 3) := by decide +kernel
theorem dX8_sureFinds_4 : decode cX8_sureFinds 4 = .ok (.getfield 111, 3) := by decide +kernel
theorem dX8_sureFinds_7 : decode cX8_sureFinds 7 = .ok (.ireturn, 1) := by decide +kernel
theorem dX8_props_0 : decode cX8_props 0 = .ok (.aload_n 0, 1) := by decide +kernel
theorem dX8_props_1 : decode cX8_props 1 = .ok (.getfield 40, 3) := by decide +kernel
theorem dX8_props_4 : decode cX8_props 4 = .ok (.getfield 114, 3) := by decide +kernel
theorem dX8_props_7 : decode cX8_props 7 = .ok (.ireturn, 1) := by decide +kernel
theorem dX8_heightOf_0 : decode cX8_heightOf 0 = .ok (.aload_n 0, 1) := by decide +kernel
theorem dX8_heightOf_1 : decode cX8_heightOf 1 = .ok (.iload_n 1, 1) := by decide +kernel
theorem dX8_heightOf_2 : decode cX8_heightOf 2 = .ok (.invokevirtual 117, 3) := by decide +kernel
theorem dX8_heightOf_5 : decode cX8_heightOf 5 = .ok (.aload_n 0, 1) := by decide +kernel
theorem dX8_heightOf_6 : decode cX8_heightOf 6 = .ok (.getfield 40, 3) := by decide +kernel
theorem dX8_heightOf_9 : decode cX8_heightOf 9 = .ok (.iload_n 1, 1) := by decide +kernel
theorem dX8_heightOf_10 : decode cX8_heightOf 10 = .ok (.invokevirtual 120, 3) := by decide +kernel
theorem dX8_heightOf_13 : decode cX8_heightOf 13 = .ok (.ireturn, 1) := by decide +kernel
theorem dX8_isPropped_0 : decode cX8_isPropped 0 = .ok (.aload_n 0, 1) := by decide +kernel
theorem dX8_isPropped_1 : decode cX8_isPropped 1 = .ok (.iload_n 1, 1) := by decide +kernel
theorem dX8_isPropped_2 : decode cX8_isPropped 2 = .ok (.invokevirtual 117, 3) := by decide +kernel
theorem dX8_isPropped_5 : decode cX8_isPropped 5 = .ok (.aload_n 0, 1) := by decide +kernel
theorem dX8_isPropped_6 : decode cX8_isPropped 6 = .ok (.getfield 40, 3) := by decide +kernel
theorem dX8_isPropped_9 : decode cX8_isPropped 9 = .ok (.iload_n 1, 1) := by decide +kernel
theorem dX8_isPropped_10 : decode cX8_isPropped 10 = .ok (.invokevirtual 124, 3) := by decide +kernel
theorem dX8_isPropped_13 : decode cX8_isPropped 13 = .ok (.ireturn, 1) := by decide +kernel
theorem dX8_topStratum_0 : decode cX8_topStratum 0 = .ok (.aload_n 0, 1) := by decide +kernel
theorem dX8_topStratum_1 : decode cX8_topStratum 1 = .ok (.iload_n 1, 1) := by decide +kernel
theorem dX8_topStratum_2 : decode cX8_topStratum 2 = .ok (.invokevirtual 128, 3) := by decide +kernel
theorem dX8_topStratum_5 : decode cX8_topStratum 5 = .ok (.aload_n 0, 1) := by decide +kernel
theorem dX8_topStratum_6 : decode cX8_topStratum 6 = .ok (.getfield 47, 3) := by decide +kernel
theorem dX8_topStratum_9 : decode cX8_topStratum 9 = .ok (.aload_n 0, 1) := by decide +kernel
theorem dX8_topStratum_10 : decode cX8_topStratum 10 = .ok (.getfield 40, 3) := by decide +kernel
theorem dX8_topStratum_13 : decode cX8_topStratum 13 = .ok (.iload_n 1, 1) := by decide +kernel
theorem dX8_topStratum_14 : decode cX8_topStratum 14 = .ok (.invokevirtual 131, 3) := by decide +kernel
theorem dX8_topStratum_17 : decode cX8_topStratum 17 = .ok (.invokevirtual 134, 3) := by decide +kernel
theorem dX8_topStratum_20 : decode cX8_topStratum 20 = .ok (.ireturn, 1) := by decide +kernel
theorem dX8_isTopLoose_0 : decode cX8_isTopLoose 0 = .ok (.aload_n 0, 1) := by decide +kernel
theorem dX8_isTopLoose_1 : decode cX8_isTopLoose 1 = .ok (.iload_n 1, 1) := by decide +kernel
theorem dX8_isTopLoose_2 : decode cX8_isTopLoose 2 = .ok (.invokevirtual 128, 3) := by decide +kernel
theorem dX8_isTopLoose_5 : decode cX8_isTopLoose 5 = .ok (.aload_n 0, 1) := by decide +kernel
theorem dX8_isTopLoose_6 : decode cX8_isTopLoose 6 = .ok (.getfield 40, 3) := by decide +kernel
theorem dX8_isTopLoose_9 : decode cX8_isTopLoose 9 = .ok (.aload_n 0, 1) := by decide +kernel
theorem dX8_isTopLoose_10 : decode cX8_isTopLoose 10 = .ok (.getfield 40, 3) := by decide +kernel
theorem dX8_isTopLoose_13 : decode cX8_isTopLoose 13 = .ok (.iload_n 1, 1) := by decide +kernel
theorem dX8_isTopLoose_14 : decode cX8_isTopLoose 14 = .ok (.invokevirtual 131, 3) := by decide +kernel
theorem dX8_isTopLoose_17 : decode cX8_isTopLoose 17 = .ok (.invokevirtual 137, 3) := by decide +kernel
theorem dX8_isTopLoose_20 : decode cX8_isTopLoose 20 = .ok (.ireturn, 1) := by decide +kernel
theorem dX8_hasTopSpring_0 : decode cX8_hasTopSpring 0 = .ok (.aload_n 0, 1) := by decide +kernel
theorem dX8_hasTopSpring_1 : decode cX8_hasTopSpring 1 = .ok (.iload_n 1, 1) := by decide +kernel
theorem dX8_hasTopSpring_2 : decode cX8_hasTopSpring 2 = .ok (.invokevirtual 128, 3) := by decide +kernel
theorem dX8_hasTopSpring_5 : decode cX8_hasTopSpring 5 = .ok (.aload_n 0, 1) := by decide +kernel
theorem dX8_hasTopSpring_6 : decode cX8_hasTopSpring 6 = .ok (.getfield 47, 3) := by decide +kernel
theorem dX8_hasTopSpring_9 : decode cX8_hasTopSpring 9 = .ok (.aload_n 0, 1) := by decide +kernel
theorem dX8_hasTopSpring_10 : decode cX8_hasTopSpring 10 = .ok (.getfield 40, 3) := by decide +kernel
theorem dX8_hasTopSpring_13 : decode cX8_hasTopSpring 13 = .ok (.iload_n 1, 1) := by decide +kernel
theorem dX8_hasTopSpring_14 : decode cX8_hasTopSpring 14 = .ok (.invokevirtual 131, 3) := by decide +kernel
theorem dX8_hasTopSpring_17 : decode cX8_hasTopSpring 17 = .ok (.invokevirtual 140, 3) := by decide +kernel
theorem dX8_hasTopSpring_20 : decode cX8_hasTopSpring 20 = .ok (.ireturn, 1) := by decide +kernel
theorem dX8_findsLeft_0 : decode cX8_findsLeft 0 = .ok (.aload_n 0, 1) := by decide +kernel
theorem dX8_findsLeft_1 : decode cX8_findsLeft 1 = .ok (.iload_n 1, 1) := by decide +kernel
theorem dX8_findsLeft_2 : decode cX8_findsLeft 2 = .ok (.invokevirtual 117, 3) := by decide +kernel
theorem dX8_findsLeft_5 : decode cX8_findsLeft 5 = .ok (.aload_n 0, 1) := by decide +kernel
theorem dX8_findsLeft_6 : decode cX8_findsLeft 6 = .ok (.getfield 40, 3) := by decide +kernel
theorem dX8_findsLeft_9 : decode cX8_findsLeft 9 = .ok (.iload_n 1, 1) := by decide +kernel
theorem dX8_findsLeft_10 : decode cX8_findsLeft 10 = .ok (.invokevirtual 143, 3) := by decide +kernel
theorem dX8_findsLeft_13 : decode cX8_findsLeft 13 = .ok (.ireturn, 1) := by decide +kernel
theorem dX8_isCoin_0 : decode cX8_isCoin 0 = .ok (.aload_n 0, 1) := by decide +kernel
theorem dX8_isCoin_1 : decode cX8_isCoin 1 = .ok (.iload_n 1, 1) := by decide +kernel
theorem dX8_isCoin_2 : decode cX8_isCoin 2 = .ok (.invokevirtual 146, 3) := by decide +kernel
theorem dX8_isCoin_5 : decode cX8_isCoin 5 = .ok (.aload_n 0, 1) := by decide +kernel
theorem dX8_isCoin_6 : decode cX8_isCoin 6 = .ok (.getfield 47, 3) := by decide +kernel
theorem dX8_isCoin_9 : decode cX8_isCoin 9 = .ok (.iload_n 1, 1) := by decide +kernel
theorem dX8_isCoin_10 : decode cX8_isCoin 10 = .ok (.invokevirtual 149, 3) := by decide +kernel
theorem dX8_isCoin_13 : decode cX8_isCoin 13 = .ok (.ireturn, 1) := by decide +kernel
theorem dX8_isFound_0 : decode cX8_isFound 0 = .ok (.aload_n 0, 1) := by decide +kernel
theorem dX8_isFound_1 : decode cX8_isFound 1 = .ok (.iload_n 1, 1) := by decide +kernel
theorem dX8_isFound_2 : decode cX8_isFound 2 = .ok (.invokevirtual 146, 3) := by decide +kernel
theorem dX8_isFound_5 : decode cX8_isFound 5 = .ok (.aload_n 0, 1) := by decide +kernel
theorem dX8_isFound_6 : decode cX8_isFound 6 = .ok (.getfield 40, 3) := by decide +kernel
theorem dX8_isFound_9 : decode cX8_isFound 9 = .ok (.iload_n 1, 1) := by decide +kernel
theorem dX8_isFound_10 : decode cX8_isFound 10 = .ok (.invokevirtual 152, 3) := by decide +kernel
theorem dX8_isFound_13 : decode cX8_isFound 13 = .ok (.ireturn, 1) := by decide +kernel
theorem dX8_isSure_0 : decode cX8_isSure 0 = .ok (.aload_n 0, 1) := by decide +kernel
theorem dX8_isSure_1 : decode cX8_isSure 1 = .ok (.iload_n 1, 1) := by decide +kernel
theorem dX8_isSure_2 : decode cX8_isSure 2 = .ok (.invokevirtual 146, 3) := by decide +kernel
theorem dX8_isSure_5 : decode cX8_isSure 5 = .ok (.aload_n 0, 1) := by decide +kernel
theorem dX8_isSure_6 : decode cX8_isSure 6 = .ok (.getfield 40, 3) := by decide +kernel
theorem dX8_isSure_9 : decode cX8_isSure 9 = .ok (.iload_n 1, 1) := by decide +kernel
theorem dX8_isSure_10 : decode cX8_isSure 10 = .ok (.invokevirtual 152, 3) := by decide +kernel
theorem dX8_isSure_13 : decode cX8_isSure 13 = .ok (.ifCond .ne 13, 3) := by decide +kernel
theorem dX8_isSure_16 : decode cX8_isSure 16 = .ok (.new 58, 3) := by decide +kernel
theorem dX8_isSure_19 : decode cX8_isSure 19 = .ok (.dup, 1) := by decide +kernel
theorem dX8_isSure_20 : decode cX8_isSure 20 = .ok (.ldc 155, 2) := by decide +kernel
theorem dX8_isSure_22 : decode cX8_isSure 22 = .ok (.invokespecial 62, 3) := by decide +kernel
theorem dX8_isSure_25 : decode cX8_isSure 25 = .ok (.athrow, 1) := by decide +kernel
theorem dX8_isSure_26 : decode cX8_isSure 26 = .ok (.aload_n 0, 1) := by decide +kernel
theorem dX8_isSure_27 : decode cX8_isSure 27 = .ok (.getfield 40, 3) := by decide +kernel
theorem dX8_isSure_30 : decode cX8_isSure 30 = .ok (.iload_n 1, 1) := by decide +kernel
theorem dX8_isSure_31 : decode cX8_isSure 31 = .ok (.invokevirtual 157, 3) := by decide +kernel
theorem dX8_isSure_34 : decode cX8_isSure 34 = .ok (.ireturn, 1) := by decide +kernel
theorem dX8_stratumOf_0 : decode cX8_stratumOf 0 = .ok (.aload_n 0, 1) := by decide +kernel
theorem dX8_stratumOf_1 : decode cX8_stratumOf 1 = .ok (.iload_n 1, 1) := by decide +kernel
theorem dX8_stratumOf_2 : decode cX8_stratumOf 2 = .ok (.invokevirtual 146, 3) := by decide +kernel
theorem dX8_stratumOf_5 : decode cX8_stratumOf 5 = .ok (.aload_n 0, 1) := by decide +kernel
theorem dX8_stratumOf_6 : decode cX8_stratumOf 6 = .ok (.getfield 47, 3) := by decide +kernel
theorem dX8_stratumOf_9 : decode cX8_stratumOf 9 = .ok (.iload_n 1, 1) := by decide +kernel
theorem dX8_stratumOf_10 : decode cX8_stratumOf 10 = .ok (.invokevirtual 160, 3) := by decide +kernel
theorem dX8_stratumOf_13 : decode cX8_stratumOf 13 = .ok (.ireturn, 1) := by decide +kernel
theorem dX8_yearOf_0 : decode cX8_yearOf 0 = .ok (.aload_n 0, 1) := by decide +kernel
theorem dX8_yearOf_1 : decode cX8_yearOf 1 = .ok (.iload_n 1, 1) := by decide +kernel
theorem dX8_yearOf_2 : decode cX8_yearOf 2 = .ok (.invokevirtual 146, 3) := by decide +kernel
theorem dX8_yearOf_5 : decode cX8_yearOf 5 = .ok (.aload_n 0, 1) := by decide +kernel
theorem dX8_yearOf_6 : decode cX8_yearOf 6 = .ok (.getfield 47, 3) := by decide +kernel
theorem dX8_yearOf_9 : decode cX8_yearOf 9 = .ok (.iload_n 1, 1) := by decide +kernel
theorem dX8_yearOf_10 : decode cX8_yearOf 10 = .ok (.invokevirtual 149, 3) := by decide +kernel
theorem dX8_yearOf_13 : decode cX8_yearOf 13 = .ok (.ifCond .ne 13, 3) := by decide +kernel
theorem dX8_yearOf_16 : decode cX8_yearOf 16 = .ok (.new 58, 3) := by decide +kernel
theorem dX8_yearOf_19 : decode cX8_yearOf 19 = .ok (.dup, 1) := by decide +kernel
theorem dX8_yearOf_20 : decode cX8_yearOf 20 = .ok (.ldc 163, 2) := by decide +kernel
theorem dX8_yearOf_22 : decode cX8_yearOf 22 = .ok (.invokespecial 62, 3) := by decide +kernel
theorem dX8_yearOf_25 : decode cX8_yearOf 25 = .ok (.athrow, 1) := by decide +kernel
theorem dX8_yearOf_26 : decode cX8_yearOf 26 = .ok (.aload_n 0, 1) := by decide +kernel
theorem dX8_yearOf_27 : decode cX8_yearOf 27 = .ok (.getfield 47, 3) := by decide +kernel
theorem dX8_yearOf_30 : decode cX8_yearOf 30 = .ok (.iload_n 1, 1) := by decide +kernel
theorem dX8_yearOf_31 : decode cX8_yearOf 31 = .ok (.invokevirtual 165, 3) := by decide +kernel
theorem dX8_yearOf_34 : decode cX8_yearOf 34 = .ok (.ireturn, 1) := by decide +kernel
theorem dX8_empireOf_0 : decode cX8_empireOf 0 = .ok (.aload_n 0, 1) := by decide +kernel
theorem dX8_empireOf_1 : decode cX8_empireOf 1 = .ok (.iload_n 1, 1) := by decide +kernel
theorem dX8_empireOf_2 : decode cX8_empireOf 2 = .ok (.invokevirtual 146, 3) := by decide +kernel
theorem dX8_empireOf_5 : decode cX8_empireOf 5 = .ok (.aload_n 0, 1) := by decide +kernel
theorem dX8_empireOf_6 : decode cX8_empireOf 6 = .ok (.getfield 47, 3) := by decide +kernel
theorem dX8_empireOf_9 : decode cX8_empireOf 9 = .ok (.iload_n 1, 1) := by decide +kernel
theorem dX8_empireOf_10 : decode cX8_empireOf 10 = .ok (.invokevirtual 149, 3) := by decide +kernel
theorem dX8_empireOf_13 : decode cX8_empireOf 13 = .ok (.ifCond .eq 13, 3) := by decide +kernel
theorem dX8_empireOf_16 : decode cX8_empireOf 16 = .ok (.new 58, 3) := by decide +kernel
theorem dX8_empireOf_19 : decode cX8_empireOf 19 = .ok (.dup, 1) := by decide +kernel
theorem dX8_empireOf_20 : decode cX8_empireOf 20 = .ok (.ldc 168, 2) := by decide +kernel
theorem dX8_empireOf_22 : decode cX8_empireOf 22 = .ok (.invokespecial 62, 3) := by decide +kernel
theorem dX8_empireOf_25 : decode cX8_empireOf 25 = .ok (.athrow, 1) := by decide +kernel
theorem dX8_empireOf_26 : decode cX8_empireOf 26 = .ok (.aload_n 0, 1) := by decide +kernel
theorem dX8_empireOf_27 : decode cX8_empireOf 27 = .ok (.getfield 47, 3) := by decide +kernel
theorem dX8_empireOf_30 : decode cX8_empireOf 30 = .ok (.iload_n 1, 1) := by decide +kernel
theorem dX8_empireOf_31 : decode cX8_empireOf 31 = .ok (.invokevirtual 170, 3) := by decide +kernel
theorem dX8_empireOf_34 : decode cX8_empireOf 34 = .ok (.ireturn, 1) := by decide +kernel
theorem dX8_buriedUnder_0 : decode cX8_buriedUnder 0 = .ok (.aload_n 0, 1) := by decide +kernel
theorem dX8_buriedUnder_1 : decode cX8_buriedUnder 1 = .ok (.iload_n 1, 1) := by decide +kernel
theorem dX8_buriedUnder_2 : decode cX8_buriedUnder 2 = .ok (.invokevirtual 146, 3) := by decide +kernel
theorem dX8_buriedUnder_5 : decode cX8_buriedUnder 5 = .ok (.aload_n 0, 1) := by decide +kernel
theorem dX8_buriedUnder_6 : decode cX8_buriedUnder 6 = .ok (.getfield 40, 3) := by decide +kernel
theorem dX8_buriedUnder_9 : decode cX8_buriedUnder 9 = .ok (.iload_n 1, 1) := by decide +kernel
theorem dX8_buriedUnder_10 : decode cX8_buriedUnder 10 = .ok (.invokevirtual 152, 3) := by decide +kernel
theorem dX8_buriedUnder_13 : decode cX8_buriedUnder 13 = .ok (.ifCond .eq 13, 3) := by decide +kernel
theorem dX8_buriedUnder_16 : decode cX8_buriedUnder 16 = .ok (.new 58, 3) := by decide +kernel
theorem dX8_buriedUnder_19 : decode cX8_buriedUnder 19 = .ok (.dup, 1) := by decide +kernel
theorem dX8_buriedUnder_20 : decode cX8_buriedUnder 20 = .ok (.ldc 173, 2) := by decide +kernel
theorem dX8_buriedUnder_22 : decode cX8_buriedUnder 22 = .ok (.invokespecial 62, 3) := by decide +kernel
theorem dX8_buriedUnder_25 : decode cX8_buriedUnder 25 = .ok (.athrow, 1) := by decide +kernel
theorem dX8_buriedUnder_26 : decode cX8_buriedUnder 26 = .ok (.aload_n 0, 1) := by decide +kernel
theorem dX8_buriedUnder_27 : decode cX8_buriedUnder 27 = .ok (.getfield 40, 3) := by decide +kernel
theorem dX8_buriedUnder_30 : decode cX8_buriedUnder 30 = .ok (.aload_n 0, 1) := by decide +kernel
theorem dX8_buriedUnder_31 : decode cX8_buriedUnder 31 = .ok (.getfield 47, 3) := by decide +kernel
theorem dX8_buriedUnder_34 : decode cX8_buriedUnder 34 = .ok (.iload_n 1, 1) := by decide +kernel
theorem dX8_buriedUnder_35 : decode cX8_buriedUnder 35 = .ok (.invokevirtual 175, 3) := by decide +kernel
theorem dX8_buriedUnder_38 : decode cX8_buriedUnder 38 = .ok (.invokevirtual 178, 3) := by decide +kernel
theorem dX8_buriedUnder_41 : decode cX8_buriedUnder 41 = .ok (.ireturn, 1) := by decide +kernel
theorem dX8_notBefore_0 : decode cX8_notBefore 0 = .ok (.aload_n 0, 1) := by decide +kernel
theorem dX8_notBefore_1 : decode cX8_notBefore 1 = .ok (.iload_n 1, 1) := by decide +kernel
theorem dX8_notBefore_2 : decode cX8_notBefore 2 = .ok (.invokevirtual 181, 3) := by decide +kernel
theorem dX8_notBefore_5 : decode cX8_notBefore 5 = .ok (.aload_n 0, 1) := by decide +kernel
theorem dX8_notBefore_6 : decode cX8_notBefore 6 = .ok (.getfield 40, 3) := by decide +kernel
theorem dX8_notBefore_9 : decode cX8_notBefore 9 = .ok (.iload_n 1, 1) := by decide +kernel
theorem dX8_notBefore_10 : decode cX8_notBefore 10 = .ok (.invokevirtual 184, 3) := by decide +kernel
theorem dX8_notBefore_13 : decode cX8_notBefore 13 = .ok (.ireturn, 1) := by decide +kernel
theorem dX8_isSeenIn_0 : decode cX8_isSeenIn 0 = .ok (.aload_n 0, 1) := by decide +kernel
theorem dX8_isSeenIn_1 : decode cX8_isSeenIn 1 = .ok (.iload_n 1, 1) := by decide +kernel
theorem dX8_isSeenIn_2 : decode cX8_isSeenIn 2 = .ok (.invokevirtual 181, 3) := by decide +kernel
theorem dX8_isSeenIn_5 : decode cX8_isSeenIn 5 = .ok (.iload_n 2, 1) := by decide +kernel
theorem dX8_isSeenIn_6 : decode cX8_isSeenIn 6 = .ok (.ifCond .lt 14, 3) := by decide +kernel
theorem dX8_isSeenIn_9 : decode cX8_isSeenIn 9 = .ok (.iload_n 2, 1) := by decide +kernel
theorem dX8_isSeenIn_10 : decode cX8_isSeenIn 10 = .ok (.aload_n 0, 1) := by decide +kernel
theorem dX8_isSeenIn_11 : decode cX8_isSeenIn 11 = .ok (.getfield 47, 3) := by decide +kernel
theorem dX8_isSeenIn_14 : decode cX8_isSeenIn 14 = .ok (.getfield 187, 3) := by decide +kernel
theorem dX8_isSeenIn_17 : decode cX8_isSeenIn 17 = .ok (.if_icmp .lt 13, 3) := by decide +kernel
theorem dX8_isSeenIn_20 : decode cX8_isSeenIn 20 = .ok (.new 190, 3) := by decide +kernel
theorem dX8_isSeenIn_23 : decode cX8_isSeenIn 23 = .ok (.dup, 1) := by decide +kernel
theorem dX8_isSeenIn_24 : decode cX8_isSeenIn 24 = .ok (.ldc 192, 2) := by decide +kernel
theorem dX8_isSeenIn_26 : decode cX8_isSeenIn 26 = .ok (.invokespecial 194, 3) := by decide +kernel
theorem dX8_isSeenIn_29 : decode cX8_isSeenIn 29 = .ok (.athrow, 1) := by decide +kernel
theorem dX8_isSeenIn_30 : decode cX8_isSeenIn 30 = .ok (.aload_n 0, 1) := by decide +kernel
theorem dX8_isSeenIn_31 : decode cX8_isSeenIn 31 = .ok (.getfield 40, 3) := by decide +kernel
theorem dX8_isSeenIn_34 : decode cX8_isSeenIn 34 = .ok (.iload_n 1, 1) := by decide +kernel
theorem dX8_isSeenIn_35 : decode cX8_isSeenIn 35 = .ok (.iload_n 2, 1) := by decide +kernel
theorem dX8_isSeenIn_36 : decode cX8_isSeenIn 36 = .ok (.invokevirtual 195, 3) := by decide +kernel
theorem dX8_isSeenIn_39 : decode cX8_isSeenIn 39 = .ok (.ireturn, 1) := by decide +kernel
theorem dX8_isMixed_0 : decode cX8_isMixed 0 = .ok (.aload_n 0, 1) := by decide +kernel
theorem dX8_isMixed_1 : decode cX8_isMixed 1 = .ok (.iload_n 1, 1) := by decide +kernel
theorem dX8_isMixed_2 : decode cX8_isMixed 2 = .ok (.invokevirtual 181, 3) := by decide +kernel
theorem dX8_isMixed_5 : decode cX8_isMixed 5 = .ok (.aload_n 0, 1) := by decide +kernel
theorem dX8_isMixed_6 : decode cX8_isMixed 6 = .ok (.getfield 40, 3) := by decide +kernel
theorem dX8_isMixed_9 : decode cX8_isMixed 9 = .ok (.iload_n 1, 1) := by decide +kernel
theorem dX8_isMixed_10 : decode cX8_isMixed 10 = .ok (.invokevirtual 199, 3) := by decide +kernel
theorem dX8_isMixed_13 : decode cX8_isMixed 13 = .ok (.ireturn, 1) := by decide +kernel
theorem dX8_dig_0 : decode cX8_dig 0 = .ok (.aload_n 0, 1) := by decide +kernel
theorem dX8_dig_1 : decode cX8_dig 1 = .ok (.iload_n 1, 1) := by decide +kernel
theorem dX8_dig_2 : decode cX8_dig 2 = .ok (.invokevirtual 128, 3) := by decide +kernel
theorem dX8_dig_5 : decode cX8_dig 5 = .ok (.aload_n 0, 1) := by decide +kernel
theorem dX8_dig_6 : decode cX8_dig 6 = .ok (.getfield 40, 3) := by decide +kernel
theorem dX8_dig_9 : decode cX8_dig 9 = .ok (.iload_n 1, 1) := by decide +kernel
theorem dX8_dig_10 : decode cX8_dig 10 = .ok (.invokevirtual 202, 3) := by decide +kernel
theorem dX8_dig_13 : decode cX8_dig 13 = .ok (.ireturn, 1) := by decide +kernel
theorem dX8_prop_0 : decode cX8_prop 0 = .ok (.aload_n 0, 1) := by decide +kernel
theorem dX8_prop_1 : decode cX8_prop 1 = .ok (.iload_n 1, 1) := by decide +kernel
theorem dX8_prop_2 : decode cX8_prop 2 = .ok (.invokevirtual 117, 3) := by decide +kernel
theorem dX8_prop_5 : decode cX8_prop 5 = .ok (.aload_n 0, 1) := by decide +kernel
theorem dX8_prop_6 : decode cX8_prop 6 = .ok (.getfield 40, 3) := by decide +kernel
theorem dX8_prop_9 : decode cX8_prop 9 = .ok (.iload_n 1, 1) := by decide +kernel
theorem dX8_prop_10 : decode cX8_prop 10 = .ok (.invokevirtual 205, 3) := by decide +kernel
theorem dX8_prop_13 : decode cX8_prop 13 = .ok (.ifCond .ne 13, 3) := by decide +kernel
theorem dX8_prop_16 : decode cX8_prop 16 = .ok (.new 58, 3) := by decide +kernel
theorem dX8_prop_19 : decode cX8_prop 19 = .ok (.dup, 1) := by decide +kernel
theorem dX8_prop_20 : decode cX8_prop 20 = .ok (.ldc 208, 2) := by decide +kernel
theorem dX8_prop_22 : decode cX8_prop 22 = .ok (.invokespecial 62, 3) := by decide +kernel
theorem dX8_prop_25 : decode cX8_prop 25 = .ok (.athrow, 1) := by decide +kernel
theorem dX8_prop_26 : decode cX8_prop 26 = .ok (.aload_n 0, 1) := by decide +kernel
theorem dX8_prop_27 : decode cX8_prop 27 = .ok (.getfield 40, 3) := by decide +kernel
theorem dX8_prop_30 : decode cX8_prop 30 = .ok (.iload_n 1, 1) := by decide +kernel
theorem dX8_prop_31 : decode cX8_prop 31 = .ok (.invokevirtual 210, 3) := by decide +kernel
theorem dX8_prop_34 : decode cX8_prop 34 = .ok (.aload_n 0, 1) := by decide +kernel
theorem dX8_prop_35 : decode cX8_prop 35 = .ok (.getfield 40, 3) := by decide +kernel
theorem dX8_prop_38 : decode cX8_prop 38 = .ok (.getfield 114, 3) := by decide +kernel
theorem dX8_prop_41 : decode cX8_prop 41 = .ok (.ireturn, 1) := by decide +kernel
theorem dX8_takeProp_0 : decode cX8_takeProp 0 = .ok (.aload_n 0, 1) := by decide +kernel
theorem dX8_takeProp_1 : decode cX8_takeProp 1 = .ok (.iload_n 1, 1) := by decide +kernel
theorem dX8_takeProp_2 : decode cX8_takeProp 2 = .ok (.invokevirtual 117, 3) := by decide +kernel
theorem dX8_takeProp_5 : decode cX8_takeProp 5 = .ok (.aload_n 0, 1) := by decide +kernel
theorem dX8_takeProp_6 : decode cX8_takeProp 6 = .ok (.getfield 40, 3) := by decide +kernel
theorem dX8_takeProp_9 : decode cX8_takeProp 9 = .ok (.iload_n 1, 1) := by decide +kernel
theorem dX8_takeProp_10 : decode cX8_takeProp 10 = .ok (.invokevirtual 124, 3) := by decide +kernel
theorem dX8_takeProp_13 : decode cX8_takeProp 13 = .ok (.ifCond .ne 13, 3) := by decide +kernel
theorem dX8_takeProp_16 : decode cX8_takeProp 16 = .ok (.new 58, 3) := by decide +kernel
theorem dX8_takeProp_19 : decode cX8_takeProp 19 = .ok (.dup, 1) := by decide +kernel
theorem dX8_takeProp_20 : decode cX8_takeProp 20 = .ok (.ldc 213, 2) := by decide +kernel
theorem dX8_takeProp_22 : decode cX8_takeProp 22 = .ok (.invokespecial 62, 3) := by decide +kernel
theorem dX8_takeProp_25 : decode cX8_takeProp 25 = .ok (.athrow, 1) := by decide +kernel
theorem dX8_takeProp_26 : decode cX8_takeProp 26 = .ok (.aload_n 0, 1) := by decide +kernel
theorem dX8_takeProp_27 : decode cX8_takeProp 27 = .ok (.getfield 40, 3) := by decide +kernel
theorem dX8_takeProp_30 : decode cX8_takeProp 30 = .ok (.getfield 105, 3) := by decide +kernel
theorem dX8_takeProp_33 : decode cX8_takeProp 33 = .ok (.istore_n 2, 1) := by decide +kernel
theorem dX8_takeProp_34 : decode cX8_takeProp 34 = .ok (.aload_n 0, 1) := by decide +kernel
theorem dX8_takeProp_35 : decode cX8_takeProp 35 = .ok (.getfield 40, 3) := by decide +kernel
theorem dX8_takeProp_38 : decode cX8_takeProp 38 = .ok (.iload_n 1, 1) := by decide +kernel
theorem dX8_takeProp_39 : decode cX8_takeProp 39 = .ok (.invokevirtual 215, 3) := by decide +kernel
theorem dX8_takeProp_42 : decode cX8_takeProp 42 = .ok (.aload_n 0, 1) := by decide +kernel
theorem dX8_takeProp_43 : decode cX8_takeProp 43 = .ok (.getfield 40, 3) := by decide +kernel
theorem dX8_takeProp_46 : decode cX8_takeProp 46 = .ok (.getfield 105, 3) := by decide +kernel
theorem dX8_takeProp_49 : decode cX8_takeProp 49 = .ok (.iload_n 2, 1) := by decide +kernel
theorem dX8_takeProp_50 : decode cX8_takeProp 50 = .ok (.isub, 1) := by decide +kernel
theorem dX8_takeProp_51 : decode cX8_takeProp 51 = .ok (.ireturn, 1) := by decide +kernel
theorem dX8_passDays_0 : decode cX8_passDays 0 = .ok (.aload_n 0, 1) := by decide +kernel
theorem dX8_passDays_1 : decode cX8_passDays 1 = .ok (.iload_n 1, 1) := by decide +kernel
theorem dX8_passDays_2 : decode cX8_passDays 2 = .ok (.invokevirtual 218, 3) := by decide +kernel
theorem dX8_passDays_5 : decode cX8_passDays 5 = .ok (.aload_n 0, 1) := by decide +kernel
theorem dX8_passDays_6 : decode cX8_passDays 6 = .ok (.getfield 40, 3) := by decide +kernel
theorem dX8_passDays_9 : decode cX8_passDays 9 = .ok (.getfield 108, 3) := by decide +kernel
theorem dX8_passDays_12 : decode cX8_passDays 12 = .ok (.istore_n 2, 1) := by decide +kernel
theorem dX8_passDays_13 : decode cX8_passDays 13 = .ok (.aload_n 0, 1) := by decide +kernel
theorem dX8_passDays_14 : decode cX8_passDays 14 = .ok (.getfield 31, 3) := by decide +kernel
theorem dX8_passDays_17 : decode cX8_passDays 17 = .ok (.aload_n 0, 1) := by decide +kernel
theorem dX8_passDays_18 : decode cX8_passDays 18 = .ok (.getfield 40, 3) := by decide +kernel
theorem dX8_passDays_21 : decode cX8_passDays 21 = .ok (.iload_n 1, 1) := by decide +kernel
theorem dX8_passDays_22 : decode cX8_passDays 22 = .ok (.invokevirtual 221, 3) := by decide +kernel
theorem dX8_passDays_25 : decode cX8_passDays 25 = .ok (.aload_n 0, 1) := by decide +kernel
theorem dX8_passDays_26 : decode cX8_passDays 26 = .ok (.getfield 40, 3) := by decide +kernel
theorem dX8_passDays_29 : decode cX8_passDays 29 = .ok (.getfield 108, 3) := by decide +kernel
theorem dX8_passDays_32 : decode cX8_passDays 32 = .ok (.iload_n 2, 1) := by decide +kernel
theorem dX8_passDays_33 : decode cX8_passDays 33 = .ok (.isub, 1) := by decide +kernel
theorem dX8_passDays_34 : decode cX8_passDays 34 = .ok (.ireturn, 1) := by decide +kernel
theorem dX8_foundAfter_0 : decode cX8_foundAfter 0 = .ok (.aload_n 0, 1) := by decide +kernel
theorem dX8_foundAfter_1 : decode cX8_foundAfter 1 = .ok (.iload_n 1, 1) := by decide +kernel
theorem dX8_foundAfter_2 : decode cX8_foundAfter 2 = .ok (.invokevirtual 218, 3) := by decide +kernel
theorem dX8_foundAfter_5 : decode cX8_foundAfter 5 = .ok (.aload_n 0, 1) := by decide +kernel
theorem dX8_foundAfter_6 : decode cX8_foundAfter 6 = .ok (.getfield 44, 3) := by decide +kernel
theorem dX8_foundAfter_9 : decode cX8_foundAfter 9 = .ok (.aload_n 0, 1) := by decide +kernel
theorem dX8_foundAfter_10 : decode cX8_foundAfter 10 = .ok (.getfield 40, 3) := by decide +kernel
theorem dX8_foundAfter_13 : decode cX8_foundAfter 13 = .ok (.invokevirtual 225, 3) := by decide +kernel
theorem dX8_foundAfter_16 : decode cX8_foundAfter 16 = .ok (.aload_n 0, 1) := by decide +kernel
theorem dX8_foundAfter_17 : decode cX8_foundAfter 17 = .ok (.getfield 31, 3) := by decide +kernel
theorem dX8_foundAfter_20 : decode cX8_foundAfter 20 = .ok (.aload_n 0, 1) := by decide +kernel
theorem dX8_foundAfter_21 : decode cX8_foundAfter 21 = .ok (.getfield 44, 3) := by decide +kernel
theorem dX8_foundAfter_24 : decode cX8_foundAfter 24 = .ok (.iload_n 1, 1) := by decide +kernel
theorem dX8_foundAfter_25 : decode cX8_foundAfter 25 = .ok (.invokevirtual 221, 3) := by decide +kernel
theorem dX8_foundAfter_28 : decode cX8_foundAfter 28 = .ok (.aload_n 0, 1) := by decide +kernel
theorem dX8_foundAfter_29 : decode cX8_foundAfter 29 = .ok (.getfield 44, 3) := by decide +kernel
theorem dX8_foundAfter_32 : decode cX8_foundAfter 32 = .ok (.getfield 108, 3) := by decide +kernel
theorem dX8_foundAfter_35 : decode cX8_foundAfter 35 = .ok (.ireturn, 1) := by decide +kernel
theorem dX8_daysUntilFound_0 : decode cX8_daysUntilFound 0 = .ok (.aload_n 0, 1) := by decide +kernel
theorem dX8_daysUntilFound_1 : decode cX8_daysUntilFound 1 = .ok (.iload_n 1, 1) := by decide +kernel
theorem dX8_daysUntilFound_2 : decode cX8_daysUntilFound 2 = .ok (.invokevirtual 146, 3) := by decide +kernel
theorem dX8_daysUntilFound_5 : decode cX8_daysUntilFound 5 = .ok (.aload_n 0, 1) := by decide +kernel
theorem dX8_daysUntilFound_6 : decode cX8_daysUntilFound 6 = .ok (.getfield 44, 3) := by decide +kernel
theorem dX8_daysUntilFound_9 : decode cX8_daysUntilFound 9 = .ok (.aload_n 0, 1) := by decide +kernel
theorem dX8_daysUntilFound_10 : decode cX8_daysUntilFound 10 = .ok (.getfield 40, 3) := by decide +kernel
theorem dX8_daysUntilFound_13 : decode cX8_daysUntilFound 13 = .ok (.invokevirtual 225, 3) := by decide +kernel
theorem dX8_daysUntilFound_16 : decode cX8_daysUntilFound 16 = .ok (.iconst 0, 1) := by decide +kernel
theorem dX8_daysUntilFound_17 : decode cX8_daysUntilFound 17 = .ok (.istore_n 2, 1) := by decide +kernel
theorem dX8_daysUntilFound_18 : decode cX8_daysUntilFound 18 = .ok (.iload_n 2, 1) := by decide +kernel
theorem dX8_daysUntilFound_19 : decode cX8_daysUntilFound 19 = .ok (.bipush 30, 2) := by decide +kernel
theorem dX8_daysUntilFound_21 : decode cX8_daysUntilFound 21 = .ok (.if_icmp .ge 34, 3) := by decide +kernel
theorem dX8_daysUntilFound_24 : decode cX8_daysUntilFound 24 = .ok (.aload_n 0, 1) := by decide +kernel
theorem dX8_daysUntilFound_25 : decode cX8_daysUntilFound 25 = .ok (.getfield 44, 3) := by decide +kernel
theorem dX8_daysUntilFound_28 : decode cX8_daysUntilFound 28 = .ok (.iload_n 1, 1) := by decide +kernel
theorem dX8_daysUntilFound_29 : decode cX8_daysUntilFound 29 = .ok (.invokevirtual 152, 3) := by decide +kernel
theorem dX8_daysUntilFound_32 : decode cX8_daysUntilFound 32 = .ok (.ifCond .eq 5, 3) := by decide +kernel
theorem dX8_daysUntilFound_35 : decode cX8_daysUntilFound 35 = .ok (.iload_n 2, 1) := by decide +kernel
theorem dX8_daysUntilFound_36 : decode cX8_daysUntilFound 36 = .ok (.ireturn, 1) := by decide +kernel
theorem dX8_daysUntilFound_37 : decode cX8_daysUntilFound 37 = .ok (.aload_n 0, 1) := by decide +kernel
theorem dX8_daysUntilFound_38 : decode cX8_daysUntilFound 38 = .ok (.getfield 31, 3) := by decide +kernel
theorem dX8_daysUntilFound_41 : decode cX8_daysUntilFound 41 = .ok (.aload_n 0, 1) := by decide +kernel
theorem dX8_daysUntilFound_42 : decode cX8_daysUntilFound 42 = .ok (.getfield 44, 3) := by decide +kernel
theorem dX8_daysUntilFound_45 : decode cX8_daysUntilFound 45 = .ok (.iconst 1, 1) := by decide +kernel
theorem dX8_daysUntilFound_46 : decode cX8_daysUntilFound 46 = .ok (.invokevirtual 221, 3) := by decide +kernel
theorem dX8_daysUntilFound_49 : decode cX8_daysUntilFound 49 = .ok (.iinc 2 1, 3) := by decide +kernel
theorem dX8_daysUntilFound_52 : decode cX8_daysUntilFound 52 = .ok (.goto (-34), 3) := by decide +kernel
theorem dX8_daysUntilFound_55 : decode cX8_daysUntilFound 55 = .ok (.aload_n 0, 1) := by decide +kernel
theorem dX8_daysUntilFound_56 : decode cX8_daysUntilFound 56 = .ok (.getfield 44, 3) := by decide +kernel
theorem dX8_daysUntilFound_59 : decode cX8_daysUntilFound 59 = .ok (.iload_n 1, 1) := by decide +kernel
theorem dX8_daysUntilFound_60 : decode cX8_daysUntilFound 60 = .ok (.invokevirtual 152, 3) := by decide +kernel
theorem dX8_daysUntilFound_63 : decode cX8_daysUntilFound 63 = .ok (.ifCond .eq 8, 3) := by decide +kernel
theorem dX8_daysUntilFound_66 : decode cX8_daysUntilFound 66 = .ok (.bipush 30, 2) := by decide +kernel
theorem dX8_daysUntilFound_68 : decode cX8_daysUntilFound 68 = .ok (.goto 4, 3) := by decide +kernel
theorem dX8_daysUntilFound_71 : decode cX8_daysUntilFound 71 = .ok (.iconst (-1), 1) := by decide +kernel
theorem dX8_daysUntilFound_72 : decode cX8_daysUntilFound 72 = .ok (.ireturn, 1) := by decide +kernel
theorem dX8_wouldSlide_0 : decode cX8_wouldSlide 0 = .ok (.aload_n 0, 1) := by decide +kernel
theorem dX8_wouldSlide_1 : decode cX8_wouldSlide 1 = .ok (.iload_n 1, 1) := by decide +kernel
theorem dX8_wouldSlide_2 : decode cX8_wouldSlide 2 = .ok (.invokevirtual 128, 3) := by decide +kernel
theorem dX8_wouldSlide_5 : decode cX8_wouldSlide 5 = .ok (.aload_n 0, 1) := by decide +kernel
theorem dX8_wouldSlide_6 : decode cX8_wouldSlide 6 = .ok (.iload_n 1, 1) := by decide +kernel
theorem dX8_wouldSlide_7 : decode cX8_wouldSlide 7 = .ok (.invokevirtual 229, 3) := by decide +kernel
theorem dX8_wouldSlide_10 : decode cX8_wouldSlide 10 = .ok (.ireturn, 1) := by decide +kernel
theorem dX8_bestDig_0 : decode cX8_bestDig 0 = .ok (.iconst (-1), 1) := by decide +kernel
theorem dX8_bestDig_1 : decode cX8_bestDig 1 = .ok (.istore_n 1, 1) := by decide +kernel
theorem dX8_bestDig_2 : decode cX8_bestDig 2 = .ok (.iconst 0, 1) := by decide +kernel
theorem dX8_bestDig_3 : decode cX8_bestDig 3 = .ok (.istore_n 2, 1) := by decide +kernel
theorem dX8_bestDig_4 : decode cX8_bestDig 4 = .ok (.iconst 0, 1) := by decide +kernel
theorem dX8_bestDig_5 : decode cX8_bestDig 5 = .ok (.istore_n 3, 1) := by decide +kernel
theorem dX8_bestDig_6 : decode cX8_bestDig 6 = .ok (.iconst 0, 1) := by decide +kernel
theorem dX8_bestDig_7 : decode cX8_bestDig 7 = .ok (.istore 4, 2) := by decide +kernel
theorem dX8_bestDig_9 : decode cX8_bestDig 9 = .ok (.iload 4, 2) := by decide +kernel
theorem dX8_bestDig_11 : decode cX8_bestDig 11 = .ok (.aload_n 0, 1) := by decide +kernel
theorem dX8_bestDig_12 : decode cX8_bestDig 12 = .ok (.getfield 47, 3) := by decide +kernel
theorem dX8_bestDig_15 : decode cX8_bestDig 15 = .ok (.getfield 87, 3) := by decide +kernel
theorem dX8_bestDig_18 : decode cX8_bestDig 18 = .ok (.if_icmp .ge 72, 3) := by decide +kernel
theorem dX8_bestDig_21 : decode cX8_bestDig 21 = .ok (.aload_n 0, 1) := by decide +kernel
theorem dX8_bestDig_22 : decode cX8_bestDig 22 = .ok (.getfield 40, 3) := by decide +kernel
theorem dX8_bestDig_25 : decode cX8_bestDig 25 = .ok (.iload 4, 2) := by decide +kernel
theorem dX8_bestDig_27 : decode cX8_bestDig 27 = .ok (.invokevirtual 120, 3) := by decide +kernel
theorem dX8_bestDig_30 : decode cX8_bestDig 30 = .ok (.ifCond .le 54, 3) := by decide +kernel
theorem dX8_bestDig_33 : decode cX8_bestDig 33 = .ok (.aload_n 0, 1) := by decide +kernel
theorem dX8_bestDig_34 : decode cX8_bestDig 34 = .ok (.iload 4, 2) := by decide +kernel
theorem dX8_bestDig_36 : decode cX8_bestDig 36 = .ok (.invokevirtual 229, 3) := by decide +kernel
theorem dX8_bestDig_39 : decode cX8_bestDig 39 = .ok (.istore 5, 2) := by decide +kernel
theorem dX8_bestDig_41 : decode cX8_bestDig 41 = .ok (.aload_n 0, 1) := by decide +kernel
theorem dX8_bestDig_42 : decode cX8_bestDig 42 = .ok (.getfield 40, 3) := by decide +kernel
theorem dX8_bestDig_45 : decode cX8_bestDig 45 = .ok (.iload 4, 2) := by decide +kernel
theorem dX8_bestDig_47 : decode cX8_bestDig 47 = .ok (.invokevirtual 143, 3) := by decide +kernel
theorem dX8_bestDig_50 : decode cX8_bestDig 50 = .ok (.istore 6, 2) := by decide +kernel
theorem dX8_bestDig_52 : decode cX8_bestDig 52 = .ok (.iload_n 1, 1) := by decide +kernel
theorem dX8_bestDig_53 : decode cX8_bestDig 53 = .ok (.iconst (-1), 1) := by decide +kernel
theorem dX8_bestDig_54 : decode cX8_bestDig 54 = .ok (.if_icmp .eq 21, 3) := by decide +kernel
theorem dX8_bestDig_57 : decode cX8_bestDig 57 = .ok (.iload 5, 2) := by decide +kernel
theorem dX8_bestDig_59 : decode cX8_bestDig 59 = .ok (.iload_n 2, 1) := by decide +kernel
theorem dX8_bestDig_60 : decode cX8_bestDig 60 = .ok (.if_icmp .lt 15, 3) := by decide +kernel
theorem dX8_bestDig_63 : decode cX8_bestDig 63 = .ok (.iload 5, 2) := by decide +kernel
theorem dX8_bestDig_65 : decode cX8_bestDig 65 = .ok (.iload_n 2, 1) := by decide +kernel
theorem dX8_bestDig_66 : decode cX8_bestDig 66 = .ok (.if_icmp .ne 18, 3) := by decide +kernel
theorem dX8_bestDig_69 : decode cX8_bestDig 69 = .ok (.iload 6, 2) := by decide +kernel
theorem dX8_bestDig_71 : decode cX8_bestDig 71 = .ok (.iload_n 3, 1) := by decide +kernel
theorem dX8_bestDig_72 : decode cX8_bestDig 72 = .ok (.if_icmp .le 12, 3) := by decide +kernel
theorem dX8_bestDig_75 : decode cX8_bestDig 75 = .ok (.iload 4, 2) := by decide +kernel
theorem dX8_bestDig_77 : decode cX8_bestDig 77 = .ok (.istore_n 1, 1) := by decide +kernel
theorem dX8_bestDig_78 : decode cX8_bestDig 78 = .ok (.iload 5, 2) := by decide +kernel
theorem dX8_bestDig_80 : decode cX8_bestDig 80 = .ok (.istore_n 2, 1) := by decide +kernel
theorem dX8_bestDig_81 : decode cX8_bestDig 81 = .ok (.iload 6, 2) := by decide +kernel
theorem dX8_bestDig_83 : decode cX8_bestDig 83 = .ok (.istore_n 3, 1) := by decide +kernel
theorem dX8_bestDig_84 : decode cX8_bestDig 84 = .ok (.iinc 4 1, 3) := by decide +kernel
theorem dX8_bestDig_87 : decode cX8_bestDig 87 = .ok (.goto (-78), 3) := by decide +kernel
theorem dX8_bestDig_90 : decode cX8_bestDig 90 = .ok (.iload_n 1, 1) := by decide +kernel
theorem dX8_bestDig_91 : decode cX8_bestDig 91 = .ok (.ireturn, 1) := by decide +kernel
theorem dX8_meanYear_0 : decode cX8_meanYear 0 = .ok (.iconst 0, 1) := by decide +kernel
theorem dX8_meanYear_1 : decode cX8_meanYear 1 = .ok (.istore_n 1, 1) := by decide +kernel
theorem dX8_meanYear_2 : decode cX8_meanYear 2 = .ok (.iconst 0, 1) := by decide +kernel
theorem dX8_meanYear_3 : decode cX8_meanYear 3 = .ok (.istore_n 2, 1) := by decide +kernel
theorem dX8_meanYear_4 : decode cX8_meanYear 4 = .ok (.iconst 0, 1) := by decide +kernel
theorem dX8_meanYear_5 : decode cX8_meanYear 5 = .ok (.istore_n 3, 1) := by decide +kernel
theorem dX8_meanYear_6 : decode cX8_meanYear 6 = .ok (.iload_n 3, 1) := by decide +kernel
theorem dX8_meanYear_7 : decode cX8_meanYear 7 = .ok (.aload_n 0, 1) := by decide +kernel
theorem dX8_meanYear_8 : decode cX8_meanYear 8 = .ok (.getfield 47, 3) := by decide +kernel
theorem dX8_meanYear_11 : decode cX8_meanYear 11 = .ok (.getfield 93, 3) := by decide +kernel
theorem dX8_meanYear_14 : decode cX8_meanYear 14 = .ok (.if_icmp .ge 45, 3) := by decide +kernel
theorem dX8_meanYear_17 : decode cX8_meanYear 17 = .ok (.aload_n 0, 1) := by decide +kernel
theorem dX8_meanYear_18 : decode cX8_meanYear 18 = .ok (.getfield 47, 3) := by decide +kernel
theorem dX8_meanYear_21 : decode cX8_meanYear 21 = .ok (.iload_n 3, 1) := by decide +kernel
theorem dX8_meanYear_22 : decode cX8_meanYear 22 = .ok (.invokevirtual 149, 3) := by decide +kernel
theorem dX8_meanYear_25 : decode cX8_meanYear 25 = .ok (.ifCond .eq 28, 3) := by decide +kernel
theorem dX8_meanYear_28 : decode cX8_meanYear 28 = .ok (.aload_n 0, 1) := by decide +kernel
theorem dX8_meanYear_29 : decode cX8_meanYear 29 = .ok (.getfield 40, 3) := by decide +kernel
theorem dX8_meanYear_32 : decode cX8_meanYear 32 = .ok (.iload_n 3, 1) := by decide +kernel
theorem dX8_meanYear_33 : decode cX8_meanYear 33 = .ok (.invokevirtual 157, 3) := by decide +kernel
theorem dX8_meanYear_36 : decode cX8_meanYear 36 = .ok (.ifCond .eq 17, 3) := by decide +kernel
theorem dX8_meanYear_39 : decode cX8_meanYear 39 = .ok (.iinc 1 1, 3) := by decide +kernel
theorem dX8_meanYear_42 : decode cX8_meanYear 42 = .ok (.iload_n 2, 1) := by decide +kernel
theorem dX8_meanYear_43 : decode cX8_meanYear 43 = .ok (.aload_n 0, 1) := by decide +kernel
theorem dX8_meanYear_44 : decode cX8_meanYear 44 = .ok (.getfield 47, 3) := by decide +kernel
theorem dX8_meanYear_47 : decode cX8_meanYear 47 = .ok (.iload_n 3, 1) := by decide +kernel
theorem dX8_meanYear_48 : decode cX8_meanYear 48 = .ok (.invokevirtual 165, 3) := by decide +kernel
theorem dX8_meanYear_51 : decode cX8_meanYear 51 = .ok (.iadd, 1) := by decide +kernel
theorem dX8_meanYear_52 : decode cX8_meanYear 52 = .ok (.istore_n 2, 1) := by decide +kernel
theorem dX8_meanYear_53 : decode cX8_meanYear 53 = .ok (.iinc 3 1, 3) := by decide +kernel
theorem dX8_meanYear_56 : decode cX8_meanYear 56 = .ok (.goto (-50), 3) := by decide +kernel
theorem dX8_meanYear_59 : decode cX8_meanYear 59 = .ok (.iload_n 1, 1) := by decide +kernel
theorem dX8_meanYear_60 : decode cX8_meanYear 60 = .ok (.ifCond .ne 7, 3) := by decide +kernel
theorem dX8_meanYear_63 : decode cX8_meanYear 63 = .ok (.dconst 0, 1) := by decide +kernel
theorem dX8_meanYear_64 : decode cX8_meanYear 64 = .ok (.goto 8, 3) := by decide +kernel
theorem dX8_meanYear_67 : decode cX8_meanYear 67 = .ok (.iload_n 2, 1) := by decide +kernel
theorem dX8_meanYear_68 : decode cX8_meanYear 68 = .ok (.i2d, 1) := by decide +kernel
theorem dX8_meanYear_69 : decode cX8_meanYear 69 = .ok (.iload_n 1, 1) := by decide +kernel
theorem dX8_meanYear_70 : decode cX8_meanYear 70 = .ok (.i2d, 1) := by decide +kernel
theorem dX8_meanYear_71 : decode cX8_meanYear 71 = .ok (.ddiv, 1) := by decide +kernel
theorem dX8_meanYear_72 : decode cX8_meanYear 72 = .ok (.dreturn, 1) := by decide +kernel
theorem dX8_digest_0 : decode cX8_digest 0 = .ok (.ldc2_w 232, 3) := by decide +kernel
theorem dX8_digest_3 : decode cX8_digest 3 = .ok (.lstore_n 1, 1) := by decide +kernel
theorem dX8_digest_4 : decode cX8_digest 4 = .ok (.lload_n 1, 1) := by decide +kernel
theorem dX8_digest_5 : decode cX8_digest 5 = .ok (.ldc2_w 234, 3) := by decide +kernel
theorem dX8_digest_8 : decode cX8_digest 8 = .ok (.lmul, 1) := by decide +kernel
theorem dX8_digest_9 : decode cX8_digest 9 = .ok (.aload_n 0, 1) := by decide +kernel
theorem dX8_digest_10 : decode cX8_digest 10 = .ok (.getfield 47, 3) := by decide +kernel
theorem dX8_digest_13 : decode cX8_digest 13 = .ok (.getfield 87, 3) := by decide +kernel
theorem dX8_digest_16 : decode cX8_digest 16 = .ok (.i2l, 1) := by decide +kernel
theorem dX8_digest_17 : decode cX8_digest 17 = .ok (.ladd, 1) := by decide +kernel
theorem dX8_digest_18 : decode cX8_digest 18 = .ok (.lstore_n 1, 1) := by decide +kernel
theorem dX8_digest_19 : decode cX8_digest 19 = .ok (.lload_n 1, 1) := by decide +kernel
theorem dX8_digest_20 : decode cX8_digest 20 = .ok (.ldc2_w 234, 3) := by decide +kernel
theorem dX8_digest_23 : decode cX8_digest 23 = .ok (.lmul, 1) := by decide +kernel
theorem dX8_digest_24 : decode cX8_digest 24 = .ok (.aload_n 0, 1) := by decide +kernel
theorem dX8_digest_25 : decode cX8_digest 25 = .ok (.getfield 47, 3) := by decide +kernel
theorem dX8_digest_28 : decode cX8_digest 28 = .ok (.getfield 90, 3) := by decide +kernel
theorem dX8_digest_31 : decode cX8_digest 31 = .ok (.i2l, 1) := by decide +kernel
theorem dX8_digest_32 : decode cX8_digest 32 = .ok (.ladd, 1) := by decide +kernel
theorem dX8_digest_33 : decode cX8_digest 33 = .ok (.lstore_n 1, 1) := by decide +kernel
theorem dX8_digest_34 : decode cX8_digest 34 = .ok (.lload_n 1, 1) := by decide +kernel
theorem dX8_digest_35 : decode cX8_digest 35 = .ok (.ldc2_w 234, 3) := by decide +kernel
theorem dX8_digest_38 : decode cX8_digest 38 = .ok (.lmul, 1) := by decide +kernel
theorem dX8_digest_39 : decode cX8_digest 39 = .ok (.aload_n 0, 1) := by decide +kernel
theorem dX8_digest_40 : decode cX8_digest 40 = .ok (.getfield 47, 3) := by decide +kernel
theorem dX8_digest_43 : decode cX8_digest 43 = .ok (.getfield 93, 3) := by decide +kernel
theorem dX8_digest_46 : decode cX8_digest 46 = .ok (.i2l, 1) := by decide +kernel
theorem dX8_digest_47 : decode cX8_digest 47 = .ok (.ladd, 1) := by decide +kernel
theorem dX8_digest_48 : decode cX8_digest 48 = .ok (.lstore_n 1, 1) := by decide +kernel
theorem dX8_digest_49 : decode cX8_digest 49 = .ok (.lload_n 1, 1) := by decide +kernel
theorem dX8_digest_50 : decode cX8_digest 50 = .ok (.ldc2_w 234, 3) := by decide +kernel
theorem dX8_digest_53 : decode cX8_digest 53 = .ok (.lmul, 1) := by decide +kernel
theorem dX8_digest_54 : decode cX8_digest 54 = .ok (.aload_n 0, 1) := by decide +kernel
theorem dX8_digest_55 : decode cX8_digest 55 = .ok (.getfield 40, 3) := by decide +kernel
theorem dX8_digest_58 : decode cX8_digest 58 = .ok (.getfield 96, 3) := by decide +kernel
theorem dX8_digest_61 : decode cX8_digest 61 = .ok (.i2l, 1) := by decide +kernel
theorem dX8_digest_62 : decode cX8_digest 62 = .ok (.ladd, 1) := by decide +kernel
theorem dX8_digest_63 : decode cX8_digest 63 = .ok (.lstore_n 1, 1) := by decide +kernel
theorem dX8_digest_64 : decode cX8_digest 64 = .ok (.lload_n 1, 1) := by decide +kernel
theorem dX8_digest_65 : decode cX8_digest 65 = .ok (.ldc2_w 234, 3) := by decide +kernel
theorem dX8_digest_68 : decode cX8_digest 68 = .ok (.lmul, 1) := by decide +kernel
theorem dX8_digest_69 : decode cX8_digest 69 = .ok (.aload_n 0, 1) := by decide +kernel
theorem dX8_digest_70 : decode cX8_digest 70 = .ok (.getfield 40, 3) := by decide +kernel
theorem dX8_digest_73 : decode cX8_digest 73 = .ok (.getfield 99, 3) := by decide +kernel
theorem dX8_digest_76 : decode cX8_digest 76 = .ok (.i2l, 1) := by decide +kernel
theorem dX8_digest_77 : decode cX8_digest 77 = .ok (.ladd, 1) := by decide +kernel
theorem dX8_digest_78 : decode cX8_digest 78 = .ok (.lstore_n 1, 1) := by decide +kernel
theorem dX8_digest_79 : decode cX8_digest 79 = .ok (.lload_n 1, 1) := by decide +kernel
theorem dX8_digest_80 : decode cX8_digest 80 = .ok (.ldc2_w 234, 3) := by decide +kernel
theorem dX8_digest_83 : decode cX8_digest 83 = .ok (.lmul, 1) := by decide +kernel
theorem dX8_digest_84 : decode cX8_digest 84 = .ok (.aload_n 0, 1) := by decide +kernel
theorem dX8_digest_85 : decode cX8_digest 85 = .ok (.getfield 40, 3) := by decide +kernel
theorem dX8_digest_88 : decode cX8_digest 88 = .ok (.getfield 102, 3) := by decide +kernel
theorem dX8_digest_91 : decode cX8_digest 91 = .ok (.i2l, 1) := by decide +kernel
theorem dX8_digest_92 : decode cX8_digest 92 = .ok (.ladd, 1) := by decide +kernel
theorem dX8_digest_93 : decode cX8_digest 93 = .ok (.lstore_n 1, 1) := by decide +kernel
theorem dX8_digest_94 : decode cX8_digest 94 = .ok (.lload_n 1, 1) := by decide +kernel
theorem dX8_digest_95 : decode cX8_digest 95 = .ok (.ldc2_w 234, 3) := by decide +kernel
theorem dX8_digest_98 : decode cX8_digest 98 = .ok (.lmul, 1) := by decide +kernel
theorem dX8_digest_99 : decode cX8_digest 99 = .ok (.aload_n 0, 1) := by decide +kernel
theorem dX8_digest_100 : decode cX8_digest 100 = .ok (.getfield 40, 3) := by decide +kernel
theorem dX8_digest_103 : decode cX8_digest 103 = .ok (.getfield 105, 3) := by decide +kernel
theorem dX8_digest_106 : decode cX8_digest 106 = .ok (.i2l, 1) := by decide +kernel
theorem dX8_digest_107 : decode cX8_digest 107 = .ok (.ladd, 1) := by decide +kernel
theorem dX8_digest_108 : decode cX8_digest 108 = .ok (.lstore_n 1, 1) := by decide +kernel
theorem dX8_digest_109 : decode cX8_digest 109 = .ok (.lload_n 1, 1) := by decide +kernel
theorem dX8_digest_110 : decode cX8_digest 110 = .ok (.ldc2_w 234, 3) := by decide +kernel
theorem dX8_digest_113 : decode cX8_digest 113 = .ok (.lmul, 1) := by decide +kernel
theorem dX8_digest_114 : decode cX8_digest 114 = .ok (.aload_n 0, 1) := by decide +kernel
theorem dX8_digest_115 : decode cX8_digest 115 = .ok (.getfield 40, 3) := by decide +kernel
theorem dX8_digest_118 : decode cX8_digest 118 = .ok (.getfield 108, 3) := by decide +kernel
theorem dX8_digest_121 : decode cX8_digest 121 = .ok (.i2l, 1) := by decide +kernel
theorem dX8_digest_122 : decode cX8_digest 122 = .ok (.ladd, 1) := by decide +kernel
theorem dX8_digest_123 : decode cX8_digest 123 = .ok (.lstore_n 1, 1) := by decide +kernel
theorem dX8_digest_124 : decode cX8_digest 124 = .ok (.lload_n 1, 1) := by decide +kernel
theorem dX8_digest_125 : decode cX8_digest 125 = .ok (.ldc2_w 234, 3) := by decide +kernel
theorem dX8_digest_128 : decode cX8_digest 128 = .ok (.lmul, 1) := by decide +kernel
theorem dX8_digest_129 : decode cX8_digest 129 = .ok (.aload_n 0, 1) := by decide +kernel
theorem dX8_digest_130 : decode cX8_digest 130 = .ok (.getfield 40, 3) := by decide +kernel
theorem dX8_digest_133 : decode cX8_digest 133 = .ok (.getfield 111, 3) := by decide +kernel
theorem dX8_digest_136 : decode cX8_digest 136 = .ok (.i2l, 1) := by decide +kernel
theorem dX8_digest_137 : decode cX8_digest 137 = .ok (.ladd, 1) := by decide +kernel
theorem dX8_digest_138 : decode cX8_digest 138 = .ok (.lstore_n 1, 1) := by decide +kernel
theorem dX8_digest_139 : decode cX8_digest 139 = .ok (.lload_n 1, 1) := by decide +kernel
theorem dX8_digest_140 : decode cX8_digest 140 = .ok (.ldc2_w 234, 3) := by decide +kernel
theorem dX8_digest_143 : decode cX8_digest 143 = .ok (.lmul, 1) := by decide +kernel
theorem dX8_digest_144 : decode cX8_digest 144 = .ok (.aload_n 0, 1) := by decide +kernel
theorem dX8_digest_145 : decode cX8_digest 145 = .ok (.invokevirtual 236, 3) := by decide +kernel
theorem dX8_digest_148 : decode cX8_digest 148 = .ok (.i2l, 1) := by decide +kernel
theorem dX8_digest_149 : decode cX8_digest 149 = .ok (.ladd, 1) := by decide +kernel
theorem dX8_digest_150 : decode cX8_digest 150 = .ok (.lstore_n 1, 1) := by decide +kernel
theorem dX8_digest_151 : decode cX8_digest 151 = .ok (.aload_n 0, 1) := by decide +kernel
theorem dX8_digest_152 : decode cX8_digest 152 = .ok (.lload_n 1, 1) := by decide +kernel
theorem dX8_digest_153 : decode cX8_digest 153 = .ok (.invokevirtual 239, 3) := by decide +kernel
theorem dX8_digest_156 : decode cX8_digest 156 = .ok (.lstore_n 1, 1) := by decide +kernel
theorem dX8_digest_157 : decode cX8_digest 157 = .ok (.aload_n 0, 1) := by decide +kernel
theorem dX8_digest_158 : decode cX8_digest 158 = .ok (.lload_n 1, 1) := by decide +kernel
theorem dX8_digest_159 : decode cX8_digest 159 = .ok (.invokevirtual 243, 3) := by decide +kernel
theorem dX8_digest_162 : decode cX8_digest 162 = .ok (.lstore_n 1, 1) := by decide +kernel
theorem dX8_digest_163 : decode cX8_digest 163 = .ok (.aload_n 0, 1) := by decide +kernel
theorem dX8_digest_164 : decode cX8_digest 164 = .ok (.lload_n 1, 1) := by decide +kernel
theorem dX8_digest_165 : decode cX8_digest 165 = .ok (.invokevirtual 246, 3) := by decide +kernel
theorem dX8_digest_168 : decode cX8_digest 168 = .ok (.lreturn, 1) := by decide +kernel
theorem dX8_digestSeats_0 : decode cX8_digestSeats 0 = .ok (.lload_n 1, 1) := by decide +kernel
theorem dX8_digestSeats_1 : decode cX8_digestSeats 1 = .ok (.lstore_n 3, 1) := by decide +kernel
theorem dX8_digestSeats_2 : decode cX8_digestSeats 2 = .ok (.iconst 0, 1) := by decide +kernel
theorem dX8_digestSeats_3 : decode cX8_digestSeats 3 = .ok (.istore 5, 2) := by decide +kernel
theorem dX8_digestSeats_5 : decode cX8_digestSeats 5 = .ok (.iload 5, 2) := by decide +kernel
theorem dX8_digestSeats_7 : decode cX8_digestSeats 7 = .ok (.aload_n 0, 1) := by decide +kernel
theorem dX8_digestSeats_8 : decode cX8_digestSeats 8 = .ok (.getfield 47, 3) := by decide +kernel
theorem dX8_digestSeats_11 : decode cX8_digestSeats 11 = .ok (.getfield 87, 3) := by decide +kernel
theorem dX8_digestSeats_14 : decode cX8_digestSeats 14 = .ok (.if_icmp .ge 92, 3) := by decide +kernel
theorem dX8_digestSeats_17 : decode cX8_digestSeats 17 = .ok (.lload_n 3, 1) := by decide +kernel
theorem dX8_digestSeats_18 : decode cX8_digestSeats 18 = .ok (.ldc2_w 234, 3) := by decide +kernel
theorem dX8_digestSeats_21 : decode cX8_digestSeats 21 = .ok (.lmul, 1) := by decide +kernel
theorem dX8_digestSeats_22 : decode cX8_digestSeats 22 = .ok (.aload_n 0, 1) := by decide +kernel
theorem dX8_digestSeats_23 : decode cX8_digestSeats 23 = .ok (.getfield 40, 3) := by decide +kernel
theorem dX8_digestSeats_26 : decode cX8_digestSeats 26 = .ok (.iload 5, 2) := by decide +kernel
theorem dX8_digestSeats_28 : decode cX8_digestSeats 28 = .ok (.invokevirtual 120, 3) := by decide +kernel
theorem dX8_digestSeats_31 : decode cX8_digestSeats 31 = .ok (.i2l, 1) := by decide +kernel
theorem dX8_digestSeats_32 : decode cX8_digestSeats 32 = .ok (.ladd, 1) := by decide +kernel
theorem dX8_digestSeats_33 : decode cX8_digestSeats 33 = .ok (.lstore_n 3, 1) := by decide +kernel
theorem dX8_digestSeats_34 : decode cX8_digestSeats 34 = .ok (.lload_n 3, 1) := by decide +kernel
theorem dX8_digestSeats_35 : decode cX8_digestSeats 35 = .ok (.ldc2_w 234, 3) := by decide +kernel
theorem dX8_digestSeats_38 : decode cX8_digestSeats 38 = .ok (.lmul, 1) := by decide +kernel
theorem dX8_digestSeats_39 : decode cX8_digestSeats 39 = .ok (.aload_n 0, 1) := by decide +kernel
theorem dX8_digestSeats_40 : decode cX8_digestSeats 40 = .ok (.getfield 40, 3) := by decide +kernel
theorem dX8_digestSeats_43 : decode cX8_digestSeats 43 = .ok (.iload 5, 2) := by decide +kernel
theorem dX8_digestSeats_45 : decode cX8_digestSeats 45 = .ok (.invokevirtual 124, 3) := by decide +kernel
theorem dX8_digestSeats_48 : decode cX8_digestSeats 48 = .ok (.ifCond .eq 7, 3) := by decide +kernel
theorem dX8_digestSeats_51 : decode cX8_digestSeats 51 = .ok (.iconst 1, 1) := by decide +kernel
theorem dX8_digestSeats_52 : decode cX8_digestSeats 52 = .ok (.goto 4, 3) := by decide +kernel
theorem dX8_digestSeats_55 : decode cX8_digestSeats 55 = .ok (.iconst 0, 1) := by decide +kernel
theorem dX8_digestSeats_56 : decode cX8_digestSeats 56 = .ok (.i2l, 1) := by decide +kernel
theorem dX8_digestSeats_57 : decode cX8_digestSeats 57 = .ok (.ladd, 1) := by decide +kernel
theorem dX8_digestSeats_58 : decode cX8_digestSeats 58 = .ok (.lstore_n 3, 1) := by decide +kernel
theorem dX8_digestSeats_59 : decode cX8_digestSeats 59 = .ok (.lload_n 3, 1) := by decide +kernel
theorem dX8_digestSeats_60 : decode cX8_digestSeats 60 = .ok (.ldc2_w 234, 3) := by decide +kernel
theorem dX8_digestSeats_63 : decode cX8_digestSeats 63 = .ok (.lmul, 1) := by decide +kernel
theorem dX8_digestSeats_64 : decode cX8_digestSeats 64 = .ok (.aload_n 0, 1) := by decide +kernel
theorem dX8_digestSeats_65 : decode cX8_digestSeats 65 = .ok (.getfield 40, 3) := by decide +kernel
theorem dX8_digestSeats_68 : decode cX8_digestSeats 68 = .ok (.iload 5, 2) := by decide +kernel
theorem dX8_digestSeats_70 : decode cX8_digestSeats 70 = .ok (.invokevirtual 143, 3) := by decide +kernel
theorem dX8_digestSeats_73 : decode cX8_digestSeats 73 = .ok (.i2l, 1) := by decide +kernel
theorem dX8_digestSeats_74 : decode cX8_digestSeats 74 = .ok (.ladd, 1) := by decide +kernel
theorem dX8_digestSeats_75 : decode cX8_digestSeats 75 = .ok (.lstore_n 3, 1) := by decide +kernel
theorem dX8_digestSeats_76 : decode cX8_digestSeats 76 = .ok (.lload_n 3, 1) := by decide +kernel
theorem dX8_digestSeats_77 : decode cX8_digestSeats 77 = .ok (.ldc2_w 234, 3) := by decide +kernel
theorem dX8_digestSeats_80 : decode cX8_digestSeats 80 = .ok (.lmul, 1) := by decide +kernel
theorem dX8_digestSeats_81 : decode cX8_digestSeats 81 = .ok (.aload_n 0, 1) := by decide +kernel
theorem dX8_digestSeats_82 : decode cX8_digestSeats 82 = .ok (.getfield 47, 3) := by decide +kernel
theorem dX8_digestSeats_85 : decode cX8_digestSeats 85 = .ok (.aload_n 0, 1) := by decide +kernel
theorem dX8_digestSeats_86 : decode cX8_digestSeats 86 = .ok (.getfield 40, 3) := by decide +kernel
theorem dX8_digestSeats_89 : decode cX8_digestSeats 89 = .ok (.iload 5, 2) := by decide +kernel
theorem dX8_digestSeats_91 : decode cX8_digestSeats 91 = .ok (.invokevirtual 131, 3) := by decide +kernel
theorem dX8_digestSeats_94 : decode cX8_digestSeats 94 = .ok (.invokevirtual 134, 3) := by decide +kernel
theorem dX8_digestSeats_97 : decode cX8_digestSeats 97 = .ok (.i2l, 1) := by decide +kernel
theorem dX8_digestSeats_98 : decode cX8_digestSeats 98 = .ok (.ladd, 1) := by decide +kernel
theorem dX8_digestSeats_99 : decode cX8_digestSeats 99 = .ok (.lstore_n 3, 1) := by decide +kernel
theorem dX8_digestSeats_100 : decode cX8_digestSeats 100 = .ok (.iinc 5 1, 3) := by decide +kernel
theorem dX8_digestSeats_103 : decode cX8_digestSeats 103 = .ok (.goto (-98), 3) := by decide +kernel
theorem dX8_digestSeats_106 : decode cX8_digestSeats 106 = .ok (.lload_n 3, 1) := by decide +kernel
theorem dX8_digestSeats_107 : decode cX8_digestSeats 107 = .ok (.lreturn, 1) := by decide +kernel
theorem dX8_digestFinds_0 : decode cX8_digestFinds 0 = .ok (.lload_n 1, 1) := by decide +kernel
theorem dX8_digestFinds_1 : decode cX8_digestFinds 1 = .ok (.lstore_n 3, 1) := by decide +kernel
theorem dX8_digestFinds_2 : decode cX8_digestFinds 2 = .ok (.iconst 0, 1) := by decide +kernel
theorem dX8_digestFinds_3 : decode cX8_digestFinds 3 = .ok (.istore 5, 2) := by decide +kernel
theorem dX8_digestFinds_5 : decode cX8_digestFinds 5 = .ok (.iload 5, 2) := by decide +kernel
theorem dX8_digestFinds_7 : decode cX8_digestFinds 7 = .ok (.aload_n 0, 1) := by decide +kernel
theorem dX8_digestFinds_8 : decode cX8_digestFinds 8 = .ok (.getfield 47, 3) := by decide +kernel
theorem dX8_digestFinds_11 : decode cX8_digestFinds 11 = .ok (.getfield 93, 3) := by decide +kernel
theorem dX8_digestFinds_14 : decode cX8_digestFinds 14 = .ok (.if_icmp .ge 59, 3) := by decide +kernel
theorem dX8_digestFinds_17 : decode cX8_digestFinds 17 = .ok (.lload_n 3, 1) := by decide +kernel
theorem dX8_digestFinds_18 : decode cX8_digestFinds 18 = .ok (.ldc2_w 234, 3) := by decide +kernel
theorem dX8_digestFinds_21 : decode cX8_digestFinds 21 = .ok (.lmul, 1) := by decide +kernel
theorem dX8_digestFinds_22 : decode cX8_digestFinds 22 = .ok (.aload_n 0, 1) := by decide +kernel
theorem dX8_digestFinds_23 : decode cX8_digestFinds 23 = .ok (.getfield 40, 3) := by decide +kernel
theorem dX8_digestFinds_26 : decode cX8_digestFinds 26 = .ok (.iload 5, 2) := by decide +kernel
theorem dX8_digestFinds_28 : decode cX8_digestFinds 28 = .ok (.invokevirtual 152, 3) := by decide +kernel
theorem dX8_digestFinds_31 : decode cX8_digestFinds 31 = .ok (.ifCond .eq 7, 3) := by decide +kernel
theorem dX8_digestFinds_34 : decode cX8_digestFinds 34 = .ok (.iconst 1, 1) := by decide +kernel
theorem dX8_digestFinds_35 : decode cX8_digestFinds 35 = .ok (.goto 4, 3) := by decide +kernel
theorem dX8_digestFinds_38 : decode cX8_digestFinds 38 = .ok (.iconst 0, 1) := by decide +kernel
theorem dX8_digestFinds_39 : decode cX8_digestFinds 39 = .ok (.i2l, 1) := by decide +kernel
theorem dX8_digestFinds_40 : decode cX8_digestFinds 40 = .ok (.ladd, 1) := by decide +kernel
theorem dX8_digestFinds_41 : decode cX8_digestFinds 41 = .ok (.lstore_n 3, 1) := by decide +kernel
theorem dX8_digestFinds_42 : decode cX8_digestFinds 42 = .ok (.lload_n 3, 1) := by decide +kernel
theorem dX8_digestFinds_43 : decode cX8_digestFinds 43 = .ok (.ldc2_w 234, 3) := by decide +kernel
theorem dX8_digestFinds_46 : decode cX8_digestFinds 46 = .ok (.lmul, 1) := by decide +kernel
theorem dX8_digestFinds_47 : decode cX8_digestFinds 47 = .ok (.aload_n 0, 1) := by decide +kernel
theorem dX8_digestFinds_48 : decode cX8_digestFinds 48 = .ok (.getfield 40, 3) := by decide +kernel
theorem dX8_digestFinds_51 : decode cX8_digestFinds 51 = .ok (.iload 5, 2) := by decide +kernel
theorem dX8_digestFinds_53 : decode cX8_digestFinds 53 = .ok (.invokevirtual 157, 3) := by decide +kernel
theorem dX8_digestFinds_56 : decode cX8_digestFinds 56 = .ok (.ifCond .eq 7, 3) := by decide +kernel
theorem dX8_digestFinds_59 : decode cX8_digestFinds 59 = .ok (.iconst 1, 1) := by decide +kernel
theorem dX8_digestFinds_60 : decode cX8_digestFinds 60 = .ok (.goto 4, 3) := by decide +kernel
theorem dX8_digestFinds_63 : decode cX8_digestFinds 63 = .ok (.iconst 0, 1) := by decide +kernel
theorem dX8_digestFinds_64 : decode cX8_digestFinds 64 = .ok (.i2l, 1) := by decide +kernel
theorem dX8_digestFinds_65 : decode cX8_digestFinds 65 = .ok (.ladd, 1) := by decide +kernel
theorem dX8_digestFinds_66 : decode cX8_digestFinds 66 = .ok (.lstore_n 3, 1) := by decide +kernel
theorem dX8_digestFinds_67 : decode cX8_digestFinds 67 = .ok (.iinc 5 1, 3) := by decide +kernel
theorem dX8_digestFinds_70 : decode cX8_digestFinds 70 = .ok (.goto (-65), 3) := by decide +kernel
theorem dX8_digestFinds_73 : decode cX8_digestFinds 73 = .ok (.lload_n 3, 1) := by decide +kernel
theorem dX8_digestFinds_74 : decode cX8_digestFinds 74 = .ok (.lreturn, 1) := by decide +kernel
theorem dX8_digestStrata_0 : decode cX8_digestStrata 0 = .ok (.lload_n 1, 1) := by decide +kernel
theorem dX8_digestStrata_1 : decode cX8_digestStrata 1 = .ok (.lstore_n 3, 1) := by decide +kernel
theorem dX8_digestStrata_2 : decode cX8_digestStrata 2 = .ok (.iconst 0, 1) := by decide +kernel
theorem dX8_digestStrata_3 : decode cX8_digestStrata 3 = .ok (.istore 5, 2) := by decide +kernel
theorem dX8_digestStrata_5 : decode cX8_digestStrata 5 = .ok (.iload 5, 2) := by decide +kernel
theorem dX8_digestStrata_7 : decode cX8_digestStrata 7 = .ok (.aload_n 0, 1) := by decide +kernel
theorem dX8_digestStrata_8 : decode cX8_digestStrata 8 = .ok (.getfield 47, 3) := by decide +kernel
theorem dX8_digestStrata_11 : decode cX8_digestStrata 11 = .ok (.getfield 90, 3) := by decide +kernel
theorem dX8_digestStrata_14 : decode cX8_digestStrata 14 = .ok (.if_icmp .ge 51, 3) := by decide +kernel
theorem dX8_digestStrata_17 : decode cX8_digestStrata 17 = .ok (.lload_n 3, 1) := by decide +kernel
theorem dX8_digestStrata_18 : decode cX8_digestStrata 18 = .ok (.ldc2_w 234, 3) := by decide +kernel
theorem dX8_digestStrata_21 : decode cX8_digestStrata 21 = .ok (.lmul, 1) := by decide +kernel
theorem dX8_digestStrata_22 : decode cX8_digestStrata 22 = .ok (.aload_n 0, 1) := by decide +kernel
theorem dX8_digestStrata_23 : decode cX8_digestStrata 23 = .ok (.getfield 40, 3) := by decide +kernel
theorem dX8_digestStrata_26 : decode cX8_digestStrata 26 = .ok (.iload 5, 2) := by decide +kernel
theorem dX8_digestStrata_28 : decode cX8_digestStrata 28 = .ok (.invokevirtual 184, 3) := by decide +kernel
theorem dX8_digestStrata_31 : decode cX8_digestStrata 31 = .ok (.i2l, 1) := by decide +kernel
theorem dX8_digestStrata_32 : decode cX8_digestStrata 32 = .ok (.ladd, 1) := by decide +kernel
theorem dX8_digestStrata_33 : decode cX8_digestStrata 33 = .ok (.lstore_n 3, 1) := by decide +kernel
theorem dX8_digestStrata_34 : decode cX8_digestStrata 34 = .ok (.lload_n 3, 1) := by decide +kernel
theorem dX8_digestStrata_35 : decode cX8_digestStrata 35 = .ok (.ldc2_w 234, 3) := by decide +kernel
theorem dX8_digestStrata_38 : decode cX8_digestStrata 38 = .ok (.lmul, 1) := by decide +kernel
theorem dX8_digestStrata_39 : decode cX8_digestStrata 39 = .ok (.aload_n 0, 1) := by decide +kernel
theorem dX8_digestStrata_40 : decode cX8_digestStrata 40 = .ok (.getfield 40, 3) := by decide +kernel
theorem dX8_digestStrata_43 : decode cX8_digestStrata 43 = .ok (.iload 5, 2) := by decide +kernel
theorem dX8_digestStrata_45 : decode cX8_digestStrata 45 = .ok (.invokevirtual 199, 3) := by decide +kernel
theorem dX8_digestStrata_48 : decode cX8_digestStrata 48 = .ok (.ifCond .eq 7, 3) := by decide +kernel
theorem dX8_digestStrata_51 : decode cX8_digestStrata 51 = .ok (.iconst 1, 1) := by decide +kernel
theorem dX8_digestStrata_52 : decode cX8_digestStrata 52 = .ok (.goto 4, 3) := by decide +kernel
theorem dX8_digestStrata_55 : decode cX8_digestStrata 55 = .ok (.iconst 0, 1) := by decide +kernel
theorem dX8_digestStrata_56 : decode cX8_digestStrata 56 = .ok (.i2l, 1) := by decide +kernel
theorem dX8_digestStrata_57 : decode cX8_digestStrata 57 = .ok (.ladd, 1) := by decide +kernel
theorem dX8_digestStrata_58 : decode cX8_digestStrata 58 = .ok (.lstore_n 3, 1) := by decide +kernel
theorem dX8_digestStrata_59 : decode cX8_digestStrata 59 = .ok (.iinc 5 1, 3) := by decide +kernel
theorem dX8_digestStrata_62 : decode cX8_digestStrata 62 = .ok (.goto (-57), 3) := by decide +kernel
theorem dX8_digestStrata_65 : decode cX8_digestStrata 65 = .ok (.lload_n 3, 1) := by decide +kernel
theorem dX8_digestStrata_66 : decode cX8_digestStrata 66 = .ok (.lreturn, 1) := by decide +kernel
theorem dX8_slidesOfDig_0 : decode cX8_slidesOfDig 0 = .ok (.aload_n 0, 1) := by decide +kernel
theorem dX8_slidesOfDig_1 : decode cX8_slidesOfDig 1 = .ok (.getfield 44, 3) := by decide +kernel
theorem dX8_slidesOfDig_4 : decode cX8_slidesOfDig 4 = .ok (.aload_n 0, 1) := by decide +kernel
theorem dX8_slidesOfDig_5 : decode cX8_slidesOfDig 5 = .ok (.getfield 40, 3) := by decide +kernel
theorem dX8_slidesOfDig_8 : decode cX8_slidesOfDig 8 = .ok (.invokevirtual 225, 3) := by decide +kernel
theorem dX8_slidesOfDig_11 : decode cX8_slidesOfDig 11 = .ok (.aload_n 0, 1) := by decide +kernel
theorem dX8_slidesOfDig_12 : decode cX8_slidesOfDig 12 = .ok (.getfield 44, 3) := by decide +kernel
theorem dX8_slidesOfDig_15 : decode cX8_slidesOfDig 15 = .ok (.iload_n 1, 1) := by decide +kernel
theorem dX8_slidesOfDig_16 : decode cX8_slidesOfDig 16 = .ok (.invokevirtual 202, 3) := by decide +kernel
theorem dX8_slidesOfDig_19 : decode cX8_slidesOfDig 19 = .ok (.pop, 1) := by decide +kernel
theorem dX8_slidesOfDig_20 : decode cX8_slidesOfDig 20 = .ok (.aload_n 0, 1) := by decide +kernel
theorem dX8_slidesOfDig_21 : decode cX8_slidesOfDig 21 = .ok (.getfield 44, 3) := by decide +kernel
theorem dX8_slidesOfDig_24 : decode cX8_slidesOfDig 24 = .ok (.getfield 105, 3) := by decide +kernel
theorem dX8_slidesOfDig_27 : decode cX8_slidesOfDig 27 = .ok (.aload_n 0, 1) := by decide +kernel
theorem dX8_slidesOfDig_28 : decode cX8_slidesOfDig 28 = .ok (.getfield 40, 3) := by decide +kernel
theorem dX8_slidesOfDig_31 : decode cX8_slidesOfDig 31 = .ok (.getfield 105, 3) := by decide +kernel
theorem dX8_slidesOfDig_34 : decode cX8_slidesOfDig 34 = .ok (.isub, 1) := by decide +kernel
theorem dX8_slidesOfDig_35 : decode cX8_slidesOfDig 35 = .ok (.ireturn, 1) := by decide +kernel
theorem dX8_needSeat_0 : decode cX8_needSeat 0 = .ok (.iload_n 1, 1) := by decide +kernel
theorem dX8_needSeat_1 : decode cX8_needSeat 1 = .ok (.ifCond .lt 14, 3) := by decide +kernel
theorem dX8_needSeat_4 : decode cX8_needSeat 4 = .ok (.iload_n 1, 1) := by decide +kernel
theorem dX8_needSeat_5 : decode cX8_needSeat 5 = .ok (.aload_n 0, 1) := by decide +kernel
theorem dX8_needSeat_6 : decode cX8_needSeat 6 = .ok (.getfield 47, 3) := by decide +kernel
theorem dX8_needSeat_9 : decode cX8_needSeat 9 = .ok (.getfield 87, 3) := by decide +kernel
theorem dX8_needSeat_12 : decode cX8_needSeat 12 = .ok (.if_icmp .lt 13, 3) := by decide +kernel
theorem dX8_needSeat_15 : decode cX8_needSeat 15 = .ok (.new 190, 3) := by decide +kernel
theorem dX8_needSeat_18 : decode cX8_needSeat 18 = .ok (.dup, 1) := by decide +kernel
theorem dX8_needSeat_19 : decode cX8_needSeat 19 = .ok (.ldc 249, 2) := by decide +kernel
theorem dX8_needSeat_21 : decode cX8_needSeat 21 = .ok (.invokespecial 194, 3) := by decide +kernel
theorem dX8_needSeat_24 : decode cX8_needSeat 24 = .ok (.athrow, 1) := by decide +kernel
theorem dX8_needSeat_25 : decode cX8_needSeat 25 = .ok (.return_, 1) := by decide +kernel
theorem dX8_needCushion_0 : decode cX8_needCushion 0 = .ok (.aload_n 0, 1) := by decide +kernel
theorem dX8_needCushion_1 : decode cX8_needCushion 1 = .ok (.iload_n 1, 1) := by decide +kernel
theorem dX8_needCushion_2 : decode cX8_needCushion 2 = .ok (.invokevirtual 117, 3) := by decide +kernel
theorem dX8_needCushion_5 : decode cX8_needCushion 5 = .ok (.aload_n 0, 1) := by decide +kernel
theorem dX8_needCushion_6 : decode cX8_needCushion 6 = .ok (.getfield 40, 3) := by decide +kernel
theorem dX8_needCushion_9 : decode cX8_needCushion 9 = .ok (.iload_n 1, 1) := by decide +kernel
theorem dX8_needCushion_10 : decode cX8_needCushion 10 = .ok (.invokevirtual 120, 3) := by decide +kernel
theorem dX8_needCushion_13 : decode cX8_needCushion 13 = .ok (.ifCond .ne 13, 3) := by decide +kernel
theorem dX8_needCushion_16 : decode cX8_needCushion 16 = .ok (.new 58, 3) := by decide +kernel
theorem dX8_needCushion_19 : decode cX8_needCushion 19 = .ok (.dup, 1) := by decide +kernel
theorem dX8_needCushion_20 : decode cX8_needCushion 20 = .ok (.ldc 251, 2) := by decide +kernel
theorem dX8_needCushion_22 : decode cX8_needCushion 22 = .ok (.invokespecial 62, 3) := by decide +kernel
theorem dX8_needCushion_25 : decode cX8_needCushion 25 = .ok (.athrow, 1) := by decide +kernel
theorem dX8_needCushion_26 : decode cX8_needCushion 26 = .ok (.return_, 1) := by decide +kernel
theorem dX8_needFind_0 : decode cX8_needFind 0 = .ok (.iload_n 1, 1) := by decide +kernel
theorem dX8_needFind_1 : decode cX8_needFind 1 = .ok (.ifCond .lt 14, 3) := by decide +kernel
theorem dX8_needFind_4 : decode cX8_needFind 4 = .ok (.iload_n 1, 1) := by decide +kernel
theorem dX8_needFind_5 : decode cX8_needFind 5 = .ok (.aload_n 0, 1) := by decide +kernel
theorem dX8_needFind_6 : decode cX8_needFind 6 = .ok (.getfield 47, 3) := by decide +kernel
theorem dX8_needFind_9 : decode cX8_needFind 9 = .ok (.getfield 93, 3) := by decide +kernel
theorem dX8_needFind_12 : decode cX8_needFind 12 = .ok (.if_icmp .lt 13, 3) := by decide +kernel
theorem dX8_needFind_15 : decode cX8_needFind 15 = .ok (.new 190, 3) := by decide +kernel
theorem dX8_needFind_18 : decode cX8_needFind 18 = .ok (.dup, 1) := by decide +kernel
theorem dX8_needFind_19 : decode cX8_needFind 19 = .ok (.ldc 253, 2) := by decide +kernel
theorem dX8_needFind_21 : decode cX8_needFind 21 = .ok (.invokespecial 194, 3) := by decide +kernel
theorem dX8_needFind_24 : decode cX8_needFind 24 = .ok (.athrow, 1) := by decide +kernel
theorem dX8_needFind_25 : decode cX8_needFind 25 = .ok (.return_, 1) := by decide +kernel
theorem dX8_needStratum_0 : decode cX8_needStratum 0 = .ok (.iload_n 1, 1) := by decide +kernel
theorem dX8_needStratum_1 : decode cX8_needStratum 1 = .ok (.ifCond .lt 14, 3) := by decide +kernel
theorem dX8_needStratum_4 : decode cX8_needStratum 4 = .ok (.iload_n 1, 1) := by decide +kernel
theorem dX8_needStratum_5 : decode cX8_needStratum 5 = .ok (.aload_n 0, 1) := by decide +kernel
theorem dX8_needStratum_6 : decode cX8_needStratum 6 = .ok (.getfield 47, 3) := by decide +kernel
theorem dX8_needStratum_9 : decode cX8_needStratum 9 = .ok (.getfield 90, 3) := by decide +kernel
theorem dX8_needStratum_12 : decode cX8_needStratum 12 = .ok (.if_icmp .lt 13, 3) := by decide +kernel
theorem dX8_needStratum_15 : decode cX8_needStratum 15 = .ok (.new 190, 3) := by decide +kernel
theorem dX8_needStratum_18 : decode cX8_needStratum 18 = .ok (.dup, 1) := by decide +kernel
theorem dX8_needStratum_19 : decode cX8_needStratum 19 = .ok (.ldc 255, 2) := by decide +kernel
theorem dX8_needStratum_21 : decode cX8_needStratum 21 = .ok (.invokespecial 194, 3) := by decide +kernel
theorem dX8_needStratum_24 : decode cX8_needStratum 24 = .ok (.athrow, 1) := by decide +kernel
theorem dX8_needStratum_25 : decode cX8_needStratum 25 = .ok (.return_, 1) := by decide +kernel
theorem dX8_needDays_0 : decode cX8_needDays 0 = .ok (.iload_n 1, 1) := by decide +kernel
theorem dX8_needDays_1 : decode cX8_needDays 1 = .ok (.iconst 1, 1) := by decide +kernel
theorem dX8_needDays_2 : decode cX8_needDays 2 = .ok (.if_icmp .lt 9, 3) := by decide +kernel
theorem dX8_needDays_5 : decode cX8_needDays 5 = .ok (.iload_n 1, 1) := by decide +kernel
theorem dX8_needDays_6 : decode cX8_needDays 6 = .ok (.bipush 30, 2) := by decide +kernel
theorem dX8_needDays_8 : decode cX8_needDays 8 = .ok (.if_icmp .le 14, 3) := by decide +kernel
theorem dX8_needDays_11 : decode cX8_needDays 11 = .ok (.new 69, 3) := by decide +kernel
theorem dX8_needDays_14 : decode cX8_needDays 14 = .ok (.dup, 1) := by decide +kernel
theorem dX8_needDays_15 : decode cX8_needDays 15 = .ok (.ldc_w 257, 3) := by decide +kernel
theorem dX8_needDays_18 : decode cX8_needDays 18 = .ok (.invokespecial 73, 3) := by decide +kernel
theorem dX8_needDays_21 : decode cX8_needDays 21 = .ok (.athrow, 1) := by decide +kernel
theorem dX8_needDays_22 : decode cX8_needDays 22 = .ok (.return_, 1) := by decide +kernel

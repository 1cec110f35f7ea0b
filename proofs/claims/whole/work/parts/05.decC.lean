theorem dX12_thrown_0 : decode cX12_thrown 0 = .ok (.aload_n 0, 1) := by decide +kernel
theorem dX12_thrown_1 : decode cX12_thrown 1 = .ok (.getfield 3, 3) := by decide +kernel
theorem dX12_thrown_4 : decode cX12_thrown 4 = .ok (.ireturn, 1) := by decide +kernel
theorem dX12_in_0 : decode cX12_in 0 = .ok (.lload_n 0, 1) := by decide +kernel
theorem dX12_in_1 : decode cX12_in 1 = .ok (.lload_n 2, 1) := by decide +kernel
theorem dX12_in_2 : decode cX12_in 2 = .ok (.lcmp, 1) := by decide +kernel
theorem dX12_in_3 : decode cX12_in 3 = .ok (.ifCond .lt 14, 3) := by decide +kernel
theorem dX12_in_6 : decode cX12_in 6 = .ok (.lload_n 0, 1) := by decide +kernel
theorem dX12_in_7 : decode cX12_in 7 = .ok (.lload 4, 2) := by decide +kernel
theorem dX12_in_9 : decode cX12_in 9 = .ok (.lcmp, 1) := by decide +kernel
theorem dX12_in_10 : decode cX12_in 10 = .ok (.ifCond .gt 7, 3) := by decide +kernel
theorem dX12_in_13 : decode cX12_in 13 = .ok (.iconst 1, 1) := by decide +kernel
theorem dX12_in_14 : decode cX12_in 14 = .ok (.goto 4, 3) := by decide +kernel
theorem dX12_in_17 : decode cX12_in 17 = .ok (.iconst 0, 1) := by decide +kernel
theorem dX12_in_18 : decode cX12_in 18 = .ok (.ireturn, 1) := by decide +kernel
theorem dX12_has_0 : decode cX12_has 0 = .ok (.iload_n 0, 1) := by decide +kernel
theorem dX12_has_1 : decode cX12_has 1 = .ok (.iload_n 1, 1) := by decide +kernel
theorem dX12_has_2 : decode cX12_has 2 = .ok (.ishr, 1) := by decide +kernel
theorem dX12_has_3 : decode cX12_has 3 = .ok (.iconst 1, 1) := by decide +kernel
theorem dX12_has_4 : decode cX12_has 4 = .ok (.iand, 1) := by decide +kernel
theorem dX12_has_5 : decode cX12_has 5 = .ok (.iconst 1, 1) := by decide +kernel
theorem dX12_has_6 : decode cX12_has 6 = .ok (.if_icmp .ne 7, 3) := by decide +kernel
theorem dX12_has_9 : decode cX12_has 9 = .ok (.iconst 1, 1) := by decide +kernel
theorem dX12_has_10 : decode cX12_has 10 = .ok (.goto 4, 3) := by decide +kernel
theorem dX12_has_13 : decode cX12_has 13 = .ok (.iconst 0, 1) := by decide +kernel
theorem dX12_has_14 : decode cX12_has 14 = .ok (.ireturn, 1) := by decide +kernel
theorem dX12_flag_0 : decode cX12_flag 0 = .ok (.iload_n 0, 1) := by decide +kernel
theorem dX12_flag_1 : decode cX12_flag 1 = .ok (.ifCond .eq 7, 3) := by decide +kernel
theorem dX12_flag_4 : decode cX12_flag 4 = .ok (.iconst 1, 1) := by decide +kernel
theorem dX12_flag_5 : decode cX12_flag 5 = .ok (.goto 4, 3) := by decide +kernel
theorem dX12_flag_8 : decode cX12_flag 8 = .ok (.iconst 0, 1) := by decide +kernel
theorem dX12_flag_9 : decode cX12_flag 9 = .ok (.ireturn, 1) := by decide +kernel
theorem dX12_refuse_0 : decode cX12_refuse 0 = .ok (.aload_n 0, 1) := by decide +kernel
theorem dX12_refuse_1 : decode cX12_refuse 1 = .ok (.iconst 1, 1) := by decide +kernel
theorem dX12_refuse_2 : decode cX12_refuse 2 = .ok (.putfield 3, 3) := by decide +kernel
theorem dX12_refuse_5 : decode cX12_refuse 5 = .ok (.iconst 0, 1) := by decide +kernel
theorem dX12_refuse_6 : decode cX12_refuse 6 = .ok (.ireturn, 1) := by decide +kernel
theorem dX12_enters_0 : decode cX12_enters 0 = .ok (.aload_n 0, 1) := by decide +kernel
theorem dX12_enters_1 : decode cX12_enters 1 = .ok (.getfield 7, 3) := by decide +kernel
theorem dX12_enters_4 : decode cX12_enters 4 = .ok (.aload_n 0, 1) := by decide +kernel
theorem dX12_enters_5 : decode cX12_enters 5 = .ok (.getfield 11, 3) := by decide +kernel
theorem dX12_enters_8 : decode cX12_enters 8 = .ok (.lload_n 1, 1) := by decide +kernel
theorem dX12_enters_9 : decode cX12_enters 9 = .ok (.lastore, 1) := by decide +kernel
theorem dX12_enters_10 : decode cX12_enters 10 = .ok (.aload_n 0, 1) := by decide +kernel
theorem dX12_enters_11 : decode cX12_enters 11 = .ok (.dup, 1) := by decide +kernel
theorem dX12_enters_12 : decode cX12_enters 12 = .ok (.getfield 11, 3) := by decide +kernel
theorem dX12_enters_15 : decode cX12_enters 15 = .ok (.iconst 1, 1) := by decide +kernel
theorem dX12_enters_16 : decode cX12_enters 16 = .ok (.iadd, 1) := by decide +kernel
theorem dX12_enters_17 : decode cX12_enters 17 = .ok (.putfield 11, 3) := by decide +kernel
theorem dX12_enters_20 : decode cX12_enters 20 = .ok (.return_, 1) := by decide +kernel
theorem dX12_common_0 : decode cX12_common 0 = .ok (.lload_n 0, 1) := by decide +kernel
theorem dX12_common_1 : decode cX12_common 1 = .ok (.lconst 0, 1) := by decide +kernel
theorem dX12_common_2 : decode cX12_common 2 = .ok (.lcmp, 1) := by decide +kernel
theorem dX12_common_3 : decode cX12_common 3 = .ok (.ifCond .ge 8, 3) := by decide +kernel
theorem dX12_common_6 : decode cX12_common 6 = .ok (.lload_n 0, 1) := by decide +kernel
theorem dX12_common_7 : decode cX12_common 7 = .ok (.lneg, 1) := by decide +kernel
theorem dX12_common_8 : decode cX12_common 8 = .ok (.goto 4, 3) := by decide +kernel
theorem dX12_common_11 : decode cX12_common 11 = .ok (.lload_n 0, 1) := by decide +kernel
theorem dX12_common_12 : decode cX12_common 12 = .ok (.lstore 4, 2) := by decide +kernel
theorem dX12_common_14 : decode cX12_common 14 = .ok (.lload_n 2, 1) := by decide +kernel
theorem dX12_common_15 : decode cX12_common 15 = .ok (.lstore 6, 2) := by decide +kernel
theorem dX12_common_17 : decode cX12_common 17 = .ok (.lload 6, 2) := by decide +kernel
theorem dX12_common_19 : decode cX12_common 19 = .ok (.lconst 0, 1) := by decide +kernel
theorem dX12_common_20 : decode cX12_common 20 = .ok (.lcmp, 1) := by decide +kernel
theorem dX12_common_21 : decode cX12_common 21 = .ok (.ifCond .eq 21, 3) := by decide +kernel
theorem dX12_common_24 : decode cX12_common 24 = .ok (.lload 4, 2) := by decide +kernel
theorem dX12_common_26 : decode cX12_common 26 = .ok (.lload 6, 2) := by decide +kernel
theorem dX12_common_28 : decode cX12_common 28 = .ok (.lrem, 1) := by decide +kernel
theorem dX12_common_29 : decode cX12_common 29 = .ok (.lstore 8, 2) := by decide +kernel
theorem dX12_common_31 : decode cX12_common 31 = .ok (.lload 6, 2) := by decide +kernel
theorem dX12_common_33 : decode cX12_common 33 = .ok (.lstore 4, 2) := by decide +kernel
theorem dX12_common_35 : decode cX12_common 35 = .ok (.lload 8, 2) := by decide +kernel
theorem dX12_common_37 : decode cX12_common 37 = .ok (.lstore 6, 2) := by decide +kernel
theorem dX12_common_39 : decode cX12_common 39 = .ok (.goto (-22), 3) := by decide +kernel
theorem dX12_common_42 : decode cX12_common 42 = .ok (.lload 4, 2) := by decide +kernel
theorem dX12_common_44 : decode cX12_common 44 = .ok (.lreturn, 1) := by decide +kernel
theorem dX12_entersFraction_0 : decode cX12_entersFraction 0 = .ok (.lload_n 1, 1) := by decide +kernel
theorem dX12_entersFraction_1 : decode cX12_entersFraction 1 = .ok (.lload_n 3, 1) := by decide +kernel
theorem dX12_entersFraction_2 : decode cX12_entersFraction 2 = .ok (.invokestatic 14, 3) := by decide +kernel
theorem dX12_entersFraction_5 : decode cX12_entersFraction 5 = .ok (.lstore 5, 2) := by decide +kernel
theorem dX12_entersFraction_7 : decode cX12_entersFraction 7 = .ok (.aload_n 0, 1) := by decide +kernel
theorem dX12_entersFraction_8 : decode cX12_entersFraction 8 = .ok (.lload_n 1, 1) := by decide +kernel
theorem dX12_entersFraction_9 : decode cX12_entersFraction 9 = .ok (.lload 5, 2) := by decide +kernel
theorem dX12_entersFraction_11 : decode cX12_entersFraction 11 = .ok (.ldiv, 1) := by decide +kernel
theorem dX12_entersFraction_12 : decode cX12_entersFraction 12 = .ok (.invokevirtual 18, 3) := by decide +kernel
theorem dX12_entersFraction_15 : decode cX12_entersFraction 15 = .ok (.aload_n 0, 1) := by decide +kernel
theorem dX12_entersFraction_16 : decode cX12_entersFraction 16 = .ok (.lload_n 3, 1) := by decide +kernel
theorem dX12_entersFraction_17 : decode cX12_entersFraction 17 = .ok (.lload 5, 2) := by decide +kernel
theorem dX12_entersFraction_19 : decode cX12_entersFraction 19 = .ok (.ldiv, 1) := by decide +kernel
theorem dX12_entersFraction_20 : decode cX12_entersFraction 20 = .ok (.invokevirtual 18, 3) := by decide +kernel
theorem dX12_entersFraction_23 : decode cX12_entersFraction 23 = .ok (.return_, 1) := by decide +kernel
theorem dX12_draws_0 : decode cX12_draws 0 = .ok (.aload_n 0, 1) := by decide +kernel
theorem dX12_draws_1 : decode cX12_draws 1 = .ok (.aload_n 0, 1) := by decide +kernel
theorem dX12_draws_2 : decode cX12_draws 2 = .ok (.getfield 22, 3) := by decide +kernel
theorem dX12_draws_5 : decode cX12_draws 5 = .ok (.ldc 25, 2) := by decide +kernel
theorem dX12_draws_7 : decode cX12_draws 7 = .ok (.imul, 1) := by decide +kernel
theorem dX12_draws_8 : decode cX12_draws 8 = .ok (.sipush 12345, 3) := by decide +kernel
theorem dX12_draws_11 : decode cX12_draws 11 = .ok (.iadd, 1) := by decide +kernel
theorem dX12_draws_12 : decode cX12_draws 12 = .ok (.putfield 22, 3) := by decide +kernel
theorem dX12_draws_15 : decode cX12_draws 15 = .ok (.aload_n 0, 1) := by decide +kernel
theorem dX12_draws_16 : decode cX12_draws 16 = .ok (.getfield 22, 3) := by decide +kernel
theorem dX12_draws_19 : decode cX12_draws 19 = .ok (.bipush 16, 2) := by decide +kernel
theorem dX12_draws_21 : decode cX12_draws 21 = .ok (.iushr, 1) := by decide +kernel
theorem dX12_draws_22 : decode cX12_draws 22 = .ok (.iload_n 1, 1) := by decide +kernel
theorem dX12_draws_23 : decode cX12_draws 23 = .ok (.irem, 1) := by decide +kernel
theorem dX12_draws_24 : decode cX12_draws 24 = .ok (.ireturn, 1) := by decide +kernel
theorem dX12_isName_0 : decode cX12_isName 0 = .ok (.iload_n 1, 1) := by decide +kernel
theorem dX12_isName_1 : decode cX12_isName 1 = .ok (.i2l, 1) := by decide +kernel
theorem dX12_isName_2 : decode cX12_isName 2 = .ok (.lconst 0, 1) := by decide +kernel
theorem dX12_isName_3 : decode cX12_isName 3 = .ok (.aload_n 0, 1) := by decide +kernel
theorem dX12_isName_4 : decode cX12_isName 4 = .ok (.getfield 26, 3) := by decide +kernel
theorem dX12_isName_7 : decode cX12_isName 7 = .ok (.iconst 1, 1) := by decide +kernel
theorem dX12_isName_8 : decode cX12_isName 8 = .ok (.isub, 1) := by decide +kernel
theorem dX12_isName_9 : decode cX12_isName 9 = .ok (.i2l, 1) := by decide +kernel
theorem dX12_isName_10 : decode cX12_isName 10 = .ok (.invokestatic 29, 3) := by decide +kernel
theorem dX12_isName_13 : decode cX12_isName 13 = .ok (.ireturn, 1) := by decide +kernel
theorem dX12_isHouse_0 : decode cX12_isHouse 0 = .ok (.iload_n 1, 1) := by decide +kernel
theorem dX12_isHouse_1 : decode cX12_isHouse 1 = .ok (.i2l, 1) := by decide +kernel
theorem dX12_isHouse_2 : decode cX12_isHouse 2 = .ok (.lconst 0, 1) := by decide +kernel
theorem dX12_isHouse_3 : decode cX12_isHouse 3 = .ok (.aload_n 0, 1) := by decide +kernel
theorem dX12_isHouse_4 : decode cX12_isHouse 4 = .ok (.getfield 33, 3) := by decide +kernel
theorem dX12_isHouse_7 : decode cX12_isHouse 7 = .ok (.iconst 1, 1) := by decide +kernel
theorem dX12_isHouse_8 : decode cX12_isHouse 8 = .ok (.isub, 1) := by decide +kernel
theorem dX12_isHouse_9 : decode cX12_isHouse 9 = .ok (.i2l, 1) := by decide +kernel
theorem dX12_isHouse_10 : decode cX12_isHouse 10 = .ok (.invokestatic 29, 3) := by decide +kernel
theorem dX12_isHouse_13 : decode cX12_isHouse 13 = .ok (.ireturn, 1) := by decide +kernel
theorem dX12_isLetter_0 : decode cX12_isLetter 0 = .ok (.iload_n 1, 1) := by decide +kernel
theorem dX12_isLetter_1 : decode cX12_isLetter 1 = .ok (.i2l, 1) := by decide +kernel
theorem dX12_isLetter_2 : decode cX12_isLetter 2 = .ok (.lconst 0, 1) := by decide +kernel
theorem dX12_isLetter_3 : decode cX12_isLetter 3 = .ok (.aload_n 0, 1) := by decide +kernel
theorem dX12_isLetter_4 : decode cX12_isLetter 4 = .ok (.getfield 36, 3) := by decide +kernel
theorem dX12_isLetter_7 : decode cX12_isLetter 7 = .ok (.iconst 1, 1) := by decide +kernel
theorem dX12_isLetter_8 : decode cX12_isLetter 8 = .ok (.isub, 1) := by decide +kernel
theorem dX12_isLetter_9 : decode cX12_isLetter 9 = .ok (.i2l, 1) := by decide +kernel
theorem dX12_isLetter_10 : decode cX12_isLetter 10 = .ok (.invokestatic 29, 3) := by decide +kernel
theorem dX12_isLetter_13 : decode cX12_isLetter 13 = .ok (.ireturn, 1) := by decide +kernel
theorem dX12_name_0 : decode cX12_name 0 = .ok (.aload_n 0, 1) := by decide +kernel
theorem dX12_name_1 : decode cX12_name 1 = .ok (.iconst 0, 1) := by decide +kernel
theorem dX12_name_2 : decode cX12_name 2 = .ok (.putfield 3, 3) := by decide +kernel
theorem dX12_name_5 : decode cX12_name 5 = .ok (.iload_n 1, 1) := by decide +kernel
theorem dX12_name_6 : decode cX12_name 6 = .ok (.i2l, 1) := by decide +kernel
theorem dX12_name_7 : decode cX12_name 7 = .ok (.lconst 0, 1) := by decide +kernel
theorem dX12_name_8 : decode cX12_name 8 = .ok (.lconst 1, 1) := by decide +kernel
theorem dX12_name_9 : decode cX12_name 9 = .ok (.invokestatic 29, 3) := by decide +kernel
theorem dX12_name_12 : decode cX12_name 12 = .ok (.ifCond .eq 41, 3) := by decide +kernel
theorem dX12_name_15 : decode cX12_name 15 = .ok (.iload_n 2, 1) := by decide +kernel
theorem dX12_name_16 : decode cX12_name 16 = .ok (.i2l, 1) := by decide +kernel
theorem dX12_name_17 : decode cX12_name 17 = .ok (.lconst 0, 1) := by decide +kernel
theorem dX12_name_18 : decode cX12_name 18 = .ok (.lconst 1, 1) := by decide +kernel
theorem dX12_name_19 : decode cX12_name 19 = .ok (.invokestatic 29, 3) := by decide +kernel
theorem dX12_name_22 : decode cX12_name 22 = .ok (.ifCond .eq 31, 3) := by decide +kernel
theorem dX12_name_25 : decode cX12_name 25 = .ok (.iload_n 3, 1) := by decide +kernel
theorem dX12_name_26 : decode cX12_name 26 = .ok (.ifCond .lt 27, 3) := by decide +kernel
theorem dX12_name_29 : decode cX12_name 29 = .ok (.iload_n 3, 1) := by decide +kernel
theorem dX12_name_30 : decode cX12_name 30 = .ok (.bipush 101, 2) := by decide +kernel
theorem dX12_name_32 : decode cX12_name 32 = .ok (.idiv, 1) := by decide +kernel
theorem dX12_name_33 : decode cX12_name 33 = .ok (.i2l, 1) := by decide +kernel
theorem dX12_name_34 : decode cX12_name 34 = .ok (.lconst 0, 1) := by decide +kernel
theorem dX12_name_35 : decode cX12_name 35 = .ok (.ldc2_w 39, 3) := by decide +kernel
theorem dX12_name_38 : decode cX12_name 38 = .ok (.invokestatic 29, 3) := by decide +kernel
theorem dX12_name_41 : decode cX12_name 41 = .ok (.ifCond .eq 12, 3) := by decide +kernel
theorem dX12_name_44 : decode cX12_name 44 = .ok (.aload_n 0, 1) := by decide +kernel
theorem dX12_name_45 : decode cX12_name 45 = .ok (.getfield 26, 3) := by decide +kernel
theorem dX12_name_48 : decode cX12_name 48 = .ok (.bipush 12, 2) := by decide +kernel
theorem dX12_name_50 : decode cX12_name 50 = .ok (.if_icmp .ne 5, 3) := by decide +kernel
theorem dX12_name_53 : decode cX12_name 53 = .ok (.iconst (-1), 1) := by decide +kernel
theorem dX12_name_54 : decode cX12_name 54 = .ok (.ireturn, 1) := by decide +kernel
theorem dX12_name_55 : decode cX12_name 55 = .ok (.aload_n 0, 1) := by decide +kernel
theorem dX12_name_56 : decode cX12_name 56 = .ok (.getfield 41, 3) := by decide +kernel
theorem dX12_name_59 : decode cX12_name 59 = .ok (.aload_n 0, 1) := by decide +kernel
theorem dX12_name_60 : decode cX12_name 60 = .ok (.getfield 26, 3) := by decide +kernel
theorem dX12_name_63 : decode cX12_name 63 = .ok (.iload_n 1, 1) := by decide +kernel
theorem dX12_name_64 : decode cX12_name 64 = .ok (.iastore, 1) := by decide +kernel
theorem dX12_name_65 : decode cX12_name 65 = .ok (.aload_n 0, 1) := by decide +kernel
theorem dX12_name_66 : decode cX12_name 66 = .ok (.getfield 45, 3) := by decide +kernel
theorem dX12_name_69 : decode cX12_name 69 = .ok (.aload_n 0, 1) := by decide +kernel
theorem dX12_name_70 : decode cX12_name 70 = .ok (.getfield 26, 3) := by decide +kernel
theorem dX12_name_73 : decode cX12_name 73 = .ok (.iload_n 2, 1) := by decide +kernel
theorem dX12_name_74 : decode cX12_name 74 = .ok (.iastore, 1) := by decide +kernel
theorem dX12_name_75 : decode cX12_name 75 = .ok (.aload_n 0, 1) := by decide +kernel
theorem dX12_name_76 : decode cX12_name 76 = .ok (.getfield 48, 3) := by decide +kernel
theorem dX12_name_79 : decode cX12_name 79 = .ok (.aload_n 0, 1) := by decide +kernel
theorem dX12_name_80 : decode cX12_name 80 = .ok (.getfield 26, 3) := by decide +kernel
theorem dX12_name_83 : decode cX12_name 83 = .ok (.iload_n 3, 1) := by decide +kernel
theorem dX12_name_84 : decode cX12_name 84 = .ok (.bipush 101, 2) := by decide +kernel
theorem dX12_name_86 : decode cX12_name 86 = .ok (.idiv, 1) := by decide +kernel
theorem dX12_name_87 : decode cX12_name 87 = .ok (.iastore, 1) := by decide +kernel
theorem dX12_name_88 : decode cX12_name 88 = .ok (.aload_n 0, 1) := by decide +kernel
theorem dX12_name_89 : decode cX12_name 89 = .ok (.getfield 51, 3) := by decide +kernel
theorem dX12_name_92 : decode cX12_name 92 = .ok (.aload_n 0, 1) := by decide +kernel
theorem dX12_name_93 : decode cX12_name 93 = .ok (.getfield 26, 3) := by decide +kernel
theorem dX12_name_96 : decode cX12_name 96 = .ok (.iload_n 3, 1) := by decide +kernel
theorem dX12_name_97 : decode cX12_name 97 = .ok (.bipush 101, 2) := by decide +kernel
theorem dX12_name_99 : decode cX12_name 99 = .ok (.irem, 1) := by decide +kernel
theorem dX12_name_100 : decode cX12_name 100 = .ok (.iastore, 1) := by decide +kernel
theorem dX12_name_101 : decode cX12_name 101 = .ok (.aload_n 0, 1) := by decide +kernel
theorem dX12_name_102 : decode cX12_name 102 = .ok (.dup, 1) := by decide +kernel
theorem dX12_name_103 : decode cX12_name 103 = .ok (.getfield 26, 3) := by decide +kernel
theorem dX12_name_106 : decode cX12_name 106 = .ok (.iconst 1, 1) := by decide +kernel
theorem dX12_name_107 : decode cX12_name 107 = .ok (.iadd, 1) := by decide +kernel
theorem dX12_name_108 : decode cX12_name 108 = .ok (.putfield 26, 3) := by decide +kernel
theorem dX12_name_111 : decode cX12_name 111 = .ok (.aload_n 0, 1) := by decide +kernel
theorem dX12_name_112 : decode cX12_name 112 = .ok (.getfield 26, 3) := by decide +kernel
theorem dX12_name_115 : decode cX12_name 115 = .ok (.iconst 1, 1) := by decide +kernel
theorem dX12_name_116 : decode cX12_name 116 = .ok (.isub, 1) := by decide +kernel
theorem dX12_name_117 : decode cX12_name 117 = .ok (.ireturn, 1) := by decide +kernel
theorem dX12_house_0 : decode cX12_house 0 = .ok (.aload_n 0, 1) := by decide +kernel
theorem dX12_house_1 : decode cX12_house 1 = .ok (.iconst 0, 1) := by decide +kernel
theorem dX12_house_2 : decode cX12_house 2 = .ok (.putfield 3, 3) := by decide +kernel
theorem dX12_house_5 : decode cX12_house 5 = .ok (.iload_n 1, 1) := by decide +kernel
theorem dX12_house_6 : decode cX12_house 6 = .ok (.i2l, 1) := by decide +kernel
theorem dX12_house_7 : decode cX12_house 7 = .ok (.lconst 0, 1) := by decide +kernel
theorem dX12_house_8 : decode cX12_house 8 = .ok (.ldc2_w 54, 3) := by decide +kernel
theorem dX12_house_11 : decode cX12_house 11 = .ok (.invokestatic 29, 3) := by decide +kernel
theorem dX12_house_14 : decode cX12_house 14 = .ok (.ifCond .eq 36, 3) := by decide +kernel
theorem dX12_house_17 : decode cX12_house 17 = .ok (.iload_n 2, 1) := by decide +kernel
theorem dX12_house_18 : decode cX12_house 18 = .ok (.i2l, 1) := by decide +kernel
theorem dX12_house_19 : decode cX12_house 19 = .ok (.lconst 0, 1) := by decide +kernel
theorem dX12_house_20 : decode cX12_house 20 = .ok (.ldc2_w 54, 3) := by decide +kernel
theorem dX12_house_23 : decode cX12_house 23 = .ok (.invokestatic 29, 3) := by decide +kernel
theorem dX12_house_26 : decode cX12_house 26 = .ok (.ifCond .eq 24, 3) := by decide +kernel
theorem dX12_house_29 : decode cX12_house 29 = .ok (.iload_n 3, 1) := by decide +kernel
theorem dX12_house_30 : decode cX12_house 30 = .ok (.i2l, 1) := by decide +kernel
theorem dX12_house_31 : decode cX12_house 31 = .ok (.lconst 0, 1) := by decide +kernel
theorem dX12_house_32 : decode cX12_house 32 = .ok (.ldc2_w 56, 3) := by decide +kernel
theorem dX12_house_35 : decode cX12_house 35 = .ok (.invokestatic 29, 3) := by decide +kernel
theorem dX12_house_38 : decode cX12_house 38 = .ok (.ifCond .eq 12, 3) := by decide +kernel
theorem dX12_house_41 : decode cX12_house 41 = .ok (.aload_n 0, 1) := by decide +kernel
theorem dX12_house_42 : decode cX12_house 42 = .ok (.getfield 33, 3) := by decide +kernel
theorem dX12_house_45 : decode cX12_house 45 = .ok (.bipush 24, 2) := by decide +kernel
theorem dX12_house_47 : decode cX12_house 47 = .ok (.if_icmp .ne 5, 3) := by decide +kernel
theorem dX12_house_50 : decode cX12_house 50 = .ok (.iconst (-1), 1) := by decide +kernel
theorem dX12_house_51 : decode cX12_house 51 = .ok (.ireturn, 1) := by decide +kernel
theorem dX12_house_52 : decode cX12_house 52 = .ok (.aload_n 0, 1) := by decide +kernel
theorem dX12_house_53 : decode cX12_house 53 = .ok (.getfield 58, 3) := by decide +kernel
theorem dX12_house_56 : decode cX12_house 56 = .ok (.aload_n 0, 1) := by decide +kernel
theorem dX12_house_57 : decode cX12_house 57 = .ok (.getfield 33, 3) := by decide +kernel
theorem dX12_house_60 : decode cX12_house 60 = .ok (.iload_n 1, 1) := by decide +kernel
theorem dX12_house_61 : decode cX12_house 61 = .ok (.iastore, 1) := by decide +kernel
theorem dX12_house_62 : decode cX12_house 62 = .ok (.aload_n 0, 1) := by decide +kernel
theorem dX12_house_63 : decode cX12_house 63 = .ok (.getfield 61, 3) := by decide +kernel
theorem dX12_house_66 : decode cX12_house 66 = .ok (.aload_n 0, 1) := by decide +kernel
theorem dX12_house_67 : decode cX12_house 67 = .ok (.getfield 33, 3) := by decide +kernel
theorem dX12_house_70 : decode cX12_house 70 = .ok (.iload_n 2, 1) := by decide +kernel
theorem dX12_house_71 : decode cX12_house 71 = .ok (.iastore, 1) := by decide +kernel
theorem dX12_house_72 : decode cX12_house 72 = .ok (.aload_n 0, 1) := by decide +kernel
theorem dX12_house_73 : decode cX12_house 73 = .ok (.getfield 64, 3) := by decide +kernel
theorem dX12_house_76 : decode cX12_house 76 = .ok (.aload_n 0, 1) := by decide +kernel
theorem dX12_house_77 : decode cX12_house 77 = .ok (.getfield 33, 3) := by decide +kernel
theorem dX12_house_80 : decode cX12_house 80 = .ok (.iload_n 3, 1) := by decide +kernel
theorem dX12_house_81 : decode cX12_house 81 = .ok (.iastore, 1) := by decide +kernel
theorem dX12_house_82 : decode cX12_house 82 = .ok (.aload_n 0, 1) := by decide +kernel
theorem dX12_house_83 : decode cX12_house 83 = .ok (.dup, 1) := by decide +kernel
theorem dX12_house_84 : decode cX12_house 84 = .ok (.getfield 33, 3) := by decide +kernel
theorem dX12_house_87 : decode cX12_house 87 = .ok (.iconst 1, 1) := by decide +kernel
theorem dX12_house_88 : decode cX12_house 88 = .ok (.iadd, 1) := by decide +kernel
theorem dX12_house_89 : decode cX12_house 89 = .ok (.putfield 33, 3) := by decide +kernel
theorem dX12_house_92 : decode cX12_house 92 = .ok (.aload_n 0, 1) := by decide +kernel
theorem dX12_house_93 : decode cX12_house 93 = .ok (.getfield 33, 3) := by decide +kernel
theorem dX12_house_96 : decode cX12_house 96 = .ok (.iconst 1, 1) := by decide +kernel
theorem dX12_house_97 : decode cX12_house 97 = .ok (.isub, 1) := by decide +kernel
theorem dX12_house_98 : decode cX12_house 98 = .ok (.ireturn, 1) := by decide +kernel
theorem dX12_lettersTo_0 : decode cX12_lettersTo 0 = .ok (.iconst 0, 1) := by decide +kernel
theorem dX12_lettersTo_1 : decode cX12_lettersTo 1 = .ok (.istore_n 2, 1) := by decide +kernel
theorem dX12_lettersTo_2 : decode cX12_lettersTo 2 = .ok (.iconst 0, 1) := by decide +kernel
theorem dX12_lettersTo_3 : decode cX12_lettersTo 3 = .ok (.istore_n 3, 1) := by decide +kernel
theorem dX12_lettersTo_4 : decode cX12_lettersTo 4 = .ok (.iload_n 3, 1) := by decide +kernel
theorem dX12_lettersTo_5 : decode cX12_lettersTo 5 = .ok (.aload_n 0, 1) := by decide +kernel
theorem dX12_lettersTo_6 : decode cX12_lettersTo 6 = .ok (.getfield 36, 3) := by decide +kernel
theorem dX12_lettersTo_9 : decode cX12_lettersTo 9 = .ok (.if_icmp .ge 30, 3) := by decide +kernel
theorem dX12_lettersTo_12 : decode cX12_lettersTo 12 = .ok (.iload_n 2, 1) := by decide +kernel
theorem dX12_lettersTo_13 : decode cX12_lettersTo 13 = .ok (.aload_n 0, 1) := by decide +kernel
theorem dX12_lettersTo_14 : decode cX12_lettersTo 14 = .ok (.getfield 67, 3) := by decide +kernel
theorem dX12_lettersTo_17 : decode cX12_lettersTo 17 = .ok (.iload_n 3, 1) := by decide +kernel
theorem dX12_lettersTo_18 : decode cX12_lettersTo 18 = .ok (.iaload, 1) := by decide +kernel
theorem dX12_lettersTo_19 : decode cX12_lettersTo 19 = .ok (.iload_n 1, 1) := by decide +kernel
theorem dX12_lettersTo_20 : decode cX12_lettersTo 20 = .ok (.if_icmp .ne 7, 3) := by decide +kernel
theorem dX12_lettersTo_23 : decode cX12_lettersTo 23 = .ok (.iconst 1, 1) := by decide +kernel
theorem dX12_lettersTo_24 : decode cX12_lettersTo 24 = .ok (.goto 4, 3) := by decide +kernel
theorem dX12_lettersTo_27 : decode cX12_lettersTo 27 = .ok (.iconst 0, 1) := by decide +kernel
theorem dX12_lettersTo_28 : decode cX12_lettersTo 28 = .ok (.invokestatic 70, 3) := by decide +kernel
theorem dX12_lettersTo_31 : decode cX12_lettersTo 31 = .ok (.iadd, 1) := by decide +kernel
theorem dX12_lettersTo_32 : decode cX12_lettersTo 32 = .ok (.istore_n 2, 1) := by decide +kernel
theorem dX12_lettersTo_33 : decode cX12_lettersTo 33 = .ok (.iinc 3 1, 3) := by decide +kernel
theorem dX12_lettersTo_36 : decode cX12_lettersTo 36 = .ok (.goto (-32), 3) := by decide +kernel
theorem dX12_lettersTo_39 : decode cX12_lettersTo 39 = .ok (.iload_n 2, 1) := by decide +kernel
theorem dX12_lettersTo_40 : decode cX12_lettersTo 40 = .ok (.ireturn, 1) := by decide +kernel
theorem dX12_lays_0 : decode cX12_lays 0 = .ok (.aload_n 0, 1) := by decide +kernel
theorem dX12_lays_1 : decode cX12_lays 1 = .ok (.getfield 36, 3) := by decide +kernel
theorem dX12_lays_4 : decode cX12_lays 4 = .ok (.istore 7, 2) := by decide +kernel
theorem dX12_lays_6 : decode cX12_lays 6 = .ok (.aload_n 0, 1) := by decide +kernel
theorem dX12_lays_7 : decode cX12_lays 7 = .ok (.getfield 67, 3) := by decide +kernel
theorem dX12_lays_10 : decode cX12_lays 10 = .ok (.iload 7, 2) := by decide +kernel
theorem dX12_lays_12 : decode cX12_lays 12 = .ok (.iload_n 1, 1) := by decide +kernel
theorem dX12_lays_13 : decode cX12_lays 13 = .ok (.iastore, 1) := by decide +kernel
theorem dX12_lays_14 : decode cX12_lays 14 = .ok (.aload_n 0, 1) := by decide +kernel
theorem dX12_lays_15 : decode cX12_lays 15 = .ok (.getfield 74, 3) := by decide +kernel
theorem dX12_lays_18 : decode cX12_lays 18 = .ok (.iload 7, 2) := by decide +kernel
theorem dX12_lays_20 : decode cX12_lays 20 = .ok (.iload_n 2, 1) := by decide +kernel
theorem dX12_lays_21 : decode cX12_lays 21 = .ok (.iastore, 1) := by decide +kernel
theorem dX12_lays_22 : decode cX12_lays 22 = .ok (.aload_n 0, 1) := by decide +kernel
theorem dX12_lays_23 : decode cX12_lays 23 = .ok (.getfield 77, 3) := by decide +kernel
theorem dX12_lays_26 : decode cX12_lays 26 = .ok (.iload 7, 2) := by decide +kernel
theorem dX12_lays_28 : decode cX12_lays 28 = .ok (.iload_n 3, 1) := by decide +kernel
theorem dX12_lays_29 : decode cX12_lays 29 = .ok (.iastore, 1) := by decide +kernel
theorem dX12_lays_30 : decode cX12_lays 30 = .ok (.aload_n 0, 1) := by decide +kernel
theorem dX12_lays_31 : decode cX12_lays 31 = .ok (.getfield 80, 3) := by decide +kernel
theorem dX12_lays_34 : decode cX12_lays 34 = .ok (.iload 7, 2) := by decide +kernel
theorem dX12_lays_36 : decode cX12_lays 36 = .ok (.iload 4, 2) := by decide +kernel
theorem dX12_lays_38 : decode cX12_lays 38 = .ok (.iastore, 1) := by decide +kernel
theorem dX12_lays_39 : decode cX12_lays 39 = .ok (.aload_n 0, 1) := by decide +kernel
theorem dX12_lays_40 : decode cX12_lays 40 = .ok (.getfield 83, 3) := by decide +kernel
theorem dX12_lays_43 : decode cX12_lays 43 = .ok (.iload 7, 2) := by decide +kernel
theorem dX12_lays_45 : decode cX12_lays 45 = .ok (.iload 5, 2) := by decide +kernel
theorem dX12_lays_47 : decode cX12_lays 47 = .ok (.iastore, 1) := by decide +kernel
theorem dX12_lays_48 : decode cX12_lays 48 = .ok (.aload_n 0, 1) := by decide +kernel
theorem dX12_lays_49 : decode cX12_lays 49 = .ok (.getfield 86, 3) := by decide +kernel
theorem dX12_lays_52 : decode cX12_lays 52 = .ok (.iload 7, 2) := by decide +kernel
theorem dX12_lays_54 : decode cX12_lays 54 = .ok (.iload 6, 2) := by decide +kernel
theorem dX12_lays_56 : decode cX12_lays 56 = .ok (.iastore, 1) := by decide +kernel
theorem dX12_lays_57 : decode cX12_lays 57 = .ok (.aload_n 0, 1) := by decide +kernel
theorem dX12_lays_58 : decode cX12_lays 58 = .ok (.getfield 89, 3) := by decide +kernel
theorem dX12_lays_61 : decode cX12_lays 61 = .ok (.iload 7, 2) := by decide +kernel
theorem dX12_lays_63 : decode cX12_lays 63 = .ok (.iconst 0, 1) := by decide +kernel
theorem dX12_lays_64 : decode cX12_lays 64 = .ok (.bastore, 1) := by decide +kernel
theorem dX12_lays_65 : decode cX12_lays 65 = .ok (.aload_n 0, 1) := by decide +kernel
theorem dX12_lays_66 : decode cX12_lays 66 = .ok (.getfield 93, 3) := by decide +kernel
theorem dX12_lays_69 : decode cX12_lays 69 = .ok (.iload 7, 2) := by decide +kernel
theorem dX12_lays_71 : decode cX12_lays 71 = .ok (.iconst 0, 1) := by decide +kernel
theorem dX12_lays_72 : decode cX12_lays 72 = .ok (.bastore, 1) := by decide +kernel
theorem dX12_lays_73 : decode cX12_lays 73 = .ok (.aload_n 0, 1) := by decide +kernel
theorem dX12_lays_74 : decode cX12_lays 74 = .ok (.getfield 96, 3) := by decide +kernel
theorem dX12_lays_77 : decode cX12_lays 77 = .ok (.iload 7, 2) := by decide +kernel
theorem dX12_lays_79 : decode cX12_lays 79 = .ok (.iconst 0, 1) := by decide +kernel
theorem dX12_lays_80 : decode cX12_lays 80 = .ok (.iastore, 1) := by decide +kernel
theorem dX12_lays_81 : decode cX12_lays 81 = .ok (.aload_n 0, 1) := by decide +kernel
theorem dX12_lays_82 : decode cX12_lays 82 = .ok (.dup, 1) := by decide +kernel
theorem dX12_lays_83 : decode cX12_lays 83 = .ok (.getfield 36, 3) := by decide +kernel
theorem dX12_lays_86 : decode cX12_lays 86 = .ok (.iconst 1, 1) := by decide +kernel
theorem dX12_lays_87 : decode cX12_lays 87 = .ok (.iadd, 1) := by decide +kernel
theorem dX12_lays_88 : decode cX12_lays 88 = .ok (.putfield 36, 3) := by decide +kernel
theorem dX12_lays_91 : decode cX12_lays 91 = .ok (.return_, 1) := by decide +kernel
theorem dX12_letter_0 : decode cX12_letter 0 = .ok (.aload_n 0, 1) := by decide +kernel
theorem dX12_letter_1 : decode cX12_letter 1 = .ok (.iconst 0, 1) := by decide +kernel
theorem dX12_letter_2 : decode cX12_letter 2 = .ok (.putfield 3, 3) := by decide +kernel
theorem dX12_letter_5 : decode cX12_letter 5 = .ok (.aload_n 0, 1) := by decide +kernel
theorem dX12_letter_6 : decode cX12_letter 6 = .ok (.iload_n 1, 1) := by decide +kernel
theorem dX12_letter_7 : decode cX12_letter 7 = .ok (.invokevirtual 99, 3) := by decide +kernel
theorem dX12_letter_10 : decode cX12_letter 10 = .ok (.ifCond .eq 60, 3) := by decide +kernel
theorem dX12_letter_13 : decode cX12_letter 13 = .ok (.aload_n 0, 1) := by decide +kernel
theorem dX12_letter_14 : decode cX12_letter 14 = .ok (.iload_n 2, 1) := by decide +kernel
theorem dX12_letter_15 : decode cX12_letter 15 = .ok (.invokevirtual 103, 3) := by decide +kernel
theorem dX12_letter_18 : decode cX12_letter 18 = .ok (.ifCond .eq 52, 3) := by decide +kernel
theorem dX12_letter_21 : decode cX12_letter 21 = .ok (.iload_n 3, 1) := by decide +kernel
theorem dX12_letter_22 : decode cX12_letter 22 = .ok (.i2l, 1) := by decide +kernel
theorem dX12_letter_23 : decode cX12_letter 23 = .ok (.lconst 0, 1) := by decide +kernel
theorem dX12_letter_24 : decode cX12_letter 24 = .ok (.ldc2_w 106, 3) := by decide +kernel
theorem dX12_letter_27 : decode cX12_letter 27 = .ok (.invokestatic 29, 3) := by decide +kernel
theorem dX12_letter_30 : decode cX12_letter 30 = .ok (.ifCond .eq 40, 3) := by decide +kernel
theorem dX12_letter_33 : decode cX12_letter 33 = .ok (.iload 4, 2) := by decide +kernel
theorem dX12_letter_35 : decode cX12_letter 35 = .ok (.ifCond .lt 35, 3) := by decide +kernel
theorem dX12_letter_38 : decode cX12_letter 38 = .ok (.iload 4, 2) := by decide +kernel
theorem dX12_letter_40 : decode cX12_letter 40 = .ok (.iconst 4, 1) := by decide +kernel
theorem dX12_letter_41 : decode cX12_letter 41 = .ok (.idiv, 1) := by decide +kernel
theorem dX12_letter_42 : decode cX12_letter 42 = .ok (.i2l, 1) := by decide +kernel
theorem dX12_letter_43 : decode cX12_letter 43 = .ok (.lconst 0, 1) := by decide +kernel
theorem dX12_letter_44 : decode cX12_letter 44 = .ok (.ldc2_w 39, 3) := by decide +kernel
theorem dX12_letter_47 : decode cX12_letter 47 = .ok (.invokestatic 29, 3) := by decide +kernel
theorem dX12_letter_50 : decode cX12_letter 50 = .ok (.ifCond .eq 20, 3) := by decide +kernel
theorem dX12_letter_53 : decode cX12_letter 53 = .ok (.iload 5, 2) := by decide +kernel
theorem dX12_letter_55 : decode cX12_letter 55 = .ok (.i2l, 1) := by decide +kernel
theorem dX12_letter_56 : decode cX12_letter 56 = .ok (.lconst 0, 1) := by decide +kernel
theorem dX12_letter_57 : decode cX12_letter 57 = .ok (.ldc2_w 108, 3) := by decide +kernel
theorem dX12_letter_60 : decode cX12_letter 60 = .ok (.invokestatic 29, 3) := by decide +kernel
theorem dX12_letter_63 : decode cX12_letter 63 = .ok (.ifCond .eq 7, 3) := by decide +kernel
theorem dX12_letter_66 : decode cX12_letter 66 = .ok (.iconst 1, 1) := by decide +kernel
theorem dX12_letter_67 : decode cX12_letter 67 = .ok (.goto 4, 3) := by decide +kernel
theorem dX12_letter_70 : decode cX12_letter 70 = .ok (.iconst 0, 1) := by decide +kernel
theorem dX12_letter_71 : decode cX12_letter 71 = .ok (.istore 6, 2) := by decide +kernel
theorem dX12_letter_73 : decode cX12_letter 73 = .ok (.iload 6, 2) := by decide +kernel
theorem dX12_letter_75 : decode cX12_letter 75 = .ok (.ifCond .eq 21, 3) := by decide +kernel
theorem dX12_letter_78 : decode cX12_letter 78 = .ok (.aload_n 0, 1) := by decide +kernel
theorem dX12_letter_79 : decode cX12_letter 79 = .ok (.getfield 36, 3) := by decide +kernel
theorem dX12_letter_82 : decode cX12_letter 82 = .ok (.bipush 96, 2) := by decide +kernel
theorem dX12_letter_84 : decode cX12_letter 84 = .ok (.if_icmp .eq 12, 3) := by decide +kernel
theorem dX12_letter_87 : decode cX12_letter 87 = .ok (.aload_n 0, 1) := by decide +kernel
theorem dX12_letter_88 : decode cX12_letter 88 = .ok (.iload_n 1, 1) := by decide +kernel
theorem dX12_letter_89 : decode cX12_letter 89 = .ok (.invokevirtual 110, 3) := by decide +kernel
theorem dX12_letter_92 : decode cX12_letter 92 = .ok (.iconst 4, 1) := by decide +kernel
theorem dX12_letter_93 : decode cX12_letter 93 = .ok (.if_icmp .ne 5, 3) := by decide +kernel
theorem dX12_letter_96 : decode cX12_letter 96 = .ok (.iconst (-1), 1) := by decide +kernel
theorem dX12_letter_97 : decode cX12_letter 97 = .ok (.ireturn, 1) := by decide +kernel
theorem dX12_letter_98 : decode cX12_letter 98 = .ok (.aload_n 0, 1) := by decide +kernel
theorem dX12_letter_99 : decode cX12_letter 99 = .ok (.iload_n 1, 1) := by decide +kernel
theorem dX12_letter_100 : decode cX12_letter 100 = .ok (.iload_n 2, 1) := by decide +kernel
theorem dX12_letter_101 : decode cX12_letter 101 = .ok (.iload_n 3, 1) := by decide +kernel
theorem dX12_letter_102 : decode cX12_letter 102 = .ok (.iload 4, 2) := by decide +kernel
theorem dX12_letter_104 : decode cX12_letter 104 = .ok (.iconst 4, 1) := by decide +kernel
theorem dX12_letter_105 : decode cX12_letter 105 = .ok (.idiv, 1) := by decide +kernel
theorem dX12_letter_106 : decode cX12_letter 106 = .ok (.iload 4, 2) := by decide +kernel
theorem dX12_letter_108 : decode cX12_letter 108 = .ok (.iconst 4, 1) := by decide +kernel
theorem dX12_letter_109 : decode cX12_letter 109 = .ok (.irem, 1) := by decide +kernel
theorem dX12_letter_110 : decode cX12_letter 110 = .ok (.iload 5, 2) := by decide +kernel
theorem dX12_letter_112 : decode cX12_letter 112 = .ok (.invokevirtual 114, 3) := by decide +kernel
theorem dX12_letter_115 : decode cX12_letter 115 = .ok (.aload_n 0, 1) := by decide +kernel
theorem dX12_letter_116 : decode cX12_letter 116 = .ok (.getfield 36, 3) := by decide +kernel
theorem dX12_letter_119 : decode cX12_letter 119 = .ok (.iconst 1, 1) := by decide +kernel
theorem dX12_letter_120 : decode cX12_letter 120 = .ok (.isub, 1) := by decide +kernel
theorem dX12_letter_121 : decode cX12_letter 121 = .ok (.ireturn, 1) := by decide +kernel
theorem dX12_namesOf_0 : decode cX12_namesOf 0 = .ok (.iconst 0, 1) := by decide +kernel
theorem dX12_namesOf_1 : decode cX12_namesOf 1 = .ok (.istore_n 2, 1) := by decide +kernel
theorem dX12_namesOf_2 : decode cX12_namesOf 2 = .ok (.iconst 0, 1) := by decide +kernel
theorem dX12_namesOf_3 : decode cX12_namesOf 3 = .ok (.istore_n 3, 1) := by decide +kernel
theorem dX12_namesOf_4 : decode cX12_namesOf 4 = .ok (.iload_n 3, 1) := by decide +kernel
theorem dX12_namesOf_5 : decode cX12_namesOf 5 = .ok (.aload_n 0, 1) := by decide +kernel
theorem dX12_namesOf_6 : decode cX12_namesOf 6 = .ok (.getfield 26, 3) := by decide +kernel
theorem dX12_namesOf_9 : decode cX12_namesOf 9 = .ok (.if_icmp .ge 30, 3) := by decide +kernel
theorem dX12_namesOf_12 : decode cX12_namesOf 12 = .ok (.iload_n 2, 1) := by decide +kernel
theorem dX12_namesOf_13 : decode cX12_namesOf 13 = .ok (.aload_n 0, 1) := by decide +kernel
theorem dX12_namesOf_14 : decode cX12_namesOf 14 = .ok (.getfield 41, 3) := by decide +kernel
theorem dX12_namesOf_17 : decode cX12_namesOf 17 = .ok (.iload_n 3, 1) := by decide +kernel
theorem dX12_namesOf_18 : decode cX12_namesOf 18 = .ok (.iaload, 1) := by decide +kernel
theorem dX12_namesOf_19 : decode cX12_namesOf 19 = .ok (.iload_n 1, 1) := by decide +kernel
theorem dX12_namesOf_20 : decode cX12_namesOf 20 = .ok (.if_icmp .ne 7, 3) := by decide +kernel
theorem dX12_namesOf_23 : decode cX12_namesOf 23 = .ok (.iconst 1, 1) := by decide +kernel
theorem dX12_namesOf_24 : decode cX12_namesOf 24 = .ok (.goto 4, 3) := by decide +kernel
theorem dX12_namesOf_27 : decode cX12_namesOf 27 = .ok (.iconst 0, 1) := by decide +kernel
theorem dX12_namesOf_28 : decode cX12_namesOf 28 = .ok (.invokestatic 70, 3) := by decide +kernel
theorem dX12_namesOf_31 : decode cX12_namesOf 31 = .ok (.iadd, 1) := by decide +kernel
theorem dX12_namesOf_32 : decode cX12_namesOf 32 = .ok (.istore_n 2, 1) := by decide +kernel
theorem dX12_namesOf_33 : decode cX12_namesOf 33 = .ok (.iinc 3 1, 3) := by decide +kernel
theorem dX12_namesOf_36 : decode cX12_namesOf 36 = .ok (.goto (-32), 3) := by decide +kernel
theorem dX12_namesOf_39 : decode cX12_namesOf 39 = .ok (.iload_n 2, 1) := by decide +kernel
theorem dX12_namesOf_40 : decode cX12_namesOf 40 = .ok (.ireturn, 1) := by decide +kernel
theorem dX12_freeName_0 : decode cX12_freeName 0 = .ok (.iconst 0, 1) := by decide +kernel
theorem dX12_freeName_1 : decode cX12_freeName 1 = .ok (.istore 4, 2) := by decide +kernel
theorem dX12_freeName_3 : decode cX12_freeName 3 = .ok (.iconst 0, 1) := by decide +kernel
theorem dX12_freeName_4 : decode cX12_freeName 4 = .ok (.istore 5, 2) := by decide +kernel
theorem dX12_freeName_6 : decode cX12_freeName 6 = .ok (.iload 5, 2) := by decide +kernel
theorem dX12_freeName_8 : decode cX12_freeName 8 = .ok (.aload_n 0, 1) := by decide +kernel
theorem dX12_freeName_9 : decode cX12_freeName 9 = .ok (.getfield 26, 3) := by decide +kernel
theorem dX12_freeName_12 : decode cX12_freeName 12 = .ok (.if_icmp .ge 104, 3) := by decide +kernel
theorem dX12_freeName_15 : decode cX12_freeName 15 = .ok (.aload_n 0, 1) := by decide +kernel
theorem dX12_freeName_16 : decode cX12_freeName 16 = .ok (.getfield 41, 3) := by decide +kernel
theorem dX12_freeName_19 : decode cX12_freeName 19 = .ok (.iload 5, 2) := by decide +kernel
theorem dX12_freeName_21 : decode cX12_freeName 21 = .ok (.iaload, 1) := by decide +kernel
theorem dX12_freeName_22 : decode cX12_freeName 22 = .ok (.iload_n 2, 1) := by decide +kernel
theorem dX12_freeName_23 : decode cX12_freeName 23 = .ok (.if_icmp .ne 7, 3) := by decide +kernel
theorem dX12_freeName_26 : decode cX12_freeName 26 = .ok (.iconst 1, 1) := by decide +kernel
theorem dX12_freeName_27 : decode cX12_freeName 27 = .ok (.goto 4, 3) := by decide +kernel
theorem dX12_freeName_30 : decode cX12_freeName 30 = .ok (.iconst 0, 1) := by decide +kernel
theorem dX12_freeName_31 : decode cX12_freeName 31 = .ok (.istore 6, 2) := by decide +kernel
theorem dX12_freeName_33 : decode cX12_freeName 33 = .ok (.iconst 0, 1) := by decide +kernel
theorem dX12_freeName_34 : decode cX12_freeName 34 = .ok (.istore 7, 2) := by decide +kernel
theorem dX12_freeName_36 : decode cX12_freeName 36 = .ok (.iload 7, 2) := by decide +kernel
theorem dX12_freeName_38 : decode cX12_freeName 38 = .ok (.aload_n 0, 1) := by decide +kernel
theorem dX12_freeName_39 : decode cX12_freeName 39 = .ok (.getfield 36, 3) := by decide +kernel
theorem dX12_freeName_42 : decode cX12_freeName 42 = .ok (.if_icmp .ge 44, 3) := by decide +kernel
theorem dX12_freeName_45 : decode cX12_freeName 45 = .ok (.iload 6, 2) := by decide +kernel
theorem dX12_freeName_47 : decode cX12_freeName 47 = .ok (.ifCond .eq 30, 3) := by decide +kernel
theorem dX12_freeName_50 : decode cX12_freeName 50 = .ok (.aload_n 0, 1) := by decide +kernel
theorem dX12_freeName_51 : decode cX12_freeName 51 = .ok (.getfield 67, 3) := by decide +kernel
theorem dX12_freeName_54 : decode cX12_freeName 54 = .ok (.iload 7, 2) := by decide +kernel
theorem dX12_freeName_56 : decode cX12_freeName 56 = .ok (.iaload, 1) := by decide +kernel
theorem dX12_freeName_57 : decode cX12_freeName 57 = .ok (.iload_n 1, 1) := by decide +kernel
theorem dX12_freeName_58 : decode cX12_freeName 58 = .ok (.if_icmp .ne 15, 3) := by decide +kernel
theorem dX12_freeName_61 : decode cX12_freeName 61 = .ok (.aload_n 0, 1) := by decide +kernel
theorem dX12_freeName_62 : decode cX12_freeName 62 = .ok (.getfield 74, 3) := by decide +kernel
theorem dX12_freeName_65 : decode cX12_freeName 65 = .ok (.iload 7, 2) := by decide +kernel
theorem dX12_freeName_67 : decode cX12_freeName 67 = .ok (.iaload, 1) := by decide +kernel
theorem dX12_freeName_68 : decode cX12_freeName 68 = .ok (.iload 5, 2) := by decide +kernel
theorem dX12_freeName_70 : decode cX12_freeName 70 = .ok (.if_icmp .eq 7, 3) := by decide +kernel
theorem dX12_freeName_73 : decode cX12_freeName 73 = .ok (.iconst 1, 1) := by decide +kernel
theorem dX12_freeName_74 : decode cX12_freeName 74 = .ok (.goto 4, 3) := by decide +kernel
theorem dX12_freeName_77 : decode cX12_freeName 77 = .ok (.iconst 0, 1) := by decide +kernel
theorem dX12_freeName_78 : decode cX12_freeName 78 = .ok (.istore 6, 2) := by decide +kernel
theorem dX12_freeName_80 : decode cX12_freeName 80 = .ok (.iinc 7 1, 3) := by decide +kernel
theorem dX12_freeName_83 : decode cX12_freeName 83 = .ok (.goto (-47), 3) := by decide +kernel
theorem dX12_freeName_86 : decode cX12_freeName 86 = .ok (.iload 6, 2) := by decide +kernel
theorem dX12_freeName_88 : decode cX12_freeName 88 = .ok (.ifCond .eq 12, 3) := by decide +kernel
theorem dX12_freeName_91 : decode cX12_freeName 91 = .ok (.iload 4, 2) := by decide +kernel
theorem dX12_freeName_93 : decode cX12_freeName 93 = .ok (.iload_n 3, 1) := by decide +kernel
theorem dX12_freeName_94 : decode cX12_freeName 94 = .ok (.if_icmp .ne 6, 3) := by decide +kernel
theorem dX12_freeName_97 : decode cX12_freeName 97 = .ok (.iload 5, 2) := by decide +kernel
theorem dX12_freeName_99 : decode cX12_freeName 99 = .ok (.ireturn, 1) := by decide +kernel
theorem dX12_freeName_100 : decode cX12_freeName 100 = .ok (.iload 4, 2) := by decide +kernel
theorem dX12_freeName_102 : decode cX12_freeName 102 = .ok (.iload 6, 2) := by decide +kernel
theorem dX12_freeName_104 : decode cX12_freeName 104 = .ok (.invokestatic 70, 3) := by decide +kernel
theorem dX12_freeName_107 : decode cX12_freeName 107 = .ok (.iadd, 1) := by decide +kernel
theorem dX12_freeName_108 : decode cX12_freeName 108 = .ok (.istore 4, 2) := by decide +kernel
theorem dX12_freeName_110 : decode cX12_freeName 110 = .ok (.iinc 5 1, 3) := by decide +kernel
theorem dX12_freeName_113 : decode cX12_freeName 113 = .ok (.goto (-107), 3) := by decide +kernel
theorem dX12_freeName_116 : decode cX12_freeName 116 = .ok (.iload 4, 2) := by decide +kernel
theorem dX12_freeName_118 : decode cX12_freeName 118 = .ok (.ireturn, 1) := by decide +kernel
theorem dX12_deal_0 : decode cX12_deal 0 = .ok (.aload_n 0, 1) := by decide +kernel
theorem dX12_deal_1 : decode cX12_deal 1 = .ok (.iconst 0, 1) := by decide +kernel
theorem dX12_deal_2 : decode cX12_deal 2 = .ok (.putfield 3, 3) := by decide +kernel
theorem dX12_deal_5 : decode cX12_deal 5 = .ok (.aload_n 0, 1) := by decide +kernel
theorem dX12_deal_6 : decode cX12_deal 6 = .ok (.iload_n 1, 1) := by decide +kernel
theorem dX12_deal_7 : decode cX12_deal 7 = .ok (.invokevirtual 99, 3) := by decide +kernel
theorem dX12_deal_10 : decode cX12_deal 10 = .ok (.ifCond .eq 49, 3) := by decide +kernel
theorem dX12_deal_13 : decode cX12_deal 13 = .ok (.iload_n 2, 1) := by decide +kernel
theorem dX12_deal_14 : decode cX12_deal 14 = .ok (.i2l, 1) := by decide +kernel
theorem dX12_deal_15 : decode cX12_deal 15 = .ok (.lconst 0, 1) := by decide +kernel
theorem dX12_deal_16 : decode cX12_deal 16 = .ok (.ldc2_w 106, 3) := by decide +kernel
theorem dX12_deal_19 : decode cX12_deal 19 = .ok (.invokestatic 29, 3) := by decide +kernel
theorem dX12_deal_22 : decode cX12_deal 22 = .ok (.ifCond .eq 37, 3) := by decide +kernel
theorem dX12_deal_25 : decode cX12_deal 25 = .ok (.iload_n 3, 1) := by decide +kernel
theorem dX12_deal_26 : decode cX12_deal 26 = .ok (.i2l, 1) := by decide +kernel
theorem dX12_deal_27 : decode cX12_deal 27 = .ok (.lconst 0, 1) := by decide +kernel
theorem dX12_deal_28 : decode cX12_deal 28 = .ok (.ldc2_w 106, 3) := by decide +kernel
theorem dX12_deal_31 : decode cX12_deal 31 = .ok (.invokestatic 29, 3) := by decide +kernel
theorem dX12_deal_34 : decode cX12_deal 34 = .ok (.ifCond .eq 25, 3) := by decide +kernel
theorem dX12_deal_37 : decode cX12_deal 37 = .ok (.aload_n 0, 1) := by decide +kernel
theorem dX12_deal_38 : decode cX12_deal 38 = .ok (.iconst 0, 1) := by decide +kernel
theorem dX12_deal_39 : decode cX12_deal 39 = .ok (.invokevirtual 118, 3) := by decide +kernel
theorem dX12_deal_42 : decode cX12_deal 42 = .ok (.iconst 1, 1) := by decide +kernel
theorem dX12_deal_43 : decode cX12_deal 43 = .ok (.if_icmp .le 16, 3) := by decide +kernel
theorem dX12_deal_46 : decode cX12_deal 46 = .ok (.aload_n 0, 1) := by decide +kernel
theorem dX12_deal_47 : decode cX12_deal 47 = .ok (.iconst 1, 1) := by decide +kernel
theorem dX12_deal_48 : decode cX12_deal 48 = .ok (.invokevirtual 118, 3) := by decide +kernel
theorem dX12_deal_51 : decode cX12_deal 51 = .ok (.iconst 1, 1) := by decide +kernel
theorem dX12_deal_52 : decode cX12_deal 52 = .ok (.if_icmp .le 7, 3) := by decide +kernel
theorem dX12_deal_55 : decode cX12_deal 55 = .ok (.iconst 1, 1) := by decide +kernel
theorem dX12_deal_56 : decode cX12_deal 56 = .ok (.goto 4, 3) := by decide +kernel
theorem dX12_deal_59 : decode cX12_deal 59 = .ok (.iconst 0, 1) := by decide +kernel
theorem dX12_deal_60 : decode cX12_deal 60 = .ok (.istore 4, 2) := by decide +kernel
theorem dX12_deal_62 : decode cX12_deal 62 = .ok (.iload 4, 2) := by decide +kernel
theorem dX12_deal_64 : decode cX12_deal 64 = .ok (.ifCond .eq 22, 3) := by decide +kernel
theorem dX12_deal_67 : decode cX12_deal 67 = .ok (.aload_n 0, 1) := by decide +kernel
theorem dX12_deal_68 : decode cX12_deal 68 = .ok (.iload_n 1, 1) := by decide +kernel
theorem dX12_deal_69 : decode cX12_deal 69 = .ok (.invokevirtual 110, 3) := by decide +kernel
theorem dX12_deal_72 : decode cX12_deal 72 = .ok (.ifCond .gt 14, 3) := by decide +kernel
theorem dX12_deal_75 : decode cX12_deal 75 = .ok (.aload_n 0, 1) := by decide +kernel
theorem dX12_deal_76 : decode cX12_deal 76 = .ok (.getfield 36, 3) := by decide +kernel
theorem dX12_deal_79 : decode cX12_deal 79 = .ok (.iconst 4, 1) := by decide +kernel
theorem dX12_deal_80 : decode cX12_deal 80 = .ok (.iadd, 1) := by decide +kernel
theorem dX12_deal_81 : decode cX12_deal 81 = .ok (.bipush 96, 2) := by decide +kernel
theorem dX12_deal_83 : decode cX12_deal 83 = .ok (.if_icmp .le 5, 3) := by decide +kernel
theorem dX12_deal_86 : decode cX12_deal 86 = .ok (.iconst (-1), 1) := by decide +kernel
theorem dX12_deal_87 : decode cX12_deal 87 = .ok (.ireturn, 1) := by decide +kernel
theorem dX12_deal_88 : decode cX12_deal 88 = .ok (.aload_n 0, 1) := by decide +kernel
theorem dX12_deal_89 : decode cX12_deal 89 = .ok (.bipush 6, 2) := by decide +kernel
theorem dX12_deal_91 : decode cX12_deal 91 = .ok (.invokevirtual 121, 3) := by decide +kernel
theorem dX12_deal_94 : decode cX12_deal 94 = .ok (.istore 5, 2) := by decide +kernel
theorem dX12_deal_96 : decode cX12_deal 96 = .ok (.iload 5, 2) := by decide +kernel
theorem dX12_deal_98 : decode cX12_deal 98 = .ok (.iconst 3, 1) := by decide +kernel
theorem dX12_deal_99 : decode cX12_deal 99 = .ok (.if_icmp .ge 7, 3) := by decide +kernel
theorem dX12_deal_102 : decode cX12_deal 102 = .ok (.iconst 0, 1) := by decide +kernel
theorem dX12_deal_103 : decode cX12_deal 103 = .ok (.goto 14, 3) := by decide +kernel
theorem dX12_deal_106 : decode cX12_deal 106 = .ok (.iload 5, 2) := by decide +kernel
theorem dX12_deal_108 : decode cX12_deal 108 = .ok (.iconst 5, 1) := by decide +kernel
theorem dX12_deal_109 : decode cX12_deal 109 = .ok (.if_icmp .ge 7, 3) := by decide +kernel
theorem dX12_deal_112 : decode cX12_deal 112 = .ok (.iconst 1, 1) := by decide +kernel
theorem dX12_deal_113 : decode cX12_deal 113 = .ok (.goto 4, 3) := by decide +kernel
theorem dX12_deal_116 : decode cX12_deal 116 = .ok (.iconst 2, 1) := by decide +kernel
theorem dX12_deal_117 : decode cX12_deal 117 = .ok (.istore 6, 2) := by decide +kernel
theorem dX12_deal_119 : decode cX12_deal 119 = .ok (.iload 5, 2) := by decide +kernel
theorem dX12_deal_121 : decode cX12_deal 121 = .ok (.iconst 3, 1) := by decide +kernel
theorem dX12_deal_122 : decode cX12_deal 122 = .ok (.if_icmp .ge 10, 3) := by decide +kernel
theorem dX12_deal_125 : decode cX12_deal 125 = .ok (.iload 5, 2) := by decide +kernel
theorem dX12_deal_127 : decode cX12_deal 127 = .ok (.iconst 1, 1) := by decide +kernel
theorem dX12_deal_128 : decode cX12_deal 128 = .ok (.iadd, 1) := by decide +kernel
theorem dX12_deal_129 : decode cX12_deal 129 = .ok (.goto 17, 3) := by decide +kernel
theorem dX12_deal_132 : decode cX12_deal 132 = .ok (.iload 5, 2) := by decide +kernel
theorem dX12_deal_134 : decode cX12_deal 134 = .ok (.iconst 5, 1) := by decide +kernel
theorem dX12_deal_135 : decode cX12_deal 135 = .ok (.if_icmp .ge 10, 3) := by decide +kernel
theorem dX12_deal_138 : decode cX12_deal 138 = .ok (.iload 5, 2) := by decide +kernel
theorem dX12_deal_140 : decode cX12_deal 140 = .ok (.iconst 1, 1) := by decide +kernel
theorem dX12_deal_141 : decode cX12_deal 141 = .ok (.isub, 1) := by decide +kernel
theorem dX12_deal_142 : decode cX12_deal 142 = .ok (.goto 4, 3) := by decide +kernel
theorem dX12_deal_145 : decode cX12_deal 145 = .ok (.iconst 3, 1) := by decide +kernel
theorem dX12_deal_146 : decode cX12_deal 146 = .ok (.istore 7, 2) := by decide +kernel
theorem dX12_deal_148 : decode cX12_deal 148 = .ok (.aload_n 0, 1) := by decide +kernel
theorem dX12_deal_149 : decode cX12_deal 149 = .ok (.getfield 124, 3) := by decide +kernel
theorem dX12_deal_152 : decode cX12_deal 152 = .ok (.astore 8, 2) := by decide +kernel
theorem dX12_deal_154 : decode cX12_deal 154 = .ok (.aload 8, 2) := by decide +kernel
theorem dX12_deal_156 : decode cX12_deal 156 = .ok (.iconst 0, 1) := by decide +kernel
theorem dX12_deal_157 : decode cX12_deal 157 = .ok (.iconst 0, 1) := by decide +kernel
theorem dX12_deal_158 : decode cX12_deal 158 = .ok (.iastore, 1) := by decide +kernel
theorem dX12_deal_159 : decode cX12_deal 159 = .ok (.aload 8, 2) := by decide +kernel
theorem dX12_deal_161 : decode cX12_deal 161 = .ok (.iconst 1, 1) := by decide +kernel
theorem dX12_deal_162 : decode cX12_deal 162 = .ok (.iconst 0, 1) := by decide +kernel
theorem dX12_deal_163 : decode cX12_deal 163 = .ok (.iastore, 1) := by decide +kernel
theorem dX12_deal_164 : decode cX12_deal 164 = .ok (.iconst 0, 1) := by decide +kernel
theorem dX12_deal_165 : decode cX12_deal 165 = .ok (.istore 9, 2) := by decide +kernel
theorem dX12_deal_167 : decode cX12_deal 167 = .ok (.iload 9, 2) := by decide +kernel
theorem dX12_deal_169 : decode cX12_deal 169 = .ok (.iconst 4, 1) := by decide +kernel
theorem dX12_deal_170 : decode cX12_deal 170 = .ok (.if_icmp .ge 104, 3) := by decide +kernel
theorem dX12_deal_173 : decode cX12_deal 173 = .ok (.iload 9, 2) := by decide +kernel
theorem dX12_deal_175 : decode cX12_deal 175 = .ok (.iload 6, 2) := by decide +kernel
theorem dX12_deal_177 : decode cX12_deal 177 = .ok (.if_icmp .eq 10, 3) := by decide +kernel
theorem dX12_deal_180 : decode cX12_deal 180 = .ok (.iload 9, 2) := by decide +kernel
theorem dX12_deal_182 : decode cX12_deal 182 = .ok (.iload 7, 2) := by decide +kernel
theorem dX12_deal_184 : decode cX12_deal 184 = .ok (.if_icmp .ne 7, 3) := by decide +kernel
theorem dX12_deal_187 : decode cX12_deal 187 = .ok (.iconst 1, 1) := by decide +kernel
theorem dX12_deal_188 : decode cX12_deal 188 = .ok (.goto 4, 3) := by decide +kernel
theorem dX12_deal_191 : decode cX12_deal 191 = .ok (.iconst 0, 1) := by decide +kernel
theorem dX12_deal_192 : decode cX12_deal 192 = .ok (.invokestatic 70, 3) := by decide +kernel
theorem dX12_deal_195 : decode cX12_deal 195 = .ok (.istore 10, 2) := by decide +kernel
theorem dX12_deal_197 : decode cX12_deal 197 = .ok (.aload_n 0, 1) := by decide +kernel
theorem dX12_deal_198 : decode cX12_deal 198 = .ok (.iload_n 1, 1) := by decide +kernel
theorem dX12_deal_199 : decode cX12_deal 199 = .ok (.iload 10, 2) := by decide +kernel
theorem dX12_deal_201 : decode cX12_deal 201 = .ok (.aload_n 0, 1) := by decide +kernel
theorem dX12_deal_202 : decode cX12_deal 202 = .ok (.aload_n 0, 1) := by decide +kernel
theorem dX12_deal_203 : decode cX12_deal 203 = .ok (.iload_n 1, 1) := by decide +kernel
theorem dX12_deal_204 : decode cX12_deal 204 = .ok (.iload 10, 2) := by decide +kernel
theorem dX12_deal_206 : decode cX12_deal 206 = .ok (.iconst (-1), 1) := by decide +kernel
theorem dX12_deal_207 : decode cX12_deal 207 = .ok (.invokevirtual 127, 3) := by decide +kernel
theorem dX12_deal_210 : decode cX12_deal 210 = .ok (.invokevirtual 121, 3) := by decide +kernel
theorem dX12_deal_213 : decode cX12_deal 213 = .ok (.invokevirtual 127, 3) := by decide +kernel
theorem dX12_deal_216 : decode cX12_deal 216 = .ok (.istore 11, 2) := by decide +kernel
theorem dX12_deal_218 : decode cX12_deal 218 = .ok (.aload_n 0, 1) := by decide +kernel
theorem dX12_deal_219 : decode cX12_deal 219 = .ok (.iconst 4, 1) := by decide +kernel
theorem dX12_deal_220 : decode cX12_deal 220 = .ok (.invokevirtual 121, 3) := by decide +kernel
theorem dX12_deal_223 : decode cX12_deal 223 = .ok (.istore 12, 2) := by decide +kernel
theorem dX12_deal_225 : decode cX12_deal 225 = .ok (.aload_n 0, 1) := by decide +kernel
theorem dX12_deal_226 : decode cX12_deal 226 = .ok (.sipush 400, 3) := by decide +kernel
theorem dX12_deal_229 : decode cX12_deal 229 = .ok (.invokevirtual 121, 3) := by decide +kernel
theorem dX12_deal_232 : decode cX12_deal 232 = .ok (.istore 13, 2) := by decide +kernel
theorem dX12_deal_234 : decode cX12_deal 234 = .ok (.aload_n 0, 1) := by decide +kernel
theorem dX12_deal_235 : decode cX12_deal 235 = .ok (.iload_n 1, 1) := by decide +kernel
theorem dX12_deal_236 : decode cX12_deal 236 = .ok (.iload 11, 2) := by decide +kernel
theorem dX12_deal_238 : decode cX12_deal 238 = .ok (.aload 8, 2) := by decide +kernel
theorem dX12_deal_240 : decode cX12_deal 240 = .ok (.iload 10, 2) := by decide +kernel
theorem dX12_deal_242 : decode cX12_deal 242 = .ok (.iaload, 1) := by decide +kernel
theorem dX12_deal_243 : decode cX12_deal 243 = .ok (.ifCond .ne 7, 3) := by decide +kernel
theorem dX12_deal_246 : decode cX12_deal 246 = .ok (.iload_n 2, 1) := by decide +kernel
theorem dX12_deal_247 : decode cX12_deal 247 = .ok (.goto 4, 3) := by decide +kernel
theorem dX12_deal_250 : decode cX12_deal 250 = .ok (.iload_n 3, 1) := by decide +kernel
theorem dX12_deal_251 : decode cX12_deal 251 = .ok (.iconst 0, 1) := by decide +kernel
theorem dX12_deal_252 : decode cX12_deal 252 = .ok (.iload 12, 2) := by decide +kernel
theorem dX12_deal_254 : decode cX12_deal 254 = .ok (.iload 13, 2) := by decide +kernel
theorem dX12_deal_256 : decode cX12_deal 256 = .ok (.invokevirtual 114, 3) := by decide +kernel
theorem dX12_deal_259 : decode cX12_deal 259 = .ok (.aload 8, 2) := by decide +kernel
theorem dX12_deal_261 : decode cX12_deal 261 = .ok (.iload 10, 2) := by decide +kernel
theorem dX12_deal_263 : decode cX12_deal 263 = .ok (.dup2, 1) := by decide +kernel
theorem dX12_deal_264 : decode cX12_deal 264 = .ok (.iaload, 1) := by decide +kernel
theorem dX12_deal_265 : decode cX12_deal 265 = .ok (.iconst 1, 1) := by decide +kernel
theorem dX12_deal_266 : decode cX12_deal 266 = .ok (.iadd, 1) := by decide +kernel
theorem dX12_deal_267 : decode cX12_deal 267 = .ok (.iastore, 1) := by decide +kernel
theorem dX12_deal_268 : decode cX12_deal 268 = .ok (.iinc 9 1, 3) := by decide +kernel
theorem dX12_deal_271 : decode cX12_deal 271 = .ok (.goto (-104), 3) := by decide +kernel
theorem dX12_deal_274 : decode cX12_deal 274 = .ok (.aload_n 0, 1) := by decide +kernel
theorem dX12_deal_275 : decode cX12_deal 275 = .ok (.getfield 36, 3) := by decide +kernel
theorem dX12_deal_278 : decode cX12_deal 278 = .ok (.ireturn, 1) := by decide +kernel
theorem dX12_of_0 : decode cX12_of 0 = .ok (.aload_n 0, 1) := by decide +kernel
theorem dX12_of_1 : decode cX12_of 1 = .ok (.iconst 0, 1) := by decide +kernel
theorem dX12_of_2 : decode cX12_of 2 = .ok (.putfield 3, 3) := by decide +kernel
theorem dX12_of_5 : decode cX12_of 5 = .ok (.aload_n 0, 1) := by decide +kernel
theorem dX12_of_6 : decode cX12_of 6 = .ok (.iload_n 1, 1) := by decide +kernel
theorem dX12_of_7 : decode cX12_of 7 = .ok (.invokevirtual 131, 3) := by decide +kernel
theorem dX12_of_10 : decode cX12_of 10 = .ok (.ifCond .eq 15, 3) := by decide +kernel
theorem dX12_of_13 : decode cX12_of 13 = .ok (.iload_n 2, 1) := by decide +kernel
theorem dX12_of_14 : decode cX12_of 14 = .ok (.i2l, 1) := by decide +kernel
theorem dX12_of_15 : decode cX12_of 15 = .ok (.lconst 0, 1) := by decide +kernel
theorem dX12_of_16 : decode cX12_of 16 = .ok (.ldc2_w 134, 3) := by decide +kernel
theorem dX12_of_19 : decode cX12_of 19 = .ok (.invokestatic 29, 3) := by decide +kernel
theorem dX12_of_22 : decode cX12_of 22 = .ok (.ifCond .ne 8, 3) := by decide +kernel
theorem dX12_of_25 : decode cX12_of 25 = .ok (.aload_n 0, 1) := by decide +kernel
theorem dX12_of_26 : decode cX12_of 26 = .ok (.invokevirtual 136, 3) := by decide +kernel
theorem dX12_of_29 : decode cX12_of 29 = .ok (.ireturn, 1) := by decide +kernel
theorem dX12_of_30 : decode cX12_of 30 = .ok (.iload_n 2, 1) := by decide +kernel
theorem dX12_of_31 : decode cX12_of 31 = .ok (.tableswitch 107 0 7 #[45, 52, 59, 66, 73, 80, 87, 97], 45) := by decide +kernel
theorem dX12_of_76 : decode cX12_of 76 = .ok (.aload_n 0, 1) := by decide +kernel
theorem dX12_of_77 : decode cX12_of 77 = .ok (.getfield 67, 3) := by decide +kernel
theorem dX12_of_80 : decode cX12_of 80 = .ok (.iload_n 1, 1) := by decide +kernel
theorem dX12_of_81 : decode cX12_of 81 = .ok (.iaload, 1) := by decide +kernel
theorem dX12_of_82 : decode cX12_of 82 = .ok (.ireturn, 1) := by decide +kernel
theorem dX12_of_83 : decode cX12_of 83 = .ok (.aload_n 0, 1) := by decide +kernel
theorem dX12_of_84 : decode cX12_of 84 = .ok (.getfield 74, 3) := by decide +kernel
theorem dX12_of_87 : decode cX12_of 87 = .ok (.iload_n 1, 1) := by decide +kernel
theorem dX12_of_88 : decode cX12_of 88 = .ok (.iaload, 1) := by decide +kernel
theorem dX12_of_89 : decode cX12_of 89 = .ok (.ireturn, 1) := by decide +kernel
theorem dX12_of_90 : decode cX12_of 90 = .ok (.aload_n 0, 1) := by decide +kernel
theorem dX12_of_91 : decode cX12_of 91 = .ok (.getfield 77, 3) := by decide +kernel
theorem dX12_of_94 : decode cX12_of 94 = .ok (.iload_n 1, 1) := by decide +kernel
theorem dX12_of_95 : decode cX12_of 95 = .ok (.iaload, 1) := by decide +kernel
theorem dX12_of_96 : decode cX12_of 96 = .ok (.ireturn, 1) := by decide +kernel
theorem dX12_of_97 : decode cX12_of 97 = .ok (.aload_n 0, 1) := by decide +kernel
theorem dX12_of_98 : decode cX12_of 98 = .ok (.getfield 80, 3) := by decide +kernel
theorem dX12_of_101 : decode cX12_of 101 = .ok (.iload_n 1, 1) := by decide +kernel
theorem dX12_of_102 : decode cX12_of 102 = .ok (.iaload, 1) := by decide +kernel
theorem dX12_of_103 : decode cX12_of 103 = .ok (.ireturn, 1) := by decide +kernel
theorem dX12_of_104 : decode cX12_of 104 = .ok (.aload_n 0, 1) := by decide +kernel
theorem dX12_of_105 : decode cX12_of 105 = .ok (.getfield 83, 3) := by decide +kernel
theorem dX12_of_108 : decode cX12_of 108 = .ok (.iload_n 1, 1) := by decide +kernel
theorem dX12_of_109 : decode cX12_of 109 = .ok (.iaload, 1) := by decide +kernel
theorem dX12_of_110 : decode cX12_of 110 = .ok (.ireturn, 1) := by decide +kernel
theorem dX12_of_111 : decode cX12_of 111 = .ok (.aload_n 0, 1) := by decide +kernel
theorem dX12_of_112 : decode cX12_of 112 = .ok (.getfield 86, 3) := by decide +kernel
theorem dX12_of_115 : decode cX12_of 115 = .ok (.iload_n 1, 1) := by decide +kernel
theorem dX12_of_116 : decode cX12_of 116 = .ok (.iaload, 1) := by decide +kernel
theorem dX12_of_117 : decode cX12_of 117 = .ok (.ireturn, 1) := by decide +kernel
theorem dX12_of_118 : decode cX12_of 118 = .ok (.aload_n 0, 1) := by decide +kernel
theorem dX12_of_119 : decode cX12_of 119 = .ok (.getfield 89, 3) := by decide +kernel
theorem dX12_of_122 : decode cX12_of 122 = .ok (.iload_n 1, 1) := by decide +kernel
theorem dX12_of_123 : decode cX12_of 123 = .ok (.baload, 1) := by decide +kernel
theorem dX12_of_124 : decode cX12_of 124 = .ok (.invokestatic 70, 3) := by decide +kernel
theorem dX12_of_127 : decode cX12_of 127 = .ok (.ireturn, 1) := by decide +kernel
theorem dX12_of_128 : decode cX12_of 128 = .ok (.aload_n 0, 1) := by decide +kernel
theorem dX12_of_129 : decode cX12_of 129 = .ok (.getfield 93, 3) := by decide +kernel
theorem dX12_of_132 : decode cX12_of 132 = .ok (.iload_n 1, 1) := by decide +kernel
theorem dX12_of_133 : decode cX12_of 133 = .ok (.baload, 1) := by decide +kernel
theorem dX12_of_134 : decode cX12_of 134 = .ok (.invokestatic 70, 3) := by decide +kernel
theorem dX12_of_137 : decode cX12_of 137 = .ok (.ireturn, 1) := by decide +kernel
theorem dX12_of_138 : decode cX12_of 138 = .ok (.aload_n 0, 1) := by decide +kernel
theorem dX12_of_139 : decode cX12_of 139 = .ok (.getfield 96, 3) := by decide +kernel
theorem dX12_of_142 : decode cX12_of 142 = .ok (.iload_n 1, 1) := by decide +kernel
theorem dX12_of_143 : decode cX12_of 143 = .ok (.iaload, 1) := by decide +kernel
theorem dX12_of_144 : decode cX12_of 144 = .ok (.ireturn, 1) := by decide +kernel
theorem dX12_sign_0 : decode cX12_sign 0 = .ok (.aload_n 0, 1) := by decide +kernel
theorem dX12_sign_1 : decode cX12_sign 1 = .ok (.iconst 0, 1) := by decide +kernel
theorem dX12_sign_2 : decode cX12_sign 2 = .ok (.putfield 3, 3) := by decide +kernel
theorem dX12_sign_5 : decode cX12_sign 5 = .ok (.aload_n 0, 1) := by decide +kernel
theorem dX12_sign_6 : decode cX12_sign 6 = .ok (.getfield 140, 3) := by decide +kernel
theorem dX12_sign_9 : decode cX12_sign 9 = .ok (.bipush 56, 2) := by decide +kernel
theorem dX12_sign_11 : decode cX12_sign 11 = .ok (.if_icmp .le 5, 3) := by decide +kernel
theorem dX12_sign_14 : decode cX12_sign 14 = .ok (.iconst (-1), 1) := by decide +kernel
theorem dX12_sign_15 : decode cX12_sign 15 = .ok (.ireturn, 1) := by decide +kernel
theorem dX12_sign_16 : decode cX12_sign 16 = .ok (.iconst 0, 1) := by decide +kernel
theorem dX12_sign_17 : decode cX12_sign 17 = .ok (.istore_n 2, 1) := by decide +kernel
theorem dX12_sign_18 : decode cX12_sign 18 = .ok (.iload_n 2, 1) := by decide +kernel
theorem dX12_sign_19 : decode cX12_sign 19 = .ok (.iconst 4, 1) := by decide +kernel
theorem dX12_sign_20 : decode cX12_sign 20 = .ok (.if_icmp .ge 33, 3) := by decide +kernel
theorem dX12_sign_23 : decode cX12_sign 23 = .ok (.aload_n 0, 1) := by decide +kernel
theorem dX12_sign_24 : decode cX12_sign 24 = .ok (.getfield 143, 3) := by decide +kernel
theorem dX12_sign_27 : decode cX12_sign 27 = .ok (.aload_n 0, 1) := by decide +kernel
theorem dX12_sign_28 : decode cX12_sign 28 = .ok (.getfield 140, 3) := by decide +kernel
theorem dX12_sign_31 : decode cX12_sign 31 = .ok (.iload_n 2, 1) := by decide +kernel
theorem dX12_sign_32 : decode cX12_sign 32 = .ok (.iadd, 1) := by decide +kernel
theorem dX12_sign_33 : decode cX12_sign 33 = .ok (.iload_n 1, 1) := by decide +kernel
theorem dX12_sign_34 : decode cX12_sign 34 = .ok (.bipush 24, 2) := by decide +kernel
theorem dX12_sign_36 : decode cX12_sign 36 = .ok (.bipush 8, 2) := by decide +kernel
theorem dX12_sign_38 : decode cX12_sign 38 = .ok (.iload_n 2, 1) := by decide +kernel
theorem dX12_sign_39 : decode cX12_sign 39 = .ok (.imul, 1) := by decide +kernel
theorem dX12_sign_40 : decode cX12_sign 40 = .ok (.isub, 1) := by decide +kernel
theorem dX12_sign_41 : decode cX12_sign 41 = .ok (.ishr, 1) := by decide +kernel
theorem dX12_sign_42 : decode cX12_sign 42 = .ok (.sipush 255, 3) := by decide +kernel
theorem dX12_sign_45 : decode cX12_sign 45 = .ok (.iand, 1) := by decide +kernel
theorem dX12_sign_46 : decode cX12_sign 46 = .ok (.iastore, 1) := by decide +kernel
theorem dX12_sign_47 : decode cX12_sign 47 = .ok (.iinc 2 1, 3) := by decide +kernel
theorem dX12_sign_50 : decode cX12_sign 50 = .ok (.goto (-32), 3) := by decide +kernel
theorem dX12_sign_53 : decode cX12_sign 53 = .ok (.aload_n 0, 1) := by decide +kernel
theorem dX12_sign_54 : decode cX12_sign 54 = .ok (.dup, 1) := by decide +kernel
theorem dX12_sign_55 : decode cX12_sign 55 = .ok (.getfield 140, 3) := by decide +kernel
theorem dX12_sign_58 : decode cX12_sign 58 = .ok (.iconst 4, 1) := by decide +kernel
theorem dX12_sign_59 : decode cX12_sign 59 = .ok (.iadd, 1) := by decide +kernel
theorem dX12_sign_60 : decode cX12_sign 60 = .ok (.putfield 140, 3) := by decide +kernel
theorem dX12_sign_63 : decode cX12_sign 63 = .ok (.aload_n 0, 1) := by decide +kernel
theorem dX12_sign_64 : decode cX12_sign 64 = .ok (.getfield 140, 3) := by decide +kernel
theorem dX12_sign_67 : decode cX12_sign 67 = .ok (.ireturn, 1) := by decide +kernel
theorem dX12_end_0 : decode cX12_end 0 = .ok (.aload_n 0, 1) := by decide +kernel
theorem dX12_end_1 : decode cX12_end 1 = .ok (.iconst 0, 1) := by decide +kernel
theorem dX12_end_2 : decode cX12_end 2 = .ok (.putfield 3, 3) := by decide +kernel
theorem dX12_end_5 : decode cX12_end 5 = .ok (.iload_n 1, 1) := by decide +kernel
theorem dX12_end_6 : decode cX12_end 6 = .ok (.i2l, 1) := by decide +kernel
theorem dX12_end_7 : decode cX12_end 7 = .ok (.lconst 0, 1) := by decide +kernel
theorem dX12_end_8 : decode cX12_end 8 = .ok (.aload_n 0, 1) := by decide +kernel
theorem dX12_end_9 : decode cX12_end 9 = .ok (.getfield 140, 3) := by decide +kernel
theorem dX12_end_12 : decode cX12_end 12 = .ok (.i2l, 1) := by decide +kernel
theorem dX12_end_13 : decode cX12_end 13 = .ok (.invokestatic 29, 3) := by decide +kernel
theorem dX12_end_16 : decode cX12_end 16 = .ok (.ifCond .ne 5, 3) := by decide +kernel
theorem dX12_end_19 : decode cX12_end 19 = .ok (.iconst 0, 1) := by decide +kernel
theorem dX12_end_20 : decode cX12_end 20 = .ok (.ireturn, 1) := by decide +kernel
theorem dX12_end_21 : decode cX12_end 21 = .ok (.aload_n 0, 1) := by decide +kernel
theorem dX12_end_22 : decode cX12_end 22 = .ok (.iload_n 1, 1) := by decide +kernel
theorem dX12_end_23 : decode cX12_end 23 = .ok (.putfield 140, 3) := by decide +kernel
theorem dX12_end_26 : decode cX12_end 26 = .ok (.iconst 1, 1) := by decide +kernel
theorem dX12_end_27 : decode cX12_end 27 = .ok (.ireturn, 1) := by decide +kernel
theorem dX12_isDigit_0 : decode cX12_isDigit 0 = .ok (.aload_n 0, 1) := by decide +kernel
theorem dX12_isDigit_1 : decode cX12_isDigit 1 = .ok (.getfield 146, 3) := by decide +kernel
theorem dX12_isDigit_4 : decode cX12_isDigit 4 = .ok (.aload_n 0, 1) := by decide +kernel
theorem dX12_isDigit_5 : decode cX12_isDigit 5 = .ok (.getfield 149, 3) := by decide +kernel
theorem dX12_isDigit_8 : decode cX12_isDigit 8 = .ok (.if_icmp .ge 29, 3) := by decide +kernel
theorem dX12_isDigit_11 : decode cX12_isDigit 11 = .ok (.aload_n 0, 1) := by decide +kernel
theorem dX12_isDigit_12 : decode cX12_isDigit 12 = .ok (.getfield 143, 3) := by decide +kernel
theorem dX12_isDigit_15 : decode cX12_isDigit 15 = .ok (.aload_n 0, 1) := by decide +kernel
theorem dX12_isDigit_16 : decode cX12_isDigit 16 = .ok (.getfield 146, 3) := by decide +kernel
theorem dX12_isDigit_19 : decode cX12_isDigit 19 = .ok (.iaload, 1) := by decide +kernel
theorem dX12_isDigit_20 : decode cX12_isDigit 20 = .ok (.i2l, 1) := by decide +kernel
theorem dX12_isDigit_21 : decode cX12_isDigit 21 = .ok (.ldc2_w 152, 3) := by decide +kernel
theorem dX12_isDigit_24 : decode cX12_isDigit 24 = .ok (.ldc2_w 154, 3) := by decide +kernel
theorem dX12_isDigit_27 : decode cX12_isDigit 27 = .ok (.invokestatic 29, 3) := by decide +kernel
theorem dX12_isDigit_30 : decode cX12_isDigit 30 = .ok (.ifCond .eq 7, 3) := by decide +kernel
theorem dX12_isDigit_33 : decode cX12_isDigit 33 = .ok (.iconst 1, 1) := by decide +kernel
theorem dX12_isDigit_34 : decode cX12_isDigit 34 = .ok (.goto 4, 3) := by decide +kernel
theorem dX12_isDigit_37 : decode cX12_isDigit 37 = .ok (.iconst 0, 1) := by decide +kernel
theorem dX12_isDigit_38 : decode cX12_isDigit 38 = .ok (.ireturn, 1) := by decide +kernel
theorem dX12_among_0 : decode cX12_among 0 = .ok (.iconst 0, 1) := by decide +kernel
theorem dX12_among_1 : decode cX12_among 1 = .ok (.istore_n 2, 1) := by decide +kernel
theorem dX12_among_2 : decode cX12_among 2 = .ok (.iload_n 2, 1) := by decide +kernel
theorem dX12_among_3 : decode cX12_among 3 = .ok (.aload_n 1, 1) := by decide +kernel
theorem dX12_among_4 : decode cX12_among 4 = .ok (.invokevirtual 156, 3) := by decide +kernel
theorem dX12_among_7 : decode cX12_among 7 = .ok (.if_icmp .ge 39, 3) := by decide +kernel
theorem dX12_among_10 : decode cX12_among 10 = .ok (.aload_n 0, 1) := by decide +kernel
theorem dX12_among_11 : decode cX12_among 11 = .ok (.getfield 146, 3) := by decide +kernel
theorem dX12_among_14 : decode cX12_among 14 = .ok (.aload_n 0, 1) := by decide +kernel
theorem dX12_among_15 : decode cX12_among 15 = .ok (.getfield 149, 3) := by decide +kernel
theorem dX12_among_18 : decode cX12_among 18 = .ok (.if_icmp .ge 28, 3) := by decide +kernel
theorem dX12_among_21 : decode cX12_among 21 = .ok (.aload_n 1, 1) := by decide +kernel
theorem dX12_among_22 : decode cX12_among 22 = .ok (.iload_n 2, 1) := by decide +kernel
theorem dX12_among_23 : decode cX12_among 23 = .ok (.invokevirtual 161, 3) := by decide +kernel
theorem dX12_among_26 : decode cX12_among 26 = .ok (.aload_n 0, 1) := by decide +kernel
theorem dX12_among_27 : decode cX12_among 27 = .ok (.getfield 143, 3) := by decide +kernel
theorem dX12_among_30 : decode cX12_among 30 = .ok (.aload_n 0, 1) := by decide +kernel
theorem dX12_among_31 : decode cX12_among 31 = .ok (.getfield 146, 3) := by decide +kernel
theorem dX12_among_34 : decode cX12_among 34 = .ok (.iaload, 1) := by decide +kernel
theorem dX12_among_35 : decode cX12_among 35 = .ok (.if_icmp .ne 5, 3) := by decide +kernel
theorem dX12_among_38 : decode cX12_among 38 = .ok (.iload_n 2, 1) := by decide +kernel
theorem dX12_among_39 : decode cX12_among 39 = .ok (.ireturn, 1) := by decide +kernel
theorem dX12_among_40 : decode cX12_among 40 = .ok (.iinc 2 1, 3) := by decide +kernel
theorem dX12_among_43 : decode cX12_among 43 = .ok (.goto (-41), 3) := by decide +kernel
theorem dX12_among_46 : decode cX12_among 46 = .ok (.iconst (-1), 1) := by decide +kernel
theorem dX12_among_47 : decode cX12_among 47 = .ok (.ireturn, 1) := by decide +kernel
theorem dX12_marks_0 : decode cX12_marks 0 = .ok (.aload_n 0, 1) := by decide +kernel
theorem dX12_marks_1 : decode cX12_marks 1 = .ok (.getfield 165, 3) := by decide +kernel
theorem dX12_marks_4 : decode cX12_marks 4 = .ok (.sipush 576, 3) := by decide +kernel
theorem dX12_marks_7 : decode cX12_marks 7 = .ok (.aload_n 0, 1) := by decide +kernel
theorem dX12_marks_8 : decode cX12_marks 8 = .ok (.getfield 168, 3) := by decide +kernel
theorem dX12_marks_11 : decode cX12_marks 11 = .ok (.bipush 12, 2) := by decide +kernel
theorem dX12_marks_13 : decode cX12_marks 13 = .ok (.iaload, 1) := by decide +kernel
theorem dX12_marks_14 : decode cX12_marks 14 = .ok (.iadd, 1) := by decide +kernel
theorem dX12_marks_15 : decode cX12_marks 15 = .ok (.iload_n 1, 1) := by decide +kernel
theorem dX12_marks_16 : decode cX12_marks 16 = .ok (.iastore, 1) := by decide +kernel
theorem dX12_marks_17 : decode cX12_marks 17 = .ok (.aload_n 0, 1) := by decide +kernel
theorem dX12_marks_18 : decode cX12_marks 18 = .ok (.getfield 168, 3) := by decide +kernel
theorem dX12_marks_21 : decode cX12_marks 21 = .ok (.bipush 12, 2) := by decide +kernel
theorem dX12_marks_23 : decode cX12_marks 23 = .ok (.dup2, 1) := by decide +kernel
theorem dX12_marks_24 : decode cX12_marks 24 = .ok (.iaload, 1) := by decide +kernel
theorem dX12_marks_25 : decode cX12_marks 25 = .ok (.iconst 1, 1) := by decide +kernel
theorem dX12_marks_26 : decode cX12_marks 26 = .ok (.iadd, 1) := by decide +kernel
theorem dX12_marks_27 : decode cX12_marks 27 = .ok (.iastore, 1) := by decide +kernel
theorem dX12_marks_28 : decode cX12_marks 28 = .ok (.return_, 1) := by decide +kernel
theorem dX12_thing_0 : decode cX12_thing 0 = .ok (.aload_n 0, 1) := by decide +kernel
theorem dX12_thing_1 : decode cX12_thing 1 = .ok (.invokevirtual 171, 3) := by decide +kernel
theorem dX12_thing_4 : decode cX12_thing 4 = .ok (.ifCond .eq 60, 3) := by decide +kernel
theorem dX12_thing_7 : decode cX12_thing 7 = .ok (.iconst 0, 1) := by decide +kernel
theorem dX12_thing_8 : decode cX12_thing 8 = .ok (.istore_n 1, 1) := by decide +kernel
theorem dX12_thing_9 : decode cX12_thing 9 = .ok (.iconst 0, 1) := by decide +kernel
theorem dX12_thing_10 : decode cX12_thing 10 = .ok (.istore_n 2, 1) := by decide +kernel
theorem dX12_thing_11 : decode cX12_thing 11 = .ok (.iload_n 2, 1) := by decide +kernel
theorem dX12_thing_12 : decode cX12_thing 12 = .ok (.iconst 3, 1) := by decide +kernel
theorem dX12_thing_13 : decode cX12_thing 13 = .ok (.if_icmp .ge 44, 3) := by decide +kernel
theorem dX12_thing_16 : decode cX12_thing 16 = .ok (.aload_n 0, 1) := by decide +kernel
theorem dX12_thing_17 : decode cX12_thing 17 = .ok (.invokevirtual 171, 3) := by decide +kernel
theorem dX12_thing_20 : decode cX12_thing 20 = .ok (.ifCond .eq 37, 3) := by decide +kernel
theorem dX12_thing_23 : decode cX12_thing 23 = .ok (.bipush 10, 2) := by decide +kernel
theorem dX12_thing_25 : decode cX12_thing 25 = .ok (.iload_n 1, 1) := by decide +kernel
theorem dX12_thing_26 : decode cX12_thing 26 = .ok (.imul, 1) := by decide +kernel
theorem dX12_thing_27 : decode cX12_thing 27 = .ok (.aload_n 0, 1) := by decide +kernel
theorem dX12_thing_28 : decode cX12_thing 28 = .ok (.getfield 143, 3) := by decide +kernel
theorem dX12_thing_31 : decode cX12_thing 31 = .ok (.aload_n 0, 1) := by decide +kernel
theorem dX12_thing_32 : decode cX12_thing 32 = .ok (.getfield 146, 3) := by decide +kernel
theorem dX12_thing_35 : decode cX12_thing 35 = .ok (.iaload, 1) := by decide +kernel
theorem dX12_thing_36 : decode cX12_thing 36 = .ok (.iadd, 1) := by decide +kernel
theorem dX12_thing_37 : decode cX12_thing 37 = .ok (.bipush 48, 2) := by decide +kernel
theorem dX12_thing_39 : decode cX12_thing 39 = .ok (.isub, 1) := by decide +kernel
theorem dX12_thing_40 : decode cX12_thing 40 = .ok (.istore_n 1, 1) := by decide +kernel
theorem dX12_thing_41 : decode cX12_thing 41 = .ok (.aload_n 0, 1) := by decide +kernel
theorem dX12_thing_42 : decode cX12_thing 42 = .ok (.dup, 1) := by decide +kernel
theorem dX12_thing_43 : decode cX12_thing 43 = .ok (.getfield 146, 3) := by decide +kernel
theorem dX12_thing_46 : decode cX12_thing 46 = .ok (.iconst 1, 1) := by decide +kernel
theorem dX12_thing_47 : decode cX12_thing 47 = .ok (.iadd, 1) := by decide +kernel
theorem dX12_thing_48 : decode cX12_thing 48 = .ok (.putfield 146, 3) := by decide +kernel
theorem dX12_thing_51 : decode cX12_thing 51 = .ok (.iinc 2 1, 3) := by decide +kernel
theorem dX12_thing_54 : decode cX12_thing 54 = .ok (.goto (-43), 3) := by decide +kernel
theorem dX12_thing_57 : decode cX12_thing 57 = .ok (.aload_n 0, 1) := by decide +kernel
theorem dX12_thing_58 : decode cX12_thing 58 = .ok (.iload_n 1, 1) := by decide +kernel
theorem dX12_thing_59 : decode cX12_thing 59 = .ok (.invokevirtual 175, 3) := by decide +kernel
theorem dX12_thing_62 : decode cX12_thing 62 = .ok (.iconst 1, 1) := by decide +kernel
theorem dX12_thing_63 : decode cX12_thing 63 = .ok (.ireturn, 1) := by decide +kernel
theorem dX12_thing_64 : decode cX12_thing 64 = .ok (.aload_n 0, 1) := by decide +kernel
theorem dX12_thing_65 : decode cX12_thing 65 = .ok (.aload_n 0, 1) := by decide +kernel
theorem dX12_thing_66 : decode cX12_thing 66 = .ok (.getfield 179, 3) := by decide +kernel
theorem dX12_thing_69 : decode cX12_thing 69 = .ok (.ifCond .eq 8, 3) := by decide +kernel
theorem dX12_thing_72 : decode cX12_thing 72 = .ok (.ldc 183, 2) := by decide +kernel
theorem dX12_thing_74 : decode cX12_thing 74 = .ok (.goto 5, 3) := by decide +kernel
theorem dX12_thing_77 : decode cX12_thing 77 = .ok (.ldc 185, 2) := by decide +kernel
theorem dX12_thing_79 : decode cX12_thing 79 = .ok (.invokevirtual 187, 3) := by decide +kernel
theorem dX12_thing_82 : decode cX12_thing 82 = .ok (.istore_n 1, 1) := by decide +kernel
theorem dX12_thing_83 : decode cX12_thing 83 = .ok (.iload_n 1, 1) := by decide +kernel
theorem dX12_thing_84 : decode cX12_thing 84 = .ok (.ifCond .lt 42, 3) := by decide +kernel
theorem dX12_thing_87 : decode cX12_thing 87 = .ok (.aload_n 0, 1) := by decide +kernel
theorem dX12_thing_88 : decode cX12_thing 88 = .ok (.sipush 1000, 3) := by decide +kernel
theorem dX12_thing_91 : decode cX12_thing 91 = .ok (.aload_n 0, 1) := by decide +kernel
theorem dX12_thing_92 : decode cX12_thing 92 = .ok (.getfield 179, 3) := by decide +kernel
theorem dX12_thing_95 : decode cX12_thing 95 = .ok (.ifCond .ne 14, 3) := by decide +kernel
theorem dX12_thing_98 : decode cX12_thing 98 = .ok (.iload_n 1, 1) := by decide +kernel
theorem dX12_thing_99 : decode cX12_thing 99 = .ok (.bipush 10, 2) := by decide +kernel
theorem dX12_thing_101 : decode cX12_thing 101 = .ok (.if_icmp .ne 8, 3) := by decide +kernel
theorem dX12_thing_104 : decode cX12_thing 104 = .ok (.bipush 13, 2) := by decide +kernel
theorem dX12_thing_106 : decode cX12_thing 106 = .ok (.goto 4, 3) := by decide +kernel
theorem dX12_thing_109 : decode cX12_thing 109 = .ok (.iload_n 1, 1) := by decide +kernel
theorem dX12_thing_110 : decode cX12_thing 110 = .ok (.iadd, 1) := by decide +kernel
theorem dX12_thing_111 : decode cX12_thing 111 = .ok (.invokevirtual 175, 3) := by decide +kernel
theorem dX12_thing_114 : decode cX12_thing 114 = .ok (.aload_n 0, 1) := by decide +kernel
theorem dX12_thing_115 : decode cX12_thing 115 = .ok (.dup, 1) := by decide +kernel
theorem dX12_thing_116 : decode cX12_thing 116 = .ok (.getfield 146, 3) := by decide +kernel
theorem dX12_thing_119 : decode cX12_thing 119 = .ok (.iconst 1, 1) := by decide +kernel
theorem dX12_thing_120 : decode cX12_thing 120 = .ok (.iadd, 1) := by decide +kernel
theorem dX12_thing_121 : decode cX12_thing 121 = .ok (.putfield 146, 3) := by decide +kernel
theorem dX12_thing_124 : decode cX12_thing 124 = .ok (.iconst 1, 1) := by decide +kernel
theorem dX12_thing_125 : decode cX12_thing 125 = .ok (.ireturn, 1) := by decide +kernel
theorem dX12_thing_126 : decode cX12_thing 126 = .ok (.aload_n 0, 1) := by decide +kernel
theorem dX12_thing_127 : decode cX12_thing 127 = .ok (.ldc 191, 2) := by decide +kernel
theorem dX12_thing_129 : decode cX12_thing 129 = .ok (.invokevirtual 187, 3) := by decide +kernel
theorem dX12_thing_132 : decode cX12_thing 132 = .ok (.ifCond .lt 11, 3) := by decide +kernel
theorem dX12_thing_135 : decode cX12_thing 135 = .ok (.aload_n 0, 1) := by decide +kernel
theorem dX12_thing_136 : decode cX12_thing 136 = .ok (.getfield 193, 3) := by decide +kernel
theorem dX12_thing_139 : decode cX12_thing 139 = .ok (.iconst 5, 1) := by decide +kernel
theorem dX12_thing_140 : decode cX12_thing 140 = .ok (.if_icmp .ne 5, 3) := by decide +kernel
theorem dX12_thing_143 : decode cX12_thing 143 = .ok (.iconst 0, 1) := by decide +kernel
theorem dX12_thing_144 : decode cX12_thing 144 = .ok (.ireturn, 1) := by decide +kernel
theorem dX12_thing_145 : decode cX12_thing 145 = .ok (.aload_n 0, 1) := by decide +kernel
theorem dX12_thing_146 : decode cX12_thing 146 = .ok (.dup, 1) := by decide +kernel
theorem dX12_thing_147 : decode cX12_thing 147 = .ok (.getfield 146, 3) := by decide +kernel
theorem dX12_thing_150 : decode cX12_thing 150 = .ok (.iconst 1, 1) := by decide +kernel
theorem dX12_thing_151 : decode cX12_thing 151 = .ok (.iadd, 1) := by decide +kernel
theorem dX12_thing_152 : decode cX12_thing 152 = .ok (.putfield 146, 3) := by decide +kernel
theorem dX12_thing_155 : decode cX12_thing 155 = .ok (.aload_n 0, 1) := by decide +kernel
theorem dX12_thing_156 : decode cX12_thing 156 = .ok (.dup, 1) := by decide +kernel
theorem dX12_thing_157 : decode cX12_thing 157 = .ok (.getfield 193, 3) := by decide +kernel
theorem dX12_thing_160 : decode cX12_thing 160 = .ok (.iconst 1, 1) := by decide +kernel
theorem dX12_thing_161 : decode cX12_thing 161 = .ok (.iadd, 1) := by decide +kernel
theorem dX12_thing_162 : decode cX12_thing 162 = .ok (.putfield 193, 3) := by decide +kernel
theorem dX12_thing_165 : decode cX12_thing 165 = .ok (.aload_n 0, 1) := by decide +kernel
theorem dX12_thing_166 : decode cX12_thing 166 = .ok (.iconst 0, 1) := by decide +kernel
theorem dX12_thing_167 : decode cX12_thing 167 = .ok (.invokevirtual 196, 3) := by decide +kernel
theorem dX12_thing_170 : decode cX12_thing 170 = .ok (.ifCond .eq 12, 3) := by decide +kernel
theorem dX12_thing_173 : decode cX12_thing 173 = .ok (.aload_n 0, 1) := by decide +kernel
theorem dX12_thing_174 : decode cX12_thing 174 = .ok (.ldc 199, 2) := by decide +kernel
theorem dX12_thing_176 : decode cX12_thing 176 = .ok (.invokevirtual 187, 3) := by decide +kernel
theorem dX12_thing_179 : decode cX12_thing 179 = .ok (.ifCond .ge 5, 3) := by decide +kernel
theorem dX12_thing_182 : decode cX12_thing 182 = .ok (.iconst 0, 1) := by decide +kernel
theorem dX12_thing_183 : decode cX12_thing 183 = .ok (.ireturn, 1) := by decide +kernel
theorem dX12_thing_184 : decode cX12_thing 184 = .ok (.aload_n 0, 1) := by decide +kernel
theorem dX12_thing_185 : decode cX12_thing 185 = .ok (.dup, 1) := by decide +kernel
theorem dX12_thing_186 : decode cX12_thing 186 = .ok (.getfield 146, 3) := by decide +kernel
theorem dX12_thing_189 : decode cX12_thing 189 = .ok (.iconst 1, 1) := by decide +kernel
theorem dX12_thing_190 : decode cX12_thing 190 = .ok (.iadd, 1) := by decide +kernel
theorem dX12_thing_191 : decode cX12_thing 191 = .ok (.putfield 146, 3) := by decide +kernel
theorem dX12_thing_194 : decode cX12_thing 194 = .ok (.aload_n 0, 1) := by decide +kernel
theorem dX12_thing_195 : decode cX12_thing 195 = .ok (.dup, 1) := by decide +kernel
theorem dX12_thing_196 : decode cX12_thing 196 = .ok (.getfield 193, 3) := by decide +kernel
theorem dX12_thing_199 : decode cX12_thing 199 = .ok (.iconst 1, 1) := by decide +kernel
theorem dX12_thing_200 : decode cX12_thing 200 = .ok (.isub, 1) := by decide +kernel
theorem dX12_thing_201 : decode cX12_thing 201 = .ok (.putfield 193, 3) := by decide +kernel
theorem dX12_thing_204 : decode cX12_thing 204 = .ok (.iconst 1, 1) := by decide +kernel
theorem dX12_thing_205 : decode cX12_thing 205 = .ok (.ireturn, 1) := by decide +kernel
theorem dX12_ahead_0 : decode cX12_ahead 0 = .ok (.aload_n 0, 1) := by decide +kernel
theorem dX12_ahead_1 : decode cX12_ahead 1 = .ok (.ldc 201, 2) := by decide +kernel
theorem dX12_ahead_3 : decode cX12_ahead 3 = .ok (.invokevirtual 187, 3) := by decide +kernel
theorem dX12_ahead_6 : decode cX12_ahead 6 = .ok (.istore_n 1, 1) := by decide +kernel
theorem dX12_ahead_7 : decode cX12_ahead 7 = .ok (.iload_n 1, 1) := by decide +kernel
theorem dX12_ahead_8 : decode cX12_ahead 8 = .ok (.ifCond .ge 8, 3) := by decide +kernel
theorem dX12_ahead_11 : decode cX12_ahead 11 = .ok (.aload_n 0, 1) := by decide +kernel
theorem dX12_ahead_12 : decode cX12_ahead 12 = .ok (.invokevirtual 203, 3) := by decide +kernel
theorem dX12_ahead_15 : decode cX12_ahead 15 = .ok (.ireturn, 1) := by decide +kernel
theorem dX12_ahead_16 : decode cX12_ahead 16 = .ok (.aload_n 0, 1) := by decide +kernel
theorem dX12_ahead_17 : decode cX12_ahead 17 = .ok (.dup, 1) := by decide +kernel
theorem dX12_ahead_18 : decode cX12_ahead 18 = .ok (.getfield 146, 3) := by decide +kernel
theorem dX12_ahead_21 : decode cX12_ahead 21 = .ok (.iconst 1, 1) := by decide +kernel
theorem dX12_ahead_22 : decode cX12_ahead 22 = .ok (.iadd, 1) := by decide +kernel
theorem dX12_ahead_23 : decode cX12_ahead 23 = .ok (.putfield 146, 3) := by decide +kernel
theorem dX12_ahead_26 : decode cX12_ahead 26 = .ok (.aload_n 0, 1) := by decide +kernel
theorem dX12_ahead_27 : decode cX12_ahead 27 = .ok (.invokevirtual 206, 3) := by decide +kernel
theorem dX12_ahead_30 : decode cX12_ahead 30 = .ok (.istore_n 2, 1) := by decide +kernel
theorem dX12_ahead_31 : decode cX12_ahead 31 = .ok (.iload_n 2, 1) := by decide +kernel
theorem dX12_ahead_32 : decode cX12_ahead 32 = .ok (.ifCond .eq 22, 3) := by decide +kernel
theorem dX12_ahead_35 : decode cX12_ahead 35 = .ok (.aload_n 0, 1) := by decide +kernel
theorem dX12_ahead_36 : decode cX12_ahead 36 = .ok (.sipush 2000, 3) := by decide +kernel
theorem dX12_ahead_39 : decode cX12_ahead 39 = .ok (.iload_n 1, 1) := by decide +kernel
theorem dX12_ahead_40 : decode cX12_ahead 40 = .ok (.ifCond .ne 8, 3) := by decide +kernel
theorem dX12_ahead_43 : decode cX12_ahead 43 = .ok (.bipush 33, 2) := by decide +kernel
theorem dX12_ahead_45 : decode cX12_ahead 45 = .ok (.goto 5, 3) := by decide +kernel
theorem dX12_ahead_48 : decode cX12_ahead 48 = .ok (.bipush 126, 2) := by decide +kernel
theorem dX12_ahead_50 : decode cX12_ahead 50 = .ok (.iadd, 1) := by decide +kernel
theorem dX12_ahead_51 : decode cX12_ahead 51 = .ok (.invokevirtual 175, 3) := by decide +kernel
theorem dX12_ahead_54 : decode cX12_ahead 54 = .ok (.iload_n 2, 1) := by decide +kernel
theorem dX12_ahead_55 : decode cX12_ahead 55 = .ok (.ireturn, 1) := by decide +kernel
theorem dX12_ranked_0 : decode cX12_ranked 0 = .ok (.iload_n 1, 1) := by decide +kernel
theorem dX12_ranked_1 : decode cX12_ranked 1 = .ok (.iconst 5, 1) := by decide +kernel
theorem dX12_ranked_2 : decode cX12_ranked 2 = .ok (.if_icmp .ne 8, 3) := by decide +kernel
theorem dX12_ranked_5 : decode cX12_ranked 5 = .ok (.aload_n 0, 1) := by decide +kernel
theorem dX12_ranked_6 : decode cX12_ranked 6 = .ok (.invokevirtual 206, 3) := by decide +kernel
theorem dX12_ranked_9 : decode cX12_ranked 9 = .ok (.ireturn, 1) := by decide +kernel
theorem dX12_ranked_10 : decode cX12_ranked 10 = .ok (.iload_n 1, 1) := by decide +kernel
theorem dX12_ranked_11 : decode cX12_ranked 11 = .ok (.ifCond .ne 8, 3) := by decide +kernel
theorem dX12_ranked_14 : decode cX12_ranked 14 = .ok (.ldc 209, 2) := by decide +kernel
theorem dX12_ranked_16 : decode cX12_ranked 16 = .ok (.goto 35, 3) := by decide +kernel
theorem dX12_ranked_19 : decode cX12_ranked 19 = .ok (.iload_n 1, 1) := by decide +kernel
theorem dX12_ranked_20 : decode cX12_ranked 20 = .ok (.iconst 1, 1) := by decide +kernel
theorem dX12_ranked_21 : decode cX12_ranked 21 = .ok (.if_icmp .ne 8, 3) := by decide +kernel
theorem dX12_ranked_24 : decode cX12_ranked 24 = .ok (.ldc 211, 2) := by decide +kernel
theorem dX12_ranked_26 : decode cX12_ranked 26 = .ok (.goto 25, 3) := by decide +kernel
theorem dX12_ranked_29 : decode cX12_ranked 29 = .ok (.iload_n 1, 1) := by decide +kernel
theorem dX12_ranked_30 : decode cX12_ranked 30 = .ok (.iconst 2, 1) := by decide +kernel
theorem dX12_ranked_31 : decode cX12_ranked 31 = .ok (.if_icmp .ne 8, 3) := by decide +kernel
theorem dX12_ranked_34 : decode cX12_ranked 34 = .ok (.ldc 213, 2) := by decide +kernel
theorem dX12_ranked_36 : decode cX12_ranked 36 = .ok (.goto 15, 3) := by decide +kernel
theorem dX12_ranked_39 : decode cX12_ranked 39 = .ok (.iload_n 1, 1) := by decide +kernel
theorem dX12_ranked_40 : decode cX12_ranked 40 = .ok (.iconst 3, 1) := by decide +kernel
theorem dX12_ranked_41 : decode cX12_ranked 41 = .ok (.if_icmp .ne 8, 3) := by decide +kernel
theorem dX12_ranked_44 : decode cX12_ranked 44 = .ok (.ldc 215, 2) := by decide +kernel
theorem dX12_ranked_46 : decode cX12_ranked 46 = .ok (.goto 5, 3) := by decide +kernel
theorem dX12_ranked_49 : decode cX12_ranked 49 = .ok (.ldc 217, 2) := by decide +kernel
theorem dX12_ranked_51 : decode cX12_ranked 51 = .ok (.astore_n 2, 1) := by decide +kernel
theorem dX12_ranked_52 : decode cX12_ranked 52 = .ok (.aload_n 0, 1) := by decide +kernel
theorem dX12_ranked_53 : decode cX12_ranked 53 = .ok (.iload_n 1, 1) := by decide +kernel
theorem dX12_ranked_54 : decode cX12_ranked 54 = .ok (.iconst 1, 1) := by decide +kernel
theorem dX12_ranked_55 : decode cX12_ranked 55 = .ok (.iadd, 1) := by decide +kernel
theorem dX12_ranked_56 : decode cX12_ranked 56 = .ok (.invokevirtual 196, 3) := by decide +kernel
theorem dX12_ranked_59 : decode cX12_ranked 59 = .ok (.istore_n 3, 1) := by decide +kernel
theorem dX12_ranked_60 : decode cX12_ranked 60 = .ok (.iconst 1, 1) := by decide +kernel
theorem dX12_ranked_61 : decode cX12_ranked 61 = .ok (.istore 4, 2) := by decide +kernel
theorem dX12_ranked_63 : decode cX12_ranked 63 = .ok (.iload_n 3, 1) := by decide +kernel
theorem dX12_ranked_64 : decode cX12_ranked 64 = .ok (.ifCond .eq 74, 3) := by decide +kernel
theorem dX12_ranked_67 : decode cX12_ranked 67 = .ok (.iload 4, 2) := by decide +kernel
theorem dX12_ranked_69 : decode cX12_ranked 69 = .ok (.ifCond .eq 69, 3) := by decide +kernel
theorem dX12_ranked_72 : decode cX12_ranked 72 = .ok (.aload_n 0, 1) := by decide +kernel
theorem dX12_ranked_73 : decode cX12_ranked 73 = .ok (.aload_n 2, 1) := by decide +kernel
theorem dX12_ranked_74 : decode cX12_ranked 74 = .ok (.invokevirtual 187, 3) := by decide +kernel
theorem dX12_ranked_77 : decode cX12_ranked 77 = .ok (.ifCond .lt 61, 3) := by decide +kernel
theorem dX12_ranked_80 : decode cX12_ranked 80 = .ok (.aload_n 0, 1) := by decide +kernel
theorem dX12_ranked_81 : decode cX12_ranked 81 = .ok (.getfield 143, 3) := by decide +kernel
theorem dX12_ranked_84 : decode cX12_ranked 84 = .ok (.aload_n 0, 1) := by decide +kernel
theorem dX12_ranked_85 : decode cX12_ranked 85 = .ok (.getfield 146, 3) := by decide +kernel
theorem dX12_ranked_88 : decode cX12_ranked 88 = .ok (.iaload, 1) := by decide +kernel
theorem dX12_ranked_89 : decode cX12_ranked 89 = .ok (.istore 5, 2) := by decide +kernel
theorem dX12_ranked_91 : decode cX12_ranked 91 = .ok (.aload_n 0, 1) := by decide +kernel
theorem dX12_ranked_92 : decode cX12_ranked 92 = .ok (.dup, 1) := by decide +kernel
theorem dX12_ranked_93 : decode cX12_ranked 93 = .ok (.getfield 146, 3) := by decide +kernel
theorem dX12_ranked_96 : decode cX12_ranked 96 = .ok (.iconst 1, 1) := by decide +kernel
theorem dX12_ranked_97 : decode cX12_ranked 97 = .ok (.iadd, 1) := by decide +kernel
theorem dX12_ranked_98 : decode cX12_ranked 98 = .ok (.putfield 146, 3) := by decide +kernel
theorem dX12_ranked_101 : decode cX12_ranked 101 = .ok (.aload_n 0, 1) := by decide +kernel
theorem dX12_ranked_102 : decode cX12_ranked 102 = .ok (.iload_n 1, 1) := by decide +kernel
theorem dX12_ranked_103 : decode cX12_ranked 103 = .ok (.iconst 1, 1) := by decide +kernel
theorem dX12_ranked_104 : decode cX12_ranked 104 = .ok (.iadd, 1) := by decide +kernel
theorem dX12_ranked_105 : decode cX12_ranked 105 = .ok (.invokevirtual 196, 3) := by decide +kernel
theorem dX12_ranked_108 : decode cX12_ranked 108 = .ok (.istore_n 3, 1) := by decide +kernel
theorem dX12_ranked_109 : decode cX12_ranked 109 = .ok (.iload_n 3, 1) := by decide +kernel
theorem dX12_ranked_110 : decode cX12_ranked 110 = .ok (.ifCond .eq 13, 3) := by decide +kernel
theorem dX12_ranked_113 : decode cX12_ranked 113 = .ok (.aload_n 0, 1) := by decide +kernel
theorem dX12_ranked_114 : decode cX12_ranked 114 = .ok (.sipush 2000, 3) := by decide +kernel
theorem dX12_ranked_117 : decode cX12_ranked 117 = .ok (.iload 5, 2) := by decide +kernel
theorem dX12_ranked_119 : decode cX12_ranked 119 = .ok (.iadd, 1) := by decide +kernel
theorem dX12_ranked_120 : decode cX12_ranked 120 = .ok (.invokevirtual 175, 3) := by decide +kernel
theorem dX12_ranked_123 : decode cX12_ranked 123 = .ok (.iload_n 1, 1) := by decide +kernel
theorem dX12_ranked_124 : decode cX12_ranked 124 = .ok (.iconst 2, 1) := by decide +kernel
theorem dX12_ranked_125 : decode cX12_ranked 125 = .ok (.if_icmp .eq 7, 3) := by decide +kernel
theorem dX12_ranked_128 : decode cX12_ranked 128 = .ok (.iconst 1, 1) := by decide +kernel
theorem dX12_ranked_129 : decode cX12_ranked 129 = .ok (.goto 4, 3) := by decide +kernel
theorem dX12_ranked_132 : decode cX12_ranked 132 = .ok (.iconst 0, 1) := by decide +kernel
theorem dX12_ranked_133 : decode cX12_ranked 133 = .ok (.istore 4, 2) := by decide +kernel
theorem dX12_ranked_135 : decode cX12_ranked 135 = .ok (.goto (-72), 3) := by decide +kernel
theorem dX12_ranked_138 : decode cX12_ranked 138 = .ok (.iload_n 3, 1) := by decide +kernel
theorem dX12_ranked_139 : decode cX12_ranked 139 = .ok (.ireturn, 1) := by decide +kernel
theorem dX12_reads_0 : decode cX12_reads 0 = .ok (.aload_n 0, 1) := by decide +kernel
theorem dX12_reads_1 : decode cX12_reads 1 = .ok (.getfield 140, 3) := by decide +kernel
theorem dX12_reads_4 : decode cX12_reads 4 = .ok (.istore_n 3, 1) := by decide +kernel
theorem dX12_reads_5 : decode cX12_reads 5 = .ok (.aload_n 0, 1) := by decide +kernel
theorem dX12_reads_6 : decode cX12_reads 6 = .ok (.iconst 0, 1) := by decide +kernel
theorem dX12_reads_7 : decode cX12_reads 7 = .ok (.putfield 140, 3) := by decide +kernel
theorem dX12_reads_10 : decode cX12_reads 10 = .ok (.aload_n 0, 1) := by decide +kernel
theorem dX12_reads_11 : decode cX12_reads 11 = .ok (.iconst 0, 1) := by decide +kernel
theorem dX12_reads_12 : decode cX12_reads 12 = .ok (.putfield 146, 3) := by decide +kernel
theorem dX12_reads_15 : decode cX12_reads 15 = .ok (.aload_n 0, 1) := by decide +kernel
theorem dX12_reads_16 : decode cX12_reads 16 = .ok (.iconst 0, 1) := by decide +kernel
theorem dX12_reads_17 : decode cX12_reads 17 = .ok (.putfield 193, 3) := by decide +kernel
theorem dX12_reads_20 : decode cX12_reads 20 = .ok (.aload_n 0, 1) := by decide +kernel
theorem dX12_reads_21 : decode cX12_reads 21 = .ok (.iload_n 3, 1) := by decide +kernel
theorem dX12_reads_22 : decode cX12_reads 22 = .ok (.bipush 40, 2) := by decide +kernel
theorem dX12_reads_24 : decode cX12_reads 24 = .ok (.invokestatic 219, 3) := by decide +kernel
theorem dX12_reads_27 : decode cX12_reads 27 = .ok (.putfield 149, 3) := by decide +kernel
theorem dX12_reads_30 : decode cX12_reads 30 = .ok (.aload_n 0, 1) := by decide +kernel
theorem dX12_reads_31 : decode cX12_reads 31 = .ok (.iload_n 2, 1) := by decide +kernel
theorem dX12_reads_32 : decode cX12_reads 32 = .ok (.putfield 179, 3) := by decide +kernel
theorem dX12_reads_35 : decode cX12_reads 35 = .ok (.aload_n 0, 1) := by decide +kernel
theorem dX12_reads_36 : decode cX12_reads 36 = .ok (.getfield 168, 3) := by decide +kernel
theorem dX12_reads_39 : decode cX12_reads 39 = .ok (.bipush 12, 2) := by decide +kernel
theorem dX12_reads_41 : decode cX12_reads 41 = .ok (.iconst 0, 1) := by decide +kernel
theorem dX12_reads_42 : decode cX12_reads 42 = .ok (.iastore, 1) := by decide +kernel
theorem dX12_reads_43 : decode cX12_reads 43 = .ok (.iload_n 1, 1) := by decide +kernel
theorem dX12_reads_44 : decode cX12_reads 44 = .ok (.ifCond .ge 6, 3) := by decide +kernel
theorem dX12_reads_47 : decode cX12_reads 47 = .ok (.bipush (-100), 2) := by decide +kernel
theorem dX12_reads_49 : decode cX12_reads 49 = .ok (.ireturn, 1) := by decide +kernel
theorem dX12_reads_50 : decode cX12_reads 50 = .ok (.aload_n 0, 1) := by decide +kernel
theorem dX12_reads_51 : decode cX12_reads 51 = .ok (.iconst 0, 1) := by decide +kernel
theorem dX12_reads_52 : decode cX12_reads 52 = .ok (.invokevirtual 196, 3) := by decide +kernel
theorem dX12_reads_55 : decode cX12_reads 55 = .ok (.istore 4, 2) := by decide +kernel
theorem dX12_reads_57 : decode cX12_reads 57 = .ok (.iload 4, 2) := by decide +kernel
theorem dX12_reads_59 : decode cX12_reads 59 = .ok (.ifCond .eq 18, 3) := by decide +kernel
theorem dX12_reads_62 : decode cX12_reads 62 = .ok (.aload_n 0, 1) := by decide +kernel
theorem dX12_reads_63 : decode cX12_reads 63 = .ok (.getfield 146, 3) := by decide +kernel
theorem dX12_reads_66 : decode cX12_reads 66 = .ok (.aload_n 0, 1) := by decide +kernel
theorem dX12_reads_67 : decode cX12_reads 67 = .ok (.getfield 149, 3) := by decide +kernel
theorem dX12_reads_70 : decode cX12_reads 70 = .ok (.if_icmp .ne 7, 3) := by decide +kernel
theorem dX12_reads_73 : decode cX12_reads 73 = .ok (.iconst 1, 1) := by decide +kernel
theorem dX12_reads_74 : decode cX12_reads 74 = .ok (.goto 4, 3) := by decide +kernel
theorem dX12_reads_77 : decode cX12_reads 77 = .ok (.iconst 0, 1) := by decide +kernel
theorem dX12_reads_78 : decode cX12_reads 78 = .ok (.istore 5, 2) := by decide +kernel
theorem dX12_reads_80 : decode cX12_reads 80 = .ok (.iload_n 3, 1) := by decide +kernel
theorem dX12_reads_81 : decode cX12_reads 81 = .ok (.bipush 40, 2) := by decide +kernel
theorem dX12_reads_83 : decode cX12_reads 83 = .ok (.if_icmp .le 20, 3) := by decide +kernel
theorem dX12_reads_86 : decode cX12_reads 86 = .ok (.iload 5, 2) := by decide +kernel
theorem dX12_reads_88 : decode cX12_reads 88 = .ok (.ifCond .ne 12, 3) := by decide +kernel
theorem dX12_reads_91 : decode cX12_reads 91 = .ok (.aload_n 0, 1) := by decide +kernel
theorem dX12_reads_92 : decode cX12_reads 92 = .ok (.getfield 146, 3) := by decide +kernel
theorem dX12_reads_95 : decode cX12_reads 95 = .ok (.bipush 40, 2) := by decide +kernel
theorem dX12_reads_97 : decode cX12_reads 97 = .ok (.if_icmp .lt 6, 3) := by decide +kernel
theorem dX12_reads_100 : decode cX12_reads 100 = .ok (.bipush (-41), 2) := by decide +kernel
theorem dX12_reads_102 : decode cX12_reads 102 = .ok (.ireturn, 1) := by decide +kernel
theorem dX12_reads_103 : decode cX12_reads 103 = .ok (.iload 5, 2) := by decide +kernel
theorem dX12_reads_105 : decode cX12_reads 105 = .ok (.ifCond .ne 10, 3) := by decide +kernel
theorem dX12_reads_108 : decode cX12_reads 108 = .ok (.iconst (-1), 1) := by decide +kernel
theorem dX12_reads_109 : decode cX12_reads 109 = .ok (.aload_n 0, 1) := by decide +kernel
theorem dX12_reads_110 : decode cX12_reads 110 = .ok (.getfield 146, 3) := by decide +kernel
theorem dX12_reads_113 : decode cX12_reads 113 = .ok (.isub, 1) := by decide +kernel
theorem dX12_reads_114 : decode cX12_reads 114 = .ok (.ireturn, 1) := by decide +kernel
theorem dX12_reads_115 : decode cX12_reads 115 = .ok (.aload_n 0, 1) := by decide +kernel
theorem dX12_reads_116 : decode cX12_reads 116 = .ok (.getfield 168, 3) := by decide +kernel
theorem dX12_reads_119 : decode cX12_reads 119 = .ok (.iload_n 1, 1) := by decide +kernel
theorem dX12_reads_120 : decode cX12_reads 120 = .ok (.aload_n 0, 1) := by decide +kernel
theorem dX12_reads_121 : decode cX12_reads 121 = .ok (.getfield 168, 3) := by decide +kernel
theorem dX12_reads_124 : decode cX12_reads 124 = .ok (.bipush 12, 2) := by decide +kernel
theorem dX12_reads_126 : decode cX12_reads 126 = .ok (.iaload, 1) := by decide +kernel
theorem dX12_reads_127 : decode cX12_reads 127 = .ok (.iastore, 1) := by decide +kernel
theorem dX12_reads_128 : decode cX12_reads 128 = .ok (.iconst 0, 1) := by decide +kernel
theorem dX12_reads_129 : decode cX12_reads 129 = .ok (.istore 6, 2) := by decide +kernel
theorem dX12_reads_131 : decode cX12_reads 131 = .ok (.iload 6, 2) := by decide +kernel
theorem dX12_reads_133 : decode cX12_reads 133 = .ok (.bipush 48, 2) := by decide +kernel
theorem dX12_reads_135 : decode cX12_reads 135 = .ok (.if_icmp .ge 32, 3) := by decide +kernel
theorem dX12_reads_138 : decode cX12_reads 138 = .ok (.aload_n 0, 1) := by decide +kernel
theorem dX12_reads_139 : decode cX12_reads 139 = .ok (.getfield 165, 3) := by decide +kernel
theorem dX12_reads_142 : decode cX12_reads 142 = .ok (.bipush 48, 2) := by decide +kernel
theorem dX12_reads_144 : decode cX12_reads 144 = .ok (.iload_n 1, 1) := by decide +kernel
theorem dX12_reads_145 : decode cX12_reads 145 = .ok (.imul, 1) := by decide +kernel
theorem dX12_reads_146 : decode cX12_reads 146 = .ok (.iload 6, 2) := by decide +kernel
theorem dX12_reads_148 : decode cX12_reads 148 = .ok (.iadd, 1) := by decide +kernel
theorem dX12_reads_149 : decode cX12_reads 149 = .ok (.aload_n 0, 1) := by decide +kernel
theorem dX12_reads_150 : decode cX12_reads 150 = .ok (.getfield 165, 3) := by decide +kernel
theorem dX12_reads_153 : decode cX12_reads 153 = .ok (.sipush 576, 3) := by decide +kernel
theorem dX12_reads_156 : decode cX12_reads 156 = .ok (.iload 6, 2) := by decide +kernel
theorem dX12_reads_158 : decode cX12_reads 158 = .ok (.iadd, 1) := by decide +kernel
theorem dX12_reads_159 : decode cX12_reads 159 = .ok (.iaload, 1) := by decide +kernel
theorem dX12_reads_160 : decode cX12_reads 160 = .ok (.iastore, 1) := by decide +kernel
theorem dX12_reads_161 : decode cX12_reads 161 = .ok (.iinc 6 1, 3) := by decide +kernel
theorem dX12_reads_164 : decode cX12_reads 164 = .ok (.goto (-33), 3) := by decide +kernel
theorem dX12_reads_167 : decode cX12_reads 167 = .ok (.iconst 0, 1) := by decide +kernel
theorem dX12_reads_168 : decode cX12_reads 168 = .ok (.ireturn, 1) := by decide +kernel
theorem dX12_law_0 : decode cX12_law 0 = .ok (.aload_n 0, 1) := by decide +kernel
theorem dX12_law_1 : decode cX12_law 1 = .ok (.iconst 0, 1) := by decide +kernel
theorem dX12_law_2 : decode cX12_law 2 = .ok (.putfield 3, 3) := by decide +kernel
theorem dX12_law_5 : decode cX12_law 5 = .ok (.aload_n 0, 1) := by decide +kernel
theorem dX12_law_6 : decode cX12_law 6 = .ok (.iload_n 1, 1) := by decide +kernel
theorem dX12_law_7 : decode cX12_law 7 = .ok (.i2l, 1) := by decide +kernel
theorem dX12_law_8 : decode cX12_law 8 = .ok (.lconst 0, 1) := by decide +kernel
theorem dX12_law_9 : decode cX12_law 9 = .ok (.ldc2_w 56, 3) := by decide +kernel
theorem dX12_law_12 : decode cX12_law 12 = .ok (.invokestatic 29, 3) := by decide +kernel
theorem dX12_law_15 : decode cX12_law 15 = .ok (.ifCond .eq 7, 3) := by decide +kernel
theorem dX12_law_18 : decode cX12_law 18 = .ok (.iload_n 1, 1) := by decide +kernel
theorem dX12_law_19 : decode cX12_law 19 = .ok (.goto 4, 3) := by decide +kernel
theorem dX12_law_22 : decode cX12_law 22 = .ok (.iconst (-1), 1) := by decide +kernel
theorem dX12_law_23 : decode cX12_law 23 = .ok (.iconst 1, 1) := by decide +kernel
theorem dX12_law_24 : decode cX12_law 24 = .ok (.invokevirtual 225, 3) := by decide +kernel
theorem dX12_law_27 : decode cX12_law 27 = .ok (.ireturn, 1) := by decide +kernel
theorem dX12_filter_0 : decode cX12_filter 0 = .ok (.aload_n 0, 1) := by decide +kernel
theorem dX12_filter_1 : decode cX12_filter 1 = .ok (.iconst 0, 1) := by decide +kernel
theorem dX12_filter_2 : decode cX12_filter 2 = .ok (.putfield 3, 3) := by decide +kernel
theorem dX12_filter_5 : decode cX12_filter 5 = .ok (.aload_n 0, 1) := by decide +kernel
theorem dX12_filter_6 : decode cX12_filter 6 = .ok (.iload_n 1, 1) := by decide +kernel
theorem dX12_filter_7 : decode cX12_filter 7 = .ok (.i2l, 1) := by decide +kernel
theorem dX12_filter_8 : decode cX12_filter 8 = .ok (.lconst 0, 1) := by decide +kernel
theorem dX12_filter_9 : decode cX12_filter 9 = .ok (.ldc2_w 56, 3) := by decide +kernel
theorem dX12_filter_12 : decode cX12_filter 12 = .ok (.invokestatic 29, 3) := by decide +kernel
theorem dX12_filter_15 : decode cX12_filter 15 = .ok (.ifCond .eq 10, 3) := by decide +kernel
theorem dX12_filter_18 : decode cX12_filter 18 = .ok (.bipush 6, 2) := by decide +kernel
theorem dX12_filter_20 : decode cX12_filter 20 = .ok (.iload_n 1, 1) := by decide +kernel
theorem dX12_filter_21 : decode cX12_filter 21 = .ok (.iadd, 1) := by decide +kernel
theorem dX12_filter_22 : decode cX12_filter 22 = .ok (.goto 4, 3) := by decide +kernel
theorem dX12_filter_25 : decode cX12_filter 25 = .ok (.iconst (-1), 1) := by decide +kernel
theorem dX12_filter_26 : decode cX12_filter 26 = .ok (.iconst 0, 1) := by decide +kernel
theorem dX12_filter_27 : decode cX12_filter 27 = .ok (.invokevirtual 225, 3) := by decide +kernel
theorem dX12_filter_30 : decode cX12_filter 30 = .ok (.ireturn, 1) := by decide +kernel
theorem dX12_countsTill_0 : decode cX12_countsTill 0 = .ok (.aload_n 0, 1) := by decide +kernel
theorem dX12_countsTill_1 : decode cX12_countsTill 1 = .ok (.iconst 0, 1) := by decide +kernel
theorem dX12_countsTill_2 : decode cX12_countsTill 2 = .ok (.putfield 229, 3) := by decide +kernel
theorem dX12_countsTill_5 : decode cX12_countsTill 5 = .ok (.aload_n 0, 1) := by decide +kernel
theorem dX12_countsTill_6 : decode cX12_countsTill 6 = .ok (.iconst 0, 1) := by decide +kernel
theorem dX12_countsTill_7 : decode cX12_countsTill 7 = .ok (.putfield 232, 3) := by decide +kernel
theorem dX12_countsTill_10 : decode cX12_countsTill 10 = .ok (.aload_n 0, 1) := by decide +kernel
theorem dX12_countsTill_11 : decode cX12_countsTill 11 = .ok (.iconst 0, 1) := by decide +kernel
theorem dX12_countsTill_12 : decode cX12_countsTill 12 = .ok (.putfield 235, 3) := by decide +kernel
theorem dX12_countsTill_15 : decode cX12_countsTill 15 = .ok (.iconst 0, 1) := by decide +kernel
theorem dX12_countsTill_16 : decode cX12_countsTill 16 = .ok (.istore_n 2, 1) := by decide +kernel
theorem dX12_countsTill_17 : decode cX12_countsTill 17 = .ok (.iload_n 2, 1) := by decide +kernel
theorem dX12_countsTill_18 : decode cX12_countsTill 18 = .ok (.aload_n 0, 1) := by decide +kernel
theorem dX12_countsTill_19 : decode cX12_countsTill 19 = .ok (.getfield 36, 3) := by decide +kernel
theorem dX12_countsTill_22 : decode cX12_countsTill 22 = .ok (.if_icmp .ge 73, 3) := by decide +kernel
theorem dX12_countsTill_25 : decode cX12_countsTill 25 = .ok (.aload_n 0, 1) := by decide +kernel
theorem dX12_countsTill_26 : decode cX12_countsTill 26 = .ok (.getfield 67, 3) := by decide +kernel
theorem dX12_countsTill_29 : decode cX12_countsTill 29 = .ok (.iload_n 2, 1) := by decide +kernel
theorem dX12_countsTill_30 : decode cX12_countsTill 30 = .ok (.iaload, 1) := by decide +kernel
theorem dX12_countsTill_31 : decode cX12_countsTill 31 = .ok (.iload_n 1, 1) := by decide +kernel
theorem dX12_countsTill_32 : decode cX12_countsTill 32 = .ok (.if_icmp .ne 57, 3) := by decide +kernel
theorem dX12_countsTill_35 : decode cX12_countsTill 35 = .ok (.aload_n 0, 1) := by decide +kernel
theorem dX12_countsTill_36 : decode cX12_countsTill 36 = .ok (.getfield 89, 3) := by decide +kernel
theorem dX12_countsTill_39 : decode cX12_countsTill 39 = .ok (.iload_n 2, 1) := by decide +kernel
theorem dX12_countsTill_40 : decode cX12_countsTill 40 = .ok (.baload, 1) := by decide +kernel
theorem dX12_countsTill_41 : decode cX12_countsTill 41 = .ok (.ifCond .eq 48, 3) := by decide +kernel
theorem dX12_countsTill_44 : decode cX12_countsTill 44 = .ok (.aload_n 0, 1) := by decide +kernel
theorem dX12_countsTill_45 : decode cX12_countsTill 45 = .ok (.dup, 1) := by decide +kernel
theorem dX12_countsTill_46 : decode cX12_countsTill 46 = .ok (.getfield 229, 3) := by decide +kernel
theorem dX12_countsTill_49 : decode cX12_countsTill 49 = .ok (.aload_n 0, 1) := by decide +kernel
theorem dX12_countsTill_50 : decode cX12_countsTill 50 = .ok (.getfield 93, 3) := by decide +kernel
theorem dX12_countsTill_53 : decode cX12_countsTill 53 = .ok (.iload_n 2, 1) := by decide +kernel
theorem dX12_countsTill_54 : decode cX12_countsTill 54 = .ok (.baload, 1) := by decide +kernel
theorem dX12_countsTill_55 : decode cX12_countsTill 55 = .ok (.invokestatic 70, 3) := by decide +kernel
theorem dX12_countsTill_58 : decode cX12_countsTill 58 = .ok (.iadd, 1) := by decide +kernel
theorem dX12_countsTill_59 : decode cX12_countsTill 59 = .ok (.putfield 229, 3) := by decide +kernel
theorem dX12_countsTill_62 : decode cX12_countsTill 62 = .ok (.aload_n 0, 1) := by decide +kernel
theorem dX12_countsTill_63 : decode cX12_countsTill 63 = .ok (.dup, 1) := by decide +kernel
theorem dX12_countsTill_64 : decode cX12_countsTill 64 = .ok (.getfield 232, 3) := by decide +kernel
theorem dX12_countsTill_67 : decode cX12_countsTill 67 = .ok (.iconst 1, 1) := by decide +kernel
theorem dX12_countsTill_68 : decode cX12_countsTill 68 = .ok (.iadd, 1) := by decide +kernel
theorem dX12_countsTill_69 : decode cX12_countsTill 69 = .ok (.putfield 232, 3) := by decide +kernel
theorem dX12_countsTill_72 : decode cX12_countsTill 72 = .ok (.aload_n 0, 1) := by decide +kernel
theorem dX12_countsTill_73 : decode cX12_countsTill 73 = .ok (.aload_n 0, 1) := by decide +kernel
theorem dX12_countsTill_74 : decode cX12_countsTill 74 = .ok (.getfield 235, 3) := by decide +kernel
theorem dX12_countsTill_77 : decode cX12_countsTill 77 = .ok (.aload_n 0, 1) := by decide +kernel
theorem dX12_countsTill_78 : decode cX12_countsTill 78 = .ok (.getfield 77, 3) := by decide +kernel
theorem dX12_countsTill_81 : decode cX12_countsTill 81 = .ok (.iload_n 2, 1) := by decide +kernel
theorem dX12_countsTill_82 : decode cX12_countsTill 82 = .ok (.iaload, 1) := by decide +kernel
theorem dX12_countsTill_83 : decode cX12_countsTill 83 = .ok (.invokestatic 238, 3) := by decide +kernel
theorem dX12_countsTill_86 : decode cX12_countsTill 86 = .ok (.putfield 235, 3) := by decide +kernel
theorem dX12_countsTill_89 : decode cX12_countsTill 89 = .ok (.iinc 2 1, 3) := by decide +kernel
theorem dX12_countsTill_92 : decode cX12_countsTill 92 = .ok (.goto (-75), 3) := by decide +kernel
theorem dX12_countsTill_95 : decode cX12_countsTill 95 = .ok (.return_, 1) := by decide +kernel
theorem dX12_countsNone_0 : decode cX12_countsNone 0 = .ok (.aload_n 0, 1) := by decide +kernel
theorem dX12_countsNone_1 : decode cX12_countsNone 1 = .ok (.iconst 0, 1) := by decide +kernel
theorem dX12_countsNone_2 : decode cX12_countsNone 2 = .ok (.putfield 229, 3) := by decide +kernel
theorem dX12_countsNone_5 : decode cX12_countsNone 5 = .ok (.aload_n 0, 1) := by decide +kernel
theorem dX12_countsNone_6 : decode cX12_countsNone 6 = .ok (.iconst 0, 1) := by decide +kernel
theorem dX12_countsNone_7 : decode cX12_countsNone 7 = .ok (.putfield 232, 3) := by decide +kernel
theorem dX12_countsNone_10 : decode cX12_countsNone 10 = .ok (.aload_n 0, 1) := by decide +kernel
theorem dX12_countsNone_11 : decode cX12_countsNone 11 = .ok (.iconst 0, 1) := by decide +kernel
theorem dX12_countsNone_12 : decode cX12_countsNone 12 = .ok (.putfield 235, 3) := by decide +kernel
theorem dX12_countsNone_15 : decode cX12_countsNone 15 = .ok (.return_, 1) := by decide +kernel
theorem dX12_valueOf_0 : decode cX12_valueOf 0 = .ok (.aload_n 0, 1) := by decide +kernel
theorem dX12_valueOf_1 : decode cX12_valueOf 1 = .ok (.getfield 74, 3) := by decide +kernel
theorem dX12_valueOf_4 : decode cX12_valueOf 4 = .ok (.iload_n 2, 1) := by decide +kernel
theorem dX12_valueOf_5 : decode cX12_valueOf 5 = .ok (.iaload, 1) := by decide +kernel
theorem dX12_valueOf_6 : decode cX12_valueOf 6 = .ok (.istore_n 3, 1) := by decide +kernel
theorem dX12_valueOf_7 : decode cX12_valueOf 7 = .ok (.iload_n 1, 1) := by decide +kernel
theorem dX12_valueOf_8 : decode cX12_valueOf 8 = .ok (.sipush 1000, 3) := by decide +kernel
theorem dX12_valueOf_11 : decode cX12_valueOf 11 = .ok (.isub, 1) := by decide +kernel
theorem dX12_valueOf_12 : decode cX12_valueOf 12 = .ok (.tableswitch 163 0 12 #[68, 75, 82, 89, 96, 103, 110, 117, 124, 136, 148, 153, 158], 68) := by decide +kernel
theorem dX12_valueOf_80 : decode cX12_valueOf 80 = .ok (.aload_n 0, 1) := by decide +kernel
theorem dX12_valueOf_81 : decode cX12_valueOf 81 = .ok (.getfield 77, 3) := by decide +kernel
theorem dX12_valueOf_84 : decode cX12_valueOf 84 = .ok (.iload_n 2, 1) := by decide +kernel
theorem dX12_valueOf_85 : decode cX12_valueOf 85 = .ok (.iaload, 1) := by decide +kernel
theorem dX12_valueOf_86 : decode cX12_valueOf 86 = .ok (.ireturn, 1) := by decide +kernel
theorem dX12_valueOf_87 : decode cX12_valueOf 87 = .ok (.aload_n 0, 1) := by decide +kernel
theorem dX12_valueOf_88 : decode cX12_valueOf 88 = .ok (.getfield 80, 3) := by decide +kernel
theorem dX12_valueOf_91 : decode cX12_valueOf 91 = .ok (.iload_n 2, 1) := by decide +kernel
theorem dX12_valueOf_92 : decode cX12_valueOf 92 = .ok (.iaload, 1) := by decide +kernel
theorem dX12_valueOf_93 : decode cX12_valueOf 93 = .ok (.ireturn, 1) := by decide +kernel
theorem dX12_valueOf_94 : decode cX12_valueOf 94 = .ok (.aload_n 0, 1) := by decide +kernel
theorem dX12_valueOf_95 : decode cX12_valueOf 95 = .ok (.getfield 83, 3) := by decide +kernel
theorem dX12_valueOf_98 : decode cX12_valueOf 98 = .ok (.iload_n 2, 1) := by decide +kernel
theorem dX12_valueOf_99 : decode cX12_valueOf 99 = .ok (.iaload, 1) := by decide +kernel
theorem dX12_valueOf_100 : decode cX12_valueOf 100 = .ok (.ireturn, 1) := by decide +kernel
theorem dX12_valueOf_101 : decode cX12_valueOf 101 = .ok (.aload_n 0, 1) := by decide +kernel
theorem dX12_valueOf_102 : decode cX12_valueOf 102 = .ok (.getfield 86, 3) := by decide +kernel
theorem dX12_valueOf_105 : decode cX12_valueOf 105 = .ok (.iload_n 2, 1) := by decide +kernel
theorem dX12_valueOf_106 : decode cX12_valueOf 106 = .ok (.iaload, 1) := by decide +kernel
theorem dX12_valueOf_107 : decode cX12_valueOf 107 = .ok (.ireturn, 1) := by decide +kernel
theorem dX12_valueOf_108 : decode cX12_valueOf 108 = .ok (.aload_n 0, 1) := by decide +kernel
theorem dX12_valueOf_109 : decode cX12_valueOf 109 = .ok (.getfield 41, 3) := by decide +kernel
theorem dX12_valueOf_112 : decode cX12_valueOf 112 = .ok (.iload_n 3, 1) := by decide +kernel
theorem dX12_valueOf_113 : decode cX12_valueOf 113 = .ok (.iaload, 1) := by decide +kernel
theorem dX12_valueOf_114 : decode cX12_valueOf 114 = .ok (.ireturn, 1) := by decide +kernel
theorem dX12_valueOf_115 : decode cX12_valueOf 115 = .ok (.aload_n 0, 1) := by decide +kernel
theorem dX12_valueOf_116 : decode cX12_valueOf 116 = .ok (.getfield 45, 3) := by decide +kernel
theorem dX12_valueOf_119 : decode cX12_valueOf 119 = .ok (.iload_n 3, 1) := by decide +kernel
theorem dX12_valueOf_120 : decode cX12_valueOf 120 = .ok (.iaload, 1) := by decide +kernel
theorem dX12_valueOf_121 : decode cX12_valueOf 121 = .ok (.ireturn, 1) := by decide +kernel
theorem dX12_valueOf_122 : decode cX12_valueOf 122 = .ok (.aload_n 0, 1) := by decide +kernel
theorem dX12_valueOf_123 : decode cX12_valueOf 123 = .ok (.getfield 48, 3) := by decide +kernel
theorem dX12_valueOf_126 : decode cX12_valueOf 126 = .ok (.iload_n 3, 1) := by decide +kernel
theorem dX12_valueOf_127 : decode cX12_valueOf 127 = .ok (.iaload, 1) := by decide +kernel
theorem dX12_valueOf_128 : decode cX12_valueOf 128 = .ok (.ireturn, 1) := by decide +kernel
theorem dX12_valueOf_129 : decode cX12_valueOf 129 = .ok (.aload_n 0, 1) := by decide +kernel
theorem dX12_valueOf_130 : decode cX12_valueOf 130 = .ok (.getfield 51, 3) := by decide +kernel
theorem dX12_valueOf_133 : decode cX12_valueOf 133 = .ok (.iload_n 3, 1) := by decide +kernel
theorem dX12_valueOf_134 : decode cX12_valueOf 134 = .ok (.iaload, 1) := by decide +kernel
theorem dX12_valueOf_135 : decode cX12_valueOf 135 = .ok (.ireturn, 1) := by decide +kernel
theorem dX12_valueOf_136 : decode cX12_valueOf 136 = .ok (.aload_n 0, 1) := by decide +kernel
theorem dX12_valueOf_137 : decode cX12_valueOf 137 = .ok (.getfield 58, 3) := by decide +kernel
theorem dX12_valueOf_140 : decode cX12_valueOf 140 = .ok (.aload_n 0, 1) := by decide +kernel
theorem dX12_valueOf_141 : decode cX12_valueOf 141 = .ok (.getfield 67, 3) := by decide +kernel
theorem dX12_valueOf_144 : decode cX12_valueOf 144 = .ok (.iload_n 2, 1) := by decide +kernel
theorem dX12_valueOf_145 : decode cX12_valueOf 145 = .ok (.iaload, 1) := by decide +kernel
theorem dX12_valueOf_146 : decode cX12_valueOf 146 = .ok (.iaload, 1) := by decide +kernel
theorem dX12_valueOf_147 : decode cX12_valueOf 147 = .ok (.ireturn, 1) := by decide +kernel
theorem dX12_valueOf_148 : decode cX12_valueOf 148 = .ok (.aload_n 0, 1) := by decide +kernel
theorem dX12_valueOf_149 : decode cX12_valueOf 149 = .ok (.getfield 61, 3) := by decide +kernel
theorem dX12_valueOf_152 : decode cX12_valueOf 152 = .ok (.aload_n 0, 1) := by decide +kernel
theorem dX12_valueOf_153 : decode cX12_valueOf 153 = .ok (.getfield 67, 3) := by decide +kernel
theorem dX12_valueOf_156 : decode cX12_valueOf 156 = .ok (.iload_n 2, 1) := by decide +kernel
theorem dX12_valueOf_157 : decode cX12_valueOf 157 = .ok (.iaload, 1) := by decide +kernel
theorem dX12_valueOf_158 : decode cX12_valueOf 158 = .ok (.iaload, 1) := by decide +kernel
theorem dX12_valueOf_159 : decode cX12_valueOf 159 = .ok (.ireturn, 1) := by decide +kernel
theorem dX12_valueOf_160 : decode cX12_valueOf 160 = .ok (.aload_n 0, 1) := by decide +kernel
theorem dX12_valueOf_161 : decode cX12_valueOf 161 = .ok (.getfield 229, 3) := by decide +kernel
theorem dX12_valueOf_164 : decode cX12_valueOf 164 = .ok (.ireturn, 1) := by decide +kernel
theorem dX12_valueOf_165 : decode cX12_valueOf 165 = .ok (.aload_n 0, 1) := by decide +kernel
theorem dX12_valueOf_166 : decode cX12_valueOf 166 = .ok (.getfield 232, 3) := by decide +kernel
theorem dX12_valueOf_169 : decode cX12_valueOf 169 = .ok (.ireturn, 1) := by decide +kernel
theorem dX12_valueOf_170 : decode cX12_valueOf 170 = .ok (.aload_n 0, 1) := by decide +kernel
theorem dX12_valueOf_171 : decode cX12_valueOf 171 = .ok (.getfield 235, 3) := by decide +kernel
theorem dX12_valueOf_174 : decode cX12_valueOf 174 = .ok (.ireturn, 1) := by decide +kernel
theorem dX12_valueOf_175 : decode cX12_valueOf 175 = .ok (.aload_n 0, 1) := by decide +kernel
theorem dX12_valueOf_176 : decode cX12_valueOf 176 = .ok (.getfield 93, 3) := by decide +kernel
theorem dX12_valueOf_179 : decode cX12_valueOf 179 = .ok (.iload_n 2, 1) := by decide +kernel
theorem dX12_valueOf_180 : decode cX12_valueOf 180 = .ok (.baload, 1) := by decide +kernel
theorem dX12_valueOf_181 : decode cX12_valueOf 181 = .ok (.invokestatic 70, 3) := by decide +kernel
theorem dX12_valueOf_184 : decode cX12_valueOf 184 = .ok (.ireturn, 1) := by decide +kernel
theorem dX12_acted_0 : decode cX12_acted 0 = .ok (.iload_n 0, 1) := by decide +kernel
theorem dX12_acted_1 : decode cX12_acted 1 = .ok (.tableswitch 186 38 62 #[169, 186, 186, 186, 123, 115, 186, 119, 186, 186, 186, 186, 186, 186, 186, 186, 186, 186, 186, 186, 186, 186, 127, 155, 141], 115) := by decide +kernel
theorem dX12_acted_116 : decode cX12_acted 116 = .ok (.iload_n 1, 1) := by decide +kernel
theorem dX12_acted_117 : decode cX12_acted 117 = .ok (.iload_n 2, 1) := by decide +kernel
theorem dX12_acted_118 : decode cX12_acted 118 = .ok (.iadd, 1) := by decide +kernel
theorem dX12_acted_119 : decode cX12_acted 119 = .ok (.ireturn, 1) := by decide +kernel
theorem dX12_acted_120 : decode cX12_acted 120 = .ok (.iload_n 1, 1) := by decide +kernel
theorem dX12_acted_121 : decode cX12_acted 121 = .ok (.iload_n 2, 1) := by decide +kernel
theorem dX12_acted_122 : decode cX12_acted 122 = .ok (.isub, 1) := by decide +kernel
theorem dX12_acted_123 : decode cX12_acted 123 = .ok (.ireturn, 1) := by decide +kernel
theorem dX12_acted_124 : decode cX12_acted 124 = .ok (.iload_n 1, 1) := by decide +kernel
theorem dX12_acted_125 : decode cX12_acted 125 = .ok (.iload_n 2, 1) := by decide +kernel
theorem dX12_acted_126 : decode cX12_acted 126 = .ok (.imul, 1) := by decide +kernel
theorem dX12_acted_127 : decode cX12_acted 127 = .ok (.ireturn, 1) := by decide +kernel
theorem dX12_acted_128 : decode cX12_acted 128 = .ok (.iload_n 1, 1) := by decide +kernel
theorem dX12_acted_129 : decode cX12_acted 129 = .ok (.iload_n 2, 1) := by decide +kernel
theorem dX12_acted_130 : decode cX12_acted 130 = .ok (.if_icmp .ge 7, 3) := by decide +kernel
theorem dX12_acted_133 : decode cX12_acted 133 = .ok (.iconst 1, 1) := by decide +kernel
theorem dX12_acted_134 : decode cX12_acted 134 = .ok (.goto 4, 3) := by decide +kernel
theorem dX12_acted_137 : decode cX12_acted 137 = .ok (.iconst 0, 1) := by decide +kernel
theorem dX12_acted_138 : decode cX12_acted 138 = .ok (.invokestatic 70, 3) := by decide +kernel
theorem dX12_acted_141 : decode cX12_acted 141 = .ok (.ireturn, 1) := by decide +kernel
theorem dX12_acted_142 : decode cX12_acted 142 = .ok (.iload_n 1, 1) := by decide +kernel
theorem dX12_acted_143 : decode cX12_acted 143 = .ok (.iload_n 2, 1) := by decide +kernel
theorem dX12_acted_144 : decode cX12_acted 144 = .ok (.if_icmp .le 7, 3) := by decide +kernel
theorem dX12_acted_147 : decode cX12_acted 147 = .ok (.iconst 1, 1) := by decide +kernel
theorem dX12_acted_148 : decode cX12_acted 148 = .ok (.goto 4, 3) := by decide +kernel
theorem dX12_acted_151 : decode cX12_acted 151 = .ok (.iconst 0, 1) := by decide +kernel
theorem dX12_acted_152 : decode cX12_acted 152 = .ok (.invokestatic 70, 3) := by decide +kernel
theorem dX12_acted_155 : decode cX12_acted 155 = .ok (.ireturn, 1) := by decide +kernel
theorem dX12_acted_156 : decode cX12_acted 156 = .ok (.iload_n 1, 1) := by decide +kernel
theorem dX12_acted_157 : decode cX12_acted 157 = .ok (.iload_n 2, 1) := by decide +kernel
theorem dX12_acted_158 : decode cX12_acted 158 = .ok (.if_icmp .ne 7, 3) := by decide +kernel
theorem dX12_acted_161 : decode cX12_acted 161 = .ok (.iconst 1, 1) := by decide +kernel
theorem dX12_acted_162 : decode cX12_acted 162 = .ok (.goto 4, 3) := by decide +kernel
theorem dX12_acted_165 : decode cX12_acted 165 = .ok (.iconst 0, 1) := by decide +kernel
theorem dX12_acted_166 : decode cX12_acted 166 = .ok (.invokestatic 70, 3) := by decide +kernel
theorem dX12_acted_169 : decode cX12_acted 169 = .ok (.ireturn, 1) := by decide +kernel
theorem dX12_acted_170 : decode cX12_acted 170 = .ok (.iload_n 1, 1) := by decide +kernel
theorem dX12_acted_171 : decode cX12_acted 171 = .ok (.ifCond .eq 11, 3) := by decide +kernel
theorem dX12_acted_174 : decode cX12_acted 174 = .ok (.iload_n 2, 1) := by decide +kernel
theorem dX12_acted_175 : decode cX12_acted 175 = .ok (.ifCond .eq 7, 3) := by decide +kernel
theorem dX12_acted_178 : decode cX12_acted 178 = .ok (.iconst 1, 1) := by decide +kernel
theorem dX12_acted_179 : decode cX12_acted 179 = .ok (.goto 4, 3) := by decide +kernel
theorem dX12_acted_182 : decode cX12_acted 182 = .ok (.iconst 0, 1) := by decide +kernel
theorem dX12_acted_183 : decode cX12_acted 183 = .ok (.invokestatic 70, 3) := by decide +kernel
theorem dX12_acted_186 : decode cX12_acted 186 = .ok (.ireturn, 1) := by decide +kernel
theorem dX12_acted_187 : decode cX12_acted 187 = .ok (.iload_n 1, 1) := by decide +kernel
theorem dX12_acted_188 : decode cX12_acted 188 = .ok (.ifCond .ne 7, 3) := by decide +kernel
theorem dX12_acted_191 : decode cX12_acted 191 = .ok (.iload_n 2, 1) := by decide +kernel
theorem dX12_acted_192 : decode cX12_acted 192 = .ok (.ifCond .eq 7, 3) := by decide +kernel
theorem dX12_acted_195 : decode cX12_acted 195 = .ok (.iconst 1, 1) := by decide +kernel
theorem dX12_acted_196 : decode cX12_acted 196 = .ok (.goto 4, 3) := by decide +kernel
theorem dX12_acted_199 : decode cX12_acted 199 = .ok (.iconst 0, 1) := by decide +kernel
theorem dX12_acted_200 : decode cX12_acted 200 = .ok (.invokestatic 70, 3) := by decide +kernel
theorem dX12_acted_203 : decode cX12_acted 203 = .ok (.ireturn, 1) := by decide +kernel
theorem dX12_worked_0 : decode cX12_worked 0 = .ok (.iconst 0, 1) := by decide +kernel
theorem dX12_worked_1 : decode cX12_worked 1 = .ok (.istore_n 3, 1) := by decide +kernel
theorem dX12_worked_2 : decode cX12_worked 2 = .ok (.iconst 0, 1) := by decide +kernel
theorem dX12_worked_3 : decode cX12_worked 3 = .ok (.istore 4, 2) := by decide +kernel
theorem dX12_worked_5 : decode cX12_worked 5 = .ok (.iload 4, 2) := by decide +kernel
theorem dX12_worked_7 : decode cX12_worked 7 = .ok (.aload_n 0, 1) := by decide +kernel
theorem dX12_worked_8 : decode cX12_worked 8 = .ok (.getfield 168, 3) := by decide +kernel
theorem dX12_worked_11 : decode cX12_worked 11 = .ok (.iload_n 1, 1) := by decide +kernel
theorem dX12_worked_12 : decode cX12_worked 12 = .ok (.iaload, 1) := by decide +kernel
theorem dX12_worked_13 : decode cX12_worked 13 = .ok (.if_icmp .ge 163, 3) := by decide +kernel
theorem dX12_worked_16 : decode cX12_worked 16 = .ok (.aload_n 0, 1) := by decide +kernel
theorem dX12_worked_17 : decode cX12_worked 17 = .ok (.getfield 165, 3) := by decide +kernel
theorem dX12_worked_20 : decode cX12_worked 20 = .ok (.bipush 48, 2) := by decide +kernel
theorem dX12_worked_22 : decode cX12_worked 22 = .ok (.iload_n 1, 1) := by decide +kernel
theorem dX12_worked_23 : decode cX12_worked 23 = .ok (.imul, 1) := by decide +kernel
theorem dX12_worked_24 : decode cX12_worked 24 = .ok (.iload 4, 2) := by decide +kernel
theorem dX12_worked_26 : decode cX12_worked 26 = .ok (.iadd, 1) := by decide +kernel
theorem dX12_worked_27 : decode cX12_worked 27 = .ok (.iaload, 1) := by decide +kernel
theorem dX12_worked_28 : decode cX12_worked 28 = .ok (.istore 5, 2) := by decide +kernel
theorem dX12_worked_30 : decode cX12_worked 30 = .ok (.iload 5, 2) := by decide +kernel
theorem dX12_worked_32 : decode cX12_worked 32 = .ok (.sipush 2000, 3) := by decide +kernel
theorem dX12_worked_35 : decode cX12_worked 35 = .ok (.if_icmp .ge 35, 3) := by decide +kernel
theorem dX12_worked_38 : decode cX12_worked 38 = .ok (.aload_n 0, 1) := by decide +kernel
theorem dX12_worked_39 : decode cX12_worked 39 = .ok (.getfield 241, 3) := by decide +kernel
theorem dX12_worked_42 : decode cX12_worked 42 = .ok (.iload_n 3, 1) := by decide +kernel
theorem dX12_worked_43 : decode cX12_worked 43 = .ok (.iload 5, 2) := by decide +kernel
theorem dX12_worked_45 : decode cX12_worked 45 = .ok (.sipush 1000, 3) := by decide +kernel
theorem dX12_worked_48 : decode cX12_worked 48 = .ok (.if_icmp .ge 8, 3) := by decide +kernel
theorem dX12_worked_51 : decode cX12_worked 51 = .ok (.iload 5, 2) := by decide +kernel
theorem dX12_worked_53 : decode cX12_worked 53 = .ok (.goto 10, 3) := by decide +kernel
theorem dX12_worked_56 : decode cX12_worked 56 = .ok (.aload_n 0, 1) := by decide +kernel
theorem dX12_worked_57 : decode cX12_worked 57 = .ok (.iload 5, 2) := by decide +kernel
theorem dX12_worked_59 : decode cX12_worked 59 = .ok (.iload_n 2, 1) := by decide +kernel
theorem dX12_worked_60 : decode cX12_worked 60 = .ok (.invokevirtual 244, 3) := by decide +kernel
theorem dX12_worked_63 : decode cX12_worked 63 = .ok (.iastore, 1) := by decide +kernel
theorem dX12_worked_64 : decode cX12_worked 64 = .ok (.iinc 3 1, 3) := by decide +kernel
theorem dX12_worked_67 : decode cX12_worked 67 = .ok (.goto 103, 3) := by decide +kernel
theorem dX12_worked_70 : decode cX12_worked 70 = .ok (.iload 5, 2) := by decide +kernel
theorem dX12_worked_72 : decode cX12_worked 72 = .ok (.sipush 2033, 3) := by decide +kernel
theorem dX12_worked_75 : decode cX12_worked 75 = .ok (.if_icmp .ne 33, 3) := by decide +kernel
theorem dX12_worked_78 : decode cX12_worked 78 = .ok (.aload_n 0, 1) := by decide +kernel
theorem dX12_worked_79 : decode cX12_worked 79 = .ok (.getfield 241, 3) := by decide +kernel
theorem dX12_worked_82 : decode cX12_worked 82 = .ok (.iload_n 3, 1) := by decide +kernel
theorem dX12_worked_83 : decode cX12_worked 83 = .ok (.iconst 1, 1) := by decide +kernel
theorem dX12_worked_84 : decode cX12_worked 84 = .ok (.isub, 1) := by decide +kernel
theorem dX12_worked_85 : decode cX12_worked 85 = .ok (.aload_n 0, 1) := by decide +kernel
theorem dX12_worked_86 : decode cX12_worked 86 = .ok (.getfield 241, 3) := by decide +kernel
theorem dX12_worked_89 : decode cX12_worked 89 = .ok (.iload_n 3, 1) := by decide +kernel
theorem dX12_worked_90 : decode cX12_worked 90 = .ok (.iconst 1, 1) := by decide +kernel
theorem dX12_worked_91 : decode cX12_worked 91 = .ok (.isub, 1) := by decide +kernel
theorem dX12_worked_92 : decode cX12_worked 92 = .ok (.iaload, 1) := by decide +kernel
theorem dX12_worked_93 : decode cX12_worked 93 = .ok (.ifCond .ne 7, 3) := by decide +kernel
theorem dX12_worked_96 : decode cX12_worked 96 = .ok (.iconst 1, 1) := by decide +kernel
theorem dX12_worked_97 : decode cX12_worked 97 = .ok (.goto 4, 3) := by decide +kernel
theorem dX12_worked_100 : decode cX12_worked 100 = .ok (.iconst 0, 1) := by decide +kernel
theorem dX12_worked_101 : decode cX12_worked 101 = .ok (.invokestatic 70, 3) := by decide +kernel
theorem dX12_worked_104 : decode cX12_worked 104 = .ok (.iastore, 1) := by decide +kernel
theorem dX12_worked_105 : decode cX12_worked 105 = .ok (.goto 65, 3) := by decide +kernel
theorem dX12_worked_108 : decode cX12_worked 108 = .ok (.iload 5, 2) := by decide +kernel
theorem dX12_worked_110 : decode cX12_worked 110 = .ok (.sipush 2126, 3) := by decide +kernel
theorem dX12_worked_113 : decode cX12_worked 113 = .ok (.if_icmp .ne 23, 3) := by decide +kernel
theorem dX12_worked_116 : decode cX12_worked 116 = .ok (.aload_n 0, 1) := by decide +kernel
theorem dX12_worked_117 : decode cX12_worked 117 = .ok (.getfield 241, 3) := by decide +kernel
theorem dX12_worked_120 : decode cX12_worked 120 = .ok (.iload_n 3, 1) := by decide +kernel
theorem dX12_worked_121 : decode cX12_worked 121 = .ok (.iconst 1, 1) := by decide +kernel
theorem dX12_worked_122 : decode cX12_worked 122 = .ok (.isub, 1) := by decide +kernel
theorem dX12_worked_123 : decode cX12_worked 123 = .ok (.aload_n 0, 1) := by decide +kernel
theorem dX12_worked_124 : decode cX12_worked 124 = .ok (.getfield 241, 3) := by decide +kernel
theorem dX12_worked_127 : decode cX12_worked 127 = .ok (.iload_n 3, 1) := by decide +kernel
theorem dX12_worked_128 : decode cX12_worked 128 = .ok (.iconst 1, 1) := by decide +kernel
theorem dX12_worked_129 : decode cX12_worked 129 = .ok (.isub, 1) := by decide +kernel
theorem dX12_worked_130 : decode cX12_worked 130 = .ok (.iaload, 1) := by decide +kernel
theorem dX12_worked_131 : decode cX12_worked 131 = .ok (.ineg, 1) := by decide +kernel
theorem dX12_worked_132 : decode cX12_worked 132 = .ok (.iastore, 1) := by decide +kernel
theorem dX12_worked_133 : decode cX12_worked 133 = .ok (.goto 37, 3) := by decide +kernel
theorem dX12_worked_136 : decode cX12_worked 136 = .ok (.iinc 3 (-1), 3) := by decide +kernel
theorem dX12_worked_139 : decode cX12_worked 139 = .ok (.aload_n 0, 1) := by decide +kernel
theorem dX12_worked_140 : decode cX12_worked 140 = .ok (.getfield 241, 3) := by decide +kernel
theorem dX12_worked_143 : decode cX12_worked 143 = .ok (.iload_n 3, 1) := by decide +kernel
theorem dX12_worked_144 : decode cX12_worked 144 = .ok (.iconst 1, 1) := by decide +kernel
theorem dX12_worked_145 : decode cX12_worked 145 = .ok (.isub, 1) := by decide +kernel
theorem dX12_worked_146 : decode cX12_worked 146 = .ok (.iload 5, 2) := by decide +kernel
theorem dX12_worked_148 : decode cX12_worked 148 = .ok (.sipush 2000, 3) := by decide +kernel
theorem dX12_worked_151 : decode cX12_worked 151 = .ok (.isub, 1) := by decide +kernel
theorem dX12_worked_152 : decode cX12_worked 152 = .ok (.aload_n 0, 1) := by decide +kernel
theorem dX12_worked_153 : decode cX12_worked 153 = .ok (.getfield 241, 3) := by decide +kernel
theorem dX12_worked_156 : decode cX12_worked 156 = .ok (.iload_n 3, 1) := by decide +kernel
theorem dX12_worked_157 : decode cX12_worked 157 = .ok (.iconst 1, 1) := by decide +kernel
theorem dX12_worked_158 : decode cX12_worked 158 = .ok (.isub, 1) := by decide +kernel
theorem dX12_worked_159 : decode cX12_worked 159 = .ok (.iaload, 1) := by decide +kernel
theorem dX12_worked_160 : decode cX12_worked 160 = .ok (.aload_n 0, 1) := by decide +kernel
theorem dX12_worked_161 : decode cX12_worked 161 = .ok (.getfield 241, 3) := by decide +kernel
theorem dX12_worked_164 : decode cX12_worked 164 = .ok (.iload_n 3, 1) := by decide +kernel
theorem dX12_worked_165 : decode cX12_worked 165 = .ok (.iaload, 1) := by decide +kernel
theorem dX12_worked_166 : decode cX12_worked 166 = .ok (.invokestatic 247, 3) := by decide +kernel
theorem dX12_worked_169 : decode cX12_worked 169 = .ok (.iastore, 1) := by decide +kernel
theorem dX12_worked_170 : decode cX12_worked 170 = .ok (.iinc 4 1, 3) := by decide +kernel
theorem dX12_worked_173 : decode cX12_worked 173 = .ok (.goto (-168), 3) := by decide +kernel
theorem dX12_worked_176 : decode cX12_worked 176 = .ok (.aload_n 0, 1) := by decide +kernel
theorem dX12_worked_177 : decode cX12_worked 177 = .ok (.getfield 241, 3) := by decide +kernel
theorem dX12_worked_180 : decode cX12_worked 180 = .ok (.iconst 0, 1) := by decide +kernel
theorem dX12_worked_181 : decode cX12_worked 181 = .ok (.iaload, 1) := by decide +kernel
theorem dX12_worked_182 : decode cX12_worked 182 = .ok (.ireturn, 1) := by decide +kernel
theorem dX12_isTold_0 : decode cX12_isTold 0 = .ok (.iload_n 1, 1) := by decide +kernel
theorem dX12_isTold_1 : decode cX12_isTold 1 = .ok (.i2l, 1) := by decide +kernel
theorem dX12_isTold_2 : decode cX12_isTold 2 = .ok (.lconst 0, 1) := by decide +kernel
theorem dX12_isTold_3 : decode cX12_isTold 3 = .ok (.ldc2_w 56, 3) := by decide +kernel
theorem dX12_isTold_6 : decode cX12_isTold 6 = .ok (.invokestatic 29, 3) := by decide +kernel
theorem dX12_isTold_9 : decode cX12_isTold 9 = .ok (.ifCond .eq 16, 3) := by decide +kernel
theorem dX12_isTold_12 : decode cX12_isTold 12 = .ok (.aload_n 0, 1) := by decide +kernel
theorem dX12_isTold_13 : decode cX12_isTold 13 = .ok (.getfield 168, 3) := by decide +kernel
theorem dX12_isTold_16 : decode cX12_isTold 16 = .ok (.iload_n 1, 1) := by decide +kernel
theorem dX12_isTold_17 : decode cX12_isTold 17 = .ok (.iaload, 1) := by decide +kernel
theorem dX12_isTold_18 : decode cX12_isTold 18 = .ok (.ifCond .le 7, 3) := by decide +kernel
theorem dX12_isTold_21 : decode cX12_isTold 21 = .ok (.iconst 1, 1) := by decide +kernel
theorem dX12_isTold_22 : decode cX12_isTold 22 = .ok (.goto 4, 3) := by decide +kernel
theorem dX12_isTold_25 : decode cX12_isTold 25 = .ok (.iconst 0, 1) := by decide +kernel
theorem dX12_isTold_26 : decode cX12_isTold 26 = .ok (.ireturn, 1) := by decide +kernel
theorem dX12_value_0 : decode cX12_value 0 = .ok (.aload_n 0, 1) := by decide +kernel
theorem dX12_value_1 : decode cX12_value 1 = .ok (.iconst 0, 1) := by decide +kernel
theorem dX12_value_2 : decode cX12_value 2 = .ok (.putfield 3, 3) := by decide +kernel
theorem dX12_value_5 : decode cX12_value 5 = .ok (.aload_n 0, 1) := by decide +kernel
theorem dX12_value_6 : decode cX12_value 6 = .ok (.iload_n 2, 1) := by decide +kernel
theorem dX12_value_7 : decode cX12_value 7 = .ok (.invokevirtual 131, 3) := by decide +kernel
theorem dX12_value_10 : decode cX12_value 10 = .ok (.ifCond .eq 11, 3) := by decide +kernel
theorem dX12_value_13 : decode cX12_value 13 = .ok (.aload_n 0, 1) := by decide +kernel
theorem dX12_value_14 : decode cX12_value 14 = .ok (.iload_n 1, 1) := by decide +kernel
theorem dX12_value_15 : decode cX12_value 15 = .ok (.invokevirtual 250, 3) := by decide +kernel
theorem dX12_value_18 : decode cX12_value 18 = .ok (.ifCond .ne 8, 3) := by decide +kernel
theorem dX12_value_21 : decode cX12_value 21 = .ok (.aload_n 0, 1) := by decide +kernel
theorem dX12_value_22 : decode cX12_value 22 = .ok (.invokevirtual 136, 3) := by decide +kernel
theorem dX12_value_25 : decode cX12_value 25 = .ok (.ireturn, 1) := by decide +kernel
theorem dX12_value_26 : decode cX12_value 26 = .ok (.aload_n 0, 1) := by decide +kernel
theorem dX12_value_27 : decode cX12_value 27 = .ok (.aload_n 0, 1) := by decide +kernel
theorem dX12_value_28 : decode cX12_value 28 = .ok (.getfield 67, 3) := by decide +kernel
theorem dX12_value_31 : decode cX12_value 31 = .ok (.iload_n 2, 1) := by decide +kernel
theorem dX12_value_32 : decode cX12_value 32 = .ok (.iaload, 1) := by decide +kernel
theorem dX12_value_33 : decode cX12_value 33 = .ok (.invokevirtual 253, 3) := by decide +kernel
theorem dX12_value_36 : decode cX12_value 36 = .ok (.aload_n 0, 1) := by decide +kernel
theorem dX12_value_37 : decode cX12_value 37 = .ok (.iload_n 1, 1) := by decide +kernel
theorem dX12_value_38 : decode cX12_value 38 = .ok (.iload_n 2, 1) := by decide +kernel
theorem dX12_value_39 : decode cX12_value 39 = .ok (.invokevirtual 256, 3) := by decide +kernel
theorem dX12_value_42 : decode cX12_value 42 = .ok (.ireturn, 1) := by decide +kernel
theorem dX12_read_0 : decode cX12_read 0 = .ok (.aload_n 0, 1) := by decide +kernel
theorem dX12_read_1 : decode cX12_read 1 = .ok (.iconst 0, 1) := by decide +kernel
theorem dX12_read_2 : decode cX12_read 2 = .ok (.putfield 3, 3) := by decide +kernel
theorem dX12_read_5 : decode cX12_read 5 = .ok (.iload_n 1, 1) := by decide +kernel
theorem dX12_read_6 : decode cX12_read 6 = .ok (.i2l, 1) := by decide +kernel
theorem dX12_read_7 : decode cX12_read 7 = .ok (.lconst 0, 1) := by decide +kernel
theorem dX12_read_8 : decode cX12_read 8 = .ok (.ldc2_w 259, 3) := by decide +kernel
theorem dX12_read_11 : decode cX12_read 11 = .ok (.invokestatic 29, 3) := by decide +kernel
theorem dX12_read_14 : decode cX12_read 14 = .ok (.ifCond .ne 5, 3) := by decide +kernel
theorem dX12_read_17 : decode cX12_read 17 = .ok (.iconst (-1), 1) := by decide +kernel
theorem dX12_read_18 : decode cX12_read 18 = .ok (.ireturn, 1) := by decide +kernel
theorem dX12_read_19 : decode cX12_read 19 = .ok (.iconst 0, 1) := by decide +kernel
theorem dX12_read_20 : decode cX12_read 20 = .ok (.istore_n 2, 1) := by decide +kernel
theorem dX12_read_21 : decode cX12_read 21 = .ok (.iconst 0, 1) := by decide +kernel
theorem dX12_read_22 : decode cX12_read 22 = .ok (.istore_n 3, 1) := by decide +kernel
theorem dX12_read_23 : decode cX12_read 23 = .ok (.iload_n 3, 1) := by decide +kernel
theorem dX12_read_24 : decode cX12_read 24 = .ok (.iload_n 1, 1) := by decide +kernel
theorem dX12_read_25 : decode cX12_read 25 = .ok (.if_icmp .ge 167, 3) := by decide +kernel
theorem dX12_read_28 : decode cX12_read 28 = .ok (.iconst (-1), 1) := by decide +kernel
theorem dX12_read_29 : decode cX12_read 29 = .ok (.istore 4, 2) := by decide +kernel
theorem dX12_read_31 : decode cX12_read 31 = .ok (.iconst 0, 1) := by decide +kernel
theorem dX12_read_32 : decode cX12_read 32 = .ok (.istore 5, 2) := by decide +kernel
theorem dX12_read_34 : decode cX12_read 34 = .ok (.iload 5, 2) := by decide +kernel
theorem dX12_read_36 : decode cX12_read 36 = .ok (.aload_n 0, 1) := by decide +kernel
theorem dX12_read_37 : decode cX12_read 37 = .ok (.getfield 36, 3) := by decide +kernel
theorem dX12_read_40 : decode cX12_read 40 = .ok (.if_icmp .ge 50, 3) := by decide +kernel
theorem dX12_read_43 : decode cX12_read 43 = .ok (.aload_n 0, 1) := by decide +kernel
theorem dX12_read_44 : decode cX12_read 44 = .ok (.getfield 89, 3) := by decide +kernel
theorem dX12_read_47 : decode cX12_read 47 = .ok (.iload 5, 2) := by decide +kernel
theorem dX12_read_49 : decode cX12_read 49 = .ok (.baload, 1) := by decide +kernel
theorem dX12_read_50 : decode cX12_read 50 = .ok (.ifCond .ne 30, 3) := by decide +kernel
theorem dX12_read_53 : decode cX12_read 53 = .ok (.iload 4, 2) := by decide +kernel
theorem dX12_read_55 : decode cX12_read 55 = .ok (.ifCond .lt 20, 3) := by decide +kernel
theorem dX12_read_58 : decode cX12_read 58 = .ok (.aload_n 0, 1) := by decide +kernel
theorem dX12_read_59 : decode cX12_read 59 = .ok (.getfield 86, 3) := by decide +kernel
theorem dX12_read_62 : decode cX12_read 62 = .ok (.iload 5, 2) := by decide +kernel
theorem dX12_read_64 : decode cX12_read 64 = .ok (.iaload, 1) := by decide +kernel
theorem dX12_read_65 : decode cX12_read 65 = .ok (.aload_n 0, 1) := by decide +kernel
theorem dX12_read_66 : decode cX12_read 66 = .ok (.getfield 86, 3) := by decide +kernel
theorem dX12_read_69 : decode cX12_read 69 = .ok (.iload 4, 2) := by decide +kernel
theorem dX12_read_71 : decode cX12_read 71 = .ok (.iaload, 1) := by decide +kernel
theorem dX12_read_72 : decode cX12_read 72 = .ok (.if_icmp .ge 8, 3) := by decide +kernel
theorem dX12_read_75 : decode cX12_read 75 = .ok (.iload 5, 2) := by decide +kernel
theorem dX12_read_77 : decode cX12_read 77 = .ok (.goto 5, 3) := by decide +kernel
theorem dX12_read_80 : decode cX12_read 80 = .ok (.iload 4, 2) := by decide +kernel
theorem dX12_read_82 : decode cX12_read 82 = .ok (.istore 4, 2) := by decide +kernel
theorem dX12_read_84 : decode cX12_read 84 = .ok (.iinc 5 1, 3) := by decide +kernel
theorem dX12_read_87 : decode cX12_read 87 = .ok (.goto (-53), 3) := by decide +kernel
theorem dX12_read_90 : decode cX12_read 90 = .ok (.iload 4, 2) := by decide +kernel
theorem dX12_read_92 : decode cX12_read 92 = .ok (.ifCond .ge 5, 3) := by decide +kernel
theorem dX12_read_95 : decode cX12_read 95 = .ok (.iload_n 2, 1) := by decide +kernel
theorem dX12_read_96 : decode cX12_read 96 = .ok (.ireturn, 1) := by decide +kernel
theorem dX12_read_97 : decode cX12_read 97 = .ok (.aload_n 0, 1) := by decide +kernel
theorem dX12_read_98 : decode cX12_read 98 = .ok (.bipush 100, 2) := by decide +kernel
theorem dX12_read_100 : decode cX12_read 100 = .ok (.invokevirtual 121, 3) := by decide +kernel
theorem dX12_read_103 : decode cX12_read 103 = .ok (.istore 5, 2) := by decide +kernel
theorem dX12_read_105 : decode cX12_read 105 = .ok (.aload_n 0, 1) := by decide +kernel
theorem dX12_read_106 : decode cX12_read 106 = .ok (.getfield 64, 3) := by decide +kernel
theorem dX12_read_109 : decode cX12_read 109 = .ok (.aload_n 0, 1) := by decide +kernel
theorem dX12_read_110 : decode cX12_read 110 = .ok (.getfield 67, 3) := by decide +kernel
theorem dX12_read_113 : decode cX12_read 113 = .ok (.iload 4, 2) := by decide +kernel
theorem dX12_read_115 : decode cX12_read 115 = .ok (.iaload, 1) := by decide +kernel
theorem dX12_read_116 : decode cX12_read 116 = .ok (.iaload, 1) := by decide +kernel
theorem dX12_read_117 : decode cX12_read 117 = .ok (.istore 6, 2) := by decide +kernel
theorem dX12_read_119 : decode cX12_read 119 = .ok (.aload_n 0, 1) := by decide +kernel
theorem dX12_read_120 : decode cX12_read 120 = .ok (.aload_n 0, 1) := by decide +kernel
theorem dX12_read_121 : decode cX12_read 121 = .ok (.getfield 67, 3) := by decide +kernel
theorem dX12_read_124 : decode cX12_read 124 = .ok (.iload 4, 2) := by decide +kernel
theorem dX12_read_126 : decode cX12_read 126 = .ok (.iaload, 1) := by decide +kernel
theorem dX12_read_127 : decode cX12_read 127 = .ok (.invokevirtual 253, 3) := by decide +kernel
theorem dX12_read_130 : decode cX12_read 130 = .ok (.aload_n 0, 1) := by decide +kernel
theorem dX12_read_131 : decode cX12_read 131 = .ok (.getfield 93, 3) := by decide +kernel
theorem dX12_read_134 : decode cX12_read 134 = .ok (.iload 4, 2) := by decide +kernel
theorem dX12_read_136 : decode cX12_read 136 = .ok (.aload_n 0, 1) := by decide +kernel
theorem dX12_read_137 : decode cX12_read 137 = .ok (.getfield 168, 3) := by decide +kernel
theorem dX12_read_140 : decode cX12_read 140 = .ok (.iload 6, 2) := by decide +kernel
theorem dX12_read_142 : decode cX12_read 142 = .ok (.iaload, 1) := by decide +kernel
theorem dX12_read_143 : decode cX12_read 143 = .ok (.ifCond .le 20, 3) := by decide +kernel
theorem dX12_read_146 : decode cX12_read 146 = .ok (.iload 5, 2) := by decide +kernel
theorem dX12_read_148 : decode cX12_read 148 = .ok (.aload_n 0, 1) := by decide +kernel
theorem dX12_read_149 : decode cX12_read 149 = .ok (.iload 6, 2) := by decide +kernel
theorem dX12_read_151 : decode cX12_read 151 = .ok (.iload 4, 2) := by decide +kernel
theorem dX12_read_153 : decode cX12_read 153 = .ok (.invokevirtual 256, 3) := by decide +kernel
theorem dX12_read_156 : decode cX12_read 156 = .ok (.if_icmp .ge 7, 3) := by decide +kernel
theorem dX12_read_159 : decode cX12_read 159 = .ok (.iconst 1, 1) := by decide +kernel
theorem dX12_read_160 : decode cX12_read 160 = .ok (.goto 4, 3) := by decide +kernel
theorem dX12_read_163 : decode cX12_read 163 = .ok (.iconst 0, 1) := by decide +kernel
theorem dX12_read_164 : decode cX12_read 164 = .ok (.bastore, 1) := by decide +kernel
theorem dX12_read_165 : decode cX12_read 165 = .ok (.aload_n 0, 1) := by decide +kernel
theorem dX12_read_166 : decode cX12_read 166 = .ok (.getfield 89, 3) := by decide +kernel
theorem dX12_read_169 : decode cX12_read 169 = .ok (.iload 4, 2) := by decide +kernel
theorem dX12_read_171 : decode cX12_read 171 = .ok (.iconst 1, 1) := by decide +kernel
theorem dX12_read_172 : decode cX12_read 172 = .ok (.bastore, 1) := by decide +kernel
theorem dX12_read_173 : decode cX12_read 173 = .ok (.iload_n 2, 1) := by decide +kernel
theorem dX12_read_174 : decode cX12_read 174 = .ok (.aload_n 0, 1) := by decide +kernel
theorem dX12_read_175 : decode cX12_read 175 = .ok (.getfield 93, 3) := by decide +kernel
theorem dX12_read_178 : decode cX12_read 178 = .ok (.iload 4, 2) := by decide +kernel
theorem dX12_read_180 : decode cX12_read 180 = .ok (.baload, 1) := by decide +kernel
theorem dX12_read_181 : decode cX12_read 181 = .ok (.invokestatic 70, 3) := by decide +kernel
theorem dX12_read_184 : decode cX12_read 184 = .ok (.iadd, 1) := by decide +kernel
theorem dX12_read_185 : decode cX12_read 185 = .ok (.istore_n 2, 1) := by decide +kernel
theorem dX12_read_186 : decode cX12_read 186 = .ok (.iinc 3 1, 3) := by decide +kernel
theorem dX12_read_189 : decode cX12_read 189 = .ok (.goto (-166), 3) := by decide +kernel
theorem dX12_read_192 : decode cX12_read 192 = .ok (.iload_n 2, 1) := by decide +kernel
theorem dX12_read_193 : decode cX12_read 193 = .ok (.ireturn, 1) := by decide +kernel
theorem dX12_ring_0 : decode cX12_ring 0 = .ok (.aload_n 0, 1) := by decide +kernel
theorem dX12_ring_1 : decode cX12_ring 1 = .ok (.iconst 0, 1) := by decide +kernel
theorem dX12_ring_2 : decode cX12_ring 2 = .ok (.putfield 3, 3) := by decide +kernel
theorem dX12_ring_5 : decode cX12_ring 5 = .ok (.aload_n 0, 1) := by decide +kernel
theorem dX12_ring_6 : decode cX12_ring 6 = .ok (.iload_n 1, 1) := by decide +kernel
theorem dX12_ring_7 : decode cX12_ring 7 = .ok (.invokevirtual 131, 3) := by decide +kernel
theorem dX12_ring_10 : decode cX12_ring 10 = .ok (.ifCond .eq 12, 3) := by decide +kernel
theorem dX12_ring_13 : decode cX12_ring 13 = .ok (.aload_n 0, 1) := by decide +kernel
theorem dX12_ring_14 : decode cX12_ring 14 = .ok (.getfield 89, 3) := by decide +kernel
theorem dX12_ring_17 : decode cX12_ring 17 = .ok (.iload_n 1, 1) := by decide +kernel
theorem dX12_ring_18 : decode cX12_ring 18 = .ok (.baload, 1) := by decide +kernel
theorem dX12_ring_19 : decode cX12_ring 19 = .ok (.ifCond .eq 5, 3) := by decide +kernel
theorem dX12_ring_22 : decode cX12_ring 22 = .ok (.iconst 0, 1) := by decide +kernel
theorem dX12_ring_23 : decode cX12_ring 23 = .ok (.ireturn, 1) := by decide +kernel
theorem dX12_ring_24 : decode cX12_ring 24 = .ok (.aload_n 0, 1) := by decide +kernel
theorem dX12_ring_25 : decode cX12_ring 25 = .ok (.getfield 89, 3) := by decide +kernel
theorem dX12_ring_28 : decode cX12_ring 28 = .ok (.iload_n 1, 1) := by decide +kernel
theorem dX12_ring_29 : decode cX12_ring 29 = .ok (.iconst 1, 1) := by decide +kernel
theorem dX12_ring_30 : decode cX12_ring 30 = .ok (.bastore, 1) := by decide +kernel
theorem dX12_ring_31 : decode cX12_ring 31 = .ok (.aload_n 0, 1) := by decide +kernel
theorem dX12_ring_32 : decode cX12_ring 32 = .ok (.getfield 93, 3) := by decide +kernel
theorem dX12_ring_35 : decode cX12_ring 35 = .ok (.iload_n 1, 1) := by decide +kernel
theorem dX12_ring_36 : decode cX12_ring 36 = .ok (.iload_n 2, 1) := by decide +kernel
theorem dX12_ring_37 : decode cX12_ring 37 = .ok (.bastore, 1) := by decide +kernel
theorem dX12_ring_38 : decode cX12_ring 38 = .ok (.iconst 1, 1) := by decide +kernel
theorem dX12_ring_39 : decode cX12_ring 39 = .ok (.ireturn, 1) := by decide +kernel
theorem dX12_box_0 : decode cX12_box 0 = .ok (.aload_n 0, 1) := by decide +kernel
theorem dX12_box_1 : decode cX12_box 1 = .ok (.iconst 0, 1) := by decide +kernel
theorem dX12_box_2 : decode cX12_box 2 = .ok (.putfield 3, 3) := by decide +kernel
theorem dX12_box_5 : decode cX12_box 5 = .ok (.iload_n 1, 1) := by decide +kernel
theorem dX12_box_6 : decode cX12_box 6 = .ok (.i2l, 1) := by decide +kernel
theorem dX12_box_7 : decode cX12_box 7 = .ok (.lconst 0, 1) := by decide +kernel
theorem dX12_box_8 : decode cX12_box 8 = .ok (.ldc2_w 54, 3) := by decide +kernel
theorem dX12_box_11 : decode cX12_box 11 = .ok (.invokestatic 29, 3) := by decide +kernel
theorem dX12_box_14 : decode cX12_box 14 = .ok (.ifCond .eq 9, 3) := by decide +kernel
theorem dX12_box_17 : decode cX12_box 17 = .ok (.iload_n 2, 1) := by decide +kernel
theorem dX12_box_18 : decode cX12_box 18 = .ok (.bipush 96, 2) := by decide +kernel
theorem dX12_box_20 : decode cX12_box 20 = .ok (.if_icmp .le 5, 3) := by decide +kernel
theorem dX12_box_23 : decode cX12_box 23 = .ok (.iconst (-1), 1) := by decide +kernel
theorem dX12_box_24 : decode cX12_box 24 = .ok (.ireturn, 1) := by decide +kernel
theorem dX12_box_25 : decode cX12_box 25 = .ok (.iload_n 1, 1) := by decide +kernel
theorem dX12_box_26 : decode cX12_box 26 = .ok (.iconst 3, 1) := by decide +kernel
theorem dX12_box_27 : decode cX12_box 27 = .ok (.if_icmp .eq 10, 3) := by decide +kernel
theorem dX12_box_30 : decode cX12_box 30 = .ok (.iload_n 2, 1) := by decide +kernel
theorem dX12_box_31 : decode cX12_box 31 = .ok (.ifCond .ge 6, 3) := by decide +kernel
theorem dX12_box_34 : decode cX12_box 34 = .ok (.bipush (-2), 2) := by decide +kernel
theorem dX12_box_36 : decode cX12_box 36 = .ok (.ireturn, 1) := by decide +kernel
theorem dX12_box_37 : decode cX12_box 37 = .ok (.iload_n 3, 1) := by decide +kernel
theorem dX12_box_38 : decode cX12_box 38 = .ok (.istore 5, 2) := by decide +kernel
theorem dX12_box_40 : decode cX12_box 40 = .ok (.iconst 0, 1) := by decide +kernel
theorem dX12_box_41 : decode cX12_box 41 = .ok (.istore 6, 2) := by decide +kernel
theorem dX12_box_43 : decode cX12_box 43 = .ok (.iconst 0, 1) := by decide +kernel
theorem dX12_box_44 : decode cX12_box 44 = .ok (.istore 7, 2) := by decide +kernel
theorem dX12_box_46 : decode cX12_box 46 = .ok (.iload 7, 2) := by decide +kernel
theorem dX12_box_48 : decode cX12_box 48 = .ok (.aload_n 0, 1) := by decide +kernel
theorem dX12_box_49 : decode cX12_box 49 = .ok (.getfield 36, 3) := by decide +kernel
theorem dX12_box_52 : decode cX12_box 52 = .ok (.if_icmp .ge 107, 3) := by decide +kernel
theorem dX12_box_55 : decode cX12_box 55 = .ok (.iload_n 1, 1) := by decide +kernel
theorem dX12_box_56 : decode cX12_box 56 = .ok (.iconst 3, 1) := by decide +kernel
theorem dX12_box_57 : decode cX12_box 57 = .ok (.if_icmp .eq 9, 3) := by decide +kernel
theorem dX12_box_60 : decode cX12_box 60 = .ok (.iload 7, 2) := by decide +kernel
theorem dX12_box_62 : decode cX12_box 62 = .ok (.iload_n 2, 1) := by decide +kernel
theorem dX12_box_63 : decode cX12_box 63 = .ok (.if_icmp .ge 96, 3) := by decide +kernel
theorem dX12_box_66 : decode cX12_box 66 = .ok (.iload_n 1, 1) := by decide +kernel
theorem dX12_box_67 : decode cX12_box 67 = .ok (.iconst 3, 1) := by decide +kernel
theorem dX12_box_68 : decode cX12_box 68 = .ok (.if_icmp .ne 7, 3) := by decide +kernel
theorem dX12_box_71 : decode cX12_box 71 = .ok (.iconst 0, 1) := by decide +kernel
theorem dX12_box_72 : decode cX12_box 72 = .ok (.goto 26, 3) := by decide +kernel
theorem dX12_box_75 : decode cX12_box 75 = .ok (.iload_n 1, 1) := by decide +kernel
theorem dX12_box_76 : decode cX12_box 76 = .ok (.ifCond .ne 9, 3) := by decide +kernel
theorem dX12_box_79 : decode cX12_box 79 = .ok (.iload 5, 2) := by decide +kernel
theorem dX12_box_81 : decode cX12_box 81 = .ok (.i2b, 1) := by decide +kernel
theorem dX12_box_82 : decode cX12_box 82 = .ok (.goto 16, 3) := by decide +kernel
theorem dX12_box_85 : decode cX12_box 85 = .ok (.iload_n 1, 1) := by decide +kernel
theorem dX12_box_86 : decode cX12_box 86 = .ok (.iconst 1, 1) := by decide +kernel
theorem dX12_box_87 : decode cX12_box 87 = .ok (.if_icmp .ne 9, 3) := by decide +kernel
theorem dX12_box_90 : decode cX12_box 90 = .ok (.iload 5, 2) := by decide +kernel
theorem dX12_box_92 : decode cX12_box 92 = .ok (.i2s, 1) := by decide +kernel
theorem dX12_box_93 : decode cX12_box 93 = .ok (.goto 5, 3) := by decide +kernel
theorem dX12_box_96 : decode cX12_box 96 = .ok (.iload 5, 2) := by decide +kernel
theorem dX12_box_98 : decode cX12_box 98 = .ok (.istore 8, 2) := by decide +kernel
theorem dX12_box_100 : decode cX12_box 100 = .ok (.iload 5, 2) := by decide +kernel
theorem dX12_box_102 : decode cX12_box 102 = .ok (.iload 4, 2) := by decide +kernel
theorem dX12_box_104 : decode cX12_box 104 = .ok (.iadd, 1) := by decide +kernel
theorem dX12_box_105 : decode cX12_box 105 = .ok (.istore 5, 2) := by decide +kernel
theorem dX12_box_107 : decode cX12_box 107 = .ok (.aload_n 0, 1) := by decide +kernel
theorem dX12_box_108 : decode cX12_box 108 = .ok (.getfield 89, 3) := by decide +kernel
theorem dX12_box_111 : decode cX12_box 111 = .ok (.iload 7, 2) := by decide +kernel
theorem dX12_box_113 : decode cX12_box 113 = .ok (.baload, 1) := by decide +kernel
theorem dX12_box_114 : decode cX12_box 114 = .ok (.ifCond .ne 39, 3) := by decide +kernel
theorem dX12_box_117 : decode cX12_box 117 = .ok (.iload 8, 2) := by decide +kernel
theorem dX12_box_119 : decode cX12_box 119 = .ok (.ifCond .ge 6, 3) := by decide +kernel
theorem dX12_box_122 : decode cX12_box 122 = .ok (.goto 31, 3) := by decide +kernel
theorem dX12_box_125 : decode cX12_box 125 = .ok (.aload_n 0, 1) := by decide +kernel
theorem dX12_box_126 : decode cX12_box 126 = .ok (.getfield 89, 3) := by decide +kernel
theorem dX12_box_129 : decode cX12_box 129 = .ok (.iload 7, 2) := by decide +kernel
theorem dX12_box_131 : decode cX12_box 131 = .ok (.iconst 1, 1) := by decide +kernel
theorem dX12_box_132 : decode cX12_box 132 = .ok (.bastore, 1) := by decide +kernel
theorem dX12_box_133 : decode cX12_box 133 = .ok (.aload_n 0, 1) := by decide +kernel
theorem dX12_box_134 : decode cX12_box 134 = .ok (.getfield 93, 3) := by decide +kernel
theorem dX12_box_137 : decode cX12_box 137 = .ok (.iload 7, 2) := by decide +kernel
theorem dX12_box_139 : decode cX12_box 139 = .ok (.iload 8, 2) := by decide +kernel
theorem dX12_box_141 : decode cX12_box 141 = .ok (.ifCond .le 7, 3) := by decide +kernel
theorem dX12_box_144 : decode cX12_box 144 = .ok (.iconst 1, 1) := by decide +kernel
theorem dX12_box_145 : decode cX12_box 145 = .ok (.goto 4, 3) := by decide +kernel
theorem dX12_box_148 : decode cX12_box 148 = .ok (.iconst 0, 1) := by decide +kernel
theorem dX12_box_149 : decode cX12_box 149 = .ok (.bastore, 1) := by decide +kernel
theorem dX12_box_150 : decode cX12_box 150 = .ok (.iinc 6 1, 3) := by decide +kernel
theorem dX12_box_153 : decode cX12_box 153 = .ok (.iinc 7 1, 3) := by decide +kernel
theorem dX12_box_156 : decode cX12_box 156 = .ok (.goto (-110), 3) := by decide +kernel
theorem dX12_box_159 : decode cX12_box 159 = .ok (.iload 6, 2) := by decide +kernel
theorem dX12_box_161 : decode cX12_box 161 = .ok (.ireturn, 1) := by decide +kernel
theorem dX12_after_0 : decode cX12_after 0 = .ok (.aload_n 0, 1) := by decide +kernel
theorem dX12_after_1 : decode cX12_after 1 = .ok (.iconst 0, 1) := by decide +kernel
theorem dX12_after_2 : decode cX12_after 2 = .ok (.putfield 3, 3) := by decide +kernel
theorem dX12_after_5 : decode cX12_after 5 = .ok (.aload_n 0, 1) := by decide +kernel
theorem dX12_after_6 : decode cX12_after 6 = .ok (.iload_n 1, 1) := by decide +kernel
theorem dX12_after_7 : decode cX12_after 7 = .ok (.invokevirtual 131, 3) := by decide +kernel
theorem dX12_after_10 : decode cX12_after 10 = .ok (.ifCond .eq 24, 3) := by decide +kernel
theorem dX12_after_13 : decode cX12_after 13 = .ok (.aload_n 0, 1) := by decide +kernel
theorem dX12_after_14 : decode cX12_after 14 = .ok (.getfield 93, 3) := by decide +kernel
theorem dX12_after_17 : decode cX12_after 17 = .ok (.iload_n 1, 1) := by decide +kernel
theorem dX12_after_18 : decode cX12_after 18 = .ok (.baload, 1) := by decide +kernel
theorem dX12_after_19 : decode cX12_after 19 = .ok (.ifCond .eq 15, 3) := by decide +kernel
theorem dX12_after_22 : decode cX12_after 22 = .ok (.iload_n 2, 1) := by decide +kernel
theorem dX12_after_23 : decode cX12_after 23 = .ok (.i2l, 1) := by decide +kernel
theorem dX12_after_24 : decode cX12_after 24 = .ok (.lconst 0, 1) := by decide +kernel
theorem dX12_after_25 : decode cX12_after 25 = .ok (.ldc2_w 261, 3) := by decide +kernel
theorem dX12_after_28 : decode cX12_after 28 = .ok (.invokestatic 29, 3) := by decide +kernel
theorem dX12_after_31 : decode cX12_after 31 = .ok (.ifCond .ne 5, 3) := by decide +kernel
theorem dX12_after_34 : decode cX12_after 34 = .ok (.iconst (-1), 1) := by decide +kernel
theorem dX12_after_35 : decode cX12_after 35 = .ok (.ireturn, 1) := by decide +kernel
theorem dX12_after_36 : decode cX12_after 36 = .ok (.aload_n 0, 1) := by decide +kernel
theorem dX12_after_37 : decode cX12_after 37 = .ok (.getfield 96, 3) := by decide +kernel
theorem dX12_after_40 : decode cX12_after 40 = .ok (.iload_n 1, 1) := by decide +kernel
theorem dX12_after_41 : decode cX12_after 41 = .ok (.iaload, 1) := by decide +kernel
theorem dX12_after_42 : decode cX12_after 42 = .ok (.istore_n 3, 1) := by decide +kernel
theorem dX12_after_43 : decode cX12_after 43 = .ok (.aload_n 0, 1) := by decide +kernel
theorem dX12_after_44 : decode cX12_after 44 = .ok (.getfield 96, 3) := by decide +kernel
theorem dX12_after_47 : decode cX12_after 47 = .ok (.iload_n 1, 1) := by decide +kernel
theorem dX12_after_48 : decode cX12_after 48 = .ok (.iload_n 2, 1) := by decide +kernel
theorem dX12_after_49 : decode cX12_after 49 = .ok (.iastore, 1) := by decide +kernel
theorem dX12_after_50 : decode cX12_after 50 = .ok (.iload_n 3, 1) := by decide +kernel
theorem dX12_after_51 : decode cX12_after 51 = .ok (.ireturn, 1) := by decide +kernel
theorem dX12_seed_0 : decode cX12_seed 0 = .ok (.aload_n 0, 1) := by decide +kernel
theorem dX12_seed_1 : decode cX12_seed 1 = .ok (.iconst 0, 1) := by decide +kernel
theorem dX12_seed_2 : decode cX12_seed 2 = .ok (.putfield 3, 3) := by decide +kernel
theorem dX12_seed_5 : decode cX12_seed 5 = .ok (.aload_n 0, 1) := by decide +kernel
theorem dX12_seed_6 : decode cX12_seed 6 = .ok (.getfield 22, 3) := by decide +kernel
theorem dX12_seed_9 : decode cX12_seed 9 = .ok (.istore_n 2, 1) := by decide +kernel
theorem dX12_seed_10 : decode cX12_seed 10 = .ok (.aload_n 0, 1) := by decide +kernel
theorem dX12_seed_11 : decode cX12_seed 11 = .ok (.iload_n 1, 1) := by decide +kernel
theorem dX12_seed_12 : decode cX12_seed 12 = .ok (.putfield 22, 3) := by decide +kernel
theorem dX12_seed_15 : decode cX12_seed 15 = .ok (.iload_n 2, 1) := by decide +kernel
theorem dX12_seed_16 : decode cX12_seed 16 = .ok (.ireturn, 1) := by decide +kernel
theorem dX12_isFilter_0 : decode cX12_isFilter 0 = .ok (.iload_n 1, 1) := by decide +kernel
theorem dX12_isFilter_1 : decode cX12_isFilter 1 = .ok (.iconst (-1), 1) := by decide +kernel
theorem dX12_isFilter_2 : decode cX12_isFilter 2 = .ok (.if_icmp .eq 27, 3) := by decide +kernel
theorem dX12_isFilter_5 : decode cX12_isFilter 5 = .ok (.iload_n 1, 1) := by decide +kernel
theorem dX12_isFilter_6 : decode cX12_isFilter 6 = .ok (.i2l, 1) := by decide +kernel
theorem dX12_isFilter_7 : decode cX12_isFilter 7 = .ok (.lconst 0, 1) := by decide +kernel
theorem dX12_isFilter_8 : decode cX12_isFilter 8 = .ok (.ldc2_w 56, 3) := by decide +kernel
theorem dX12_isFilter_11 : decode cX12_isFilter 11 = .ok (.invokestatic 29, 3) := by decide +kernel
theorem dX12_isFilter_14 : decode cX12_isFilter 14 = .ok (.ifCond .eq 19, 3) := by decide +kernel
theorem dX12_isFilter_17 : decode cX12_isFilter 17 = .ok (.aload_n 0, 1) := by decide +kernel
theorem dX12_isFilter_18 : decode cX12_isFilter 18 = .ok (.getfield 168, 3) := by decide +kernel
theorem dX12_isFilter_21 : decode cX12_isFilter 21 = .ok (.bipush 6, 2) := by decide +kernel
theorem dX12_isFilter_23 : decode cX12_isFilter 23 = .ok (.iload_n 1, 1) := by decide +kernel
theorem dX12_isFilter_24 : decode cX12_isFilter 24 = .ok (.iadd, 1) := by decide +kernel
theorem dX12_isFilter_25 : decode cX12_isFilter 25 = .ok (.iaload, 1) := by decide +kernel
theorem dX12_isFilter_26 : decode cX12_isFilter 26 = .ok (.ifCond .le 7, 3) := by decide +kernel
theorem dX12_isFilter_29 : decode cX12_isFilter 29 = .ok (.iconst 1, 1) := by decide +kernel
theorem dX12_isFilter_30 : decode cX12_isFilter 30 = .ok (.goto 4, 3) := by decide +kernel
theorem dX12_isFilter_33 : decode cX12_isFilter 33 = .ok (.iconst 0, 1) := by decide +kernel
theorem dX12_isFilter_34 : decode cX12_isFilter 34 = .ok (.ireturn, 1) := by decide +kernel
theorem dX12_passes_0 : decode cX12_passes 0 = .ok (.aload_n 0, 1) := by decide +kernel
theorem dX12_passes_1 : decode cX12_passes 1 = .ok (.getfield 89, 3) := by decide +kernel
theorem dX12_passes_4 : decode cX12_passes 4 = .ok (.iload_n 2, 1) := by decide +kernel
theorem dX12_passes_5 : decode cX12_passes 5 = .ok (.baload, 1) := by decide +kernel
theorem dX12_passes_6 : decode cX12_passes 6 = .ok (.ifCond .eq 23, 3) := by decide +kernel
theorem dX12_passes_9 : decode cX12_passes 9 = .ok (.iload_n 1, 1) := by decide +kernel
theorem dX12_passes_10 : decode cX12_passes 10 = .ok (.ifCond .lt 15, 3) := by decide +kernel
theorem dX12_passes_13 : decode cX12_passes 13 = .ok (.aload_n 0, 1) := by decide +kernel
theorem dX12_passes_14 : decode cX12_passes 14 = .ok (.bipush 6, 2) := by decide +kernel
theorem dX12_passes_16 : decode cX12_passes 16 = .ok (.iload_n 1, 1) := by decide +kernel
theorem dX12_passes_17 : decode cX12_passes 17 = .ok (.iadd, 1) := by decide +kernel
theorem dX12_passes_18 : decode cX12_passes 18 = .ok (.iload_n 2, 1) := by decide +kernel
theorem dX12_passes_19 : decode cX12_passes 19 = .ok (.invokevirtual 256, 3) := by decide +kernel
theorem dX12_passes_22 : decode cX12_passes 22 = .ok (.ifCond .eq 7, 3) := by decide +kernel
theorem dX12_passes_25 : decode cX12_passes 25 = .ok (.iconst 1, 1) := by decide +kernel
theorem dX12_passes_26 : decode cX12_passes 26 = .ok (.goto 4, 3) := by decide +kernel
theorem dX12_passes_29 : decode cX12_passes 29 = .ok (.iconst 0, 1) := by decide +kernel
theorem dX12_passes_30 : decode cX12_passes 30 = .ok (.ireturn, 1) := by decide +kernel
theorem dX12_peopleOf_0 : decode cX12_peopleOf 0 = .ok (.aload_n 0, 1) := by decide +kernel
theorem dX12_peopleOf_1 : decode cX12_peopleOf 1 = .ok (.getfield 41, 3) := by decide +kernel
theorem dX12_peopleOf_4 : decode cX12_peopleOf 4 = .ok (.aload_n 0, 1) := by decide +kernel
theorem dX12_peopleOf_5 : decode cX12_peopleOf 5 = .ok (.getfield 74, 3) := by decide +kernel
theorem dX12_peopleOf_8 : decode cX12_peopleOf 8 = .ok (.iload_n 1, 1) := by decide +kernel
theorem dX12_peopleOf_9 : decode cX12_peopleOf 9 = .ok (.iaload, 1) := by decide +kernel
theorem dX12_peopleOf_10 : decode cX12_peopleOf 10 = .ok (.iaload, 1) := by decide +kernel
theorem dX12_peopleOf_11 : decode cX12_peopleOf 11 = .ok (.ireturn, 1) := by decide +kernel
theorem dX12_counts_0 : decode cX12_counts 0 = .ok (.iconst 0, 1) := by decide +kernel
theorem dX12_counts_1 : decode cX12_counts 1 = .ok (.istore_n 3, 1) := by decide +kernel
theorem dX12_counts_2 : decode cX12_counts 2 = .ok (.iload_n 3, 1) := by decide +kernel
theorem dX12_counts_3 : decode cX12_counts 3 = .ok (.iconst 2, 1) := by decide +kernel
theorem dX12_counts_4 : decode cX12_counts 4 = .ok (.if_icmp .ge 23, 3) := by decide +kernel
theorem dX12_counts_7 : decode cX12_counts 7 = .ok (.aload_n 0, 1) := by decide +kernel
theorem dX12_counts_8 : decode cX12_counts 8 = .ok (.getfield 263, 3) := by decide +kernel
theorem dX12_counts_11 : decode cX12_counts 11 = .ok (.iload_n 3, 1) := by decide +kernel
theorem dX12_counts_12 : decode cX12_counts 12 = .ok (.iconst 0, 1) := by decide +kernel
theorem dX12_counts_13 : decode cX12_counts 13 = .ok (.iastore, 1) := by decide +kernel
theorem dX12_counts_14 : decode cX12_counts 14 = .ok (.aload_n 0, 1) := by decide +kernel
theorem dX12_counts_15 : decode cX12_counts 15 = .ok (.getfield 266, 3) := by decide +kernel
theorem dX12_counts_18 : decode cX12_counts 18 = .ok (.iload_n 3, 1) := by decide +kernel
theorem dX12_counts_19 : decode cX12_counts 19 = .ok (.iconst 0, 1) := by decide +kernel
theorem dX12_counts_20 : decode cX12_counts 20 = .ok (.iastore, 1) := by decide +kernel
theorem dX12_counts_21 : decode cX12_counts 21 = .ok (.iinc 3 1, 3) := by decide +kernel
theorem dX12_counts_24 : decode cX12_counts 24 = .ok (.goto (-22), 3) := by decide +kernel
theorem dX12_counts_27 : decode cX12_counts 27 = .ok (.iconst 0, 1) := by decide +kernel
theorem dX12_counts_28 : decode cX12_counts 28 = .ok (.istore_n 3, 1) := by decide +kernel
theorem dX12_counts_29 : decode cX12_counts 29 = .ok (.iload_n 3, 1) := by decide +kernel
theorem dX12_counts_30 : decode cX12_counts 30 = .ok (.aload_n 0, 1) := by decide +kernel
theorem dX12_counts_31 : decode cX12_counts 31 = .ok (.getfield 36, 3) := by decide +kernel
theorem dX12_counts_34 : decode cX12_counts 34 = .ok (.if_icmp .ge 64, 3) := by decide +kernel
theorem dX12_counts_37 : decode cX12_counts 37 = .ok (.aload_n 0, 1) := by decide +kernel
theorem dX12_counts_38 : decode cX12_counts 38 = .ok (.getfield 67, 3) := by decide +kernel
theorem dX12_counts_41 : decode cX12_counts 41 = .ok (.iload_n 3, 1) := by decide +kernel
theorem dX12_counts_42 : decode cX12_counts 42 = .ok (.iaload, 1) := by decide +kernel
theorem dX12_counts_43 : decode cX12_counts 43 = .ok (.iload_n 2, 1) := by decide +kernel
theorem dX12_counts_44 : decode cX12_counts 44 = .ok (.if_icmp .eq 48, 3) := by decide +kernel
theorem dX12_counts_47 : decode cX12_counts 47 = .ok (.aload_n 0, 1) := by decide +kernel
theorem dX12_counts_48 : decode cX12_counts 48 = .ok (.iload_n 1, 1) := by decide +kernel
theorem dX12_counts_49 : decode cX12_counts 49 = .ok (.iload_n 3, 1) := by decide +kernel
theorem dX12_counts_50 : decode cX12_counts 50 = .ok (.invokevirtual 269, 3) := by decide +kernel
theorem dX12_counts_53 : decode cX12_counts 53 = .ok (.ifCond .eq 39, 3) := by decide +kernel
theorem dX12_counts_56 : decode cX12_counts 56 = .ok (.aload_n 0, 1) := by decide +kernel
theorem dX12_counts_57 : decode cX12_counts 57 = .ok (.getfield 263, 3) := by decide +kernel
theorem dX12_counts_60 : decode cX12_counts 60 = .ok (.aload_n 0, 1) := by decide +kernel
theorem dX12_counts_61 : decode cX12_counts 61 = .ok (.iload_n 3, 1) := by decide +kernel
theorem dX12_counts_62 : decode cX12_counts 62 = .ok (.invokevirtual 273, 3) := by decide +kernel
theorem dX12_counts_65 : decode cX12_counts 65 = .ok (.dup2, 1) := by decide +kernel
theorem dX12_counts_66 : decode cX12_counts 66 = .ok (.iaload, 1) := by decide +kernel
theorem dX12_counts_67 : decode cX12_counts 67 = .ok (.iconst 1, 1) := by decide +kernel
theorem dX12_counts_68 : decode cX12_counts 68 = .ok (.iadd, 1) := by decide +kernel
theorem dX12_counts_69 : decode cX12_counts 69 = .ok (.iastore, 1) := by decide +kernel
theorem dX12_counts_70 : decode cX12_counts 70 = .ok (.aload_n 0, 1) := by decide +kernel
theorem dX12_counts_71 : decode cX12_counts 71 = .ok (.getfield 266, 3) := by decide +kernel
theorem dX12_counts_74 : decode cX12_counts 74 = .ok (.aload_n 0, 1) := by decide +kernel
theorem dX12_counts_75 : decode cX12_counts 75 = .ok (.iload_n 3, 1) := by decide +kernel
theorem dX12_counts_76 : decode cX12_counts 76 = .ok (.invokevirtual 273, 3) := by decide +kernel
theorem dX12_counts_79 : decode cX12_counts 79 = .ok (.dup2, 1) := by decide +kernel
theorem dX12_counts_80 : decode cX12_counts 80 = .ok (.iaload, 1) := by decide +kernel
theorem dX12_counts_81 : decode cX12_counts 81 = .ok (.aload_n 0, 1) := by decide +kernel
theorem dX12_counts_82 : decode cX12_counts 82 = .ok (.getfield 93, 3) := by decide +kernel
theorem dX12_counts_85 : decode cX12_counts 85 = .ok (.iload_n 3, 1) := by decide +kernel
theorem dX12_counts_86 : decode cX12_counts 86 = .ok (.baload, 1) := by decide +kernel
theorem dX12_counts_87 : decode cX12_counts 87 = .ok (.invokestatic 70, 3) := by decide +kernel
theorem dX12_counts_90 : decode cX12_counts 90 = .ok (.iadd, 1) := by decide +kernel
theorem dX12_counts_91 : decode cX12_counts 91 = .ok (.iastore, 1) := by decide +kernel
theorem dX12_counts_92 : decode cX12_counts 92 = .ok (.iinc 3 1, 3) := by decide +kernel
theorem dX12_counts_95 : decode cX12_counts 95 = .ok (.goto (-66), 3) := by decide +kernel
theorem dX12_counts_98 : decode cX12_counts 98 = .ok (.return_, 1) := by decide +kernel
theorem dX12_share_0 : decode cX12_share 0 = .ok (.aload_n 0, 1) := by decide +kernel
theorem dX12_share_1 : decode cX12_share 1 = .ok (.iconst 0, 1) := by decide +kernel
theorem dX12_share_2 : decode cX12_share 2 = .ok (.putfield 3, 3) := by decide +kernel
theorem dX12_share_5 : decode cX12_share 5 = .ok (.aload_n 0, 1) := by decide +kernel
theorem dX12_share_6 : decode cX12_share 6 = .ok (.iload_n 1, 1) := by decide +kernel
theorem dX12_share_7 : decode cX12_share 7 = .ok (.invokevirtual 276, 3) := by decide +kernel
theorem dX12_share_10 : decode cX12_share 10 = .ok (.ifCond .ne 5, 3) := by decide +kernel
theorem dX12_share_13 : decode cX12_share 13 = .ok (.iconst (-1), 1) := by decide +kernel
theorem dX12_share_14 : decode cX12_share 14 = .ok (.ireturn, 1) := by decide +kernel
theorem dX12_share_15 : decode cX12_share 15 = .ok (.aload_n 0, 1) := by decide +kernel
theorem dX12_share_16 : decode cX12_share 16 = .ok (.iload_n 1, 1) := by decide +kernel
theorem dX12_share_17 : decode cX12_share 17 = .ok (.iconst (-1), 1) := by decide +kernel
theorem dX12_share_18 : decode cX12_share 18 = .ok (.invokevirtual 279, 3) := by decide +kernel
theorem dX12_share_21 : decode cX12_share 21 = .ok (.aload_n 0, 1) := by decide +kernel
theorem dX12_share_22 : decode cX12_share 22 = .ok (.iconst 0, 1) := by decide +kernel
theorem dX12_share_23 : decode cX12_share 23 = .ok (.putfield 11, 3) := by decide +kernel
theorem dX12_share_26 : decode cX12_share 26 = .ok (.aload_n 0, 1) := by decide +kernel
theorem dX12_share_27 : decode cX12_share 27 = .ok (.getfield 263, 3) := by decide +kernel
theorem dX12_share_30 : decode cX12_share 30 = .ok (.iconst 0, 1) := by decide +kernel
theorem dX12_share_31 : decode cX12_share 31 = .ok (.iaload, 1) := by decide +kernel
theorem dX12_share_32 : decode cX12_share 32 = .ok (.aload_n 0, 1) := by decide +kernel
theorem dX12_share_33 : decode cX12_share 33 = .ok (.getfield 263, 3) := by decide +kernel
theorem dX12_share_36 : decode cX12_share 36 = .ok (.iconst 1, 1) := by decide +kernel
theorem dX12_share_37 : decode cX12_share 37 = .ok (.iaload, 1) := by decide +kernel
theorem dX12_share_38 : decode cX12_share 38 = .ok (.iadd, 1) := by decide +kernel
theorem dX12_share_39 : decode cX12_share 39 = .ok (.ifCond .le 35, 3) := by decide +kernel
theorem dX12_share_42 : decode cX12_share 42 = .ok (.aload_n 0, 1) := by decide +kernel
theorem dX12_share_43 : decode cX12_share 43 = .ok (.aload_n 0, 1) := by decide +kernel
theorem dX12_share_44 : decode cX12_share 44 = .ok (.getfield 266, 3) := by decide +kernel
theorem dX12_share_47 : decode cX12_share 47 = .ok (.iconst 0, 1) := by decide +kernel
theorem dX12_share_48 : decode cX12_share 48 = .ok (.iaload, 1) := by decide +kernel
theorem dX12_share_49 : decode cX12_share 49 = .ok (.aload_n 0, 1) := by decide +kernel
theorem dX12_share_50 : decode cX12_share 50 = .ok (.getfield 266, 3) := by decide +kernel
theorem dX12_share_53 : decode cX12_share 53 = .ok (.iconst 1, 1) := by decide +kernel
theorem dX12_share_54 : decode cX12_share 54 = .ok (.iaload, 1) := by decide +kernel
theorem dX12_share_55 : decode cX12_share 55 = .ok (.iadd, 1) := by decide +kernel
theorem dX12_share_56 : decode cX12_share 56 = .ok (.i2l, 1) := by decide +kernel
theorem dX12_share_57 : decode cX12_share 57 = .ok (.aload_n 0, 1) := by decide +kernel
theorem dX12_share_58 : decode cX12_share 58 = .ok (.getfield 263, 3) := by decide +kernel
theorem dX12_share_61 : decode cX12_share 61 = .ok (.iconst 0, 1) := by decide +kernel
theorem dX12_share_62 : decode cX12_share 62 = .ok (.iaload, 1) := by decide +kernel
theorem dX12_share_63 : decode cX12_share 63 = .ok (.aload_n 0, 1) := by decide +kernel
theorem dX12_share_64 : decode cX12_share 64 = .ok (.getfield 263, 3) := by decide +kernel
theorem dX12_share_67 : decode cX12_share 67 = .ok (.iconst 1, 1) := by decide +kernel
theorem dX12_share_68 : decode cX12_share 68 = .ok (.iaload, 1) := by decide +kernel
theorem dX12_share_69 : decode cX12_share 69 = .ok (.iadd, 1) := by decide +kernel
theorem dX12_share_70 : decode cX12_share 70 = .ok (.i2l, 1) := by decide +kernel
theorem dX12_share_71 : decode cX12_share 71 = .ok (.invokevirtual 283, 3) := by decide +kernel
theorem dX12_share_74 : decode cX12_share 74 = .ok (.aload_n 0, 1) := by decide +kernel
theorem dX12_share_75 : decode cX12_share 75 = .ok (.getfield 263, 3) := by decide +kernel
theorem dX12_share_78 : decode cX12_share 78 = .ok (.iconst 0, 1) := by decide +kernel
theorem dX12_share_79 : decode cX12_share 79 = .ok (.iaload, 1) := by decide +kernel
theorem dX12_share_80 : decode cX12_share 80 = .ok (.aload_n 0, 1) := by decide +kernel
theorem dX12_share_81 : decode cX12_share 81 = .ok (.getfield 263, 3) := by decide +kernel
theorem dX12_share_84 : decode cX12_share 84 = .ok (.iconst 1, 1) := by decide +kernel
theorem dX12_share_85 : decode cX12_share 85 = .ok (.iaload, 1) := by decide +kernel
theorem dX12_share_86 : decode cX12_share 86 = .ok (.iadd, 1) := by decide +kernel
theorem dX12_share_87 : decode cX12_share 87 = .ok (.ireturn, 1) := by decide +kernel
theorem dX12_areBoth_0 : decode cX12_areBoth 0 = .ok (.aload_n 0, 1) := by decide +kernel
theorem dX12_areBoth_1 : decode cX12_areBoth 1 = .ok (.getfield 263, 3) := by decide +kernel
theorem dX12_areBoth_4 : decode cX12_areBoth 4 = .ok (.iconst 0, 1) := by decide +kernel
theorem dX12_areBoth_5 : decode cX12_areBoth 5 = .ok (.iaload, 1) := by decide +kernel
theorem dX12_areBoth_6 : decode cX12_areBoth 6 = .ok (.ifCond .le 16, 3) := by decide +kernel
theorem dX12_areBoth_9 : decode cX12_areBoth 9 = .ok (.aload_n 0, 1) := by decide +kernel
theorem dX12_areBoth_10 : decode cX12_areBoth 10 = .ok (.getfield 263, 3) := by decide +kernel
theorem dX12_areBoth_13 : decode cX12_areBoth 13 = .ok (.iconst 1, 1) := by decide +kernel
theorem dX12_areBoth_14 : decode cX12_areBoth 14 = .ok (.iaload, 1) := by decide +kernel
theorem dX12_areBoth_15 : decode cX12_areBoth 15 = .ok (.ifCond .le 7, 3) := by decide +kernel
theorem dX12_areBoth_18 : decode cX12_areBoth 18 = .ok (.iconst 1, 1) := by decide +kernel
theorem dX12_areBoth_19 : decode cX12_areBoth 19 = .ok (.goto 4, 3) := by decide +kernel
theorem dX12_areBoth_22 : decode cX12_areBoth 22 = .ok (.iconst 0, 1) := by decide +kernel
theorem dX12_areBoth_23 : decode cX12_areBoth 23 = .ok (.ireturn, 1) := by decide +kernel
theorem dX12_aside_0 : decode cX12_aside 0 = .ok (.aload_n 0, 1) := by decide +kernel
theorem dX12_aside_1 : decode cX12_aside 1 = .ok (.iconst 0, 1) := by decide +kernel
theorem dX12_aside_2 : decode cX12_aside 2 = .ok (.putfield 3, 3) := by decide +kernel
theorem dX12_aside_5 : decode cX12_aside 5 = .ok (.aload_n 0, 1) := by decide +kernel
theorem dX12_aside_6 : decode cX12_aside 6 = .ok (.iload_n 1, 1) := by decide +kernel
theorem dX12_aside_7 : decode cX12_aside 7 = .ok (.invokevirtual 276, 3) := by decide +kernel
theorem dX12_aside_10 : decode cX12_aside 10 = .ok (.ifCond .ne 5, 3) := by decide +kernel
theorem dX12_aside_13 : decode cX12_aside 13 = .ok (.iconst (-1), 1) := by decide +kernel
theorem dX12_aside_14 : decode cX12_aside 14 = .ok (.ireturn, 1) := by decide +kernel
theorem dX12_aside_15 : decode cX12_aside 15 = .ok (.aload_n 0, 1) := by decide +kernel
theorem dX12_aside_16 : decode cX12_aside 16 = .ok (.iload_n 1, 1) := by decide +kernel
theorem dX12_aside_17 : decode cX12_aside 17 = .ok (.iconst (-1), 1) := by decide +kernel
theorem dX12_aside_18 : decode cX12_aside 18 = .ok (.invokevirtual 279, 3) := by decide +kernel
theorem dX12_aside_21 : decode cX12_aside 21 = .ok (.aload_n 0, 1) := by decide +kernel
theorem dX12_aside_22 : decode cX12_aside 22 = .ok (.invokevirtual 287, 3) := by decide +kernel
theorem dX12_aside_25 : decode cX12_aside 25 = .ok (.ifCond .ne 6, 3) := by decide +kernel
theorem dX12_aside_28 : decode cX12_aside 28 = .ok (.bipush (-2), 2) := by decide +kernel
theorem dX12_aside_30 : decode cX12_aside 30 = .ok (.ireturn, 1) := by decide +kernel
theorem dX12_aside_31 : decode cX12_aside 31 = .ok (.aload_n 0, 1) := by decide +kernel
theorem dX12_aside_32 : decode cX12_aside 32 = .ok (.iconst 0, 1) := by decide +kernel
theorem dX12_aside_33 : decode cX12_aside 33 = .ok (.putfield 11, 3) := by decide +kernel
theorem dX12_aside_36 : decode cX12_aside 36 = .ok (.aload_n 0, 1) := by decide +kernel
theorem dX12_aside_37 : decode cX12_aside 37 = .ok (.aload_n 0, 1) := by decide +kernel
theorem dX12_aside_38 : decode cX12_aside 38 = .ok (.getfield 266, 3) := by decide +kernel
theorem dX12_aside_41 : decode cX12_aside 41 = .ok (.iconst 0, 1) := by decide +kernel
theorem dX12_aside_42 : decode cX12_aside 42 = .ok (.iaload, 1) := by decide +kernel
theorem dX12_aside_43 : decode cX12_aside 43 = .ok (.aload_n 0, 1) := by decide +kernel
theorem dX12_aside_44 : decode cX12_aside 44 = .ok (.getfield 263, 3) := by decide +kernel
theorem dX12_aside_47 : decode cX12_aside 47 = .ok (.iconst 1, 1) := by decide +kernel
theorem dX12_aside_48 : decode cX12_aside 48 = .ok (.iaload, 1) := by decide +kernel
theorem dX12_aside_49 : decode cX12_aside 49 = .ok (.imul, 1) := by decide +kernel
theorem dX12_aside_50 : decode cX12_aside 50 = .ok (.aload_n 0, 1) := by decide +kernel
theorem dX12_aside_51 : decode cX12_aside 51 = .ok (.getfield 266, 3) := by decide +kernel
theorem dX12_aside_54 : decode cX12_aside 54 = .ok (.iconst 1, 1) := by decide +kernel
theorem dX12_aside_55 : decode cX12_aside 55 = .ok (.iaload, 1) := by decide +kernel
theorem dX12_aside_56 : decode cX12_aside 56 = .ok (.aload_n 0, 1) := by decide +kernel
theorem dX12_aside_57 : decode cX12_aside 57 = .ok (.getfield 263, 3) := by decide +kernel
theorem dX12_aside_60 : decode cX12_aside 60 = .ok (.iconst 0, 1) := by decide +kernel
theorem dX12_aside_61 : decode cX12_aside 61 = .ok (.iaload, 1) := by decide +kernel
theorem dX12_aside_62 : decode cX12_aside 62 = .ok (.imul, 1) := by decide +kernel
theorem dX12_aside_63 : decode cX12_aside 63 = .ok (.isub, 1) := by decide +kernel
theorem dX12_aside_64 : decode cX12_aside 64 = .ok (.i2l, 1) := by decide +kernel
theorem dX12_aside_65 : decode cX12_aside 65 = .ok (.aload_n 0, 1) := by decide +kernel
theorem dX12_aside_66 : decode cX12_aside 66 = .ok (.getfield 263, 3) := by decide +kernel
theorem dX12_aside_69 : decode cX12_aside 69 = .ok (.iconst 0, 1) := by decide +kernel
theorem dX12_aside_70 : decode cX12_aside 70 = .ok (.iaload, 1) := by decide +kernel
theorem dX12_aside_71 : decode cX12_aside 71 = .ok (.i2l, 1) := by decide +kernel
theorem dX12_aside_72 : decode cX12_aside 72 = .ok (.aload_n 0, 1) := by decide +kernel
theorem dX12_aside_73 : decode cX12_aside 73 = .ok (.getfield 263, 3) := by decide +kernel
theorem dX12_aside_76 : decode cX12_aside 76 = .ok (.iconst 1, 1) := by decide +kernel
theorem dX12_aside_77 : decode cX12_aside 77 = .ok (.iaload, 1) := by decide +kernel
theorem dX12_aside_78 : decode cX12_aside 78 = .ok (.i2l, 1) := by decide +kernel
theorem dX12_aside_79 : decode cX12_aside 79 = .ok (.lmul, 1) := by decide +kernel
theorem dX12_aside_80 : decode cX12_aside 80 = .ok (.invokevirtual 283, 3) := by decide +kernel
theorem dX12_aside_83 : decode cX12_aside 83 = .ok (.aload_n 0, 1) := by decide +kernel
theorem dX12_aside_84 : decode cX12_aside 84 = .ok (.aload_n 0, 1) := by decide +kernel
theorem dX12_aside_85 : decode cX12_aside 85 = .ok (.getfield 263, 3) := by decide +kernel
theorem dX12_aside_88 : decode cX12_aside 88 = .ok (.iconst 0, 1) := by decide +kernel
theorem dX12_aside_89 : decode cX12_aside 89 = .ok (.iaload, 1) := by decide +kernel
theorem dX12_aside_90 : decode cX12_aside 90 = .ok (.i2l, 1) := by decide +kernel
theorem dX12_aside_91 : decode cX12_aside 91 = .ok (.invokevirtual 18, 3) := by decide +kernel
theorem dX12_aside_94 : decode cX12_aside 94 = .ok (.aload_n 0, 1) := by decide +kernel
theorem dX12_aside_95 : decode cX12_aside 95 = .ok (.aload_n 0, 1) := by decide +kernel
theorem dX12_aside_96 : decode cX12_aside 96 = .ok (.getfield 266, 3) := by decide +kernel
theorem dX12_aside_99 : decode cX12_aside 99 = .ok (.iconst 0, 1) := by decide +kernel
theorem dX12_aside_100 : decode cX12_aside 100 = .ok (.iaload, 1) := by decide +kernel
theorem dX12_aside_101 : decode cX12_aside 101 = .ok (.i2l, 1) := by decide +kernel
theorem dX12_aside_102 : decode cX12_aside 102 = .ok (.invokevirtual 18, 3) := by decide +kernel
theorem dX12_aside_105 : decode cX12_aside 105 = .ok (.aload_n 0, 1) := by decide +kernel
theorem dX12_aside_106 : decode cX12_aside 106 = .ok (.aload_n 0, 1) := by decide +kernel
theorem dX12_aside_107 : decode cX12_aside 107 = .ok (.getfield 263, 3) := by decide +kernel
theorem dX12_aside_110 : decode cX12_aside 110 = .ok (.iconst 1, 1) := by decide +kernel
theorem dX12_aside_111 : decode cX12_aside 111 = .ok (.iaload, 1) := by decide +kernel
theorem dX12_aside_112 : decode cX12_aside 112 = .ok (.i2l, 1) := by decide +kernel
theorem dX12_aside_113 : decode cX12_aside 113 = .ok (.invokevirtual 18, 3) := by decide +kernel
theorem dX12_aside_116 : decode cX12_aside 116 = .ok (.aload_n 0, 1) := by decide +kernel
theorem dX12_aside_117 : decode cX12_aside 117 = .ok (.aload_n 0, 1) := by decide +kernel
theorem dX12_aside_118 : decode cX12_aside 118 = .ok (.getfield 266, 3) := by decide +kernel
theorem dX12_aside_121 : decode cX12_aside 121 = .ok (.iconst 1, 1) := by decide +kernel
theorem dX12_aside_122 : decode cX12_aside 122 = .ok (.iaload, 1) := by decide +kernel
theorem dX12_aside_123 : decode cX12_aside 123 = .ok (.i2l, 1) := by decide +kernel
theorem dX12_aside_124 : decode cX12_aside 124 = .ok (.invokevirtual 18, 3) := by decide +kernel
theorem dX12_aside_127 : decode cX12_aside 127 = .ok (.iconst 0, 1) := by decide +kernel
theorem dX12_aside_128 : decode cX12_aside 128 = .ok (.ireturn, 1) := by decide +kernel
theorem dX12_choices_0 : decode cX12_choices 0 = .ok (.iload_n 1, 1) := by decide +kernel
theorem dX12_choices_1 : decode cX12_choices 1 = .ok (.ifCond .lt 8, 3) := by decide +kernel
theorem dX12_choices_4 : decode cX12_choices 4 = .ok (.iload_n 1, 1) := by decide +kernel
theorem dX12_choices_5 : decode cX12_choices 5 = .ok (.iload_n 0, 1) := by decide +kernel
theorem dX12_choices_6 : decode cX12_choices 6 = .ok (.if_icmp .le 5, 3) := by decide +kernel
theorem dX12_choices_9 : decode cX12_choices 9 = .ok (.lconst 0, 1) := by decide +kernel
theorem dX12_choices_10 : decode cX12_choices 10 = .ok (.lreturn, 1) := by decide +kernel
theorem dX12_choices_11 : decode cX12_choices 11 = .ok (.lconst 1, 1) := by decide +kernel
theorem dX12_choices_12 : decode cX12_choices 12 = .ok (.lstore_n 2, 1) := by decide +kernel
theorem dX12_choices_13 : decode cX12_choices 13 = .ok (.iconst 1, 1) := by decide +kernel
theorem dX12_choices_14 : decode cX12_choices 14 = .ok (.istore 4, 2) := by decide +kernel
theorem dX12_choices_16 : decode cX12_choices 16 = .ok (.iload 4, 2) := by decide +kernel
theorem dX12_choices_18 : decode cX12_choices 18 = .ok (.iload_n 1, 1) := by decide +kernel
theorem dX12_choices_19 : decode cX12_choices 19 = .ok (.if_icmp .gt 23, 3) := by decide +kernel
theorem dX12_choices_22 : decode cX12_choices 22 = .ok (.lload_n 2, 1) := by decide +kernel
theorem dX12_choices_23 : decode cX12_choices 23 = .ok (.iload_n 0, 1) := by decide +kernel
theorem dX12_choices_24 : decode cX12_choices 24 = .ok (.iload_n 1, 1) := by decide +kernel
theorem dX12_choices_25 : decode cX12_choices 25 = .ok (.isub, 1) := by decide +kernel
theorem dX12_choices_26 : decode cX12_choices 26 = .ok (.iload 4, 2) := by decide +kernel
theorem dX12_choices_28 : decode cX12_choices 28 = .ok (.iadd, 1) := by decide +kernel
theorem dX12_choices_29 : decode cX12_choices 29 = .ok (.i2l, 1) := by decide +kernel
theorem dX12_choices_30 : decode cX12_choices 30 = .ok (.lmul, 1) := by decide +kernel
theorem dX12_choices_31 : decode cX12_choices 31 = .ok (.iload 4, 2) := by decide +kernel
theorem dX12_choices_33 : decode cX12_choices 33 = .ok (.i2l, 1) := by decide +kernel
theorem dX12_choices_34 : decode cX12_choices 34 = .ok (.ldiv, 1) := by decide +kernel
theorem dX12_choices_35 : decode cX12_choices 35 = .ok (.lstore_n 2, 1) := by decide +kernel
theorem dX12_choices_36 : decode cX12_choices 36 = .ok (.iinc 4 1, 3) := by decide +kernel
theorem dX12_choices_39 : decode cX12_choices 39 = .ok (.goto (-23), 3) := by decide +kernel
theorem dX12_choices_42 : decode cX12_choices 42 = .ok (.lload_n 2, 1) := by decide +kernel
theorem dX12_choices_43 : decode cX12_choices 43 = .ok (.lreturn, 1) := by decide +kernel
theorem dX12_odds_0 : decode cX12_odds 0 = .ok (.aload_n 0, 1) := by decide +kernel
theorem dX12_odds_1 : decode cX12_odds 1 = .ok (.iconst 0, 1) := by decide +kernel
theorem dX12_odds_2 : decode cX12_odds 2 = .ok (.putfield 3, 3) := by decide +kernel
theorem dX12_odds_5 : decode cX12_odds 5 = .ok (.aload_n 0, 1) := by decide +kernel
theorem dX12_odds_6 : decode cX12_odds 6 = .ok (.iload_n 1, 1) := by decide +kernel
theorem dX12_odds_7 : decode cX12_odds 7 = .ok (.invokevirtual 276, 3) := by decide +kernel
theorem dX12_odds_10 : decode cX12_odds 10 = .ok (.ifCond .eq 15, 3) := by decide +kernel
theorem dX12_odds_13 : decode cX12_odds 13 = .ok (.iload_n 2, 1) := by decide +kernel
theorem dX12_odds_14 : decode cX12_odds 14 = .ok (.i2l, 1) := by decide +kernel
theorem dX12_odds_15 : decode cX12_odds 15 = .ok (.lconst 0, 1) := by decide +kernel
theorem dX12_odds_16 : decode cX12_odds 16 = .ok (.ldc2_w 261, 3) := by decide +kernel
theorem dX12_odds_19 : decode cX12_odds 19 = .ok (.invokestatic 29, 3) := by decide +kernel
theorem dX12_odds_22 : decode cX12_odds 22 = .ok (.ifCond .ne 5, 3) := by decide +kernel
theorem dX12_odds_25 : decode cX12_odds 25 = .ok (.iconst (-1), 1) := by decide +kernel
theorem dX12_odds_26 : decode cX12_odds 26 = .ok (.ireturn, 1) := by decide +kernel
theorem dX12_odds_27 : decode cX12_odds 27 = .ok (.iconst 0, 1) := by decide +kernel
theorem dX12_odds_28 : decode cX12_odds 28 = .ok (.istore_n 3, 1) := by decide +kernel
theorem dX12_odds_29 : decode cX12_odds 29 = .ok (.iload_n 3, 1) := by decide +kernel
theorem dX12_odds_30 : decode cX12_odds 30 = .ok (.aload_n 0, 1) := by decide +kernel
theorem dX12_odds_31 : decode cX12_odds 31 = .ok (.getfield 290, 3) := by decide +kernel
theorem dX12_odds_34 : decode cX12_odds 34 = .ok (.arraylength, 1) := by decide +kernel
theorem dX12_odds_35 : decode cX12_odds 35 = .ok (.if_icmp .ge 28, 3) := by decide +kernel
theorem dX12_odds_38 : decode cX12_odds 38 = .ok (.aload_n 0, 1) := by decide +kernel
theorem dX12_odds_39 : decode cX12_odds 39 = .ok (.getfield 290, 3) := by decide +kernel
theorem dX12_odds_42 : decode cX12_odds 42 = .ok (.iload_n 3, 1) := by decide +kernel
theorem dX12_odds_43 : decode cX12_odds 43 = .ok (.iload_n 3, 1) := by decide +kernel
theorem dX12_odds_44 : decode cX12_odds 44 = .ok (.ifCond .ne 7, 3) := by decide +kernel
theorem dX12_odds_47 : decode cX12_odds 47 = .ok (.iconst 1, 1) := by decide +kernel
theorem dX12_odds_48 : decode cX12_odds 48 = .ok (.goto 4, 3) := by decide +kernel
theorem dX12_odds_51 : decode cX12_odds 51 = .ok (.iconst 0, 1) := by decide +kernel
theorem dX12_odds_52 : decode cX12_odds 52 = .ok (.invokestatic 70, 3) := by decide +kernel
theorem dX12_odds_55 : decode cX12_odds 55 = .ok (.i2l, 1) := by decide +kernel
theorem dX12_odds_56 : decode cX12_odds 56 = .ok (.lastore, 1) := by decide +kernel
theorem dX12_odds_57 : decode cX12_odds 57 = .ok (.iinc 3 1, 3) := by decide +kernel
theorem dX12_odds_60 : decode cX12_odds 60 = .ok (.goto (-31), 3) := by decide +kernel
theorem dX12_odds_63 : decode cX12_odds 63 = .ok (.iconst 0, 1) := by decide +kernel
theorem dX12_odds_64 : decode cX12_odds 64 = .ok (.istore_n 3, 1) := by decide +kernel
theorem dX12_odds_65 : decode cX12_odds 65 = .ok (.iconst 0, 1) := by decide +kernel
theorem dX12_odds_66 : decode cX12_odds 66 = .ok (.istore 4, 2) := by decide +kernel
theorem dX12_odds_68 : decode cX12_odds 68 = .ok (.iload 4, 2) := by decide +kernel
theorem dX12_odds_70 : decode cX12_odds 70 = .ok (.aload_n 0, 1) := by decide +kernel
theorem dX12_odds_71 : decode cX12_odds 71 = .ok (.getfield 33, 3) := by decide +kernel
theorem dX12_odds_74 : decode cX12_odds 74 = .ok (.if_icmp .ge 230, 3) := by decide +kernel
theorem dX12_odds_77 : decode cX12_odds 77 = .ok (.iconst 0, 1) := by decide +kernel
theorem dX12_odds_78 : decode cX12_odds 78 = .ok (.istore 5, 2) := by decide +kernel
theorem dX12_odds_80 : decode cX12_odds 80 = .ok (.iconst 0, 1) := by decide +kernel
theorem dX12_odds_81 : decode cX12_odds 81 = .ok (.istore 6, 2) := by decide +kernel
theorem dX12_odds_83 : decode cX12_odds 83 = .ok (.iconst 0, 1) := by decide +kernel
theorem dX12_odds_84 : decode cX12_odds 84 = .ok (.istore 7, 2) := by decide +kernel
theorem dX12_odds_86 : decode cX12_odds 86 = .ok (.iconst 0, 1) := by decide +kernel
theorem dX12_odds_87 : decode cX12_odds 87 = .ok (.istore 8, 2) := by decide +kernel
theorem dX12_odds_89 : decode cX12_odds 89 = .ok (.iload 8, 2) := by decide +kernel
theorem dX12_odds_91 : decode cX12_odds 91 = .ok (.aload_n 0, 1) := by decide +kernel
theorem dX12_odds_92 : decode cX12_odds 92 = .ok (.getfield 36, 3) := by decide +kernel
theorem dX12_odds_95 : decode cX12_odds 95 = .ok (.if_icmp .ge 80, 3) := by decide +kernel
theorem dX12_odds_98 : decode cX12_odds 98 = .ok (.aload_n 0, 1) := by decide +kernel
theorem dX12_odds_99 : decode cX12_odds 99 = .ok (.getfield 67, 3) := by decide +kernel
theorem dX12_odds_102 : decode cX12_odds 102 = .ok (.iload 8, 2) := by decide +kernel
theorem dX12_odds_104 : decode cX12_odds 104 = .ok (.iaload, 1) := by decide +kernel
theorem dX12_odds_105 : decode cX12_odds 105 = .ok (.iload 4, 2) := by decide +kernel
theorem dX12_odds_107 : decode cX12_odds 107 = .ok (.if_icmp .ne 62, 3) := by decide +kernel
theorem dX12_odds_110 : decode cX12_odds 110 = .ok (.aload_n 0, 1) := by decide +kernel
theorem dX12_odds_111 : decode cX12_odds 111 = .ok (.iload_n 1, 1) := by decide +kernel
theorem dX12_odds_112 : decode cX12_odds 112 = .ok (.iload 8, 2) := by decide +kernel
theorem dX12_odds_114 : decode cX12_odds 114 = .ok (.invokevirtual 269, 3) := by decide +kernel
theorem dX12_odds_117 : decode cX12_odds 117 = .ok (.ifCond .eq 52, 3) := by decide +kernel
theorem dX12_odds_120 : decode cX12_odds 120 = .ok (.iinc 5 1, 3) := by decide +kernel
theorem dX12_odds_123 : decode cX12_odds 123 = .ok (.iload 6, 2) := by decide +kernel
theorem dX12_odds_125 : decode cX12_odds 125 = .ok (.aload_n 0, 1) := by decide +kernel
theorem dX12_odds_126 : decode cX12_odds 126 = .ok (.iload 8, 2) := by decide +kernel
theorem dX12_odds_128 : decode cX12_odds 128 = .ok (.invokevirtual 273, 3) := by decide +kernel
theorem dX12_odds_131 : decode cX12_odds 131 = .ok (.iadd, 1) := by decide +kernel
theorem dX12_odds_132 : decode cX12_odds 132 = .ok (.istore 6, 2) := by decide +kernel
theorem dX12_odds_134 : decode cX12_odds 134 = .ok (.iload 7, 2) := by decide +kernel
theorem dX12_odds_136 : decode cX12_odds 136 = .ok (.aload_n 0, 1) := by decide +kernel
theorem dX12_odds_137 : decode cX12_odds 137 = .ok (.getfield 93, 3) := by decide +kernel
theorem dX12_odds_140 : decode cX12_odds 140 = .ok (.iload 8, 2) := by decide +kernel
theorem dX12_odds_142 : decode cX12_odds 142 = .ok (.baload, 1) := by decide +kernel
theorem dX12_odds_143 : decode cX12_odds 143 = .ok (.invokestatic 70, 3) := by decide +kernel
theorem dX12_odds_146 : decode cX12_odds 146 = .ok (.iadd, 1) := by decide +kernel
theorem dX12_odds_147 : decode cX12_odds 147 = .ok (.istore 7, 2) := by decide +kernel
theorem dX12_odds_149 : decode cX12_odds 149 = .ok (.iload_n 3, 1) := by decide +kernel
theorem dX12_odds_150 : decode cX12_odds 150 = .ok (.aload_n 0, 1) := by decide +kernel
theorem dX12_odds_151 : decode cX12_odds 151 = .ok (.iload 8, 2) := by decide +kernel
theorem dX12_odds_153 : decode cX12_odds 153 = .ok (.invokevirtual 273, 3) := by decide +kernel
theorem dX12_odds_156 : decode cX12_odds 156 = .ok (.aload_n 0, 1) := by decide +kernel
theorem dX12_odds_157 : decode cX12_odds 157 = .ok (.getfield 93, 3) := by decide +kernel
theorem dX12_odds_160 : decode cX12_odds 160 = .ok (.iload 8, 2) := by decide +kernel
theorem dX12_odds_162 : decode cX12_odds 162 = .ok (.baload, 1) := by decide +kernel
theorem dX12_odds_163 : decode cX12_odds 163 = .ok (.invokestatic 70, 3) := by decide +kernel
theorem dX12_odds_166 : decode cX12_odds 166 = .ok (.imul, 1) := by decide +kernel
theorem dX12_odds_167 : decode cX12_odds 167 = .ok (.iadd, 1) := by decide +kernel
theorem dX12_odds_168 : decode cX12_odds 168 = .ok (.istore_n 3, 1) := by decide +kernel
theorem dX12_odds_169 : decode cX12_odds 169 = .ok (.iinc 8 1, 3) := by decide +kernel
theorem dX12_odds_172 : decode cX12_odds 172 = .ok (.goto (-83), 3) := by decide +kernel
theorem dX12_odds_175 : decode cX12_odds 175 = .ok (.iconst 0, 1) := by decide +kernel
theorem dX12_odds_176 : decode cX12_odds 176 = .ok (.istore 8, 2) := by decide +kernel
theorem dX12_odds_178 : decode cX12_odds 178 = .ok (.iload 8, 2) := by decide +kernel
theorem dX12_odds_180 : decode cX12_odds 180 = .ok (.aload_n 0, 1) := by decide +kernel
theorem dX12_odds_181 : decode cX12_odds 181 = .ok (.getfield 290, 3) := by decide +kernel
theorem dX12_odds_184 : decode cX12_odds 184 = .ok (.arraylength, 1) := by decide +kernel
theorem dX12_odds_185 : decode cX12_odds 185 = .ok (.if_icmp .ge 80, 3) := by decide +kernel
theorem dX12_odds_188 : decode cX12_odds 188 = .ok (.lconst 0, 1) := by decide +kernel
theorem dX12_odds_189 : decode cX12_odds 189 = .ok (.lstore 9, 2) := by decide +kernel
theorem dX12_odds_191 : decode cX12_odds 191 = .ok (.iconst 0, 1) := by decide +kernel
theorem dX12_odds_192 : decode cX12_odds 192 = .ok (.istore 11, 2) := by decide +kernel
theorem dX12_odds_194 : decode cX12_odds 194 = .ok (.iload 11, 2) := by decide +kernel
theorem dX12_odds_196 : decode cX12_odds 196 = .ok (.iconst 4, 1) := by decide +kernel
theorem dX12_odds_197 : decode cX12_odds 197 = .ok (.if_icmp .gt 53, 3) := by decide +kernel
theorem dX12_odds_200 : decode cX12_odds 200 = .ok (.iload 11, 2) := by decide +kernel
theorem dX12_odds_202 : decode cX12_odds 202 = .ok (.iload 8, 2) := by decide +kernel
theorem dX12_odds_204 : decode cX12_odds 204 = .ok (.if_icmp .gt 46, 3) := by decide +kernel
theorem dX12_odds_207 : decode cX12_odds 207 = .ok (.lload 9, 2) := by decide +kernel
theorem dX12_odds_209 : decode cX12_odds 209 = .ok (.aload_n 0, 1) := by decide +kernel
theorem dX12_odds_210 : decode cX12_odds 210 = .ok (.getfield 290, 3) := by decide +kernel
theorem dX12_odds_213 : decode cX12_odds 213 = .ok (.iload 8, 2) := by decide +kernel
theorem dX12_odds_215 : decode cX12_odds 215 = .ok (.iload 11, 2) := by decide +kernel
theorem dX12_odds_217 : decode cX12_odds 217 = .ok (.isub, 1) := by decide +kernel
theorem dX12_odds_218 : decode cX12_odds 218 = .ok (.laload, 1) := by decide +kernel
theorem dX12_odds_219 : decode cX12_odds 219 = .ok (.iload 7, 2) := by decide +kernel
theorem dX12_odds_221 : decode cX12_odds 221 = .ok (.iload 11, 2) := by decide +kernel
theorem dX12_odds_223 : decode cX12_odds 223 = .ok (.invokestatic 293, 3) := by decide +kernel
theorem dX12_odds_226 : decode cX12_odds 226 = .ok (.lmul, 1) := by decide +kernel
theorem dX12_odds_227 : decode cX12_odds 227 = .ok (.iload 5, 2) := by decide +kernel
theorem dX12_odds_229 : decode cX12_odds 229 = .ok (.iload 7, 2) := by decide +kernel
theorem dX12_odds_231 : decode cX12_odds 231 = .ok (.isub, 1) := by decide +kernel
theorem dX12_odds_232 : decode cX12_odds 232 = .ok (.iload 6, 2) := by decide +kernel
theorem dX12_odds_234 : decode cX12_odds 234 = .ok (.iload 11, 2) := by decide +kernel
theorem dX12_odds_236 : decode cX12_odds 236 = .ok (.isub, 1) := by decide +kernel
theorem dX12_odds_237 : decode cX12_odds 237 = .ok (.invokestatic 293, 3) := by decide +kernel
theorem dX12_odds_240 : decode cX12_odds 240 = .ok (.lmul, 1) := by decide +kernel
theorem dX12_odds_241 : decode cX12_odds 241 = .ok (.ladd, 1) := by decide +kernel
theorem dX12_odds_242 : decode cX12_odds 242 = .ok (.lstore 9, 2) := by decide +kernel
theorem dX12_odds_244 : decode cX12_odds 244 = .ok (.iinc 11 1, 3) := by decide +kernel
theorem dX12_odds_247 : decode cX12_odds 247 = .ok (.goto (-53), 3) := by decide +kernel
theorem dX12_odds_250 : decode cX12_odds 250 = .ok (.aload_n 0, 1) := by decide +kernel
theorem dX12_odds_251 : decode cX12_odds 251 = .ok (.getfield 297, 3) := by decide +kernel
theorem dX12_odds_254 : decode cX12_odds 254 = .ok (.iload 8, 2) := by decide +kernel
theorem dX12_odds_256 : decode cX12_odds 256 = .ok (.lload 9, 2) := by decide +kernel
theorem dX12_odds_258 : decode cX12_odds 258 = .ok (.lastore, 1) := by decide +kernel
theorem dX12_odds_259 : decode cX12_odds 259 = .ok (.iinc 8 1, 3) := by decide +kernel
theorem dX12_odds_262 : decode cX12_odds 262 = .ok (.goto (-84), 3) := by decide +kernel
theorem dX12_odds_265 : decode cX12_odds 265 = .ok (.iconst 0, 1) := by decide +kernel
theorem dX12_odds_266 : decode cX12_odds 266 = .ok (.istore 8, 2) := by decide +kernel
theorem dX12_odds_268 : decode cX12_odds 268 = .ok (.iload 8, 2) := by decide +kernel
theorem dX12_odds_270 : decode cX12_odds 270 = .ok (.aload_n 0, 1) := by decide +kernel
theorem dX12_odds_271 : decode cX12_odds 271 = .ok (.getfield 290, 3) := by decide +kernel
theorem dX12_odds_274 : decode cX12_odds 274 = .ok (.arraylength, 1) := by decide +kernel
theorem dX12_odds_275 : decode cX12_odds 275 = .ok (.if_icmp .ge 23, 3) := by decide +kernel
theorem dX12_odds_278 : decode cX12_odds 278 = .ok (.aload_n 0, 1) := by decide +kernel
theorem dX12_odds_279 : decode cX12_odds 279 = .ok (.getfield 290, 3) := by decide +kernel
theorem dX12_odds_282 : decode cX12_odds 282 = .ok (.iload 8, 2) := by decide +kernel
theorem dX12_odds_284 : decode cX12_odds 284 = .ok (.aload_n 0, 1) := by decide +kernel
theorem dX12_odds_285 : decode cX12_odds 285 = .ok (.getfield 297, 3) := by decide +kernel
theorem dX12_odds_288 : decode cX12_odds 288 = .ok (.iload 8, 2) := by decide +kernel
theorem dX12_odds_290 : decode cX12_odds 290 = .ok (.laload, 1) := by decide +kernel
theorem dX12_odds_291 : decode cX12_odds 291 = .ok (.lastore, 1) := by decide +kernel
theorem dX12_odds_292 : decode cX12_odds 292 = .ok (.iinc 8 1, 3) := by decide +kernel
theorem dX12_odds_295 : decode cX12_odds 295 = .ok (.goto (-27), 3) := by decide +kernel
theorem dX12_odds_298 : decode cX12_odds 298 = .ok (.iinc 4 1, 3) := by decide +kernel
theorem dX12_odds_301 : decode cX12_odds 301 = .ok (.goto (-233), 3) := by decide +kernel
theorem dX12_odds_304 : decode cX12_odds 304 = .ok (.lconst 0, 1) := by decide +kernel
theorem dX12_odds_305 : decode cX12_odds 305 = .ok (.lstore 4, 2) := by decide +kernel
theorem dX12_odds_307 : decode cX12_odds 307 = .ok (.lconst 0, 1) := by decide +kernel
theorem dX12_odds_308 : decode cX12_odds 308 = .ok (.lstore 6, 2) := by decide +kernel
theorem dX12_odds_310 : decode cX12_odds 310 = .ok (.iconst 0, 1) := by decide +kernel
theorem dX12_odds_311 : decode cX12_odds 311 = .ok (.istore 8, 2) := by decide +kernel
theorem dX12_odds_313 : decode cX12_odds 313 = .ok (.iload 8, 2) := by decide +kernel
theorem dX12_odds_315 : decode cX12_odds 315 = .ok (.aload_n 0, 1) := by decide +kernel
theorem dX12_odds_316 : decode cX12_odds 316 = .ok (.getfield 290, 3) := by decide +kernel
theorem dX12_odds_319 : decode cX12_odds 319 = .ok (.arraylength, 1) := by decide +kernel
theorem dX12_odds_320 : decode cX12_odds 320 = .ok (.if_icmp .ge 70, 3) := by decide +kernel
theorem dX12_odds_323 : decode cX12_odds 323 = .ok (.lload 6, 2) := by decide +kernel
theorem dX12_odds_325 : decode cX12_odds 325 = .ok (.aload_n 0, 1) := by decide +kernel
theorem dX12_odds_326 : decode cX12_odds 326 = .ok (.getfield 290, 3) := by decide +kernel
theorem dX12_odds_329 : decode cX12_odds 329 = .ok (.iload 8, 2) := by decide +kernel
theorem dX12_odds_331 : decode cX12_odds 331 = .ok (.laload, 1) := by decide +kernel
theorem dX12_odds_332 : decode cX12_odds 332 = .ok (.ladd, 1) := by decide +kernel
theorem dX12_odds_333 : decode cX12_odds 333 = .ok (.lstore 6, 2) := by decide +kernel
theorem dX12_odds_335 : decode cX12_odds 335 = .ok (.lload 4, 2) := by decide +kernel
theorem dX12_odds_337 : decode cX12_odds 337 = .ok (.iload_n 2, 1) := by decide +kernel
theorem dX12_odds_338 : decode cX12_odds 338 = .ok (.ifCond .ne 12, 3) := by decide +kernel
theorem dX12_odds_341 : decode cX12_odds 341 = .ok (.iload 8, 2) := by decide +kernel
theorem dX12_odds_343 : decode cX12_odds 343 = .ok (.iload_n 3, 1) := by decide +kernel
theorem dX12_odds_344 : decode cX12_odds 344 = .ok (.if_icmp .gt 36, 3) := by decide +kernel
theorem dX12_odds_347 : decode cX12_odds 347 = .ok (.goto 23, 3) := by decide +kernel
theorem dX12_odds_350 : decode cX12_odds 350 = .ok (.iload_n 2, 1) := by decide +kernel
theorem dX12_odds_351 : decode cX12_odds 351 = .ok (.iconst 1, 1) := by decide +kernel
theorem dX12_odds_352 : decode cX12_odds 352 = .ok (.if_icmp .ne 12, 3) := by decide +kernel
theorem dX12_odds_355 : decode cX12_odds 355 = .ok (.iload 8, 2) := by decide +kernel
theorem dX12_odds_357 : decode cX12_odds 357 = .ok (.iload_n 3, 1) := by decide +kernel
theorem dX12_odds_358 : decode cX12_odds 358 = .ok (.if_icmp .lt 22, 3) := by decide +kernel
theorem dX12_odds_361 : decode cX12_odds 361 = .ok (.goto 9, 3) := by decide +kernel
theorem dX12_odds_364 : decode cX12_odds 364 = .ok (.iload 8, 2) := by decide +kernel
theorem dX12_odds_366 : decode cX12_odds 366 = .ok (.iload_n 3, 1) := by decide +kernel
theorem dX12_odds_367 : decode cX12_odds 367 = .ok (.if_icmp .ne 13, 3) := by decide +kernel
theorem dX12_odds_370 : decode cX12_odds 370 = .ok (.aload_n 0, 1) := by decide +kernel
theorem dX12_odds_371 : decode cX12_odds 371 = .ok (.getfield 290, 3) := by decide +kernel
theorem dX12_odds_374 : decode cX12_odds 374 = .ok (.iload 8, 2) := by decide +kernel
theorem dX12_odds_376 : decode cX12_odds 376 = .ok (.laload, 1) := by decide +kernel
theorem dX12_odds_377 : decode cX12_odds 377 = .ok (.goto 4, 3) := by decide +kernel
theorem dX12_odds_380 : decode cX12_odds 380 = .ok (.lconst 0, 1) := by decide +kernel
theorem dX12_odds_381 : decode cX12_odds 381 = .ok (.ladd, 1) := by decide +kernel
theorem dX12_odds_382 : decode cX12_odds 382 = .ok (.lstore 4, 2) := by decide +kernel
theorem dX12_odds_384 : decode cX12_odds 384 = .ok (.iinc 8 1, 3) := by decide +kernel
theorem dX12_odds_387 : decode cX12_odds 387 = .ok (.goto (-74), 3) := by decide +kernel
theorem dX12_odds_390 : decode cX12_odds 390 = .ok (.aload_n 0, 1) := by decide +kernel
theorem dX12_odds_391 : decode cX12_odds 391 = .ok (.iconst 0, 1) := by decide +kernel
theorem dX12_odds_392 : decode cX12_odds 392 = .ok (.putfield 11, 3) := by decide +kernel
theorem dX12_odds_395 : decode cX12_odds 395 = .ok (.aload_n 0, 1) := by decide +kernel
theorem dX12_odds_396 : decode cX12_odds 396 = .ok (.lload 4, 2) := by decide +kernel
theorem dX12_odds_398 : decode cX12_odds 398 = .ok (.lload 6, 2) := by decide +kernel
theorem dX12_odds_400 : decode cX12_odds 400 = .ok (.invokevirtual 283, 3) := by decide +kernel
theorem dX12_odds_403 : decode cX12_odds 403 = .ok (.iconst 0, 1) := by decide +kernel
theorem dX12_odds_404 : decode cX12_odds 404 = .ok (.ireturn, 1) := by decide +kernel
theorem dX12_weighs_0 : decode cX12_weighs 0 = .ok (.aload_n 0, 1) := by decide +kernel
theorem dX12_weighs_1 : decode cX12_weighs 1 = .ok (.iconst 0, 1) := by decide +kernel
theorem dX12_weighs_2 : decode cX12_weighs 2 = .ok (.putfield 3, 3) := by decide +kernel
theorem dX12_weighs_5 : decode cX12_weighs 5 = .ok (.aload_n 0, 1) := by decide +kernel
theorem dX12_weighs_6 : decode cX12_weighs 6 = .ok (.iconst (-1), 1) := by decide +kernel
theorem dX12_weighs_7 : decode cX12_weighs 7 = .ok (.iconst (-1), 1) := by decide +kernel
theorem dX12_weighs_8 : decode cX12_weighs 8 = .ok (.invokevirtual 279, 3) := by decide +kernel
theorem dX12_weighs_11 : decode cX12_weighs 11 = .ok (.aload_n 0, 1) := by decide +kernel
theorem dX12_weighs_12 : decode cX12_weighs 12 = .ok (.invokevirtual 287, 3) := by decide +kernel
theorem dX12_weighs_15 : decode cX12_weighs 15 = .ok (.ifCond .ne 6, 3) := by decide +kernel
theorem dX12_weighs_18 : decode cX12_weighs 18 = .ok (.bipush (-2), 2) := by decide +kernel
theorem dX12_weighs_20 : decode cX12_weighs 20 = .ok (.ireturn, 1) := by decide +kernel
theorem dX12_weighs_21 : decode cX12_weighs 21 = .ok (.aload_n 0, 1) := by decide +kernel
theorem dX12_weighs_22 : decode cX12_weighs 22 = .ok (.getfield 266, 3) := by decide +kernel
theorem dX12_weighs_25 : decode cX12_weighs 25 = .ok (.iconst 0, 1) := by decide +kernel
theorem dX12_weighs_26 : decode cX12_weighs 26 = .ok (.iaload, 1) := by decide +kernel
theorem dX12_weighs_27 : decode cX12_weighs 27 = .ok (.aload_n 0, 1) := by decide +kernel
theorem dX12_weighs_28 : decode cX12_weighs 28 = .ok (.getfield 263, 3) := by decide +kernel
theorem dX12_weighs_31 : decode cX12_weighs 31 = .ok (.iconst 1, 1) := by decide +kernel
theorem dX12_weighs_32 : decode cX12_weighs 32 = .ok (.iaload, 1) := by decide +kernel
theorem dX12_weighs_33 : decode cX12_weighs 33 = .ok (.imul, 1) := by decide +kernel
theorem dX12_weighs_34 : decode cX12_weighs 34 = .ok (.aload_n 0, 1) := by decide +kernel
theorem dX12_weighs_35 : decode cX12_weighs 35 = .ok (.getfield 266, 3) := by decide +kernel
theorem dX12_weighs_38 : decode cX12_weighs 38 = .ok (.iconst 1, 1) := by decide +kernel
theorem dX12_weighs_39 : decode cX12_weighs 39 = .ok (.iaload, 1) := by decide +kernel
theorem dX12_weighs_40 : decode cX12_weighs 40 = .ok (.aload_n 0, 1) := by decide +kernel
theorem dX12_weighs_41 : decode cX12_weighs 41 = .ok (.getfield 263, 3) := by decide +kernel
theorem dX12_weighs_44 : decode cX12_weighs 44 = .ok (.iconst 0, 1) := by decide +kernel
theorem dX12_weighs_45 : decode cX12_weighs 45 = .ok (.iaload, 1) := by decide +kernel
theorem dX12_weighs_46 : decode cX12_weighs 46 = .ok (.imul, 1) := by decide +kernel
theorem dX12_weighs_47 : decode cX12_weighs 47 = .ok (.isub, 1) := by decide +kernel
theorem dX12_weighs_48 : decode cX12_weighs 48 = .ok (.i2l, 1) := by decide +kernel
theorem dX12_weighs_49 : decode cX12_weighs 49 = .ok (.lstore_n 1, 1) := by decide +kernel
theorem dX12_weighs_50 : decode cX12_weighs 50 = .ok (.aload_n 0, 1) := by decide +kernel
theorem dX12_weighs_51 : decode cX12_weighs 51 = .ok (.getfield 263, 3) := by decide +kernel
theorem dX12_weighs_54 : decode cX12_weighs 54 = .ok (.iconst 0, 1) := by decide +kernel
theorem dX12_weighs_55 : decode cX12_weighs 55 = .ok (.iaload, 1) := by decide +kernel
theorem dX12_weighs_56 : decode cX12_weighs 56 = .ok (.i2l, 1) := by decide +kernel
theorem dX12_weighs_57 : decode cX12_weighs 57 = .ok (.aload_n 0, 1) := by decide +kernel
theorem dX12_weighs_58 : decode cX12_weighs 58 = .ok (.getfield 263, 3) := by decide +kernel
theorem dX12_weighs_61 : decode cX12_weighs 61 = .ok (.iconst 1, 1) := by decide +kernel
theorem dX12_weighs_62 : decode cX12_weighs 62 = .ok (.iaload, 1) := by decide +kernel
theorem dX12_weighs_63 : decode cX12_weighs 63 = .ok (.i2l, 1) := by decide +kernel
theorem dX12_weighs_64 : decode cX12_weighs 64 = .ok (.lmul, 1) := by decide +kernel
theorem dX12_weighs_65 : decode cX12_weighs 65 = .ok (.lstore_n 3, 1) := by decide +kernel
theorem dX12_weighs_66 : decode cX12_weighs 66 = .ok (.bipush (-2), 2) := by decide +kernel
theorem dX12_weighs_68 : decode cX12_weighs 68 = .ok (.istore 5, 2) := by decide +kernel
theorem dX12_weighs_70 : decode cX12_weighs 70 = .ok (.lconst 0, 1) := by decide +kernel
theorem dX12_weighs_71 : decode cX12_weighs 71 = .ok (.lstore 6, 2) := by decide +kernel
theorem dX12_weighs_73 : decode cX12_weighs 73 = .ok (.lconst 1, 1) := by decide +kernel
theorem dX12_weighs_74 : decode cX12_weighs 74 = .ok (.lstore 8, 2) := by decide +kernel
theorem dX12_weighs_76 : decode cX12_weighs 76 = .ok (.lconst 0, 1) := by decide +kernel
theorem dX12_weighs_77 : decode cX12_weighs 77 = .ok (.lstore 10, 2) := by decide +kernel
theorem dX12_weighs_79 : decode cX12_weighs 79 = .ok (.lconst 1, 1) := by decide +kernel
theorem dX12_weighs_80 : decode cX12_weighs 80 = .ok (.lstore 12, 2) := by decide +kernel
theorem dX12_weighs_82 : decode cX12_weighs 82 = .ok (.iconst 0, 1) := by decide +kernel
theorem dX12_weighs_83 : decode cX12_weighs 83 = .ok (.istore 14, 2) := by decide +kernel
theorem dX12_weighs_85 : decode cX12_weighs 85 = .ok (.iload 14, 2) := by decide +kernel
theorem dX12_weighs_87 : decode cX12_weighs 87 = .ok (.aload_n 0, 1) := by decide +kernel
theorem dX12_weighs_88 : decode cX12_weighs 88 = .ok (.getfield 33, 3) := by decide +kernel
theorem dX12_weighs_91 : decode cX12_weighs 91 = .ok (.if_icmp .ge 158, 3) := by decide +kernel
theorem dX12_weighs_94 : decode cX12_weighs 94 = .ok (.aload_n 0, 1) := by decide +kernel
theorem dX12_weighs_95 : decode cX12_weighs 95 = .ok (.iconst (-1), 1) := by decide +kernel
theorem dX12_weighs_96 : decode cX12_weighs 96 = .ok (.iload 14, 2) := by decide +kernel
theorem dX12_weighs_98 : decode cX12_weighs 98 = .ok (.invokevirtual 279, 3) := by decide +kernel
theorem dX12_weighs_101 : decode cX12_weighs 101 = .ok (.aload_n 0, 1) := by decide +kernel
theorem dX12_weighs_102 : decode cX12_weighs 102 = .ok (.invokevirtual 287, 3) := by decide +kernel
theorem dX12_weighs_105 : decode cX12_weighs 105 = .ok (.ifCond .eq 27, 3) := by decide +kernel
theorem dX12_weighs_108 : decode cX12_weighs 108 = .ok (.aload_n 0, 1) := by decide +kernel
theorem dX12_weighs_109 : decode cX12_weighs 109 = .ok (.getfield 263, 3) := by decide +kernel
theorem dX12_weighs_112 : decode cX12_weighs 112 = .ok (.iconst 0, 1) := by decide +kernel
theorem dX12_weighs_113 : decode cX12_weighs 113 = .ok (.iaload, 1) := by decide +kernel
theorem dX12_weighs_114 : decode cX12_weighs 114 = .ok (.aload_n 0, 1) := by decide +kernel
theorem dX12_weighs_115 : decode cX12_weighs 115 = .ok (.getfield 263, 3) := by decide +kernel
theorem dX12_weighs_118 : decode cX12_weighs 118 = .ok (.iconst 1, 1) := by decide +kernel
theorem dX12_weighs_119 : decode cX12_weighs 119 = .ok (.iaload, 1) := by decide +kernel
theorem dX12_weighs_120 : decode cX12_weighs 120 = .ok (.iadd, 1) := by decide +kernel
theorem dX12_weighs_121 : decode cX12_weighs 121 = .ok (.aload_n 0, 1) := by decide +kernel
theorem dX12_weighs_122 : decode cX12_weighs 122 = .ok (.invokevirtual 300, 3) := by decide +kernel
theorem dX12_weighs_125 : decode cX12_weighs 125 = .ok (.if_icmp .ge 7, 3) := by decide +kernel
theorem dX12_weighs_128 : decode cX12_weighs 128 = .ok (.iconst 1, 1) := by decide +kernel
theorem dX12_weighs_129 : decode cX12_weighs 129 = .ok (.goto 4, 3) := by decide +kernel
theorem dX12_weighs_132 : decode cX12_weighs 132 = .ok (.iconst 0, 1) := by decide +kernel
theorem dX12_weighs_133 : decode cX12_weighs 133 = .ok (.istore 15, 2) := by decide +kernel
theorem dX12_weighs_135 : decode cX12_weighs 135 = .ok (.iload 15, 2) := by decide +kernel
theorem dX12_weighs_137 : decode cX12_weighs 137 = .ok (.ifCond .ne 6, 3) := by decide +kernel
theorem dX12_weighs_140 : decode cX12_weighs 140 = .ok (.goto 103, 3) := by decide +kernel
theorem dX12_weighs_143 : decode cX12_weighs 143 = .ok (.aload_n 0, 1) := by decide +kernel
theorem dX12_weighs_144 : decode cX12_weighs 144 = .ok (.getfield 266, 3) := by decide +kernel
theorem dX12_weighs_147 : decode cX12_weighs 147 = .ok (.iconst 0, 1) := by decide +kernel
theorem dX12_weighs_148 : decode cX12_weighs 148 = .ok (.iaload, 1) := by decide +kernel
theorem dX12_weighs_149 : decode cX12_weighs 149 = .ok (.aload_n 0, 1) := by decide +kernel
theorem dX12_weighs_150 : decode cX12_weighs 150 = .ok (.getfield 263, 3) := by decide +kernel
theorem dX12_weighs_153 : decode cX12_weighs 153 = .ok (.iconst 1, 1) := by decide +kernel
theorem dX12_weighs_154 : decode cX12_weighs 154 = .ok (.iaload, 1) := by decide +kernel
theorem dX12_weighs_155 : decode cX12_weighs 155 = .ok (.imul, 1) := by decide +kernel
theorem dX12_weighs_156 : decode cX12_weighs 156 = .ok (.aload_n 0, 1) := by decide +kernel
theorem dX12_weighs_157 : decode cX12_weighs 157 = .ok (.getfield 266, 3) := by decide +kernel
theorem dX12_weighs_160 : decode cX12_weighs 160 = .ok (.iconst 1, 1) := by decide +kernel
theorem dX12_weighs_161 : decode cX12_weighs 161 = .ok (.iaload, 1) := by decide +kernel
theorem dX12_weighs_162 : decode cX12_weighs 162 = .ok (.aload_n 0, 1) := by decide +kernel
theorem dX12_weighs_163 : decode cX12_weighs 163 = .ok (.getfield 263, 3) := by decide +kernel
theorem dX12_weighs_166 : decode cX12_weighs 166 = .ok (.iconst 0, 1) := by decide +kernel
theorem dX12_weighs_167 : decode cX12_weighs 167 = .ok (.iaload, 1) := by decide +kernel
theorem dX12_weighs_168 : decode cX12_weighs 168 = .ok (.imul, 1) := by decide +kernel
theorem dX12_weighs_169 : decode cX12_weighs 169 = .ok (.isub, 1) := by decide +kernel
theorem dX12_weighs_170 : decode cX12_weighs 170 = .ok (.i2l, 1) := by decide +kernel
theorem dX12_weighs_171 : decode cX12_weighs 171 = .ok (.lstore 16, 2) := by decide +kernel
theorem dX12_weighs_173 : decode cX12_weighs 173 = .ok (.aload_n 0, 1) := by decide +kernel
theorem dX12_weighs_174 : decode cX12_weighs 174 = .ok (.getfield 263, 3) := by decide +kernel
theorem dX12_weighs_177 : decode cX12_weighs 177 = .ok (.iconst 0, 1) := by decide +kernel
theorem dX12_weighs_178 : decode cX12_weighs 178 = .ok (.iaload, 1) := by decide +kernel
theorem dX12_weighs_179 : decode cX12_weighs 179 = .ok (.i2l, 1) := by decide +kernel
theorem dX12_weighs_180 : decode cX12_weighs 180 = .ok (.aload_n 0, 1) := by decide +kernel
theorem dX12_weighs_181 : decode cX12_weighs 181 = .ok (.getfield 263, 3) := by decide +kernel
theorem dX12_weighs_184 : decode cX12_weighs 184 = .ok (.iconst 1, 1) := by decide +kernel
theorem dX12_weighs_185 : decode cX12_weighs 185 = .ok (.iaload, 1) := by decide +kernel
theorem dX12_weighs_186 : decode cX12_weighs 186 = .ok (.i2l, 1) := by decide +kernel
theorem dX12_weighs_187 : decode cX12_weighs 187 = .ok (.lmul, 1) := by decide +kernel
theorem dX12_weighs_188 : decode cX12_weighs 188 = .ok (.lstore 18, 2) := by decide +kernel
theorem dX12_weighs_190 : decode cX12_weighs 190 = .ok (.lload 16, 2) := by decide +kernel
theorem dX12_weighs_192 : decode cX12_weighs 192 = .ok (.lload_n 3, 1) := by decide +kernel
theorem dX12_weighs_193 : decode cX12_weighs 193 = .ok (.lmul, 1) := by decide +kernel
theorem dX12_weighs_194 : decode cX12_weighs 194 = .ok (.lload_n 1, 1) := by decide +kernel
theorem dX12_weighs_195 : decode cX12_weighs 195 = .ok (.lload 18, 2) := by decide +kernel
theorem dX12_weighs_197 : decode cX12_weighs 197 = .ok (.lmul, 1) := by decide +kernel
theorem dX12_weighs_198 : decode cX12_weighs 198 = .ok (.lsub, 1) := by decide +kernel
theorem dX12_weighs_199 : decode cX12_weighs 199 = .ok (.invokestatic 303, 3) := by decide +kernel
theorem dX12_weighs_202 : decode cX12_weighs 202 = .ok (.lstore 20, 2) := by decide +kernel
theorem dX12_weighs_204 : decode cX12_weighs 204 = .ok (.iload 5, 2) := by decide +kernel
theorem dX12_weighs_206 : decode cX12_weighs 206 = .ok (.ifCond .lt 17, 3) := by decide +kernel
theorem dX12_weighs_209 : decode cX12_weighs 209 = .ok (.lload 20, 2) := by decide +kernel
theorem dX12_weighs_211 : decode cX12_weighs 211 = .ok (.lload 8, 2) := by decide +kernel
theorem dX12_weighs_213 : decode cX12_weighs 213 = .ok (.lmul, 1) := by decide +kernel
theorem dX12_weighs_214 : decode cX12_weighs 214 = .ok (.lload 6, 2) := by decide +kernel
theorem dX12_weighs_216 : decode cX12_weighs 216 = .ok (.lload 18, 2) := by decide +kernel
theorem dX12_weighs_218 : decode cX12_weighs 218 = .ok (.lmul, 1) := by decide +kernel
theorem dX12_weighs_219 : decode cX12_weighs 219 = .ok (.lcmp, 1) := by decide +kernel
theorem dX12_weighs_220 : decode cX12_weighs 220 = .ok (.ifCond .le 23, 3) := by decide +kernel
theorem dX12_weighs_223 : decode cX12_weighs 223 = .ok (.iload 14, 2) := by decide +kernel
theorem dX12_weighs_225 : decode cX12_weighs 225 = .ok (.istore 5, 2) := by decide +kernel
theorem dX12_weighs_227 : decode cX12_weighs 227 = .ok (.lload 20, 2) := by decide +kernel
theorem dX12_weighs_229 : decode cX12_weighs 229 = .ok (.lstore 6, 2) := by decide +kernel
theorem dX12_weighs_231 : decode cX12_weighs 231 = .ok (.lload 18, 2) := by decide +kernel
theorem dX12_weighs_233 : decode cX12_weighs 233 = .ok (.lstore 8, 2) := by decide +kernel
theorem dX12_weighs_235 : decode cX12_weighs 235 = .ok (.lload 16, 2) := by decide +kernel
theorem dX12_weighs_237 : decode cX12_weighs 237 = .ok (.lstore 10, 2) := by decide +kernel
theorem dX12_weighs_239 : decode cX12_weighs 239 = .ok (.lload 18, 2) := by decide +kernel
theorem dX12_weighs_241 : decode cX12_weighs 241 = .ok (.lstore 12, 2) := by decide +kernel
theorem dX12_weighs_243 : decode cX12_weighs 243 = .ok (.iinc 14 1, 3) := by decide +kernel
theorem dX12_weighs_246 : decode cX12_weighs 246 = .ok (.goto (-161), 3) := by decide +kernel
theorem dX12_weighs_249 : decode cX12_weighs 249 = .ok (.iload 5, 2) := by decide +kernel
theorem dX12_weighs_251 : decode cX12_weighs 251 = .ok (.ifCond .lt 16, 3) := by decide +kernel
theorem dX12_weighs_254 : decode cX12_weighs 254 = .ok (.aload_n 0, 1) := by decide +kernel
theorem dX12_weighs_255 : decode cX12_weighs 255 = .ok (.iconst 0, 1) := by decide +kernel
theorem dX12_weighs_256 : decode cX12_weighs 256 = .ok (.putfield 11, 3) := by decide +kernel
theorem dX12_weighs_259 : decode cX12_weighs 259 = .ok (.aload_n 0, 1) := by decide +kernel
theorem dX12_weighs_260 : decode cX12_weighs 260 = .ok (.lload 10, 2) := by decide +kernel
theorem dX12_weighs_262 : decode cX12_weighs 262 = .ok (.lload 12, 2) := by decide +kernel
theorem dX12_weighs_264 : decode cX12_weighs 264 = .ok (.invokevirtual 283, 3) := by decide +kernel
theorem dX12_weighs_267 : decode cX12_weighs 267 = .ok (.iload 5, 2) := by decide +kernel
theorem dX12_weighs_269 : decode cX12_weighs 269 = .ok (.ireturn, 1) := by decide +kernel
theorem dX12_readMany_0 : decode cX12_readMany 0 = .ok (.iconst 0, 1) := by decide +kernel
theorem dX12_readMany_1 : decode cX12_readMany 1 = .ok (.istore_n 1, 1) := by decide +kernel
theorem dX12_readMany_2 : decode cX12_readMany 2 = .ok (.iconst 0, 1) := by decide +kernel
theorem dX12_readMany_3 : decode cX12_readMany 3 = .ok (.istore_n 2, 1) := by decide +kernel
theorem dX12_readMany_4 : decode cX12_readMany 4 = .ok (.iload_n 2, 1) := by decide +kernel
theorem dX12_readMany_5 : decode cX12_readMany 5 = .ok (.aload_n 0, 1) := by decide +kernel
theorem dX12_readMany_6 : decode cX12_readMany 6 = .ok (.getfield 36, 3) := by decide +kernel
theorem dX12_readMany_9 : decode cX12_readMany 9 = .ok (.if_icmp .ge 21, 3) := by decide +kernel
theorem dX12_readMany_12 : decode cX12_readMany 12 = .ok (.iload_n 1, 1) := by decide +kernel
theorem dX12_readMany_13 : decode cX12_readMany 13 = .ok (.aload_n 0, 1) := by decide +kernel
theorem dX12_readMany_14 : decode cX12_readMany 14 = .ok (.getfield 89, 3) := by decide +kernel
theorem dX12_readMany_17 : decode cX12_readMany 17 = .ok (.iload_n 2, 1) := by decide +kernel
theorem dX12_readMany_18 : decode cX12_readMany 18 = .ok (.baload, 1) := by decide +kernel
theorem dX12_readMany_19 : decode cX12_readMany 19 = .ok (.invokestatic 70, 3) := by decide +kernel
theorem dX12_readMany_22 : decode cX12_readMany 22 = .ok (.iadd, 1) := by decide +kernel
theorem dX12_readMany_23 : decode cX12_readMany 23 = .ok (.istore_n 1, 1) := by decide +kernel
theorem dX12_readMany_24 : decode cX12_readMany 24 = .ok (.iinc 2 1, 3) := by decide +kernel
theorem dX12_readMany_27 : decode cX12_readMany 27 = .ok (.goto (-23), 3) := by decide +kernel
theorem dX12_readMany_30 : decode cX12_readMany 30 = .ok (.iload_n 1, 1) := by decide +kernel
theorem dX12_readMany_31 : decode cX12_readMany 31 = .ok (.ireturn, 1) := by decide +kernel
theorem dX12_countsNames_0 : decode cX12_countsNames 0 = .ok (.iconst 0, 1) := by decide +kernel
theorem dX12_countsNames_1 : decode cX12_countsNames 1 = .ok (.istore_n 1, 1) := by decide +kernel
theorem dX12_countsNames_2 : decode cX12_countsNames 2 = .ok (.iload_n 1, 1) := by decide +kernel
theorem dX12_countsNames_3 : decode cX12_countsNames 3 = .ok (.bipush 12, 2) := by decide +kernel
theorem dX12_countsNames_5 : decode cX12_countsNames 5 = .ok (.if_icmp .ge 23, 3) := by decide +kernel
theorem dX12_countsNames_8 : decode cX12_countsNames 8 = .ok (.aload_n 0, 1) := by decide +kernel
theorem dX12_countsNames_9 : decode cX12_countsNames 9 = .ok (.getfield 307, 3) := by decide +kernel
theorem dX12_countsNames_12 : decode cX12_countsNames 12 = .ok (.iload_n 1, 1) := by decide +kernel
theorem dX12_countsNames_13 : decode cX12_countsNames 13 = .ok (.iconst 0, 1) := by decide +kernel
theorem dX12_countsNames_14 : decode cX12_countsNames 14 = .ok (.iastore, 1) := by decide +kernel
theorem dX12_countsNames_15 : decode cX12_countsNames 15 = .ok (.aload_n 0, 1) := by decide +kernel
theorem dX12_countsNames_16 : decode cX12_countsNames 16 = .ok (.getfield 310, 3) := by decide +kernel
theorem dX12_countsNames_19 : decode cX12_countsNames 19 = .ok (.iload_n 1, 1) := by decide +kernel
theorem dX12_countsNames_20 : decode cX12_countsNames 20 = .ok (.iconst 0, 1) := by decide +kernel
theorem dX12_countsNames_21 : decode cX12_countsNames 21 = .ok (.iastore, 1) := by decide +kernel
theorem dX12_countsNames_22 : decode cX12_countsNames 22 = .ok (.iinc 1 1, 3) := by decide +kernel
theorem dX12_countsNames_25 : decode cX12_countsNames 25 = .ok (.goto (-23), 3) := by decide +kernel
theorem dX12_countsNames_28 : decode cX12_countsNames 28 = .ok (.iconst 0, 1) := by decide +kernel
theorem dX12_countsNames_29 : decode cX12_countsNames 29 = .ok (.istore_n 1, 1) := by decide +kernel
theorem dX12_countsNames_30 : decode cX12_countsNames 30 = .ok (.iload_n 1, 1) := by decide +kernel
theorem dX12_countsNames_31 : decode cX12_countsNames 31 = .ok (.aload_n 0, 1) := by decide +kernel
theorem dX12_countsNames_32 : decode cX12_countsNames 32 = .ok (.getfield 36, 3) := by decide +kernel
theorem dX12_countsNames_35 : decode cX12_countsNames 35 = .ok (.if_icmp .ge 72, 3) := by decide +kernel
theorem dX12_countsNames_38 : decode cX12_countsNames 38 = .ok (.aload_n 0, 1) := by decide +kernel
theorem dX12_countsNames_39 : decode cX12_countsNames 39 = .ok (.getfield 307, 3) := by decide +kernel
theorem dX12_countsNames_42 : decode cX12_countsNames 42 = .ok (.aload_n 0, 1) := by decide +kernel
theorem dX12_countsNames_43 : decode cX12_countsNames 43 = .ok (.getfield 74, 3) := by decide +kernel
theorem dX12_countsNames_46 : decode cX12_countsNames 46 = .ok (.iload_n 1, 1) := by decide +kernel
theorem dX12_countsNames_47 : decode cX12_countsNames 47 = .ok (.iaload, 1) := by decide +kernel
theorem dX12_countsNames_48 : decode cX12_countsNames 48 = .ok (.dup2, 1) := by decide +kernel
theorem dX12_countsNames_49 : decode cX12_countsNames 49 = .ok (.iaload, 1) := by decide +kernel
theorem dX12_countsNames_50 : decode cX12_countsNames 50 = .ok (.aload_n 0, 1) := by decide +kernel
theorem dX12_countsNames_51 : decode cX12_countsNames 51 = .ok (.getfield 89, 3) := by decide +kernel
theorem dX12_countsNames_54 : decode cX12_countsNames 54 = .ok (.iload_n 1, 1) := by decide +kernel
theorem dX12_countsNames_55 : decode cX12_countsNames 55 = .ok (.baload, 1) := by decide +kernel
theorem dX12_countsNames_56 : decode cX12_countsNames 56 = .ok (.invokestatic 70, 3) := by decide +kernel
theorem dX12_countsNames_59 : decode cX12_countsNames 59 = .ok (.iadd, 1) := by decide +kernel
theorem dX12_countsNames_60 : decode cX12_countsNames 60 = .ok (.iastore, 1) := by decide +kernel
theorem dX12_countsNames_61 : decode cX12_countsNames 61 = .ok (.aload_n 0, 1) := by decide +kernel
theorem dX12_countsNames_62 : decode cX12_countsNames 62 = .ok (.getfield 310, 3) := by decide +kernel
theorem dX12_countsNames_65 : decode cX12_countsNames 65 = .ok (.aload_n 0, 1) := by decide +kernel
theorem dX12_countsNames_66 : decode cX12_countsNames 66 = .ok (.getfield 74, 3) := by decide +kernel
theorem dX12_countsNames_69 : decode cX12_countsNames 69 = .ok (.iload_n 1, 1) := by decide +kernel
theorem dX12_countsNames_70 : decode cX12_countsNames 70 = .ok (.iaload, 1) := by decide +kernel
theorem dX12_countsNames_71 : decode cX12_countsNames 71 = .ok (.dup2, 1) := by decide +kernel
theorem dX12_countsNames_72 : decode cX12_countsNames 72 = .ok (.iaload, 1) := by decide +kernel
theorem dX12_countsNames_73 : decode cX12_countsNames 73 = .ok (.aload_n 0, 1) := by decide +kernel
theorem dX12_countsNames_74 : decode cX12_countsNames 74 = .ok (.getfield 89, 3) := by decide +kernel
theorem dX12_countsNames_77 : decode cX12_countsNames 77 = .ok (.iload_n 1, 1) := by decide +kernel
theorem dX12_countsNames_78 : decode cX12_countsNames 78 = .ok (.baload, 1) := by decide +kernel
theorem dX12_countsNames_79 : decode cX12_countsNames 79 = .ok (.ifCond .eq 16, 3) := by decide +kernel
theorem dX12_countsNames_82 : decode cX12_countsNames 82 = .ok (.aload_n 0, 1) := by decide +kernel
theorem dX12_countsNames_83 : decode cX12_countsNames 83 = .ok (.getfield 93, 3) := by decide +kernel
theorem dX12_countsNames_86 : decode cX12_countsNames 86 = .ok (.iload_n 1, 1) := by decide +kernel
theorem dX12_countsNames_87 : decode cX12_countsNames 87 = .ok (.baload, 1) := by decide +kernel
theorem dX12_countsNames_88 : decode cX12_countsNames 88 = .ok (.ifCond .eq 7, 3) := by decide +kernel
theorem dX12_countsNames_91 : decode cX12_countsNames 91 = .ok (.iconst 1, 1) := by decide +kernel
theorem dX12_countsNames_92 : decode cX12_countsNames 92 = .ok (.goto 4, 3) := by decide +kernel
theorem dX12_countsNames_95 : decode cX12_countsNames 95 = .ok (.iconst 0, 1) := by decide +kernel
theorem dX12_countsNames_96 : decode cX12_countsNames 96 = .ok (.invokestatic 70, 3) := by decide +kernel
theorem dX12_countsNames_99 : decode cX12_countsNames 99 = .ok (.iadd, 1) := by decide +kernel
theorem dX12_countsNames_100 : decode cX12_countsNames 100 = .ok (.iastore, 1) := by decide +kernel
theorem dX12_countsNames_101 : decode cX12_countsNames 101 = .ok (.iinc 1 1, 3) := by decide +kernel
theorem dX12_countsNames_104 : decode cX12_countsNames 104 = .ok (.goto (-74), 3) := by decide +kernel
theorem dX12_countsNames_107 : decode cX12_countsNames 107 = .ok (.return_, 1) := by decide +kernel
theorem dX12_names_0 : decode cX12_names 0 = .ok (.aload_n 0, 1) := by decide +kernel
theorem dX12_names_1 : decode cX12_names 1 = .ok (.iconst 0, 1) := by decide +kernel
theorem dX12_names_2 : decode cX12_names 2 = .ok (.putfield 3, 3) := by decide +kernel
theorem dX12_names_5 : decode cX12_names 5 = .ok (.aload_n 0, 1) := by decide +kernel
theorem dX12_names_6 : decode cX12_names 6 = .ok (.iload_n 1, 1) := by decide +kernel
theorem dX12_names_7 : decode cX12_names 7 = .ok (.invokevirtual 103, 3) := by decide +kernel
theorem dX12_names_10 : decode cX12_names 10 = .ok (.ifCond .ne 5, 3) := by decide +kernel
theorem dX12_names_13 : decode cX12_names 13 = .ok (.iconst (-1), 1) := by decide +kernel
theorem dX12_names_14 : decode cX12_names 14 = .ok (.ireturn, 1) := by decide +kernel
theorem dX12_names_15 : decode cX12_names 15 = .ok (.aload_n 0, 1) := by decide +kernel
theorem dX12_names_16 : decode cX12_names 16 = .ok (.invokevirtual 313, 3) := by decide +kernel
theorem dX12_names_19 : decode cX12_names 19 = .ok (.aload_n 0, 1) := by decide +kernel
theorem dX12_names_20 : decode cX12_names 20 = .ok (.iconst 0, 1) := by decide +kernel
theorem dX12_names_21 : decode cX12_names 21 = .ok (.putfield 11, 3) := by decide +kernel
theorem dX12_names_24 : decode cX12_names 24 = .ok (.aload_n 0, 1) := by decide +kernel
theorem dX12_names_25 : decode cX12_names 25 = .ok (.getfield 307, 3) := by decide +kernel
theorem dX12_names_28 : decode cX12_names 28 = .ok (.iload_n 1, 1) := by decide +kernel
theorem dX12_names_29 : decode cX12_names 29 = .ok (.iaload, 1) := by decide +kernel
theorem dX12_names_30 : decode cX12_names 30 = .ok (.ifCond .le 21, 3) := by decide +kernel
theorem dX12_names_33 : decode cX12_names 33 = .ok (.aload_n 0, 1) := by decide +kernel
theorem dX12_names_34 : decode cX12_names 34 = .ok (.aload_n 0, 1) := by decide +kernel
theorem dX12_names_35 : decode cX12_names 35 = .ok (.getfield 310, 3) := by decide +kernel
theorem dX12_names_38 : decode cX12_names 38 = .ok (.iload_n 1, 1) := by decide +kernel
theorem dX12_names_39 : decode cX12_names 39 = .ok (.iaload, 1) := by decide +kernel
theorem dX12_names_40 : decode cX12_names 40 = .ok (.i2l, 1) := by decide +kernel
theorem dX12_names_41 : decode cX12_names 41 = .ok (.aload_n 0, 1) := by decide +kernel
theorem dX12_names_42 : decode cX12_names 42 = .ok (.getfield 307, 3) := by decide +kernel
theorem dX12_names_45 : decode cX12_names 45 = .ok (.iload_n 1, 1) := by decide +kernel
theorem dX12_names_46 : decode cX12_names 46 = .ok (.iaload, 1) := by decide +kernel
theorem dX12_names_47 : decode cX12_names 47 = .ok (.i2l, 1) := by decide +kernel
theorem dX12_names_48 : decode cX12_names 48 = .ok (.invokevirtual 283, 3) := by decide +kernel
theorem dX12_names_51 : decode cX12_names 51 = .ok (.aload_n 0, 1) := by decide +kernel
theorem dX12_names_52 : decode cX12_names 52 = .ok (.getfield 307, 3) := by decide +kernel
theorem dX12_names_55 : decode cX12_names 55 = .ok (.iload_n 1, 1) := by decide +kernel
theorem dX12_names_56 : decode cX12_names 56 = .ok (.iaload, 1) := by decide +kernel
theorem dX12_names_57 : decode cX12_names 57 = .ok (.ireturn, 1) := by decide +kernel
theorem dX12_drawn_0 : decode cX12_drawn 0 = .ok (.aload_n 0, 1) := by decide +kernel
theorem dX12_drawn_1 : decode cX12_drawn 1 = .ok (.iconst 0, 1) := by decide +kernel
theorem dX12_drawn_2 : decode cX12_drawn 2 = .ok (.putfield 3, 3) := by decide +kernel
theorem dX12_drawn_5 : decode cX12_drawn 5 = .ok (.aload_n 0, 1) := by decide +kernel
theorem dX12_drawn_6 : decode cX12_drawn 6 = .ok (.invokevirtual 313, 3) := by decide +kernel
theorem dX12_drawn_9 : decode cX12_drawn 9 = .ok (.lconst 1, 1) := by decide +kernel
theorem dX12_drawn_10 : decode cX12_drawn 10 = .ok (.lstore_n 1, 1) := by decide +kernel
theorem dX12_drawn_11 : decode cX12_drawn 11 = .ok (.iconst 0, 1) := by decide +kernel
theorem dX12_drawn_12 : decode cX12_drawn 12 = .ok (.istore_n 3, 1) := by decide +kernel
theorem dX12_drawn_13 : decode cX12_drawn 13 = .ok (.iconst 0, 1) := by decide +kernel
theorem dX12_drawn_14 : decode cX12_drawn 14 = .ok (.istore 4, 2) := by decide +kernel
theorem dX12_drawn_16 : decode cX12_drawn 16 = .ok (.iconst 0, 1) := by decide +kernel
theorem dX12_drawn_17 : decode cX12_drawn 17 = .ok (.istore 5, 2) := by decide +kernel
theorem dX12_drawn_19 : decode cX12_drawn 19 = .ok (.iload 5, 2) := by decide +kernel
theorem dX12_drawn_21 : decode cX12_drawn 21 = .ok (.aload_n 0, 1) := by decide +kernel
theorem dX12_drawn_22 : decode cX12_drawn 22 = .ok (.getfield 26, 3) := by decide +kernel
theorem dX12_drawn_25 : decode cX12_drawn 25 = .ok (.if_icmp .ge 58, 3) := by decide +kernel
theorem dX12_drawn_28 : decode cX12_drawn 28 = .ok (.aload_n 0, 1) := by decide +kernel
theorem dX12_drawn_29 : decode cX12_drawn 29 = .ok (.getfield 307, 3) := by decide +kernel
theorem dX12_drawn_32 : decode cX12_drawn 32 = .ok (.iload 5, 2) := by decide +kernel
theorem dX12_drawn_34 : decode cX12_drawn 34 = .ok (.iaload, 1) := by decide +kernel
theorem dX12_drawn_35 : decode cX12_drawn 35 = .ok (.ifCond .le 42, 3) := by decide +kernel
theorem dX12_drawn_38 : decode cX12_drawn 38 = .ok (.lload_n 1, 1) := by decide +kernel
theorem dX12_drawn_39 : decode cX12_drawn 39 = .ok (.lload_n 1, 1) := by decide +kernel
theorem dX12_drawn_40 : decode cX12_drawn 40 = .ok (.aload_n 0, 1) := by decide +kernel
theorem dX12_drawn_41 : decode cX12_drawn 41 = .ok (.getfield 307, 3) := by decide +kernel
theorem dX12_drawn_44 : decode cX12_drawn 44 = .ok (.iload 5, 2) := by decide +kernel
theorem dX12_drawn_46 : decode cX12_drawn 46 = .ok (.iaload, 1) := by decide +kernel
theorem dX12_drawn_47 : decode cX12_drawn 47 = .ok (.i2l, 1) := by decide +kernel
theorem dX12_drawn_48 : decode cX12_drawn 48 = .ok (.invokestatic 14, 3) := by decide +kernel
theorem dX12_drawn_51 : decode cX12_drawn 51 = .ok (.ldiv, 1) := by decide +kernel
theorem dX12_drawn_52 : decode cX12_drawn 52 = .ok (.aload_n 0, 1) := by decide +kernel
theorem dX12_drawn_53 : decode cX12_drawn 53 = .ok (.getfield 307, 3) := by decide +kernel
theorem dX12_drawn_56 : decode cX12_drawn 56 = .ok (.iload 5, 2) := by decide +kernel
theorem dX12_drawn_58 : decode cX12_drawn 58 = .ok (.iaload, 1) := by decide +kernel
theorem dX12_drawn_59 : decode cX12_drawn 59 = .ok (.i2l, 1) := by decide +kernel
theorem dX12_drawn_60 : decode cX12_drawn 60 = .ok (.lmul, 1) := by decide +kernel
theorem dX12_drawn_61 : decode cX12_drawn 61 = .ok (.lstore_n 1, 1) := by decide +kernel
theorem dX12_drawn_62 : decode cX12_drawn 62 = .ok (.iinc 3 1, 3) := by decide +kernel
theorem dX12_drawn_65 : decode cX12_drawn 65 = .ok (.iload 4, 2) := by decide +kernel
theorem dX12_drawn_67 : decode cX12_drawn 67 = .ok (.aload_n 0, 1) := by decide +kernel
theorem dX12_drawn_68 : decode cX12_drawn 68 = .ok (.getfield 41, 3) := by decide +kernel
theorem dX12_drawn_71 : decode cX12_drawn 71 = .ok (.iload 5, 2) := by decide +kernel
theorem dX12_drawn_73 : decode cX12_drawn 73 = .ok (.iaload, 1) := by decide +kernel
theorem dX12_drawn_74 : decode cX12_drawn 74 = .ok (.iadd, 1) := by decide +kernel
theorem dX12_drawn_75 : decode cX12_drawn 75 = .ok (.istore 4, 2) := by decide +kernel
theorem dX12_drawn_77 : decode cX12_drawn 77 = .ok (.iinc 5 1, 3) := by decide +kernel
theorem dX12_drawn_80 : decode cX12_drawn 80 = .ok (.goto (-61), 3) := by decide +kernel
theorem dX12_drawn_83 : decode cX12_drawn 83 = .ok (.iload_n 3, 1) := by decide +kernel
theorem dX12_drawn_84 : decode cX12_drawn 84 = .ok (.ifCond .ne 6, 3) := by decide +kernel
theorem dX12_drawn_87 : decode cX12_drawn 87 = .ok (.bipush (-2), 2) := by decide +kernel
theorem dX12_drawn_89 : decode cX12_drawn 89 = .ok (.ireturn, 1) := by decide +kernel
theorem dX12_drawn_90 : decode cX12_drawn 90 = .ok (.lconst 0, 1) := by decide +kernel
theorem dX12_drawn_91 : decode cX12_drawn 91 = .ok (.lstore 5, 2) := by decide +kernel
theorem dX12_drawn_93 : decode cX12_drawn 93 = .ok (.iconst 0, 1) := by decide +kernel
theorem dX12_drawn_94 : decode cX12_drawn 94 = .ok (.istore 7, 2) := by decide +kernel
theorem dX12_drawn_96 : decode cX12_drawn 96 = .ok (.iload 7, 2) := by decide +kernel
theorem dX12_drawn_98 : decode cX12_drawn 98 = .ok (.aload_n 0, 1) := by decide +kernel
theorem dX12_drawn_99 : decode cX12_drawn 99 = .ok (.getfield 26, 3) := by decide +kernel
theorem dX12_drawn_102 : decode cX12_drawn 102 = .ok (.if_icmp .ge 58, 3) := by decide +kernel
theorem dX12_drawn_105 : decode cX12_drawn 105 = .ok (.lload 5, 2) := by decide +kernel
theorem dX12_drawn_107 : decode cX12_drawn 107 = .ok (.aload_n 0, 1) := by decide +kernel
theorem dX12_drawn_108 : decode cX12_drawn 108 = .ok (.getfield 307, 3) := by decide +kernel
theorem dX12_drawn_111 : decode cX12_drawn 111 = .ok (.iload 7, 2) := by decide +kernel
theorem dX12_drawn_113 : decode cX12_drawn 113 = .ok (.iaload, 1) := by decide +kernel
theorem dX12_drawn_114 : decode cX12_drawn 114 = .ok (.ifCond .le 36, 3) := by decide +kernel
theorem dX12_drawn_117 : decode cX12_drawn 117 = .ok (.aload_n 0, 1) := by decide +kernel
theorem dX12_drawn_118 : decode cX12_drawn 118 = .ok (.getfield 41, 3) := by decide +kernel
theorem dX12_drawn_121 : decode cX12_drawn 121 = .ok (.iload 7, 2) := by decide +kernel
theorem dX12_drawn_123 : decode cX12_drawn 123 = .ok (.iaload, 1) := by decide +kernel
theorem dX12_drawn_124 : decode cX12_drawn 124 = .ok (.iconst 1, 1) := by decide +kernel
theorem dX12_drawn_125 : decode cX12_drawn 125 = .ok (.if_icmp .ne 25, 3) := by decide +kernel
theorem dX12_drawn_128 : decode cX12_drawn 128 = .ok (.lload_n 1, 1) := by decide +kernel
theorem dX12_drawn_129 : decode cX12_drawn 129 = .ok (.aload_n 0, 1) := by decide +kernel
theorem dX12_drawn_130 : decode cX12_drawn 130 = .ok (.getfield 307, 3) := by decide +kernel
theorem dX12_drawn_133 : decode cX12_drawn 133 = .ok (.iload 7, 2) := by decide +kernel
theorem dX12_drawn_135 : decode cX12_drawn 135 = .ok (.iaload, 1) := by decide +kernel
theorem dX12_drawn_136 : decode cX12_drawn 136 = .ok (.i2l, 1) := by decide +kernel
theorem dX12_drawn_137 : decode cX12_drawn 137 = .ok (.ldiv, 1) := by decide +kernel
theorem dX12_drawn_138 : decode cX12_drawn 138 = .ok (.aload_n 0, 1) := by decide +kernel
theorem dX12_drawn_139 : decode cX12_drawn 139 = .ok (.getfield 310, 3) := by decide +kernel
theorem dX12_drawn_142 : decode cX12_drawn 142 = .ok (.iload 7, 2) := by decide +kernel
theorem dX12_drawn_144 : decode cX12_drawn 144 = .ok (.iaload, 1) := by decide +kernel
theorem dX12_drawn_145 : decode cX12_drawn 145 = .ok (.i2l, 1) := by decide +kernel
theorem dX12_drawn_146 : decode cX12_drawn 146 = .ok (.lmul, 1) := by decide +kernel
theorem dX12_drawn_147 : decode cX12_drawn 147 = .ok (.goto 4, 3) := by decide +kernel
theorem dX12_drawn_150 : decode cX12_drawn 150 = .ok (.lconst 0, 1) := by decide +kernel
theorem dX12_drawn_151 : decode cX12_drawn 151 = .ok (.ladd, 1) := by decide +kernel
theorem dX12_drawn_152 : decode cX12_drawn 152 = .ok (.lstore 5, 2) := by decide +kernel
theorem dX12_drawn_154 : decode cX12_drawn 154 = .ok (.iinc 7 1, 3) := by decide +kernel
theorem dX12_drawn_157 : decode cX12_drawn 157 = .ok (.goto (-61), 3) := by decide +kernel
theorem dX12_drawn_160 : decode cX12_drawn 160 = .ok (.iconst 0, 1) := by decide +kernel
theorem dX12_drawn_161 : decode cX12_drawn 161 = .ok (.istore 7, 2) := by decide +kernel
theorem dX12_drawn_163 : decode cX12_drawn 163 = .ok (.iconst 0, 1) := by decide +kernel
theorem dX12_drawn_164 : decode cX12_drawn 164 = .ok (.istore 8, 2) := by decide +kernel
theorem dX12_drawn_166 : decode cX12_drawn 166 = .ok (.iconst 0, 1) := by decide +kernel
theorem dX12_drawn_167 : decode cX12_drawn 167 = .ok (.istore 9, 2) := by decide +kernel
theorem dX12_drawn_169 : decode cX12_drawn 169 = .ok (.iload 9, 2) := by decide +kernel
theorem dX12_drawn_171 : decode cX12_drawn 171 = .ok (.iconst 1, 1) := by decide +kernel
theorem dX12_drawn_172 : decode cX12_drawn 172 = .ok (.aload_n 0, 1) := by decide +kernel
theorem dX12_drawn_173 : decode cX12_drawn 173 = .ok (.getfield 26, 3) := by decide +kernel
theorem dX12_drawn_176 : decode cX12_drawn 176 = .ok (.ishl, 1) := by decide +kernel
theorem dX12_drawn_177 : decode cX12_drawn 177 = .ok (.if_icmp .ge 148, 3) := by decide +kernel
theorem dX12_drawn_180 : decode cX12_drawn 180 = .ok (.iload 9, 2) := by decide +kernel
theorem dX12_drawn_182 : decode cX12_drawn 182 = .ok (.invokestatic 317, 3) := by decide +kernel
theorem dX12_drawn_185 : decode cX12_drawn 185 = .ok (.iload 4, 2) := by decide +kernel
theorem dX12_drawn_187 : decode cX12_drawn 187 = .ok (.if_icmp .ne 7, 3) := by decide +kernel
theorem dX12_drawn_190 : decode cX12_drawn 190 = .ok (.iconst 1, 1) := by decide +kernel
theorem dX12_drawn_191 : decode cX12_drawn 191 = .ok (.goto 4, 3) := by decide +kernel
theorem dX12_drawn_194 : decode cX12_drawn 194 = .ok (.iconst 0, 1) := by decide +kernel
theorem dX12_drawn_195 : decode cX12_drawn 195 = .ok (.istore 10, 2) := by decide +kernel
theorem dX12_drawn_197 : decode cX12_drawn 197 = .ok (.lconst 0, 1) := by decide +kernel
theorem dX12_drawn_198 : decode cX12_drawn 198 = .ok (.lstore 11, 2) := by decide +kernel
theorem dX12_drawn_200 : decode cX12_drawn 200 = .ok (.iconst 0, 1) := by decide +kernel
theorem dX12_drawn_201 : decode cX12_drawn 201 = .ok (.istore 13, 2) := by decide +kernel
theorem dX12_drawn_203 : decode cX12_drawn 203 = .ok (.iload 13, 2) := by decide +kernel
theorem dX12_drawn_205 : decode cX12_drawn 205 = .ok (.aload_n 0, 1) := by decide +kernel
theorem dX12_drawn_206 : decode cX12_drawn 206 = .ok (.getfield 26, 3) := by decide +kernel
theorem dX12_drawn_209 : decode cX12_drawn 209 = .ok (.if_icmp .ge 74, 3) := by decide +kernel
theorem dX12_drawn_212 : decode cX12_drawn 212 = .ok (.iload 10, 2) := by decide +kernel
theorem dX12_drawn_214 : decode cX12_drawn 214 = .ok (.ifCond .eq 69, 3) := by decide +kernel
theorem dX12_drawn_217 : decode cX12_drawn 217 = .ok (.iload 9, 2) := by decide +kernel
theorem dX12_drawn_219 : decode cX12_drawn 219 = .ok (.iload 13, 2) := by decide +kernel
theorem dX12_drawn_221 : decode cX12_drawn 221 = .ok (.invokestatic 322, 3) := by decide +kernel
theorem dX12_drawn_224 : decode cX12_drawn 224 = .ok (.ifCond .eq 53, 3) := by decide +kernel
theorem dX12_drawn_227 : decode cX12_drawn 227 = .ok (.aload_n 0, 1) := by decide +kernel
theorem dX12_drawn_228 : decode cX12_drawn 228 = .ok (.getfield 307, 3) := by decide +kernel
theorem dX12_drawn_231 : decode cX12_drawn 231 = .ok (.iload 13, 2) := by decide +kernel
theorem dX12_drawn_233 : decode cX12_drawn 233 = .ok (.iaload, 1) := by decide +kernel
theorem dX12_drawn_234 : decode cX12_drawn 234 = .ok (.ifCond .le 7, 3) := by decide +kernel
theorem dX12_drawn_237 : decode cX12_drawn 237 = .ok (.iconst 1, 1) := by decide +kernel
theorem dX12_drawn_238 : decode cX12_drawn 238 = .ok (.goto 4, 3) := by decide +kernel
theorem dX12_drawn_241 : decode cX12_drawn 241 = .ok (.iconst 0, 1) := by decide +kernel
theorem dX12_drawn_242 : decode cX12_drawn 242 = .ok (.istore 10, 2) := by decide +kernel
theorem dX12_drawn_244 : decode cX12_drawn 244 = .ok (.lload 11, 2) := by decide +kernel
theorem dX12_drawn_246 : decode cX12_drawn 246 = .ok (.iload 10, 2) := by decide +kernel
theorem dX12_drawn_248 : decode cX12_drawn 248 = .ok (.ifCond .eq 25, 3) := by decide +kernel
theorem dX12_drawn_251 : decode cX12_drawn 251 = .ok (.lload_n 1, 1) := by decide +kernel
theorem dX12_drawn_252 : decode cX12_drawn 252 = .ok (.aload_n 0, 1) := by decide +kernel
theorem dX12_drawn_253 : decode cX12_drawn 253 = .ok (.getfield 307, 3) := by decide +kernel
theorem dX12_drawn_256 : decode cX12_drawn 256 = .ok (.iload 13, 2) := by decide +kernel
theorem dX12_drawn_258 : decode cX12_drawn 258 = .ok (.iaload, 1) := by decide +kernel
theorem dX12_drawn_259 : decode cX12_drawn 259 = .ok (.i2l, 1) := by decide +kernel
theorem dX12_drawn_260 : decode cX12_drawn 260 = .ok (.ldiv, 1) := by decide +kernel
theorem dX12_drawn_261 : decode cX12_drawn 261 = .ok (.aload_n 0, 1) := by decide +kernel
theorem dX12_drawn_262 : decode cX12_drawn 262 = .ok (.getfield 310, 3) := by decide +kernel
theorem dX12_drawn_265 : decode cX12_drawn 265 = .ok (.iload 13, 2) := by decide +kernel
theorem dX12_drawn_267 : decode cX12_drawn 267 = .ok (.iaload, 1) := by decide +kernel
theorem dX12_drawn_268 : decode cX12_drawn 268 = .ok (.i2l, 1) := by decide +kernel
theorem dX12_drawn_269 : decode cX12_drawn 269 = .ok (.lmul, 1) := by decide +kernel
theorem dX12_drawn_270 : decode cX12_drawn 270 = .ok (.goto 4, 3) := by decide +kernel
theorem dX12_drawn_273 : decode cX12_drawn 273 = .ok (.lconst 0, 1) := by decide +kernel
theorem dX12_drawn_274 : decode cX12_drawn 274 = .ok (.ladd, 1) := by decide +kernel
theorem dX12_drawn_275 : decode cX12_drawn 275 = .ok (.lstore 11, 2) := by decide +kernel
theorem dX12_drawn_277 : decode cX12_drawn 277 = .ok (.iinc 13 1, 3) := by decide +kernel
theorem dX12_drawn_280 : decode cX12_drawn 280 = .ok (.goto (-77), 3) := by decide +kernel
theorem dX12_drawn_283 : decode cX12_drawn 283 = .ok (.iload 7, 2) := by decide +kernel
theorem dX12_drawn_285 : decode cX12_drawn 285 = .ok (.iload 10, 2) := by decide +kernel
theorem dX12_drawn_287 : decode cX12_drawn 287 = .ok (.invokestatic 70, 3) := by decide +kernel
theorem dX12_drawn_290 : decode cX12_drawn 290 = .ok (.iadd, 1) := by decide +kernel
theorem dX12_drawn_291 : decode cX12_drawn 291 = .ok (.istore 7, 2) := by decide +kernel
theorem dX12_drawn_293 : decode cX12_drawn 293 = .ok (.iload 8, 2) := by decide +kernel
theorem dX12_drawn_295 : decode cX12_drawn 295 = .ok (.iload 10, 2) := by decide +kernel
theorem dX12_drawn_297 : decode cX12_drawn 297 = .ok (.ifCond .eq 15, 3) := by decide +kernel
theorem dX12_drawn_300 : decode cX12_drawn 300 = .ok (.lload 11, 2) := by decide +kernel
theorem dX12_drawn_302 : decode cX12_drawn 302 = .ok (.lload 5, 2) := by decide +kernel
theorem dX12_drawn_304 : decode cX12_drawn 304 = .ok (.lcmp, 1) := by decide +kernel
theorem dX12_drawn_305 : decode cX12_drawn 305 = .ok (.ifCond .gt 7, 3) := by decide +kernel
theorem dX12_drawn_308 : decode cX12_drawn 308 = .ok (.iconst 1, 1) := by decide +kernel
theorem dX12_drawn_309 : decode cX12_drawn 309 = .ok (.goto 4, 3) := by decide +kernel
theorem dX12_drawn_312 : decode cX12_drawn 312 = .ok (.iconst 0, 1) := by decide +kernel
theorem dX12_drawn_313 : decode cX12_drawn 313 = .ok (.invokestatic 70, 3) := by decide +kernel
theorem dX12_drawn_316 : decode cX12_drawn 316 = .ok (.iadd, 1) := by decide +kernel
theorem dX12_drawn_317 : decode cX12_drawn 317 = .ok (.istore 8, 2) := by decide +kernel
theorem dX12_drawn_319 : decode cX12_drawn 319 = .ok (.iinc 9 1, 3) := by decide +kernel
theorem dX12_drawn_322 : decode cX12_drawn 322 = .ok (.goto (-153), 3) := by decide +kernel
theorem dX12_drawn_325 : decode cX12_drawn 325 = .ok (.aload_n 0, 1) := by decide +kernel
theorem dX12_drawn_326 : decode cX12_drawn 326 = .ok (.iconst 0, 1) := by decide +kernel
theorem dX12_drawn_327 : decode cX12_drawn 327 = .ok (.putfield 11, 3) := by decide +kernel
theorem dX12_drawn_330 : decode cX12_drawn 330 = .ok (.aload_n 0, 1) := by decide +kernel
theorem dX12_drawn_331 : decode cX12_drawn 331 = .ok (.iload 8, 2) := by decide +kernel
theorem dX12_drawn_333 : decode cX12_drawn 333 = .ok (.i2l, 1) := by decide +kernel
theorem dX12_drawn_334 : decode cX12_drawn 334 = .ok (.iload 7, 2) := by decide +kernel
theorem dX12_drawn_336 : decode cX12_drawn 336 = .ok (.i2l, 1) := by decide +kernel
theorem dX12_drawn_337 : decode cX12_drawn 337 = .ok (.invokevirtual 283, 3) := by decide +kernel
theorem dX12_drawn_340 : decode cX12_drawn 340 = .ok (.iconst 0, 1) := by decide +kernel
theorem dX12_drawn_341 : decode cX12_drawn 341 = .ok (.ireturn, 1) := by decide +kernel
theorem dX12_saysOf_0 : decode cX12_saysOf 0 = .ok (.iload_n 1, 1) := by decide +kernel
theorem dX12_saysOf_1 : decode cX12_saysOf 1 = .ok (.ifCond .ne 12, 3) := by decide +kernel
theorem dX12_saysOf_4 : decode cX12_saysOf 4 = .ok (.aload_n 0, 1) := by decide +kernel
theorem dX12_saysOf_5 : decode cX12_saysOf 5 = .ok (.getfield 41, 3) := by decide +kernel
theorem dX12_saysOf_8 : decode cX12_saysOf 8 = .ok (.iload_n 2, 1) := by decide +kernel
theorem dX12_saysOf_9 : decode cX12_saysOf 9 = .ok (.iaload, 1) := by decide +kernel
theorem dX12_saysOf_10 : decode cX12_saysOf 10 = .ok (.goto 37, 3) := by decide +kernel
theorem dX12_saysOf_13 : decode cX12_saysOf 13 = .ok (.iload_n 1, 1) := by decide +kernel
theorem dX12_saysOf_14 : decode cX12_saysOf 14 = .ok (.iconst 1, 1) := by decide +kernel
theorem dX12_saysOf_15 : decode cX12_saysOf 15 = .ok (.if_icmp .ne 12, 3) := by decide +kernel
theorem dX12_saysOf_18 : decode cX12_saysOf 18 = .ok (.aload_n 0, 1) := by decide +kernel
theorem dX12_saysOf_19 : decode cX12_saysOf 19 = .ok (.getfield 45, 3) := by decide +kernel
theorem dX12_saysOf_22 : decode cX12_saysOf 22 = .ok (.iload_n 2, 1) := by decide +kernel
theorem dX12_saysOf_23 : decode cX12_saysOf 23 = .ok (.iaload, 1) := by decide +kernel
theorem dX12_saysOf_24 : decode cX12_saysOf 24 = .ok (.goto 23, 3) := by decide +kernel
theorem dX12_saysOf_27 : decode cX12_saysOf 27 = .ok (.iload_n 1, 1) := by decide +kernel
theorem dX12_saysOf_28 : decode cX12_saysOf 28 = .ok (.iconst 2, 1) := by decide +kernel
theorem dX12_saysOf_29 : decode cX12_saysOf 29 = .ok (.if_icmp .ne 12, 3) := by decide +kernel
theorem dX12_saysOf_32 : decode cX12_saysOf 32 = .ok (.aload_n 0, 1) := by decide +kernel
theorem dX12_saysOf_33 : decode cX12_saysOf 33 = .ok (.getfield 48, 3) := by decide +kernel
theorem dX12_saysOf_36 : decode cX12_saysOf 36 = .ok (.iload_n 2, 1) := by decide +kernel
theorem dX12_saysOf_37 : decode cX12_saysOf 37 = .ok (.iaload, 1) := by decide +kernel
theorem dX12_saysOf_38 : decode cX12_saysOf 38 = .ok (.goto 9, 3) := by decide +kernel
theorem dX12_saysOf_41 : decode cX12_saysOf 41 = .ok (.aload_n 0, 1) := by decide +kernel
theorem dX12_saysOf_42 : decode cX12_saysOf 42 = .ok (.getfield 51, 3) := by decide +kernel
theorem dX12_saysOf_45 : decode cX12_saysOf 45 = .ok (.iload_n 2, 1) := by decide +kernel
theorem dX12_saysOf_46 : decode cX12_saysOf 46 = .ok (.iaload, 1) := by decide +kernel
theorem dX12_saysOf_47 : decode cX12_saysOf 47 = .ok (.ireturn, 1) := by decide +kernel
theorem dX12_compares_0 : decode cX12_compares 0 = .ok (.aload_n 0, 1) := by decide +kernel
theorem dX12_compares_1 : decode cX12_compares 1 = .ok (.getfield 310, 3) := by decide +kernel
theorem dX12_compares_4 : decode cX12_compares 4 = .ok (.iload_n 1, 1) := by decide +kernel
theorem dX12_compares_5 : decode cX12_compares 5 = .ok (.iaload, 1) := by decide +kernel
theorem dX12_compares_6 : decode cX12_compares 6 = .ok (.aload_n 0, 1) := by decide +kernel
theorem dX12_compares_7 : decode cX12_compares 7 = .ok (.getfield 307, 3) := by decide +kernel
theorem dX12_compares_10 : decode cX12_compares 10 = .ok (.iload_n 2, 1) := by decide +kernel
theorem dX12_compares_11 : decode cX12_compares 11 = .ok (.iaload, 1) := by decide +kernel
theorem dX12_compares_12 : decode cX12_compares 12 = .ok (.imul, 1) := by decide +kernel
theorem dX12_compares_13 : decode cX12_compares 13 = .ok (.aload_n 0, 1) := by decide +kernel
theorem dX12_compares_14 : decode cX12_compares 14 = .ok (.getfield 310, 3) := by decide +kernel
theorem dX12_compares_17 : decode cX12_compares 17 = .ok (.iload_n 2, 1) := by decide +kernel
theorem dX12_compares_18 : decode cX12_compares 18 = .ok (.iaload, 1) := by decide +kernel
theorem dX12_compares_19 : decode cX12_compares 19 = .ok (.aload_n 0, 1) := by decide +kernel
theorem dX12_compares_20 : decode cX12_compares 20 = .ok (.getfield 307, 3) := by decide +kernel
theorem dX12_compares_23 : decode cX12_compares 23 = .ok (.iload_n 1, 1) := by decide +kernel
theorem dX12_compares_24 : decode cX12_compares 24 = .ok (.iaload, 1) := by decide +kernel
theorem dX12_compares_25 : decode cX12_compares 25 = .ok (.imul, 1) := by decide +kernel
theorem dX12_compares_26 : decode cX12_compares 26 = .ok (.invokestatic 325, 3) := by decide +kernel
theorem dX12_compares_29 : decode cX12_compares 29 = .ok (.ireturn, 1) := by decide +kernel
theorem dX12_pairsOf_0 : decode cX12_pairsOf 0 = .ok (.aload_n 0, 1) := by decide +kernel
theorem dX12_pairsOf_1 : decode cX12_pairsOf 1 = .ok (.iconst 0, 1) := by decide +kernel
theorem dX12_pairsOf_2 : decode cX12_pairsOf 2 = .ok (.putfield 328, 3) := by decide +kernel
theorem dX12_pairsOf_5 : decode cX12_pairsOf 5 = .ok (.aload_n 0, 1) := by decide +kernel
theorem dX12_pairsOf_6 : decode cX12_pairsOf 6 = .ok (.iconst 0, 1) := by decide +kernel
theorem dX12_pairsOf_7 : decode cX12_pairsOf 7 = .ok (.putfield 331, 3) := by decide +kernel
theorem dX12_pairsOf_10 : decode cX12_pairsOf 10 = .ok (.aload_n 0, 1) := by decide +kernel
theorem dX12_pairsOf_11 : decode cX12_pairsOf 11 = .ok (.iconst 0, 1) := by decide +kernel
theorem dX12_pairsOf_12 : decode cX12_pairsOf 12 = .ok (.putfield 334, 3) := by decide +kernel
theorem dX12_pairsOf_15 : decode cX12_pairsOf 15 = .ok (.iconst 0, 1) := by decide +kernel
theorem dX12_pairsOf_16 : decode cX12_pairsOf 16 = .ok (.istore_n 2, 1) := by decide +kernel
theorem dX12_pairsOf_17 : decode cX12_pairsOf 17 = .ok (.iload_n 2, 1) := by decide +kernel
theorem dX12_pairsOf_18 : decode cX12_pairsOf 18 = .ok (.aload_n 0, 1) := by decide +kernel
theorem dX12_pairsOf_19 : decode cX12_pairsOf 19 = .ok (.getfield 26, 3) := by decide +kernel
theorem dX12_pairsOf_22 : decode cX12_pairsOf 22 = .ok (.if_icmp .ge 134, 3) := by decide +kernel
theorem dX12_pairsOf_25 : decode cX12_pairsOf 25 = .ok (.iconst 0, 1) := by decide +kernel
theorem dX12_pairsOf_26 : decode cX12_pairsOf 26 = .ok (.istore_n 3, 1) := by decide +kernel
theorem dX12_pairsOf_27 : decode cX12_pairsOf 27 = .ok (.iload_n 3, 1) := by decide +kernel
theorem dX12_pairsOf_28 : decode cX12_pairsOf 28 = .ok (.iload_n 2, 1) := by decide +kernel
theorem dX12_pairsOf_29 : decode cX12_pairsOf 29 = .ok (.if_icmp .ge 121, 3) := by decide +kernel
theorem dX12_pairsOf_32 : decode cX12_pairsOf 32 = .ok (.aload_n 0, 1) := by decide +kernel
theorem dX12_pairsOf_33 : decode cX12_pairsOf 33 = .ok (.getfield 307, 3) := by decide +kernel
theorem dX12_pairsOf_36 : decode cX12_pairsOf 36 = .ok (.iload_n 2, 1) := by decide +kernel
theorem dX12_pairsOf_37 : decode cX12_pairsOf 37 = .ok (.iaload, 1) := by decide +kernel
theorem dX12_pairsOf_38 : decode cX12_pairsOf 38 = .ok (.ifCond .eq 106, 3) := by decide +kernel
theorem dX12_pairsOf_41 : decode cX12_pairsOf 41 = .ok (.aload_n 0, 1) := by decide +kernel
theorem dX12_pairsOf_42 : decode cX12_pairsOf 42 = .ok (.getfield 307, 3) := by decide +kernel
theorem dX12_pairsOf_45 : decode cX12_pairsOf 45 = .ok (.iload_n 3, 1) := by decide +kernel
theorem dX12_pairsOf_46 : decode cX12_pairsOf 46 = .ok (.iaload, 1) := by decide +kernel
theorem dX12_pairsOf_47 : decode cX12_pairsOf 47 = .ok (.ifCond .ne 6, 3) := by decide +kernel
theorem dX12_pairsOf_50 : decode cX12_pairsOf 50 = .ok (.goto 94, 3) := by decide +kernel
theorem dX12_pairsOf_53 : decode cX12_pairsOf 53 = .ok (.aload_n 0, 1) := by decide +kernel
theorem dX12_pairsOf_54 : decode cX12_pairsOf 54 = .ok (.iload_n 1, 1) := by decide +kernel
theorem dX12_pairsOf_55 : decode cX12_pairsOf 55 = .ok (.iload_n 2, 1) := by decide +kernel
theorem dX12_pairsOf_56 : decode cX12_pairsOf 56 = .ok (.invokevirtual 337, 3) := by decide +kernel
theorem dX12_pairsOf_59 : decode cX12_pairsOf 59 = .ok (.aload_n 0, 1) := by decide +kernel
theorem dX12_pairsOf_60 : decode cX12_pairsOf 60 = .ok (.iload_n 1, 1) := by decide +kernel
theorem dX12_pairsOf_61 : decode cX12_pairsOf 61 = .ok (.iload_n 3, 1) := by decide +kernel
theorem dX12_pairsOf_62 : decode cX12_pairsOf 62 = .ok (.invokevirtual 337, 3) := by decide +kernel
theorem dX12_pairsOf_65 : decode cX12_pairsOf 65 = .ok (.isub, 1) := by decide +kernel
theorem dX12_pairsOf_66 : decode cX12_pairsOf 66 = .ok (.invokestatic 340, 3) := by decide +kernel
theorem dX12_pairsOf_69 : decode cX12_pairsOf 69 = .ok (.aload_n 0, 1) := by decide +kernel
theorem dX12_pairsOf_70 : decode cX12_pairsOf 70 = .ok (.iload_n 2, 1) := by decide +kernel
theorem dX12_pairsOf_71 : decode cX12_pairsOf 71 = .ok (.iload_n 3, 1) := by decide +kernel
theorem dX12_pairsOf_72 : decode cX12_pairsOf 72 = .ok (.invokevirtual 343, 3) := by decide +kernel
theorem dX12_pairsOf_75 : decode cX12_pairsOf 75 = .ok (.imul, 1) := by decide +kernel
theorem dX12_pairsOf_76 : decode cX12_pairsOf 76 = .ok (.istore 4, 2) := by decide +kernel
theorem dX12_pairsOf_78 : decode cX12_pairsOf 78 = .ok (.aload_n 0, 1) := by decide +kernel
theorem dX12_pairsOf_79 : decode cX12_pairsOf 79 = .ok (.dup, 1) := by decide +kernel
theorem dX12_pairsOf_80 : decode cX12_pairsOf 80 = .ok (.getfield 328, 3) := by decide +kernel
theorem dX12_pairsOf_83 : decode cX12_pairsOf 83 = .ok (.iload 4, 2) := by decide +kernel
theorem dX12_pairsOf_85 : decode cX12_pairsOf 85 = .ok (.ifCond .le 7, 3) := by decide +kernel
theorem dX12_pairsOf_88 : decode cX12_pairsOf 88 = .ok (.iconst 1, 1) := by decide +kernel
theorem dX12_pairsOf_89 : decode cX12_pairsOf 89 = .ok (.goto 4, 3) := by decide +kernel
theorem dX12_pairsOf_92 : decode cX12_pairsOf 92 = .ok (.iconst 0, 1) := by decide +kernel
theorem dX12_pairsOf_93 : decode cX12_pairsOf 93 = .ok (.invokestatic 70, 3) := by decide +kernel
theorem dX12_pairsOf_96 : decode cX12_pairsOf 96 = .ok (.iadd, 1) := by decide +kernel
theorem dX12_pairsOf_97 : decode cX12_pairsOf 97 = .ok (.putfield 328, 3) := by decide +kernel
theorem dX12_pairsOf_100 : decode cX12_pairsOf 100 = .ok (.aload_n 0, 1) := by decide +kernel
theorem dX12_pairsOf_101 : decode cX12_pairsOf 101 = .ok (.dup, 1) := by decide +kernel
theorem dX12_pairsOf_102 : decode cX12_pairsOf 102 = .ok (.getfield 331, 3) := by decide +kernel
theorem dX12_pairsOf_105 : decode cX12_pairsOf 105 = .ok (.iload 4, 2) := by decide +kernel
theorem dX12_pairsOf_107 : decode cX12_pairsOf 107 = .ok (.ifCond .ge 7, 3) := by decide +kernel
theorem dX12_pairsOf_110 : decode cX12_pairsOf 110 = .ok (.iconst 1, 1) := by decide +kernel
theorem dX12_pairsOf_111 : decode cX12_pairsOf 111 = .ok (.goto 4, 3) := by decide +kernel
theorem dX12_pairsOf_114 : decode cX12_pairsOf 114 = .ok (.iconst 0, 1) := by decide +kernel
theorem dX12_pairsOf_115 : decode cX12_pairsOf 115 = .ok (.invokestatic 70, 3) := by decide +kernel
theorem dX12_pairsOf_118 : decode cX12_pairsOf 118 = .ok (.iadd, 1) := by decide +kernel
theorem dX12_pairsOf_119 : decode cX12_pairsOf 119 = .ok (.putfield 331, 3) := by decide +kernel
theorem dX12_pairsOf_122 : decode cX12_pairsOf 122 = .ok (.aload_n 0, 1) := by decide +kernel
theorem dX12_pairsOf_123 : decode cX12_pairsOf 123 = .ok (.dup, 1) := by decide +kernel
theorem dX12_pairsOf_124 : decode cX12_pairsOf 124 = .ok (.getfield 334, 3) := by decide +kernel
theorem dX12_pairsOf_127 : decode cX12_pairsOf 127 = .ok (.iload 4, 2) := by decide +kernel
theorem dX12_pairsOf_129 : decode cX12_pairsOf 129 = .ok (.ifCond .ne 7, 3) := by decide +kernel
theorem dX12_pairsOf_132 : decode cX12_pairsOf 132 = .ok (.iconst 1, 1) := by decide +kernel
theorem dX12_pairsOf_133 : decode cX12_pairsOf 133 = .ok (.goto 4, 3) := by decide +kernel
theorem dX12_pairsOf_136 : decode cX12_pairsOf 136 = .ok (.iconst 0, 1) := by decide +kernel
theorem dX12_pairsOf_137 : decode cX12_pairsOf 137 = .ok (.invokestatic 70, 3) := by decide +kernel
theorem dX12_pairsOf_140 : decode cX12_pairsOf 140 = .ok (.iadd, 1) := by decide +kernel
theorem dX12_pairsOf_141 : decode cX12_pairsOf 141 = .ok (.putfield 334, 3) := by decide +kernel
theorem dX12_pairsOf_144 : decode cX12_pairsOf 144 = .ok (.iinc 3 1, 3) := by decide +kernel
theorem dX12_pairsOf_147 : decode cX12_pairsOf 147 = .ok (.goto (-120), 3) := by decide +kernel
theorem dX12_pairsOf_150 : decode cX12_pairsOf 150 = .ok (.iinc 2 1, 3) := by decide +kernel
theorem dX12_pairsOf_153 : decode cX12_pairsOf 153 = .ok (.goto (-136), 3) := by decide +kernel
theorem dX12_pairsOf_156 : decode cX12_pairsOf 156 = .ok (.return_, 1) := by decide +kernel
theorem dX12_goes_0 : decode cX12_goes 0 = .ok (.aload_n 0, 1) := by decide +kernel
theorem dX12_goes_1 : decode cX12_goes 1 = .ok (.iconst 0, 1) := by decide +kernel
theorem dX12_goes_2 : decode cX12_goes 2 = .ok (.putfield 3, 3) := by decide +kernel
theorem dX12_goes_5 : decode cX12_goes 5 = .ok (.iload_n 1, 1) := by decide +kernel
theorem dX12_goes_6 : decode cX12_goes 6 = .ok (.i2l, 1) := by decide +kernel
theorem dX12_goes_7 : decode cX12_goes 7 = .ok (.lconst 0, 1) := by decide +kernel
theorem dX12_goes_8 : decode cX12_goes 8 = .ok (.ldc2_w 54, 3) := by decide +kernel
theorem dX12_goes_11 : decode cX12_goes 11 = .ok (.invokestatic 29, 3) := by decide +kernel
theorem dX12_goes_14 : decode cX12_goes 14 = .ok (.ifCond .ne 5, 3) := by decide +kernel
theorem dX12_goes_17 : decode cX12_goes 17 = .ok (.iconst (-1), 1) := by decide +kernel
theorem dX12_goes_18 : decode cX12_goes 18 = .ok (.ireturn, 1) := by decide +kernel
theorem dX12_goes_19 : decode cX12_goes 19 = .ok (.aload_n 0, 1) := by decide +kernel
theorem dX12_goes_20 : decode cX12_goes 20 = .ok (.invokevirtual 313, 3) := by decide +kernel
theorem dX12_goes_23 : decode cX12_goes 23 = .ok (.aload_n 0, 1) := by decide +kernel
theorem dX12_goes_24 : decode cX12_goes 24 = .ok (.iload_n 1, 1) := by decide +kernel
theorem dX12_goes_25 : decode cX12_goes 25 = .ok (.invokevirtual 346, 3) := by decide +kernel
theorem dX12_goes_28 : decode cX12_goes 28 = .ok (.aload_n 0, 1) := by decide +kernel
theorem dX12_goes_29 : decode cX12_goes 29 = .ok (.iconst 0, 1) := by decide +kernel
theorem dX12_goes_30 : decode cX12_goes 30 = .ok (.putfield 11, 3) := by decide +kernel
theorem dX12_goes_33 : decode cX12_goes 33 = .ok (.aload_n 0, 1) := by decide +kernel
theorem dX12_goes_34 : decode cX12_goes 34 = .ok (.aload_n 0, 1) := by decide +kernel
theorem dX12_goes_35 : decode cX12_goes 35 = .ok (.getfield 331, 3) := by decide +kernel
theorem dX12_goes_38 : decode cX12_goes 38 = .ok (.i2l, 1) := by decide +kernel
theorem dX12_goes_39 : decode cX12_goes 39 = .ok (.invokevirtual 18, 3) := by decide +kernel
theorem dX12_goes_42 : decode cX12_goes 42 = .ok (.aload_n 0, 1) := by decide +kernel
theorem dX12_goes_43 : decode cX12_goes 43 = .ok (.aload_n 0, 1) := by decide +kernel
theorem dX12_goes_44 : decode cX12_goes 44 = .ok (.getfield 334, 3) := by decide +kernel
theorem dX12_goes_47 : decode cX12_goes 47 = .ok (.i2l, 1) := by decide +kernel
theorem dX12_goes_48 : decode cX12_goes 48 = .ok (.invokevirtual 18, 3) := by decide +kernel
theorem dX12_goes_51 : decode cX12_goes 51 = .ok (.aload_n 0, 1) := by decide +kernel
theorem dX12_goes_52 : decode cX12_goes 52 = .ok (.getfield 328, 3) := by decide +kernel
theorem dX12_goes_55 : decode cX12_goes 55 = .ok (.ireturn, 1) := by decide +kernel
theorem dX12_says_0 : decode cX12_says 0 = .ok (.aload_n 0, 1) := by decide +kernel
theorem dX12_says_1 : decode cX12_says 1 = .ok (.iconst 0, 1) := by decide +kernel
theorem dX12_says_2 : decode cX12_says 2 = .ok (.putfield 3, 3) := by decide +kernel
theorem dX12_says_5 : decode cX12_says 5 = .ok (.aload_n 0, 1) := by decide +kernel
theorem dX12_says_6 : decode cX12_says 6 = .ok (.invokevirtual 313, 3) := by decide +kernel
theorem dX12_says_9 : decode cX12_says 9 = .ok (.iconst 0, 1) := by decide +kernel
theorem dX12_says_10 : decode cX12_says 10 = .ok (.istore_n 1, 1) := by decide +kernel
theorem dX12_says_11 : decode cX12_says 11 = .ok (.iconst 0, 1) := by decide +kernel
theorem dX12_says_12 : decode cX12_says 12 = .ok (.istore_n 2, 1) := by decide +kernel
theorem dX12_says_13 : decode cX12_says 13 = .ok (.iconst 0, 1) := by decide +kernel
theorem dX12_says_14 : decode cX12_says 14 = .ok (.istore_n 3, 1) := by decide +kernel
theorem dX12_says_15 : decode cX12_says 15 = .ok (.iload_n 3, 1) := by decide +kernel
theorem dX12_says_16 : decode cX12_says 16 = .ok (.iconst 4, 1) := by decide +kernel
theorem dX12_says_17 : decode cX12_says 17 = .ok (.if_icmp .ge 46, 3) := by decide +kernel
theorem dX12_says_20 : decode cX12_says 20 = .ok (.aload_n 0, 1) := by decide +kernel
theorem dX12_says_21 : decode cX12_says 21 = .ok (.iload_n 3, 1) := by decide +kernel
theorem dX12_says_22 : decode cX12_says 22 = .ok (.invokevirtual 346, 3) := by decide +kernel
theorem dX12_says_25 : decode cX12_says 25 = .ok (.aload_n 0, 1) := by decide +kernel
theorem dX12_says_26 : decode cX12_says 26 = .ok (.getfield 328, 3) := by decide +kernel
theorem dX12_says_29 : decode cX12_says 29 = .ok (.aload_n 0, 1) := by decide +kernel
theorem dX12_says_30 : decode cX12_says 30 = .ok (.getfield 331, 3) := by decide +kernel
theorem dX12_says_33 : decode cX12_says 33 = .ok (.isub, 1) := by decide +kernel
theorem dX12_says_34 : decode cX12_says 34 = .ok (.istore 4, 2) := by decide +kernel
theorem dX12_says_36 : decode cX12_says 36 = .ok (.iload_n 3, 1) := by decide +kernel
theorem dX12_says_37 : decode cX12_says 37 = .ok (.ifCond .eq 15, 3) := by decide +kernel
theorem dX12_says_40 : decode cX12_says 40 = .ok (.iload 4, 2) := by decide +kernel
theorem dX12_says_42 : decode cX12_says 42 = .ok (.invokestatic 349, 3) := by decide +kernel
theorem dX12_says_45 : decode cX12_says 45 = .ok (.iload_n 2, 1) := by decide +kernel
theorem dX12_says_46 : decode cX12_says 46 = .ok (.invokestatic 349, 3) := by decide +kernel
theorem dX12_says_49 : decode cX12_says 49 = .ok (.if_icmp .le 8, 3) := by decide +kernel
theorem dX12_says_52 : decode cX12_says 52 = .ok (.iload_n 3, 1) := by decide +kernel
theorem dX12_says_53 : decode cX12_says 53 = .ok (.istore_n 1, 1) := by decide +kernel
theorem dX12_says_54 : decode cX12_says 54 = .ok (.iload 4, 2) := by decide +kernel
theorem dX12_says_56 : decode cX12_says 56 = .ok (.istore_n 2, 1) := by decide +kernel
theorem dX12_says_57 : decode cX12_says 57 = .ok (.iinc 3 1, 3) := by decide +kernel
theorem dX12_says_60 : decode cX12_says 60 = .ok (.goto (-45), 3) := by decide +kernel
theorem dX12_says_63 : decode cX12_says 63 = .ok (.aload_n 0, 1) := by decide +kernel
theorem dX12_says_64 : decode cX12_says 64 = .ok (.iconst 0, 1) := by decide +kernel
theorem dX12_says_65 : decode cX12_says 65 = .ok (.putfield 11, 3) := by decide +kernel
theorem dX12_says_68 : decode cX12_says 68 = .ok (.aload_n 0, 1) := by decide +kernel
theorem dX12_says_69 : decode cX12_says 69 = .ok (.iload_n 2, 1) := by decide +kernel
theorem dX12_says_70 : decode cX12_says 70 = .ok (.i2l, 1) := by decide +kernel
theorem dX12_says_71 : decode cX12_says 71 = .ok (.invokevirtual 18, 3) := by decide +kernel
theorem dX12_says_74 : decode cX12_says 74 = .ok (.iload_n 1, 1) := by decide +kernel
theorem dX12_says_75 : decode cX12_says 75 = .ok (.ireturn, 1) := by decide +kernel
theorem dX12_child_0 : decode cX12_child 0 = .ok (.aload_n 0, 1) := by decide +kernel
theorem dX12_child_1 : decode cX12_child 1 = .ok (.iconst 0, 1) := by decide +kernel
theorem dX12_child_2 : decode cX12_child 2 = .ok (.putfield 3, 3) := by decide +kernel
theorem dX12_child_5 : decode cX12_child 5 = .ok (.iload_n 1, 1) := by decide +kernel
theorem dX12_child_6 : decode cX12_child 6 = .ok (.i2l, 1) := by decide +kernel
theorem dX12_child_7 : decode cX12_child 7 = .ok (.lconst 1, 1) := by decide +kernel
theorem dX12_child_8 : decode cX12_child 8 = .ok (.ldc2_w 39, 3) := by decide +kernel
theorem dX12_child_11 : decode cX12_child 11 = .ok (.invokestatic 29, 3) := by decide +kernel
theorem dX12_child_14 : decode cX12_child 14 = .ok (.ifCond .ne 5, 3) := by decide +kernel
theorem dX12_child_17 : decode cX12_child 17 = .ok (.iconst (-1), 1) := by decide +kernel
theorem dX12_child_18 : decode cX12_child 18 = .ok (.ireturn, 1) := by decide +kernel
theorem dX12_child_19 : decode cX12_child 19 = .ok (.aload_n 0, 1) := by decide +kernel
theorem dX12_child_20 : decode cX12_child 20 = .ok (.invokevirtual 313, 3) := by decide +kernel
theorem dX12_child_23 : decode cX12_child 23 = .ok (.iconst 0, 1) := by decide +kernel
theorem dX12_child_24 : decode cX12_child 24 = .ok (.istore_n 2, 1) := by decide +kernel
theorem dX12_child_25 : decode cX12_child 25 = .ok (.iconst 0, 1) := by decide +kernel
theorem dX12_child_26 : decode cX12_child 26 = .ok (.istore_n 3, 1) := by decide +kernel
theorem dX12_child_27 : decode cX12_child 27 = .ok (.iconst 0, 1) := by decide +kernel
theorem dX12_child_28 : decode cX12_child 28 = .ok (.istore 4, 2) := by decide +kernel
theorem dX12_child_30 : decode cX12_child 30 = .ok (.iconst 0, 1) := by decide +kernel
theorem dX12_child_31 : decode cX12_child 31 = .ok (.istore 5, 2) := by decide +kernel
theorem dX12_child_33 : decode cX12_child 33 = .ok (.iload 5, 2) := by decide +kernel
theorem dX12_child_35 : decode cX12_child 35 = .ok (.aload_n 0, 1) := by decide +kernel
theorem dX12_child_36 : decode cX12_child 36 = .ok (.getfield 26, 3) := by decide +kernel
theorem dX12_child_39 : decode cX12_child 39 = .ok (.if_icmp .ge 161, 3) := by decide +kernel
theorem dX12_child_42 : decode cX12_child 42 = .ok (.iconst 0, 1) := by decide +kernel
theorem dX12_child_43 : decode cX12_child 43 = .ok (.istore 6, 2) := by decide +kernel
theorem dX12_child_45 : decode cX12_child 45 = .ok (.iload 6, 2) := by decide +kernel
theorem dX12_child_47 : decode cX12_child 47 = .ok (.aload_n 0, 1) := by decide +kernel
theorem dX12_child_48 : decode cX12_child 48 = .ok (.getfield 26, 3) := by decide +kernel
theorem dX12_child_51 : decode cX12_child 51 = .ok (.if_icmp .ge 143, 3) := by decide +kernel
theorem dX12_child_54 : decode cX12_child 54 = .ok (.aload_n 0, 1) := by decide +kernel
theorem dX12_child_55 : decode cX12_child 55 = .ok (.getfield 41, 3) := by decide +kernel
theorem dX12_child_58 : decode cX12_child 58 = .ok (.iload 5, 2) := by decide +kernel
theorem dX12_child_60 : decode cX12_child 60 = .ok (.iaload, 1) := by decide +kernel
theorem dX12_child_61 : decode cX12_child 61 = .ok (.aload_n 0, 1) := by decide +kernel
theorem dX12_child_62 : decode cX12_child 62 = .ok (.getfield 41, 3) := by decide +kernel
theorem dX12_child_65 : decode cX12_child 65 = .ok (.iload 6, 2) := by decide +kernel
theorem dX12_child_67 : decode cX12_child 67 = .ok (.iaload, 1) := by decide +kernel
theorem dX12_child_68 : decode cX12_child 68 = .ok (.if_icmp .ne 43, 3) := by decide +kernel
theorem dX12_child_71 : decode cX12_child 71 = .ok (.aload_n 0, 1) := by decide +kernel
theorem dX12_child_72 : decode cX12_child 72 = .ok (.getfield 45, 3) := by decide +kernel
theorem dX12_child_75 : decode cX12_child 75 = .ok (.iload 5, 2) := by decide +kernel
theorem dX12_child_77 : decode cX12_child 77 = .ok (.iaload, 1) := by decide +kernel
theorem dX12_child_78 : decode cX12_child 78 = .ok (.aload_n 0, 1) := by decide +kernel
theorem dX12_child_79 : decode cX12_child 79 = .ok (.getfield 45, 3) := by decide +kernel
theorem dX12_child_82 : decode cX12_child 82 = .ok (.iload 6, 2) := by decide +kernel
theorem dX12_child_84 : decode cX12_child 84 = .ok (.iaload, 1) := by decide +kernel
theorem dX12_child_85 : decode cX12_child 85 = .ok (.if_icmp .ne 26, 3) := by decide +kernel
theorem dX12_child_88 : decode cX12_child 88 = .ok (.aload_n 0, 1) := by decide +kernel
theorem dX12_child_89 : decode cX12_child 89 = .ok (.getfield 48, 3) := by decide +kernel
theorem dX12_child_92 : decode cX12_child 92 = .ok (.iload 5, 2) := by decide +kernel
theorem dX12_child_94 : decode cX12_child 94 = .ok (.iaload, 1) := by decide +kernel
theorem dX12_child_95 : decode cX12_child 95 = .ok (.aload_n 0, 1) := by decide +kernel
theorem dX12_child_96 : decode cX12_child 96 = .ok (.getfield 48, 3) := by decide +kernel
theorem dX12_child_99 : decode cX12_child 99 = .ok (.iload 6, 2) := by decide +kernel
theorem dX12_child_101 : decode cX12_child 101 = .ok (.iaload, 1) := by decide +kernel
theorem dX12_child_102 : decode cX12_child 102 = .ok (.isub, 1) := by decide +kernel
theorem dX12_child_103 : decode cX12_child 103 = .ok (.iload_n 1, 1) := by decide +kernel
theorem dX12_child_104 : decode cX12_child 104 = .ok (.if_icmp .lt 7, 3) := by decide +kernel
theorem dX12_child_107 : decode cX12_child 107 = .ok (.iconst 1, 1) := by decide +kernel
theorem dX12_child_108 : decode cX12_child 108 = .ok (.goto 4, 3) := by decide +kernel
theorem dX12_child_111 : decode cX12_child 111 = .ok (.iconst 0, 1) := by decide +kernel
theorem dX12_child_112 : decode cX12_child 112 = .ok (.istore 7, 2) := by decide +kernel
theorem dX12_child_114 : decode cX12_child 114 = .ok (.iload 7, 2) := by decide +kernel
theorem dX12_child_116 : decode cX12_child 116 = .ok (.ifCond .eq 72, 3) := by decide +kernel
theorem dX12_child_119 : decode cX12_child 119 = .ok (.aload_n 0, 1) := by decide +kernel
theorem dX12_child_120 : decode cX12_child 120 = .ok (.getfield 307, 3) := by decide +kernel
theorem dX12_child_123 : decode cX12_child 123 = .ok (.iload 5, 2) := by decide +kernel
theorem dX12_child_125 : decode cX12_child 125 = .ok (.iaload, 1) := by decide +kernel
theorem dX12_child_126 : decode cX12_child 126 = .ok (.ifCond .le 62, 3) := by decide +kernel
theorem dX12_child_129 : decode cX12_child 129 = .ok (.aload_n 0, 1) := by decide +kernel
theorem dX12_child_130 : decode cX12_child 130 = .ok (.getfield 307, 3) := by decide +kernel
theorem dX12_child_133 : decode cX12_child 133 = .ok (.iload 6, 2) := by decide +kernel
theorem dX12_child_135 : decode cX12_child 135 = .ok (.iaload, 1) := by decide +kernel
theorem dX12_child_136 : decode cX12_child 136 = .ok (.ifCond .le 52, 3) := by decide +kernel
theorem dX12_child_139 : decode cX12_child 139 = .ok (.iinc 2 1, 3) := by decide +kernel
theorem dX12_child_142 : decode cX12_child 142 = .ok (.iload_n 3, 1) := by decide +kernel
theorem dX12_child_143 : decode cX12_child 143 = .ok (.aload_n 0, 1) := by decide +kernel
theorem dX12_child_144 : decode cX12_child 144 = .ok (.iload 5, 2) := by decide +kernel
theorem dX12_child_146 : decode cX12_child 146 = .ok (.iload 6, 2) := by decide +kernel
theorem dX12_child_148 : decode cX12_child 148 = .ok (.invokevirtual 343, 3) := by decide +kernel
theorem dX12_child_151 : decode cX12_child 151 = .ok (.ifCond .le 7, 3) := by decide +kernel
theorem dX12_child_154 : decode cX12_child 154 = .ok (.iconst 1, 1) := by decide +kernel
theorem dX12_child_155 : decode cX12_child 155 = .ok (.goto 4, 3) := by decide +kernel
theorem dX12_child_158 : decode cX12_child 158 = .ok (.iconst 0, 1) := by decide +kernel
theorem dX12_child_159 : decode cX12_child 159 = .ok (.invokestatic 70, 3) := by decide +kernel
theorem dX12_child_162 : decode cX12_child 162 = .ok (.iadd, 1) := by decide +kernel
theorem dX12_child_163 : decode cX12_child 163 = .ok (.istore_n 3, 1) := by decide +kernel
theorem dX12_child_164 : decode cX12_child 164 = .ok (.iload 4, 2) := by decide +kernel
theorem dX12_child_166 : decode cX12_child 166 = .ok (.aload_n 0, 1) := by decide +kernel
theorem dX12_child_167 : decode cX12_child 167 = .ok (.iload 5, 2) := by decide +kernel
theorem dX12_child_169 : decode cX12_child 169 = .ok (.iload 6, 2) := by decide +kernel
theorem dX12_child_171 : decode cX12_child 171 = .ok (.invokevirtual 343, 3) := by decide +kernel
theorem dX12_child_174 : decode cX12_child 174 = .ok (.ifCond .ge 7, 3) := by decide +kernel
theorem dX12_child_177 : decode cX12_child 177 = .ok (.iconst 1, 1) := by decide +kernel
theorem dX12_child_178 : decode cX12_child 178 = .ok (.goto 4, 3) := by decide +kernel
theorem dX12_child_181 : decode cX12_child 181 = .ok (.iconst 0, 1) := by decide +kernel
theorem dX12_child_182 : decode cX12_child 182 = .ok (.invokestatic 70, 3) := by decide +kernel
theorem dX12_child_185 : decode cX12_child 185 = .ok (.iadd, 1) := by decide +kernel
theorem dX12_child_186 : decode cX12_child 186 = .ok (.istore 4, 2) := by decide +kernel
theorem dX12_child_188 : decode cX12_child 188 = .ok (.iinc 6 1, 3) := by decide +kernel
theorem dX12_child_191 : decode cX12_child 191 = .ok (.goto (-146), 3) := by decide +kernel
theorem dX12_child_194 : decode cX12_child 194 = .ok (.iinc 5 1, 3) := by decide +kernel
theorem dX12_child_197 : decode cX12_child 197 = .ok (.goto (-164), 3) := by decide +kernel
theorem dX12_child_200 : decode cX12_child 200 = .ok (.aload_n 0, 1) := by decide +kernel
theorem dX12_child_201 : decode cX12_child 201 = .ok (.iconst 0, 1) := by decide +kernel
theorem dX12_child_202 : decode cX12_child 202 = .ok (.putfield 11, 3) := by decide +kernel
theorem dX12_child_205 : decode cX12_child 205 = .ok (.aload_n 0, 1) := by decide +kernel
theorem dX12_child_206 : decode cX12_child 206 = .ok (.iload_n 2, 1) := by decide +kernel
theorem dX12_child_207 : decode cX12_child 207 = .ok (.i2l, 1) := by decide +kernel
theorem dX12_child_208 : decode cX12_child 208 = .ok (.invokevirtual 18, 3) := by decide +kernel
theorem dX12_child_211 : decode cX12_child 211 = .ok (.aload_n 0, 1) := by decide +kernel
theorem dX12_child_212 : decode cX12_child 212 = .ok (.iload 4, 2) := by decide +kernel
theorem dX12_child_214 : decode cX12_child 214 = .ok (.i2l, 1) := by decide +kernel
theorem dX12_child_215 : decode cX12_child 215 = .ok (.invokevirtual 18, 3) := by decide +kernel
theorem dX12_child_218 : decode cX12_child 218 = .ok (.iload_n 3, 1) := by decide +kernel
theorem dX12_child_219 : decode cX12_child 219 = .ok (.ireturn, 1) := by decide +kernel
theorem dX12_countsHouse_0 : decode cX12_countsHouse 0 = .ok (.iconst 0, 1) := by decide +kernel
theorem dX12_countsHouse_1 : decode cX12_countsHouse 1 = .ok (.istore_n 2, 1) := by decide +kernel
theorem dX12_countsHouse_2 : decode cX12_countsHouse 2 = .ok (.iload_n 2, 1) := by decide +kernel
theorem dX12_countsHouse_3 : decode cX12_countsHouse 3 = .ok (.iconst 2, 1) := by decide +kernel
theorem dX12_countsHouse_4 : decode cX12_countsHouse 4 = .ok (.if_icmp .ge 23, 3) := by decide +kernel
theorem dX12_countsHouse_7 : decode cX12_countsHouse 7 = .ok (.aload_n 0, 1) := by decide +kernel
theorem dX12_countsHouse_8 : decode cX12_countsHouse 8 = .ok (.getfield 351, 3) := by decide +kernel
theorem dX12_countsHouse_11 : decode cX12_countsHouse 11 = .ok (.iload_n 2, 1) := by decide +kernel
theorem dX12_countsHouse_12 : decode cX12_countsHouse 12 = .ok (.iconst 0, 1) := by decide +kernel
theorem dX12_countsHouse_13 : decode cX12_countsHouse 13 = .ok (.iastore, 1) := by decide +kernel
theorem dX12_countsHouse_14 : decode cX12_countsHouse 14 = .ok (.aload_n 0, 1) := by decide +kernel
theorem dX12_countsHouse_15 : decode cX12_countsHouse 15 = .ok (.getfield 354, 3) := by decide +kernel
theorem dX12_countsHouse_18 : decode cX12_countsHouse 18 = .ok (.iload_n 2, 1) := by decide +kernel
theorem dX12_countsHouse_19 : decode cX12_countsHouse 19 = .ok (.iconst 0, 1) := by decide +kernel
theorem dX12_countsHouse_20 : decode cX12_countsHouse 20 = .ok (.iastore, 1) := by decide +kernel
theorem dX12_countsHouse_21 : decode cX12_countsHouse 21 = .ok (.iinc 2 1, 3) := by decide +kernel
theorem dX12_countsHouse_24 : decode cX12_countsHouse 24 = .ok (.goto (-22), 3) := by decide +kernel
theorem dX12_countsHouse_27 : decode cX12_countsHouse 27 = .ok (.iconst 0, 1) := by decide +kernel
theorem dX12_countsHouse_28 : decode cX12_countsHouse 28 = .ok (.istore_n 2, 1) := by decide +kernel
theorem dX12_countsHouse_29 : decode cX12_countsHouse 29 = .ok (.iload_n 2, 1) := by decide +kernel
theorem dX12_countsHouse_30 : decode cX12_countsHouse 30 = .ok (.aload_n 0, 1) := by decide +kernel
theorem dX12_countsHouse_31 : decode cX12_countsHouse 31 = .ok (.getfield 36, 3) := by decide +kernel
theorem dX12_countsHouse_34 : decode cX12_countsHouse 34 = .ok (.if_icmp .ge 64, 3) := by decide +kernel
theorem dX12_countsHouse_37 : decode cX12_countsHouse 37 = .ok (.aload_n 0, 1) := by decide +kernel
theorem dX12_countsHouse_38 : decode cX12_countsHouse 38 = .ok (.getfield 67, 3) := by decide +kernel
theorem dX12_countsHouse_41 : decode cX12_countsHouse 41 = .ok (.iload_n 2, 1) := by decide +kernel
theorem dX12_countsHouse_42 : decode cX12_countsHouse 42 = .ok (.iaload, 1) := by decide +kernel
theorem dX12_countsHouse_43 : decode cX12_countsHouse 43 = .ok (.iload_n 1, 1) := by decide +kernel
theorem dX12_countsHouse_44 : decode cX12_countsHouse 44 = .ok (.if_icmp .ne 48, 3) := by decide +kernel
theorem dX12_countsHouse_47 : decode cX12_countsHouse 47 = .ok (.aload_n 0, 1) := by decide +kernel
theorem dX12_countsHouse_48 : decode cX12_countsHouse 48 = .ok (.getfield 89, 3) := by decide +kernel
theorem dX12_countsHouse_51 : decode cX12_countsHouse 51 = .ok (.iload_n 2, 1) := by decide +kernel
theorem dX12_countsHouse_52 : decode cX12_countsHouse 52 = .ok (.baload, 1) := by decide +kernel
theorem dX12_countsHouse_53 : decode cX12_countsHouse 53 = .ok (.ifCond .eq 39, 3) := by decide +kernel
theorem dX12_countsHouse_56 : decode cX12_countsHouse 56 = .ok (.aload_n 0, 1) := by decide +kernel
theorem dX12_countsHouse_57 : decode cX12_countsHouse 57 = .ok (.getfield 351, 3) := by decide +kernel
theorem dX12_countsHouse_60 : decode cX12_countsHouse 60 = .ok (.aload_n 0, 1) := by decide +kernel
theorem dX12_countsHouse_61 : decode cX12_countsHouse 61 = .ok (.iload_n 2, 1) := by decide +kernel
theorem dX12_countsHouse_62 : decode cX12_countsHouse 62 = .ok (.invokevirtual 273, 3) := by decide +kernel
theorem dX12_countsHouse_65 : decode cX12_countsHouse 65 = .ok (.dup2, 1) := by decide +kernel
theorem dX12_countsHouse_66 : decode cX12_countsHouse 66 = .ok (.iaload, 1) := by decide +kernel
theorem dX12_countsHouse_67 : decode cX12_countsHouse 67 = .ok (.iconst 1, 1) := by decide +kernel
theorem dX12_countsHouse_68 : decode cX12_countsHouse 68 = .ok (.iadd, 1) := by decide +kernel
theorem dX12_countsHouse_69 : decode cX12_countsHouse 69 = .ok (.iastore, 1) := by decide +kernel
theorem dX12_countsHouse_70 : decode cX12_countsHouse 70 = .ok (.aload_n 0, 1) := by decide +kernel
theorem dX12_countsHouse_71 : decode cX12_countsHouse 71 = .ok (.getfield 354, 3) := by decide +kernel
theorem dX12_countsHouse_74 : decode cX12_countsHouse 74 = .ok (.aload_n 0, 1) := by decide +kernel
theorem dX12_countsHouse_75 : decode cX12_countsHouse 75 = .ok (.iload_n 2, 1) := by decide +kernel
theorem dX12_countsHouse_76 : decode cX12_countsHouse 76 = .ok (.invokevirtual 273, 3) := by decide +kernel
theorem dX12_countsHouse_79 : decode cX12_countsHouse 79 = .ok (.dup2, 1) := by decide +kernel
theorem dX12_countsHouse_80 : decode cX12_countsHouse 80 = .ok (.iaload, 1) := by decide +kernel
theorem dX12_countsHouse_81 : decode cX12_countsHouse 81 = .ok (.aload_n 0, 1) := by decide +kernel
theorem dX12_countsHouse_82 : decode cX12_countsHouse 82 = .ok (.getfield 93, 3) := by decide +kernel
theorem dX12_countsHouse_85 : decode cX12_countsHouse 85 = .ok (.iload_n 2, 1) := by decide +kernel
theorem dX12_countsHouse_86 : decode cX12_countsHouse 86 = .ok (.baload, 1) := by decide +kernel
theorem dX12_countsHouse_87 : decode cX12_countsHouse 87 = .ok (.invokestatic 70, 3) := by decide +kernel
theorem dX12_countsHouse_90 : decode cX12_countsHouse 90 = .ok (.iadd, 1) := by decide +kernel
theorem dX12_countsHouse_91 : decode cX12_countsHouse 91 = .ok (.iastore, 1) := by decide +kernel
theorem dX12_countsHouse_92 : decode cX12_countsHouse 92 = .ok (.iinc 2 1, 3) := by decide +kernel
theorem dX12_countsHouse_95 : decode cX12_countsHouse 95 = .ok (.goto (-66), 3) := by decide +kernel
theorem dX12_countsHouse_98 : decode cX12_countsHouse 98 = .ok (.aload_n 0, 1) := by decide +kernel
theorem dX12_countsHouse_99 : decode cX12_countsHouse 99 = .ok (.getfield 351, 3) := by decide +kernel
theorem dX12_countsHouse_102 : decode cX12_countsHouse 102 = .ok (.iconst 0, 1) := by decide +kernel
theorem dX12_countsHouse_103 : decode cX12_countsHouse 103 = .ok (.iaload, 1) := by decide +kernel
theorem dX12_countsHouse_104 : decode cX12_countsHouse 104 = .ok (.aload_n 0, 1) := by decide +kernel
theorem dX12_countsHouse_105 : decode cX12_countsHouse 105 = .ok (.getfield 351, 3) := by decide +kernel
theorem dX12_countsHouse_108 : decode cX12_countsHouse 108 = .ok (.iconst 1, 1) := by decide +kernel
theorem dX12_countsHouse_109 : decode cX12_countsHouse 109 = .ok (.iaload, 1) := by decide +kernel
theorem dX12_countsHouse_110 : decode cX12_countsHouse 110 = .ok (.iadd, 1) := by decide +kernel
theorem dX12_countsHouse_111 : decode cX12_countsHouse 111 = .ok (.ireturn, 1) := by decide +kernel
theorem dX12_table_0 : decode cX12_table 0 = .ok (.aload_n 0, 1) := by decide +kernel
theorem dX12_table_1 : decode cX12_table 1 = .ok (.iconst 0, 1) := by decide +kernel
theorem dX12_table_2 : decode cX12_table 2 = .ok (.putfield 3, 3) := by decide +kernel
theorem dX12_table_5 : decode cX12_table 5 = .ok (.iload_n 1, 1) := by decide +kernel
theorem dX12_table_6 : decode cX12_table 6 = .ok (.i2l, 1) := by decide +kernel
theorem dX12_table_7 : decode cX12_table 7 = .ok (.lconst 0, 1) := by decide +kernel
theorem dX12_table_8 : decode cX12_table 8 = .ok (.ldc2_w 357, 3) := by decide +kernel
theorem dX12_table_11 : decode cX12_table 11 = .ok (.invokestatic 29, 3) := by decide +kernel
theorem dX12_table_14 : decode cX12_table 14 = .ok (.ifCond .eq 15, 3) := by decide +kernel
theorem dX12_table_17 : decode cX12_table 17 = .ok (.iload_n 2, 1) := by decide +kernel
theorem dX12_table_18 : decode cX12_table 18 = .ok (.i2l, 1) := by decide +kernel
theorem dX12_table_19 : decode cX12_table 19 = .ok (.lconst 0, 1) := by decide +kernel
theorem dX12_table_20 : decode cX12_table 20 = .ok (.ldc2_w 357, 3) := by decide +kernel
theorem dX12_table_23 : decode cX12_table 23 = .ok (.invokestatic 29, 3) := by decide +kernel
theorem dX12_table_26 : decode cX12_table 26 = .ok (.ifCond .ne 5, 3) := by decide +kernel
theorem dX12_table_29 : decode cX12_table 29 = .ok (.iconst (-1), 1) := by decide +kernel
theorem dX12_table_30 : decode cX12_table 30 = .ok (.ireturn, 1) := by decide +kernel
theorem dX12_table_31 : decode cX12_table 31 = .ok (.iconst 0, 1) := by decide +kernel
theorem dX12_table_32 : decode cX12_table 32 = .ok (.istore_n 3, 1) := by decide +kernel
theorem dX12_table_33 : decode cX12_table 33 = .ok (.iconst 0, 1) := by decide +kernel
theorem dX12_table_34 : decode cX12_table 34 = .ok (.istore 4, 2) := by decide +kernel
theorem dX12_table_36 : decode cX12_table 36 = .ok (.iload 4, 2) := by decide +kernel
theorem dX12_table_38 : decode cX12_table 38 = .ok (.aload_n 0, 1) := by decide +kernel
theorem dX12_table_39 : decode cX12_table 39 = .ok (.getfield 33, 3) := by decide +kernel
theorem dX12_table_42 : decode cX12_table 42 = .ok (.if_icmp .ge 49, 3) := by decide +kernel
theorem dX12_table_45 : decode cX12_table 45 = .ok (.iload_n 3, 1) := by decide +kernel
theorem dX12_table_46 : decode cX12_table 46 = .ok (.aload_n 0, 1) := by decide +kernel
theorem dX12_table_47 : decode cX12_table 47 = .ok (.iload 4, 2) := by decide +kernel
theorem dX12_table_49 : decode cX12_table 49 = .ok (.invokevirtual 359, 3) := by decide +kernel
theorem dX12_table_52 : decode cX12_table 52 = .ok (.ifCond .le 27, 3) := by decide +kernel
theorem dX12_table_55 : decode cX12_table 55 = .ok (.aload_n 0, 1) := by decide +kernel
theorem dX12_table_56 : decode cX12_table 56 = .ok (.getfield 354, 3) := by decide +kernel
theorem dX12_table_59 : decode cX12_table 59 = .ok (.iconst 0, 1) := by decide +kernel
theorem dX12_table_60 : decode cX12_table 60 = .ok (.iaload, 1) := by decide +kernel
theorem dX12_table_61 : decode cX12_table 61 = .ok (.iload_n 1, 1) := by decide +kernel

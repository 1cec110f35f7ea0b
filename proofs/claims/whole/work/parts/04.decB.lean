theorem dX10_init_0 : decode cX10_init 0 = .ok (.aload_n 0, 1) := by decide +kernel
theorem dX10_init_1 : decode cX10_init 1 = .ok (.invokespecial 3, 3) := by decide +kernel
theorem dX10_init_4 : decode cX10_init 4 = .ok (.aload_n 0, 1) := by decide +kernel
theorem dX10_init_5 : decode cX10_init 5 = .ok (.bipush 12, 2) := by decide +kernel
theorem dX10_init_7 : decode cX10_init 7 = .ok (.newarray .int, 2) := by decide +kernel
theorem dX10_init_9 : decode cX10_init 9 = .ok (.putfield 9, 3) := by decide +kernel
theorem dX10_init_12 : decode cX10_init 12 = .ok (.aload_n 0, 1) := by decide +kernel
theorem dX10_init_13 : decode cX10_init 13 = .ok (.bipush 12, 2) := by decide +kernel
theorem dX10_init_15 : decode cX10_init 15 = .ok (.newarray .int, 2) := by decide +kernel
theorem dX10_init_17 : decode cX10_init 17 = .ok (.putfield 15, 3) := by decide +kernel
theorem dX10_init_20 : decode cX10_init 20 = .ok (.aload_n 0, 1) := by decide +kernel
theorem dX10_init_21 : decode cX10_init 21 = .ok (.bipush 12, 2) := by decide +kernel
theorem dX10_init_23 : decode cX10_init 23 = .ok (.newarray .int, 2) := by decide +kernel
theorem dX10_init_25 : decode cX10_init 25 = .ok (.putfield 18, 3) := by decide +kernel
theorem dX10_init_28 : decode cX10_init 28 = .ok (.aload_n 0, 1) := by decide +kernel
theorem dX10_init_29 : decode cX10_init 29 = .ok (.bipush 12, 2) := by decide +kernel
theorem dX10_init_31 : decode cX10_init 31 = .ok (.newarray .int, 2) := by decide +kernel
theorem dX10_init_33 : decode cX10_init 33 = .ok (.putfield 21, 3) := by decide +kernel
theorem dX10_init_36 : decode cX10_init 36 = .ok (.aload_n 0, 1) := by decide +kernel
theorem dX10_init_37 : decode cX10_init 37 = .ok (.bipush 24, 2) := by decide +kernel
theorem dX10_init_39 : decode cX10_init 39 = .ok (.newarray .int, 2) := by decide +kernel
theorem dX10_init_41 : decode cX10_init 41 = .ok (.putfield 24, 3) := by decide +kernel
theorem dX10_init_44 : decode cX10_init 44 = .ok (.aload_n 0, 1) := by decide +kernel
theorem dX10_init_45 : decode cX10_init 45 = .ok (.bipush 24, 2) := by decide +kernel
theorem dX10_init_47 : decode cX10_init 47 = .ok (.newarray .int, 2) := by decide +kernel
theorem dX10_init_49 : decode cX10_init 49 = .ok (.putfield 27, 3) := by decide +kernel
theorem dX10_init_52 : decode cX10_init 52 = .ok (.aload_n 0, 1) := by decide +kernel
theorem dX10_init_53 : decode cX10_init 53 = .ok (.bipush 24, 2) := by decide +kernel
theorem dX10_init_55 : decode cX10_init 55 = .ok (.newarray .int, 2) := by decide +kernel
theorem dX10_init_57 : decode cX10_init 57 = .ok (.putfield 30, 3) := by decide +kernel
theorem dX10_init_60 : decode cX10_init 60 = .ok (.aload_n 0, 1) := by decide +kernel
theorem dX10_init_61 : decode cX10_init 61 = .ok (.bipush 96, 2) := by decide +kernel
theorem dX10_init_63 : decode cX10_init 63 = .ok (.anewarray 33, 3) := by decide +kernel
theorem dX10_init_66 : decode cX10_init 66 = .ok (.putfield 35, 3) := by decide +kernel
theorem dX10_init_69 : decode cX10_init 69 = .ok (.aload_n 0, 1) := by decide +kernel
theorem dX10_init_70 : decode cX10_init 70 = .ok (.bipush 6, 2) := by decide +kernel
theorem dX10_init_72 : decode cX10_init 72 = .ok (.anewarray 39, 3) := by decide +kernel
theorem dX10_init_75 : decode cX10_init 75 = .ok (.putfield 41, 3) := by decide +kernel
theorem dX10_init_78 : decode cX10_init 78 = .ok (.aload_n 0, 1) := by decide +kernel
theorem dX10_init_79 : decode cX10_init 79 = .ok (.bipush 6, 2) := by decide +kernel
theorem dX10_init_81 : decode cX10_init 81 = .ok (.anewarray 39, 3) := by decide +kernel
theorem dX10_init_84 : decode cX10_init 84 = .ok (.putfield 45, 3) := by decide +kernel
theorem dX10_init_87 : decode cX10_init 87 = .ok (.aload_n 0, 1) := by decide +kernel
theorem dX10_init_88 : decode cX10_init 88 = .ok (.bipush 14, 2) := by decide +kernel
theorem dX10_init_90 : decode cX10_init 90 = .ok (.newarray .int, 2) := by decide +kernel
theorem dX10_init_92 : decode cX10_init 92 = .ok (.putfield 48, 3) := by decide +kernel
theorem dX10_init_95 : decode cX10_init 95 = .ok (.aload_n 0, 1) := by decide +kernel
theorem dX10_init_96 : decode cX10_init 96 = .ok (.iconst 1, 1) := by decide +kernel
theorem dX10_init_97 : decode cX10_init 97 = .ok (.putfield 51, 3) := by decide +kernel
theorem dX10_init_100 : decode cX10_init 100 = .ok (.aload_n 0, 1) := by decide +kernel
theorem dX10_init_101 : decode cX10_init 101 = .ok (.iconst 3, 1) := by decide +kernel
theorem dX10_init_102 : decode cX10_init 102 = .ok (.newarray .int, 2) := by decide +kernel
theorem dX10_init_104 : decode cX10_init 104 = .ok (.dup, 1) := by decide +kernel
theorem dX10_init_105 : decode cX10_init 105 = .ok (.iconst 0, 1) := by decide +kernel
theorem dX10_init_106 : decode cX10_init 106 = .ok (.iconst (-1), 1) := by decide +kernel
theorem dX10_init_107 : decode cX10_init 107 = .ok (.iastore, 1) := by decide +kernel
theorem dX10_init_108 : decode cX10_init 108 = .ok (.dup, 1) := by decide +kernel
theorem dX10_init_109 : decode cX10_init 109 = .ok (.iconst 1, 1) := by decide +kernel
theorem dX10_init_110 : decode cX10_init 110 = .ok (.iconst (-1), 1) := by decide +kernel
theorem dX10_init_111 : decode cX10_init 111 = .ok (.iastore, 1) := by decide +kernel
theorem dX10_init_112 : decode cX10_init 112 = .ok (.dup, 1) := by decide +kernel
theorem dX10_init_113 : decode cX10_init 113 = .ok (.iconst 2, 1) := by decide +kernel
theorem dX10_init_114 : decode cX10_init 114 = .ok (.iconst (-1), 1) := by decide +kernel
theorem dX10_init_115 : decode cX10_init 115 = .ok (.iastore, 1) := by decide +kernel
theorem dX10_init_116 : decode cX10_init 116 = .ok (.putfield 55, 3) := by decide +kernel
theorem dX10_init_119 : decode cX10_init 119 = .ok (.aload_n 0, 1) := by decide +kernel
theorem dX10_init_120 : decode cX10_init 120 = .ok (.iconst 3, 1) := by decide +kernel
theorem dX10_init_121 : decode cX10_init 121 = .ok (.newarray .int, 2) := by decide +kernel
theorem dX10_init_123 : decode cX10_init 123 = .ok (.putfield 58, 3) := by decide +kernel
theorem dX10_init_126 : decode cX10_init 126 = .ok (.aload_n 0, 1) := by decide +kernel
theorem dX10_init_127 : decode cX10_init 127 = .ok (.iconst 3, 1) := by decide +kernel
theorem dX10_init_128 : decode cX10_init 128 = .ok (.bipush 96, 2) := by decide +kernel
theorem dX10_init_130 : decode cX10_init 130 = .ok (.multianewarray 61 2, 4) := by decide +kernel
theorem dX10_init_134 : decode cX10_init 134 = .ok (.putfield 63, 3) := by decide +kernel
theorem dX10_init_137 : decode cX10_init 137 = .ok (.iconst 0, 1) := by decide +kernel
theorem dX10_init_138 : decode cX10_init 138 = .ok (.istore_n 1, 1) := by decide +kernel
theorem dX10_init_139 : decode cX10_init 139 = .ok (.iload_n 1, 1) := by decide +kernel
theorem dX10_init_140 : decode cX10_init 140 = .ok (.bipush 96, 2) := by decide +kernel
theorem dX10_init_142 : decode cX10_init 142 = .ok (.if_icmp .ge 22, 3) := by decide +kernel
theorem dX10_init_145 : decode cX10_init 145 = .ok (.aload_n 0, 1) := by decide +kernel
theorem dX10_init_146 : decode cX10_init 146 = .ok (.getfield 35, 3) := by decide +kernel
theorem dX10_init_149 : decode cX10_init 149 = .ok (.iload_n 1, 1) := by decide +kernel
theorem dX10_init_150 : decode cX10_init 150 = .ok (.new 33, 3) := by decide +kernel
theorem dX10_init_153 : decode cX10_init 153 = .ok (.dup, 1) := by decide +kernel
theorem dX10_init_154 : decode cX10_init 154 = .ok (.invokespecial 66, 3) := by decide +kernel
theorem dX10_init_157 : decode cX10_init 157 = .ok (.aastore, 1) := by decide +kernel
theorem dX10_init_158 : decode cX10_init 158 = .ok (.iinc 1 1, 3) := by decide +kernel
theorem dX10_init_161 : decode cX10_init 161 = .ok (.goto (-22), 3) := by decide +kernel
theorem dX10_init_164 : decode cX10_init 164 = .ok (.iconst 0, 1) := by decide +kernel
theorem dX10_init_165 : decode cX10_init 165 = .ok (.istore_n 1, 1) := by decide +kernel
theorem dX10_init_166 : decode cX10_init 166 = .ok (.iload_n 1, 1) := by decide +kernel
theorem dX10_init_167 : decode cX10_init 167 = .ok (.bipush 6, 2) := by decide +kernel
theorem dX10_init_169 : decode cX10_init 169 = .ok (.if_icmp .ge 35, 3) := by decide +kernel
theorem dX10_init_172 : decode cX10_init 172 = .ok (.aload_n 0, 1) := by decide +kernel
theorem dX10_init_173 : decode cX10_init 173 = .ok (.getfield 41, 3) := by decide +kernel
theorem dX10_init_176 : decode cX10_init 176 = .ok (.iload_n 1, 1) := by decide +kernel
theorem dX10_init_177 : decode cX10_init 177 = .ok (.new 39, 3) := by decide +kernel
theorem dX10_init_180 : decode cX10_init 180 = .ok (.dup, 1) := by decide +kernel
theorem dX10_init_181 : decode cX10_init 181 = .ok (.invokespecial 67, 3) := by decide +kernel
theorem dX10_init_184 : decode cX10_init 184 = .ok (.aastore, 1) := by decide +kernel
theorem dX10_init_185 : decode cX10_init 185 = .ok (.aload_n 0, 1) := by decide +kernel
theorem dX10_init_186 : decode cX10_init 186 = .ok (.getfield 45, 3) := by decide +kernel
theorem dX10_init_189 : decode cX10_init 189 = .ok (.iload_n 1, 1) := by decide +kernel
theorem dX10_init_190 : decode cX10_init 190 = .ok (.new 39, 3) := by decide +kernel
theorem dX10_init_193 : decode cX10_init 193 = .ok (.dup, 1) := by decide +kernel
theorem dX10_init_194 : decode cX10_init 194 = .ok (.invokespecial 67, 3) := by decide +kernel
theorem dX10_init_197 : decode cX10_init 197 = .ok (.aastore, 1) := by decide +kernel
theorem dX10_init_198 : decode cX10_init 198 = .ok (.iinc 1 1, 3) := by decide +kernel
theorem dX10_init_201 : decode cX10_init 201 = .ok (.goto (-35), 3) := by decide +kernel
theorem dX10_init_204 : decode cX10_init 204 = .ok (.return_, 1) := by decide +kernel
theorem dX10_isName_0 : decode cX10_isName 0 = .ok (.iload_n 1, 1) := by decide +kernel
theorem dX10_isName_1 : decode cX10_isName 1 = .ok (.ifCond .lt 15, 3) := by decide +kernel
theorem dX10_isName_4 : decode cX10_isName 4 = .ok (.iload_n 1, 1) := by decide +kernel
theorem dX10_isName_5 : decode cX10_isName 5 = .ok (.aload_n 0, 1) := by decide +kernel
theorem dX10_isName_6 : decode cX10_isName 6 = .ok (.getfield 68, 3) := by decide +kernel
theorem dX10_isName_9 : decode cX10_isName 9 = .ok (.if_icmp .ge 7, 3) := by decide +kernel
theorem dX10_isName_12 : decode cX10_isName 12 = .ok (.iconst 1, 1) := by decide +kernel
theorem dX10_isName_13 : decode cX10_isName 13 = .ok (.goto 4, 3) := by decide +kernel
theorem dX10_isName_16 : decode cX10_isName 16 = .ok (.iconst 0, 1) := by decide +kernel
theorem dX10_isName_17 : decode cX10_isName 17 = .ok (.ireturn, 1) := by decide +kernel
theorem dX10_isHouse_0 : decode cX10_isHouse 0 = .ok (.iload_n 1, 1) := by decide +kernel
theorem dX10_isHouse_1 : decode cX10_isHouse 1 = .ok (.ifCond .lt 15, 3) := by decide +kernel
theorem dX10_isHouse_4 : decode cX10_isHouse 4 = .ok (.iload_n 1, 1) := by decide +kernel
theorem dX10_isHouse_5 : decode cX10_isHouse 5 = .ok (.aload_n 0, 1) := by decide +kernel
theorem dX10_isHouse_6 : decode cX10_isHouse 6 = .ok (.getfield 71, 3) := by decide +kernel
theorem dX10_isHouse_9 : decode cX10_isHouse 9 = .ok (.if_icmp .ge 7, 3) := by decide +kernel
theorem dX10_isHouse_12 : decode cX10_isHouse 12 = .ok (.iconst 1, 1) := by decide +kernel
theorem dX10_isHouse_13 : decode cX10_isHouse 13 = .ok (.goto 4, 3) := by decide +kernel
theorem dX10_isHouse_16 : decode cX10_isHouse 16 = .ok (.iconst 0, 1) := by decide +kernel
theorem dX10_isHouse_17 : decode cX10_isHouse 17 = .ok (.ireturn, 1) := by decide +kernel
theorem dX10_isLetter_0 : decode cX10_isLetter 0 = .ok (.iload_n 1, 1) := by decide +kernel
theorem dX10_isLetter_1 : decode cX10_isLetter 1 = .ok (.ifCond .lt 15, 3) := by decide +kernel
theorem dX10_isLetter_4 : decode cX10_isLetter 4 = .ok (.iload_n 1, 1) := by decide +kernel
theorem dX10_isLetter_5 : decode cX10_isLetter 5 = .ok (.aload_n 0, 1) := by decide +kernel
theorem dX10_isLetter_6 : decode cX10_isLetter 6 = .ok (.getfield 74, 3) := by decide +kernel
theorem dX10_isLetter_9 : decode cX10_isLetter 9 = .ok (.if_icmp .ge 7, 3) := by decide +kernel
theorem dX10_isLetter_12 : decode cX10_isLetter 12 = .ok (.iconst 1, 1) := by decide +kernel
theorem dX10_isLetter_13 : decode cX10_isLetter 13 = .ok (.goto 4, 3) := by decide +kernel
theorem dX10_isLetter_16 : decode cX10_isLetter 16 = .ok (.iconst 0, 1) := by decide +kernel
theorem dX10_isLetter_17 : decode cX10_isLetter 17 = .ok (.ireturn, 1) := by decide +kernel
theorem dX10_isLaw_0 : decode cX10_isLaw 0 = .ok (.iload_n 1, 1) := by decide +kernel
theorem dX10_isLaw_1 : decode cX10_isLaw 1 = .ok (.iconst 0, 1) := by decide +kernel
theorem dX10_isLaw_2 : decode cX10_isLaw 2 = .ok (.iconst 5, 1) := by decide +kernel
theorem dX10_isLaw_3 : decode cX10_isLaw 3 = .ok (.invokestatic 77, 3) := by decide +kernel
theorem dX10_isLaw_6 : decode cX10_isLaw 6 = .ok (.ifCond .eq 19, 3) := by decide +kernel
theorem dX10_isLaw_9 : decode cX10_isLaw 9 = .ok (.aload_n 0, 1) := by decide +kernel
theorem dX10_isLaw_10 : decode cX10_isLaw 10 = .ok (.getfield 41, 3) := by decide +kernel
theorem dX10_isLaw_13 : decode cX10_isLaw 13 = .ok (.iload_n 1, 1) := by decide +kernel
theorem dX10_isLaw_14 : decode cX10_isLaw 14 = .ok (.aaload, 1) := by decide +kernel
theorem dX10_isLaw_15 : decode cX10_isLaw 15 = .ok (.invokevirtual 81, 3) := by decide +kernel
theorem dX10_isLaw_18 : decode cX10_isLaw 18 = .ok (.ifCond .eq 7, 3) := by decide +kernel
theorem dX10_isLaw_21 : decode cX10_isLaw 21 = .ok (.iconst 1, 1) := by decide +kernel
theorem dX10_isLaw_22 : decode cX10_isLaw 22 = .ok (.goto 4, 3) := by decide +kernel
theorem dX10_isLaw_25 : decode cX10_isLaw 25 = .ok (.iconst 0, 1) := by decide +kernel
theorem dX10_isLaw_26 : decode cX10_isLaw 26 = .ok (.ireturn, 1) := by decide +kernel
theorem dX10_isFilter_0 : decode cX10_isFilter 0 = .ok (.iload_n 1, 1) := by decide +kernel
theorem dX10_isFilter_1 : decode cX10_isFilter 1 = .ok (.iconst (-1), 1) := by decide +kernel
theorem dX10_isFilter_2 : decode cX10_isFilter 2 = .ok (.if_icmp .eq 24, 3) := by decide +kernel
theorem dX10_isFilter_5 : decode cX10_isFilter 5 = .ok (.iload_n 1, 1) := by decide +kernel
theorem dX10_isFilter_6 : decode cX10_isFilter 6 = .ok (.iconst 0, 1) := by decide +kernel
theorem dX10_isFilter_7 : decode cX10_isFilter 7 = .ok (.iconst 5, 1) := by decide +kernel
theorem dX10_isFilter_8 : decode cX10_isFilter 8 = .ok (.invokestatic 77, 3) := by decide +kernel
theorem dX10_isFilter_11 : decode cX10_isFilter 11 = .ok (.ifCond .eq 19, 3) := by decide +kernel
theorem dX10_isFilter_14 : decode cX10_isFilter 14 = .ok (.aload_n 0, 1) := by decide +kernel
theorem dX10_isFilter_15 : decode cX10_isFilter 15 = .ok (.getfield 45, 3) := by decide +kernel
theorem dX10_isFilter_18 : decode cX10_isFilter 18 = .ok (.iload_n 1, 1) := by decide +kernel
theorem dX10_isFilter_19 : decode cX10_isFilter 19 = .ok (.aaload, 1) := by decide +kernel
theorem dX10_isFilter_20 : decode cX10_isFilter 20 = .ok (.invokevirtual 81, 3) := by decide +kernel
theorem dX10_isFilter_23 : decode cX10_isFilter 23 = .ok (.ifCond .eq 7, 3) := by decide +kernel
theorem dX10_isFilter_26 : decode cX10_isFilter 26 = .ok (.iconst 1, 1) := by decide +kernel
theorem dX10_isFilter_27 : decode cX10_isFilter 27 = .ok (.goto 4, 3) := by decide +kernel
theorem dX10_isFilter_30 : decode cX10_isFilter 30 = .ok (.iconst 0, 1) := by decide +kernel
theorem dX10_isFilter_31 : decode cX10_isFilter 31 = .ok (.ireturn, 1) := by decide +kernel
theorem dX10_addName_0 : decode cX10_addName 0 = .ok (.aload_n 0, 1) := by decide +kernel
theorem dX10_addName_1 : decode cX10_addName 1 = .ok (.getfield 9, 3) := by decide +kernel
theorem dX10_addName_4 : decode cX10_addName 4 = .ok (.aload_n 0, 1) := by decide +kernel
theorem dX10_addName_5 : decode cX10_addName 5 = .ok (.getfield 68, 3) := by decide +kernel
theorem dX10_addName_8 : decode cX10_addName 8 = .ok (.iload_n 1, 1) := by decide +kernel
theorem dX10_addName_9 : decode cX10_addName 9 = .ok (.iastore, 1) := by decide +kernel
theorem dX10_addName_10 : decode cX10_addName 10 = .ok (.aload_n 0, 1) := by decide +kernel
theorem dX10_addName_11 : decode cX10_addName 11 = .ok (.getfield 15, 3) := by decide +kernel
theorem dX10_addName_14 : decode cX10_addName 14 = .ok (.aload_n 0, 1) := by decide +kernel
theorem dX10_addName_15 : decode cX10_addName 15 = .ok (.getfield 68, 3) := by decide +kernel
theorem dX10_addName_18 : decode cX10_addName 18 = .ok (.iload_n 2, 1) := by decide +kernel
theorem dX10_addName_19 : decode cX10_addName 19 = .ok (.iastore, 1) := by decide +kernel
theorem dX10_addName_20 : decode cX10_addName 20 = .ok (.aload_n 0, 1) := by decide +kernel
theorem dX10_addName_21 : decode cX10_addName 21 = .ok (.getfield 18, 3) := by decide +kernel
theorem dX10_addName_24 : decode cX10_addName 24 = .ok (.aload_n 0, 1) := by decide +kernel
theorem dX10_addName_25 : decode cX10_addName 25 = .ok (.getfield 68, 3) := by decide +kernel
theorem dX10_addName_28 : decode cX10_addName 28 = .ok (.iload_n 3, 1) := by decide +kernel
theorem dX10_addName_29 : decode cX10_addName 29 = .ok (.bipush 101, 2) := by decide +kernel
theorem dX10_addName_31 : decode cX10_addName 31 = .ok (.idiv, 1) := by decide +kernel
theorem dX10_addName_32 : decode cX10_addName 32 = .ok (.iastore, 1) := by decide +kernel
theorem dX10_addName_33 : decode cX10_addName 33 = .ok (.aload_n 0, 1) := by decide +kernel
theorem dX10_addName_34 : decode cX10_addName 34 = .ok (.getfield 21, 3) := by decide +kernel
theorem dX10_addName_37 : decode cX10_addName 37 = .ok (.aload_n 0, 1) := by decide +kernel
theorem dX10_addName_38 : decode cX10_addName 38 = .ok (.getfield 68, 3) := by decide +kernel
theorem dX10_addName_41 : decode cX10_addName 41 = .ok (.iload_n 3, 1) := by decide +kernel
theorem dX10_addName_42 : decode cX10_addName 42 = .ok (.bipush 101, 2) := by decide +kernel
theorem dX10_addName_44 : decode cX10_addName 44 = .ok (.irem, 1) := by decide +kernel
theorem dX10_addName_45 : decode cX10_addName 45 = .ok (.iastore, 1) := by decide +kernel
theorem dX10_addName_46 : decode cX10_addName 46 = .ok (.aload_n 0, 1) := by decide +kernel
theorem dX10_addName_47 : decode cX10_addName 47 = .ok (.dup, 1) := by decide +kernel
theorem dX10_addName_48 : decode cX10_addName 48 = .ok (.getfield 68, 3) := by decide +kernel
theorem dX10_addName_51 : decode cX10_addName 51 = .ok (.iconst 1, 1) := by decide +kernel
theorem dX10_addName_52 : decode cX10_addName 52 = .ok (.iadd, 1) := by decide +kernel
theorem dX10_addName_53 : decode cX10_addName 53 = .ok (.putfield 68, 3) := by decide +kernel
theorem dX10_addName_56 : decode cX10_addName 56 = .ok (.aload_n 0, 1) := by decide +kernel
theorem dX10_addName_57 : decode cX10_addName 57 = .ok (.getfield 68, 3) := by decide +kernel
theorem dX10_addName_60 : decode cX10_addName 60 = .ok (.iconst 1, 1) := by decide +kernel
theorem dX10_addName_61 : decode cX10_addName 61 = .ok (.isub, 1) := by decide +kernel
theorem dX10_addName_62 : decode cX10_addName 62 = .ok (.ireturn, 1) := by decide +kernel
theorem dX10_addHouse_0 : decode cX10_addHouse 0 = .ok (.aload_n 0, 1) := by decide +kernel
theorem dX10_addHouse_1 : decode cX10_addHouse 1 = .ok (.getfield 24, 3) := by decide +kernel
theorem dX10_addHouse_4 : decode cX10_addHouse 4 = .ok (.aload_n 0, 1) := by decide +kernel
theorem dX10_addHouse_5 : decode cX10_addHouse 5 = .ok (.getfield 71, 3) := by decide +kernel
theorem dX10_addHouse_8 : decode cX10_addHouse 8 = .ok (.iload_n 1, 1) := by decide +kernel
theorem dX10_addHouse_9 : decode cX10_addHouse 9 = .ok (.iastore, 1) := by decide +kernel
theorem dX10_addHouse_10 : decode cX10_addHouse 10 = .ok (.aload_n 0, 1) := by decide +kernel
theorem dX10_addHouse_11 : decode cX10_addHouse 11 = .ok (.getfield 27, 3) := by decide +kernel
theorem dX10_addHouse_14 : decode cX10_addHouse 14 = .ok (.aload_n 0, 1) := by decide +kernel
theorem dX10_addHouse_15 : decode cX10_addHouse 15 = .ok (.getfield 71, 3) := by decide +kernel
theorem dX10_addHouse_18 : decode cX10_addHouse 18 = .ok (.iload_n 2, 1) := by decide +kernel
theorem dX10_addHouse_19 : decode cX10_addHouse 19 = .ok (.iastore, 1) := by decide +kernel
theorem dX10_addHouse_20 : decode cX10_addHouse 20 = .ok (.aload_n 0, 1) := by decide +kernel
theorem dX10_addHouse_21 : decode cX10_addHouse 21 = .ok (.getfield 30, 3) := by decide +kernel
theorem dX10_addHouse_24 : decode cX10_addHouse 24 = .ok (.aload_n 0, 1) := by decide +kernel
theorem dX10_addHouse_25 : decode cX10_addHouse 25 = .ok (.getfield 71, 3) := by decide +kernel
theorem dX10_addHouse_28 : decode cX10_addHouse 28 = .ok (.iload_n 3, 1) := by decide +kernel
theorem dX10_addHouse_29 : decode cX10_addHouse 29 = .ok (.iastore, 1) := by decide +kernel
theorem dX10_addHouse_30 : decode cX10_addHouse 30 = .ok (.aload_n 0, 1) := by decide +kernel
theorem dX10_addHouse_31 : decode cX10_addHouse 31 = .ok (.dup, 1) := by decide +kernel
theorem dX10_addHouse_32 : decode cX10_addHouse 32 = .ok (.getfield 71, 3) := by decide +kernel
theorem dX10_addHouse_35 : decode cX10_addHouse 35 = .ok (.iconst 1, 1) := by decide +kernel
theorem dX10_addHouse_36 : decode cX10_addHouse 36 = .ok (.iadd, 1) := by decide +kernel
theorem dX10_addHouse_37 : decode cX10_addHouse 37 = .ok (.putfield 71, 3) := by decide +kernel
theorem dX10_addHouse_40 : decode cX10_addHouse 40 = .ok (.aload_n 0, 1) := by decide +kernel
theorem dX10_addHouse_41 : decode cX10_addHouse 41 = .ok (.getfield 71, 3) := by decide +kernel
theorem dX10_addHouse_44 : decode cX10_addHouse 44 = .ok (.iconst 1, 1) := by decide +kernel
theorem dX10_addHouse_45 : decode cX10_addHouse 45 = .ok (.isub, 1) := by decide +kernel
theorem dX10_addHouse_46 : decode cX10_addHouse 46 = .ok (.ireturn, 1) := by decide +kernel
theorem dX10_addLetter_0 : decode cX10_addLetter 0 = .ok (.aload_n 0, 1) := by decide +kernel
theorem dX10_addLetter_1 : decode cX10_addLetter 1 = .ok (.getfield 35, 3) := by decide +kernel
theorem dX10_addLetter_4 : decode cX10_addLetter 4 = .ok (.aload_n 0, 1) := by decide +kernel
theorem dX10_addLetter_5 : decode cX10_addLetter 5 = .ok (.getfield 74, 3) := by decide +kernel
theorem dX10_addLetter_8 : decode cX10_addLetter 8 = .ok (.aaload, 1) := by decide +kernel
theorem dX10_addLetter_9 : decode cX10_addLetter 9 = .ok (.astore 6, 2) := by decide +kernel
theorem dX10_addLetter_11 : decode cX10_addLetter 11 = .ok (.aload 6, 2) := by decide +kernel
theorem dX10_addLetter_13 : decode cX10_addLetter 13 = .ok (.iload_n 1, 1) := by decide +kernel
theorem dX10_addLetter_14 : decode cX10_addLetter 14 = .ok (.putfield 85, 3) := by decide +kernel
theorem dX10_addLetter_17 : decode cX10_addLetter 17 = .ok (.aload 6, 2) := by decide +kernel
theorem dX10_addLetter_19 : decode cX10_addLetter 19 = .ok (.iload_n 2, 1) := by decide +kernel
theorem dX10_addLetter_20 : decode cX10_addLetter 20 = .ok (.putfield 88, 3) := by decide +kernel
theorem dX10_addLetter_23 : decode cX10_addLetter 23 = .ok (.aload 6, 2) := by decide +kernel
theorem dX10_addLetter_25 : decode cX10_addLetter 25 = .ok (.iload_n 3, 1) := by decide +kernel
theorem dX10_addLetter_26 : decode cX10_addLetter 26 = .ok (.putfield 91, 3) := by decide +kernel
theorem dX10_addLetter_29 : decode cX10_addLetter 29 = .ok (.aload 6, 2) := by decide +kernel
theorem dX10_addLetter_31 : decode cX10_addLetter 31 = .ok (.iload 4, 2) := by decide +kernel
theorem dX10_addLetter_33 : decode cX10_addLetter 33 = .ok (.iconst 4, 1) := by decide +kernel
theorem dX10_addLetter_34 : decode cX10_addLetter 34 = .ok (.idiv, 1) := by decide +kernel
theorem dX10_addLetter_35 : decode cX10_addLetter 35 = .ok (.putfield 94, 3) := by decide +kernel
theorem dX10_addLetter_38 : decode cX10_addLetter 38 = .ok (.aload 6, 2) := by decide +kernel
theorem dX10_addLetter_40 : decode cX10_addLetter 40 = .ok (.iload 4, 2) := by decide +kernel
theorem dX10_addLetter_42 : decode cX10_addLetter 42 = .ok (.iconst 4, 1) := by decide +kernel
theorem dX10_addLetter_43 : decode cX10_addLetter 43 = .ok (.irem, 1) := by decide +kernel
theorem dX10_addLetter_44 : decode cX10_addLetter 44 = .ok (.putfield 97, 3) := by decide +kernel
theorem dX10_addLetter_47 : decode cX10_addLetter 47 = .ok (.aload 6, 2) := by decide +kernel
theorem dX10_addLetter_49 : decode cX10_addLetter 49 = .ok (.iload 5, 2) := by decide +kernel
theorem dX10_addLetter_51 : decode cX10_addLetter 51 = .ok (.putfield 100, 3) := by decide +kernel
theorem dX10_addLetter_54 : decode cX10_addLetter 54 = .ok (.aload 6, 2) := by decide +kernel
theorem dX10_addLetter_56 : decode cX10_addLetter 56 = .ok (.iconst 0, 1) := by decide +kernel
theorem dX10_addLetter_57 : decode cX10_addLetter 57 = .ok (.invokevirtual 103, 3) := by decide +kernel
theorem dX10_addLetter_60 : decode cX10_addLetter 60 = .ok (.aload_n 0, 1) := by decide +kernel
theorem dX10_addLetter_61 : decode cX10_addLetter 61 = .ok (.dup, 1) := by decide +kernel
theorem dX10_addLetter_62 : decode cX10_addLetter 62 = .ok (.getfield 74, 3) := by decide +kernel
theorem dX10_addLetter_65 : decode cX10_addLetter 65 = .ok (.iconst 1, 1) := by decide +kernel
theorem dX10_addLetter_66 : decode cX10_addLetter 66 = .ok (.iadd, 1) := by decide +kernel
theorem dX10_addLetter_67 : decode cX10_addLetter 67 = .ok (.putfield 74, 3) := by decide +kernel
theorem dX10_addLetter_70 : decode cX10_addLetter 70 = .ok (.aload_n 0, 1) := by decide +kernel
theorem dX10_addLetter_71 : decode cX10_addLetter 71 = .ok (.getfield 74, 3) := by decide +kernel
theorem dX10_addLetter_74 : decode cX10_addLetter 74 = .ok (.iconst 1, 1) := by decide +kernel
theorem dX10_addLetter_75 : decode cX10_addLetter 75 = .ok (.isub, 1) := by decide +kernel
theorem dX10_addLetter_76 : decode cX10_addLetter 76 = .ok (.ireturn, 1) := by decide +kernel
theorem dX10_draw_0 : decode cX10_draw 0 = .ok (.aload_n 0, 1) := by decide +kernel
theorem dX10_draw_1 : decode cX10_draw 1 = .ok (.aload_n 0, 1) := by decide +kernel
theorem dX10_draw_2 : decode cX10_draw 2 = .ok (.getfield 51, 3) := by decide +kernel
theorem dX10_draw_5 : decode cX10_draw 5 = .ok (.ldc 107, 2) := by decide +kernel
theorem dX10_draw_7 : decode cX10_draw 7 = .ok (.imul, 1) := by decide +kernel
theorem dX10_draw_8 : decode cX10_draw 8 = .ok (.sipush 12345, 3) := by decide +kernel
theorem dX10_draw_11 : decode cX10_draw 11 = .ok (.iadd, 1) := by decide +kernel
theorem dX10_draw_12 : decode cX10_draw 12 = .ok (.putfield 51, 3) := by decide +kernel
theorem dX10_draw_15 : decode cX10_draw 15 = .ok (.iload_n 1, 1) := by decide +kernel
theorem dX10_draw_16 : decode cX10_draw 16 = .ok (.ifCond .le 15, 3) := by decide +kernel
theorem dX10_draw_19 : decode cX10_draw 19 = .ok (.aload_n 0, 1) := by decide +kernel
theorem dX10_draw_20 : decode cX10_draw 20 = .ok (.getfield 51, 3) := by decide +kernel
theorem dX10_draw_23 : decode cX10_draw 23 = .ok (.bipush 16, 2) := by decide +kernel
theorem dX10_draw_25 : decode cX10_draw 25 = .ok (.iushr, 1) := by decide +kernel
theorem dX10_draw_26 : decode cX10_draw 26 = .ok (.iload_n 1, 1) := by decide +kernel
theorem dX10_draw_27 : decode cX10_draw 27 = .ok (.irem, 1) := by decide +kernel
theorem dX10_draw_28 : decode cX10_draw 28 = .ok (.goto 4, 3) := by decide +kernel
theorem dX10_draw_31 : decode cX10_draw 31 = .ok (.iconst 0, 1) := by decide +kernel
theorem dX10_draw_32 : decode cX10_draw 32 = .ok (.ireturn, 1) := by decide +kernel
theorem dX10_dealTo_0 : decode cX10_dealTo 0 = .ok (.getstatic 108, 3) := by decide +kernel
theorem dX10_dealTo_3 : decode cX10_dealTo 3 = .ok (.aload_n 0, 1) := by decide +kernel
theorem dX10_dealTo_4 : decode cX10_dealTo 4 = .ok (.bipush 6, 2) := by decide +kernel
theorem dX10_dealTo_6 : decode cX10_dealTo 6 = .ok (.invokevirtual 111, 3) := by decide +kernel
theorem dX10_dealTo_9 : decode cX10_dealTo 9 = .ok (.iaload, 1) := by decide +kernel
theorem dX10_dealTo_10 : decode cX10_dealTo 10 = .ok (.istore 4, 2) := by decide +kernel
theorem dX10_dealTo_12 : decode cX10_dealTo 12 = .ok (.iconst 0, 1) := by decide +kernel
theorem dX10_dealTo_13 : decode cX10_dealTo 13 = .ok (.istore 5, 2) := by decide +kernel
theorem dX10_dealTo_15 : decode cX10_dealTo 15 = .ok (.iload 5, 2) := by decide +kernel
theorem dX10_dealTo_17 : decode cX10_dealTo 17 = .ok (.iconst 4, 1) := by decide +kernel
theorem dX10_dealTo_18 : decode cX10_dealTo 18 = .ok (.if_icmp .ge 101, 3) := by decide +kernel
theorem dX10_dealTo_21 : decode cX10_dealTo 21 = .ok (.iload 4, 2) := by decide +kernel
theorem dX10_dealTo_23 : decode cX10_dealTo 23 = .ok (.iload 5, 2) := by decide +kernel
theorem dX10_dealTo_25 : decode cX10_dealTo 25 = .ok (.ishr, 1) := by decide +kernel
theorem dX10_dealTo_26 : decode cX10_dealTo 26 = .ok (.iconst 1, 1) := by decide +kernel
theorem dX10_dealTo_27 : decode cX10_dealTo 27 = .ok (.iand, 1) := by decide +kernel
theorem dX10_dealTo_28 : decode cX10_dealTo 28 = .ok (.istore 6, 2) := by decide +kernel
theorem dX10_dealTo_30 : decode cX10_dealTo 30 = .ok (.iload 6, 2) := by decide +kernel
theorem dX10_dealTo_32 : decode cX10_dealTo 32 = .ok (.iconst 1, 1) := by decide +kernel
theorem dX10_dealTo_33 : decode cX10_dealTo 33 = .ok (.if_icmp .ne 8, 3) := by decide +kernel
theorem dX10_dealTo_36 : decode cX10_dealTo 36 = .ok (.iload 4, 2) := by decide +kernel
theorem dX10_dealTo_38 : decode cX10_dealTo 38 = .ok (.goto 7, 3) := by decide +kernel
theorem dX10_dealTo_41 : decode cX10_dealTo 41 = .ok (.iload 4, 2) := by decide +kernel
theorem dX10_dealTo_43 : decode cX10_dealTo 43 = .ok (.iconst (-1), 1) := by decide +kernel
theorem dX10_dealTo_44 : decode cX10_dealTo 44 = .ok (.ixor, 1) := by decide +kernel
theorem dX10_dealTo_45 : decode cX10_dealTo 45 = .ok (.istore 7, 2) := by decide +kernel
theorem dX10_dealTo_47 : decode cX10_dealTo 47 = .ok (.iload 7, 2) := by decide +kernel
theorem dX10_dealTo_49 : decode cX10_dealTo 49 = .ok (.iconst 1, 1) := by decide +kernel
theorem dX10_dealTo_50 : decode cX10_dealTo 50 = .ok (.iload 5, 2) := by decide +kernel
theorem dX10_dealTo_52 : decode cX10_dealTo 52 = .ok (.ishl, 1) := by decide +kernel
theorem dX10_dealTo_53 : decode cX10_dealTo 53 = .ok (.iconst 1, 1) := by decide +kernel
theorem dX10_dealTo_54 : decode cX10_dealTo 54 = .ok (.isub, 1) := by decide +kernel
theorem dX10_dealTo_55 : decode cX10_dealTo 55 = .ok (.iand, 1) := by decide +kernel
theorem dX10_dealTo_56 : decode cX10_dealTo 56 = .ok (.ifCond .ne 7, 3) := by decide +kernel
theorem dX10_dealTo_59 : decode cX10_dealTo 59 = .ok (.iconst 1, 1) := by decide +kernel
theorem dX10_dealTo_60 : decode cX10_dealTo 60 = .ok (.goto 4, 3) := by decide +kernel
theorem dX10_dealTo_63 : decode cX10_dealTo 63 = .ok (.iconst 0, 1) := by decide +kernel
theorem dX10_dealTo_64 : decode cX10_dealTo 64 = .ok (.istore 8, 2) := by decide +kernel
theorem dX10_dealTo_66 : decode cX10_dealTo 66 = .ok (.aload_n 0, 1) := by decide +kernel
theorem dX10_dealTo_67 : decode cX10_dealTo 67 = .ok (.iload_n 1, 1) := by decide +kernel
theorem dX10_dealTo_68 : decode cX10_dealTo 68 = .ok (.iload 6, 2) := by decide +kernel
theorem dX10_dealTo_70 : decode cX10_dealTo 70 = .ok (.invokevirtual 115, 3) := by decide +kernel
theorem dX10_dealTo_73 : decode cX10_dealTo 73 = .ok (.istore 9, 2) := by decide +kernel
theorem dX10_dealTo_75 : decode cX10_dealTo 75 = .ok (.aload_n 0, 1) := by decide +kernel
theorem dX10_dealTo_76 : decode cX10_dealTo 76 = .ok (.iconst 4, 1) := by decide +kernel
theorem dX10_dealTo_77 : decode cX10_dealTo 77 = .ok (.invokevirtual 111, 3) := by decide +kernel
theorem dX10_dealTo_80 : decode cX10_dealTo 80 = .ok (.istore 10, 2) := by decide +kernel
theorem dX10_dealTo_82 : decode cX10_dealTo 82 = .ok (.aload_n 0, 1) := by decide +kernel
theorem dX10_dealTo_83 : decode cX10_dealTo 83 = .ok (.sipush 400, 3) := by decide +kernel
theorem dX10_dealTo_86 : decode cX10_dealTo 86 = .ok (.invokevirtual 111, 3) := by decide +kernel
theorem dX10_dealTo_89 : decode cX10_dealTo 89 = .ok (.istore 11, 2) := by decide +kernel
theorem dX10_dealTo_91 : decode cX10_dealTo 91 = .ok (.aload_n 0, 1) := by decide +kernel
theorem dX10_dealTo_92 : decode cX10_dealTo 92 = .ok (.iload_n 1, 1) := by decide +kernel
theorem dX10_dealTo_93 : decode cX10_dealTo 93 = .ok (.iload 9, 2) := by decide +kernel
theorem dX10_dealTo_95 : decode cX10_dealTo 95 = .ok (.iload 8, 2) := by decide +kernel
theorem dX10_dealTo_97 : decode cX10_dealTo 97 = .ok (.ifCond .eq 7, 3) := by decide +kernel
theorem dX10_dealTo_100 : decode cX10_dealTo 100 = .ok (.iload_n 2, 1) := by decide +kernel
theorem dX10_dealTo_101 : decode cX10_dealTo 101 = .ok (.goto 4, 3) := by decide +kernel
theorem dX10_dealTo_104 : decode cX10_dealTo 104 = .ok (.iload_n 3, 1) := by decide +kernel
theorem dX10_dealTo_105 : decode cX10_dealTo 105 = .ok (.iload 10, 2) := by decide +kernel
theorem dX10_dealTo_107 : decode cX10_dealTo 107 = .ok (.iload 11, 2) := by decide +kernel
theorem dX10_dealTo_109 : decode cX10_dealTo 109 = .ok (.invokevirtual 119, 3) := by decide +kernel
theorem dX10_dealTo_112 : decode cX10_dealTo 112 = .ok (.pop, 1) := by decide +kernel
theorem dX10_dealTo_113 : decode cX10_dealTo 113 = .ok (.iinc 5 1, 3) := by decide +kernel
theorem dX10_dealTo_116 : decode cX10_dealTo 116 = .ok (.goto (-101), 3) := by decide +kernel
theorem dX10_dealTo_119 : decode cX10_dealTo 119 = .ok (.aload_n 0, 1) := by decide +kernel
theorem dX10_dealTo_120 : decode cX10_dealTo 120 = .ok (.getfield 74, 3) := by decide +kernel
theorem dX10_dealTo_123 : decode cX10_dealTo 123 = .ok (.ireturn, 1) := by decide +kernel
theorem dX10_drawName_0 : decode cX10_drawName 0 = .ok (.iconst 0, 1) := by decide +kernel
theorem dX10_drawName_1 : decode cX10_drawName 1 = .ok (.istore_n 3, 1) := by decide +kernel
theorem dX10_drawName_2 : decode cX10_drawName 2 = .ok (.iconst 0, 1) := by decide +kernel
theorem dX10_drawName_3 : decode cX10_drawName 3 = .ok (.istore 4, 2) := by decide +kernel
theorem dX10_drawName_5 : decode cX10_drawName 5 = .ok (.iload 4, 2) := by decide +kernel
theorem dX10_drawName_7 : decode cX10_drawName 7 = .ok (.aload_n 0, 1) := by decide +kernel
theorem dX10_drawName_8 : decode cX10_drawName 8 = .ok (.getfield 68, 3) := by decide +kernel
theorem dX10_drawName_11 : decode cX10_drawName 11 = .ok (.if_icmp .ge 28, 3) := by decide +kernel
theorem dX10_drawName_14 : decode cX10_drawName 14 = .ok (.iload_n 3, 1) := by decide +kernel
theorem dX10_drawName_15 : decode cX10_drawName 15 = .ok (.aload_n 0, 1) := by decide +kernel
theorem dX10_drawName_16 : decode cX10_drawName 16 = .ok (.iload 4, 2) := by decide +kernel
theorem dX10_drawName_18 : decode cX10_drawName 18 = .ok (.iload_n 1, 1) := by decide +kernel
theorem dX10_drawName_19 : decode cX10_drawName 19 = .ok (.iload_n 2, 1) := by decide +kernel
theorem dX10_drawName_20 : decode cX10_drawName 20 = .ok (.invokevirtual 123, 3) := by decide +kernel
theorem dX10_drawName_23 : decode cX10_drawName 23 = .ok (.ifCond .eq 7, 3) := by decide +kernel
theorem dX10_drawName_26 : decode cX10_drawName 26 = .ok (.iconst 1, 1) := by decide +kernel
theorem dX10_drawName_27 : decode cX10_drawName 27 = .ok (.goto 4, 3) := by decide +kernel
theorem dX10_drawName_30 : decode cX10_drawName 30 = .ok (.iconst 0, 1) := by decide +kernel
theorem dX10_drawName_31 : decode cX10_drawName 31 = .ok (.iadd, 1) := by decide +kernel
theorem dX10_drawName_32 : decode cX10_drawName 32 = .ok (.istore_n 3, 1) := by decide +kernel
theorem dX10_drawName_33 : decode cX10_drawName 33 = .ok (.iinc 4 1, 3) := by decide +kernel
theorem dX10_drawName_36 : decode cX10_drawName 36 = .ok (.goto (-31), 3) := by decide +kernel
theorem dX10_drawName_39 : decode cX10_drawName 39 = .ok (.aload_n 0, 1) := by decide +kernel
theorem dX10_drawName_40 : decode cX10_drawName 40 = .ok (.iload_n 3, 1) := by decide +kernel
theorem dX10_drawName_41 : decode cX10_drawName 41 = .ok (.invokevirtual 111, 3) := by decide +kernel
theorem dX10_drawName_44 : decode cX10_drawName 44 = .ok (.istore 4, 2) := by decide +kernel
theorem dX10_drawName_46 : decode cX10_drawName 46 = .ok (.iconst 0, 1) := by decide +kernel
theorem dX10_drawName_47 : decode cX10_drawName 47 = .ok (.istore 5, 2) := by decide +kernel
theorem dX10_drawName_49 : decode cX10_drawName 49 = .ok (.iload 5, 2) := by decide +kernel
theorem dX10_drawName_51 : decode cX10_drawName 51 = .ok (.aload_n 0, 1) := by decide +kernel
theorem dX10_drawName_52 : decode cX10_drawName 52 = .ok (.getfield 68, 3) := by decide +kernel
theorem dX10_drawName_55 : decode cX10_drawName 55 = .ok (.if_icmp .ge 31, 3) := by decide +kernel
theorem dX10_drawName_58 : decode cX10_drawName 58 = .ok (.aload_n 0, 1) := by decide +kernel
theorem dX10_drawName_59 : decode cX10_drawName 59 = .ok (.iload 5, 2) := by decide +kernel
theorem dX10_drawName_61 : decode cX10_drawName 61 = .ok (.iload_n 1, 1) := by decide +kernel
theorem dX10_drawName_62 : decode cX10_drawName 62 = .ok (.iload_n 2, 1) := by decide +kernel
theorem dX10_drawName_63 : decode cX10_drawName 63 = .ok (.invokevirtual 123, 3) := by decide +kernel
theorem dX10_drawName_66 : decode cX10_drawName 66 = .ok (.ifCond .eq 14, 3) := by decide +kernel
theorem dX10_drawName_69 : decode cX10_drawName 69 = .ok (.iload 4, 2) := by decide +kernel
theorem dX10_drawName_71 : decode cX10_drawName 71 = .ok (.ifCond .ne 6, 3) := by decide +kernel
theorem dX10_drawName_74 : decode cX10_drawName 74 = .ok (.iload 5, 2) := by decide +kernel
theorem dX10_drawName_76 : decode cX10_drawName 76 = .ok (.ireturn, 1) := by decide +kernel
theorem dX10_drawName_77 : decode cX10_drawName 77 = .ok (.iinc 4 (-1), 3) := by decide +kernel
theorem dX10_drawName_80 : decode cX10_drawName 80 = .ok (.iinc 5 1, 3) := by decide +kernel
theorem dX10_drawName_83 : decode cX10_drawName 83 = .ok (.goto (-34), 3) := by decide +kernel
theorem dX10_drawName_86 : decode cX10_drawName 86 = .ok (.iconst 0, 1) := by decide +kernel
theorem dX10_drawName_87 : decode cX10_drawName 87 = .ok (.ireturn, 1) := by decide +kernel
theorem dX10_isFree_0 : decode cX10_isFree 0 = .ok (.iconst 0, 1) := by decide +kernel
theorem dX10_isFree_1 : decode cX10_isFree 1 = .ok (.istore 4, 2) := by decide +kernel
theorem dX10_isFree_3 : decode cX10_isFree 3 = .ok (.iload 4, 2) := by decide +kernel
theorem dX10_isFree_5 : decode cX10_isFree 5 = .ok (.aload_n 0, 1) := by decide +kernel
theorem dX10_isFree_6 : decode cX10_isFree 6 = .ok (.getfield 74, 3) := by decide +kernel
theorem dX10_isFree_9 : decode cX10_isFree 9 = .ok (.if_icmp .ge 39, 3) := by decide +kernel
theorem dX10_isFree_12 : decode cX10_isFree 12 = .ok (.aload_n 0, 1) := by decide +kernel
theorem dX10_isFree_13 : decode cX10_isFree 13 = .ok (.getfield 35, 3) := by decide +kernel
theorem dX10_isFree_16 : decode cX10_isFree 16 = .ok (.iload 4, 2) := by decide +kernel
theorem dX10_isFree_18 : decode cX10_isFree 18 = .ok (.aaload, 1) := by decide +kernel
theorem dX10_isFree_19 : decode cX10_isFree 19 = .ok (.getfield 85, 3) := by decide +kernel
theorem dX10_isFree_22 : decode cX10_isFree 22 = .ok (.iload_n 2, 1) := by decide +kernel
theorem dX10_isFree_23 : decode cX10_isFree 23 = .ok (.if_icmp .ne 19, 3) := by decide +kernel
theorem dX10_isFree_26 : decode cX10_isFree 26 = .ok (.aload_n 0, 1) := by decide +kernel
theorem dX10_isFree_27 : decode cX10_isFree 27 = .ok (.getfield 35, 3) := by decide +kernel
theorem dX10_isFree_30 : decode cX10_isFree 30 = .ok (.iload 4, 2) := by decide +kernel
theorem dX10_isFree_32 : decode cX10_isFree 32 = .ok (.aaload, 1) := by decide +kernel
theorem dX10_isFree_33 : decode cX10_isFree 33 = .ok (.getfield 88, 3) := by decide +kernel
theorem dX10_isFree_36 : decode cX10_isFree 36 = .ok (.iload_n 1, 1) := by decide +kernel
theorem dX10_isFree_37 : decode cX10_isFree 37 = .ok (.if_icmp .ne 5, 3) := by decide +kernel
theorem dX10_isFree_40 : decode cX10_isFree 40 = .ok (.iconst 0, 1) := by decide +kernel
theorem dX10_isFree_41 : decode cX10_isFree 41 = .ok (.ireturn, 1) := by decide +kernel
theorem dX10_isFree_42 : decode cX10_isFree 42 = .ok (.iinc 4 1, 3) := by decide +kernel
theorem dX10_isFree_45 : decode cX10_isFree 45 = .ok (.goto (-42), 3) := by decide +kernel
theorem dX10_isFree_48 : decode cX10_isFree 48 = .ok (.aload_n 0, 1) := by decide +kernel
theorem dX10_isFree_49 : decode cX10_isFree 49 = .ok (.getfield 9, 3) := by decide +kernel
theorem dX10_isFree_52 : decode cX10_isFree 52 = .ok (.iload_n 1, 1) := by decide +kernel
theorem dX10_isFree_53 : decode cX10_isFree 53 = .ok (.iaload, 1) := by decide +kernel
theorem dX10_isFree_54 : decode cX10_isFree 54 = .ok (.iload_n 3, 1) := by decide +kernel
theorem dX10_isFree_55 : decode cX10_isFree 55 = .ok (.if_icmp .ne 7, 3) := by decide +kernel
theorem dX10_isFree_58 : decode cX10_isFree 58 = .ok (.iconst 1, 1) := by decide +kernel
theorem dX10_isFree_59 : decode cX10_isFree 59 = .ok (.goto 4, 3) := by decide +kernel
theorem dX10_isFree_62 : decode cX10_isFree 62 = .ok (.iconst 0, 1) := by decide +kernel
theorem dX10_isFree_63 : decode cX10_isFree 63 = .ok (.ireturn, 1) := by decide +kernel
theorem dX10_namesOf_0 : decode cX10_namesOf 0 = .ok (.iconst 0, 1) := by decide +kernel
theorem dX10_namesOf_1 : decode cX10_namesOf 1 = .ok (.istore_n 2, 1) := by decide +kernel
theorem dX10_namesOf_2 : decode cX10_namesOf 2 = .ok (.iconst 0, 1) := by decide +kernel
theorem dX10_namesOf_3 : decode cX10_namesOf 3 = .ok (.istore_n 3, 1) := by decide +kernel
theorem dX10_namesOf_4 : decode cX10_namesOf 4 = .ok (.iload_n 3, 1) := by decide +kernel
theorem dX10_namesOf_5 : decode cX10_namesOf 5 = .ok (.aload_n 0, 1) := by decide +kernel
theorem dX10_namesOf_6 : decode cX10_namesOf 6 = .ok (.getfield 68, 3) := by decide +kernel
theorem dX10_namesOf_9 : decode cX10_namesOf 9 = .ok (.if_icmp .ge 27, 3) := by decide +kernel
theorem dX10_namesOf_12 : decode cX10_namesOf 12 = .ok (.iload_n 2, 1) := by decide +kernel
theorem dX10_namesOf_13 : decode cX10_namesOf 13 = .ok (.aload_n 0, 1) := by decide +kernel
theorem dX10_namesOf_14 : decode cX10_namesOf 14 = .ok (.getfield 9, 3) := by decide +kernel
theorem dX10_namesOf_17 : decode cX10_namesOf 17 = .ok (.iload_n 3, 1) := by decide +kernel
theorem dX10_namesOf_18 : decode cX10_namesOf 18 = .ok (.iaload, 1) := by decide +kernel
theorem dX10_namesOf_19 : decode cX10_namesOf 19 = .ok (.iload_n 1, 1) := by decide +kernel
theorem dX10_namesOf_20 : decode cX10_namesOf 20 = .ok (.if_icmp .ne 7, 3) := by decide +kernel
theorem dX10_namesOf_23 : decode cX10_namesOf 23 = .ok (.iconst 1, 1) := by decide +kernel
theorem dX10_namesOf_24 : decode cX10_namesOf 24 = .ok (.goto 4, 3) := by decide +kernel
theorem dX10_namesOf_27 : decode cX10_namesOf 27 = .ok (.iconst 0, 1) := by decide +kernel
theorem dX10_namesOf_28 : decode cX10_namesOf 28 = .ok (.iadd, 1) := by decide +kernel
theorem dX10_namesOf_29 : decode cX10_namesOf 29 = .ok (.istore_n 2, 1) := by decide +kernel
theorem dX10_namesOf_30 : decode cX10_namesOf 30 = .ok (.iinc 3 1, 3) := by decide +kernel
theorem dX10_namesOf_33 : decode cX10_namesOf 33 = .ok (.goto (-29), 3) := by decide +kernel
theorem dX10_namesOf_36 : decode cX10_namesOf 36 = .ok (.iload_n 2, 1) := by decide +kernel
theorem dX10_namesOf_37 : decode cX10_namesOf 37 = .ok (.ireturn, 1) := by decide +kernel
theorem dX10_lettersTo_0 : decode cX10_lettersTo 0 = .ok (.iconst 0, 1) := by decide +kernel
theorem dX10_lettersTo_1 : decode cX10_lettersTo 1 = .ok (.istore_n 2, 1) := by decide +kernel
theorem dX10_lettersTo_2 : decode cX10_lettersTo 2 = .ok (.iconst 0, 1) := by decide +kernel
theorem dX10_lettersTo_3 : decode cX10_lettersTo 3 = .ok (.istore_n 3, 1) := by decide +kernel
theorem dX10_lettersTo_4 : decode cX10_lettersTo 4 = .ok (.iload_n 3, 1) := by decide +kernel
theorem dX10_lettersTo_5 : decode cX10_lettersTo 5 = .ok (.aload_n 0, 1) := by decide +kernel
theorem dX10_lettersTo_6 : decode cX10_lettersTo 6 = .ok (.getfield 74, 3) := by decide +kernel
theorem dX10_lettersTo_9 : decode cX10_lettersTo 9 = .ok (.if_icmp .ge 30, 3) := by decide +kernel
theorem dX10_lettersTo_12 : decode cX10_lettersTo 12 = .ok (.iload_n 2, 1) := by decide +kernel
theorem dX10_lettersTo_13 : decode cX10_lettersTo 13 = .ok (.aload_n 0, 1) := by decide +kernel
theorem dX10_lettersTo_14 : decode cX10_lettersTo 14 = .ok (.getfield 35, 3) := by decide +kernel
theorem dX10_lettersTo_17 : decode cX10_lettersTo 17 = .ok (.iload_n 3, 1) := by decide +kernel
theorem dX10_lettersTo_18 : decode cX10_lettersTo 18 = .ok (.aaload, 1) := by decide +kernel
theorem dX10_lettersTo_19 : decode cX10_lettersTo 19 = .ok (.getfield 85, 3) := by decide +kernel
theorem dX10_lettersTo_22 : decode cX10_lettersTo 22 = .ok (.iload_n 1, 1) := by decide +kernel
theorem dX10_lettersTo_23 : decode cX10_lettersTo 23 = .ok (.if_icmp .ne 7, 3) := by decide +kernel
theorem dX10_lettersTo_26 : decode cX10_lettersTo 26 = .ok (.iconst 1, 1) := by decide +kernel
theorem dX10_lettersTo_27 : decode cX10_lettersTo 27 = .ok (.goto 4, 3) := by decide +kernel
theorem dX10_lettersTo_30 : decode cX10_lettersTo 30 = .ok (.iconst 0, 1) := by decide +kernel
theorem dX10_lettersTo_31 : decode cX10_lettersTo 31 = .ok (.iadd, 1) := by decide +kernel
theorem dX10_lettersTo_32 : decode cX10_lettersTo 32 = .ok (.istore_n 2, 1) := by decide +kernel
theorem dX10_lettersTo_33 : decode cX10_lettersTo 33 = .ok (.iinc 3 1, 3) := by decide +kernel
theorem dX10_lettersTo_36 : decode cX10_lettersTo 36 = .ok (.goto (-32), 3) := by decide +kernel
theorem dX10_lettersTo_39 : decode cX10_lettersTo 39 = .ok (.iload_n 2, 1) := by decide +kernel
theorem dX10_lettersTo_40 : decode cX10_lettersTo 40 = .ok (.ireturn, 1) := by decide +kernel
theorem dX10_peopleOf_0 : decode cX10_peopleOf 0 = .ok (.aload_n 0, 1) := by decide +kernel
theorem dX10_peopleOf_1 : decode cX10_peopleOf 1 = .ok (.getfield 9, 3) := by decide +kernel
theorem dX10_peopleOf_4 : decode cX10_peopleOf 4 = .ok (.aload_n 1, 1) := by decide +kernel
theorem dX10_peopleOf_5 : decode cX10_peopleOf 5 = .ok (.getfield 88, 3) := by decide +kernel
theorem dX10_peopleOf_8 : decode cX10_peopleOf 8 = .ok (.iaload, 1) := by decide +kernel
theorem dX10_peopleOf_9 : decode cX10_peopleOf 9 = .ok (.ireturn, 1) := by decide +kernel
theorem dX10_hasRead_0 : decode cX10_hasRead 0 = .ok (.iconst 0, 1) := by decide +kernel
theorem dX10_hasRead_1 : decode cX10_hasRead 1 = .ok (.istore_n 2, 1) := by decide +kernel
theorem dX10_hasRead_2 : decode cX10_hasRead 2 = .ok (.iload_n 2, 1) := by decide +kernel
theorem dX10_hasRead_3 : decode cX10_hasRead 3 = .ok (.aload_n 0, 1) := by decide +kernel
theorem dX10_hasRead_4 : decode cX10_hasRead 4 = .ok (.getfield 74, 3) := by decide +kernel
theorem dX10_hasRead_7 : decode cX10_hasRead 7 = .ok (.if_icmp .ge 36, 3) := by decide +kernel
theorem dX10_hasRead_10 : decode cX10_hasRead 10 = .ok (.aload_n 0, 1) := by decide +kernel
theorem dX10_hasRead_11 : decode cX10_hasRead 11 = .ok (.getfield 35, 3) := by decide +kernel
theorem dX10_hasRead_14 : decode cX10_hasRead 14 = .ok (.iload_n 2, 1) := by decide +kernel
theorem dX10_hasRead_15 : decode cX10_hasRead 15 = .ok (.aaload, 1) := by decide +kernel
theorem dX10_hasRead_16 : decode cX10_hasRead 16 = .ok (.getfield 85, 3) := by decide +kernel
theorem dX10_hasRead_19 : decode cX10_hasRead 19 = .ok (.iload_n 1, 1) := by decide +kernel
theorem dX10_hasRead_20 : decode cX10_hasRead 20 = .ok (.if_icmp .ne 17, 3) := by decide +kernel
theorem dX10_hasRead_23 : decode cX10_hasRead 23 = .ok (.aload_n 0, 1) := by decide +kernel
theorem dX10_hasRead_24 : decode cX10_hasRead 24 = .ok (.getfield 35, 3) := by decide +kernel
theorem dX10_hasRead_27 : decode cX10_hasRead 27 = .ok (.iload_n 2, 1) := by decide +kernel
theorem dX10_hasRead_28 : decode cX10_hasRead 28 = .ok (.aaload, 1) := by decide +kernel
theorem dX10_hasRead_29 : decode cX10_hasRead 29 = .ok (.getfield 126, 3) := by decide +kernel
theorem dX10_hasRead_32 : decode cX10_hasRead 32 = .ok (.ifCond .eq 5, 3) := by decide +kernel
theorem dX10_hasRead_35 : decode cX10_hasRead 35 = .ok (.iconst 1, 1) := by decide +kernel
theorem dX10_hasRead_36 : decode cX10_hasRead 36 = .ok (.ireturn, 1) := by decide +kernel
theorem dX10_hasRead_37 : decode cX10_hasRead 37 = .ok (.iinc 2 1, 3) := by decide +kernel
theorem dX10_hasRead_40 : decode cX10_hasRead 40 = .ok (.goto (-38), 3) := by decide +kernel
theorem dX10_hasRead_43 : decode cX10_hasRead 43 = .ok (.iconst 0, 1) := by decide +kernel
theorem dX10_hasRead_44 : decode cX10_hasRead 44 = .ok (.ireturn, 1) := by decide +kernel
theorem dX10_readCount_0 : decode cX10_readCount 0 = .ok (.iconst 0, 1) := by decide +kernel
theorem dX10_readCount_1 : decode cX10_readCount 1 = .ok (.istore_n 1, 1) := by decide +kernel
theorem dX10_readCount_2 : decode cX10_readCount 2 = .ok (.iconst 0, 1) := by decide +kernel
theorem dX10_readCount_3 : decode cX10_readCount 3 = .ok (.istore_n 2, 1) := by decide +kernel
theorem dX10_readCount_4 : decode cX10_readCount 4 = .ok (.iload_n 2, 1) := by decide +kernel
theorem dX10_readCount_5 : decode cX10_readCount 5 = .ok (.aload_n 0, 1) := by decide +kernel
theorem dX10_readCount_6 : decode cX10_readCount 6 = .ok (.getfield 74, 3) := by decide +kernel
theorem dX10_readCount_9 : decode cX10_readCount 9 = .ok (.if_icmp .ge 29, 3) := by decide +kernel
theorem dX10_readCount_12 : decode cX10_readCount 12 = .ok (.iload_n 1, 1) := by decide +kernel
theorem dX10_readCount_13 : decode cX10_readCount 13 = .ok (.aload_n 0, 1) := by decide +kernel
theorem dX10_readCount_14 : decode cX10_readCount 14 = .ok (.getfield 35, 3) := by decide +kernel
theorem dX10_readCount_17 : decode cX10_readCount 17 = .ok (.iload_n 2, 1) := by decide +kernel
theorem dX10_readCount_18 : decode cX10_readCount 18 = .ok (.aaload, 1) := by decide +kernel
theorem dX10_readCount_19 : decode cX10_readCount 19 = .ok (.getfield 126, 3) := by decide +kernel
theorem dX10_readCount_22 : decode cX10_readCount 22 = .ok (.ifCond .eq 7, 3) := by decide +kernel
theorem dX10_readCount_25 : decode cX10_readCount 25 = .ok (.iconst 1, 1) := by decide +kernel
theorem dX10_readCount_26 : decode cX10_readCount 26 = .ok (.goto 4, 3) := by decide +kernel
theorem dX10_readCount_29 : decode cX10_readCount 29 = .ok (.iconst 0, 1) := by decide +kernel
theorem dX10_readCount_30 : decode cX10_readCount 30 = .ok (.iadd, 1) := by decide +kernel
theorem dX10_readCount_31 : decode cX10_readCount 31 = .ok (.istore_n 1, 1) := by decide +kernel
theorem dX10_readCount_32 : decode cX10_readCount 32 = .ok (.iinc 2 1, 3) := by decide +kernel
theorem dX10_readCount_35 : decode cX10_readCount 35 = .ok (.goto (-31), 3) := by decide +kernel
theorem dX10_readCount_38 : decode cX10_readCount 38 = .ok (.iload_n 1, 1) := by decide +kernel
theorem dX10_readCount_39 : decode cX10_readCount 39 = .ok (.ireturn, 1) := by decide +kernel
theorem dX10_rungCount_0 : decode cX10_rungCount 0 = .ok (.iconst 0, 1) := by decide +kernel
theorem dX10_rungCount_1 : decode cX10_rungCount 1 = .ok (.istore_n 1, 1) := by decide +kernel
theorem dX10_rungCount_2 : decode cX10_rungCount 2 = .ok (.iconst 0, 1) := by decide +kernel
theorem dX10_rungCount_3 : decode cX10_rungCount 3 = .ok (.istore_n 2, 1) := by decide +kernel
theorem dX10_rungCount_4 : decode cX10_rungCount 4 = .ok (.iload_n 2, 1) := by decide +kernel
theorem dX10_rungCount_5 : decode cX10_rungCount 5 = .ok (.aload_n 0, 1) := by decide +kernel
theorem dX10_rungCount_6 : decode cX10_rungCount 6 = .ok (.getfield 74, 3) := by decide +kernel
theorem dX10_rungCount_9 : decode cX10_rungCount 9 = .ok (.if_icmp .ge 29, 3) := by decide +kernel
theorem dX10_rungCount_12 : decode cX10_rungCount 12 = .ok (.iload_n 1, 1) := by decide +kernel
theorem dX10_rungCount_13 : decode cX10_rungCount 13 = .ok (.aload_n 0, 1) := by decide +kernel
theorem dX10_rungCount_14 : decode cX10_rungCount 14 = .ok (.getfield 35, 3) := by decide +kernel
theorem dX10_rungCount_17 : decode cX10_rungCount 17 = .ok (.iload_n 2, 1) := by decide +kernel
theorem dX10_rungCount_18 : decode cX10_rungCount 18 = .ok (.aaload, 1) := by decide +kernel
theorem dX10_rungCount_19 : decode cX10_rungCount 19 = .ok (.getfield 130, 3) := by decide +kernel
theorem dX10_rungCount_22 : decode cX10_rungCount 22 = .ok (.ifCond .eq 7, 3) := by decide +kernel
theorem dX10_rungCount_25 : decode cX10_rungCount 25 = .ok (.iconst 1, 1) := by decide +kernel
theorem dX10_rungCount_26 : decode cX10_rungCount 26 = .ok (.goto 4, 3) := by decide +kernel
theorem dX10_rungCount_29 : decode cX10_rungCount 29 = .ok (.iconst 0, 1) := by decide +kernel
theorem dX10_rungCount_30 : decode cX10_rungCount 30 = .ok (.iadd, 1) := by decide +kernel
theorem dX10_rungCount_31 : decode cX10_rungCount 31 = .ok (.istore_n 1, 1) := by decide +kernel
theorem dX10_rungCount_32 : decode cX10_rungCount 32 = .ok (.iinc 2 1, 3) := by decide +kernel
theorem dX10_rungCount_35 : decode cX10_rungCount 35 = .ok (.goto (-31), 3) := by decide +kernel
theorem dX10_rungCount_38 : decode cX10_rungCount 38 = .ok (.iload_n 1, 1) := by decide +kernel
theorem dX10_rungCount_39 : decode cX10_rungCount 39 = .ok (.ireturn, 1) := by decide +kernel
theorem dX10_lookAt_0 : decode cX10_lookAt 0 = .ok (.aload_n 0, 1) := by decide +kernel
theorem dX10_lookAt_1 : decode cX10_lookAt 1 = .ok (.getfield 48, 3) := by decide +kernel
theorem dX10_lookAt_4 : decode cX10_lookAt 4 = .ok (.iconst 0, 1) := by decide +kernel
theorem dX10_lookAt_5 : decode cX10_lookAt 5 = .ok (.aload_n 1, 1) := by decide +kernel
theorem dX10_lookAt_6 : decode cX10_lookAt 6 = .ok (.getfield 91, 3) := by decide +kernel
theorem dX10_lookAt_9 : decode cX10_lookAt 9 = .ok (.iastore, 1) := by decide +kernel
theorem dX10_lookAt_10 : decode cX10_lookAt 10 = .ok (.aload_n 0, 1) := by decide +kernel
theorem dX10_lookAt_11 : decode cX10_lookAt 11 = .ok (.getfield 48, 3) := by decide +kernel
theorem dX10_lookAt_14 : decode cX10_lookAt 14 = .ok (.iconst 1, 1) := by decide +kernel
theorem dX10_lookAt_15 : decode cX10_lookAt 15 = .ok (.aload_n 1, 1) := by decide +kernel
theorem dX10_lookAt_16 : decode cX10_lookAt 16 = .ok (.getfield 94, 3) := by decide +kernel
theorem dX10_lookAt_19 : decode cX10_lookAt 19 = .ok (.iastore, 1) := by decide +kernel
theorem dX10_lookAt_20 : decode cX10_lookAt 20 = .ok (.aload_n 0, 1) := by decide +kernel
theorem dX10_lookAt_21 : decode cX10_lookAt 21 = .ok (.getfield 48, 3) := by decide +kernel
theorem dX10_lookAt_24 : decode cX10_lookAt 24 = .ok (.iconst 2, 1) := by decide +kernel
theorem dX10_lookAt_25 : decode cX10_lookAt 25 = .ok (.aload_n 1, 1) := by decide +kernel
theorem dX10_lookAt_26 : decode cX10_lookAt 26 = .ok (.getfield 97, 3) := by decide +kernel
theorem dX10_lookAt_29 : decode cX10_lookAt 29 = .ok (.iastore, 1) := by decide +kernel
theorem dX10_lookAt_30 : decode cX10_lookAt 30 = .ok (.aload_n 0, 1) := by decide +kernel
theorem dX10_lookAt_31 : decode cX10_lookAt 31 = .ok (.getfield 48, 3) := by decide +kernel
theorem dX10_lookAt_34 : decode cX10_lookAt 34 = .ok (.iconst 3, 1) := by decide +kernel
theorem dX10_lookAt_35 : decode cX10_lookAt 35 = .ok (.aload_n 1, 1) := by decide +kernel
theorem dX10_lookAt_36 : decode cX10_lookAt 36 = .ok (.getfield 100, 3) := by decide +kernel
theorem dX10_lookAt_39 : decode cX10_lookAt 39 = .ok (.iastore, 1) := by decide +kernel
theorem dX10_lookAt_40 : decode cX10_lookAt 40 = .ok (.aload_n 0, 1) := by decide +kernel
theorem dX10_lookAt_41 : decode cX10_lookAt 41 = .ok (.getfield 48, 3) := by decide +kernel
theorem dX10_lookAt_44 : decode cX10_lookAt 44 = .ok (.iconst 4, 1) := by decide +kernel
theorem dX10_lookAt_45 : decode cX10_lookAt 45 = .ok (.aload_n 0, 1) := by decide +kernel
theorem dX10_lookAt_46 : decode cX10_lookAt 46 = .ok (.getfield 9, 3) := by decide +kernel
theorem dX10_lookAt_49 : decode cX10_lookAt 49 = .ok (.aload_n 1, 1) := by decide +kernel
theorem dX10_lookAt_50 : decode cX10_lookAt 50 = .ok (.getfield 88, 3) := by decide +kernel
theorem dX10_lookAt_53 : decode cX10_lookAt 53 = .ok (.iaload, 1) := by decide +kernel
theorem dX10_lookAt_54 : decode cX10_lookAt 54 = .ok (.iastore, 1) := by decide +kernel
theorem dX10_lookAt_55 : decode cX10_lookAt 55 = .ok (.aload_n 0, 1) := by decide +kernel
theorem dX10_lookAt_56 : decode cX10_lookAt 56 = .ok (.getfield 48, 3) := by decide +kernel
theorem dX10_lookAt_59 : decode cX10_lookAt 59 = .ok (.iconst 5, 1) := by decide +kernel
theorem dX10_lookAt_60 : decode cX10_lookAt 60 = .ok (.aload_n 0, 1) := by decide +kernel
theorem dX10_lookAt_61 : decode cX10_lookAt 61 = .ok (.getfield 15, 3) := by decide +kernel
theorem dX10_lookAt_64 : decode cX10_lookAt 64 = .ok (.aload_n 1, 1) := by decide +kernel
theorem dX10_lookAt_65 : decode cX10_lookAt 65 = .ok (.getfield 88, 3) := by decide +kernel
theorem dX10_lookAt_68 : decode cX10_lookAt 68 = .ok (.iaload, 1) := by decide +kernel
theorem dX10_lookAt_69 : decode cX10_lookAt 69 = .ok (.iastore, 1) := by decide +kernel
theorem dX10_lookAt_70 : decode cX10_lookAt 70 = .ok (.aload_n 0, 1) := by decide +kernel
theorem dX10_lookAt_71 : decode cX10_lookAt 71 = .ok (.getfield 48, 3) := by decide +kernel
theorem dX10_lookAt_74 : decode cX10_lookAt 74 = .ok (.bipush 6, 2) := by decide +kernel
theorem dX10_lookAt_76 : decode cX10_lookAt 76 = .ok (.aload_n 0, 1) := by decide +kernel
theorem dX10_lookAt_77 : decode cX10_lookAt 77 = .ok (.getfield 18, 3) := by decide +kernel
theorem dX10_lookAt_80 : decode cX10_lookAt 80 = .ok (.aload_n 1, 1) := by decide +kernel
theorem dX10_lookAt_81 : decode cX10_lookAt 81 = .ok (.getfield 88, 3) := by decide +kernel
theorem dX10_lookAt_84 : decode cX10_lookAt 84 = .ok (.iaload, 1) := by decide +kernel
theorem dX10_lookAt_85 : decode cX10_lookAt 85 = .ok (.iastore, 1) := by decide +kernel
theorem dX10_lookAt_86 : decode cX10_lookAt 86 = .ok (.aload_n 0, 1) := by decide +kernel
theorem dX10_lookAt_87 : decode cX10_lookAt 87 = .ok (.getfield 48, 3) := by decide +kernel
theorem dX10_lookAt_90 : decode cX10_lookAt 90 = .ok (.bipush 7, 2) := by decide +kernel
theorem dX10_lookAt_92 : decode cX10_lookAt 92 = .ok (.aload_n 0, 1) := by decide +kernel
theorem dX10_lookAt_93 : decode cX10_lookAt 93 = .ok (.getfield 21, 3) := by decide +kernel
theorem dX10_lookAt_96 : decode cX10_lookAt 96 = .ok (.aload_n 1, 1) := by decide +kernel
theorem dX10_lookAt_97 : decode cX10_lookAt 97 = .ok (.getfield 88, 3) := by decide +kernel
theorem dX10_lookAt_100 : decode cX10_lookAt 100 = .ok (.iaload, 1) := by decide +kernel
theorem dX10_lookAt_101 : decode cX10_lookAt 101 = .ok (.iastore, 1) := by decide +kernel
theorem dX10_lookAt_102 : decode cX10_lookAt 102 = .ok (.aload_n 0, 1) := by decide +kernel
theorem dX10_lookAt_103 : decode cX10_lookAt 103 = .ok (.getfield 48, 3) := by decide +kernel
theorem dX10_lookAt_106 : decode cX10_lookAt 106 = .ok (.bipush 8, 2) := by decide +kernel
theorem dX10_lookAt_108 : decode cX10_lookAt 108 = .ok (.aload_n 0, 1) := by decide +kernel
theorem dX10_lookAt_109 : decode cX10_lookAt 109 = .ok (.getfield 24, 3) := by decide +kernel
theorem dX10_lookAt_112 : decode cX10_lookAt 112 = .ok (.aload_n 1, 1) := by decide +kernel
theorem dX10_lookAt_113 : decode cX10_lookAt 113 = .ok (.getfield 85, 3) := by decide +kernel
theorem dX10_lookAt_116 : decode cX10_lookAt 116 = .ok (.iaload, 1) := by decide +kernel
theorem dX10_lookAt_117 : decode cX10_lookAt 117 = .ok (.iastore, 1) := by decide +kernel
theorem dX10_lookAt_118 : decode cX10_lookAt 118 = .ok (.aload_n 0, 1) := by decide +kernel
theorem dX10_lookAt_119 : decode cX10_lookAt 119 = .ok (.getfield 48, 3) := by decide +kernel
theorem dX10_lookAt_122 : decode cX10_lookAt 122 = .ok (.bipush 9, 2) := by decide +kernel
theorem dX10_lookAt_124 : decode cX10_lookAt 124 = .ok (.aload_n 0, 1) := by decide +kernel
theorem dX10_lookAt_125 : decode cX10_lookAt 125 = .ok (.getfield 27, 3) := by decide +kernel
theorem dX10_lookAt_128 : decode cX10_lookAt 128 = .ok (.aload_n 1, 1) := by decide +kernel
theorem dX10_lookAt_129 : decode cX10_lookAt 129 = .ok (.getfield 85, 3) := by decide +kernel
theorem dX10_lookAt_132 : decode cX10_lookAt 132 = .ok (.iaload, 1) := by decide +kernel
theorem dX10_lookAt_133 : decode cX10_lookAt 133 = .ok (.iastore, 1) := by decide +kernel
theorem dX10_lookAt_134 : decode cX10_lookAt 134 = .ok (.aload_n 0, 1) := by decide +kernel
theorem dX10_lookAt_135 : decode cX10_lookAt 135 = .ok (.getfield 48, 3) := by decide +kernel
theorem dX10_lookAt_138 : decode cX10_lookAt 138 = .ok (.bipush 10, 2) := by decide +kernel
theorem dX10_lookAt_140 : decode cX10_lookAt 140 = .ok (.iconst 0, 1) := by decide +kernel
theorem dX10_lookAt_141 : decode cX10_lookAt 141 = .ok (.iastore, 1) := by decide +kernel
theorem dX10_lookAt_142 : decode cX10_lookAt 142 = .ok (.aload_n 0, 1) := by decide +kernel
theorem dX10_lookAt_143 : decode cX10_lookAt 143 = .ok (.getfield 48, 3) := by decide +kernel
theorem dX10_lookAt_146 : decode cX10_lookAt 146 = .ok (.bipush 11, 2) := by decide +kernel
theorem dX10_lookAt_148 : decode cX10_lookAt 148 = .ok (.iconst 0, 1) := by decide +kernel
theorem dX10_lookAt_149 : decode cX10_lookAt 149 = .ok (.iastore, 1) := by decide +kernel
theorem dX10_lookAt_150 : decode cX10_lookAt 150 = .ok (.aload_n 0, 1) := by decide +kernel
theorem dX10_lookAt_151 : decode cX10_lookAt 151 = .ok (.getfield 48, 3) := by decide +kernel
theorem dX10_lookAt_154 : decode cX10_lookAt 154 = .ok (.bipush 12, 2) := by decide +kernel
theorem dX10_lookAt_156 : decode cX10_lookAt 156 = .ok (.iconst 0, 1) := by decide +kernel
theorem dX10_lookAt_157 : decode cX10_lookAt 157 = .ok (.iastore, 1) := by decide +kernel
theorem dX10_lookAt_158 : decode cX10_lookAt 158 = .ok (.aload_n 0, 1) := by decide +kernel
theorem dX10_lookAt_159 : decode cX10_lookAt 159 = .ok (.getfield 48, 3) := by decide +kernel
theorem dX10_lookAt_162 : decode cX10_lookAt 162 = .ok (.bipush 13, 2) := by decide +kernel
theorem dX10_lookAt_164 : decode cX10_lookAt 164 = .ok (.aload_n 1, 1) := by decide +kernel
theorem dX10_lookAt_165 : decode cX10_lookAt 165 = .ok (.getfield 130, 3) := by decide +kernel
theorem dX10_lookAt_168 : decode cX10_lookAt 168 = .ok (.ifCond .eq 7, 3) := by decide +kernel
theorem dX10_lookAt_171 : decode cX10_lookAt 171 = .ok (.iconst 1, 1) := by decide +kernel
theorem dX10_lookAt_172 : decode cX10_lookAt 172 = .ok (.goto 4, 3) := by decide +kernel
theorem dX10_lookAt_175 : decode cX10_lookAt 175 = .ok (.iconst 0, 1) := by decide +kernel
theorem dX10_lookAt_176 : decode cX10_lookAt 176 = .ok (.iastore, 1) := by decide +kernel
theorem dX10_lookAt_177 : decode cX10_lookAt 177 = .ok (.return_, 1) := by decide +kernel
theorem dX10_lookAtHouse_0 : decode cX10_lookAtHouse 0 = .ok (.iconst 0, 1) := by decide +kernel
theorem dX10_lookAtHouse_1 : decode cX10_lookAtHouse 1 = .ok (.istore_n 2, 1) := by decide +kernel
theorem dX10_lookAtHouse_2 : decode cX10_lookAtHouse 2 = .ok (.iload_n 2, 1) := by decide +kernel
theorem dX10_lookAtHouse_3 : decode cX10_lookAtHouse 3 = .ok (.aload_n 0, 1) := by decide +kernel
theorem dX10_lookAtHouse_4 : decode cX10_lookAtHouse 4 = .ok (.getfield 74, 3) := by decide +kernel
theorem dX10_lookAtHouse_7 : decode cX10_lookAtHouse 7 = .ok (.if_icmp .ge 99, 3) := by decide +kernel
theorem dX10_lookAtHouse_10 : decode cX10_lookAtHouse 10 = .ok (.aload_n 0, 1) := by decide +kernel
theorem dX10_lookAtHouse_11 : decode cX10_lookAtHouse 11 = .ok (.getfield 35, 3) := by decide +kernel
theorem dX10_lookAtHouse_14 : decode cX10_lookAtHouse 14 = .ok (.iload_n 2, 1) := by decide +kernel
theorem dX10_lookAtHouse_15 : decode cX10_lookAtHouse 15 = .ok (.aaload, 1) := by decide +kernel
theorem dX10_lookAtHouse_16 : decode cX10_lookAtHouse 16 = .ok (.astore_n 3, 1) := by decide +kernel
theorem dX10_lookAtHouse_17 : decode cX10_lookAtHouse 17 = .ok (.aload_n 3, 1) := by decide +kernel
theorem dX10_lookAtHouse_18 : decode cX10_lookAtHouse 18 = .ok (.getfield 85, 3) := by decide +kernel
theorem dX10_lookAtHouse_21 : decode cX10_lookAtHouse 21 = .ok (.iload_n 1, 1) := by decide +kernel
theorem dX10_lookAtHouse_22 : decode cX10_lookAtHouse 22 = .ok (.if_icmp .ne 78, 3) := by decide +kernel
theorem dX10_lookAtHouse_25 : decode cX10_lookAtHouse 25 = .ok (.aload_n 3, 1) := by decide +kernel
theorem dX10_lookAtHouse_26 : decode cX10_lookAtHouse 26 = .ok (.getfield 126, 3) := by decide +kernel
theorem dX10_lookAtHouse_29 : decode cX10_lookAtHouse 29 = .ok (.ifCond .eq 71, 3) := by decide +kernel
theorem dX10_lookAtHouse_32 : decode cX10_lookAtHouse 32 = .ok (.aload_n 0, 1) := by decide +kernel
theorem dX10_lookAtHouse_33 : decode cX10_lookAtHouse 33 = .ok (.getfield 48, 3) := by decide +kernel
theorem dX10_lookAtHouse_36 : decode cX10_lookAtHouse 36 = .ok (.bipush 10, 2) := by decide +kernel
theorem dX10_lookAtHouse_38 : decode cX10_lookAtHouse 38 = .ok (.dup2, 1) := by decide +kernel
theorem dX10_lookAtHouse_39 : decode cX10_lookAtHouse 39 = .ok (.iaload, 1) := by decide +kernel
theorem dX10_lookAtHouse_40 : decode cX10_lookAtHouse 40 = .ok (.aload_n 3, 1) := by decide +kernel
theorem dX10_lookAtHouse_41 : decode cX10_lookAtHouse 41 = .ok (.getfield 130, 3) := by decide +kernel
theorem dX10_lookAtHouse_44 : decode cX10_lookAtHouse 44 = .ok (.ifCond .eq 7, 3) := by decide +kernel
theorem dX10_lookAtHouse_47 : decode cX10_lookAtHouse 47 = .ok (.iconst 1, 1) := by decide +kernel
theorem dX10_lookAtHouse_48 : decode cX10_lookAtHouse 48 = .ok (.goto 4, 3) := by decide +kernel
theorem dX10_lookAtHouse_51 : decode cX10_lookAtHouse 51 = .ok (.iconst 0, 1) := by decide +kernel
theorem dX10_lookAtHouse_52 : decode cX10_lookAtHouse 52 = .ok (.iadd, 1) := by decide +kernel
theorem dX10_lookAtHouse_53 : decode cX10_lookAtHouse 53 = .ok (.iastore, 1) := by decide +kernel
theorem dX10_lookAtHouse_54 : decode cX10_lookAtHouse 54 = .ok (.aload_n 0, 1) := by decide +kernel
theorem dX10_lookAtHouse_55 : decode cX10_lookAtHouse 55 = .ok (.getfield 48, 3) := by decide +kernel
theorem dX10_lookAtHouse_58 : decode cX10_lookAtHouse 58 = .ok (.bipush 11, 2) := by decide +kernel
theorem dX10_lookAtHouse_60 : decode cX10_lookAtHouse 60 = .ok (.dup2, 1) := by decide +kernel
theorem dX10_lookAtHouse_61 : decode cX10_lookAtHouse 61 = .ok (.iaload, 1) := by decide +kernel
theorem dX10_lookAtHouse_62 : decode cX10_lookAtHouse 62 = .ok (.iconst 1, 1) := by decide +kernel
theorem dX10_lookAtHouse_63 : decode cX10_lookAtHouse 63 = .ok (.iadd, 1) := by decide +kernel
theorem dX10_lookAtHouse_64 : decode cX10_lookAtHouse 64 = .ok (.iastore, 1) := by decide +kernel
theorem dX10_lookAtHouse_65 : decode cX10_lookAtHouse 65 = .ok (.aload_n 0, 1) := by decide +kernel
theorem dX10_lookAtHouse_66 : decode cX10_lookAtHouse 66 = .ok (.getfield 48, 3) := by decide +kernel
theorem dX10_lookAtHouse_69 : decode cX10_lookAtHouse 69 = .ok (.bipush 12, 2) := by decide +kernel
theorem dX10_lookAtHouse_71 : decode cX10_lookAtHouse 71 = .ok (.aload_n 3, 1) := by decide +kernel
theorem dX10_lookAtHouse_72 : decode cX10_lookAtHouse 72 = .ok (.getfield 91, 3) := by decide +kernel
theorem dX10_lookAtHouse_75 : decode cX10_lookAtHouse 75 = .ok (.aload_n 0, 1) := by decide +kernel
theorem dX10_lookAtHouse_76 : decode cX10_lookAtHouse 76 = .ok (.getfield 48, 3) := by decide +kernel
theorem dX10_lookAtHouse_79 : decode cX10_lookAtHouse 79 = .ok (.bipush 12, 2) := by decide +kernel
theorem dX10_lookAtHouse_81 : decode cX10_lookAtHouse 81 = .ok (.iaload, 1) := by decide +kernel
theorem dX10_lookAtHouse_82 : decode cX10_lookAtHouse 82 = .ok (.if_icmp .le 10, 3) := by decide +kernel
theorem dX10_lookAtHouse_85 : decode cX10_lookAtHouse 85 = .ok (.aload_n 3, 1) := by decide +kernel
theorem dX10_lookAtHouse_86 : decode cX10_lookAtHouse 86 = .ok (.getfield 91, 3) := by decide +kernel
theorem dX10_lookAtHouse_89 : decode cX10_lookAtHouse 89 = .ok (.goto 10, 3) := by decide +kernel
theorem dX10_lookAtHouse_92 : decode cX10_lookAtHouse 92 = .ok (.aload_n 0, 1) := by decide +kernel
theorem dX10_lookAtHouse_93 : decode cX10_lookAtHouse 93 = .ok (.getfield 48, 3) := by decide +kernel
theorem dX10_lookAtHouse_96 : decode cX10_lookAtHouse 96 = .ok (.bipush 12, 2) := by decide +kernel
theorem dX10_lookAtHouse_98 : decode cX10_lookAtHouse 98 = .ok (.iaload, 1) := by decide +kernel
theorem dX10_lookAtHouse_99 : decode cX10_lookAtHouse 99 = .ok (.iastore, 1) := by decide +kernel
theorem dX10_lookAtHouse_100 : decode cX10_lookAtHouse 100 = .ok (.iinc 2 1, 3) := by decide +kernel
theorem dX10_lookAtHouse_103 : decode cX10_lookAtHouse 103 = .ok (.goto (-101), 3) := by decide +kernel
theorem dX10_lookAtHouse_106 : decode cX10_lookAtHouse 106 = .ok (.return_, 1) := by decide +kernel
theorem dX10_lawFor_0 : decode cX10_lawFor 0 = .ok (.aload_n 0, 1) := by decide +kernel
theorem dX10_lawFor_1 : decode cX10_lawFor 1 = .ok (.aload_n 2, 1) := by decide +kernel
theorem dX10_lawFor_2 : decode cX10_lawFor 2 = .ok (.invokevirtual 133, 3) := by decide +kernel
theorem dX10_lawFor_5 : decode cX10_lawFor 5 = .ok (.aload_n 0, 1) := by decide +kernel
theorem dX10_lawFor_6 : decode cX10_lawFor 6 = .ok (.aload_n 2, 1) := by decide +kernel
theorem dX10_lawFor_7 : decode cX10_lawFor 7 = .ok (.getfield 85, 3) := by decide +kernel
theorem dX10_lawFor_10 : decode cX10_lawFor 10 = .ok (.invokevirtual 137, 3) := by decide +kernel
theorem dX10_lawFor_13 : decode cX10_lawFor 13 = .ok (.aload_n 0, 1) := by decide +kernel
theorem dX10_lawFor_14 : decode cX10_lawFor 14 = .ok (.getfield 41, 3) := by decide +kernel
theorem dX10_lawFor_17 : decode cX10_lawFor 17 = .ok (.iload_n 1, 1) := by decide +kernel
theorem dX10_lawFor_18 : decode cX10_lawFor 18 = .ok (.aaload, 1) := by decide +kernel
theorem dX10_lawFor_19 : decode cX10_lawFor 19 = .ok (.aload_n 0, 1) := by decide +kernel
theorem dX10_lawFor_20 : decode cX10_lawFor 20 = .ok (.getfield 48, 3) := by decide +kernel
theorem dX10_lawFor_23 : decode cX10_lawFor 23 = .ok (.invokevirtual 140, 3) := by decide +kernel
theorem dX10_lawFor_26 : decode cX10_lawFor 26 = .ok (.ireturn, 1) := by decide +kernel
theorem dX10_passes_0 : decode cX10_passes 0 = .ok (.iload_n 2, 1) := by decide +kernel
theorem dX10_passes_1 : decode cX10_passes 1 = .ok (.iconst (-1), 1) := by decide +kernel
theorem dX10_passes_2 : decode cX10_passes 2 = .ok (.if_icmp .ne 5, 3) := by decide +kernel
theorem dX10_passes_5 : decode cX10_passes 5 = .ok (.iconst 1, 1) := by decide +kernel
theorem dX10_passes_6 : decode cX10_passes 6 = .ok (.ireturn, 1) := by decide +kernel
theorem dX10_passes_7 : decode cX10_passes 7 = .ok (.aload_n 0, 1) := by decide +kernel
theorem dX10_passes_8 : decode cX10_passes 8 = .ok (.aload_n 1, 1) := by decide +kernel
theorem dX10_passes_9 : decode cX10_passes 9 = .ok (.invokevirtual 133, 3) := by decide +kernel
theorem dX10_passes_12 : decode cX10_passes 12 = .ok (.aload_n 0, 1) := by decide +kernel
theorem dX10_passes_13 : decode cX10_passes 13 = .ok (.getfield 45, 3) := by decide +kernel
theorem dX10_passes_16 : decode cX10_passes 16 = .ok (.iload_n 2, 1) := by decide +kernel
theorem dX10_passes_17 : decode cX10_passes 17 = .ok (.aaload, 1) := by decide +kernel
theorem dX10_passes_18 : decode cX10_passes 18 = .ok (.aload_n 0, 1) := by decide +kernel
theorem dX10_passes_19 : decode cX10_passes 19 = .ok (.getfield 48, 3) := by decide +kernel
theorem dX10_passes_22 : decode cX10_passes 22 = .ok (.invokevirtual 140, 3) := by decide +kernel
theorem dX10_passes_25 : decode cX10_passes 25 = .ok (.ifCond .eq 7, 3) := by decide +kernel
theorem dX10_passes_28 : decode cX10_passes 28 = .ok (.iconst 1, 1) := by decide +kernel
theorem dX10_passes_29 : decode cX10_passes 29 = .ok (.goto 4, 3) := by decide +kernel
theorem dX10_passes_32 : decode cX10_passes 32 = .ok (.iconst 0, 1) := by decide +kernel
theorem dX10_passes_33 : decode cX10_passes 33 = .ok (.ireturn, 1) := by decide +kernel
theorem dX10_readNext_0 : decode cX10_readNext 0 = .ok (.iconst 0, 1) := by decide +kernel
theorem dX10_readNext_1 : decode cX10_readNext 1 = .ok (.istore_n 2, 1) := by decide +kernel
theorem dX10_readNext_2 : decode cX10_readNext 2 = .ok (.iconst 0, 1) := by decide +kernel
theorem dX10_readNext_3 : decode cX10_readNext 3 = .ok (.istore_n 3, 1) := by decide +kernel
theorem dX10_readNext_4 : decode cX10_readNext 4 = .ok (.iload_n 3, 1) := by decide +kernel
theorem dX10_readNext_5 : decode cX10_readNext 5 = .ok (.iload_n 1, 1) := by decide +kernel
theorem dX10_readNext_6 : decode cX10_readNext 6 = .ok (.if_icmp .ge 46, 3) := by decide +kernel
theorem dX10_readNext_9 : decode cX10_readNext 9 = .ok (.aload_n 0, 1) := by decide +kernel
theorem dX10_readNext_10 : decode cX10_readNext 10 = .ok (.invokevirtual 144, 3) := by decide +kernel
theorem dX10_readNext_13 : decode cX10_readNext 13 = .ok (.istore 4, 2) := by decide +kernel
theorem dX10_readNext_15 : decode cX10_readNext 15 = .ok (.iload 4, 2) := by decide +kernel
theorem dX10_readNext_17 : decode cX10_readNext 17 = .ok (.iconst (-1), 1) := by decide +kernel
theorem dX10_readNext_18 : decode cX10_readNext 18 = .ok (.if_icmp .ne 6, 3) := by decide +kernel
theorem dX10_readNext_21 : decode cX10_readNext 21 = .ok (.goto 31, 3) := by decide +kernel
theorem dX10_readNext_24 : decode cX10_readNext 24 = .ok (.iload_n 2, 1) := by decide +kernel
theorem dX10_readNext_25 : decode cX10_readNext 25 = .ok (.aload_n 0, 1) := by decide +kernel
theorem dX10_readNext_26 : decode cX10_readNext 26 = .ok (.aload_n 0, 1) := by decide +kernel
theorem dX10_readNext_27 : decode cX10_readNext 27 = .ok (.getfield 35, 3) := by decide +kernel
theorem dX10_readNext_30 : decode cX10_readNext 30 = .ok (.iload 4, 2) := by decide +kernel
theorem dX10_readNext_32 : decode cX10_readNext 32 = .ok (.aaload, 1) := by decide +kernel
theorem dX10_readNext_33 : decode cX10_readNext 33 = .ok (.invokevirtual 148, 3) := by decide +kernel
theorem dX10_readNext_36 : decode cX10_readNext 36 = .ok (.ifCond .eq 7, 3) := by decide +kernel
theorem dX10_readNext_39 : decode cX10_readNext 39 = .ok (.iconst 1, 1) := by decide +kernel
theorem dX10_readNext_40 : decode cX10_readNext 40 = .ok (.goto 4, 3) := by decide +kernel
theorem dX10_readNext_43 : decode cX10_readNext 43 = .ok (.iconst 0, 1) := by decide +kernel
theorem dX10_readNext_44 : decode cX10_readNext 44 = .ok (.iadd, 1) := by decide +kernel
theorem dX10_readNext_45 : decode cX10_readNext 45 = .ok (.istore_n 2, 1) := by decide +kernel
theorem dX10_readNext_46 : decode cX10_readNext 46 = .ok (.iinc 3 1, 3) := by decide +kernel
theorem dX10_readNext_49 : decode cX10_readNext 49 = .ok (.goto (-45), 3) := by decide +kernel
theorem dX10_readNext_52 : decode cX10_readNext 52 = .ok (.iload_n 2, 1) := by decide +kernel
theorem dX10_readNext_53 : decode cX10_readNext 53 = .ok (.ireturn, 1) := by decide +kernel
theorem dX10_nextUnread_0 : decode cX10_nextUnread 0 = .ok (.iconst (-1), 1) := by decide +kernel
theorem dX10_nextUnread_1 : decode cX10_nextUnread 1 = .ok (.istore_n 1, 1) := by decide +kernel
theorem dX10_nextUnread_2 : decode cX10_nextUnread 2 = .ok (.iconst 0, 1) := by decide +kernel
theorem dX10_nextUnread_3 : decode cX10_nextUnread 3 = .ok (.istore_n 2, 1) := by decide +kernel
theorem dX10_nextUnread_4 : decode cX10_nextUnread 4 = .ok (.iload_n 2, 1) := by decide +kernel
theorem dX10_nextUnread_5 : decode cX10_nextUnread 5 = .ok (.aload_n 0, 1) := by decide +kernel
theorem dX10_nextUnread_6 : decode cX10_nextUnread 6 = .ok (.getfield 74, 3) := by decide +kernel
theorem dX10_nextUnread_9 : decode cX10_nextUnread 9 = .ok (.if_icmp .ge 49, 3) := by decide +kernel
theorem dX10_nextUnread_12 : decode cX10_nextUnread 12 = .ok (.aload_n 0, 1) := by decide +kernel
theorem dX10_nextUnread_13 : decode cX10_nextUnread 13 = .ok (.getfield 35, 3) := by decide +kernel
theorem dX10_nextUnread_16 : decode cX10_nextUnread 16 = .ok (.iload_n 2, 1) := by decide +kernel
theorem dX10_nextUnread_17 : decode cX10_nextUnread 17 = .ok (.aaload, 1) := by decide +kernel
theorem dX10_nextUnread_18 : decode cX10_nextUnread 18 = .ok (.getfield 126, 3) := by decide +kernel
theorem dX10_nextUnread_21 : decode cX10_nextUnread 21 = .ok (.ifCond .ne 31, 3) := by decide +kernel
theorem dX10_nextUnread_24 : decode cX10_nextUnread 24 = .ok (.iload_n 1, 1) := by decide +kernel
theorem dX10_nextUnread_25 : decode cX10_nextUnread 25 = .ok (.iconst (-1), 1) := by decide +kernel
theorem dX10_nextUnread_26 : decode cX10_nextUnread 26 = .ok (.if_icmp .eq 24, 3) := by decide +kernel
theorem dX10_nextUnread_29 : decode cX10_nextUnread 29 = .ok (.aload_n 0, 1) := by decide +kernel
theorem dX10_nextUnread_30 : decode cX10_nextUnread 30 = .ok (.getfield 35, 3) := by decide +kernel
theorem dX10_nextUnread_33 : decode cX10_nextUnread 33 = .ok (.iload_n 2, 1) := by decide +kernel
theorem dX10_nextUnread_34 : decode cX10_nextUnread 34 = .ok (.aaload, 1) := by decide +kernel
theorem dX10_nextUnread_35 : decode cX10_nextUnread 35 = .ok (.getfield 100, 3) := by decide +kernel
theorem dX10_nextUnread_38 : decode cX10_nextUnread 38 = .ok (.aload_n 0, 1) := by decide +kernel
theorem dX10_nextUnread_39 : decode cX10_nextUnread 39 = .ok (.getfield 35, 3) := by decide +kernel
theorem dX10_nextUnread_42 : decode cX10_nextUnread 42 = .ok (.iload_n 1, 1) := by decide +kernel
theorem dX10_nextUnread_43 : decode cX10_nextUnread 43 = .ok (.aaload, 1) := by decide +kernel
theorem dX10_nextUnread_44 : decode cX10_nextUnread 44 = .ok (.getfield 100, 3) := by decide +kernel
theorem dX10_nextUnread_47 : decode cX10_nextUnread 47 = .ok (.if_icmp .ge 5, 3) := by decide +kernel
theorem dX10_nextUnread_50 : decode cX10_nextUnread 50 = .ok (.iload_n 2, 1) := by decide +kernel
theorem dX10_nextUnread_51 : decode cX10_nextUnread 51 = .ok (.istore_n 1, 1) := by decide +kernel
theorem dX10_nextUnread_52 : decode cX10_nextUnread 52 = .ok (.iinc 2 1, 3) := by decide +kernel
theorem dX10_nextUnread_55 : decode cX10_nextUnread 55 = .ok (.goto (-51), 3) := by decide +kernel
theorem dX10_nextUnread_58 : decode cX10_nextUnread 58 = .ok (.iload_n 1, 1) := by decide +kernel
theorem dX10_nextUnread_59 : decode cX10_nextUnread 59 = .ok (.ireturn, 1) := by decide +kernel
theorem dX10_isRungByHouse_0 : decode cX10_isRungByHouse 0 = .ok (.aload_n 0, 1) := by decide +kernel
theorem dX10_isRungByHouse_1 : decode cX10_isRungByHouse 1 = .ok (.bipush 100, 2) := by decide +kernel
theorem dX10_isRungByHouse_3 : decode cX10_isRungByHouse 3 = .ok (.invokevirtual 111, 3) := by decide +kernel
theorem dX10_isRungByHouse_6 : decode cX10_isRungByHouse 6 = .ok (.istore_n 2, 1) := by decide +kernel
theorem dX10_isRungByHouse_7 : decode cX10_isRungByHouse 7 = .ok (.aload_n 0, 1) := by decide +kernel
theorem dX10_isRungByHouse_8 : decode cX10_isRungByHouse 8 = .ok (.getfield 30, 3) := by decide +kernel
theorem dX10_isRungByHouse_11 : decode cX10_isRungByHouse 11 = .ok (.aload_n 1, 1) := by decide +kernel
theorem dX10_isRungByHouse_12 : decode cX10_isRungByHouse 12 = .ok (.getfield 85, 3) := by decide +kernel
theorem dX10_isRungByHouse_15 : decode cX10_isRungByHouse 15 = .ok (.iaload, 1) := by decide +kernel
theorem dX10_isRungByHouse_16 : decode cX10_isRungByHouse 16 = .ok (.istore_n 3, 1) := by decide +kernel
theorem dX10_isRungByHouse_17 : decode cX10_isRungByHouse 17 = .ok (.aload_n 1, 1) := by decide +kernel
theorem dX10_isRungByHouse_18 : decode cX10_isRungByHouse 18 = .ok (.aload_n 0, 1) := by decide +kernel
theorem dX10_isRungByHouse_19 : decode cX10_isRungByHouse 19 = .ok (.iload_n 3, 1) := by decide +kernel
theorem dX10_isRungByHouse_20 : decode cX10_isRungByHouse 20 = .ok (.invokevirtual 152, 3) := by decide +kernel
theorem dX10_isRungByHouse_23 : decode cX10_isRungByHouse 23 = .ok (.ifCond .eq 17, 3) := by decide +kernel
theorem dX10_isRungByHouse_26 : decode cX10_isRungByHouse 26 = .ok (.iload_n 2, 1) := by decide +kernel
theorem dX10_isRungByHouse_27 : decode cX10_isRungByHouse 27 = .ok (.aload_n 0, 1) := by decide +kernel
theorem dX10_isRungByHouse_28 : decode cX10_isRungByHouse 28 = .ok (.iload_n 3, 1) := by decide +kernel
theorem dX10_isRungByHouse_29 : decode cX10_isRungByHouse 29 = .ok (.aload_n 1, 1) := by decide +kernel
theorem dX10_isRungByHouse_30 : decode cX10_isRungByHouse 30 = .ok (.invokevirtual 156, 3) := by decide +kernel
theorem dX10_isRungByHouse_33 : decode cX10_isRungByHouse 33 = .ok (.if_icmp .ge 7, 3) := by decide +kernel
theorem dX10_isRungByHouse_36 : decode cX10_isRungByHouse 36 = .ok (.iconst 1, 1) := by decide +kernel
theorem dX10_isRungByHouse_37 : decode cX10_isRungByHouse 37 = .ok (.goto 4, 3) := by decide +kernel
theorem dX10_isRungByHouse_40 : decode cX10_isRungByHouse 40 = .ok (.iconst 0, 1) := by decide +kernel
theorem dX10_isRungByHouse_41 : decode cX10_isRungByHouse 41 = .ok (.invokevirtual 160, 3) := by decide +kernel
theorem dX10_isRungByHouse_44 : decode cX10_isRungByHouse 44 = .ok (.aload_n 1, 1) := by decide +kernel
theorem dX10_isRungByHouse_45 : decode cX10_isRungByHouse 45 = .ok (.getfield 130, 3) := by decide +kernel
theorem dX10_isRungByHouse_48 : decode cX10_isRungByHouse 48 = .ok (.ireturn, 1) := by decide +kernel
theorem dX10_readAllWithoutRings_0 : decode cX10_readAllWithoutRings 0 = .ok (.iconst 0, 1) := by decide +kernel
theorem dX10_readAllWithoutRings_1 : decode cX10_readAllWithoutRings 1 = .ok (.istore_n 1, 1) := by decide +kernel
theorem dX10_readAllWithoutRings_2 : decode cX10_readAllWithoutRings 2 = .ok (.iconst 0, 1) := by decide +kernel
theorem dX10_readAllWithoutRings_3 : decode cX10_readAllWithoutRings 3 = .ok (.istore_n 2, 1) := by decide +kernel
theorem dX10_readAllWithoutRings_4 : decode cX10_readAllWithoutRings 4 = .ok (.iload_n 2, 1) := by decide +kernel
theorem dX10_readAllWithoutRings_5 : decode cX10_readAllWithoutRings 5 = .ok (.aload_n 0, 1) := by decide +kernel
theorem dX10_readAllWithoutRings_6 : decode cX10_readAllWithoutRings 6 = .ok (.getfield 74, 3) := by decide +kernel
theorem dX10_readAllWithoutRings_9 : decode cX10_readAllWithoutRings 9 = .ok (.if_icmp .ge 34, 3) := by decide +kernel
theorem dX10_readAllWithoutRings_12 : decode cX10_readAllWithoutRings 12 = .ok (.aload_n 0, 1) := by decide +kernel
theorem dX10_readAllWithoutRings_13 : decode cX10_readAllWithoutRings 13 = .ok (.getfield 35, 3) := by decide +kernel
theorem dX10_readAllWithoutRings_16 : decode cX10_readAllWithoutRings 16 = .ok (.iload_n 2, 1) := by decide +kernel
theorem dX10_readAllWithoutRings_17 : decode cX10_readAllWithoutRings 17 = .ok (.aaload, 1) := by decide +kernel
theorem dX10_readAllWithoutRings_18 : decode cX10_readAllWithoutRings 18 = .ok (.getfield 126, 3) := by decide +kernel
theorem dX10_readAllWithoutRings_21 : decode cX10_readAllWithoutRings 21 = .ok (.ifCond .ne 16, 3) := by decide +kernel
theorem dX10_readAllWithoutRings_24 : decode cX10_readAllWithoutRings 24 = .ok (.aload_n 0, 1) := by decide +kernel
theorem dX10_readAllWithoutRings_25 : decode cX10_readAllWithoutRings 25 = .ok (.getfield 35, 3) := by decide +kernel
theorem dX10_readAllWithoutRings_28 : decode cX10_readAllWithoutRings 28 = .ok (.iload_n 2, 1) := by decide +kernel
theorem dX10_readAllWithoutRings_29 : decode cX10_readAllWithoutRings 29 = .ok (.aaload, 1) := by decide +kernel
theorem dX10_readAllWithoutRings_30 : decode cX10_readAllWithoutRings 30 = .ok (.iconst 0, 1) := by decide +kernel
theorem dX10_readAllWithoutRings_31 : decode cX10_readAllWithoutRings 31 = .ok (.invokevirtual 160, 3) := by decide +kernel
theorem dX10_readAllWithoutRings_34 : decode cX10_readAllWithoutRings 34 = .ok (.iinc 1 1, 3) := by decide +kernel
theorem dX10_readAllWithoutRings_37 : decode cX10_readAllWithoutRings 37 = .ok (.iinc 2 1, 3) := by decide +kernel
theorem dX10_readAllWithoutRings_40 : decode cX10_readAllWithoutRings 40 = .ok (.goto (-36), 3) := by decide +kernel
theorem dX10_readAllWithoutRings_43 : decode cX10_readAllWithoutRings 43 = .ok (.iload_n 1, 1) := by decide +kernel
theorem dX10_readAllWithoutRings_44 : decode cX10_readAllWithoutRings 44 = .ok (.ireturn, 1) := by decide +kernel
theorem dX10_readAsBoxed_0 : decode cX10_readAsBoxed 0 = .ok (.iconst 0, 1) := by decide +kernel
theorem dX10_readAsBoxed_1 : decode cX10_readAsBoxed 1 = .ok (.istore 5, 2) := by decide +kernel
theorem dX10_readAsBoxed_3 : decode cX10_readAsBoxed 3 = .ok (.iconst 0, 1) := by decide +kernel
theorem dX10_readAsBoxed_4 : decode cX10_readAsBoxed 4 = .ok (.istore 6, 2) := by decide +kernel
theorem dX10_readAsBoxed_6 : decode cX10_readAsBoxed 6 = .ok (.iload 6, 2) := by decide +kernel
theorem dX10_readAsBoxed_8 : decode cX10_readAsBoxed 8 = .ok (.iload_n 2, 1) := by decide +kernel
theorem dX10_readAsBoxed_9 : decode cX10_readAsBoxed 9 = .ok (.if_icmp .ge 72, 3) := by decide +kernel
theorem dX10_readAsBoxed_12 : decode cX10_readAsBoxed 12 = .ok (.iload 6, 2) := by decide +kernel
theorem dX10_readAsBoxed_14 : decode cX10_readAsBoxed 14 = .ok (.aload_n 0, 1) := by decide +kernel
theorem dX10_readAsBoxed_15 : decode cX10_readAsBoxed 15 = .ok (.getfield 74, 3) := by decide +kernel
theorem dX10_readAsBoxed_18 : decode cX10_readAsBoxed 18 = .ok (.if_icmp .ge 63, 3) := by decide +kernel
theorem dX10_readAsBoxed_21 : decode cX10_readAsBoxed 21 = .ok (.iload_n 1, 1) := by decide +kernel
theorem dX10_readAsBoxed_22 : decode cX10_readAsBoxed 22 = .ok (.iload_n 3, 1) := by decide +kernel
theorem dX10_readAsBoxed_23 : decode cX10_readAsBoxed 23 = .ok (.iload 6, 2) := by decide +kernel
theorem dX10_readAsBoxed_25 : decode cX10_readAsBoxed 25 = .ok (.iload 4, 2) := by decide +kernel
theorem dX10_readAsBoxed_27 : decode cX10_readAsBoxed 27 = .ok (.imul, 1) := by decide +kernel
theorem dX10_readAsBoxed_28 : decode cX10_readAsBoxed 28 = .ok (.iadd, 1) := by decide +kernel
theorem dX10_readAsBoxed_29 : decode cX10_readAsBoxed 29 = .ok (.invokestatic 164, 3) := by decide +kernel
theorem dX10_readAsBoxed_32 : decode cX10_readAsBoxed 32 = .ok (.istore 7, 2) := by decide +kernel
theorem dX10_readAsBoxed_34 : decode cX10_readAsBoxed 34 = .ok (.aload_n 0, 1) := by decide +kernel
theorem dX10_readAsBoxed_35 : decode cX10_readAsBoxed 35 = .ok (.getfield 35, 3) := by decide +kernel
theorem dX10_readAsBoxed_38 : decode cX10_readAsBoxed 38 = .ok (.iload 6, 2) := by decide +kernel
theorem dX10_readAsBoxed_40 : decode cX10_readAsBoxed 40 = .ok (.aaload, 1) := by decide +kernel
theorem dX10_readAsBoxed_41 : decode cX10_readAsBoxed 41 = .ok (.getfield 126, 3) := by decide +kernel
theorem dX10_readAsBoxed_44 : decode cX10_readAsBoxed 44 = .ok (.ifCond .ne 31, 3) := by decide +kernel
theorem dX10_readAsBoxed_47 : decode cX10_readAsBoxed 47 = .ok (.iload 7, 2) := by decide +kernel
theorem dX10_readAsBoxed_49 : decode cX10_readAsBoxed 49 = .ok (.ifCond .lt 26, 3) := by decide +kernel
theorem dX10_readAsBoxed_52 : decode cX10_readAsBoxed 52 = .ok (.aload_n 0, 1) := by decide +kernel
theorem dX10_readAsBoxed_53 : decode cX10_readAsBoxed 53 = .ok (.getfield 35, 3) := by decide +kernel
theorem dX10_readAsBoxed_56 : decode cX10_readAsBoxed 56 = .ok (.iload 6, 2) := by decide +kernel
theorem dX10_readAsBoxed_58 : decode cX10_readAsBoxed 58 = .ok (.aaload, 1) := by decide +kernel
theorem dX10_readAsBoxed_59 : decode cX10_readAsBoxed 59 = .ok (.iload 7, 2) := by decide +kernel
theorem dX10_readAsBoxed_61 : decode cX10_readAsBoxed 61 = .ok (.ifCond .le 7, 3) := by decide +kernel
theorem dX10_readAsBoxed_64 : decode cX10_readAsBoxed 64 = .ok (.iconst 1, 1) := by decide +kernel
theorem dX10_readAsBoxed_65 : decode cX10_readAsBoxed 65 = .ok (.goto 4, 3) := by decide +kernel
theorem dX10_readAsBoxed_68 : decode cX10_readAsBoxed 68 = .ok (.iconst 0, 1) := by decide +kernel
theorem dX10_readAsBoxed_69 : decode cX10_readAsBoxed 69 = .ok (.invokevirtual 160, 3) := by decide +kernel
theorem dX10_readAsBoxed_72 : decode cX10_readAsBoxed 72 = .ok (.iinc 5 1, 3) := by decide +kernel
theorem dX10_readAsBoxed_75 : decode cX10_readAsBoxed 75 = .ok (.iinc 6 1, 3) := by decide +kernel
theorem dX10_readAsBoxed_78 : decode cX10_readAsBoxed 78 = .ok (.goto (-72), 3) := by decide +kernel
theorem dX10_readAsBoxed_81 : decode cX10_readAsBoxed 81 = .ok (.iload 5, 2) := by decide +kernel
theorem dX10_readAsBoxed_83 : decode cX10_readAsBoxed 83 = .ok (.ireturn, 1) := by decide +kernel
theorem dX10_asHeld_0 : decode cX10_asHeld 0 = .ok (.iload_n 0, 1) := by decide +kernel
theorem dX10_asHeld_1 : decode cX10_asHeld 1 = .ok (.lookupswitch 33 #[(0, 27), (1, 30)], 27) := by decide +kernel
theorem dX10_asHeld_28 : decode cX10_asHeld 28 = .ok (.iload_n 1, 1) := by decide +kernel
theorem dX10_asHeld_29 : decode cX10_asHeld 29 = .ok (.i2b, 1) := by decide +kernel
theorem dX10_asHeld_30 : decode cX10_asHeld 30 = .ok (.ireturn, 1) := by decide +kernel
theorem dX10_asHeld_31 : decode cX10_asHeld 31 = .ok (.iload_n 1, 1) := by decide +kernel
theorem dX10_asHeld_32 : decode cX10_asHeld 32 = .ok (.i2s, 1) := by decide +kernel
theorem dX10_asHeld_33 : decode cX10_asHeld 33 = .ok (.ireturn, 1) := by decide +kernel
theorem dX10_asHeld_34 : decode cX10_asHeld 34 = .ok (.iload_n 1, 1) := by decide +kernel
theorem dX10_asHeld_35 : decode cX10_asHeld 35 = .ok (.ireturn, 1) := by decide +kernel
theorem dX10_keepUnder_0 : decode cX10_keepUnder 0 = .ok (.aload_n 0, 1) := by decide +kernel
theorem dX10_keepUnder_1 : decode cX10_keepUnder 1 = .ok (.getfield 55, 3) := by decide +kernel
theorem dX10_keepUnder_4 : decode cX10_keepUnder 4 = .ok (.iload_n 1, 1) := by decide +kernel
theorem dX10_keepUnder_5 : decode cX10_keepUnder 5 = .ok (.aload_n 0, 1) := by decide +kernel
theorem dX10_keepUnder_6 : decode cX10_keepUnder 6 = .ok (.getfield 74, 3) := by decide +kernel
theorem dX10_keepUnder_9 : decode cX10_keepUnder 9 = .ok (.iastore, 1) := by decide +kernel
theorem dX10_keepUnder_10 : decode cX10_keepUnder 10 = .ok (.aload_n 0, 1) := by decide +kernel
theorem dX10_keepUnder_11 : decode cX10_keepUnder 11 = .ok (.getfield 58, 3) := by decide +kernel
theorem dX10_keepUnder_14 : decode cX10_keepUnder 14 = .ok (.iload_n 1, 1) := by decide +kernel
theorem dX10_keepUnder_15 : decode cX10_keepUnder 15 = .ok (.aload_n 0, 1) := by decide +kernel
theorem dX10_keepUnder_16 : decode cX10_keepUnder 16 = .ok (.getfield 51, 3) := by decide +kernel
theorem dX10_keepUnder_19 : decode cX10_keepUnder 19 = .ok (.iastore, 1) := by decide +kernel
theorem dX10_keepUnder_20 : decode cX10_keepUnder 20 = .ok (.iconst 0, 1) := by decide +kernel
theorem dX10_keepUnder_21 : decode cX10_keepUnder 21 = .ok (.istore_n 2, 1) := by decide +kernel
theorem dX10_keepUnder_22 : decode cX10_keepUnder 22 = .ok (.iload_n 2, 1) := by decide +kernel
theorem dX10_keepUnder_23 : decode cX10_keepUnder 23 = .ok (.aload_n 0, 1) := by decide +kernel
theorem dX10_keepUnder_24 : decode cX10_keepUnder 24 = .ok (.getfield 74, 3) := by decide +kernel
theorem dX10_keepUnder_27 : decode cX10_keepUnder 27 = .ok (.if_icmp .ge 26, 3) := by decide +kernel
theorem dX10_keepUnder_30 : decode cX10_keepUnder 30 = .ok (.aload_n 0, 1) := by decide +kernel
theorem dX10_keepUnder_31 : decode cX10_keepUnder 31 = .ok (.getfield 63, 3) := by decide +kernel
theorem dX10_keepUnder_34 : decode cX10_keepUnder 34 = .ok (.iload_n 1, 1) := by decide +kernel
theorem dX10_keepUnder_35 : decode cX10_keepUnder 35 = .ok (.aaload, 1) := by decide +kernel
theorem dX10_keepUnder_36 : decode cX10_keepUnder 36 = .ok (.iload_n 2, 1) := by decide +kernel
theorem dX10_keepUnder_37 : decode cX10_keepUnder 37 = .ok (.aload_n 0, 1) := by decide +kernel
theorem dX10_keepUnder_38 : decode cX10_keepUnder 38 = .ok (.getfield 35, 3) := by decide +kernel
theorem dX10_keepUnder_41 : decode cX10_keepUnder 41 = .ok (.iload_n 2, 1) := by decide +kernel
theorem dX10_keepUnder_42 : decode cX10_keepUnder 42 = .ok (.aaload, 1) := by decide +kernel
theorem dX10_keepUnder_43 : decode cX10_keepUnder 43 = .ok (.invokevirtual 167, 3) := by decide +kernel
theorem dX10_keepUnder_46 : decode cX10_keepUnder 46 = .ok (.iastore, 1) := by decide +kernel
theorem dX10_keepUnder_47 : decode cX10_keepUnder 47 = .ok (.iinc 2 1, 3) := by decide +kernel
theorem dX10_keepUnder_50 : decode cX10_keepUnder 50 = .ok (.goto (-28), 3) := by decide +kernel
theorem dX10_keepUnder_53 : decode cX10_keepUnder 53 = .ok (.return_, 1) := by decide +kernel
theorem dX10_bringBack_0 : decode cX10_bringBack 0 = .ok (.aload_n 0, 1) := by decide +kernel
theorem dX10_bringBack_1 : decode cX10_bringBack 1 = .ok (.getfield 55, 3) := by decide +kernel
theorem dX10_bringBack_4 : decode cX10_bringBack 4 = .ok (.iload_n 1, 1) := by decide +kernel
theorem dX10_bringBack_5 : decode cX10_bringBack 5 = .ok (.iaload, 1) := by decide +kernel
theorem dX10_bringBack_6 : decode cX10_bringBack 6 = .ok (.iconst (-1), 1) := by decide +kernel
theorem dX10_bringBack_7 : decode cX10_bringBack 7 = .ok (.if_icmp .eq 16, 3) := by decide +kernel
theorem dX10_bringBack_10 : decode cX10_bringBack 10 = .ok (.aload_n 0, 1) := by decide +kernel
theorem dX10_bringBack_11 : decode cX10_bringBack 11 = .ok (.getfield 55, 3) := by decide +kernel
theorem dX10_bringBack_14 : decode cX10_bringBack 14 = .ok (.iload_n 1, 1) := by decide +kernel
theorem dX10_bringBack_15 : decode cX10_bringBack 15 = .ok (.iaload, 1) := by decide +kernel
theorem dX10_bringBack_16 : decode cX10_bringBack 16 = .ok (.aload_n 0, 1) := by decide +kernel
theorem dX10_bringBack_17 : decode cX10_bringBack 17 = .ok (.getfield 74, 3) := by decide +kernel
theorem dX10_bringBack_20 : decode cX10_bringBack 20 = .ok (.if_icmp .le 5, 3) := by decide +kernel
theorem dX10_bringBack_23 : decode cX10_bringBack 23 = .ok (.iconst 0, 1) := by decide +kernel
theorem dX10_bringBack_24 : decode cX10_bringBack 24 = .ok (.ireturn, 1) := by decide +kernel
theorem dX10_bringBack_25 : decode cX10_bringBack 25 = .ok (.aload_n 0, 1) := by decide +kernel
theorem dX10_bringBack_26 : decode cX10_bringBack 26 = .ok (.aload_n 0, 1) := by decide +kernel
theorem dX10_bringBack_27 : decode cX10_bringBack 27 = .ok (.getfield 55, 3) := by decide +kernel
theorem dX10_bringBack_30 : decode cX10_bringBack 30 = .ok (.iload_n 1, 1) := by decide +kernel
theorem dX10_bringBack_31 : decode cX10_bringBack 31 = .ok (.iaload, 1) := by decide +kernel
theorem dX10_bringBack_32 : decode cX10_bringBack 32 = .ok (.putfield 74, 3) := by decide +kernel
theorem dX10_bringBack_35 : decode cX10_bringBack 35 = .ok (.aload_n 0, 1) := by decide +kernel
theorem dX10_bringBack_36 : decode cX10_bringBack 36 = .ok (.aload_n 0, 1) := by decide +kernel
theorem dX10_bringBack_37 : decode cX10_bringBack 37 = .ok (.getfield 58, 3) := by decide +kernel
theorem dX10_bringBack_40 : decode cX10_bringBack 40 = .ok (.iload_n 1, 1) := by decide +kernel
theorem dX10_bringBack_41 : decode cX10_bringBack 41 = .ok (.iaload, 1) := by decide +kernel
theorem dX10_bringBack_42 : decode cX10_bringBack 42 = .ok (.putfield 51, 3) := by decide +kernel
theorem dX10_bringBack_45 : decode cX10_bringBack 45 = .ok (.iconst 0, 1) := by decide +kernel
theorem dX10_bringBack_46 : decode cX10_bringBack 46 = .ok (.istore_n 2, 1) := by decide +kernel
theorem dX10_bringBack_47 : decode cX10_bringBack 47 = .ok (.iload_n 2, 1) := by decide +kernel
theorem dX10_bringBack_48 : decode cX10_bringBack 48 = .ok (.aload_n 0, 1) := by decide +kernel
theorem dX10_bringBack_49 : decode cX10_bringBack 49 = .ok (.getfield 74, 3) := by decide +kernel
theorem dX10_bringBack_52 : decode cX10_bringBack 52 = .ok (.if_icmp .ge 26, 3) := by decide +kernel
theorem dX10_bringBack_55 : decode cX10_bringBack 55 = .ok (.aload_n 0, 1) := by decide +kernel
theorem dX10_bringBack_56 : decode cX10_bringBack 56 = .ok (.getfield 35, 3) := by decide +kernel
theorem dX10_bringBack_59 : decode cX10_bringBack 59 = .ok (.iload_n 2, 1) := by decide +kernel
theorem dX10_bringBack_60 : decode cX10_bringBack 60 = .ok (.aaload, 1) := by decide +kernel
theorem dX10_bringBack_61 : decode cX10_bringBack 61 = .ok (.aload_n 0, 1) := by decide +kernel
theorem dX10_bringBack_62 : decode cX10_bringBack 62 = .ok (.getfield 63, 3) := by decide +kernel
theorem dX10_bringBack_65 : decode cX10_bringBack 65 = .ok (.iload_n 1, 1) := by decide +kernel
theorem dX10_bringBack_66 : decode cX10_bringBack 66 = .ok (.aaload, 1) := by decide +kernel
theorem dX10_bringBack_67 : decode cX10_bringBack 67 = .ok (.iload_n 2, 1) := by decide +kernel
theorem dX10_bringBack_68 : decode cX10_bringBack 68 = .ok (.iaload, 1) := by decide +kernel
theorem dX10_bringBack_69 : decode cX10_bringBack 69 = .ok (.invokevirtual 103, 3) := by decide +kernel
theorem dX10_bringBack_72 : decode cX10_bringBack 72 = .ok (.iinc 2 1, 3) := by decide +kernel
theorem dX10_bringBack_75 : decode cX10_bringBack 75 = .ok (.goto (-28), 3) := by decide +kernel
theorem dX10_bringBack_78 : decode cX10_bringBack 78 = .ok (.iconst 1, 1) := by decide +kernel
theorem dX10_bringBack_79 : decode cX10_bringBack 79 = .ok (.ireturn, 1) := by decide +kernel
theorem dX11_init_0 : decode cX11_init 0 = .ok (.aload_n 0, 1) := by decide +kernel
theorem dX11_init_1 : decode cX11_init 1 = .ok (.invokespecial 1, 3) := by decide +kernel
theorem dX11_init_4 : decode cX11_init 4 = .ok (.aload_n 0, 1) := by decide +kernel
theorem dX11_init_5 : decode cX11_init 5 = .ok (.new 7, 3) := by decide +kernel
theorem dX11_init_8 : decode cX11_init 8 = .ok (.dup, 1) := by decide +kernel
theorem dX11_init_9 : decode cX11_init 9 = .ok (.invokespecial 9, 3) := by decide +kernel
theorem dX11_init_12 : decode cX11_init 12 = .ok (.putfield 10, 3) := by decide +kernel
theorem dX11_init_15 : decode cX11_init 15 = .ok (.aload_n 0, 1) := by decide +kernel
theorem dX11_init_16 : decode cX11_init 16 = .ok (.new 16, 3) := by decide +kernel
theorem dX11_init_19 : decode cX11_init 19 = .ok (.dup, 1) := by decide +kernel
theorem dX11_init_20 : decode cX11_init 20 = .ok (.invokespecial 18, 3) := by decide +kernel
theorem dX11_init_23 : decode cX11_init 23 = .ok (.putfield 19, 3) := by decide +kernel
theorem dX11_init_26 : decode cX11_init 26 = .ok (.aload_n 0, 1) := by decide +kernel
theorem dX11_init_27 : decode cX11_init 27 = .ok (.new 23, 3) := by decide +kernel
theorem dX11_init_30 : decode cX11_init 30 = .ok (.dup, 1) := by decide +kernel
theorem dX11_init_31 : decode cX11_init 31 = .ok (.aload_n 0, 1) := by decide +kernel
theorem dX11_init_32 : decode cX11_init 32 = .ok (.getfield 10, 3) := by decide +kernel
theorem dX11_init_35 : decode cX11_init 35 = .ok (.aload_n 0, 1) := by decide +kernel
theorem dX11_init_36 : decode cX11_init 36 = .ok (.getfield 19, 3) := by decide +kernel
theorem dX11_init_39 : decode cX11_init 39 = .ok (.invokespecial 25, 3) := by decide +kernel
theorem dX11_init_42 : decode cX11_init 42 = .ok (.putfield 28, 3) := by decide +kernel
theorem dX11_init_45 : decode cX11_init 45 = .ok (.aload_n 0, 1) := by decide +kernel
theorem dX11_init_46 : decode cX11_init 46 = .ok (.new 32, 3) := by decide +kernel
theorem dX11_init_49 : decode cX11_init 49 = .ok (.dup, 1) := by decide +kernel
theorem dX11_init_50 : decode cX11_init 50 = .ok (.aload_n 0, 1) := by decide +kernel
theorem dX11_init_51 : decode cX11_init 51 = .ok (.getfield 10, 3) := by decide +kernel
theorem dX11_init_54 : decode cX11_init 54 = .ok (.aload_n 0, 1) := by decide +kernel
theorem dX11_init_55 : decode cX11_init 55 = .ok (.getfield 19, 3) := by decide +kernel
theorem dX11_init_58 : decode cX11_init 58 = .ok (.invokespecial 34, 3) := by decide +kernel
theorem dX11_init_61 : decode cX11_init 61 = .ok (.putfield 35, 3) := by decide +kernel
theorem dX11_init_64 : decode cX11_init 64 = .ok (.aload_n 0, 1) := by decide +kernel
theorem dX11_init_65 : decode cX11_init 65 = .ok (.new 39, 3) := by decide +kernel
theorem dX11_init_68 : decode cX11_init 68 = .ok (.dup, 1) := by decide +kernel
theorem dX11_init_69 : decode cX11_init 69 = .ok (.aload_n 0, 1) := by decide +kernel
theorem dX11_init_70 : decode cX11_init 70 = .ok (.getfield 10, 3) := by decide +kernel
theorem dX11_init_73 : decode cX11_init 73 = .ok (.aload_n 0, 1) := by decide +kernel
theorem dX11_init_74 : decode cX11_init 74 = .ok (.getfield 19, 3) := by decide +kernel
theorem dX11_init_77 : decode cX11_init 77 = .ok (.invokespecial 41, 3) := by decide +kernel
theorem dX11_init_80 : decode cX11_init 80 = .ok (.putfield 42, 3) := by decide +kernel
theorem dX11_init_83 : decode cX11_init 83 = .ok (.aload_n 0, 1) := by decide +kernel
theorem dX11_init_84 : decode cX11_init 84 = .ok (.new 46, 3) := by decide +kernel
theorem dX11_init_87 : decode cX11_init 87 = .ok (.dup, 1) := by decide +kernel
theorem dX11_init_88 : decode cX11_init 88 = .ok (.aload_n 0, 1) := by decide +kernel
theorem dX11_init_89 : decode cX11_init 89 = .ok (.getfield 10, 3) := by decide +kernel
theorem dX11_init_92 : decode cX11_init 92 = .ok (.aload_n 0, 1) := by decide +kernel
theorem dX11_init_93 : decode cX11_init 93 = .ok (.getfield 19, 3) := by decide +kernel
theorem dX11_init_96 : decode cX11_init 96 = .ok (.invokespecial 48, 3) := by decide +kernel
theorem dX11_init_99 : decode cX11_init 99 = .ok (.putfield 49, 3) := by decide +kernel
theorem dX11_init_102 : decode cX11_init 102 = .ok (.aload_n 0, 1) := by decide +kernel
theorem dX11_init_103 : decode cX11_init 103 = .ok (.new 53, 3) := by decide +kernel
theorem dX11_init_106 : decode cX11_init 106 = .ok (.dup, 1) := by decide +kernel
theorem dX11_init_107 : decode cX11_init 107 = .ok (.aload_n 0, 1) := by decide +kernel
theorem dX11_init_108 : decode cX11_init 108 = .ok (.getfield 19, 3) := by decide +kernel
theorem dX11_init_111 : decode cX11_init 111 = .ok (.invokespecial 55, 3) := by decide +kernel
theorem dX11_init_114 : decode cX11_init 114 = .ok (.putfield 58, 3) := by decide +kernel
theorem dX11_init_117 : decode cX11_init 117 = .ok (.aload_n 0, 1) := by decide +kernel
theorem dX11_init_118 : decode cX11_init 118 = .ok (.bipush 60, 2) := by decide +kernel
theorem dX11_init_120 : decode cX11_init 120 = .ok (.newarray .int, 2) := by decide +kernel
theorem dX11_init_122 : decode cX11_init 122 = .ok (.putfield 62, 3) := by decide +kernel
theorem dX11_init_125 : decode cX11_init 125 = .ok (.return_, 1) := by decide +kernel
theorem dX11_name_0 : decode cX11_name 0 = .ok (.iload_n 1, 1) := by decide +kernel
theorem dX11_name_1 : decode cX11_name 1 = .ok (.iconst 0, 1) := by decide +kernel
theorem dX11_name_2 : decode cX11_name 2 = .ok (.iconst 1, 1) := by decide +kernel
theorem dX11_name_3 : decode cX11_name 3 = .ok (.invokestatic 66, 3) := by decide +kernel
theorem dX11_name_6 : decode cX11_name 6 = .ok (.ifCond .eq 27, 3) := by decide +kernel
theorem dX11_name_9 : decode cX11_name 9 = .ok (.iload_n 2, 1) := by decide +kernel
theorem dX11_name_10 : decode cX11_name 10 = .ok (.iconst 0, 1) := by decide +kernel
theorem dX11_name_11 : decode cX11_name 11 = .ok (.iconst 1, 1) := by decide +kernel
theorem dX11_name_12 : decode cX11_name 12 = .ok (.invokestatic 66, 3) := by decide +kernel
theorem dX11_name_15 : decode cX11_name 15 = .ok (.ifCond .eq 18, 3) := by decide +kernel
theorem dX11_name_18 : decode cX11_name 18 = .ok (.iload_n 3, 1) := by decide +kernel
theorem dX11_name_19 : decode cX11_name 19 = .ok (.iconst 0, 1) := by decide +kernel
theorem dX11_name_20 : decode cX11_name 20 = .ok (.sipush 1009, 3) := by decide +kernel
theorem dX11_name_23 : decode cX11_name 23 = .ok (.invokestatic 66, 3) := by decide +kernel
theorem dX11_name_26 : decode cX11_name 26 = .ok (.ifCond .eq 7, 3) := by decide +kernel
theorem dX11_name_29 : decode cX11_name 29 = .ok (.iconst 1, 1) := by decide +kernel
theorem dX11_name_30 : decode cX11_name 30 = .ok (.goto 4, 3) := by decide +kernel
theorem dX11_name_33 : decode cX11_name 33 = .ok (.iconst 0, 1) := by decide +kernel
theorem dX11_name_34 : decode cX11_name 34 = .ok (.istore 4, 2) := by decide +kernel
theorem dX11_name_36 : decode cX11_name 36 = .ok (.iload 4, 2) := by decide +kernel
theorem dX11_name_38 : decode cX11_name 38 = .ok (.ifCond .eq 28, 3) := by decide +kernel
theorem dX11_name_41 : decode cX11_name 41 = .ok (.aload_n 0, 1) := by decide +kernel
theorem dX11_name_42 : decode cX11_name 42 = .ok (.getfield 10, 3) := by decide +kernel
theorem dX11_name_45 : decode cX11_name 45 = .ok (.getfield 70, 3) := by decide +kernel
theorem dX11_name_48 : decode cX11_name 48 = .ok (.bipush 12, 2) := by decide +kernel
theorem dX11_name_50 : decode cX11_name 50 = .ok (.if_icmp .ge 16, 3) := by decide +kernel
theorem dX11_name_53 : decode cX11_name 53 = .ok (.aload_n 0, 1) := by decide +kernel
theorem dX11_name_54 : decode cX11_name 54 = .ok (.getfield 10, 3) := by decide +kernel
theorem dX11_name_57 : decode cX11_name 57 = .ok (.iload_n 1, 1) := by decide +kernel
theorem dX11_name_58 : decode cX11_name 58 = .ok (.iload_n 2, 1) := by decide +kernel
theorem dX11_name_59 : decode cX11_name 59 = .ok (.iload_n 3, 1) := by decide +kernel
theorem dX11_name_60 : decode cX11_name 60 = .ok (.invokevirtual 74, 3) := by decide +kernel
theorem dX11_name_63 : decode cX11_name 63 = .ok (.goto 4, 3) := by decide +kernel
theorem dX11_name_66 : decode cX11_name 66 = .ok (.iconst (-1), 1) := by decide +kernel
theorem dX11_name_67 : decode cX11_name 67 = .ok (.ireturn, 1) := by decide +kernel
theorem dX11_house_0 : decode cX11_house 0 = .ok (.iload_n 1, 1) := by decide +kernel
theorem dX11_house_1 : decode cX11_house 1 = .ok (.iconst 0, 1) := by decide +kernel
theorem dX11_house_2 : decode cX11_house 2 = .ok (.iconst 3, 1) := by decide +kernel
theorem dX11_house_3 : decode cX11_house 3 = .ok (.invokestatic 66, 3) := by decide +kernel
theorem dX11_house_6 : decode cX11_house 6 = .ok (.ifCond .eq 25, 3) := by decide +kernel
theorem dX11_house_9 : decode cX11_house 9 = .ok (.iload_n 2, 1) := by decide +kernel
theorem dX11_house_10 : decode cX11_house 10 = .ok (.iconst 0, 1) := by decide +kernel
theorem dX11_house_11 : decode cX11_house 11 = .ok (.iconst 3, 1) := by decide +kernel
theorem dX11_house_12 : decode cX11_house 12 = .ok (.invokestatic 66, 3) := by decide +kernel
theorem dX11_house_15 : decode cX11_house 15 = .ok (.ifCond .eq 16, 3) := by decide +kernel
theorem dX11_house_18 : decode cX11_house 18 = .ok (.iload_n 3, 1) := by decide +kernel
theorem dX11_house_19 : decode cX11_house 19 = .ok (.iconst 0, 1) := by decide +kernel
theorem dX11_house_20 : decode cX11_house 20 = .ok (.iconst 5, 1) := by decide +kernel
theorem dX11_house_21 : decode cX11_house 21 = .ok (.invokestatic 66, 3) := by decide +kernel
theorem dX11_house_24 : decode cX11_house 24 = .ok (.ifCond .eq 7, 3) := by decide +kernel
theorem dX11_house_27 : decode cX11_house 27 = .ok (.iconst 1, 1) := by decide +kernel
theorem dX11_house_28 : decode cX11_house 28 = .ok (.goto 4, 3) := by decide +kernel
theorem dX11_house_31 : decode cX11_house 31 = .ok (.iconst 0, 1) := by decide +kernel
theorem dX11_house_32 : decode cX11_house 32 = .ok (.istore 4, 2) := by decide +kernel
theorem dX11_house_34 : decode cX11_house 34 = .ok (.iload 4, 2) := by decide +kernel
theorem dX11_house_36 : decode cX11_house 36 = .ok (.ifCond .eq 28, 3) := by decide +kernel
theorem dX11_house_39 : decode cX11_house 39 = .ok (.aload_n 0, 1) := by decide +kernel
theorem dX11_house_40 : decode cX11_house 40 = .ok (.getfield 10, 3) := by decide +kernel
theorem dX11_house_43 : decode cX11_house 43 = .ok (.getfield 78, 3) := by decide +kernel
theorem dX11_house_46 : decode cX11_house 46 = .ok (.bipush 24, 2) := by decide +kernel
theorem dX11_house_48 : decode cX11_house 48 = .ok (.if_icmp .ge 16, 3) := by decide +kernel
theorem dX11_house_51 : decode cX11_house 51 = .ok (.aload_n 0, 1) := by decide +kernel
theorem dX11_house_52 : decode cX11_house 52 = .ok (.getfield 10, 3) := by decide +kernel
theorem dX11_house_55 : decode cX11_house 55 = .ok (.iload_n 1, 1) := by decide +kernel
theorem dX11_house_56 : decode cX11_house 56 = .ok (.iload_n 2, 1) := by decide +kernel
theorem dX11_house_57 : decode cX11_house 57 = .ok (.iload_n 3, 1) := by decide +kernel
theorem dX11_house_58 : decode cX11_house 58 = .ok (.invokevirtual 81, 3) := by decide +kernel
theorem dX11_house_61 : decode cX11_house 61 = .ok (.goto 4, 3) := by decide +kernel
theorem dX11_house_64 : decode cX11_house 64 = .ok (.iconst (-1), 1) := by decide +kernel
theorem dX11_house_65 : decode cX11_house 65 = .ok (.ireturn, 1) := by decide +kernel
theorem dX11_letter_0 : decode cX11_letter 0 = .ok (.aload_n 0, 1) := by decide +kernel
theorem dX11_letter_1 : decode cX11_letter 1 = .ok (.getfield 10, 3) := by decide +kernel
theorem dX11_letter_4 : decode cX11_letter 4 = .ok (.iload_n 1, 1) := by decide +kernel
theorem dX11_letter_5 : decode cX11_letter 5 = .ok (.invokevirtual 84, 3) := by decide +kernel
theorem dX11_letter_8 : decode cX11_letter 8 = .ok (.ifCond .eq 51, 3) := by decide +kernel
theorem dX11_letter_11 : decode cX11_letter 11 = .ok (.aload_n 0, 1) := by decide +kernel
theorem dX11_letter_12 : decode cX11_letter 12 = .ok (.getfield 10, 3) := by decide +kernel
theorem dX11_letter_15 : decode cX11_letter 15 = .ok (.iload_n 2, 1) := by decide +kernel
theorem dX11_letter_16 : decode cX11_letter 16 = .ok (.invokevirtual 88, 3) := by decide +kernel
theorem dX11_letter_19 : decode cX11_letter 19 = .ok (.ifCond .eq 40, 3) := by decide +kernel
theorem dX11_letter_22 : decode cX11_letter 22 = .ok (.iload_n 3, 1) := by decide +kernel
theorem dX11_letter_23 : decode cX11_letter 23 = .ok (.iconst 0, 1) := by decide +kernel
theorem dX11_letter_24 : decode cX11_letter 24 = .ok (.bipush 99, 2) := by decide +kernel
theorem dX11_letter_26 : decode cX11_letter 26 = .ok (.invokestatic 66, 3) := by decide +kernel
theorem dX11_letter_29 : decode cX11_letter 29 = .ok (.ifCond .eq 30, 3) := by decide +kernel
theorem dX11_letter_32 : decode cX11_letter 32 = .ok (.iload 4, 2) := by decide +kernel
theorem dX11_letter_34 : decode cX11_letter 34 = .ok (.iconst 0, 1) := by decide +kernel
theorem dX11_letter_35 : decode cX11_letter 35 = .ok (.bipush 39, 2) := by decide +kernel
theorem dX11_letter_37 : decode cX11_letter 37 = .ok (.invokestatic 66, 3) := by decide +kernel
theorem dX11_letter_40 : decode cX11_letter 40 = .ok (.ifCond .eq 19, 3) := by decide +kernel
theorem dX11_letter_43 : decode cX11_letter 43 = .ok (.iload 5, 2) := by decide +kernel
theorem dX11_letter_45 : decode cX11_letter 45 = .ok (.iconst 0, 1) := by decide +kernel
theorem dX11_letter_46 : decode cX11_letter 46 = .ok (.sipush 399, 3) := by decide +kernel
theorem dX11_letter_49 : decode cX11_letter 49 = .ok (.invokestatic 66, 3) := by decide +kernel
theorem dX11_letter_52 : decode cX11_letter 52 = .ok (.ifCond .eq 7, 3) := by decide +kernel
theorem dX11_letter_55 : decode cX11_letter 55 = .ok (.iconst 1, 1) := by decide +kernel
theorem dX11_letter_56 : decode cX11_letter 56 = .ok (.goto 4, 3) := by decide +kernel
theorem dX11_letter_59 : decode cX11_letter 59 = .ok (.iconst 0, 1) := by decide +kernel
theorem dX11_letter_60 : decode cX11_letter 60 = .ok (.istore 6, 2) := by decide +kernel
theorem dX11_letter_62 : decode cX11_letter 62 = .ok (.aload_n 0, 1) := by decide +kernel
theorem dX11_letter_63 : decode cX11_letter 63 = .ok (.getfield 10, 3) := by decide +kernel
theorem dX11_letter_66 : decode cX11_letter 66 = .ok (.getfield 91, 3) := by decide +kernel
theorem dX11_letter_69 : decode cX11_letter 69 = .ok (.bipush 96, 2) := by decide +kernel
theorem dX11_letter_71 : decode cX11_letter 71 = .ok (.if_icmp .ge 19, 3) := by decide +kernel
theorem dX11_letter_74 : decode cX11_letter 74 = .ok (.aload_n 0, 1) := by decide +kernel
theorem dX11_letter_75 : decode cX11_letter 75 = .ok (.getfield 10, 3) := by decide +kernel
theorem dX11_letter_78 : decode cX11_letter 78 = .ok (.iload_n 1, 1) := by decide +kernel
theorem dX11_letter_79 : decode cX11_letter 79 = .ok (.invokevirtual 94, 3) := by decide +kernel
theorem dX11_letter_82 : decode cX11_letter 82 = .ok (.iconst 4, 1) := by decide +kernel
theorem dX11_letter_83 : decode cX11_letter 83 = .ok (.if_icmp .ge 7, 3) := by decide +kernel
theorem dX11_letter_86 : decode cX11_letter 86 = .ok (.iconst 1, 1) := by decide +kernel
theorem dX11_letter_87 : decode cX11_letter 87 = .ok (.goto 4, 3) := by decide +kernel
theorem dX11_letter_90 : decode cX11_letter 90 = .ok (.iconst 0, 1) := by decide +kernel
theorem dX11_letter_91 : decode cX11_letter 91 = .ok (.istore 7, 2) := by decide +kernel
theorem dX11_letter_93 : decode cX11_letter 93 = .ok (.iload 6, 2) := by decide +kernel
theorem dX11_letter_95 : decode cX11_letter 95 = .ok (.ifCond .eq 25, 3) := by decide +kernel
theorem dX11_letter_98 : decode cX11_letter 98 = .ok (.iload 7, 2) := by decide +kernel
theorem dX11_letter_100 : decode cX11_letter 100 = .ok (.ifCond .eq 20, 3) := by decide +kernel
theorem dX11_letter_103 : decode cX11_letter 103 = .ok (.aload_n 0, 1) := by decide +kernel
theorem dX11_letter_104 : decode cX11_letter 104 = .ok (.getfield 10, 3) := by decide +kernel
theorem dX11_letter_107 : decode cX11_letter 107 = .ok (.iload_n 1, 1) := by decide +kernel
theorem dX11_letter_108 : decode cX11_letter 108 = .ok (.iload_n 2, 1) := by decide +kernel
theorem dX11_letter_109 : decode cX11_letter 109 = .ok (.iload_n 3, 1) := by decide +kernel
theorem dX11_letter_110 : decode cX11_letter 110 = .ok (.iload 4, 2) := by decide +kernel
theorem dX11_letter_112 : decode cX11_letter 112 = .ok (.iload 5, 2) := by decide +kernel
theorem dX11_letter_114 : decode cX11_letter 114 = .ok (.invokevirtual 98, 3) := by decide +kernel
theorem dX11_letter_117 : decode cX11_letter 117 = .ok (.goto 4, 3) := by decide +kernel
theorem dX11_letter_120 : decode cX11_letter 120 = .ok (.iconst (-1), 1) := by decide +kernel
theorem dX11_letter_121 : decode cX11_letter 121 = .ok (.ireturn, 1) := by decide +kernel
theorem dX11_deal_0 : decode cX11_deal 0 = .ok (.aload_n 0, 1) := by decide +kernel
theorem dX11_deal_1 : decode cX11_deal 1 = .ok (.getfield 10, 3) := by decide +kernel
theorem dX11_deal_4 : decode cX11_deal 4 = .ok (.iload_n 1, 1) := by decide +kernel
theorem dX11_deal_5 : decode cX11_deal 5 = .ok (.invokevirtual 84, 3) := by decide +kernel
theorem dX11_deal_8 : decode cX11_deal 8 = .ok (.ifCond .eq 27, 3) := by decide +kernel
theorem dX11_deal_11 : decode cX11_deal 11 = .ok (.iload_n 2, 1) := by decide +kernel
theorem dX11_deal_12 : decode cX11_deal 12 = .ok (.iconst 0, 1) := by decide +kernel
theorem dX11_deal_13 : decode cX11_deal 13 = .ok (.bipush 99, 2) := by decide +kernel
theorem dX11_deal_15 : decode cX11_deal 15 = .ok (.invokestatic 66, 3) := by decide +kernel
theorem dX11_deal_18 : decode cX11_deal 18 = .ok (.ifCond .eq 17, 3) := by decide +kernel
theorem dX11_deal_21 : decode cX11_deal 21 = .ok (.iload_n 3, 1) := by decide +kernel
theorem dX11_deal_22 : decode cX11_deal 22 = .ok (.iconst 0, 1) := by decide +kernel
theorem dX11_deal_23 : decode cX11_deal 23 = .ok (.bipush 99, 2) := by decide +kernel
theorem dX11_deal_25 : decode cX11_deal 25 = .ok (.invokestatic 66, 3) := by decide +kernel
theorem dX11_deal_28 : decode cX11_deal 28 = .ok (.ifCond .eq 7, 3) := by decide +kernel
theorem dX11_deal_31 : decode cX11_deal 31 = .ok (.iconst 1, 1) := by decide +kernel
theorem dX11_deal_32 : decode cX11_deal 32 = .ok (.goto 4, 3) := by decide +kernel
theorem dX11_deal_35 : decode cX11_deal 35 = .ok (.iconst 0, 1) := by decide +kernel
theorem dX11_deal_36 : decode cX11_deal 36 = .ok (.istore 4, 2) := by decide +kernel
theorem dX11_deal_38 : decode cX11_deal 38 = .ok (.aload_n 0, 1) := by decide +kernel
theorem dX11_deal_39 : decode cX11_deal 39 = .ok (.getfield 10, 3) := by decide +kernel
theorem dX11_deal_42 : decode cX11_deal 42 = .ok (.getfield 91, 3) := by decide +kernel
theorem dX11_deal_45 : decode cX11_deal 45 = .ok (.iconst 4, 1) := by decide +kernel
theorem dX11_deal_46 : decode cX11_deal 46 = .ok (.iadd, 1) := by decide +kernel
theorem dX11_deal_47 : decode cX11_deal 47 = .ok (.bipush 96, 2) := by decide +kernel
theorem dX11_deal_49 : decode cX11_deal 49 = .ok (.if_icmp .gt 18, 3) := by decide +kernel
theorem dX11_deal_52 : decode cX11_deal 52 = .ok (.aload_n 0, 1) := by decide +kernel
theorem dX11_deal_53 : decode cX11_deal 53 = .ok (.getfield 10, 3) := by decide +kernel
theorem dX11_deal_56 : decode cX11_deal 56 = .ok (.iload_n 1, 1) := by decide +kernel
theorem dX11_deal_57 : decode cX11_deal 57 = .ok (.invokevirtual 94, 3) := by decide +kernel
theorem dX11_deal_60 : decode cX11_deal 60 = .ok (.ifCond .ne 7, 3) := by decide +kernel
theorem dX11_deal_63 : decode cX11_deal 63 = .ok (.iconst 1, 1) := by decide +kernel
theorem dX11_deal_64 : decode cX11_deal 64 = .ok (.goto 4, 3) := by decide +kernel
theorem dX11_deal_67 : decode cX11_deal 67 = .ok (.iconst 0, 1) := by decide +kernel
theorem dX11_deal_68 : decode cX11_deal 68 = .ok (.istore 5, 2) := by decide +kernel
theorem dX11_deal_70 : decode cX11_deal 70 = .ok (.aload_n 0, 1) := by decide +kernel
theorem dX11_deal_71 : decode cX11_deal 71 = .ok (.getfield 10, 3) := by decide +kernel
theorem dX11_deal_74 : decode cX11_deal 74 = .ok (.iconst 0, 1) := by decide +kernel
theorem dX11_deal_75 : decode cX11_deal 75 = .ok (.invokevirtual 102, 3) := by decide +kernel
theorem dX11_deal_78 : decode cX11_deal 78 = .ok (.iconst 2, 1) := by decide +kernel
theorem dX11_deal_79 : decode cX11_deal 79 = .ok (.if_icmp .lt 19, 3) := by decide +kernel
theorem dX11_deal_82 : decode cX11_deal 82 = .ok (.aload_n 0, 1) := by decide +kernel
theorem dX11_deal_83 : decode cX11_deal 83 = .ok (.getfield 10, 3) := by decide +kernel
theorem dX11_deal_86 : decode cX11_deal 86 = .ok (.iconst 1, 1) := by decide +kernel
theorem dX11_deal_87 : decode cX11_deal 87 = .ok (.invokevirtual 102, 3) := by decide +kernel
theorem dX11_deal_90 : decode cX11_deal 90 = .ok (.iconst 2, 1) := by decide +kernel
theorem dX11_deal_91 : decode cX11_deal 91 = .ok (.if_icmp .lt 7, 3) := by decide +kernel
theorem dX11_deal_94 : decode cX11_deal 94 = .ok (.iconst 1, 1) := by decide +kernel
theorem dX11_deal_95 : decode cX11_deal 95 = .ok (.goto 4, 3) := by decide +kernel
theorem dX11_deal_98 : decode cX11_deal 98 = .ok (.iconst 0, 1) := by decide +kernel
theorem dX11_deal_99 : decode cX11_deal 99 = .ok (.istore 6, 2) := by decide +kernel
theorem dX11_deal_101 : decode cX11_deal 101 = .ok (.iload 4, 2) := by decide +kernel
theorem dX11_deal_103 : decode cX11_deal 103 = .ok (.ifCond .eq 26, 3) := by decide +kernel
theorem dX11_deal_106 : decode cX11_deal 106 = .ok (.iload 5, 2) := by decide +kernel
theorem dX11_deal_108 : decode cX11_deal 108 = .ok (.ifCond .eq 21, 3) := by decide +kernel
theorem dX11_deal_111 : decode cX11_deal 111 = .ok (.iload 6, 2) := by decide +kernel
theorem dX11_deal_113 : decode cX11_deal 113 = .ok (.ifCond .eq 16, 3) := by decide +kernel
theorem dX11_deal_116 : decode cX11_deal 116 = .ok (.aload_n 0, 1) := by decide +kernel
theorem dX11_deal_117 : decode cX11_deal 117 = .ok (.getfield 10, 3) := by decide +kernel
theorem dX11_deal_120 : decode cX11_deal 120 = .ok (.iload_n 1, 1) := by decide +kernel
theorem dX11_deal_121 : decode cX11_deal 121 = .ok (.iload_n 2, 1) := by decide +kernel
theorem dX11_deal_122 : decode cX11_deal 122 = .ok (.iload_n 3, 1) := by decide +kernel
theorem dX11_deal_123 : decode cX11_deal 123 = .ok (.invokevirtual 105, 3) := by decide +kernel
theorem dX11_deal_126 : decode cX11_deal 126 = .ok (.goto 4, 3) := by decide +kernel
theorem dX11_deal_129 : decode cX11_deal 129 = .ok (.iconst (-1), 1) := by decide +kernel
theorem dX11_deal_130 : decode cX11_deal 130 = .ok (.ireturn, 1) := by decide +kernel
theorem dX11_of_0 : decode cX11_of 0 = .ok (.aload_n 0, 1) := by decide +kernel
theorem dX11_of_1 : decode cX11_of 1 = .ok (.getfield 10, 3) := by decide +kernel
theorem dX11_of_4 : decode cX11_of 4 = .ok (.iload_n 1, 1) := by decide +kernel
theorem dX11_of_5 : decode cX11_of 5 = .ok (.invokevirtual 108, 3) := by decide +kernel
theorem dX11_of_8 : decode cX11_of 8 = .ok (.ifCond .eq 13, 3) := by decide +kernel
theorem dX11_of_11 : decode cX11_of 11 = .ok (.iload_n 2, 1) := by decide +kernel
theorem dX11_of_12 : decode cX11_of 12 = .ok (.iconst 0, 1) := by decide +kernel
theorem dX11_of_13 : decode cX11_of 13 = .ok (.bipush 8, 2) := by decide +kernel
theorem dX11_of_15 : decode cX11_of 15 = .ok (.invokestatic 66, 3) := by decide +kernel
theorem dX11_of_18 : decode cX11_of 18 = .ok (.ifCond .ne 13, 3) := by decide +kernel
theorem dX11_of_21 : decode cX11_of 21 = .ok (.new 111, 3) := by decide +kernel
theorem dX11_of_24 : decode cX11_of 24 = .ok (.dup, 1) := by decide +kernel
theorem dX11_of_25 : decode cX11_of 25 = .ok (.ldc 113, 2) := by decide +kernel
theorem dX11_of_27 : decode cX11_of 27 = .ok (.invokespecial 115, 3) := by decide +kernel
theorem dX11_of_30 : decode cX11_of 30 = .ok (.athrow, 1) := by decide +kernel
theorem dX11_of_31 : decode cX11_of 31 = .ok (.aload_n 0, 1) := by decide +kernel
theorem dX11_of_32 : decode cX11_of 32 = .ok (.getfield 10, 3) := by decide +kernel
theorem dX11_of_35 : decode cX11_of 35 = .ok (.getfield 118, 3) := by decide +kernel
theorem dX11_of_38 : decode cX11_of 38 = .ok (.iload_n 1, 1) := by decide +kernel
theorem dX11_of_39 : decode cX11_of 39 = .ok (.aaload, 1) := by decide +kernel
theorem dX11_of_40 : decode cX11_of 40 = .ok (.iload_n 2, 1) := by decide +kernel
theorem dX11_of_41 : decode cX11_of 41 = .ok (.invokevirtual 122, 3) := by decide +kernel
theorem dX11_of_44 : decode cX11_of 44 = .ok (.ireturn, 1) := by decide +kernel
theorem dX11_sign_0 : decode cX11_sign 0 = .ok (.aload_n 0, 1) := by decide +kernel
theorem dX11_sign_1 : decode cX11_sign 1 = .ok (.getfield 126, 3) := by decide +kernel
theorem dX11_sign_4 : decode cX11_sign 4 = .ok (.iconst 4, 1) := by decide +kernel
theorem dX11_sign_5 : decode cX11_sign 5 = .ok (.iadd, 1) := by decide +kernel
theorem dX11_sign_6 : decode cX11_sign 6 = .ok (.bipush 60, 2) := by decide +kernel
theorem dX11_sign_8 : decode cX11_sign 8 = .ok (.if_icmp .le 5, 3) := by decide +kernel
theorem dX11_sign_11 : decode cX11_sign 11 = .ok (.iconst (-1), 1) := by decide +kernel
theorem dX11_sign_12 : decode cX11_sign 12 = .ok (.ireturn, 1) := by decide +kernel
theorem dX11_sign_13 : decode cX11_sign 13 = .ok (.bipush 24, 2) := by decide +kernel
theorem dX11_sign_15 : decode cX11_sign 15 = .ok (.istore_n 2, 1) := by decide +kernel
theorem dX11_sign_16 : decode cX11_sign 16 = .ok (.iload_n 2, 1) := by decide +kernel
theorem dX11_sign_17 : decode cX11_sign 17 = .ok (.ifCond .lt 35, 3) := by decide +kernel
theorem dX11_sign_20 : decode cX11_sign 20 = .ok (.aload_n 0, 1) := by decide +kernel
theorem dX11_sign_21 : decode cX11_sign 21 = .ok (.getfield 62, 3) := by decide +kernel
theorem dX11_sign_24 : decode cX11_sign 24 = .ok (.aload_n 0, 1) := by decide +kernel
theorem dX11_sign_25 : decode cX11_sign 25 = .ok (.getfield 126, 3) := by decide +kernel
theorem dX11_sign_28 : decode cX11_sign 28 = .ok (.iload_n 1, 1) := by decide +kernel
theorem dX11_sign_29 : decode cX11_sign 29 = .ok (.iload_n 2, 1) := by decide +kernel
theorem dX11_sign_30 : decode cX11_sign 30 = .ok (.iushr, 1) := by decide +kernel
theorem dX11_sign_31 : decode cX11_sign 31 = .ok (.sipush 255, 3) := by decide +kernel
theorem dX11_sign_34 : decode cX11_sign 34 = .ok (.iand, 1) := by decide +kernel
theorem dX11_sign_35 : decode cX11_sign 35 = .ok (.iastore, 1) := by decide +kernel
theorem dX11_sign_36 : decode cX11_sign 36 = .ok (.aload_n 0, 1) := by decide +kernel
theorem dX11_sign_37 : decode cX11_sign 37 = .ok (.dup, 1) := by decide +kernel
theorem dX11_sign_38 : decode cX11_sign 38 = .ok (.getfield 126, 3) := by decide +kernel
theorem dX11_sign_41 : decode cX11_sign 41 = .ok (.iconst 1, 1) := by decide +kernel
theorem dX11_sign_42 : decode cX11_sign 42 = .ok (.iadd, 1) := by decide +kernel
theorem dX11_sign_43 : decode cX11_sign 43 = .ok (.putfield 126, 3) := by decide +kernel
theorem dX11_sign_46 : decode cX11_sign 46 = .ok (.iinc 2 (-8), 3) := by decide +kernel
theorem dX11_sign_49 : decode cX11_sign 49 = .ok (.goto (-33), 3) := by decide +kernel
theorem dX11_sign_52 : decode cX11_sign 52 = .ok (.aload_n 0, 1) := by decide +kernel
theorem dX11_sign_53 : decode cX11_sign 53 = .ok (.getfield 126, 3) := by decide +kernel
theorem dX11_sign_56 : decode cX11_sign 56 = .ok (.ireturn, 1) := by decide +kernel
theorem dX11_end_0 : decode cX11_end 0 = .ok (.iload_n 1, 1) := by decide +kernel
theorem dX11_end_1 : decode cX11_end 1 = .ok (.iconst 0, 1) := by decide +kernel
theorem dX11_end_2 : decode cX11_end 2 = .ok (.aload_n 0, 1) := by decide +kernel
theorem dX11_end_3 : decode cX11_end 3 = .ok (.getfield 126, 3) := by decide +kernel
theorem dX11_end_6 : decode cX11_end 6 = .ok (.invokestatic 66, 3) := by decide +kernel
theorem dX11_end_9 : decode cX11_end 9 = .ok (.ifCond .ne 5, 3) := by decide +kernel
theorem dX11_end_12 : decode cX11_end 12 = .ok (.iconst 0, 1) := by decide +kernel
theorem dX11_end_13 : decode cX11_end 13 = .ok (.ireturn, 1) := by decide +kernel
theorem dX11_end_14 : decode cX11_end 14 = .ok (.aload_n 0, 1) := by decide +kernel
theorem dX11_end_15 : decode cX11_end 15 = .ok (.iload_n 1, 1) := by decide +kernel
theorem dX11_end_16 : decode cX11_end 16 = .ok (.putfield 126, 3) := by decide +kernel
theorem dX11_end_19 : decode cX11_end 19 = .ok (.iconst 1, 1) := by decide +kernel
theorem dX11_end_20 : decode cX11_end 20 = .ok (.ireturn, 1) := by decide +kernel
theorem dX11_law_0 : decode cX11_law 0 = .ok (.aload_n 0, 1) := by decide +kernel
theorem dX11_law_1 : decode cX11_law 1 = .ok (.aload_n 0, 1) := by decide +kernel
theorem dX11_law_2 : decode cX11_law 2 = .ok (.getfield 10, 3) := by decide +kernel
theorem dX11_law_5 : decode cX11_law 5 = .ok (.getfield 129, 3) := by decide +kernel
theorem dX11_law_8 : decode cX11_law 8 = .ok (.iload_n 1, 1) := by decide +kernel
theorem dX11_law_9 : decode cX11_law 9 = .ok (.iconst 1, 1) := by decide +kernel
theorem dX11_law_10 : decode cX11_law 10 = .ok (.invokevirtual 133, 3) := by decide +kernel
theorem dX11_law_13 : decode cX11_law 13 = .ok (.ireturn, 1) := by decide +kernel
theorem dX11_filter_0 : decode cX11_filter 0 = .ok (.aload_n 0, 1) := by decide +kernel
theorem dX11_filter_1 : decode cX11_filter 1 = .ok (.aload_n 0, 1) := by decide +kernel
theorem dX11_filter_2 : decode cX11_filter 2 = .ok (.getfield 10, 3) := by decide +kernel
theorem dX11_filter_5 : decode cX11_filter 5 = .ok (.getfield 137, 3) := by decide +kernel
theorem dX11_filter_8 : decode cX11_filter 8 = .ok (.iload_n 1, 1) := by decide +kernel
theorem dX11_filter_9 : decode cX11_filter 9 = .ok (.iconst 0, 1) := by decide +kernel
theorem dX11_filter_10 : decode cX11_filter 10 = .ok (.invokevirtual 133, 3) := by decide +kernel
theorem dX11_filter_13 : decode cX11_filter 13 = .ok (.ireturn, 1) := by decide +kernel
theorem dX11_value_0 : decode cX11_value 0 = .ok (.aload_n 0, 1) := by decide +kernel
theorem dX11_value_1 : decode cX11_value 1 = .ok (.getfield 10, 3) := by decide +kernel
theorem dX11_value_4 : decode cX11_value 4 = .ok (.iload_n 2, 1) := by decide +kernel
theorem dX11_value_5 : decode cX11_value 5 = .ok (.invokevirtual 108, 3) := by decide +kernel
theorem dX11_value_8 : decode cX11_value 8 = .ok (.ifCond .eq 14, 3) := by decide +kernel
theorem dX11_value_11 : decode cX11_value 11 = .ok (.aload_n 0, 1) := by decide +kernel
theorem dX11_value_12 : decode cX11_value 12 = .ok (.getfield 10, 3) := by decide +kernel
theorem dX11_value_15 : decode cX11_value 15 = .ok (.iload_n 1, 1) := by decide +kernel
theorem dX11_value_16 : decode cX11_value 16 = .ok (.invokevirtual 140, 3) := by decide +kernel
theorem dX11_value_19 : decode cX11_value 19 = .ok (.ifCond .ne 13, 3) := by decide +kernel
theorem dX11_value_22 : decode cX11_value 22 = .ok (.new 111, 3) := by decide +kernel
theorem dX11_value_25 : decode cX11_value 25 = .ok (.dup, 1) := by decide +kernel
theorem dX11_value_26 : decode cX11_value 26 = .ok (.ldc 143, 2) := by decide +kernel
theorem dX11_value_28 : decode cX11_value 28 = .ok (.invokespecial 115, 3) := by decide +kernel
theorem dX11_value_31 : decode cX11_value 31 = .ok (.athrow, 1) := by decide +kernel
theorem dX11_value_32 : decode cX11_value 32 = .ok (.aload_n 0, 1) := by decide +kernel
theorem dX11_value_33 : decode cX11_value 33 = .ok (.getfield 10, 3) := by decide +kernel
theorem dX11_value_36 : decode cX11_value 36 = .ok (.iload_n 1, 1) := by decide +kernel
theorem dX11_value_37 : decode cX11_value 37 = .ok (.aload_n 0, 1) := by decide +kernel
theorem dX11_value_38 : decode cX11_value 38 = .ok (.getfield 10, 3) := by decide +kernel
theorem dX11_value_41 : decode cX11_value 41 = .ok (.getfield 118, 3) := by decide +kernel
theorem dX11_value_44 : decode cX11_value 44 = .ok (.iload_n 2, 1) := by decide +kernel
theorem dX11_value_45 : decode cX11_value 45 = .ok (.aaload, 1) := by decide +kernel
theorem dX11_value_46 : decode cX11_value 46 = .ok (.invokevirtual 145, 3) := by decide +kernel
theorem dX11_value_49 : decode cX11_value 49 = .ok (.ireturn, 1) := by decide +kernel
theorem dX11_read_0 : decode cX11_read 0 = .ok (.iload_n 1, 1) := by decide +kernel
theorem dX11_read_1 : decode cX11_read 1 = .ok (.iconst 0, 1) := by decide +kernel
theorem dX11_read_2 : decode cX11_read 2 = .ok (.bipush 96, 2) := by decide +kernel
theorem dX11_read_4 : decode cX11_read 4 = .ok (.invokestatic 66, 3) := by decide +kernel
theorem dX11_read_7 : decode cX11_read 7 = .ok (.ifCond .eq 14, 3) := by decide +kernel
theorem dX11_read_10 : decode cX11_read 10 = .ok (.aload_n 0, 1) := by decide +kernel
theorem dX11_read_11 : decode cX11_read 11 = .ok (.getfield 10, 3) := by decide +kernel
theorem dX11_read_14 : decode cX11_read 14 = .ok (.iload_n 1, 1) := by decide +kernel
theorem dX11_read_15 : decode cX11_read 15 = .ok (.invokevirtual 149, 3) := by decide +kernel
theorem dX11_read_18 : decode cX11_read 18 = .ok (.goto 4, 3) := by decide +kernel
theorem dX11_read_21 : decode cX11_read 21 = .ok (.iconst (-1), 1) := by decide +kernel
theorem dX11_read_22 : decode cX11_read 22 = .ok (.ireturn, 1) := by decide +kernel
theorem dX11_ring_0 : decode cX11_ring 0 = .ok (.aload_n 0, 1) := by decide +kernel
theorem dX11_ring_1 : decode cX11_ring 1 = .ok (.getfield 10, 3) := by decide +kernel
theorem dX11_ring_4 : decode cX11_ring 4 = .ok (.iload_n 1, 1) := by decide +kernel
theorem dX11_ring_5 : decode cX11_ring 5 = .ok (.invokevirtual 108, 3) := by decide +kernel
theorem dX11_ring_8 : decode cX11_ring 8 = .ok (.ifCond .eq 18, 3) := by decide +kernel
theorem dX11_ring_11 : decode cX11_ring 11 = .ok (.aload_n 0, 1) := by decide +kernel
theorem dX11_ring_12 : decode cX11_ring 12 = .ok (.getfield 10, 3) := by decide +kernel
theorem dX11_ring_15 : decode cX11_ring 15 = .ok (.getfield 118, 3) := by decide +kernel
theorem dX11_ring_18 : decode cX11_ring 18 = .ok (.iload_n 1, 1) := by decide +kernel
theorem dX11_ring_19 : decode cX11_ring 19 = .ok (.aaload, 1) := by decide +kernel
theorem dX11_ring_20 : decode cX11_ring 20 = .ok (.getfield 152, 3) := by decide +kernel
theorem dX11_ring_23 : decode cX11_ring 23 = .ok (.ifCond .eq 5, 3) := by decide +kernel
theorem dX11_ring_26 : decode cX11_ring 26 = .ok (.iconst 0, 1) := by decide +kernel
theorem dX11_ring_27 : decode cX11_ring 27 = .ok (.ireturn, 1) := by decide +kernel
theorem dX11_ring_28 : decode cX11_ring 28 = .ok (.aload_n 0, 1) := by decide +kernel
theorem dX11_ring_29 : decode cX11_ring 29 = .ok (.getfield 10, 3) := by decide +kernel
theorem dX11_ring_32 : decode cX11_ring 32 = .ok (.getfield 118, 3) := by decide +kernel
theorem dX11_ring_35 : decode cX11_ring 35 = .ok (.iload_n 1, 1) := by decide +kernel
theorem dX11_ring_36 : decode cX11_ring 36 = .ok (.aaload, 1) := by decide +kernel
theorem dX11_ring_37 : decode cX11_ring 37 = .ok (.iload_n 2, 1) := by decide +kernel
theorem dX11_ring_38 : decode cX11_ring 38 = .ok (.invokevirtual 156, 3) := by decide +kernel
theorem dX11_ring_41 : decode cX11_ring 41 = .ok (.iconst 1, 1) := by decide +kernel
theorem dX11_ring_42 : decode cX11_ring 42 = .ok (.ireturn, 1) := by decide +kernel
theorem dX11_box_0 : decode cX11_box 0 = .ok (.iload_n 1, 1) := by decide +kernel
theorem dX11_box_1 : decode cX11_box 1 = .ok (.iconst 0, 1) := by decide +kernel
theorem dX11_box_2 : decode cX11_box 2 = .ok (.iconst 3, 1) := by decide +kernel
theorem dX11_box_3 : decode cX11_box 3 = .ok (.invokestatic 66, 3) := by decide +kernel
theorem dX11_box_6 : decode cX11_box 6 = .ok (.ifCond .eq 9, 3) := by decide +kernel
theorem dX11_box_9 : decode cX11_box 9 = .ok (.iload_n 2, 1) := by decide +kernel
theorem dX11_box_10 : decode cX11_box 10 = .ok (.bipush 96, 2) := by decide +kernel
theorem dX11_box_12 : decode cX11_box 12 = .ok (.if_icmp .le 5, 3) := by decide +kernel
theorem dX11_box_15 : decode cX11_box 15 = .ok (.iconst (-1), 1) := by decide +kernel
theorem dX11_box_16 : decode cX11_box 16 = .ok (.ireturn, 1) := by decide +kernel
theorem dX11_box_17 : decode cX11_box 17 = .ok (.iload_n 1, 1) := by decide +kernel
theorem dX11_box_18 : decode cX11_box 18 = .ok (.iconst 3, 1) := by decide +kernel
theorem dX11_box_19 : decode cX11_box 19 = .ok (.if_icmp .ne 11, 3) := by decide +kernel
theorem dX11_box_22 : decode cX11_box 22 = .ok (.aload_n 0, 1) := by decide +kernel
theorem dX11_box_23 : decode cX11_box 23 = .ok (.getfield 10, 3) := by decide +kernel
theorem dX11_box_26 : decode cX11_box 26 = .ok (.invokevirtual 160, 3) := by decide +kernel
theorem dX11_box_29 : decode cX11_box 29 = .ok (.ireturn, 1) := by decide +kernel
theorem dX11_box_30 : decode cX11_box 30 = .ok (.iload_n 2, 1) := by decide +kernel
theorem dX11_box_31 : decode cX11_box 31 = .ok (.ifCond .ge 8, 3) := by decide +kernel
theorem dX11_box_34 : decode cX11_box 34 = .ok (.bipush (-2), 2) := by decide +kernel
theorem dX11_box_36 : decode cX11_box 36 = .ok (.goto 15, 3) := by decide +kernel
theorem dX11_box_39 : decode cX11_box 39 = .ok (.aload_n 0, 1) := by decide +kernel
theorem dX11_box_40 : decode cX11_box 40 = .ok (.getfield 10, 3) := by decide +kernel
theorem dX11_box_43 : decode cX11_box 43 = .ok (.iload_n 1, 1) := by decide +kernel
theorem dX11_box_44 : decode cX11_box 44 = .ok (.iload_n 2, 1) := by decide +kernel
theorem dX11_box_45 : decode cX11_box 45 = .ok (.iload_n 3, 1) := by decide +kernel
theorem dX11_box_46 : decode cX11_box 46 = .ok (.iload 4, 2) := by decide +kernel
theorem dX11_box_48 : decode cX11_box 48 = .ok (.invokevirtual 164, 3) := by decide +kernel
theorem dX11_box_51 : decode cX11_box 51 = .ok (.ireturn, 1) := by decide +kernel
theorem dX11_after_0 : decode cX11_after 0 = .ok (.aload_n 0, 1) := by decide +kernel
theorem dX11_after_1 : decode cX11_after 1 = .ok (.getfield 10, 3) := by decide +kernel
theorem dX11_after_4 : decode cX11_after 4 = .ok (.iload_n 1, 1) := by decide +kernel
theorem dX11_after_5 : decode cX11_after 5 = .ok (.invokevirtual 108, 3) := by decide +kernel
theorem dX11_after_8 : decode cX11_after 8 = .ok (.ifCond .eq 27, 3) := by decide +kernel
theorem dX11_after_11 : decode cX11_after 11 = .ok (.aload_n 0, 1) := by decide +kernel
theorem dX11_after_12 : decode cX11_after 12 = .ok (.getfield 10, 3) := by decide +kernel
theorem dX11_after_15 : decode cX11_after 15 = .ok (.getfield 118, 3) := by decide +kernel
theorem dX11_after_18 : decode cX11_after 18 = .ok (.iload_n 1, 1) := by decide +kernel
theorem dX11_after_19 : decode cX11_after 19 = .ok (.aaload, 1) := by decide +kernel
theorem dX11_after_20 : decode cX11_after 20 = .ok (.getfield 168, 3) := by decide +kernel
theorem dX11_after_23 : decode cX11_after 23 = .ok (.ifCond .eq 12, 3) := by decide +kernel
theorem dX11_after_26 : decode cX11_after 26 = .ok (.iload_n 2, 1) := by decide +kernel
theorem dX11_after_27 : decode cX11_after 27 = .ok (.iconst 0, 1) := by decide +kernel
theorem dX11_after_28 : decode cX11_after 28 = .ok (.iconst 2, 1) := by decide +kernel
theorem dX11_after_29 : decode cX11_after 29 = .ok (.invokestatic 66, 3) := by decide +kernel
theorem dX11_after_32 : decode cX11_after 32 = .ok (.ifCond .ne 5, 3) := by decide +kernel
theorem dX11_after_35 : decode cX11_after 35 = .ok (.iconst (-1), 1) := by decide +kernel
theorem dX11_after_36 : decode cX11_after 36 = .ok (.ireturn, 1) := by decide +kernel
theorem dX11_after_37 : decode cX11_after 37 = .ok (.aload_n 0, 1) := by decide +kernel
theorem dX11_after_38 : decode cX11_after 38 = .ok (.getfield 10, 3) := by decide +kernel
theorem dX11_after_41 : decode cX11_after 41 = .ok (.getfield 118, 3) := by decide +kernel
theorem dX11_after_44 : decode cX11_after 44 = .ok (.iload_n 1, 1) := by decide +kernel
theorem dX11_after_45 : decode cX11_after 45 = .ok (.aaload, 1) := by decide +kernel
theorem dX11_after_46 : decode cX11_after 46 = .ok (.getfield 171, 3) := by decide +kernel
theorem dX11_after_49 : decode cX11_after 49 = .ok (.istore_n 3, 1) := by decide +kernel
theorem dX11_after_50 : decode cX11_after 50 = .ok (.aload_n 0, 1) := by decide +kernel
theorem dX11_after_51 : decode cX11_after 51 = .ok (.getfield 10, 3) := by decide +kernel
theorem dX11_after_54 : decode cX11_after 54 = .ok (.getfield 118, 3) := by decide +kernel
theorem dX11_after_57 : decode cX11_after 57 = .ok (.iload_n 1, 1) := by decide +kernel
theorem dX11_after_58 : decode cX11_after 58 = .ok (.aaload, 1) := by decide +kernel
theorem dX11_after_59 : decode cX11_after 59 = .ok (.iload_n 2, 1) := by decide +kernel
theorem dX11_after_60 : decode cX11_after 60 = .ok (.putfield 171, 3) := by decide +kernel
theorem dX11_after_63 : decode cX11_after 63 = .ok (.iload_n 3, 1) := by decide +kernel
theorem dX11_after_64 : decode cX11_after 64 = .ok (.ireturn, 1) := by decide +kernel
theorem dX11_seed_0 : decode cX11_seed 0 = .ok (.aload_n 0, 1) := by decide +kernel
theorem dX11_seed_1 : decode cX11_seed 1 = .ok (.getfield 10, 3) := by decide +kernel
theorem dX11_seed_4 : decode cX11_seed 4 = .ok (.getfield 174, 3) := by decide +kernel
theorem dX11_seed_7 : decode cX11_seed 7 = .ok (.istore_n 2, 1) := by decide +kernel
theorem dX11_seed_8 : decode cX11_seed 8 = .ok (.aload_n 0, 1) := by decide +kernel
theorem dX11_seed_9 : decode cX11_seed 9 = .ok (.getfield 10, 3) := by decide +kernel
theorem dX11_seed_12 : decode cX11_seed 12 = .ok (.iload_n 1, 1) := by decide +kernel
theorem dX11_seed_13 : decode cX11_seed 13 = .ok (.putfield 174, 3) := by decide +kernel
theorem dX11_seed_16 : decode cX11_seed 16 = .ok (.iload_n 2, 1) := by decide +kernel
theorem dX11_seed_17 : decode cX11_seed 17 = .ok (.ireturn, 1) := by decide +kernel
theorem dX11_share_0 : decode cX11_share 0 = .ok (.aload_n 0, 1) := by decide +kernel
theorem dX11_share_1 : decode cX11_share 1 = .ok (.getfield 28, 3) := by decide +kernel
theorem dX11_share_4 : decode cX11_share 4 = .ok (.iload_n 1, 1) := by decide +kernel
theorem dX11_share_5 : decode cX11_share 5 = .ok (.invokevirtual 177, 3) := by decide +kernel
theorem dX11_share_8 : decode cX11_share 8 = .ok (.ireturn, 1) := by decide +kernel
theorem dX11_aside_0 : decode cX11_aside 0 = .ok (.aload_n 0, 1) := by decide +kernel
theorem dX11_aside_1 : decode cX11_aside 1 = .ok (.getfield 28, 3) := by decide +kernel
theorem dX11_aside_4 : decode cX11_aside 4 = .ok (.iload_n 1, 1) := by decide +kernel
theorem dX11_aside_5 : decode cX11_aside 5 = .ok (.invokevirtual 180, 3) := by decide +kernel
theorem dX11_aside_8 : decode cX11_aside 8 = .ok (.ireturn, 1) := by decide +kernel
theorem dX11_odds_0 : decode cX11_odds 0 = .ok (.aload_n 0, 1) := by decide +kernel
theorem dX11_odds_1 : decode cX11_odds 1 = .ok (.getfield 28, 3) := by decide +kernel
theorem dX11_odds_4 : decode cX11_odds 4 = .ok (.iload_n 1, 1) := by decide +kernel
theorem dX11_odds_5 : decode cX11_odds 5 = .ok (.iload_n 2, 1) := by decide +kernel
theorem dX11_odds_6 : decode cX11_odds 6 = .ok (.invokevirtual 183, 3) := by decide +kernel
theorem dX11_odds_9 : decode cX11_odds 9 = .ok (.ireturn, 1) := by decide +kernel
theorem dX11_weighs_0 : decode cX11_weighs 0 = .ok (.aload_n 0, 1) := by decide +kernel
theorem dX11_weighs_1 : decode cX11_weighs 1 = .ok (.getfield 28, 3) := by decide +kernel
theorem dX11_weighs_4 : decode cX11_weighs 4 = .ok (.invokevirtual 187, 3) := by decide +kernel
theorem dX11_weighs_7 : decode cX11_weighs 7 = .ok (.ireturn, 1) := by decide +kernel
theorem dX11_names_0 : decode cX11_names 0 = .ok (.aload_n 0, 1) := by decide +kernel
theorem dX11_names_1 : decode cX11_names 1 = .ok (.getfield 28, 3) := by decide +kernel
theorem dX11_names_4 : decode cX11_names 4 = .ok (.iload_n 1, 1) := by decide +kernel
theorem dX11_names_5 : decode cX11_names 5 = .ok (.invokevirtual 190, 3) := by decide +kernel
theorem dX11_names_8 : decode cX11_names 8 = .ok (.ireturn, 1) := by decide +kernel
theorem dX11_drawn_0 : decode cX11_drawn 0 = .ok (.aload_n 0, 1) := by decide +kernel
theorem dX11_drawn_1 : decode cX11_drawn 1 = .ok (.getfield 28, 3) := by decide +kernel
theorem dX11_drawn_4 : decode cX11_drawn 4 = .ok (.invokevirtual 193, 3) := by decide +kernel
theorem dX11_drawn_7 : decode cX11_drawn 7 = .ok (.ireturn, 1) := by decide +kernel
theorem dX11_goes_0 : decode cX11_goes 0 = .ok (.aload_n 0, 1) := by decide +kernel
theorem dX11_goes_1 : decode cX11_goes 1 = .ok (.getfield 28, 3) := by decide +kernel
theorem dX11_goes_4 : decode cX11_goes 4 = .ok (.iload_n 1, 1) := by decide +kernel
theorem dX11_goes_5 : decode cX11_goes 5 = .ok (.invokevirtual 196, 3) := by decide +kernel
theorem dX11_goes_8 : decode cX11_goes 8 = .ok (.ireturn, 1) := by decide +kernel
theorem dX11_says_0 : decode cX11_says 0 = .ok (.aload_n 0, 1) := by decide +kernel
theorem dX11_says_1 : decode cX11_says 1 = .ok (.getfield 28, 3) := by decide +kernel
theorem dX11_says_4 : decode cX11_says 4 = .ok (.invokevirtual 199, 3) := by decide +kernel
theorem dX11_says_7 : decode cX11_says 7 = .ok (.ireturn, 1) := by decide +kernel
theorem dX11_child_0 : decode cX11_child 0 = .ok (.aload_n 0, 1) := by decide +kernel
theorem dX11_child_1 : decode cX11_child 1 = .ok (.getfield 28, 3) := by decide +kernel
theorem dX11_child_4 : decode cX11_child 4 = .ok (.iload_n 1, 1) := by decide +kernel
theorem dX11_child_5 : decode cX11_child 5 = .ok (.invokevirtual 202, 3) := by decide +kernel
theorem dX11_child_8 : decode cX11_child 8 = .ok (.ireturn, 1) := by decide +kernel
theorem dX11_table_0 : decode cX11_table 0 = .ok (.aload_n 0, 1) := by decide +kernel
theorem dX11_table_1 : decode cX11_table 1 = .ok (.getfield 35, 3) := by decide +kernel
theorem dX11_table_4 : decode cX11_table 4 = .ok (.iload_n 1, 1) := by decide +kernel
theorem dX11_table_5 : decode cX11_table 5 = .ok (.iload_n 2, 1) := by decide +kernel
theorem dX11_table_6 : decode cX11_table 6 = .ok (.invokevirtual 205, 3) := by decide +kernel
theorem dX11_table_9 : decode cX11_table 9 = .ok (.ireturn, 1) := by decide +kernel
theorem dX11_kind_0 : decode cX11_kind 0 = .ok (.aload_n 0, 1) := by decide +kernel
theorem dX11_kind_1 : decode cX11_kind 1 = .ok (.getfield 35, 3) := by decide +kernel
theorem dX11_kind_4 : decode cX11_kind 4 = .ok (.iload_n 1, 1) := by decide +kernel
theorem dX11_kind_5 : decode cX11_kind 5 = .ok (.iload_n 2, 1) := by decide +kernel
theorem dX11_kind_6 : decode cX11_kind 6 = .ok (.iload_n 3, 1) := by decide +kernel
theorem dX11_kind_7 : decode cX11_kind 7 = .ok (.invokevirtual 208, 3) := by decide +kernel
theorem dX11_kind_10 : decode cX11_kind 10 = .ok (.ireturn, 1) := by decide +kernel
theorem dX11_parts_0 : decode cX11_parts 0 = .ok (.aload_n 0, 1) := by decide +kernel
theorem dX11_parts_1 : decode cX11_parts 1 = .ok (.getfield 35, 3) := by decide +kernel
theorem dX11_parts_4 : decode cX11_parts 4 = .ok (.iload_n 1, 1) := by decide +kernel
theorem dX11_parts_5 : decode cX11_parts 5 = .ok (.iload_n 2, 1) := by decide +kernel
theorem dX11_parts_6 : decode cX11_parts 6 = .ok (.invokevirtual 211, 3) := by decide +kernel
theorem dX11_parts_9 : decode cX11_parts 9 = .ok (.ireturn, 1) := by decide +kernel
theorem dX11_likely_0 : decode cX11_likely 0 = .ok (.aload_n 0, 1) := by decide +kernel
theorem dX11_likely_1 : decode cX11_likely 1 = .ok (.getfield 35, 3) := by decide +kernel
theorem dX11_likely_4 : decode cX11_likely 4 = .ok (.iload_n 1, 1) := by decide +kernel
theorem dX11_likely_5 : decode cX11_likely 5 = .ok (.iload_n 2, 1) := by decide +kernel
theorem dX11_likely_6 : decode cX11_likely 6 = .ok (.invokevirtual 214, 3) := by decide +kernel
theorem dX11_likely_9 : decode cX11_likely 9 = .ok (.ireturn, 1) := by decide +kernel
theorem dX11_fit_0 : decode cX11_fit 0 = .ok (.aload_n 0, 1) := by decide +kernel
theorem dX11_fit_1 : decode cX11_fit 1 = .ok (.getfield 35, 3) := by decide +kernel
theorem dX11_fit_4 : decode cX11_fit 4 = .ok (.invokevirtual 217, 3) := by decide +kernel
theorem dX11_fit_7 : decode cX11_fit 7 = .ok (.ireturn, 1) := by decide +kernel
theorem dX11_named_0 : decode cX11_named 0 = .ok (.aload_n 0, 1) := by decide +kernel
theorem dX11_named_1 : decode cX11_named 1 = .ok (.getfield 35, 3) := by decide +kernel
theorem dX11_named_4 : decode cX11_named 4 = .ok (.iload_n 1, 1) := by decide +kernel
theorem dX11_named_5 : decode cX11_named 5 = .ok (.iload_n 2, 1) := by decide +kernel
theorem dX11_named_6 : decode cX11_named 6 = .ok (.invokevirtual 220, 3) := by decide +kernel
theorem dX11_named_9 : decode cX11_named 9 = .ok (.ireturn, 1) := by decide +kernel
theorem dX11_sure_0 : decode cX11_sure 0 = .ok (.aload_n 0, 1) := by decide +kernel
theorem dX11_sure_1 : decode cX11_sure 1 = .ok (.getfield 35, 3) := by decide +kernel
theorem dX11_sure_4 : decode cX11_sure 4 = .ok (.iload_n 1, 1) := by decide +kernel
theorem dX11_sure_5 : decode cX11_sure 5 = .ok (.iload_n 2, 1) := by decide +kernel
theorem dX11_sure_6 : decode cX11_sure 6 = .ok (.invokevirtual 223, 3) := by decide +kernel
theorem dX11_sure_9 : decode cX11_sure 9 = .ok (.ireturn, 1) := by decide +kernel
theorem dX11_most_0 : decode cX11_most 0 = .ok (.aload_n 0, 1) := by decide +kernel
theorem dX11_most_1 : decode cX11_most 1 = .ok (.getfield 35, 3) := by decide +kernel
theorem dX11_most_4 : decode cX11_most 4 = .ok (.invokevirtual 226, 3) := by decide +kernel
theorem dX11_most_7 : decode cX11_most 7 = .ok (.ireturn, 1) := by decide +kernel
theorem dX11_both_0 : decode cX11_both 0 = .ok (.aload_n 0, 1) := by decide +kernel
theorem dX11_both_1 : decode cX11_both 1 = .ok (.getfield 42, 3) := by decide +kernel
theorem dX11_both_4 : decode cX11_both 4 = .ok (.iload_n 1, 1) := by decide +kernel
theorem dX11_both_5 : decode cX11_both 5 = .ok (.invokevirtual 229, 3) := by decide +kernel
theorem dX11_both_8 : decode cX11_both 8 = .ok (.ireturn, 1) := by decide +kernel
theorem dX11_explains_0 : decode cX11_explains 0 = .ok (.aload_n 0, 1) := by decide +kernel
theorem dX11_explains_1 : decode cX11_explains 1 = .ok (.getfield 42, 3) := by decide +kernel
theorem dX11_explains_4 : decode cX11_explains 4 = .ok (.iload_n 1, 1) := by decide +kernel
theorem dX11_explains_5 : decode cX11_explains 5 = .ok (.invokevirtual 232, 3) := by decide +kernel
theorem dX11_explains_8 : decode cX11_explains 8 = .ok (.ireturn, 1) := by decide +kernel
theorem dX11_join_0 : decode cX11_join 0 = .ok (.aload_n 0, 1) := by decide +kernel
theorem dX11_join_1 : decode cX11_join 1 = .ok (.getfield 42, 3) := by decide +kernel
theorem dX11_join_4 : decode cX11_join 4 = .ok (.iload_n 1, 1) := by decide +kernel
theorem dX11_join_5 : decode cX11_join 5 = .ok (.invokevirtual 235, 3) := by decide +kernel
theorem dX11_join_8 : decode cX11_join 8 = .ok (.ireturn, 1) := by decide +kernel
theorem dX11_bounds_0 : decode cX11_bounds 0 = .ok (.aload_n 0, 1) := by decide +kernel
theorem dX11_bounds_1 : decode cX11_bounds 1 = .ok (.getfield 42, 3) := by decide +kernel
theorem dX11_bounds_4 : decode cX11_bounds 4 = .ok (.iload_n 1, 1) := by decide +kernel
theorem dX11_bounds_5 : decode cX11_bounds 5 = .ok (.invokevirtual 238, 3) := by decide +kernel
theorem dX11_bounds_8 : decode cX11_bounds 8 = .ok (.ireturn, 1) := by decide +kernel
theorem dX11_years_0 : decode cX11_years 0 = .ok (.aload_n 0, 1) := by decide +kernel
theorem dX11_years_1 : decode cX11_years 1 = .ok (.getfield 42, 3) := by decide +kernel
theorem dX11_years_4 : decode cX11_years 4 = .ok (.iload_n 1, 1) := by decide +kernel
theorem dX11_years_5 : decode cX11_years 5 = .ok (.invokevirtual 241, 3) := by decide +kernel
theorem dX11_years_8 : decode cX11_years 8 = .ok (.ireturn, 1) := by decide +kernel
theorem dX11_mornings_0 : decode cX11_mornings 0 = .ok (.aload_n 0, 1) := by decide +kernel
theorem dX11_mornings_1 : decode cX11_mornings 1 = .ok (.getfield 42, 3) := by decide +kernel
theorem dX11_mornings_4 : decode cX11_mornings 4 = .ok (.iload_n 1, 1) := by decide +kernel
theorem dX11_mornings_5 : decode cX11_mornings 5 = .ok (.iload_n 2, 1) := by decide +kernel
theorem dX11_mornings_6 : decode cX11_mornings 6 = .ok (.iload_n 3, 1) := by decide +kernel
theorem dX11_mornings_7 : decode cX11_mornings 7 = .ok (.invokevirtual 244, 3) := by decide +kernel
theorem dX11_mornings_10 : decode cX11_mornings 10 = .ok (.ireturn, 1) := by decide +kernel
theorem dX11_asked_0 : decode cX11_asked 0 = .ok (.aload_n 0, 1) := by decide +kernel
theorem dX11_asked_1 : decode cX11_asked 1 = .ok (.getfield 49, 3) := by decide +kernel
theorem dX11_asked_4 : decode cX11_asked 4 = .ok (.iload_n 1, 1) := by decide +kernel
theorem dX11_asked_5 : decode cX11_asked 5 = .ok (.iload_n 2, 1) := by decide +kernel
theorem dX11_asked_6 : decode cX11_asked 6 = .ok (.iload_n 3, 1) := by decide +kernel
theorem dX11_asked_7 : decode cX11_asked 7 = .ok (.invokevirtual 247, 3) := by decide +kernel
theorem dX11_asked_10 : decode cX11_asked 10 = .ok (.ireturn, 1) := by decide +kernel
theorem dX11_pairs_0 : decode cX11_pairs 0 = .ok (.aload_n 0, 1) := by decide +kernel
theorem dX11_pairs_1 : decode cX11_pairs 1 = .ok (.getfield 49, 3) := by decide +kernel
theorem dX11_pairs_4 : decode cX11_pairs 4 = .ok (.invokevirtual 250, 3) := by decide +kernel
theorem dX11_pairs_7 : decode cX11_pairs 7 = .ok (.ireturn, 1) := by decide +kernel
theorem dX11_ask_0 : decode cX11_ask 0 = .ok (.aload_n 0, 1) := by decide +kernel
theorem dX11_ask_1 : decode cX11_ask 1 = .ok (.getfield 49, 3) := by decide +kernel
theorem dX11_ask_4 : decode cX11_ask 4 = .ok (.invokevirtual 253, 3) := by decide +kernel
theorem dX11_ask_7 : decode cX11_ask 7 = .ok (.ireturn, 1) := by decide +kernel
theorem dX11_nearly_0 : decode cX11_nearly 0 = .ok (.aload_n 0, 1) := by decide +kernel
theorem dX11_nearly_1 : decode cX11_nearly 1 = .ok (.getfield 49, 3) := by decide +kernel
theorem dX11_nearly_4 : decode cX11_nearly 4 = .ok (.iload_n 1, 1) := by decide +kernel
theorem dX11_nearly_5 : decode cX11_nearly 5 = .ok (.invokevirtual 256, 3) := by decide +kernel
theorem dX11_nearly_8 : decode cX11_nearly 8 = .ok (.ireturn, 1) := by decide +kernel
theorem dX11_shows_0 : decode cX11_shows 0 = .ok (.aload_n 0, 1) := by decide +kernel
theorem dX11_shows_1 : decode cX11_shows 1 = .ok (.getfield 58, 3) := by decide +kernel
theorem dX11_shows_4 : decode cX11_shows 4 = .ok (.iload_n 1, 1) := by decide +kernel
theorem dX11_shows_5 : decode cX11_shows 5 = .ok (.iload_n 2, 1) := by decide +kernel
theorem dX11_shows_6 : decode cX11_shows 6 = .ok (.iload_n 3, 1) := by decide +kernel
theorem dX11_shows_7 : decode cX11_shows 7 = .ok (.iload 4, 2) := by decide +kernel
theorem dX11_shows_9 : decode cX11_shows 9 = .ok (.invokevirtual 259, 3) := by decide +kernel
theorem dX11_shows_12 : decode cX11_shows 12 = .ok (.ireturn, 1) := by decide +kernel
theorem dX11_least_0 : decode cX11_least 0 = .ok (.aload_n 0, 1) := by decide +kernel
theorem dX11_least_1 : decode cX11_least 1 = .ok (.getfield 58, 3) := by decide +kernel
theorem dX11_least_4 : decode cX11_least 4 = .ok (.iload_n 1, 1) := by decide +kernel
theorem dX11_least_5 : decode cX11_least 5 = .ok (.iload_n 2, 1) := by decide +kernel
theorem dX11_least_6 : decode cX11_least 6 = .ok (.iload_n 3, 1) := by decide +kernel
theorem dX11_least_7 : decode cX11_least 7 = .ok (.iload 4, 2) := by decide +kernel
theorem dX11_least_9 : decode cX11_least 9 = .ok (.invokevirtual 262, 3) := by decide +kernel
theorem dX11_least_12 : decode cX11_least 12 = .ok (.ireturn, 1) := by decide +kernel
theorem dX11_keep_0 : decode cX11_keep 0 = .ok (.iload_n 1, 1) := by decide +kernel
theorem dX11_keep_1 : decode cX11_keep 1 = .ok (.iconst 0, 1) := by decide +kernel
theorem dX11_keep_2 : decode cX11_keep 2 = .ok (.iconst 2, 1) := by decide +kernel
theorem dX11_keep_3 : decode cX11_keep 3 = .ok (.invokestatic 66, 3) := by decide +kernel
theorem dX11_keep_6 : decode cX11_keep 6 = .ok (.ifCond .ne 5, 3) := by decide +kernel
theorem dX11_keep_9 : decode cX11_keep 9 = .ok (.iconst 0, 1) := by decide +kernel
theorem dX11_keep_10 : decode cX11_keep 10 = .ok (.ireturn, 1) := by decide +kernel
theorem dX11_keep_11 : decode cX11_keep 11 = .ok (.aload_n 0, 1) := by decide +kernel
theorem dX11_keep_12 : decode cX11_keep 12 = .ok (.getfield 10, 3) := by decide +kernel
theorem dX11_keep_15 : decode cX11_keep 15 = .ok (.iload_n 1, 1) := by decide +kernel
theorem dX11_keep_16 : decode cX11_keep 16 = .ok (.invokevirtual 265, 3) := by decide +kernel
theorem dX11_keep_19 : decode cX11_keep 19 = .ok (.iconst 1, 1) := by decide +kernel
theorem dX11_keep_20 : decode cX11_keep 20 = .ok (.ireturn, 1) := by decide +kernel
theorem dX11_again_0 : decode cX11_again 0 = .ok (.iload_n 1, 1) := by decide +kernel
theorem dX11_again_1 : decode cX11_again 1 = .ok (.iconst 0, 1) := by decide +kernel
theorem dX11_again_2 : decode cX11_again 2 = .ok (.iconst 2, 1) := by decide +kernel
theorem dX11_again_3 : decode cX11_again 3 = .ok (.invokestatic 66, 3) := by decide +kernel
theorem dX11_again_6 : decode cX11_again 6 = .ok (.ifCond .eq 14, 3) := by decide +kernel
theorem dX11_again_9 : decode cX11_again 9 = .ok (.aload_n 0, 1) := by decide +kernel
theorem dX11_again_10 : decode cX11_again 10 = .ok (.getfield 10, 3) := by decide +kernel
theorem dX11_again_13 : decode cX11_again 13 = .ok (.iload_n 1, 1) := by decide +kernel
theorem dX11_again_14 : decode cX11_again 14 = .ok (.invokevirtual 269, 3) := by decide +kernel
theorem dX11_again_17 : decode cX11_again 17 = .ok (.ifCond .ne 5, 3) := by decide +kernel
theorem dX11_again_20 : decode cX11_again 20 = .ok (.iconst 0, 1) := by decide +kernel
theorem dX11_again_21 : decode cX11_again 21 = .ok (.ireturn, 1) := by decide +kernel
theorem dX11_again_22 : decode cX11_again 22 = .ok (.aload_n 0, 1) := by decide +kernel
theorem dX11_again_23 : decode cX11_again 23 = .ok (.getfield 49, 3) := by decide +kernel
theorem dX11_again_26 : decode cX11_again 26 = .ok (.iconst 0, 1) := by decide +kernel
theorem dX11_again_27 : decode cX11_again 27 = .ok (.putfield 272, 3) := by decide +kernel
theorem dX11_again_30 : decode cX11_again 30 = .ok (.iconst 1, 1) := by decide +kernel
theorem dX11_again_31 : decode cX11_again 31 = .ok (.ireturn, 1) := by decide +kernel
theorem dX11_count_0 : decode cX11_count 0 = .ok (.iload_n 1, 1) := by decide +kernel
theorem dX11_count_1 : decode cX11_count 1 = .ok (.tableswitch 138 0 9 #[55, 63, 71, 79, 87, 95, 106, 117, 125, 133], 55) := by decide +kernel
theorem dX11_count_56 : decode cX11_count 56 = .ok (.aload_n 0, 1) := by decide +kernel
theorem dX11_count_57 : decode cX11_count 57 = .ok (.getfield 10, 3) := by decide +kernel
theorem dX11_count_60 : decode cX11_count 60 = .ok (.getfield 70, 3) := by decide +kernel
theorem dX11_count_63 : decode cX11_count 63 = .ok (.ireturn, 1) := by decide +kernel
theorem dX11_count_64 : decode cX11_count 64 = .ok (.aload_n 0, 1) := by decide +kernel
theorem dX11_count_65 : decode cX11_count 65 = .ok (.getfield 10, 3) := by decide +kernel
theorem dX11_count_68 : decode cX11_count 68 = .ok (.getfield 78, 3) := by decide +kernel
theorem dX11_count_71 : decode cX11_count 71 = .ok (.ireturn, 1) := by decide +kernel
theorem dX11_count_72 : decode cX11_count 72 = .ok (.aload_n 0, 1) := by decide +kernel
theorem dX11_count_73 : decode cX11_count 73 = .ok (.getfield 10, 3) := by decide +kernel
theorem dX11_count_76 : decode cX11_count 76 = .ok (.getfield 91, 3) := by decide +kernel
theorem dX11_count_79 : decode cX11_count 79 = .ok (.ireturn, 1) := by decide +kernel
theorem dX11_count_80 : decode cX11_count 80 = .ok (.aload_n 0, 1) := by decide +kernel
theorem dX11_count_81 : decode cX11_count 81 = .ok (.getfield 10, 3) := by decide +kernel
theorem dX11_count_84 : decode cX11_count 84 = .ok (.invokevirtual 275, 3) := by decide +kernel
theorem dX11_count_87 : decode cX11_count 87 = .ok (.ireturn, 1) := by decide +kernel
theorem dX11_count_88 : decode cX11_count 88 = .ok (.aload_n 0, 1) := by decide +kernel
theorem dX11_count_89 : decode cX11_count 89 = .ok (.getfield 10, 3) := by decide +kernel
theorem dX11_count_92 : decode cX11_count 92 = .ok (.invokevirtual 278, 3) := by decide +kernel
theorem dX11_count_95 : decode cX11_count 95 = .ok (.ireturn, 1) := by decide +kernel
theorem dX11_count_96 : decode cX11_count 96 = .ok (.aload_n 0, 1) := by decide +kernel
theorem dX11_count_97 : decode cX11_count 97 = .ok (.getfield 10, 3) := by decide +kernel
theorem dX11_count_100 : decode cX11_count 100 = .ok (.getfield 129, 3) := by decide +kernel
theorem dX11_count_103 : decode cX11_count 103 = .ok (.invokestatic 281, 3) := by decide +kernel
theorem dX11_count_106 : decode cX11_count 106 = .ok (.ireturn, 1) := by decide +kernel
theorem dX11_count_107 : decode cX11_count 107 = .ok (.aload_n 0, 1) := by decide +kernel
theorem dX11_count_108 : decode cX11_count 108 = .ok (.getfield 10, 3) := by decide +kernel
theorem dX11_count_111 : decode cX11_count 111 = .ok (.getfield 137, 3) := by decide +kernel
theorem dX11_count_114 : decode cX11_count 114 = .ok (.invokestatic 281, 3) := by decide +kernel
theorem dX11_count_117 : decode cX11_count 117 = .ok (.ireturn, 1) := by decide +kernel
theorem dX11_count_118 : decode cX11_count 118 = .ok (.aload_n 0, 1) := by decide +kernel
theorem dX11_count_119 : decode cX11_count 119 = .ok (.getfield 49, 3) := by decide +kernel
theorem dX11_count_122 : decode cX11_count 122 = .ok (.getfield 272, 3) := by decide +kernel
theorem dX11_count_125 : decode cX11_count 125 = .ok (.ireturn, 1) := by decide +kernel
theorem dX11_count_126 : decode cX11_count 126 = .ok (.aload_n 0, 1) := by decide +kernel
theorem dX11_count_127 : decode cX11_count 127 = .ok (.getfield 19, 3) := by decide +kernel
theorem dX11_count_130 : decode cX11_count 130 = .ok (.getfield 285, 3) := by decide +kernel
theorem dX11_count_133 : decode cX11_count 133 = .ok (.ireturn, 1) := by decide +kernel
theorem dX11_count_134 : decode cX11_count 134 = .ok (.aload_n 0, 1) := by decide +kernel
theorem dX11_count_135 : decode cX11_count 135 = .ok (.getfield 126, 3) := by decide +kernel
theorem dX11_count_138 : decode cX11_count 138 = .ok (.ireturn, 1) := by decide +kernel
theorem dX11_count_139 : decode cX11_count 139 = .ok (.iconst (-1), 1) := by decide +kernel
theorem dX11_count_140 : decode cX11_count 140 = .ok (.ireturn, 1) := by decide +kernel
theorem dX11_row_0 : decode cX11_row 0 = .ok (.iload_n 1, 1) := by decide +kernel
theorem dX11_row_1 : decode cX11_row 1 = .ok (.ifCond .lt 14, 3) := by decide +kernel
theorem dX11_row_4 : decode cX11_row 4 = .ok (.iload_n 1, 1) := by decide +kernel
theorem dX11_row_5 : decode cX11_row 5 = .ok (.aload_n 0, 1) := by decide +kernel
theorem dX11_row_6 : decode cX11_row 6 = .ok (.getfield 19, 3) := by decide +kernel
theorem dX11_row_9 : decode cX11_row 9 = .ok (.getfield 285, 3) := by decide +kernel
theorem dX11_row_12 : decode cX11_row 12 = .ok (.if_icmp .lt 14, 3) := by decide +kernel
theorem dX11_row_15 : decode cX11_row 15 = .ok (.new 111, 3) := by decide +kernel
theorem dX11_row_18 : decode cX11_row 18 = .ok (.dup, 1) := by decide +kernel
theorem dX11_row_19 : decode cX11_row 19 = .ok (.ldc_w 288, 3) := by decide +kernel
theorem dX11_row_22 : decode cX11_row 22 = .ok (.invokespecial 115, 3) := by decide +kernel
theorem dX11_row_25 : decode cX11_row 25 = .ok (.athrow, 1) := by decide +kernel
theorem dX11_row_26 : decode cX11_row 26 = .ok (.aload_n 0, 1) := by decide +kernel
theorem dX11_row_27 : decode cX11_row 27 = .ok (.getfield 19, 3) := by decide +kernel
theorem dX11_row_30 : decode cX11_row 30 = .ok (.getfield 290, 3) := by decide +kernel
theorem dX11_row_33 : decode cX11_row 33 = .ok (.iload_n 1, 1) := by decide +kernel
theorem dX11_row_34 : decode cX11_row 34 = .ok (.laload, 1) := by decide +kernel
theorem dX11_row_35 : decode cX11_row 35 = .ok (.lreturn, 1) := by decide +kernel
theorem dX11_takeText_0 : decode cX11_takeText 0 = .ok (.aload_n 0, 1) := by decide +kernel
theorem dX11_takeText_1 : decode cX11_takeText 1 = .ok (.getfield 126, 3) := by decide +kernel
theorem dX11_takeText_4 : decode cX11_takeText 4 = .ok (.istore 4, 2) := by decide +kernel
theorem dX11_takeText_6 : decode cX11_takeText 6 = .ok (.aload_n 0, 1) := by decide +kernel
theorem dX11_takeText_7 : decode cX11_takeText 7 = .ok (.iconst 0, 1) := by decide +kernel
theorem dX11_takeText_8 : decode cX11_takeText 8 = .ok (.putfield 126, 3) := by decide +kernel
theorem dX11_takeText_11 : decode cX11_takeText 11 = .ok (.iload_n 2, 1) := by decide +kernel
theorem dX11_takeText_12 : decode cX11_takeText 12 = .ok (.iconst 0, 1) := by decide +kernel
theorem dX11_takeText_13 : decode cX11_takeText 13 = .ok (.iconst 5, 1) := by decide +kernel
theorem dX11_takeText_14 : decode cX11_takeText 14 = .ok (.invokestatic 66, 3) := by decide +kernel
theorem dX11_takeText_17 : decode cX11_takeText 17 = .ok (.ifCond .ne 6, 3) := by decide +kernel
theorem dX11_takeText_20 : decode cX11_takeText 20 = .ok (.bipush (-100), 2) := by decide +kernel
theorem dX11_takeText_22 : decode cX11_takeText 22 = .ok (.ireturn, 1) := by decide +kernel
theorem dX11_takeText_23 : decode cX11_takeText 23 = .ok (.aload_n 0, 1) := by decide +kernel
theorem dX11_takeText_24 : decode cX11_takeText 24 = .ok (.getfield 62, 3) := by decide +kernel
theorem dX11_takeText_27 : decode cX11_takeText 27 = .ok (.iload 4, 2) := by decide +kernel
theorem dX11_takeText_29 : decode cX11_takeText 29 = .ok (.iload_n 3, 1) := by decide +kernel
theorem dX11_takeText_30 : decode cX11_takeText 30 = .ok (.invokestatic 294, 3) := by decide +kernel
theorem dX11_takeText_33 : decode cX11_takeText 33 = .ok (.istore 5, 2) := by decide +kernel
theorem dX11_takeText_35 : decode cX11_takeText 35 = .ok (.iload 5, 2) := by decide +kernel
theorem dX11_takeText_37 : decode cX11_takeText 37 = .ok (.iconst (-1), 1) := by decide +kernel
theorem dX11_takeText_38 : decode cX11_takeText 38 = .ok (.if_icmp .eq 8, 3) := by decide +kernel
theorem dX11_takeText_41 : decode cX11_takeText 41 = .ok (.iconst (-1), 1) := by decide +kernel
theorem dX11_takeText_42 : decode cX11_takeText 42 = .ok (.iload 5, 2) := by decide +kernel
theorem dX11_takeText_44 : decode cX11_takeText 44 = .ok (.isub, 1) := by decide +kernel
theorem dX11_takeText_45 : decode cX11_takeText 45 = .ok (.ireturn, 1) := by decide +kernel
theorem dX11_takeText_46 : decode cX11_takeText 46 = .ok (.aload_n 1, 1) := by decide +kernel
theorem dX11_takeText_47 : decode cX11_takeText 47 = .ok (.iload_n 2, 1) := by decide +kernel
theorem dX11_takeText_48 : decode cX11_takeText 48 = .ok (.aaload, 1) := by decide +kernel
theorem dX11_takeText_49 : decode cX11_takeText 49 = .ok (.aload_n 0, 1) := by decide +kernel
theorem dX11_takeText_50 : decode cX11_takeText 50 = .ok (.getfield 62, 3) := by decide +kernel
theorem dX11_takeText_53 : decode cX11_takeText 53 = .ok (.iload 4, 2) := by decide +kernel
theorem dX11_takeText_55 : decode cX11_takeText 55 = .ok (.invokevirtual 300, 3) := by decide +kernel
theorem dX11_takeText_58 : decode cX11_takeText 58 = .ok (.iconst 0, 1) := by decide +kernel
theorem dX11_takeText_59 : decode cX11_takeText 59 = .ok (.ireturn, 1) := by decide +kernel
theorem dX11_toldBits_0 : decode cX11_toldBits 0 = .ok (.iconst 0, 1) := by decide +kernel
theorem dX11_toldBits_1 : decode cX11_toldBits 1 = .ok (.istore_n 1, 1) := by decide +kernel
theorem dX11_toldBits_2 : decode cX11_toldBits 2 = .ok (.iconst 0, 1) := by decide +kernel
theorem dX11_toldBits_3 : decode cX11_toldBits 3 = .ok (.istore_n 2, 1) := by decide +kernel
theorem dX11_toldBits_4 : decode cX11_toldBits 4 = .ok (.iload_n 2, 1) := by decide +kernel
theorem dX11_toldBits_5 : decode cX11_toldBits 5 = .ok (.bipush 6, 2) := by decide +kernel
theorem dX11_toldBits_7 : decode cX11_toldBits 7 = .ok (.if_icmp .ge 24, 3) := by decide +kernel
theorem dX11_toldBits_10 : decode cX11_toldBits 10 = .ok (.aload_n 0, 1) := by decide +kernel
theorem dX11_toldBits_11 : decode cX11_toldBits 11 = .ok (.iload_n 2, 1) := by decide +kernel
theorem dX11_toldBits_12 : decode cX11_toldBits 12 = .ok (.aaload, 1) := by decide +kernel
theorem dX11_toldBits_13 : decode cX11_toldBits 13 = .ok (.invokevirtual 303, 3) := by decide +kernel
theorem dX11_toldBits_16 : decode cX11_toldBits 16 = .ok (.ifCond .eq 9, 3) := by decide +kernel
theorem dX11_toldBits_19 : decode cX11_toldBits 19 = .ok (.iload_n 1, 1) := by decide +kernel
theorem dX11_toldBits_20 : decode cX11_toldBits 20 = .ok (.iconst 1, 1) := by decide +kernel
theorem dX11_toldBits_21 : decode cX11_toldBits 21 = .ok (.iload_n 2, 1) := by decide +kernel
theorem dX11_toldBits_22 : decode cX11_toldBits 22 = .ok (.ishl, 1) := by decide +kernel
theorem dX11_toldBits_23 : decode cX11_toldBits 23 = .ok (.ior, 1) := by decide +kernel
theorem dX11_toldBits_24 : decode cX11_toldBits 24 = .ok (.istore_n 1, 1) := by decide +kernel
theorem dX11_toldBits_25 : decode cX11_toldBits 25 = .ok (.iinc 2 1, 3) := by decide +kernel
theorem dX11_toldBits_28 : decode cX11_toldBits 28 = .ok (.goto (-24), 3) := by decide +kernel
theorem dX11_toldBits_31 : decode cX11_toldBits 31 = .ok (.iload_n 1, 1) := by decide +kernel
theorem dX11_toldBits_32 : decode cX11_toldBits 32 = .ok (.ireturn, 1) := by decide +kernel
theorem dX11_within_0 : decode cX11_within 0 = .ok (.iload_n 0, 1) := by decide +kernel
theorem dX11_within_1 : decode cX11_within 1 = .ok (.iload_n 1, 1) := by decide +kernel
theorem dX11_within_2 : decode cX11_within 2 = .ok (.if_icmp .lt 12, 3) := by decide +kernel
theorem dX11_within_5 : decode cX11_within 5 = .ok (.iload_n 0, 1) := by decide +kernel
theorem dX11_within_6 : decode cX11_within 6 = .ok (.iload_n 2, 1) := by decide +kernel
theorem dX11_within_7 : decode cX11_within 7 = .ok (.if_icmp .gt 7, 3) := by decide +kernel
theorem dX11_within_10 : decode cX11_within 10 = .ok (.iconst 1, 1) := by decide +kernel
theorem dX11_within_11 : decode cX11_within 11 = .ok (.goto 4, 3) := by decide +kernel
theorem dX11_within_14 : decode cX11_within 14 = .ok (.iconst 0, 1) := by decide +kernel
theorem dX11_within_15 : decode cX11_within 15 = .ok (.ireturn, 1) := by decide +kernel
theorem dX11_greatestDivisor_0 : decode cX11_greatestDivisor 0 = .ok (.lload_n 0, 1) := by decide +kernel
theorem dX11_greatestDivisor_1 : decode cX11_greatestDivisor 1 = .ok (.lconst 0, 1) := by decide +kernel
theorem dX11_greatestDivisor_2 : decode cX11_greatestDivisor 2 = .ok (.lcmp, 1) := by decide +kernel
theorem dX11_greatestDivisor_3 : decode cX11_greatestDivisor 3 = .ok (.ifCond .ge 8, 3) := by decide +kernel
theorem dX11_greatestDivisor_6 : decode cX11_greatestDivisor 6 = .ok (.lload_n 0, 1) := by decide +kernel
theorem dX11_greatestDivisor_7 : decode cX11_greatestDivisor 7 = .ok (.lneg, 1) := by decide +kernel
theorem dX11_greatestDivisor_8 : decode cX11_greatestDivisor 8 = .ok (.goto 4, 3) := by decide +kernel
theorem dX11_greatestDivisor_11 : decode cX11_greatestDivisor 11 = .ok (.lload_n 0, 1) := by decide +kernel
theorem dX11_greatestDivisor_12 : decode cX11_greatestDivisor 12 = .ok (.lstore 4, 2) := by decide +kernel
theorem dX11_greatestDivisor_14 : decode cX11_greatestDivisor 14 = .ok (.lload_n 2, 1) := by decide +kernel
theorem dX11_greatestDivisor_15 : decode cX11_greatestDivisor 15 = .ok (.lconst 0, 1) := by decide +kernel
theorem dX11_greatestDivisor_16 : decode cX11_greatestDivisor 16 = .ok (.lcmp, 1) := by decide +kernel
theorem dX11_greatestDivisor_17 : decode cX11_greatestDivisor 17 = .ok (.ifCond .ge 8, 3) := by decide +kernel
theorem dX11_greatestDivisor_20 : decode cX11_greatestDivisor 20 = .ok (.lload_n 2, 1) := by decide +kernel
theorem dX11_greatestDivisor_21 : decode cX11_greatestDivisor 21 = .ok (.lneg, 1) := by decide +kernel
theorem dX11_greatestDivisor_22 : decode cX11_greatestDivisor 22 = .ok (.goto 4, 3) := by decide +kernel
theorem dX11_greatestDivisor_25 : decode cX11_greatestDivisor 25 = .ok (.lload_n 2, 1) := by decide +kernel
theorem dX11_greatestDivisor_26 : decode cX11_greatestDivisor 26 = .ok (.lstore 6, 2) := by decide +kernel
theorem dX11_greatestDivisor_28 : decode cX11_greatestDivisor 28 = .ok (.iconst 0, 1) := by decide +kernel
theorem dX11_greatestDivisor_29 : decode cX11_greatestDivisor 29 = .ok (.istore 8, 2) := by decide +kernel
theorem dX11_greatestDivisor_31 : decode cX11_greatestDivisor 31 = .ok (.iload 8, 2) := by decide +kernel
theorem dX11_greatestDivisor_33 : decode cX11_greatestDivisor 33 = .ok (.bipush 100, 2) := by decide +kernel
theorem dX11_greatestDivisor_35 : decode cX11_greatestDivisor 35 = .ok (.if_icmp .ge 31, 3) := by decide +kernel
theorem dX11_greatestDivisor_38 : decode cX11_greatestDivisor 38 = .ok (.lload 6, 2) := by decide +kernel
theorem dX11_greatestDivisor_40 : decode cX11_greatestDivisor 40 = .ok (.lconst 0, 1) := by decide +kernel
theorem dX11_greatestDivisor_41 : decode cX11_greatestDivisor 41 = .ok (.lcmp, 1) := by decide +kernel
theorem dX11_greatestDivisor_42 : decode cX11_greatestDivisor 42 = .ok (.ifCond .eq 24, 3) := by decide +kernel
theorem dX11_greatestDivisor_45 : decode cX11_greatestDivisor 45 = .ok (.lload 4, 2) := by decide +kernel
theorem dX11_greatestDivisor_47 : decode cX11_greatestDivisor 47 = .ok (.lload 6, 2) := by decide +kernel
theorem dX11_greatestDivisor_49 : decode cX11_greatestDivisor 49 = .ok (.lrem, 1) := by decide +kernel
theorem dX11_greatestDivisor_50 : decode cX11_greatestDivisor 50 = .ok (.lstore 9, 2) := by decide +kernel
theorem dX11_greatestDivisor_52 : decode cX11_greatestDivisor 52 = .ok (.lload 6, 2) := by decide +kernel
theorem dX11_greatestDivisor_54 : decode cX11_greatestDivisor 54 = .ok (.lstore 4, 2) := by decide +kernel
theorem dX11_greatestDivisor_56 : decode cX11_greatestDivisor 56 = .ok (.lload 9, 2) := by decide +kernel
theorem dX11_greatestDivisor_58 : decode cX11_greatestDivisor 58 = .ok (.lstore 6, 2) := by decide +kernel
theorem dX11_greatestDivisor_60 : decode cX11_greatestDivisor 60 = .ok (.iinc 8 1, 3) := by decide +kernel
theorem dX11_greatestDivisor_63 : decode cX11_greatestDivisor 63 = .ok (.goto (-32), 3) := by decide +kernel
theorem dX11_greatestDivisor_66 : decode cX11_greatestDivisor 66 = .ok (.lload 4, 2) := by decide +kernel
theorem dX11_greatestDivisor_68 : decode cX11_greatestDivisor 68 = .ok (.lreturn, 1) := by decide +kernel
theorem dX11_leastMultiple_0 : decode cX11_leastMultiple 0 = .ok (.lload_n 0, 1) := by decide +kernel
theorem dX11_leastMultiple_1 : decode cX11_leastMultiple 1 = .ok (.lload_n 2, 1) := by decide +kernel
theorem dX11_leastMultiple_2 : decode cX11_leastMultiple 2 = .ok (.invokestatic 307, 3) := by decide +kernel
theorem dX11_leastMultiple_5 : decode cX11_leastMultiple 5 = .ok (.lstore 4, 2) := by decide +kernel
theorem dX11_leastMultiple_7 : decode cX11_leastMultiple 7 = .ok (.lload 4, 2) := by decide +kernel
theorem dX11_leastMultiple_9 : decode cX11_leastMultiple 9 = .ok (.lconst 0, 1) := by decide +kernel
theorem dX11_leastMultiple_10 : decode cX11_leastMultiple 10 = .ok (.lcmp, 1) := by decide +kernel
theorem dX11_leastMultiple_11 : decode cX11_leastMultiple 11 = .ok (.ifCond .ne 7, 3) := by decide +kernel
theorem dX11_leastMultiple_14 : decode cX11_leastMultiple 14 = .ok (.lconst 0, 1) := by decide +kernel
theorem dX11_leastMultiple_15 : decode cX11_leastMultiple 15 = .ok (.goto 9, 3) := by decide +kernel
theorem dX11_leastMultiple_18 : decode cX11_leastMultiple 18 = .ok (.lload_n 0, 1) := by decide +kernel
theorem dX11_leastMultiple_19 : decode cX11_leastMultiple 19 = .ok (.lload 4, 2) := by decide +kernel
theorem dX11_leastMultiple_21 : decode cX11_leastMultiple 21 = .ok (.ldiv, 1) := by decide +kernel
theorem dX11_leastMultiple_22 : decode cX11_leastMultiple 22 = .ok (.lload_n 2, 1) := by decide +kernel
theorem dX11_leastMultiple_23 : decode cX11_leastMultiple 23 = .ok (.lmul, 1) := by decide +kernel
theorem dX11_leastMultiple_24 : decode cX11_leastMultiple 24 = .ok (.lreturn, 1) := by decide +kernel
theorem dX11_choices_0 : decode cX11_choices 0 = .ok (.iload_n 1, 1) := by decide +kernel
theorem dX11_choices_1 : decode cX11_choices 1 = .ok (.ifCond .lt 8, 3) := by decide +kernel
theorem dX11_choices_4 : decode cX11_choices 4 = .ok (.iload_n 1, 1) := by decide +kernel
theorem dX11_choices_5 : decode cX11_choices 5 = .ok (.iload_n 0, 1) := by decide +kernel
theorem dX11_choices_6 : decode cX11_choices 6 = .ok (.if_icmp .le 5, 3) := by decide +kernel
theorem dX11_choices_9 : decode cX11_choices 9 = .ok (.lconst 0, 1) := by decide +kernel
theorem dX11_choices_10 : decode cX11_choices 10 = .ok (.lreturn, 1) := by decide +kernel
theorem dX11_choices_11 : decode cX11_choices 11 = .ok (.lconst 1, 1) := by decide +kernel
theorem dX11_choices_12 : decode cX11_choices 12 = .ok (.lstore_n 2, 1) := by decide +kernel
theorem dX11_choices_13 : decode cX11_choices 13 = .ok (.iconst 1, 1) := by decide +kernel
theorem dX11_choices_14 : decode cX11_choices 14 = .ok (.istore 4, 2) := by decide +kernel
theorem dX11_choices_16 : decode cX11_choices 16 = .ok (.iload 4, 2) := by decide +kernel
theorem dX11_choices_18 : decode cX11_choices 18 = .ok (.iload_n 1, 1) := by decide +kernel
theorem dX11_choices_19 : decode cX11_choices 19 = .ok (.if_icmp .gt 23, 3) := by decide +kernel
theorem dX11_choices_22 : decode cX11_choices 22 = .ok (.lload_n 2, 1) := by decide +kernel
theorem dX11_choices_23 : decode cX11_choices 23 = .ok (.iload_n 0, 1) := by decide +kernel
theorem dX11_choices_24 : decode cX11_choices 24 = .ok (.iload_n 1, 1) := by decide +kernel
theorem dX11_choices_25 : decode cX11_choices 25 = .ok (.isub, 1) := by decide +kernel
theorem dX11_choices_26 : decode cX11_choices 26 = .ok (.iload 4, 2) := by decide +kernel
theorem dX11_choices_28 : decode cX11_choices 28 = .ok (.iadd, 1) := by decide +kernel
theorem dX11_choices_29 : decode cX11_choices 29 = .ok (.i2l, 1) := by decide +kernel
theorem dX11_choices_30 : decode cX11_choices 30 = .ok (.lmul, 1) := by decide +kernel
theorem dX11_choices_31 : decode cX11_choices 31 = .ok (.iload 4, 2) := by decide +kernel
theorem dX11_choices_33 : decode cX11_choices 33 = .ok (.i2l, 1) := by decide +kernel
theorem dX11_choices_34 : decode cX11_choices 34 = .ok (.ldiv, 1) := by decide +kernel
theorem dX11_choices_35 : decode cX11_choices 35 = .ok (.lstore_n 2, 1) := by decide +kernel
theorem dX11_choices_36 : decode cX11_choices 36 = .ok (.iinc 4 1, 3) := by decide +kernel
theorem dX11_choices_39 : decode cX11_choices 39 = .ok (.goto (-23), 3) := by decide +kernel
theorem dX11_choices_42 : decode cX11_choices 42 = .ok (.lload_n 2, 1) := by decide +kernel
theorem dX11_choices_43 : decode cX11_choices 43 = .ok (.lreturn, 1) := by decide +kernel

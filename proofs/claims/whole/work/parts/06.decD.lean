theorem dX12_table_62 : decode cX12_table 62 = .ok (.if_icmp .ne 17, 3) := by decide +kernel
theorem dX12_table_65 : decode cX12_table 65 = .ok (.aload_n 0, 1) := by decide +kernel
theorem dX12_table_66 : decode cX12_table 66 = .ok (.getfield 354, 3) := by decide +kernel
theorem dX12_table_69 : decode cX12_table 69 = .ok (.iconst 1, 1) := by decide +kernel
theorem dX12_table_70 : decode cX12_table 70 = .ok (.iaload, 1) := by decide +kernel
theorem dX12_table_71 : decode cX12_table 71 = .ok (.iload_n 2, 1) := by decide +kernel
theorem dX12_table_72 : decode cX12_table 72 = .ok (.if_icmp .ne 7, 3) := by decide +kernel
theorem dX12_table_75 : decode cX12_table 75 = .ok (.iconst 1, 1) := by decide +kernel
theorem dX12_table_76 : decode cX12_table 76 = .ok (.goto 4, 3) := by decide +kernel
theorem dX12_table_79 : decode cX12_table 79 = .ok (.iconst 0, 1) := by decide +kernel
theorem dX12_table_80 : decode cX12_table 80 = .ok (.invokestatic 70, 3) := by decide +kernel
theorem dX12_table_83 : decode cX12_table 83 = .ok (.iadd, 1) := by decide +kernel
theorem dX12_table_84 : decode cX12_table 84 = .ok (.istore_n 3, 1) := by decide +kernel
theorem dX12_table_85 : decode cX12_table 85 = .ok (.iinc 4 1, 3) := by decide +kernel
theorem dX12_table_88 : decode cX12_table 88 = .ok (.goto (-52), 3) := by decide +kernel
theorem dX12_table_91 : decode cX12_table 91 = .ok (.iload_n 3, 1) := by decide +kernel
theorem dX12_table_92 : decode cX12_table 92 = .ok (.ireturn, 1) := by decide +kernel
theorem dX12_isKind_0 : decode cX12_isKind 0 = .ok (.iload_n 0, 1) := by decide +kernel
theorem dX12_isKind_1 : decode cX12_isKind 1 = .ok (.i2l, 1) := by decide +kernel
theorem dX12_isKind_2 : decode cX12_isKind 2 = .ok (.lconst 0, 1) := by decide +kernel
theorem dX12_isKind_3 : decode cX12_isKind 3 = .ok (.ldc2_w 54, 3) := by decide +kernel
theorem dX12_isKind_6 : decode cX12_isKind 6 = .ok (.invokestatic 29, 3) := by decide +kernel
theorem dX12_isKind_9 : decode cX12_isKind 9 = .ok (.ireturn, 1) := by decide +kernel
theorem dX12_kind_0 : decode cX12_kind 0 = .ok (.aload_n 0, 1) := by decide +kernel
theorem dX12_kind_1 : decode cX12_kind 1 = .ok (.iconst 0, 1) := by decide +kernel
theorem dX12_kind_2 : decode cX12_kind 2 = .ok (.putfield 3, 3) := by decide +kernel
theorem dX12_kind_5 : decode cX12_kind 5 = .ok (.iload_n 1, 1) := by decide +kernel
theorem dX12_kind_6 : decode cX12_kind 6 = .ok (.invokestatic 362, 3) := by decide +kernel
theorem dX12_kind_9 : decode cX12_kind 9 = .ok (.ifCond .eq 27, 3) := by decide +kernel
theorem dX12_kind_12 : decode cX12_kind 12 = .ok (.iload_n 2, 1) := by decide +kernel
theorem dX12_kind_13 : decode cX12_kind 13 = .ok (.i2l, 1) := by decide +kernel
theorem dX12_kind_14 : decode cX12_kind 14 = .ok (.lconst 0, 1) := by decide +kernel
theorem dX12_kind_15 : decode cX12_kind 15 = .ok (.ldc2_w 365, 3) := by decide +kernel
theorem dX12_kind_18 : decode cX12_kind 18 = .ok (.invokestatic 29, 3) := by decide +kernel
theorem dX12_kind_21 : decode cX12_kind 21 = .ok (.ifCond .eq 15, 3) := by decide +kernel
theorem dX12_kind_24 : decode cX12_kind 24 = .ok (.iload_n 3, 1) := by decide +kernel
theorem dX12_kind_25 : decode cX12_kind 25 = .ok (.i2l, 1) := by decide +kernel
theorem dX12_kind_26 : decode cX12_kind 26 = .ok (.lconst 0, 1) := by decide +kernel
theorem dX12_kind_27 : decode cX12_kind 27 = .ok (.ldc2_w 365, 3) := by decide +kernel
theorem dX12_kind_30 : decode cX12_kind 30 = .ok (.invokestatic 29, 3) := by decide +kernel
theorem dX12_kind_33 : decode cX12_kind 33 = .ok (.ifCond .ne 5, 3) := by decide +kernel
theorem dX12_kind_36 : decode cX12_kind 36 = .ok (.iconst 0, 1) := by decide +kernel
theorem dX12_kind_37 : decode cX12_kind 37 = .ok (.ireturn, 1) := by decide +kernel
theorem dX12_kind_38 : decode cX12_kind 38 = .ok (.aload_n 0, 1) := by decide +kernel
theorem dX12_kind_39 : decode cX12_kind 39 = .ok (.getfield 367, 3) := by decide +kernel
theorem dX12_kind_42 : decode cX12_kind 42 = .ok (.iload_n 1, 1) := by decide +kernel
theorem dX12_kind_43 : decode cX12_kind 43 = .ok (.iload_n 2, 1) := by decide +kernel
theorem dX12_kind_44 : decode cX12_kind 44 = .ok (.iastore, 1) := by decide +kernel
theorem dX12_kind_45 : decode cX12_kind 45 = .ok (.aload_n 0, 1) := by decide +kernel
theorem dX12_kind_46 : decode cX12_kind 46 = .ok (.getfield 370, 3) := by decide +kernel
theorem dX12_kind_49 : decode cX12_kind 49 = .ok (.iload_n 1, 1) := by decide +kernel
theorem dX12_kind_50 : decode cX12_kind 50 = .ok (.iload_n 3, 1) := by decide +kernel
theorem dX12_kind_51 : decode cX12_kind 51 = .ok (.iastore, 1) := by decide +kernel
theorem dX12_kind_52 : decode cX12_kind 52 = .ok (.iconst 1, 1) := by decide +kernel
theorem dX12_kind_53 : decode cX12_kind 53 = .ok (.ireturn, 1) := by decide +kernel
theorem dX12_parts_0 : decode cX12_parts 0 = .ok (.aload_n 0, 1) := by decide +kernel
theorem dX12_parts_1 : decode cX12_parts 1 = .ok (.iconst 0, 1) := by decide +kernel
theorem dX12_parts_2 : decode cX12_parts 2 = .ok (.putfield 3, 3) := by decide +kernel
theorem dX12_parts_5 : decode cX12_parts 5 = .ok (.iload_n 1, 1) := by decide +kernel
theorem dX12_parts_6 : decode cX12_parts 6 = .ok (.invokestatic 362, 3) := by decide +kernel
theorem dX12_parts_9 : decode cX12_parts 9 = .ok (.ifCond .eq 15, 3) := by decide +kernel
theorem dX12_parts_12 : decode cX12_parts 12 = .ok (.iload_n 2, 1) := by decide +kernel
theorem dX12_parts_13 : decode cX12_parts 13 = .ok (.i2l, 1) := by decide +kernel
theorem dX12_parts_14 : decode cX12_parts 14 = .ok (.lconst 0, 1) := by decide +kernel
theorem dX12_parts_15 : decode cX12_parts 15 = .ok (.ldc2_w 106, 3) := by decide +kernel
theorem dX12_parts_18 : decode cX12_parts 18 = .ok (.invokestatic 29, 3) := by decide +kernel
theorem dX12_parts_21 : decode cX12_parts 21 = .ok (.ifCond .ne 5, 3) := by decide +kernel
theorem dX12_parts_24 : decode cX12_parts 24 = .ok (.iconst (-1), 1) := by decide +kernel
theorem dX12_parts_25 : decode cX12_parts 25 = .ok (.ireturn, 1) := by decide +kernel
theorem dX12_parts_26 : decode cX12_parts 26 = .ok (.iload_n 2, 1) := by decide +kernel
theorem dX12_parts_27 : decode cX12_parts 27 = .ok (.aload_n 0, 1) := by decide +kernel
theorem dX12_parts_28 : decode cX12_parts 28 = .ok (.getfield 373, 3) := by decide +kernel
theorem dX12_parts_31 : decode cX12_parts 31 = .ok (.iload_n 1, 1) := by decide +kernel
theorem dX12_parts_32 : decode cX12_parts 32 = .ok (.iaload, 1) := by decide +kernel
theorem dX12_parts_33 : decode cX12_parts 33 = .ok (.isub, 1) := by decide +kernel
theorem dX12_parts_34 : decode cX12_parts 34 = .ok (.istore_n 3, 1) := by decide +kernel
theorem dX12_parts_35 : decode cX12_parts 35 = .ok (.iconst 0, 1) := by decide +kernel
theorem dX12_parts_36 : decode cX12_parts 36 = .ok (.istore 4, 2) := by decide +kernel
theorem dX12_parts_38 : decode cX12_parts 38 = .ok (.iload 4, 2) := by decide +kernel
theorem dX12_parts_40 : decode cX12_parts 40 = .ok (.iconst 4, 1) := by decide +kernel
theorem dX12_parts_41 : decode cX12_parts 41 = .ok (.if_icmp .ge 19, 3) := by decide +kernel
theorem dX12_parts_44 : decode cX12_parts 44 = .ok (.iload_n 3, 1) := by decide +kernel
theorem dX12_parts_45 : decode cX12_parts 45 = .ok (.aload_n 0, 1) := by decide +kernel
theorem dX12_parts_46 : decode cX12_parts 46 = .ok (.getfield 373, 3) := by decide +kernel
theorem dX12_parts_49 : decode cX12_parts 49 = .ok (.iload 4, 2) := by decide +kernel
theorem dX12_parts_51 : decode cX12_parts 51 = .ok (.iaload, 1) := by decide +kernel
theorem dX12_parts_52 : decode cX12_parts 52 = .ok (.iadd, 1) := by decide +kernel
theorem dX12_parts_53 : decode cX12_parts 53 = .ok (.istore_n 3, 1) := by decide +kernel
theorem dX12_parts_54 : decode cX12_parts 54 = .ok (.iinc 4 1, 3) := by decide +kernel
theorem dX12_parts_57 : decode cX12_parts 57 = .ok (.goto (-19), 3) := by decide +kernel
theorem dX12_parts_60 : decode cX12_parts 60 = .ok (.iload_n 3, 1) := by decide +kernel
theorem dX12_parts_61 : decode cX12_parts 61 = .ok (.ifCond .ne 5, 3) := by decide +kernel
theorem dX12_parts_64 : decode cX12_parts 64 = .ok (.iconst (-1), 1) := by decide +kernel
theorem dX12_parts_65 : decode cX12_parts 65 = .ok (.ireturn, 1) := by decide +kernel
theorem dX12_parts_66 : decode cX12_parts 66 = .ok (.aload_n 0, 1) := by decide +kernel
theorem dX12_parts_67 : decode cX12_parts 67 = .ok (.getfield 373, 3) := by decide +kernel
theorem dX12_parts_70 : decode cX12_parts 70 = .ok (.iload_n 1, 1) := by decide +kernel
theorem dX12_parts_71 : decode cX12_parts 71 = .ok (.iaload, 1) := by decide +kernel
theorem dX12_parts_72 : decode cX12_parts 72 = .ok (.istore 4, 2) := by decide +kernel
theorem dX12_parts_74 : decode cX12_parts 74 = .ok (.aload_n 0, 1) := by decide +kernel
theorem dX12_parts_75 : decode cX12_parts 75 = .ok (.getfield 373, 3) := by decide +kernel
theorem dX12_parts_78 : decode cX12_parts 78 = .ok (.iload_n 1, 1) := by decide +kernel
theorem dX12_parts_79 : decode cX12_parts 79 = .ok (.iload_n 2, 1) := by decide +kernel
theorem dX12_parts_80 : decode cX12_parts 80 = .ok (.iastore, 1) := by decide +kernel
theorem dX12_parts_81 : decode cX12_parts 81 = .ok (.iload 4, 2) := by decide +kernel
theorem dX12_parts_83 : decode cX12_parts 83 = .ok (.ireturn, 1) := by decide +kernel
theorem dX12_power_0 : decode cX12_power 0 = .ok (.lconst 1, 1) := by decide +kernel
theorem dX12_power_1 : decode cX12_power 1 = .ok (.lstore_n 3, 1) := by decide +kernel
theorem dX12_power_2 : decode cX12_power 2 = .ok (.iconst 0, 1) := by decide +kernel
theorem dX12_power_3 : decode cX12_power 3 = .ok (.istore 5, 2) := by decide +kernel
theorem dX12_power_5 : decode cX12_power 5 = .ok (.iload 5, 2) := by decide +kernel
theorem dX12_power_7 : decode cX12_power 7 = .ok (.iload_n 2, 1) := by decide +kernel
theorem dX12_power_8 : decode cX12_power 8 = .ok (.if_icmp .ge 13, 3) := by decide +kernel
theorem dX12_power_11 : decode cX12_power 11 = .ok (.lload_n 3, 1) := by decide +kernel
theorem dX12_power_12 : decode cX12_power 12 = .ok (.lload_n 0, 1) := by decide +kernel
theorem dX12_power_13 : decode cX12_power 13 = .ok (.lmul, 1) := by decide +kernel
theorem dX12_power_14 : decode cX12_power 14 = .ok (.lstore_n 3, 1) := by decide +kernel
theorem dX12_power_15 : decode cX12_power 15 = .ok (.iinc 5 1, 3) := by decide +kernel
theorem dX12_power_18 : decode cX12_power 18 = .ok (.goto (-13), 3) := by decide +kernel
theorem dX12_power_21 : decode cX12_power 21 = .ok (.lload_n 3, 1) := by decide +kernel
theorem dX12_power_22 : decode cX12_power 22 = .ok (.lreturn, 1) := by decide +kernel
theorem dX12_wouldBe_0 : decode cX12_wouldBe 0 = .ok (.aload_n 0, 1) := by decide +kernel
theorem dX12_wouldBe_1 : decode cX12_wouldBe 1 = .ok (.getfield 367, 3) := by decide +kernel
theorem dX12_wouldBe_4 : decode cX12_wouldBe 4 = .ok (.iload_n 1, 1) := by decide +kernel
theorem dX12_wouldBe_5 : decode cX12_wouldBe 5 = .ok (.iaload, 1) := by decide +kernel
theorem dX12_wouldBe_6 : decode cX12_wouldBe 6 = .ok (.i2l, 1) := by decide +kernel
theorem dX12_wouldBe_7 : decode cX12_wouldBe 7 = .ok (.aload_n 0, 1) := by decide +kernel
theorem dX12_wouldBe_8 : decode cX12_wouldBe 8 = .ok (.getfield 354, 3) := by decide +kernel
theorem dX12_wouldBe_11 : decode cX12_wouldBe 11 = .ok (.iconst 0, 1) := by decide +kernel
theorem dX12_wouldBe_12 : decode cX12_wouldBe 12 = .ok (.iaload, 1) := by decide +kernel
theorem dX12_wouldBe_13 : decode cX12_wouldBe 13 = .ok (.invokestatic 376, 3) := by decide +kernel
theorem dX12_wouldBe_16 : decode cX12_wouldBe 16 = .ok (.bipush 100, 2) := by decide +kernel
theorem dX12_wouldBe_18 : decode cX12_wouldBe 18 = .ok (.aload_n 0, 1) := by decide +kernel
theorem dX12_wouldBe_19 : decode cX12_wouldBe 19 = .ok (.getfield 367, 3) := by decide +kernel
theorem dX12_wouldBe_22 : decode cX12_wouldBe 22 = .ok (.iload_n 1, 1) := by decide +kernel
theorem dX12_wouldBe_23 : decode cX12_wouldBe 23 = .ok (.iaload, 1) := by decide +kernel
theorem dX12_wouldBe_24 : decode cX12_wouldBe 24 = .ok (.isub, 1) := by decide +kernel
theorem dX12_wouldBe_25 : decode cX12_wouldBe 25 = .ok (.i2l, 1) := by decide +kernel
theorem dX12_wouldBe_26 : decode cX12_wouldBe 26 = .ok (.aload_n 0, 1) := by decide +kernel
theorem dX12_wouldBe_27 : decode cX12_wouldBe 27 = .ok (.getfield 351, 3) := by decide +kernel
theorem dX12_wouldBe_30 : decode cX12_wouldBe 30 = .ok (.iconst 0, 1) := by decide +kernel
theorem dX12_wouldBe_31 : decode cX12_wouldBe 31 = .ok (.iaload, 1) := by decide +kernel
theorem dX12_wouldBe_32 : decode cX12_wouldBe 32 = .ok (.aload_n 0, 1) := by decide +kernel
theorem dX12_wouldBe_33 : decode cX12_wouldBe 33 = .ok (.getfield 354, 3) := by decide +kernel
theorem dX12_wouldBe_36 : decode cX12_wouldBe 36 = .ok (.iconst 0, 1) := by decide +kernel
theorem dX12_wouldBe_37 : decode cX12_wouldBe 37 = .ok (.iaload, 1) := by decide +kernel
theorem dX12_wouldBe_38 : decode cX12_wouldBe 38 = .ok (.isub, 1) := by decide +kernel
theorem dX12_wouldBe_39 : decode cX12_wouldBe 39 = .ok (.invokestatic 376, 3) := by decide +kernel
theorem dX12_wouldBe_42 : decode cX12_wouldBe 42 = .ok (.lmul, 1) := by decide +kernel
theorem dX12_wouldBe_43 : decode cX12_wouldBe 43 = .ok (.lstore_n 2, 1) := by decide +kernel
theorem dX12_wouldBe_44 : decode cX12_wouldBe 44 = .ok (.aload_n 0, 1) := by decide +kernel
theorem dX12_wouldBe_45 : decode cX12_wouldBe 45 = .ok (.getfield 370, 3) := by decide +kernel
theorem dX12_wouldBe_48 : decode cX12_wouldBe 48 = .ok (.iload_n 1, 1) := by decide +kernel
theorem dX12_wouldBe_49 : decode cX12_wouldBe 49 = .ok (.iaload, 1) := by decide +kernel
theorem dX12_wouldBe_50 : decode cX12_wouldBe 50 = .ok (.i2l, 1) := by decide +kernel
theorem dX12_wouldBe_51 : decode cX12_wouldBe 51 = .ok (.aload_n 0, 1) := by decide +kernel
theorem dX12_wouldBe_52 : decode cX12_wouldBe 52 = .ok (.getfield 354, 3) := by decide +kernel
theorem dX12_wouldBe_55 : decode cX12_wouldBe 55 = .ok (.iconst 1, 1) := by decide +kernel
theorem dX12_wouldBe_56 : decode cX12_wouldBe 56 = .ok (.iaload, 1) := by decide +kernel
theorem dX12_wouldBe_57 : decode cX12_wouldBe 57 = .ok (.invokestatic 376, 3) := by decide +kernel
theorem dX12_wouldBe_60 : decode cX12_wouldBe 60 = .ok (.bipush 100, 2) := by decide +kernel
theorem dX12_wouldBe_62 : decode cX12_wouldBe 62 = .ok (.aload_n 0, 1) := by decide +kernel
theorem dX12_wouldBe_63 : decode cX12_wouldBe 63 = .ok (.getfield 370, 3) := by decide +kernel
theorem dX12_wouldBe_66 : decode cX12_wouldBe 66 = .ok (.iload_n 1, 1) := by decide +kernel
theorem dX12_wouldBe_67 : decode cX12_wouldBe 67 = .ok (.iaload, 1) := by decide +kernel
theorem dX12_wouldBe_68 : decode cX12_wouldBe 68 = .ok (.isub, 1) := by decide +kernel
theorem dX12_wouldBe_69 : decode cX12_wouldBe 69 = .ok (.i2l, 1) := by decide +kernel
theorem dX12_wouldBe_70 : decode cX12_wouldBe 70 = .ok (.aload_n 0, 1) := by decide +kernel
theorem dX12_wouldBe_71 : decode cX12_wouldBe 71 = .ok (.getfield 351, 3) := by decide +kernel
theorem dX12_wouldBe_74 : decode cX12_wouldBe 74 = .ok (.iconst 1, 1) := by decide +kernel
theorem dX12_wouldBe_75 : decode cX12_wouldBe 75 = .ok (.iaload, 1) := by decide +kernel
theorem dX12_wouldBe_76 : decode cX12_wouldBe 76 = .ok (.aload_n 0, 1) := by decide +kernel
theorem dX12_wouldBe_77 : decode cX12_wouldBe 77 = .ok (.getfield 354, 3) := by decide +kernel
theorem dX12_wouldBe_80 : decode cX12_wouldBe 80 = .ok (.iconst 1, 1) := by decide +kernel
theorem dX12_wouldBe_81 : decode cX12_wouldBe 81 = .ok (.iaload, 1) := by decide +kernel
theorem dX12_wouldBe_82 : decode cX12_wouldBe 82 = .ok (.isub, 1) := by decide +kernel
theorem dX12_wouldBe_83 : decode cX12_wouldBe 83 = .ok (.invokestatic 376, 3) := by decide +kernel
theorem dX12_wouldBe_86 : decode cX12_wouldBe 86 = .ok (.lmul, 1) := by decide +kernel
theorem dX12_wouldBe_87 : decode cX12_wouldBe 87 = .ok (.lstore 4, 2) := by decide +kernel
theorem dX12_wouldBe_89 : decode cX12_wouldBe 89 = .ok (.lload_n 2, 1) := by decide +kernel
theorem dX12_wouldBe_90 : decode cX12_wouldBe 90 = .ok (.lload 4, 2) := by decide +kernel
theorem dX12_wouldBe_92 : decode cX12_wouldBe 92 = .ok (.lmul, 1) := by decide +kernel
theorem dX12_wouldBe_93 : decode cX12_wouldBe 93 = .ok (.lreturn, 1) := by decide +kernel
theorem dX12_allKinds_0 : decode cX12_allKinds 0 = .ok (.lconst 0, 1) := by decide +kernel
theorem dX12_allKinds_1 : decode cX12_allKinds 1 = .ok (.lstore_n 1, 1) := by decide +kernel
theorem dX12_allKinds_2 : decode cX12_allKinds 2 = .ok (.iconst 0, 1) := by decide +kernel
theorem dX12_allKinds_3 : decode cX12_allKinds 3 = .ok (.istore_n 3, 1) := by decide +kernel
theorem dX12_allKinds_4 : decode cX12_allKinds 4 = .ok (.iload_n 3, 1) := by decide +kernel
theorem dX12_allKinds_5 : decode cX12_allKinds 5 = .ok (.iconst 4, 1) := by decide +kernel
theorem dX12_allKinds_6 : decode cX12_allKinds 6 = .ok (.if_icmp .ge 25, 3) := by decide +kernel
theorem dX12_allKinds_9 : decode cX12_allKinds 9 = .ok (.lload_n 1, 1) := by decide +kernel
theorem dX12_allKinds_10 : decode cX12_allKinds 10 = .ok (.aload_n 0, 1) := by decide +kernel
theorem dX12_allKinds_11 : decode cX12_allKinds 11 = .ok (.getfield 373, 3) := by decide +kernel
theorem dX12_allKinds_14 : decode cX12_allKinds 14 = .ok (.iload_n 3, 1) := by decide +kernel
theorem dX12_allKinds_15 : decode cX12_allKinds 15 = .ok (.iaload, 1) := by decide +kernel
theorem dX12_allKinds_16 : decode cX12_allKinds 16 = .ok (.i2l, 1) := by decide +kernel
theorem dX12_allKinds_17 : decode cX12_allKinds 17 = .ok (.aload_n 0, 1) := by decide +kernel
theorem dX12_allKinds_18 : decode cX12_allKinds 18 = .ok (.iload_n 3, 1) := by decide +kernel
theorem dX12_allKinds_19 : decode cX12_allKinds 19 = .ok (.invokevirtual 380, 3) := by decide +kernel
theorem dX12_allKinds_22 : decode cX12_allKinds 22 = .ok (.lmul, 1) := by decide +kernel
theorem dX12_allKinds_23 : decode cX12_allKinds 23 = .ok (.ladd, 1) := by decide +kernel
theorem dX12_allKinds_24 : decode cX12_allKinds 24 = .ok (.lstore_n 1, 1) := by decide +kernel
theorem dX12_allKinds_25 : decode cX12_allKinds 25 = .ok (.iinc 3 1, 3) := by decide +kernel
theorem dX12_allKinds_28 : decode cX12_allKinds 28 = .ok (.goto (-24), 3) := by decide +kernel
theorem dX12_allKinds_31 : decode cX12_allKinds 31 = .ok (.lload_n 1, 1) := by decide +kernel
theorem dX12_allKinds_32 : decode cX12_allKinds 32 = .ok (.lreturn, 1) := by decide +kernel
theorem dX12_likelyOf_0 : decode cX12_likelyOf 0 = .ok (.ldc_w 384, 3) := by decide +kernel
theorem dX12_likelyOf_3 : decode cX12_likelyOf 3 = .ok (.aload_n 0, 1) := by decide +kernel
theorem dX12_likelyOf_4 : decode cX12_likelyOf 4 = .ok (.getfield 373, 3) := by decide +kernel
theorem dX12_likelyOf_7 : decode cX12_likelyOf 7 = .ok (.iload_n 1, 1) := by decide +kernel
theorem dX12_likelyOf_8 : decode cX12_likelyOf 8 = .ok (.iaload, 1) := by decide +kernel
theorem dX12_likelyOf_9 : decode cX12_likelyOf 9 = .ok (.imul, 1) := by decide +kernel
theorem dX12_likelyOf_10 : decode cX12_likelyOf 10 = .ok (.i2l, 1) := by decide +kernel
theorem dX12_likelyOf_11 : decode cX12_likelyOf 11 = .ok (.aload_n 0, 1) := by decide +kernel
theorem dX12_likelyOf_12 : decode cX12_likelyOf 12 = .ok (.iload_n 1, 1) := by decide +kernel
theorem dX12_likelyOf_13 : decode cX12_likelyOf 13 = .ok (.invokevirtual 380, 3) := by decide +kernel
theorem dX12_likelyOf_16 : decode cX12_likelyOf 16 = .ok (.lmul, 1) := by decide +kernel
theorem dX12_likelyOf_17 : decode cX12_likelyOf 17 = .ok (.aload_n 0, 1) := by decide +kernel
theorem dX12_likelyOf_18 : decode cX12_likelyOf 18 = .ok (.invokevirtual 385, 3) := by decide +kernel
theorem dX12_likelyOf_21 : decode cX12_likelyOf 21 = .ok (.ldiv, 1) := by decide +kernel
theorem dX12_likelyOf_22 : decode cX12_likelyOf 22 = .ok (.lreturn, 1) := by decide +kernel
theorem dX12_likely_0 : decode cX12_likely 0 = .ok (.aload_n 0, 1) := by decide +kernel
theorem dX12_likely_1 : decode cX12_likely 1 = .ok (.iconst 0, 1) := by decide +kernel
theorem dX12_likely_2 : decode cX12_likely 2 = .ok (.putfield 3, 3) := by decide +kernel
theorem dX12_likely_5 : decode cX12_likely 5 = .ok (.aload_n 0, 1) := by decide +kernel
theorem dX12_likely_6 : decode cX12_likely 6 = .ok (.iload_n 1, 1) := by decide +kernel
theorem dX12_likely_7 : decode cX12_likely 7 = .ok (.invokevirtual 99, 3) := by decide +kernel
theorem dX12_likely_10 : decode cX12_likely 10 = .ok (.ifCond .eq 10, 3) := by decide +kernel
theorem dX12_likely_13 : decode cX12_likely 13 = .ok (.iload_n 2, 1) := by decide +kernel
theorem dX12_likely_14 : decode cX12_likely 14 = .ok (.invokestatic 362, 3) := by decide +kernel
theorem dX12_likely_17 : decode cX12_likely 17 = .ok (.ifCond .ne 5, 3) := by decide +kernel
theorem dX12_likely_20 : decode cX12_likely 20 = .ok (.iconst (-1), 1) := by decide +kernel
theorem dX12_likely_21 : decode cX12_likely 21 = .ok (.ireturn, 1) := by decide +kernel
theorem dX12_likely_22 : decode cX12_likely 22 = .ok (.aload_n 0, 1) := by decide +kernel
theorem dX12_likely_23 : decode cX12_likely 23 = .ok (.iload_n 1, 1) := by decide +kernel
theorem dX12_likely_24 : decode cX12_likely 24 = .ok (.invokevirtual 359, 3) := by decide +kernel
theorem dX12_likely_27 : decode cX12_likely 27 = .ok (.pop, 1) := by decide +kernel
theorem dX12_likely_28 : decode cX12_likely 28 = .ok (.aload_n 0, 1) := by decide +kernel
theorem dX12_likely_29 : decode cX12_likely 29 = .ok (.invokevirtual 385, 3) := by decide +kernel
theorem dX12_likely_32 : decode cX12_likely 32 = .ok (.lconst 0, 1) := by decide +kernel
theorem dX12_likely_33 : decode cX12_likely 33 = .ok (.lcmp, 1) := by decide +kernel
theorem dX12_likely_34 : decode cX12_likely 34 = .ok (.ifCond .ne 8, 3) := by decide +kernel
theorem dX12_likely_37 : decode cX12_likely 37 = .ok (.bipush (-2), 2) := by decide +kernel
theorem dX12_likely_39 : decode cX12_likely 39 = .ok (.goto 9, 3) := by decide +kernel
theorem dX12_likely_42 : decode cX12_likely 42 = .ok (.aload_n 0, 1) := by decide +kernel
theorem dX12_likely_43 : decode cX12_likely 43 = .ok (.iload_n 2, 1) := by decide +kernel
theorem dX12_likely_44 : decode cX12_likely 44 = .ok (.invokevirtual 389, 3) := by decide +kernel
theorem dX12_likely_47 : decode cX12_likely 47 = .ok (.l2i, 1) := by decide +kernel
theorem dX12_likely_48 : decode cX12_likely 48 = .ok (.ireturn, 1) := by decide +kernel
theorem dX12_becomes_0 : decode cX12_becomes 0 = .ok (.iconst 0, 1) := by decide +kernel
theorem dX12_becomes_1 : decode cX12_becomes 1 = .ok (.istore_n 2, 1) := by decide +kernel
theorem dX12_becomes_2 : decode cX12_becomes 2 = .ok (.iload_n 2, 1) := by decide +kernel
theorem dX12_becomes_3 : decode cX12_becomes 3 = .ok (.aload_n 1, 1) := by decide +kernel
theorem dX12_becomes_4 : decode cX12_becomes 4 = .ok (.iconst 0, 1) := by decide +kernel
theorem dX12_becomes_5 : decode cX12_becomes 5 = .ok (.iaload, 1) := by decide +kernel
theorem dX12_becomes_6 : decode cX12_becomes 6 = .ok (.if_icmp .gt 15, 3) := by decide +kernel
theorem dX12_becomes_9 : decode cX12_becomes 9 = .ok (.aload_n 0, 1) := by decide +kernel
theorem dX12_becomes_10 : decode cX12_becomes 10 = .ok (.iload_n 2, 1) := by decide +kernel
theorem dX12_becomes_11 : decode cX12_becomes 11 = .ok (.aload_n 1, 1) := by decide +kernel
theorem dX12_becomes_12 : decode cX12_becomes 12 = .ok (.iload_n 2, 1) := by decide +kernel
theorem dX12_becomes_13 : decode cX12_becomes 13 = .ok (.iaload, 1) := by decide +kernel
theorem dX12_becomes_14 : decode cX12_becomes 14 = .ok (.iastore, 1) := by decide +kernel
theorem dX12_becomes_15 : decode cX12_becomes 15 = .ok (.iinc 2 1, 3) := by decide +kernel
theorem dX12_becomes_18 : decode cX12_becomes 18 = .ok (.goto (-16), 3) := by decide +kernel
theorem dX12_becomes_21 : decode cX12_becomes 21 = .ok (.return_, 1) := by decide +kernel
theorem dX12_isSmall_0 : decode cX12_isSmall 0 = .ok (.aload_n 0, 1) := by decide +kernel
theorem dX12_isSmall_1 : decode cX12_isSmall 1 = .ok (.iconst 0, 1) := by decide +kernel
theorem dX12_isSmall_2 : decode cX12_isSmall 2 = .ok (.iconst 1, 1) := by decide +kernel
theorem dX12_isSmall_3 : decode cX12_isSmall 3 = .ok (.iastore, 1) := by decide +kernel
theorem dX12_isSmall_4 : decode cX12_isSmall 4 = .ok (.aload_n 0, 1) := by decide +kernel
theorem dX12_isSmall_5 : decode cX12_isSmall 5 = .ok (.iconst 1, 1) := by decide +kernel
theorem dX12_isSmall_6 : decode cX12_isSmall 6 = .ok (.iload_n 1, 1) := by decide +kernel
theorem dX12_isSmall_7 : decode cX12_isSmall 7 = .ok (.iastore, 1) := by decide +kernel
theorem dX12_isSmall_8 : decode cX12_isSmall 8 = .ok (.return_, 1) := by decide +kernel
theorem dX12_times_0 : decode cX12_times 0 = .ok (.lconst 0, 1) := by decide +kernel
theorem dX12_times_1 : decode cX12_times 1 = .ok (.lstore_n 3, 1) := by decide +kernel
theorem dX12_times_2 : decode cX12_times 2 = .ok (.iconst 1, 1) := by decide +kernel
theorem dX12_times_3 : decode cX12_times 3 = .ok (.istore 5, 2) := by decide +kernel
theorem dX12_times_5 : decode cX12_times 5 = .ok (.iload 5, 2) := by decide +kernel
theorem dX12_times_7 : decode cX12_times 7 = .ok (.aload_n 0, 1) := by decide +kernel
theorem dX12_times_8 : decode cX12_times 8 = .ok (.iconst 0, 1) := by decide +kernel
theorem dX12_times_9 : decode cX12_times 9 = .ok (.iaload, 1) := by decide +kernel
theorem dX12_times_10 : decode cX12_times 10 = .ok (.if_icmp .gt 35, 3) := by decide +kernel
theorem dX12_times_13 : decode cX12_times 13 = .ok (.lload_n 3, 1) := by decide +kernel
theorem dX12_times_14 : decode cX12_times 14 = .ok (.aload_n 0, 1) := by decide +kernel
theorem dX12_times_15 : decode cX12_times 15 = .ok (.iload 5, 2) := by decide +kernel
theorem dX12_times_17 : decode cX12_times 17 = .ok (.iaload, 1) := by decide +kernel
theorem dX12_times_18 : decode cX12_times 18 = .ok (.i2l, 1) := by decide +kernel
theorem dX12_times_19 : decode cX12_times 19 = .ok (.lload_n 1, 1) := by decide +kernel
theorem dX12_times_20 : decode cX12_times 20 = .ok (.lmul, 1) := by decide +kernel
theorem dX12_times_21 : decode cX12_times 21 = .ok (.ladd, 1) := by decide +kernel
theorem dX12_times_22 : decode cX12_times 22 = .ok (.lstore_n 3, 1) := by decide +kernel
theorem dX12_times_23 : decode cX12_times 23 = .ok (.aload_n 0, 1) := by decide +kernel
theorem dX12_times_24 : decode cX12_times 24 = .ok (.iload 5, 2) := by decide +kernel
theorem dX12_times_26 : decode cX12_times 26 = .ok (.lload_n 3, 1) := by decide +kernel
theorem dX12_times_27 : decode cX12_times 27 = .ok (.ldc2_w 392, 3) := by decide +kernel
theorem dX12_times_30 : decode cX12_times 30 = .ok (.lrem, 1) := by decide +kernel
theorem dX12_times_31 : decode cX12_times 31 = .ok (.l2i, 1) := by decide +kernel
theorem dX12_times_32 : decode cX12_times 32 = .ok (.iastore, 1) := by decide +kernel
theorem dX12_times_33 : decode cX12_times 33 = .ok (.lload_n 3, 1) := by decide +kernel
theorem dX12_times_34 : decode cX12_times 34 = .ok (.ldc2_w 392, 3) := by decide +kernel
theorem dX12_times_37 : decode cX12_times 37 = .ok (.ldiv, 1) := by decide +kernel
theorem dX12_times_38 : decode cX12_times 38 = .ok (.lstore_n 3, 1) := by decide +kernel
theorem dX12_times_39 : decode cX12_times 39 = .ok (.iinc 5 1, 3) := by decide +kernel
theorem dX12_times_42 : decode cX12_times 42 = .ok (.goto (-37), 3) := by decide +kernel
theorem dX12_times_45 : decode cX12_times 45 = .ok (.lload_n 3, 1) := by decide +kernel
theorem dX12_times_46 : decode cX12_times 46 = .ok (.lconst 0, 1) := by decide +kernel
theorem dX12_times_47 : decode cX12_times 47 = .ok (.lcmp, 1) := by decide +kernel
theorem dX12_times_48 : decode cX12_times 48 = .ok (.ifCond .le 30, 3) := by decide +kernel
theorem dX12_times_51 : decode cX12_times 51 = .ok (.aload_n 0, 1) := by decide +kernel
theorem dX12_times_52 : decode cX12_times 52 = .ok (.iconst 0, 1) := by decide +kernel
theorem dX12_times_53 : decode cX12_times 53 = .ok (.dup2, 1) := by decide +kernel
theorem dX12_times_54 : decode cX12_times 54 = .ok (.iaload, 1) := by decide +kernel
theorem dX12_times_55 : decode cX12_times 55 = .ok (.iconst 1, 1) := by decide +kernel
theorem dX12_times_56 : decode cX12_times 56 = .ok (.iadd, 1) := by decide +kernel
theorem dX12_times_57 : decode cX12_times 57 = .ok (.iastore, 1) := by decide +kernel
theorem dX12_times_58 : decode cX12_times 58 = .ok (.aload_n 0, 1) := by decide +kernel
theorem dX12_times_59 : decode cX12_times 59 = .ok (.aload_n 0, 1) := by decide +kernel
theorem dX12_times_60 : decode cX12_times 60 = .ok (.iconst 0, 1) := by decide +kernel
theorem dX12_times_61 : decode cX12_times 61 = .ok (.iaload, 1) := by decide +kernel
theorem dX12_times_62 : decode cX12_times 62 = .ok (.lload_n 3, 1) := by decide +kernel
theorem dX12_times_63 : decode cX12_times 63 = .ok (.ldc2_w 392, 3) := by decide +kernel
theorem dX12_times_66 : decode cX12_times 66 = .ok (.lrem, 1) := by decide +kernel
theorem dX12_times_67 : decode cX12_times 67 = .ok (.l2i, 1) := by decide +kernel
theorem dX12_times_68 : decode cX12_times 68 = .ok (.iastore, 1) := by decide +kernel
theorem dX12_times_69 : decode cX12_times 69 = .ok (.lload_n 3, 1) := by decide +kernel
theorem dX12_times_70 : decode cX12_times 70 = .ok (.ldc2_w 392, 3) := by decide +kernel
theorem dX12_times_73 : decode cX12_times 73 = .ok (.ldiv, 1) := by decide +kernel
theorem dX12_times_74 : decode cX12_times 74 = .ok (.lstore_n 3, 1) := by decide +kernel
theorem dX12_times_75 : decode cX12_times 75 = .ok (.goto (-30), 3) := by decide +kernel
theorem dX12_times_78 : decode cX12_times 78 = .ok (.aload_n 0, 1) := by decide +kernel
theorem dX12_times_79 : decode cX12_times 79 = .ok (.iconst 0, 1) := by decide +kernel
theorem dX12_times_80 : decode cX12_times 80 = .ok (.iaload, 1) := by decide +kernel
theorem dX12_times_81 : decode cX12_times 81 = .ok (.iconst 1, 1) := by decide +kernel
theorem dX12_times_82 : decode cX12_times 82 = .ok (.if_icmp .le 21, 3) := by decide +kernel
theorem dX12_times_85 : decode cX12_times 85 = .ok (.aload_n 0, 1) := by decide +kernel
theorem dX12_times_86 : decode cX12_times 86 = .ok (.aload_n 0, 1) := by decide +kernel
theorem dX12_times_87 : decode cX12_times 87 = .ok (.iconst 0, 1) := by decide +kernel
theorem dX12_times_88 : decode cX12_times 88 = .ok (.iaload, 1) := by decide +kernel
theorem dX12_times_89 : decode cX12_times 89 = .ok (.iaload, 1) := by decide +kernel
theorem dX12_times_90 : decode cX12_times 90 = .ok (.ifCond .ne 13, 3) := by decide +kernel
theorem dX12_times_93 : decode cX12_times 93 = .ok (.aload_n 0, 1) := by decide +kernel
theorem dX12_times_94 : decode cX12_times 94 = .ok (.iconst 0, 1) := by decide +kernel
theorem dX12_times_95 : decode cX12_times 95 = .ok (.dup2, 1) := by decide +kernel
theorem dX12_times_96 : decode cX12_times 96 = .ok (.iaload, 1) := by decide +kernel
theorem dX12_times_97 : decode cX12_times 97 = .ok (.iconst 1, 1) := by decide +kernel
theorem dX12_times_98 : decode cX12_times 98 = .ok (.isub, 1) := by decide +kernel
theorem dX12_times_99 : decode cX12_times 99 = .ok (.iastore, 1) := by decide +kernel
theorem dX12_times_100 : decode cX12_times 100 = .ok (.goto (-22), 3) := by decide +kernel
theorem dX12_times_103 : decode cX12_times 103 = .ok (.return_, 1) := by decide +kernel
theorem dX12_adds_0 : decode cX12_adds 0 = .ok (.aload_n 0, 1) := by decide +kernel
theorem dX12_adds_1 : decode cX12_adds 1 = .ok (.iconst 0, 1) := by decide +kernel
theorem dX12_adds_2 : decode cX12_adds 2 = .ok (.iaload, 1) := by decide +kernel
theorem dX12_adds_3 : decode cX12_adds 3 = .ok (.aload_n 1, 1) := by decide +kernel
theorem dX12_adds_4 : decode cX12_adds 4 = .ok (.iconst 0, 1) := by decide +kernel
theorem dX12_adds_5 : decode cX12_adds 5 = .ok (.iaload, 1) := by decide +kernel
theorem dX12_adds_6 : decode cX12_adds 6 = .ok (.invokestatic 238, 3) := by decide +kernel
theorem dX12_adds_9 : decode cX12_adds 9 = .ok (.istore_n 2, 1) := by decide +kernel
theorem dX12_adds_10 : decode cX12_adds 10 = .ok (.iconst 0, 1) := by decide +kernel
theorem dX12_adds_11 : decode cX12_adds 11 = .ok (.istore_n 3, 1) := by decide +kernel
theorem dX12_adds_12 : decode cX12_adds 12 = .ok (.iconst 1, 1) := by decide +kernel
theorem dX12_adds_13 : decode cX12_adds 13 = .ok (.istore 4, 2) := by decide +kernel
theorem dX12_adds_15 : decode cX12_adds 15 = .ok (.iload 4, 2) := by decide +kernel
theorem dX12_adds_17 : decode cX12_adds 17 = .ok (.iload_n 2, 1) := by decide +kernel
theorem dX12_adds_18 : decode cX12_adds 18 = .ok (.if_icmp .gt 63, 3) := by decide +kernel
theorem dX12_adds_21 : decode cX12_adds 21 = .ok (.iload 4, 2) := by decide +kernel
theorem dX12_adds_23 : decode cX12_adds 23 = .ok (.aload_n 0, 1) := by decide +kernel
theorem dX12_adds_24 : decode cX12_adds 24 = .ok (.iconst 0, 1) := by decide +kernel
theorem dX12_adds_25 : decode cX12_adds 25 = .ok (.iaload, 1) := by decide +kernel
theorem dX12_adds_26 : decode cX12_adds 26 = .ok (.if_icmp .gt 10, 3) := by decide +kernel
theorem dX12_adds_29 : decode cX12_adds 29 = .ok (.aload_n 0, 1) := by decide +kernel
theorem dX12_adds_30 : decode cX12_adds 30 = .ok (.iload 4, 2) := by decide +kernel
theorem dX12_adds_32 : decode cX12_adds 32 = .ok (.iaload, 1) := by decide +kernel
theorem dX12_adds_33 : decode cX12_adds 33 = .ok (.goto 4, 3) := by decide +kernel
theorem dX12_adds_36 : decode cX12_adds 36 = .ok (.iconst 0, 1) := by decide +kernel
theorem dX12_adds_37 : decode cX12_adds 37 = .ok (.iload 4, 2) := by decide +kernel
theorem dX12_adds_39 : decode cX12_adds 39 = .ok (.aload_n 1, 1) := by decide +kernel
theorem dX12_adds_40 : decode cX12_adds 40 = .ok (.iconst 0, 1) := by decide +kernel
theorem dX12_adds_41 : decode cX12_adds 41 = .ok (.iaload, 1) := by decide +kernel
theorem dX12_adds_42 : decode cX12_adds 42 = .ok (.if_icmp .gt 10, 3) := by decide +kernel
theorem dX12_adds_45 : decode cX12_adds 45 = .ok (.aload_n 1, 1) := by decide +kernel
theorem dX12_adds_46 : decode cX12_adds 46 = .ok (.iload 4, 2) := by decide +kernel
theorem dX12_adds_48 : decode cX12_adds 48 = .ok (.iaload, 1) := by decide +kernel
theorem dX12_adds_49 : decode cX12_adds 49 = .ok (.goto 4, 3) := by decide +kernel
theorem dX12_adds_52 : decode cX12_adds 52 = .ok (.iconst 0, 1) := by decide +kernel
theorem dX12_adds_53 : decode cX12_adds 53 = .ok (.iadd, 1) := by decide +kernel
theorem dX12_adds_54 : decode cX12_adds 54 = .ok (.iload_n 3, 1) := by decide +kernel
theorem dX12_adds_55 : decode cX12_adds 55 = .ok (.iadd, 1) := by decide +kernel
theorem dX12_adds_56 : decode cX12_adds 56 = .ok (.istore 5, 2) := by decide +kernel
theorem dX12_adds_58 : decode cX12_adds 58 = .ok (.aload_n 0, 1) := by decide +kernel
theorem dX12_adds_59 : decode cX12_adds 59 = .ok (.iload 4, 2) := by decide +kernel
theorem dX12_adds_61 : decode cX12_adds 61 = .ok (.iload 5, 2) := by decide +kernel
theorem dX12_adds_63 : decode cX12_adds 63 = .ok (.sipush 10000, 3) := by decide +kernel
theorem dX12_adds_66 : decode cX12_adds 66 = .ok (.irem, 1) := by decide +kernel
theorem dX12_adds_67 : decode cX12_adds 67 = .ok (.iastore, 1) := by decide +kernel
theorem dX12_adds_68 : decode cX12_adds 68 = .ok (.iload 5, 2) := by decide +kernel
theorem dX12_adds_70 : decode cX12_adds 70 = .ok (.sipush 10000, 3) := by decide +kernel
theorem dX12_adds_73 : decode cX12_adds 73 = .ok (.idiv, 1) := by decide +kernel
theorem dX12_adds_74 : decode cX12_adds 74 = .ok (.istore_n 3, 1) := by decide +kernel
theorem dX12_adds_75 : decode cX12_adds 75 = .ok (.iinc 4 1, 3) := by decide +kernel
theorem dX12_adds_78 : decode cX12_adds 78 = .ok (.goto (-63), 3) := by decide +kernel
theorem dX12_adds_81 : decode cX12_adds 81 = .ok (.aload_n 0, 1) := by decide +kernel
theorem dX12_adds_82 : decode cX12_adds 82 = .ok (.iconst 0, 1) := by decide +kernel
theorem dX12_adds_83 : decode cX12_adds 83 = .ok (.iload_n 2, 1) := by decide +kernel
theorem dX12_adds_84 : decode cX12_adds 84 = .ok (.iastore, 1) := by decide +kernel
theorem dX12_adds_85 : decode cX12_adds 85 = .ok (.iload_n 3, 1) := by decide +kernel
theorem dX12_adds_86 : decode cX12_adds 86 = .ok (.ifCond .le 16, 3) := by decide +kernel
theorem dX12_adds_89 : decode cX12_adds 89 = .ok (.aload_n 0, 1) := by decide +kernel
theorem dX12_adds_90 : decode cX12_adds 90 = .ok (.iconst 0, 1) := by decide +kernel
theorem dX12_adds_91 : decode cX12_adds 91 = .ok (.dup2, 1) := by decide +kernel
theorem dX12_adds_92 : decode cX12_adds 92 = .ok (.iaload, 1) := by decide +kernel
theorem dX12_adds_93 : decode cX12_adds 93 = .ok (.iconst 1, 1) := by decide +kernel
theorem dX12_adds_94 : decode cX12_adds 94 = .ok (.iadd, 1) := by decide +kernel
theorem dX12_adds_95 : decode cX12_adds 95 = .ok (.iastore, 1) := by decide +kernel
theorem dX12_adds_96 : decode cX12_adds 96 = .ok (.aload_n 0, 1) := by decide +kernel
theorem dX12_adds_97 : decode cX12_adds 97 = .ok (.aload_n 0, 1) := by decide +kernel
theorem dX12_adds_98 : decode cX12_adds 98 = .ok (.iconst 0, 1) := by decide +kernel
theorem dX12_adds_99 : decode cX12_adds 99 = .ok (.iaload, 1) := by decide +kernel
theorem dX12_adds_100 : decode cX12_adds 100 = .ok (.iload_n 3, 1) := by decide +kernel
theorem dX12_adds_101 : decode cX12_adds 101 = .ok (.iastore, 1) := by decide +kernel
theorem dX12_adds_102 : decode cX12_adds 102 = .ok (.return_, 1) := by decide +kernel
theorem dX12_comparesGreat_0 : decode cX12_comparesGreat 0 = .ok (.aload_n 0, 1) := by decide +kernel
theorem dX12_comparesGreat_1 : decode cX12_comparesGreat 1 = .ok (.iconst 0, 1) := by decide +kernel
theorem dX12_comparesGreat_2 : decode cX12_comparesGreat 2 = .ok (.iaload, 1) := by decide +kernel
theorem dX12_comparesGreat_3 : decode cX12_comparesGreat 3 = .ok (.aload_n 1, 1) := by decide +kernel
theorem dX12_comparesGreat_4 : decode cX12_comparesGreat 4 = .ok (.iconst 0, 1) := by decide +kernel
theorem dX12_comparesGreat_5 : decode cX12_comparesGreat 5 = .ok (.iaload, 1) := by decide +kernel
theorem dX12_comparesGreat_6 : decode cX12_comparesGreat 6 = .ok (.if_icmp .eq 18, 3) := by decide +kernel
theorem dX12_comparesGreat_9 : decode cX12_comparesGreat 9 = .ok (.aload_n 0, 1) := by decide +kernel
theorem dX12_comparesGreat_10 : decode cX12_comparesGreat 10 = .ok (.iconst 0, 1) := by decide +kernel
theorem dX12_comparesGreat_11 : decode cX12_comparesGreat 11 = .ok (.iaload, 1) := by decide +kernel
theorem dX12_comparesGreat_12 : decode cX12_comparesGreat 12 = .ok (.aload_n 1, 1) := by decide +kernel
theorem dX12_comparesGreat_13 : decode cX12_comparesGreat 13 = .ok (.iconst 0, 1) := by decide +kernel
theorem dX12_comparesGreat_14 : decode cX12_comparesGreat 14 = .ok (.iaload, 1) := by decide +kernel
theorem dX12_comparesGreat_15 : decode cX12_comparesGreat 15 = .ok (.if_icmp .ge 7, 3) := by decide +kernel
theorem dX12_comparesGreat_18 : decode cX12_comparesGreat 18 = .ok (.iconst (-1), 1) := by decide +kernel
theorem dX12_comparesGreat_19 : decode cX12_comparesGreat 19 = .ok (.goto 4, 3) := by decide +kernel
theorem dX12_comparesGreat_22 : decode cX12_comparesGreat 22 = .ok (.iconst 1, 1) := by decide +kernel
theorem dX12_comparesGreat_23 : decode cX12_comparesGreat 23 = .ok (.ireturn, 1) := by decide +kernel
theorem dX12_comparesGreat_24 : decode cX12_comparesGreat 24 = .ok (.aload_n 0, 1) := by decide +kernel
theorem dX12_comparesGreat_25 : decode cX12_comparesGreat 25 = .ok (.iconst 0, 1) := by decide +kernel
theorem dX12_comparesGreat_26 : decode cX12_comparesGreat 26 = .ok (.iaload, 1) := by decide +kernel
theorem dX12_comparesGreat_27 : decode cX12_comparesGreat 27 = .ok (.istore_n 2, 1) := by decide +kernel
theorem dX12_comparesGreat_28 : decode cX12_comparesGreat 28 = .ok (.iload_n 2, 1) := by decide +kernel
theorem dX12_comparesGreat_29 : decode cX12_comparesGreat 29 = .ok (.ifCond .le 33, 3) := by decide +kernel
theorem dX12_comparesGreat_32 : decode cX12_comparesGreat 32 = .ok (.aload_n 0, 1) := by decide +kernel
theorem dX12_comparesGreat_33 : decode cX12_comparesGreat 33 = .ok (.iload_n 2, 1) := by decide +kernel
theorem dX12_comparesGreat_34 : decode cX12_comparesGreat 34 = .ok (.iaload, 1) := by decide +kernel
theorem dX12_comparesGreat_35 : decode cX12_comparesGreat 35 = .ok (.aload_n 1, 1) := by decide +kernel
theorem dX12_comparesGreat_36 : decode cX12_comparesGreat 36 = .ok (.iload_n 2, 1) := by decide +kernel
theorem dX12_comparesGreat_37 : decode cX12_comparesGreat 37 = .ok (.iaload, 1) := by decide +kernel
theorem dX12_comparesGreat_38 : decode cX12_comparesGreat 38 = .ok (.if_icmp .eq 18, 3) := by decide +kernel
theorem dX12_comparesGreat_41 : decode cX12_comparesGreat 41 = .ok (.aload_n 0, 1) := by decide +kernel
theorem dX12_comparesGreat_42 : decode cX12_comparesGreat 42 = .ok (.iload_n 2, 1) := by decide +kernel
theorem dX12_comparesGreat_43 : decode cX12_comparesGreat 43 = .ok (.iaload, 1) := by decide +kernel
theorem dX12_comparesGreat_44 : decode cX12_comparesGreat 44 = .ok (.aload_n 1, 1) := by decide +kernel
theorem dX12_comparesGreat_45 : decode cX12_comparesGreat 45 = .ok (.iload_n 2, 1) := by decide +kernel
theorem dX12_comparesGreat_46 : decode cX12_comparesGreat 46 = .ok (.iaload, 1) := by decide +kernel
theorem dX12_comparesGreat_47 : decode cX12_comparesGreat 47 = .ok (.if_icmp .ge 7, 3) := by decide +kernel
theorem dX12_comparesGreat_50 : decode cX12_comparesGreat 50 = .ok (.iconst (-1), 1) := by decide +kernel
theorem dX12_comparesGreat_51 : decode cX12_comparesGreat 51 = .ok (.goto 4, 3) := by decide +kernel
theorem dX12_comparesGreat_54 : decode cX12_comparesGreat 54 = .ok (.iconst 1, 1) := by decide +kernel
theorem dX12_comparesGreat_55 : decode cX12_comparesGreat 55 = .ok (.ireturn, 1) := by decide +kernel
theorem dX12_comparesGreat_56 : decode cX12_comparesGreat 56 = .ok (.iinc 2 (-1), 3) := by decide +kernel
theorem dX12_comparesGreat_59 : decode cX12_comparesGreat 59 = .ok (.goto (-31), 3) := by decide +kernel
theorem dX12_comparesGreat_62 : decode cX12_comparesGreat 62 = .ok (.iconst 0, 1) := by decide +kernel
theorem dX12_comparesGreat_63 : decode cX12_comparesGreat 63 = .ok (.ireturn, 1) := by decide +kernel
theorem dX12_fit_0 : decode cX12_fit 0 = .ok (.aload_n 0, 1) := by decide +kernel
theorem dX12_fit_1 : decode cX12_fit 1 = .ok (.iconst 0, 1) := by decide +kernel
theorem dX12_fit_2 : decode cX12_fit 2 = .ok (.putfield 3, 3) := by decide +kernel
theorem dX12_fit_5 : decode cX12_fit 5 = .ok (.iconst 0, 1) := by decide +kernel
theorem dX12_fit_6 : decode cX12_fit 6 = .ok (.istore_n 1, 1) := by decide +kernel
theorem dX12_fit_7 : decode cX12_fit 7 = .ok (.iconst 0, 1) := by decide +kernel
theorem dX12_fit_8 : decode cX12_fit 8 = .ok (.istore_n 2, 1) := by decide +kernel
theorem dX12_fit_9 : decode cX12_fit 9 = .ok (.iload_n 2, 1) := by decide +kernel
theorem dX12_fit_10 : decode cX12_fit 10 = .ok (.aload_n 0, 1) := by decide +kernel
theorem dX12_fit_11 : decode cX12_fit 11 = .ok (.getfield 33, 3) := by decide +kernel
theorem dX12_fit_14 : decode cX12_fit 14 = .ok (.if_icmp .ge 48, 3) := by decide +kernel
theorem dX12_fit_17 : decode cX12_fit 17 = .ok (.aload_n 0, 1) := by decide +kernel
theorem dX12_fit_18 : decode cX12_fit 18 = .ok (.iload_n 2, 1) := by decide +kernel
theorem dX12_fit_19 : decode cX12_fit 19 = .ok (.invokevirtual 359, 3) := by decide +kernel
theorem dX12_fit_22 : decode cX12_fit 22 = .ok (.ifCond .le 34, 3) := by decide +kernel
theorem dX12_fit_25 : decode cX12_fit 25 = .ok (.iconst 0, 1) := by decide +kernel
theorem dX12_fit_26 : decode cX12_fit 26 = .ok (.istore_n 3, 1) := by decide +kernel
theorem dX12_fit_27 : decode cX12_fit 27 = .ok (.iload_n 3, 1) := by decide +kernel
theorem dX12_fit_28 : decode cX12_fit 28 = .ok (.iconst 4, 1) := by decide +kernel
theorem dX12_fit_29 : decode cX12_fit 29 = .ok (.if_icmp .ge 24, 3) := by decide +kernel
theorem dX12_fit_32 : decode cX12_fit 32 = .ok (.aload_n 0, 1) := by decide +kernel
theorem dX12_fit_33 : decode cX12_fit 33 = .ok (.getfield 394, 3) := by decide +kernel
theorem dX12_fit_36 : decode cX12_fit 36 = .ok (.iconst 4, 1) := by decide +kernel
theorem dX12_fit_37 : decode cX12_fit 37 = .ok (.iload_n 1, 1) := by decide +kernel
theorem dX12_fit_38 : decode cX12_fit 38 = .ok (.imul, 1) := by decide +kernel
theorem dX12_fit_39 : decode cX12_fit 39 = .ok (.iload_n 3, 1) := by decide +kernel
theorem dX12_fit_40 : decode cX12_fit 40 = .ok (.iadd, 1) := by decide +kernel
theorem dX12_fit_41 : decode cX12_fit 41 = .ok (.aload_n 0, 1) := by decide +kernel
theorem dX12_fit_42 : decode cX12_fit 42 = .ok (.iload_n 3, 1) := by decide +kernel
theorem dX12_fit_43 : decode cX12_fit 43 = .ok (.invokevirtual 380, 3) := by decide +kernel
theorem dX12_fit_46 : decode cX12_fit 46 = .ok (.lastore, 1) := by decide +kernel
theorem dX12_fit_47 : decode cX12_fit 47 = .ok (.iinc 3 1, 3) := by decide +kernel
theorem dX12_fit_50 : decode cX12_fit 50 = .ok (.goto (-23), 3) := by decide +kernel
theorem dX12_fit_53 : decode cX12_fit 53 = .ok (.iinc 1 1, 3) := by decide +kernel
theorem dX12_fit_56 : decode cX12_fit 56 = .ok (.iinc 2 1, 3) := by decide +kernel
theorem dX12_fit_59 : decode cX12_fit 59 = .ok (.goto (-50), 3) := by decide +kernel
theorem dX12_fit_62 : decode cX12_fit 62 = .ok (.aload_n 0, 1) := by decide +kernel
theorem dX12_fit_63 : decode cX12_fit 63 = .ok (.getfield 397, 3) := by decide +kernel
theorem dX12_fit_66 : decode cX12_fit 66 = .ok (.iconst 0, 1) := by decide +kernel
theorem dX12_fit_67 : decode cX12_fit 67 = .ok (.invokestatic 400, 3) := by decide +kernel
theorem dX12_fit_70 : decode cX12_fit 70 = .ok (.iconst 0, 1) := by decide +kernel
theorem dX12_fit_71 : decode cX12_fit 71 = .ok (.istore_n 2, 1) := by decide +kernel
theorem dX12_fit_72 : decode cX12_fit 72 = .ok (.iload_n 2, 1) := by decide +kernel
theorem dX12_fit_73 : decode cX12_fit 73 = .ok (.sipush 1331, 3) := by decide +kernel
theorem dX12_fit_76 : decode cX12_fit 76 = .ok (.if_icmp .ge 206, 3) := by decide +kernel
theorem dX12_fit_79 : decode cX12_fit 79 = .ok (.aload_n 0, 1) := by decide +kernel
theorem dX12_fit_80 : decode cX12_fit 80 = .ok (.getfield 404, 3) := by decide +kernel
theorem dX12_fit_83 : decode cX12_fit 83 = .ok (.iconst 0, 1) := by decide +kernel
theorem dX12_fit_84 : decode cX12_fit 84 = .ok (.iload_n 2, 1) := by decide +kernel
theorem dX12_fit_85 : decode cX12_fit 85 = .ok (.bipush 121, 2) := by decide +kernel
theorem dX12_fit_87 : decode cX12_fit 87 = .ok (.idiv, 1) := by decide +kernel
theorem dX12_fit_88 : decode cX12_fit 88 = .ok (.iastore, 1) := by decide +kernel
theorem dX12_fit_89 : decode cX12_fit 89 = .ok (.aload_n 0, 1) := by decide +kernel
theorem dX12_fit_90 : decode cX12_fit 90 = .ok (.getfield 404, 3) := by decide +kernel
theorem dX12_fit_93 : decode cX12_fit 93 = .ok (.iconst 1, 1) := by decide +kernel
theorem dX12_fit_94 : decode cX12_fit 94 = .ok (.iload_n 2, 1) := by decide +kernel
theorem dX12_fit_95 : decode cX12_fit 95 = .ok (.bipush 11, 2) := by decide +kernel
theorem dX12_fit_97 : decode cX12_fit 97 = .ok (.idiv, 1) := by decide +kernel
theorem dX12_fit_98 : decode cX12_fit 98 = .ok (.bipush 11, 2) := by decide +kernel
theorem dX12_fit_100 : decode cX12_fit 100 = .ok (.irem, 1) := by decide +kernel
theorem dX12_fit_101 : decode cX12_fit 101 = .ok (.iastore, 1) := by decide +kernel
theorem dX12_fit_102 : decode cX12_fit 102 = .ok (.aload_n 0, 1) := by decide +kernel
theorem dX12_fit_103 : decode cX12_fit 103 = .ok (.getfield 404, 3) := by decide +kernel
theorem dX12_fit_106 : decode cX12_fit 106 = .ok (.iconst 2, 1) := by decide +kernel
theorem dX12_fit_107 : decode cX12_fit 107 = .ok (.iload_n 2, 1) := by decide +kernel
theorem dX12_fit_108 : decode cX12_fit 108 = .ok (.bipush 11, 2) := by decide +kernel
theorem dX12_fit_110 : decode cX12_fit 110 = .ok (.irem, 1) := by decide +kernel
theorem dX12_fit_111 : decode cX12_fit 111 = .ok (.iastore, 1) := by decide +kernel
theorem dX12_fit_112 : decode cX12_fit 112 = .ok (.aload_n 0, 1) := by decide +kernel
theorem dX12_fit_113 : decode cX12_fit 113 = .ok (.getfield 404, 3) := by decide +kernel
theorem dX12_fit_116 : decode cX12_fit 116 = .ok (.iconst 3, 1) := by decide +kernel
theorem dX12_fit_117 : decode cX12_fit 117 = .ok (.bipush 10, 2) := by decide +kernel
theorem dX12_fit_119 : decode cX12_fit 119 = .ok (.aload_n 0, 1) := by decide +kernel
theorem dX12_fit_120 : decode cX12_fit 120 = .ok (.getfield 404, 3) := by decide +kernel
theorem dX12_fit_123 : decode cX12_fit 123 = .ok (.iconst 0, 1) := by decide +kernel
theorem dX12_fit_124 : decode cX12_fit 124 = .ok (.iaload, 1) := by decide +kernel
theorem dX12_fit_125 : decode cX12_fit 125 = .ok (.isub, 1) := by decide +kernel
theorem dX12_fit_126 : decode cX12_fit 126 = .ok (.aload_n 0, 1) := by decide +kernel
theorem dX12_fit_127 : decode cX12_fit 127 = .ok (.getfield 404, 3) := by decide +kernel
theorem dX12_fit_130 : decode cX12_fit 130 = .ok (.iconst 1, 1) := by decide +kernel
theorem dX12_fit_131 : decode cX12_fit 131 = .ok (.iaload, 1) := by decide +kernel
theorem dX12_fit_132 : decode cX12_fit 132 = .ok (.isub, 1) := by decide +kernel
theorem dX12_fit_133 : decode cX12_fit 133 = .ok (.aload_n 0, 1) := by decide +kernel
theorem dX12_fit_134 : decode cX12_fit 134 = .ok (.getfield 404, 3) := by decide +kernel
theorem dX12_fit_137 : decode cX12_fit 137 = .ok (.iconst 2, 1) := by decide +kernel
theorem dX12_fit_138 : decode cX12_fit 138 = .ok (.iaload, 1) := by decide +kernel
theorem dX12_fit_139 : decode cX12_fit 139 = .ok (.isub, 1) := by decide +kernel
theorem dX12_fit_140 : decode cX12_fit 140 = .ok (.iastore, 1) := by decide +kernel
theorem dX12_fit_141 : decode cX12_fit 141 = .ok (.aload_n 0, 1) := by decide +kernel
theorem dX12_fit_142 : decode cX12_fit 142 = .ok (.getfield 404, 3) := by decide +kernel
theorem dX12_fit_145 : decode cX12_fit 145 = .ok (.iconst 3, 1) := by decide +kernel
theorem dX12_fit_146 : decode cX12_fit 146 = .ok (.iaload, 1) := by decide +kernel
theorem dX12_fit_147 : decode cX12_fit 147 = .ok (.ifCond .ge 6, 3) := by decide +kernel
theorem dX12_fit_150 : decode cX12_fit 150 = .ok (.goto 126, 3) := by decide +kernel
theorem dX12_fit_153 : decode cX12_fit 153 = .ok (.aload_n 0, 1) := by decide +kernel
theorem dX12_fit_154 : decode cX12_fit 154 = .ok (.getfield 407, 3) := by decide +kernel
theorem dX12_fit_157 : decode cX12_fit 157 = .ok (.iconst 1, 1) := by decide +kernel
theorem dX12_fit_158 : decode cX12_fit 158 = .ok (.invokestatic 400, 3) := by decide +kernel
theorem dX12_fit_161 : decode cX12_fit 161 = .ok (.iconst 0, 1) := by decide +kernel
theorem dX12_fit_162 : decode cX12_fit 162 = .ok (.istore_n 3, 1) := by decide +kernel
theorem dX12_fit_163 : decode cX12_fit 163 = .ok (.iload_n 3, 1) := by decide +kernel
theorem dX12_fit_164 : decode cX12_fit 164 = .ok (.iload_n 1, 1) := by decide +kernel
theorem dX12_fit_165 : decode cX12_fit 165 = .ok (.if_icmp .ge 61, 3) := by decide +kernel
theorem dX12_fit_168 : decode cX12_fit 168 = .ok (.lconst 0, 1) := by decide +kernel
theorem dX12_fit_169 : decode cX12_fit 169 = .ok (.lstore 4, 2) := by decide +kernel
theorem dX12_fit_171 : decode cX12_fit 171 = .ok (.iconst 0, 1) := by decide +kernel
theorem dX12_fit_172 : decode cX12_fit 172 = .ok (.istore 6, 2) := by decide +kernel
theorem dX12_fit_174 : decode cX12_fit 174 = .ok (.iload 6, 2) := by decide +kernel
theorem dX12_fit_176 : decode cX12_fit 176 = .ok (.iconst 4, 1) := by decide +kernel
theorem dX12_fit_177 : decode cX12_fit 177 = .ok (.if_icmp .ge 34, 3) := by decide +kernel
theorem dX12_fit_180 : decode cX12_fit 180 = .ok (.lload 4, 2) := by decide +kernel
theorem dX12_fit_182 : decode cX12_fit 182 = .ok (.aload_n 0, 1) := by decide +kernel
theorem dX12_fit_183 : decode cX12_fit 183 = .ok (.getfield 404, 3) := by decide +kernel
theorem dX12_fit_186 : decode cX12_fit 186 = .ok (.iload 6, 2) := by decide +kernel
theorem dX12_fit_188 : decode cX12_fit 188 = .ok (.iaload, 1) := by decide +kernel
theorem dX12_fit_189 : decode cX12_fit 189 = .ok (.i2l, 1) := by decide +kernel
theorem dX12_fit_190 : decode cX12_fit 190 = .ok (.aload_n 0, 1) := by decide +kernel
theorem dX12_fit_191 : decode cX12_fit 191 = .ok (.getfield 394, 3) := by decide +kernel
theorem dX12_fit_194 : decode cX12_fit 194 = .ok (.iconst 4, 1) := by decide +kernel
theorem dX12_fit_195 : decode cX12_fit 195 = .ok (.iload_n 3, 1) := by decide +kernel
theorem dX12_fit_196 : decode cX12_fit 196 = .ok (.imul, 1) := by decide +kernel
theorem dX12_fit_197 : decode cX12_fit 197 = .ok (.iload 6, 2) := by decide +kernel
theorem dX12_fit_199 : decode cX12_fit 199 = .ok (.iadd, 1) := by decide +kernel
theorem dX12_fit_200 : decode cX12_fit 200 = .ok (.laload, 1) := by decide +kernel
theorem dX12_fit_201 : decode cX12_fit 201 = .ok (.lmul, 1) := by decide +kernel
theorem dX12_fit_202 : decode cX12_fit 202 = .ok (.ladd, 1) := by decide +kernel
theorem dX12_fit_203 : decode cX12_fit 203 = .ok (.lstore 4, 2) := by decide +kernel
theorem dX12_fit_205 : decode cX12_fit 205 = .ok (.iinc 6 1, 3) := by decide +kernel
theorem dX12_fit_208 : decode cX12_fit 208 = .ok (.goto (-34), 3) := by decide +kernel
theorem dX12_fit_211 : decode cX12_fit 211 = .ok (.aload_n 0, 1) := by decide +kernel
theorem dX12_fit_212 : decode cX12_fit 212 = .ok (.getfield 407, 3) := by decide +kernel
theorem dX12_fit_215 : decode cX12_fit 215 = .ok (.lload 4, 2) := by decide +kernel
theorem dX12_fit_217 : decode cX12_fit 217 = .ok (.invokestatic 410, 3) := by decide +kernel
theorem dX12_fit_220 : decode cX12_fit 220 = .ok (.iinc 3 1, 3) := by decide +kernel
theorem dX12_fit_223 : decode cX12_fit 223 = .ok (.goto (-60), 3) := by decide +kernel
theorem dX12_fit_226 : decode cX12_fit 226 = .ok (.aload_n 0, 1) := by decide +kernel
theorem dX12_fit_227 : decode cX12_fit 227 = .ok (.getfield 407, 3) := by decide +kernel
theorem dX12_fit_230 : decode cX12_fit 230 = .ok (.aload_n 0, 1) := by decide +kernel
theorem dX12_fit_231 : decode cX12_fit 231 = .ok (.getfield 397, 3) := by decide +kernel
theorem dX12_fit_234 : decode cX12_fit 234 = .ok (.invokestatic 414, 3) := by decide +kernel
theorem dX12_fit_237 : decode cX12_fit 237 = .ok (.ifCond .le 39, 3) := by decide +kernel
theorem dX12_fit_240 : decode cX12_fit 240 = .ok (.aload_n 0, 1) := by decide +kernel
theorem dX12_fit_241 : decode cX12_fit 241 = .ok (.getfield 397, 3) := by decide +kernel
theorem dX12_fit_244 : decode cX12_fit 244 = .ok (.aload_n 0, 1) := by decide +kernel
theorem dX12_fit_245 : decode cX12_fit 245 = .ok (.getfield 407, 3) := by decide +kernel
theorem dX12_fit_248 : decode cX12_fit 248 = .ok (.invokestatic 418, 3) := by decide +kernel
theorem dX12_fit_251 : decode cX12_fit 251 = .ok (.iconst 0, 1) := by decide +kernel
theorem dX12_fit_252 : decode cX12_fit 252 = .ok (.istore_n 3, 1) := by decide +kernel
theorem dX12_fit_253 : decode cX12_fit 253 = .ok (.iload_n 3, 1) := by decide +kernel
theorem dX12_fit_254 : decode cX12_fit 254 = .ok (.iconst 4, 1) := by decide +kernel
theorem dX12_fit_255 : decode cX12_fit 255 = .ok (.if_icmp .ge 21, 3) := by decide +kernel
theorem dX12_fit_258 : decode cX12_fit 258 = .ok (.aload_n 0, 1) := by decide +kernel
theorem dX12_fit_259 : decode cX12_fit 259 = .ok (.getfield 422, 3) := by decide +kernel
theorem dX12_fit_262 : decode cX12_fit 262 = .ok (.iload_n 3, 1) := by decide +kernel
theorem dX12_fit_263 : decode cX12_fit 263 = .ok (.aload_n 0, 1) := by decide +kernel
theorem dX12_fit_264 : decode cX12_fit 264 = .ok (.getfield 404, 3) := by decide +kernel
theorem dX12_fit_267 : decode cX12_fit 267 = .ok (.iload_n 3, 1) := by decide +kernel
theorem dX12_fit_268 : decode cX12_fit 268 = .ok (.iaload, 1) := by decide +kernel
theorem dX12_fit_269 : decode cX12_fit 269 = .ok (.iastore, 1) := by decide +kernel
theorem dX12_fit_270 : decode cX12_fit 270 = .ok (.iinc 3 1, 3) := by decide +kernel
theorem dX12_fit_273 : decode cX12_fit 273 = .ok (.goto (-20), 3) := by decide +kernel
theorem dX12_fit_276 : decode cX12_fit 276 = .ok (.iinc 2 1, 3) := by decide +kernel
theorem dX12_fit_279 : decode cX12_fit 279 = .ok (.goto (-207), 3) := by decide +kernel
theorem dX12_fit_282 : decode cX12_fit 282 = .ok (.aload_n 0, 1) := by decide +kernel
theorem dX12_fit_283 : decode cX12_fit 283 = .ok (.getfield 397, 3) := by decide +kernel
theorem dX12_fit_286 : decode cX12_fit 286 = .ok (.iconst 0, 1) := by decide +kernel
theorem dX12_fit_287 : decode cX12_fit 287 = .ok (.iaload, 1) := by decide +kernel
theorem dX12_fit_288 : decode cX12_fit 288 = .ok (.iconst 1, 1) := by decide +kernel
theorem dX12_fit_289 : decode cX12_fit 289 = .ok (.if_icmp .ne 15, 3) := by decide +kernel
theorem dX12_fit_292 : decode cX12_fit 292 = .ok (.aload_n 0, 1) := by decide +kernel
theorem dX12_fit_293 : decode cX12_fit 293 = .ok (.getfield 397, 3) := by decide +kernel
theorem dX12_fit_296 : decode cX12_fit 296 = .ok (.iconst 1, 1) := by decide +kernel
theorem dX12_fit_297 : decode cX12_fit 297 = .ok (.iaload, 1) := by decide +kernel
theorem dX12_fit_298 : decode cX12_fit 298 = .ok (.ifCond .ne 6, 3) := by decide +kernel
theorem dX12_fit_301 : decode cX12_fit 301 = .ok (.bipush (-2), 2) := by decide +kernel
theorem dX12_fit_303 : decode cX12_fit 303 = .ok (.ireturn, 1) := by decide +kernel
theorem dX12_fit_304 : decode cX12_fit 304 = .ok (.aload_n 0, 1) := by decide +kernel
theorem dX12_fit_305 : decode cX12_fit 305 = .ok (.iconst 0, 1) := by decide +kernel
theorem dX12_fit_306 : decode cX12_fit 306 = .ok (.putfield 11, 3) := by decide +kernel
theorem dX12_fit_309 : decode cX12_fit 309 = .ok (.iconst 0, 1) := by decide +kernel
theorem dX12_fit_310 : decode cX12_fit 310 = .ok (.istore_n 2, 1) := by decide +kernel
theorem dX12_fit_311 : decode cX12_fit 311 = .ok (.iload_n 2, 1) := by decide +kernel
theorem dX12_fit_312 : decode cX12_fit 312 = .ok (.iconst 4, 1) := by decide +kernel
theorem dX12_fit_313 : decode cX12_fit 313 = .ok (.if_icmp .ge 20, 3) := by decide +kernel
theorem dX12_fit_316 : decode cX12_fit 316 = .ok (.aload_n 0, 1) := by decide +kernel
theorem dX12_fit_317 : decode cX12_fit 317 = .ok (.aload_n 0, 1) := by decide +kernel
theorem dX12_fit_318 : decode cX12_fit 318 = .ok (.getfield 422, 3) := by decide +kernel
theorem dX12_fit_321 : decode cX12_fit 321 = .ok (.iload_n 2, 1) := by decide +kernel
theorem dX12_fit_322 : decode cX12_fit 322 = .ok (.iaload, 1) := by decide +kernel
theorem dX12_fit_323 : decode cX12_fit 323 = .ok (.i2l, 1) := by decide +kernel
theorem dX12_fit_324 : decode cX12_fit 324 = .ok (.invokevirtual 18, 3) := by decide +kernel
theorem dX12_fit_327 : decode cX12_fit 327 = .ok (.iinc 2 1, 3) := by decide +kernel
theorem dX12_fit_330 : decode cX12_fit 330 = .ok (.goto (-19), 3) := by decide +kernel
theorem dX12_fit_333 : decode cX12_fit 333 = .ok (.iload_n 1, 1) := by decide +kernel
theorem dX12_fit_334 : decode cX12_fit 334 = .ok (.ireturn, 1) := by decide +kernel
theorem dX12_likelies_0 : decode cX12_likelies 0 = .ok (.iconst 0, 1) := by decide +kernel
theorem dX12_likelies_1 : decode cX12_likelies 1 = .ok (.istore_n 2, 1) := by decide +kernel
theorem dX12_likelies_2 : decode cX12_likelies 2 = .ok (.iload_n 2, 1) := by decide +kernel
theorem dX12_likelies_3 : decode cX12_likelies 3 = .ok (.aload_n 0, 1) := by decide +kernel
theorem dX12_likelies_4 : decode cX12_likelies 4 = .ok (.getfield 33, 3) := by decide +kernel
theorem dX12_likelies_7 : decode cX12_likelies 7 = .ok (.if_icmp .ge 84, 3) := by decide +kernel
theorem dX12_likelies_10 : decode cX12_likelies 10 = .ok (.aload_n 0, 1) := by decide +kernel
theorem dX12_likelies_11 : decode cX12_likelies 11 = .ok (.getfield 425, 3) := by decide +kernel
theorem dX12_likelies_14 : decode cX12_likelies 14 = .ok (.iload_n 2, 1) := by decide +kernel
theorem dX12_likelies_15 : decode cX12_likelies 15 = .ok (.ldc2_w 428, 3) := by decide +kernel
theorem dX12_likelies_18 : decode cX12_likelies 18 = .ok (.lastore, 1) := by decide +kernel
theorem dX12_likelies_19 : decode cX12_likelies 19 = .ok (.aload_n 0, 1) := by decide +kernel
theorem dX12_likelies_20 : decode cX12_likelies 20 = .ok (.iload_n 2, 1) := by decide +kernel
theorem dX12_likelies_21 : decode cX12_likelies 21 = .ok (.invokevirtual 359, 3) := by decide +kernel
theorem dX12_likelies_24 : decode cX12_likelies 24 = .ok (.ifCond .eq 61, 3) := by decide +kernel
theorem dX12_likelies_27 : decode cX12_likelies 27 = .ok (.aload_n 0, 1) := by decide +kernel
theorem dX12_likelies_28 : decode cX12_likelies 28 = .ok (.invokevirtual 385, 3) := by decide +kernel
theorem dX12_likelies_31 : decode cX12_likelies 31 = .ok (.lconst 0, 1) := by decide +kernel
theorem dX12_likelies_32 : decode cX12_likelies 32 = .ok (.lcmp, 1) := by decide +kernel
theorem dX12_likelies_33 : decode cX12_likelies 33 = .ok (.ifCond .ne 6, 3) := by decide +kernel
theorem dX12_likelies_36 : decode cX12_likelies 36 = .ok (.goto 49, 3) := by decide +kernel
theorem dX12_likelies_39 : decode cX12_likelies 39 = .ok (.aload_n 0, 1) := by decide +kernel
theorem dX12_likelies_40 : decode cX12_likelies 40 = .ok (.getfield 425, 3) := by decide +kernel
theorem dX12_likelies_43 : decode cX12_likelies 43 = .ok (.iload_n 2, 1) := by decide +kernel
theorem dX12_likelies_44 : decode cX12_likelies 44 = .ok (.lconst 0, 1) := by decide +kernel
theorem dX12_likelies_45 : decode cX12_likelies 45 = .ok (.lastore, 1) := by decide +kernel
theorem dX12_likelies_46 : decode cX12_likelies 46 = .ok (.iconst 0, 1) := by decide +kernel
theorem dX12_likelies_47 : decode cX12_likelies 47 = .ok (.istore_n 3, 1) := by decide +kernel
theorem dX12_likelies_48 : decode cX12_likelies 48 = .ok (.iload_n 3, 1) := by decide +kernel
theorem dX12_likelies_49 : decode cX12_likelies 49 = .ok (.iconst 4, 1) := by decide +kernel
theorem dX12_likelies_50 : decode cX12_likelies 50 = .ok (.if_icmp .ge 35, 3) := by decide +kernel
theorem dX12_likelies_53 : decode cX12_likelies 53 = .ok (.aload_n 0, 1) := by decide +kernel
theorem dX12_likelies_54 : decode cX12_likelies 54 = .ok (.getfield 425, 3) := by decide +kernel
theorem dX12_likelies_57 : decode cX12_likelies 57 = .ok (.iload_n 2, 1) := by decide +kernel
theorem dX12_likelies_58 : decode cX12_likelies 58 = .ok (.dup2, 1) := by decide +kernel
theorem dX12_likelies_59 : decode cX12_likelies 59 = .ok (.laload, 1) := by decide +kernel
theorem dX12_likelies_60 : decode cX12_likelies 60 = .ok (.iload_n 1, 1) := by decide +kernel
theorem dX12_likelies_61 : decode cX12_likelies 61 = .ok (.iload_n 3, 1) := by decide +kernel
theorem dX12_likelies_62 : decode cX12_likelies 62 = .ok (.invokestatic 322, 3) := by decide +kernel
theorem dX12_likelies_65 : decode cX12_likelies 65 = .ok (.ifCond .eq 11, 3) := by decide +kernel
theorem dX12_likelies_68 : decode cX12_likelies 68 = .ok (.aload_n 0, 1) := by decide +kernel
theorem dX12_likelies_69 : decode cX12_likelies 69 = .ok (.iload_n 3, 1) := by decide +kernel
theorem dX12_likelies_70 : decode cX12_likelies 70 = .ok (.invokevirtual 389, 3) := by decide +kernel
theorem dX12_likelies_73 : decode cX12_likelies 73 = .ok (.goto 4, 3) := by decide +kernel
theorem dX12_likelies_76 : decode cX12_likelies 76 = .ok (.lconst 0, 1) := by decide +kernel
theorem dX12_likelies_77 : decode cX12_likelies 77 = .ok (.ladd, 1) := by decide +kernel
theorem dX12_likelies_78 : decode cX12_likelies 78 = .ok (.lastore, 1) := by decide +kernel
theorem dX12_likelies_79 : decode cX12_likelies 79 = .ok (.iinc 3 1, 3) := by decide +kernel
theorem dX12_likelies_82 : decode cX12_likelies 82 = .ok (.goto (-34), 3) := by decide +kernel
theorem dX12_likelies_85 : decode cX12_likelies 85 = .ok (.iinc 2 1, 3) := by decide +kernel
theorem dX12_likelies_88 : decode cX12_likelies 88 = .ok (.goto (-86), 3) := by decide +kernel
theorem dX12_likelies_91 : decode cX12_likelies 91 = .ok (.return_, 1) := by decide +kernel
theorem dX12_named_0 : decode cX12_named 0 = .ok (.aload_n 0, 1) := by decide +kernel
theorem dX12_named_1 : decode cX12_named 1 = .ok (.iconst 0, 1) := by decide +kernel
theorem dX12_named_2 : decode cX12_named 2 = .ok (.putfield 3, 3) := by decide +kernel
theorem dX12_named_5 : decode cX12_named 5 = .ok (.iload_n 1, 1) := by decide +kernel
theorem dX12_named_6 : decode cX12_named 6 = .ok (.i2l, 1) := by decide +kernel
theorem dX12_named_7 : decode cX12_named 7 = .ok (.lconst 1, 1) := by decide +kernel
theorem dX12_named_8 : decode cX12_named 8 = .ok (.ldc2_w 430, 3) := by decide +kernel
theorem dX12_named_11 : decode cX12_named 11 = .ok (.invokestatic 29, 3) := by decide +kernel
theorem dX12_named_14 : decode cX12_named 14 = .ok (.ifCond .eq 15, 3) := by decide +kernel
theorem dX12_named_17 : decode cX12_named 17 = .ok (.iload_n 2, 1) := by decide +kernel
theorem dX12_named_18 : decode cX12_named 18 = .ok (.i2l, 1) := by decide +kernel
theorem dX12_named_19 : decode cX12_named 19 = .ok (.lconst 0, 1) := by decide +kernel
theorem dX12_named_20 : decode cX12_named 20 = .ok (.ldc2_w 432, 3) := by decide +kernel
theorem dX12_named_23 : decode cX12_named 23 = .ok (.invokestatic 29, 3) := by decide +kernel
theorem dX12_named_26 : decode cX12_named 26 = .ok (.ifCond .ne 5, 3) := by decide +kernel
theorem dX12_named_29 : decode cX12_named 29 = .ok (.iconst (-1), 1) := by decide +kernel
theorem dX12_named_30 : decode cX12_named 30 = .ok (.ireturn, 1) := by decide +kernel
theorem dX12_named_31 : decode cX12_named 31 = .ok (.aload_n 0, 1) := by decide +kernel
theorem dX12_named_32 : decode cX12_named 32 = .ok (.iload_n 1, 1) := by decide +kernel
theorem dX12_named_33 : decode cX12_named 33 = .ok (.invokevirtual 434, 3) := by decide +kernel
theorem dX12_named_36 : decode cX12_named 36 = .ok (.iconst 0, 1) := by decide +kernel
theorem dX12_named_37 : decode cX12_named 37 = .ok (.istore_n 3, 1) := by decide +kernel
theorem dX12_named_38 : decode cX12_named 38 = .ok (.lconst 0, 1) := by decide +kernel
theorem dX12_named_39 : decode cX12_named 39 = .ok (.lstore 4, 2) := by decide +kernel
theorem dX12_named_41 : decode cX12_named 41 = .ok (.lconst 0, 1) := by decide +kernel
theorem dX12_named_42 : decode cX12_named 42 = .ok (.lstore 6, 2) := by decide +kernel
theorem dX12_named_44 : decode cX12_named 44 = .ok (.iconst 0, 1) := by decide +kernel
theorem dX12_named_45 : decode cX12_named 45 = .ok (.istore 8, 2) := by decide +kernel
theorem dX12_named_47 : decode cX12_named 47 = .ok (.iload 8, 2) := by decide +kernel
theorem dX12_named_49 : decode cX12_named 49 = .ok (.aload_n 0, 1) := by decide +kernel
theorem dX12_named_50 : decode cX12_named 50 = .ok (.getfield 33, 3) := by decide +kernel
theorem dX12_named_53 : decode cX12_named 53 = .ok (.if_icmp .ge 106, 3) := by decide +kernel
theorem dX12_named_56 : decode cX12_named 56 = .ok (.aload_n 0, 1) := by decide +kernel
theorem dX12_named_57 : decode cX12_named 57 = .ok (.getfield 425, 3) := by decide +kernel
theorem dX12_named_60 : decode cX12_named 60 = .ok (.iload 8, 2) := by decide +kernel
theorem dX12_named_62 : decode cX12_named 62 = .ok (.laload, 1) := by decide +kernel
theorem dX12_named_63 : decode cX12_named 63 = .ok (.lconst 0, 1) := by decide +kernel
theorem dX12_named_64 : decode cX12_named 64 = .ok (.lcmp, 1) := by decide +kernel
theorem dX12_named_65 : decode cX12_named 65 = .ok (.ifCond .ge 6, 3) := by decide +kernel
theorem dX12_named_68 : decode cX12_named 68 = .ok (.goto 85, 3) := by decide +kernel
theorem dX12_named_71 : decode cX12_named 71 = .ok (.aload_n 0, 1) := by decide +kernel
theorem dX12_named_72 : decode cX12_named 72 = .ok (.getfield 425, 3) := by decide +kernel
theorem dX12_named_75 : decode cX12_named 75 = .ok (.iload 8, 2) := by decide +kernel
theorem dX12_named_77 : decode cX12_named 77 = .ok (.laload, 1) := by decide +kernel
theorem dX12_named_78 : decode cX12_named 78 = .ok (.iload_n 2, 1) := by decide +kernel
theorem dX12_named_79 : decode cX12_named 79 = .ok (.i2l, 1) := by decide +kernel
theorem dX12_named_80 : decode cX12_named 80 = .ok (.lcmp, 1) := by decide +kernel
theorem dX12_named_81 : decode cX12_named 81 = .ok (.ifCond .lt 7, 3) := by decide +kernel
theorem dX12_named_84 : decode cX12_named 84 = .ok (.iconst 1, 1) := by decide +kernel
theorem dX12_named_85 : decode cX12_named 85 = .ok (.goto 4, 3) := by decide +kernel
theorem dX12_named_88 : decode cX12_named 88 = .ok (.iconst 0, 1) := by decide +kernel
theorem dX12_named_89 : decode cX12_named 89 = .ok (.istore 9, 2) := by decide +kernel
theorem dX12_named_91 : decode cX12_named 91 = .ok (.iload_n 3, 1) := by decide +kernel
theorem dX12_named_92 : decode cX12_named 92 = .ok (.iload 9, 2) := by decide +kernel
theorem dX12_named_94 : decode cX12_named 94 = .ok (.ifCond .eq 10, 3) := by decide +kernel
theorem dX12_named_97 : decode cX12_named 97 = .ok (.iconst 1, 1) := by decide +kernel
theorem dX12_named_98 : decode cX12_named 98 = .ok (.iload 8, 2) := by decide +kernel
theorem dX12_named_100 : decode cX12_named 100 = .ok (.ishl, 1) := by decide +kernel
theorem dX12_named_101 : decode cX12_named 101 = .ok (.goto 4, 3) := by decide +kernel
theorem dX12_named_104 : decode cX12_named 104 = .ok (.iconst 0, 1) := by decide +kernel
theorem dX12_named_105 : decode cX12_named 105 = .ok (.ior, 1) := by decide +kernel
theorem dX12_named_106 : decode cX12_named 106 = .ok (.istore_n 3, 1) := by decide +kernel
theorem dX12_named_107 : decode cX12_named 107 = .ok (.lload 4, 2) := by decide +kernel
theorem dX12_named_109 : decode cX12_named 109 = .ok (.iload 9, 2) := by decide +kernel
theorem dX12_named_111 : decode cX12_named 111 = .ok (.ifCond .eq 17, 3) := by decide +kernel
theorem dX12_named_114 : decode cX12_named 114 = .ok (.ldc2_w 432, 3) := by decide +kernel
theorem dX12_named_117 : decode cX12_named 117 = .ok (.aload_n 0, 1) := by decide +kernel
theorem dX12_named_118 : decode cX12_named 118 = .ok (.getfield 425, 3) := by decide +kernel
theorem dX12_named_121 : decode cX12_named 121 = .ok (.iload 8, 2) := by decide +kernel
theorem dX12_named_123 : decode cX12_named 123 = .ok (.laload, 1) := by decide +kernel
theorem dX12_named_124 : decode cX12_named 124 = .ok (.lsub, 1) := by decide +kernel
theorem dX12_named_125 : decode cX12_named 125 = .ok (.goto 4, 3) := by decide +kernel
theorem dX12_named_128 : decode cX12_named 128 = .ok (.lconst 0, 1) := by decide +kernel
theorem dX12_named_129 : decode cX12_named 129 = .ok (.ladd, 1) := by decide +kernel
theorem dX12_named_130 : decode cX12_named 130 = .ok (.lstore 4, 2) := by decide +kernel
theorem dX12_named_132 : decode cX12_named 132 = .ok (.lload 6, 2) := by decide +kernel
theorem dX12_named_134 : decode cX12_named 134 = .ok (.iload 9, 2) := by decide +kernel
theorem dX12_named_136 : decode cX12_named 136 = .ok (.ifCond .eq 7, 3) := by decide +kernel
theorem dX12_named_139 : decode cX12_named 139 = .ok (.lconst 0, 1) := by decide +kernel
theorem dX12_named_140 : decode cX12_named 140 = .ok (.goto 10, 3) := by decide +kernel
theorem dX12_named_143 : decode cX12_named 143 = .ok (.aload_n 0, 1) := by decide +kernel
theorem dX12_named_144 : decode cX12_named 144 = .ok (.getfield 425, 3) := by decide +kernel
theorem dX12_named_147 : decode cX12_named 147 = .ok (.iload 8, 2) := by decide +kernel
theorem dX12_named_149 : decode cX12_named 149 = .ok (.laload, 1) := by decide +kernel
theorem dX12_named_150 : decode cX12_named 150 = .ok (.ladd, 1) := by decide +kernel
theorem dX12_named_151 : decode cX12_named 151 = .ok (.lstore 6, 2) := by decide +kernel
theorem dX12_named_153 : decode cX12_named 153 = .ok (.iinc 8 1, 3) := by decide +kernel
theorem dX12_named_156 : decode cX12_named 156 = .ok (.goto (-109), 3) := by decide +kernel
theorem dX12_named_159 : decode cX12_named 159 = .ok (.aload_n 0, 1) := by decide +kernel
theorem dX12_named_160 : decode cX12_named 160 = .ok (.iconst 0, 1) := by decide +kernel
theorem dX12_named_161 : decode cX12_named 161 = .ok (.putfield 11, 3) := by decide +kernel
theorem dX12_named_164 : decode cX12_named 164 = .ok (.aload_n 0, 1) := by decide +kernel
theorem dX12_named_165 : decode cX12_named 165 = .ok (.iload_n 3, 1) := by decide +kernel
theorem dX12_named_166 : decode cX12_named 166 = .ok (.i2l, 1) := by decide +kernel
theorem dX12_named_167 : decode cX12_named 167 = .ok (.invokevirtual 18, 3) := by decide +kernel
theorem dX12_named_170 : decode cX12_named 170 = .ok (.aload_n 0, 1) := by decide +kernel
theorem dX12_named_171 : decode cX12_named 171 = .ok (.lload 4, 2) := by decide +kernel
theorem dX12_named_173 : decode cX12_named 173 = .ok (.invokevirtual 18, 3) := by decide +kernel
theorem dX12_named_176 : decode cX12_named 176 = .ok (.aload_n 0, 1) := by decide +kernel
theorem dX12_named_177 : decode cX12_named 177 = .ok (.lload 6, 2) := by decide +kernel
theorem dX12_named_179 : decode cX12_named 179 = .ok (.invokevirtual 18, 3) := by decide +kernel
theorem dX12_named_182 : decode cX12_named 182 = .ok (.iload_n 3, 1) := by decide +kernel
theorem dX12_named_183 : decode cX12_named 183 = .ok (.invokestatic 317, 3) := by decide +kernel
theorem dX12_named_186 : decode cX12_named 186 = .ok (.ireturn, 1) := by decide +kernel
theorem dX12_sure_0 : decode cX12_sure 0 = .ok (.aload_n 0, 1) := by decide +kernel
theorem dX12_sure_1 : decode cX12_sure 1 = .ok (.iconst 0, 1) := by decide +kernel
theorem dX12_sure_2 : decode cX12_sure 2 = .ok (.putfield 3, 3) := by decide +kernel
theorem dX12_sure_5 : decode cX12_sure 5 = .ok (.iload_n 1, 1) := by decide +kernel
theorem dX12_sure_6 : decode cX12_sure 6 = .ok (.i2l, 1) := by decide +kernel
theorem dX12_sure_7 : decode cX12_sure 7 = .ok (.lconst 1, 1) := by decide +kernel
theorem dX12_sure_8 : decode cX12_sure 8 = .ok (.ldc2_w 430, 3) := by decide +kernel
theorem dX12_sure_11 : decode cX12_sure 11 = .ok (.invokestatic 29, 3) := by decide +kernel
theorem dX12_sure_14 : decode cX12_sure 14 = .ok (.ifCond .eq 15, 3) := by decide +kernel
theorem dX12_sure_17 : decode cX12_sure 17 = .ok (.iload_n 2, 1) := by decide +kernel
theorem dX12_sure_18 : decode cX12_sure 18 = .ok (.i2l, 1) := by decide +kernel
theorem dX12_sure_19 : decode cX12_sure 19 = .ok (.lconst 0, 1) := by decide +kernel
theorem dX12_sure_20 : decode cX12_sure 20 = .ok (.ldc2_w 437, 3) := by decide +kernel
theorem dX12_sure_23 : decode cX12_sure 23 = .ok (.invokestatic 29, 3) := by decide +kernel
theorem dX12_sure_26 : decode cX12_sure 26 = .ok (.ifCond .ne 5, 3) := by decide +kernel
theorem dX12_sure_29 : decode cX12_sure 29 = .ok (.iconst (-1), 1) := by decide +kernel
theorem dX12_sure_30 : decode cX12_sure 30 = .ok (.ireturn, 1) := by decide +kernel
theorem dX12_sure_31 : decode cX12_sure 31 = .ok (.aload_n 0, 1) := by decide +kernel
theorem dX12_sure_32 : decode cX12_sure 32 = .ok (.iload_n 1, 1) := by decide +kernel
theorem dX12_sure_33 : decode cX12_sure 33 = .ok (.invokevirtual 434, 3) := by decide +kernel
theorem dX12_sure_36 : decode cX12_sure 36 = .ok (.iconst 0, 1) := by decide +kernel
theorem dX12_sure_37 : decode cX12_sure 37 = .ok (.istore_n 3, 1) := by decide +kernel
theorem dX12_sure_38 : decode cX12_sure 38 = .ok (.iload_n 3, 1) := by decide +kernel
theorem dX12_sure_39 : decode cX12_sure 39 = .ok (.ldc_w 384, 3) := by decide +kernel
theorem dX12_sure_42 : decode cX12_sure 42 = .ok (.if_icmp .gt 76, 3) := by decide +kernel
theorem dX12_sure_45 : decode cX12_sure 45 = .ok (.lconst 0, 1) := by decide +kernel
theorem dX12_sure_46 : decode cX12_sure 46 = .ok (.lstore 4, 2) := by decide +kernel
theorem dX12_sure_48 : decode cX12_sure 48 = .ok (.iconst 0, 1) := by decide +kernel
theorem dX12_sure_49 : decode cX12_sure 49 = .ok (.istore 6, 2) := by decide +kernel
theorem dX12_sure_51 : decode cX12_sure 51 = .ok (.iload 6, 2) := by decide +kernel
theorem dX12_sure_53 : decode cX12_sure 53 = .ok (.aload_n 0, 1) := by decide +kernel
theorem dX12_sure_54 : decode cX12_sure 54 = .ok (.getfield 33, 3) := by decide +kernel
theorem dX12_sure_57 : decode cX12_sure 57 = .ok (.if_icmp .ge 42, 3) := by decide +kernel
theorem dX12_sure_60 : decode cX12_sure 60 = .ok (.lload 4, 2) := by decide +kernel
theorem dX12_sure_62 : decode cX12_sure 62 = .ok (.aload_n 0, 1) := by decide +kernel
theorem dX12_sure_63 : decode cX12_sure 63 = .ok (.getfield 425, 3) := by decide +kernel
theorem dX12_sure_66 : decode cX12_sure 66 = .ok (.iload 6, 2) := by decide +kernel
theorem dX12_sure_68 : decode cX12_sure 68 = .ok (.laload, 1) := by decide +kernel
theorem dX12_sure_69 : decode cX12_sure 69 = .ok (.iload_n 3, 1) := by decide +kernel
theorem dX12_sure_70 : decode cX12_sure 70 = .ok (.i2l, 1) := by decide +kernel
theorem dX12_sure_71 : decode cX12_sure 71 = .ok (.lcmp, 1) := by decide +kernel
theorem dX12_sure_72 : decode cX12_sure 72 = .ok (.ifCond .lt 17, 3) := by decide +kernel
theorem dX12_sure_75 : decode cX12_sure 75 = .ok (.ldc2_w 432, 3) := by decide +kernel
theorem dX12_sure_78 : decode cX12_sure 78 = .ok (.aload_n 0, 1) := by decide +kernel
theorem dX12_sure_79 : decode cX12_sure 79 = .ok (.getfield 425, 3) := by decide +kernel
theorem dX12_sure_82 : decode cX12_sure 82 = .ok (.iload 6, 2) := by decide +kernel
theorem dX12_sure_84 : decode cX12_sure 84 = .ok (.laload, 1) := by decide +kernel
theorem dX12_sure_85 : decode cX12_sure 85 = .ok (.lsub, 1) := by decide +kernel
theorem dX12_sure_86 : decode cX12_sure 86 = .ok (.goto 4, 3) := by decide +kernel
theorem dX12_sure_89 : decode cX12_sure 89 = .ok (.lconst 0, 1) := by decide +kernel
theorem dX12_sure_90 : decode cX12_sure 90 = .ok (.ladd, 1) := by decide +kernel
theorem dX12_sure_91 : decode cX12_sure 91 = .ok (.lstore 4, 2) := by decide +kernel
theorem dX12_sure_93 : decode cX12_sure 93 = .ok (.iinc 6 1, 3) := by decide +kernel
theorem dX12_sure_96 : decode cX12_sure 96 = .ok (.goto (-45), 3) := by decide +kernel
theorem dX12_sure_99 : decode cX12_sure 99 = .ok (.lload 4, 2) := by decide +kernel
theorem dX12_sure_101 : decode cX12_sure 101 = .ok (.iload_n 2, 1) := by decide +kernel
theorem dX12_sure_102 : decode cX12_sure 102 = .ok (.i2l, 1) := by decide +kernel
theorem dX12_sure_103 : decode cX12_sure 103 = .ok (.lcmp, 1) := by decide +kernel
theorem dX12_sure_104 : decode cX12_sure 104 = .ok (.ifCond .gt 5, 3) := by decide +kernel
theorem dX12_sure_107 : decode cX12_sure 107 = .ok (.iload_n 3, 1) := by decide +kernel
theorem dX12_sure_108 : decode cX12_sure 108 = .ok (.ireturn, 1) := by decide +kernel
theorem dX12_sure_109 : decode cX12_sure 109 = .ok (.iinc 3 1000, 6) := by decide +kernel
theorem dX12_sure_115 : decode cX12_sure 115 = .ok (.goto (-77), 3) := by decide +kernel
theorem dX12_sure_118 : decode cX12_sure 118 = .ok (.bipush (-2), 2) := by decide +kernel
theorem dX12_sure_120 : decode cX12_sure 120 = .ok (.ireturn, 1) := by decide +kernel
theorem dX12_most_0 : decode cX12_most 0 = .ok (.aload_n 0, 1) := by decide +kernel
theorem dX12_most_1 : decode cX12_most 1 = .ok (.iconst 0, 1) := by decide +kernel
theorem dX12_most_2 : decode cX12_most 2 = .ok (.putfield 3, 3) := by decide +kernel
theorem dX12_most_5 : decode cX12_most 5 = .ok (.iconst 0, 1) := by decide +kernel
theorem dX12_most_6 : decode cX12_most 6 = .ok (.istore_n 1, 1) := by decide +kernel
theorem dX12_most_7 : decode cX12_most 7 = .ok (.iconst 0, 1) := by decide +kernel
theorem dX12_most_8 : decode cX12_most 8 = .ok (.istore_n 2, 1) := by decide +kernel
theorem dX12_most_9 : decode cX12_most 9 = .ok (.aload_n 0, 1) := by decide +kernel
theorem dX12_most_10 : decode cX12_most 10 = .ok (.getfield 439, 3) := by decide +kernel
theorem dX12_most_13 : decode cX12_most 13 = .ok (.astore_n 3, 1) := by decide +kernel
theorem dX12_most_14 : decode cX12_most 14 = .ok (.iconst 0, 1) := by decide +kernel
theorem dX12_most_15 : decode cX12_most 15 = .ok (.istore 4, 2) := by decide +kernel
theorem dX12_most_17 : decode cX12_most 17 = .ok (.iload 4, 2) := by decide +kernel
theorem dX12_most_19 : decode cX12_most 19 = .ok (.aload_n 0, 1) := by decide +kernel
theorem dX12_most_20 : decode cX12_most 20 = .ok (.getfield 33, 3) := by decide +kernel
theorem dX12_most_23 : decode cX12_most 23 = .ok (.if_icmp .ge 62, 3) := by decide +kernel
theorem dX12_most_26 : decode cX12_most 26 = .ok (.aload_n 0, 1) := by decide +kernel
theorem dX12_most_27 : decode cX12_most 27 = .ok (.iload 4, 2) := by decide +kernel
theorem dX12_most_29 : decode cX12_most 29 = .ok (.invokevirtual 359, 3) := by decide +kernel
theorem dX12_most_32 : decode cX12_most 32 = .ok (.pop, 1) := by decide +kernel
theorem dX12_most_33 : decode cX12_most 33 = .ok (.aload_n 3, 1) := by decide +kernel
theorem dX12_most_34 : decode cX12_most 34 = .ok (.iload 4, 2) := by decide +kernel
theorem dX12_most_36 : decode cX12_most 36 = .ok (.iconst 0, 1) := by decide +kernel
theorem dX12_most_37 : decode cX12_most 37 = .ok (.aload_n 0, 1) := by decide +kernel
theorem dX12_most_38 : decode cX12_most 38 = .ok (.getfield 354, 3) := by decide +kernel
theorem dX12_most_41 : decode cX12_most 41 = .ok (.iconst 0, 1) := by decide +kernel
theorem dX12_most_42 : decode cX12_most 42 = .ok (.iaload, 1) := by decide +kernel
theorem dX12_most_43 : decode cX12_most 43 = .ok (.aload_n 0, 1) := by decide +kernel
theorem dX12_most_44 : decode cX12_most 44 = .ok (.getfield 354, 3) := by decide +kernel
theorem dX12_most_47 : decode cX12_most 47 = .ok (.iconst 1, 1) := by decide +kernel
theorem dX12_most_48 : decode cX12_most 48 = .ok (.iaload, 1) := by decide +kernel
theorem dX12_most_49 : decode cX12_most 49 = .ok (.isub, 1) := by decide +kernel
theorem dX12_most_50 : decode cX12_most 50 = .ok (.invokestatic 238, 3) := by decide +kernel
theorem dX12_most_53 : decode cX12_most 53 = .ok (.iastore, 1) := by decide +kernel
theorem dX12_most_54 : decode cX12_most 54 = .ok (.iload_n 1, 1) := by decide +kernel
theorem dX12_most_55 : decode cX12_most 55 = .ok (.aload_n 3, 1) := by decide +kernel
theorem dX12_most_56 : decode cX12_most 56 = .ok (.iload 4, 2) := by decide +kernel
theorem dX12_most_58 : decode cX12_most 58 = .ok (.iaload, 1) := by decide +kernel
theorem dX12_most_59 : decode cX12_most 59 = .ok (.iadd, 1) := by decide +kernel
theorem dX12_most_60 : decode cX12_most 60 = .ok (.istore_n 1, 1) := by decide +kernel
theorem dX12_most_61 : decode cX12_most 61 = .ok (.iload_n 2, 1) := by decide +kernel
theorem dX12_most_62 : decode cX12_most 62 = .ok (.aload_n 3, 1) := by decide +kernel
theorem dX12_most_63 : decode cX12_most 63 = .ok (.iload 4, 2) := by decide +kernel
theorem dX12_most_65 : decode cX12_most 65 = .ok (.iaload, 1) := by decide +kernel
theorem dX12_most_66 : decode cX12_most 66 = .ok (.ifCond .le 7, 3) := by decide +kernel
theorem dX12_most_69 : decode cX12_most 69 = .ok (.iconst 1, 1) := by decide +kernel
theorem dX12_most_70 : decode cX12_most 70 = .ok (.goto 4, 3) := by decide +kernel
theorem dX12_most_73 : decode cX12_most 73 = .ok (.iconst 0, 1) := by decide +kernel
theorem dX12_most_74 : decode cX12_most 74 = .ok (.invokestatic 70, 3) := by decide +kernel
theorem dX12_most_77 : decode cX12_most 77 = .ok (.iadd, 1) := by decide +kernel
theorem dX12_most_78 : decode cX12_most 78 = .ok (.istore_n 2, 1) := by decide +kernel
theorem dX12_most_79 : decode cX12_most 79 = .ok (.iinc 4 1, 3) := by decide +kernel
theorem dX12_most_82 : decode cX12_most 82 = .ok (.goto (-65), 3) := by decide +kernel
theorem dX12_most_85 : decode cX12_most 85 = .ok (.iconst 0, 1) := by decide +kernel
theorem dX12_most_86 : decode cX12_most 86 = .ok (.istore 4, 2) := by decide +kernel
theorem dX12_most_88 : decode cX12_most 88 = .ok (.iconst 0, 1) := by decide +kernel
theorem dX12_most_89 : decode cX12_most 89 = .ok (.istore 5, 2) := by decide +kernel
theorem dX12_most_91 : decode cX12_most 91 = .ok (.iconst 2, 1) := by decide +kernel
theorem dX12_most_92 : decode cX12_most 92 = .ok (.iload 5, 2) := by decide +kernel
theorem dX12_most_94 : decode cX12_most 94 = .ok (.imul, 1) := by decide +kernel
theorem dX12_most_95 : decode cX12_most 95 = .ok (.iload_n 1, 1) := by decide +kernel
theorem dX12_most_96 : decode cX12_most 96 = .ok (.if_icmp .ge 64, 3) := by decide +kernel
theorem dX12_most_99 : decode cX12_most 99 = .ok (.iconst 0, 1) := by decide +kernel
theorem dX12_most_100 : decode cX12_most 100 = .ok (.istore 6, 2) := by decide +kernel
theorem dX12_most_102 : decode cX12_most 102 = .ok (.iconst 1, 1) := by decide +kernel
theorem dX12_most_103 : decode cX12_most 103 = .ok (.istore 7, 2) := by decide +kernel
theorem dX12_most_105 : decode cX12_most 105 = .ok (.iload 7, 2) := by decide +kernel
theorem dX12_most_107 : decode cX12_most 107 = .ok (.aload_n 0, 1) := by decide +kernel
theorem dX12_most_108 : decode cX12_most 108 = .ok (.getfield 33, 3) := by decide +kernel
theorem dX12_most_111 : decode cX12_most 111 = .ok (.if_icmp .ge 29, 3) := by decide +kernel
theorem dX12_most_114 : decode cX12_most 114 = .ok (.aload_n 3, 1) := by decide +kernel
theorem dX12_most_115 : decode cX12_most 115 = .ok (.iload 7, 2) := by decide +kernel
theorem dX12_most_117 : decode cX12_most 117 = .ok (.iaload, 1) := by decide +kernel
theorem dX12_most_118 : decode cX12_most 118 = .ok (.aload_n 3, 1) := by decide +kernel
theorem dX12_most_119 : decode cX12_most 119 = .ok (.iload 6, 2) := by decide +kernel
theorem dX12_most_121 : decode cX12_most 121 = .ok (.iaload, 1) := by decide +kernel
theorem dX12_most_122 : decode cX12_most 122 = .ok (.if_icmp .le 8, 3) := by decide +kernel
theorem dX12_most_125 : decode cX12_most 125 = .ok (.iload 7, 2) := by decide +kernel
theorem dX12_most_127 : decode cX12_most 127 = .ok (.goto 5, 3) := by decide +kernel
theorem dX12_most_130 : decode cX12_most 130 = .ok (.iload 6, 2) := by decide +kernel
theorem dX12_most_132 : decode cX12_most 132 = .ok (.istore 6, 2) := by decide +kernel
theorem dX12_most_134 : decode cX12_most 134 = .ok (.iinc 7 1, 3) := by decide +kernel
theorem dX12_most_137 : decode cX12_most 137 = .ok (.goto (-32), 3) := by decide +kernel
theorem dX12_most_140 : decode cX12_most 140 = .ok (.iload 5, 2) := by decide +kernel
theorem dX12_most_142 : decode cX12_most 142 = .ok (.aload_n 3, 1) := by decide +kernel
theorem dX12_most_143 : decode cX12_most 143 = .ok (.iload 6, 2) := by decide +kernel
theorem dX12_most_145 : decode cX12_most 145 = .ok (.iaload, 1) := by decide +kernel
theorem dX12_most_146 : decode cX12_most 146 = .ok (.iadd, 1) := by decide +kernel
theorem dX12_most_147 : decode cX12_most 147 = .ok (.istore 5, 2) := by decide +kernel
theorem dX12_most_149 : decode cX12_most 149 = .ok (.aload_n 3, 1) := by decide +kernel
theorem dX12_most_150 : decode cX12_most 150 = .ok (.iload 6, 2) := by decide +kernel
theorem dX12_most_152 : decode cX12_most 152 = .ok (.iconst 0, 1) := by decide +kernel
theorem dX12_most_153 : decode cX12_most 153 = .ok (.iastore, 1) := by decide +kernel
theorem dX12_most_154 : decode cX12_most 154 = .ok (.iinc 4 1, 3) := by decide +kernel
theorem dX12_most_157 : decode cX12_most 157 = .ok (.goto (-66), 3) := by decide +kernel
theorem dX12_most_160 : decode cX12_most 160 = .ok (.aload_n 0, 1) := by decide +kernel
theorem dX12_most_161 : decode cX12_most 161 = .ok (.iconst 0, 1) := by decide +kernel
theorem dX12_most_162 : decode cX12_most 162 = .ok (.putfield 11, 3) := by decide +kernel
theorem dX12_most_165 : decode cX12_most 165 = .ok (.aload_n 0, 1) := by decide +kernel
theorem dX12_most_166 : decode cX12_most 166 = .ok (.iload_n 2, 1) := by decide +kernel
theorem dX12_most_167 : decode cX12_most 167 = .ok (.i2l, 1) := by decide +kernel
theorem dX12_most_168 : decode cX12_most 168 = .ok (.invokevirtual 18, 3) := by decide +kernel
theorem dX12_most_171 : decode cX12_most 171 = .ok (.aload_n 0, 1) := by decide +kernel
theorem dX12_most_172 : decode cX12_most 172 = .ok (.iload_n 1, 1) := by decide +kernel
theorem dX12_most_173 : decode cX12_most 173 = .ok (.i2l, 1) := by decide +kernel
theorem dX12_most_174 : decode cX12_most 174 = .ok (.invokevirtual 18, 3) := by decide +kernel
theorem dX12_most_177 : decode cX12_most 177 = .ok (.iload 4, 2) := by decide +kernel
theorem dX12_most_179 : decode cX12_most 179 = .ok (.ireturn, 1) := by decide +kernel
theorem dX12_both_0 : decode cX12_both 0 = .ok (.aload_n 0, 1) := by decide +kernel
theorem dX12_both_1 : decode cX12_both 1 = .ok (.iconst 0, 1) := by decide +kernel
theorem dX12_both_2 : decode cX12_both 2 = .ok (.putfield 3, 3) := by decide +kernel
theorem dX12_both_5 : decode cX12_both 5 = .ok (.iload_n 1, 1) := by decide +kernel
theorem dX12_both_6 : decode cX12_both 6 = .ok (.i2l, 1) := by decide +kernel
theorem dX12_both_7 : decode cX12_both 7 = .ok (.lconst 1, 1) := by decide +kernel
theorem dX12_both_8 : decode cX12_both 8 = .ok (.ldc2_w 106, 3) := by decide +kernel
theorem dX12_both_11 : decode cX12_both 11 = .ok (.invokestatic 29, 3) := by decide +kernel
theorem dX12_both_14 : decode cX12_both 14 = .ok (.ifCond .ne 5, 3) := by decide +kernel
theorem dX12_both_17 : decode cX12_both 17 = .ok (.iconst (-1), 1) := by decide +kernel
theorem dX12_both_18 : decode cX12_both 18 = .ok (.ireturn, 1) := by decide +kernel
theorem dX12_both_19 : decode cX12_both 19 = .ok (.aload_n 0, 1) := by decide +kernel
theorem dX12_both_20 : decode cX12_both 20 = .ok (.getfield 442, 3) := by decide +kernel
theorem dX12_both_23 : decode cX12_both 23 = .ok (.astore_n 2, 1) := by decide +kernel
theorem dX12_both_24 : decode cX12_both 24 = .ok (.aload_n 0, 1) := by decide +kernel
theorem dX12_both_25 : decode cX12_both 25 = .ok (.getfield 445, 3) := by decide +kernel
theorem dX12_both_28 : decode cX12_both 28 = .ok (.astore_n 3, 1) := by decide +kernel
theorem dX12_both_29 : decode cX12_both 29 = .ok (.iconst 0, 1) := by decide +kernel
theorem dX12_both_30 : decode cX12_both 30 = .ok (.istore 4, 2) := by decide +kernel
theorem dX12_both_32 : decode cX12_both 32 = .ok (.iload 4, 2) := by decide +kernel
theorem dX12_both_34 : decode cX12_both 34 = .ok (.iconst 4, 1) := by decide +kernel
theorem dX12_both_35 : decode cX12_both 35 = .ok (.if_icmp .ge 19, 3) := by decide +kernel
theorem dX12_both_38 : decode cX12_both 38 = .ok (.aload_n 2, 1) := by decide +kernel
theorem dX12_both_39 : decode cX12_both 39 = .ok (.iload 4, 2) := by decide +kernel
theorem dX12_both_41 : decode cX12_both 41 = .ok (.iconst 0, 1) := by decide +kernel
theorem dX12_both_42 : decode cX12_both 42 = .ok (.iastore, 1) := by decide +kernel
theorem dX12_both_43 : decode cX12_both 43 = .ok (.aload_n 3, 1) := by decide +kernel
theorem dX12_both_44 : decode cX12_both 44 = .ok (.iload 4, 2) := by decide +kernel
theorem dX12_both_46 : decode cX12_both 46 = .ok (.iconst 0, 1) := by decide +kernel
theorem dX12_both_47 : decode cX12_both 47 = .ok (.iastore, 1) := by decide +kernel
theorem dX12_both_48 : decode cX12_both 48 = .ok (.iinc 4 1, 3) := by decide +kernel
theorem dX12_both_51 : decode cX12_both 51 = .ok (.goto (-19), 3) := by decide +kernel
theorem dX12_both_54 : decode cX12_both 54 = .ok (.iconst 0, 1) := by decide +kernel
theorem dX12_both_55 : decode cX12_both 55 = .ok (.istore 4, 2) := by decide +kernel
theorem dX12_both_57 : decode cX12_both 57 = .ok (.iload 4, 2) := by decide +kernel
theorem dX12_both_59 : decode cX12_both 59 = .ok (.aload_n 0, 1) := by decide +kernel
theorem dX12_both_60 : decode cX12_both 60 = .ok (.getfield 36, 3) := by decide +kernel
theorem dX12_both_63 : decode cX12_both 63 = .ok (.if_icmp .ge 74, 3) := by decide +kernel
theorem dX12_both_66 : decode cX12_both 66 = .ok (.aload_n 0, 1) := by decide +kernel
theorem dX12_both_67 : decode cX12_both 67 = .ok (.getfield 89, 3) := by decide +kernel
theorem dX12_both_70 : decode cX12_both 70 = .ok (.iload 4, 2) := by decide +kernel
theorem dX12_both_72 : decode cX12_both 72 = .ok (.baload, 1) := by decide +kernel
theorem dX12_both_73 : decode cX12_both 73 = .ok (.ifCond .eq 58, 3) := by decide +kernel
theorem dX12_both_76 : decode cX12_both 76 = .ok (.iconst 2, 1) := by decide +kernel
theorem dX12_both_77 : decode cX12_both 77 = .ok (.aload_n 0, 1) := by decide +kernel
theorem dX12_both_78 : decode cX12_both 78 = .ok (.iload 4, 2) := by decide +kernel
theorem dX12_both_80 : decode cX12_both 80 = .ok (.invokevirtual 273, 3) := by decide +kernel
theorem dX12_both_83 : decode cX12_both 83 = .ok (.imul, 1) := by decide +kernel
theorem dX12_both_84 : decode cX12_both 84 = .ok (.aload_n 0, 1) := by decide +kernel
theorem dX12_both_85 : decode cX12_both 85 = .ok (.getfield 77, 3) := by decide +kernel
theorem dX12_both_88 : decode cX12_both 88 = .ok (.iload 4, 2) := by decide +kernel
theorem dX12_both_90 : decode cX12_both 90 = .ok (.iaload, 1) := by decide +kernel
theorem dX12_both_91 : decode cX12_both 91 = .ok (.iload_n 1, 1) := by decide +kernel
theorem dX12_both_92 : decode cX12_both 92 = .ok (.if_icmp .ge 7, 3) := by decide +kernel
theorem dX12_both_95 : decode cX12_both 95 = .ok (.iconst 1, 1) := by decide +kernel
theorem dX12_both_96 : decode cX12_both 96 = .ok (.goto 4, 3) := by decide +kernel
theorem dX12_both_99 : decode cX12_both 99 = .ok (.iconst 0, 1) := by decide +kernel
theorem dX12_both_100 : decode cX12_both 100 = .ok (.invokestatic 70, 3) := by decide +kernel
theorem dX12_both_103 : decode cX12_both 103 = .ok (.iadd, 1) := by decide +kernel
theorem dX12_both_104 : decode cX12_both 104 = .ok (.istore 5, 2) := by decide +kernel
theorem dX12_both_106 : decode cX12_both 106 = .ok (.aload_n 2, 1) := by decide +kernel
theorem dX12_both_107 : decode cX12_both 107 = .ok (.iload 5, 2) := by decide +kernel
theorem dX12_both_109 : decode cX12_both 109 = .ok (.dup2, 1) := by decide +kernel
theorem dX12_both_110 : decode cX12_both 110 = .ok (.iaload, 1) := by decide +kernel
theorem dX12_both_111 : decode cX12_both 111 = .ok (.iconst 1, 1) := by decide +kernel
theorem dX12_both_112 : decode cX12_both 112 = .ok (.iadd, 1) := by decide +kernel
theorem dX12_both_113 : decode cX12_both 113 = .ok (.iastore, 1) := by decide +kernel
theorem dX12_both_114 : decode cX12_both 114 = .ok (.aload_n 3, 1) := by decide +kernel
theorem dX12_both_115 : decode cX12_both 115 = .ok (.iload 5, 2) := by decide +kernel
theorem dX12_both_117 : decode cX12_both 117 = .ok (.dup2, 1) := by decide +kernel
theorem dX12_both_118 : decode cX12_both 118 = .ok (.iaload, 1) := by decide +kernel
theorem dX12_both_119 : decode cX12_both 119 = .ok (.aload_n 0, 1) := by decide +kernel
theorem dX12_both_120 : decode cX12_both 120 = .ok (.getfield 93, 3) := by decide +kernel
theorem dX12_both_123 : decode cX12_both 123 = .ok (.iload 4, 2) := by decide +kernel
theorem dX12_both_125 : decode cX12_both 125 = .ok (.baload, 1) := by decide +kernel
theorem dX12_both_126 : decode cX12_both 126 = .ok (.invokestatic 70, 3) := by decide +kernel
theorem dX12_both_129 : decode cX12_both 129 = .ok (.iadd, 1) := by decide +kernel
theorem dX12_both_130 : decode cX12_both 130 = .ok (.iastore, 1) := by decide +kernel
theorem dX12_both_131 : decode cX12_both 131 = .ok (.iinc 4 1, 3) := by decide +kernel
theorem dX12_both_134 : decode cX12_both 134 = .ok (.goto (-77), 3) := by decide +kernel
theorem dX12_both_137 : decode cX12_both 137 = .ok (.iconst 0, 1) := by decide +kernel
theorem dX12_both_138 : decode cX12_both 138 = .ok (.istore 4, 2) := by decide +kernel
theorem dX12_both_140 : decode cX12_both 140 = .ok (.iload 4, 2) := by decide +kernel
theorem dX12_both_142 : decode cX12_both 142 = .ok (.iconst 4, 1) := by decide +kernel
theorem dX12_both_143 : decode cX12_both 143 = .ok (.if_icmp .ge 19, 3) := by decide +kernel
theorem dX12_both_146 : decode cX12_both 146 = .ok (.aload_n 2, 1) := by decide +kernel
theorem dX12_both_147 : decode cX12_both 147 = .ok (.iload 4, 2) := by decide +kernel
theorem dX12_both_149 : decode cX12_both 149 = .ok (.iaload, 1) := by decide +kernel
theorem dX12_both_150 : decode cX12_both 150 = .ok (.ifCond .ne 6, 3) := by decide +kernel
theorem dX12_both_153 : decode cX12_both 153 = .ok (.bipush (-2), 2) := by decide +kernel
theorem dX12_both_155 : decode cX12_both 155 = .ok (.ireturn, 1) := by decide +kernel
theorem dX12_both_156 : decode cX12_both 156 = .ok (.iinc 4 1, 3) := by decide +kernel
theorem dX12_both_159 : decode cX12_both 159 = .ok (.goto (-19), 3) := by decide +kernel
theorem dX12_both_162 : decode cX12_both 162 = .ok (.aload_n 3, 1) := by decide +kernel
theorem dX12_both_163 : decode cX12_both 163 = .ok (.iconst 0, 1) := by decide +kernel
theorem dX12_both_164 : decode cX12_both 164 = .ok (.iaload, 1) := by decide +kernel
theorem dX12_both_165 : decode cX12_both 165 = .ok (.i2l, 1) := by decide +kernel
theorem dX12_both_166 : decode cX12_both 166 = .ok (.aload_n 2, 1) := by decide +kernel
theorem dX12_both_167 : decode cX12_both 167 = .ok (.iconst 1, 1) := by decide +kernel
theorem dX12_both_168 : decode cX12_both 168 = .ok (.iaload, 1) := by decide +kernel
theorem dX12_both_169 : decode cX12_both 169 = .ok (.i2l, 1) := by decide +kernel
theorem dX12_both_170 : decode cX12_both 170 = .ok (.lmul, 1) := by decide +kernel
theorem dX12_both_171 : decode cX12_both 171 = .ok (.aload_n 3, 1) := by decide +kernel
theorem dX12_both_172 : decode cX12_both 172 = .ok (.iconst 1, 1) := by decide +kernel
theorem dX12_both_173 : decode cX12_both 173 = .ok (.iaload, 1) := by decide +kernel
theorem dX12_both_174 : decode cX12_both 174 = .ok (.i2l, 1) := by decide +kernel
theorem dX12_both_175 : decode cX12_both 175 = .ok (.aload_n 2, 1) := by decide +kernel
theorem dX12_both_176 : decode cX12_both 176 = .ok (.iconst 0, 1) := by decide +kernel
theorem dX12_both_177 : decode cX12_both 177 = .ok (.iaload, 1) := by decide +kernel
theorem dX12_both_178 : decode cX12_both 178 = .ok (.i2l, 1) := by decide +kernel
theorem dX12_both_179 : decode cX12_both 179 = .ok (.lmul, 1) := by decide +kernel
theorem dX12_both_180 : decode cX12_both 180 = .ok (.lsub, 1) := by decide +kernel
theorem dX12_both_181 : decode cX12_both 181 = .ok (.lstore 4, 2) := by decide +kernel
theorem dX12_both_183 : decode cX12_both 183 = .ok (.aload_n 2, 1) := by decide +kernel
theorem dX12_both_184 : decode cX12_both 184 = .ok (.iconst 0, 1) := by decide +kernel
theorem dX12_both_185 : decode cX12_both 185 = .ok (.iaload, 1) := by decide +kernel
theorem dX12_both_186 : decode cX12_both 186 = .ok (.i2l, 1) := by decide +kernel
theorem dX12_both_187 : decode cX12_both 187 = .ok (.aload_n 2, 1) := by decide +kernel
theorem dX12_both_188 : decode cX12_both 188 = .ok (.iconst 1, 1) := by decide +kernel
theorem dX12_both_189 : decode cX12_both 189 = .ok (.iaload, 1) := by decide +kernel
theorem dX12_both_190 : decode cX12_both 190 = .ok (.i2l, 1) := by decide +kernel
theorem dX12_both_191 : decode cX12_both 191 = .ok (.lmul, 1) := by decide +kernel
theorem dX12_both_192 : decode cX12_both 192 = .ok (.lstore 6, 2) := by decide +kernel
theorem dX12_both_194 : decode cX12_both 194 = .ok (.aload_n 3, 1) := by decide +kernel
theorem dX12_both_195 : decode cX12_both 195 = .ok (.iconst 2, 1) := by decide +kernel
theorem dX12_both_196 : decode cX12_both 196 = .ok (.iaload, 1) := by decide +kernel
theorem dX12_both_197 : decode cX12_both 197 = .ok (.i2l, 1) := by decide +kernel
theorem dX12_both_198 : decode cX12_both 198 = .ok (.aload_n 2, 1) := by decide +kernel
theorem dX12_both_199 : decode cX12_both 199 = .ok (.iconst 3, 1) := by decide +kernel
theorem dX12_both_200 : decode cX12_both 200 = .ok (.iaload, 1) := by decide +kernel
theorem dX12_both_201 : decode cX12_both 201 = .ok (.i2l, 1) := by decide +kernel
theorem dX12_both_202 : decode cX12_both 202 = .ok (.lmul, 1) := by decide +kernel
theorem dX12_both_203 : decode cX12_both 203 = .ok (.aload_n 3, 1) := by decide +kernel
theorem dX12_both_204 : decode cX12_both 204 = .ok (.iconst 3, 1) := by decide +kernel
theorem dX12_both_205 : decode cX12_both 205 = .ok (.iaload, 1) := by decide +kernel
theorem dX12_both_206 : decode cX12_both 206 = .ok (.i2l, 1) := by decide +kernel
theorem dX12_both_207 : decode cX12_both 207 = .ok (.aload_n 2, 1) := by decide +kernel
theorem dX12_both_208 : decode cX12_both 208 = .ok (.iconst 2, 1) := by decide +kernel
theorem dX12_both_209 : decode cX12_both 209 = .ok (.iaload, 1) := by decide +kernel
theorem dX12_both_210 : decode cX12_both 210 = .ok (.i2l, 1) := by decide +kernel
theorem dX12_both_211 : decode cX12_both 211 = .ok (.lmul, 1) := by decide +kernel
theorem dX12_both_212 : decode cX12_both 212 = .ok (.lsub, 1) := by decide +kernel
theorem dX12_both_213 : decode cX12_both 213 = .ok (.lstore 8, 2) := by decide +kernel
theorem dX12_both_215 : decode cX12_both 215 = .ok (.aload_n 2, 1) := by decide +kernel
theorem dX12_both_216 : decode cX12_both 216 = .ok (.iconst 2, 1) := by decide +kernel
theorem dX12_both_217 : decode cX12_both 217 = .ok (.iaload, 1) := by decide +kernel
theorem dX12_both_218 : decode cX12_both 218 = .ok (.i2l, 1) := by decide +kernel
theorem dX12_both_219 : decode cX12_both 219 = .ok (.aload_n 2, 1) := by decide +kernel
theorem dX12_both_220 : decode cX12_both 220 = .ok (.iconst 3, 1) := by decide +kernel
theorem dX12_both_221 : decode cX12_both 221 = .ok (.iaload, 1) := by decide +kernel
theorem dX12_both_222 : decode cX12_both 222 = .ok (.i2l, 1) := by decide +kernel
theorem dX12_both_223 : decode cX12_both 223 = .ok (.lmul, 1) := by decide +kernel
theorem dX12_both_224 : decode cX12_both 224 = .ok (.lstore 10, 2) := by decide +kernel
theorem dX12_both_226 : decode cX12_both 226 = .ok (.lload 4, 2) := by decide +kernel
theorem dX12_both_228 : decode cX12_both 228 = .ok (.lload 10, 2) := by decide +kernel
theorem dX12_both_230 : decode cX12_both 230 = .ok (.lmul, 1) := by decide +kernel
theorem dX12_both_231 : decode cX12_both 231 = .ok (.lload 8, 2) := by decide +kernel
theorem dX12_both_233 : decode cX12_both 233 = .ok (.lload 6, 2) := by decide +kernel
theorem dX12_both_235 : decode cX12_both 235 = .ok (.lmul, 1) := by decide +kernel
theorem dX12_both_236 : decode cX12_both 236 = .ok (.lsub, 1) := by decide +kernel
theorem dX12_both_237 : decode cX12_both 237 = .ok (.lstore 12, 2) := by decide +kernel
theorem dX12_both_239 : decode cX12_both 239 = .ok (.aload_n 0, 1) := by decide +kernel
theorem dX12_both_240 : decode cX12_both 240 = .ok (.iconst 0, 1) := by decide +kernel
theorem dX12_both_241 : decode cX12_both 241 = .ok (.putfield 11, 3) := by decide +kernel
theorem dX12_both_244 : decode cX12_both 244 = .ok (.iconst 0, 1) := by decide +kernel
theorem dX12_both_245 : decode cX12_both 245 = .ok (.istore 14, 2) := by decide +kernel
theorem dX12_both_247 : decode cX12_both 247 = .ok (.iload 14, 2) := by decide +kernel
theorem dX12_both_249 : decode cX12_both 249 = .ok (.iconst 4, 1) := by decide +kernel
theorem dX12_both_250 : decode cX12_both 250 = .ok (.if_icmp .ge 27, 3) := by decide +kernel
theorem dX12_both_253 : decode cX12_both 253 = .ok (.aload_n 0, 1) := by decide +kernel
theorem dX12_both_254 : decode cX12_both 254 = .ok (.aload_n 3, 1) := by decide +kernel
theorem dX12_both_255 : decode cX12_both 255 = .ok (.iload 14, 2) := by decide +kernel
theorem dX12_both_257 : decode cX12_both 257 = .ok (.iaload, 1) := by decide +kernel
theorem dX12_both_258 : decode cX12_both 258 = .ok (.i2l, 1) := by decide +kernel
theorem dX12_both_259 : decode cX12_both 259 = .ok (.invokevirtual 18, 3) := by decide +kernel
theorem dX12_both_262 : decode cX12_both 262 = .ok (.aload_n 0, 1) := by decide +kernel
theorem dX12_both_263 : decode cX12_both 263 = .ok (.aload_n 2, 1) := by decide +kernel
theorem dX12_both_264 : decode cX12_both 264 = .ok (.iload 14, 2) := by decide +kernel
theorem dX12_both_266 : decode cX12_both 266 = .ok (.iaload, 1) := by decide +kernel
theorem dX12_both_267 : decode cX12_both 267 = .ok (.i2l, 1) := by decide +kernel
theorem dX12_both_268 : decode cX12_both 268 = .ok (.invokevirtual 18, 3) := by decide +kernel
theorem dX12_both_271 : decode cX12_both 271 = .ok (.iinc 14 1, 3) := by decide +kernel
theorem dX12_both_274 : decode cX12_both 274 = .ok (.goto (-27), 3) := by decide +kernel
theorem dX12_both_277 : decode cX12_both 277 = .ok (.aload_n 0, 1) := by decide +kernel
theorem dX12_both_278 : decode cX12_both 278 = .ok (.lload 12, 2) := by decide +kernel
theorem dX12_both_280 : decode cX12_both 280 = .ok (.lload 6, 2) := by decide +kernel
theorem dX12_both_282 : decode cX12_both 282 = .ok (.lload 10, 2) := by decide +kernel
theorem dX12_both_284 : decode cX12_both 284 = .ok (.lmul, 1) := by decide +kernel
theorem dX12_both_285 : decode cX12_both 285 = .ok (.invokevirtual 283, 3) := by decide +kernel
theorem dX12_both_288 : decode cX12_both 288 = .ok (.lload 12, 2) := by decide +kernel
theorem dX12_both_290 : decode cX12_both 290 = .ok (.lconst 0, 1) := by decide +kernel
theorem dX12_both_291 : decode cX12_both 291 = .ok (.lcmp, 1) := by decide +kernel
theorem dX12_both_292 : decode cX12_both 292 = .ok (.ifCond .le 7, 3) := by decide +kernel
theorem dX12_both_295 : decode cX12_both 295 = .ok (.iconst 1, 1) := by decide +kernel
theorem dX12_both_296 : decode cX12_both 296 = .ok (.goto 15, 3) := by decide +kernel
theorem dX12_both_299 : decode cX12_both 299 = .ok (.lload 12, 2) := by decide +kernel
theorem dX12_both_301 : decode cX12_both 301 = .ok (.lconst 0, 1) := by decide +kernel
theorem dX12_both_302 : decode cX12_both 302 = .ok (.lcmp, 1) := by decide +kernel
theorem dX12_both_303 : decode cX12_both 303 = .ok (.ifCond .ge 7, 3) := by decide +kernel
theorem dX12_both_306 : decode cX12_both 306 = .ok (.iconst 2, 1) := by decide +kernel
theorem dX12_both_307 : decode cX12_both 307 = .ok (.goto 4, 3) := by decide +kernel
theorem dX12_both_310 : decode cX12_both 310 = .ok (.iconst 0, 1) := by decide +kernel
theorem dX12_both_311 : decode cX12_both 311 = .ok (.ireturn, 1) := by decide +kernel
theorem dX12_byWhat_0 : decode cX12_byWhat 0 = .ok (.iload_n 1, 1) := by decide +kernel
theorem dX12_byWhat_1 : decode cX12_byWhat 1 = .ok (.ifCond .ne 12, 3) := by decide +kernel
theorem dX12_byWhat_4 : decode cX12_byWhat 4 = .ok (.aload_n 0, 1) := by decide +kernel
theorem dX12_byWhat_5 : decode cX12_byWhat 5 = .ok (.getfield 83, 3) := by decide +kernel
theorem dX12_byWhat_8 : decode cX12_byWhat 8 = .ok (.iload_n 2, 1) := by decide +kernel
theorem dX12_byWhat_9 : decode cX12_byWhat 9 = .ok (.iaload, 1) := by decide +kernel
theorem dX12_byWhat_10 : decode cX12_byWhat 10 = .ok (.goto 47, 3) := by decide +kernel
theorem dX12_byWhat_13 : decode cX12_byWhat 13 = .ok (.iload_n 1, 1) := by decide +kernel
theorem dX12_byWhat_14 : decode cX12_byWhat 14 = .ok (.iconst 1, 1) := by decide +kernel
theorem dX12_byWhat_15 : decode cX12_byWhat 15 = .ok (.if_icmp .ne 17, 3) := by decide +kernel
theorem dX12_byWhat_18 : decode cX12_byWhat 18 = .ok (.aload_n 0, 1) := by decide +kernel
theorem dX12_byWhat_19 : decode cX12_byWhat 19 = .ok (.getfield 58, 3) := by decide +kernel
theorem dX12_byWhat_22 : decode cX12_byWhat 22 = .ok (.aload_n 0, 1) := by decide +kernel
theorem dX12_byWhat_23 : decode cX12_byWhat 23 = .ok (.getfield 67, 3) := by decide +kernel
theorem dX12_byWhat_26 : decode cX12_byWhat 26 = .ok (.iload_n 2, 1) := by decide +kernel
theorem dX12_byWhat_27 : decode cX12_byWhat 27 = .ok (.iaload, 1) := by decide +kernel
theorem dX12_byWhat_28 : decode cX12_byWhat 28 = .ok (.iaload, 1) := by decide +kernel
theorem dX12_byWhat_29 : decode cX12_byWhat 29 = .ok (.goto 28, 3) := by decide +kernel
theorem dX12_byWhat_32 : decode cX12_byWhat 32 = .ok (.iload_n 1, 1) := by decide +kernel
theorem dX12_byWhat_33 : decode cX12_byWhat 33 = .ok (.iconst 2, 1) := by decide +kernel
theorem dX12_byWhat_34 : decode cX12_byWhat 34 = .ok (.if_icmp .ne 17, 3) := by decide +kernel
theorem dX12_byWhat_37 : decode cX12_byWhat 37 = .ok (.aload_n 0, 1) := by decide +kernel
theorem dX12_byWhat_38 : decode cX12_byWhat 38 = .ok (.getfield 61, 3) := by decide +kernel
theorem dX12_byWhat_41 : decode cX12_byWhat 41 = .ok (.aload_n 0, 1) := by decide +kernel
theorem dX12_byWhat_42 : decode cX12_byWhat 42 = .ok (.getfield 67, 3) := by decide +kernel
theorem dX12_byWhat_45 : decode cX12_byWhat 45 = .ok (.iload_n 2, 1) := by decide +kernel
theorem dX12_byWhat_46 : decode cX12_byWhat 46 = .ok (.iaload, 1) := by decide +kernel
theorem dX12_byWhat_47 : decode cX12_byWhat 47 = .ok (.iaload, 1) := by decide +kernel
theorem dX12_byWhat_48 : decode cX12_byWhat 48 = .ok (.goto 9, 3) := by decide +kernel
theorem dX12_byWhat_51 : decode cX12_byWhat 51 = .ok (.aload_n 0, 1) := by decide +kernel
theorem dX12_byWhat_52 : decode cX12_byWhat 52 = .ok (.getfield 80, 3) := by decide +kernel
theorem dX12_byWhat_55 : decode cX12_byWhat 55 = .ok (.iload_n 2, 1) := by decide +kernel
theorem dX12_byWhat_56 : decode cX12_byWhat 56 = .ok (.iaload, 1) := by decide +kernel
theorem dX12_byWhat_57 : decode cX12_byWhat 57 = .ok (.ireturn, 1) := by decide +kernel
theorem dX12_countsBy_0 : decode cX12_countsBy 0 = .ok (.iconst 0, 1) := by decide +kernel
theorem dX12_countsBy_1 : decode cX12_countsBy 1 = .ok (.istore_n 3, 1) := by decide +kernel
theorem dX12_countsBy_2 : decode cX12_countsBy 2 = .ok (.iload_n 3, 1) := by decide +kernel
theorem dX12_countsBy_3 : decode cX12_countsBy 3 = .ok (.iconst 2, 1) := by decide +kernel
theorem dX12_countsBy_4 : decode cX12_countsBy 4 = .ok (.if_icmp .ge 23, 3) := by decide +kernel
theorem dX12_countsBy_7 : decode cX12_countsBy 7 = .ok (.aload_n 0, 1) := by decide +kernel
theorem dX12_countsBy_8 : decode cX12_countsBy 8 = .ok (.getfield 263, 3) := by decide +kernel
theorem dX12_countsBy_11 : decode cX12_countsBy 11 = .ok (.iload_n 3, 1) := by decide +kernel
theorem dX12_countsBy_12 : decode cX12_countsBy 12 = .ok (.iconst 0, 1) := by decide +kernel
theorem dX12_countsBy_13 : decode cX12_countsBy 13 = .ok (.iastore, 1) := by decide +kernel
theorem dX12_countsBy_14 : decode cX12_countsBy 14 = .ok (.aload_n 0, 1) := by decide +kernel
theorem dX12_countsBy_15 : decode cX12_countsBy 15 = .ok (.getfield 266, 3) := by decide +kernel
theorem dX12_countsBy_18 : decode cX12_countsBy 18 = .ok (.iload_n 3, 1) := by decide +kernel
theorem dX12_countsBy_19 : decode cX12_countsBy 19 = .ok (.iconst 0, 1) := by decide +kernel
theorem dX12_countsBy_20 : decode cX12_countsBy 20 = .ok (.iastore, 1) := by decide +kernel
theorem dX12_countsBy_21 : decode cX12_countsBy 21 = .ok (.iinc 3 1, 3) := by decide +kernel
theorem dX12_countsBy_24 : decode cX12_countsBy 24 = .ok (.goto (-22), 3) := by decide +kernel
theorem dX12_countsBy_27 : decode cX12_countsBy 27 = .ok (.iconst 0, 1) := by decide +kernel
theorem dX12_countsBy_28 : decode cX12_countsBy 28 = .ok (.istore_n 3, 1) := by decide +kernel
theorem dX12_countsBy_29 : decode cX12_countsBy 29 = .ok (.iload_n 3, 1) := by decide +kernel
theorem dX12_countsBy_30 : decode cX12_countsBy 30 = .ok (.aload_n 0, 1) := by decide +kernel
theorem dX12_countsBy_31 : decode cX12_countsBy 31 = .ok (.getfield 36, 3) := by decide +kernel
theorem dX12_countsBy_34 : decode cX12_countsBy 34 = .ok (.if_icmp .ge 64, 3) := by decide +kernel
theorem dX12_countsBy_37 : decode cX12_countsBy 37 = .ok (.aload_n 0, 1) := by decide +kernel
theorem dX12_countsBy_38 : decode cX12_countsBy 38 = .ok (.getfield 89, 3) := by decide +kernel
theorem dX12_countsBy_41 : decode cX12_countsBy 41 = .ok (.iload_n 3, 1) := by decide +kernel
theorem dX12_countsBy_42 : decode cX12_countsBy 42 = .ok (.baload, 1) := by decide +kernel
theorem dX12_countsBy_43 : decode cX12_countsBy 43 = .ok (.ifCond .eq 49, 3) := by decide +kernel
theorem dX12_countsBy_46 : decode cX12_countsBy 46 = .ok (.aload_n 0, 1) := by decide +kernel
theorem dX12_countsBy_47 : decode cX12_countsBy 47 = .ok (.iload_n 1, 1) := by decide +kernel
theorem dX12_countsBy_48 : decode cX12_countsBy 48 = .ok (.iload_n 3, 1) := by decide +kernel
theorem dX12_countsBy_49 : decode cX12_countsBy 49 = .ok (.invokevirtual 448, 3) := by decide +kernel
theorem dX12_countsBy_52 : decode cX12_countsBy 52 = .ok (.iload_n 2, 1) := by decide +kernel
theorem dX12_countsBy_53 : decode cX12_countsBy 53 = .ok (.if_icmp .ne 39, 3) := by decide +kernel
theorem dX12_countsBy_56 : decode cX12_countsBy 56 = .ok (.aload_n 0, 1) := by decide +kernel
theorem dX12_countsBy_57 : decode cX12_countsBy 57 = .ok (.getfield 263, 3) := by decide +kernel
theorem dX12_countsBy_60 : decode cX12_countsBy 60 = .ok (.aload_n 0, 1) := by decide +kernel
theorem dX12_countsBy_61 : decode cX12_countsBy 61 = .ok (.iload_n 3, 1) := by decide +kernel
theorem dX12_countsBy_62 : decode cX12_countsBy 62 = .ok (.invokevirtual 273, 3) := by decide +kernel
theorem dX12_countsBy_65 : decode cX12_countsBy 65 = .ok (.dup2, 1) := by decide +kernel
theorem dX12_countsBy_66 : decode cX12_countsBy 66 = .ok (.iaload, 1) := by decide +kernel
theorem dX12_countsBy_67 : decode cX12_countsBy 67 = .ok (.iconst 1, 1) := by decide +kernel
theorem dX12_countsBy_68 : decode cX12_countsBy 68 = .ok (.iadd, 1) := by decide +kernel
theorem dX12_countsBy_69 : decode cX12_countsBy 69 = .ok (.iastore, 1) := by decide +kernel
theorem dX12_countsBy_70 : decode cX12_countsBy 70 = .ok (.aload_n 0, 1) := by decide +kernel
theorem dX12_countsBy_71 : decode cX12_countsBy 71 = .ok (.getfield 266, 3) := by decide +kernel
theorem dX12_countsBy_74 : decode cX12_countsBy 74 = .ok (.aload_n 0, 1) := by decide +kernel
theorem dX12_countsBy_75 : decode cX12_countsBy 75 = .ok (.iload_n 3, 1) := by decide +kernel
theorem dX12_countsBy_76 : decode cX12_countsBy 76 = .ok (.invokevirtual 273, 3) := by decide +kernel
theorem dX12_countsBy_79 : decode cX12_countsBy 79 = .ok (.dup2, 1) := by decide +kernel
theorem dX12_countsBy_80 : decode cX12_countsBy 80 = .ok (.iaload, 1) := by decide +kernel
theorem dX12_countsBy_81 : decode cX12_countsBy 81 = .ok (.aload_n 0, 1) := by decide +kernel
theorem dX12_countsBy_82 : decode cX12_countsBy 82 = .ok (.getfield 93, 3) := by decide +kernel
theorem dX12_countsBy_85 : decode cX12_countsBy 85 = .ok (.iload_n 3, 1) := by decide +kernel
theorem dX12_countsBy_86 : decode cX12_countsBy 86 = .ok (.baload, 1) := by decide +kernel
theorem dX12_countsBy_87 : decode cX12_countsBy 87 = .ok (.invokestatic 70, 3) := by decide +kernel
theorem dX12_countsBy_90 : decode cX12_countsBy 90 = .ok (.iadd, 1) := by decide +kernel
theorem dX12_countsBy_91 : decode cX12_countsBy 91 = .ok (.iastore, 1) := by decide +kernel
theorem dX12_countsBy_92 : decode cX12_countsBy 92 = .ok (.iinc 3 1, 3) := by decide +kernel
theorem dX12_countsBy_95 : decode cX12_countsBy 95 = .ok (.goto (-66), 3) := by decide +kernel
theorem dX12_countsBy_98 : decode cX12_countsBy 98 = .ok (.return_, 1) := by decide +kernel
theorem dX12_sums_0 : decode cX12_sums 0 = .ok (.aload_n 0, 1) := by decide +kernel
theorem dX12_sums_1 : decode cX12_sums 1 = .ok (.getfield 451, 3) := by decide +kernel
theorem dX12_sums_4 : decode cX12_sums 4 = .ok (.lload_n 3, 1) := by decide +kernel
theorem dX12_sums_5 : decode cX12_sums 5 = .ok (.invokestatic 14, 3) := by decide +kernel
theorem dX12_sums_8 : decode cX12_sums 8 = .ok (.lstore 5, 2) := by decide +kernel
theorem dX12_sums_10 : decode cX12_sums 10 = .ok (.aload_n 0, 1) := by decide +kernel
theorem dX12_sums_11 : decode cX12_sums 11 = .ok (.getfield 455, 3) := by decide +kernel
theorem dX12_sums_14 : decode cX12_sums 14 = .ok (.lload_n 3, 1) := by decide +kernel
theorem dX12_sums_15 : decode cX12_sums 15 = .ok (.lload 5, 2) := by decide +kernel
theorem dX12_sums_17 : decode cX12_sums 17 = .ok (.ldiv, 1) := by decide +kernel
theorem dX12_sums_18 : decode cX12_sums 18 = .ok (.lmul, 1) := by decide +kernel
theorem dX12_sums_19 : decode cX12_sums 19 = .ok (.lload_n 1, 1) := by decide +kernel
theorem dX12_sums_20 : decode cX12_sums 20 = .ok (.aload_n 0, 1) := by decide +kernel
theorem dX12_sums_21 : decode cX12_sums 21 = .ok (.getfield 451, 3) := by decide +kernel
theorem dX12_sums_24 : decode cX12_sums 24 = .ok (.lload 5, 2) := by decide +kernel
theorem dX12_sums_26 : decode cX12_sums 26 = .ok (.ldiv, 1) := by decide +kernel
theorem dX12_sums_27 : decode cX12_sums 27 = .ok (.lmul, 1) := by decide +kernel
theorem dX12_sums_28 : decode cX12_sums 28 = .ok (.ladd, 1) := by decide +kernel
theorem dX12_sums_29 : decode cX12_sums 29 = .ok (.lstore 7, 2) := by decide +kernel
theorem dX12_sums_31 : decode cX12_sums 31 = .ok (.aload_n 0, 1) := by decide +kernel
theorem dX12_sums_32 : decode cX12_sums 32 = .ok (.getfield 451, 3) := by decide +kernel
theorem dX12_sums_35 : decode cX12_sums 35 = .ok (.lload 5, 2) := by decide +kernel
theorem dX12_sums_37 : decode cX12_sums 37 = .ok (.ldiv, 1) := by decide +kernel
theorem dX12_sums_38 : decode cX12_sums 38 = .ok (.lload_n 3, 1) := by decide +kernel
theorem dX12_sums_39 : decode cX12_sums 39 = .ok (.lmul, 1) := by decide +kernel
theorem dX12_sums_40 : decode cX12_sums 40 = .ok (.lstore 9, 2) := by decide +kernel
theorem dX12_sums_42 : decode cX12_sums 42 = .ok (.lload 7, 2) := by decide +kernel
theorem dX12_sums_44 : decode cX12_sums 44 = .ok (.lload 9, 2) := by decide +kernel
theorem dX12_sums_46 : decode cX12_sums 46 = .ok (.invokestatic 14, 3) := by decide +kernel
theorem dX12_sums_49 : decode cX12_sums 49 = .ok (.lstore 11, 2) := by decide +kernel
theorem dX12_sums_51 : decode cX12_sums 51 = .ok (.aload_n 0, 1) := by decide +kernel
theorem dX12_sums_52 : decode cX12_sums 52 = .ok (.lload 7, 2) := by decide +kernel
theorem dX12_sums_54 : decode cX12_sums 54 = .ok (.lload 11, 2) := by decide +kernel
theorem dX12_sums_56 : decode cX12_sums 56 = .ok (.ldiv, 1) := by decide +kernel
theorem dX12_sums_57 : decode cX12_sums 57 = .ok (.putfield 455, 3) := by decide +kernel
theorem dX12_sums_60 : decode cX12_sums 60 = .ok (.aload_n 0, 1) := by decide +kernel
theorem dX12_sums_61 : decode cX12_sums 61 = .ok (.lload 9, 2) := by decide +kernel
theorem dX12_sums_63 : decode cX12_sums 63 = .ok (.lload 11, 2) := by decide +kernel
theorem dX12_sums_65 : decode cX12_sums 65 = .ok (.ldiv, 1) := by decide +kernel
theorem dX12_sums_66 : decode cX12_sums 66 = .ok (.putfield 451, 3) := by decide +kernel
theorem dX12_sums_69 : decode cX12_sums 69 = .ok (.return_, 1) := by decide +kernel
theorem dX12_explains_0 : decode cX12_explains 0 = .ok (.aload_n 0, 1) := by decide +kernel
theorem dX12_explains_1 : decode cX12_explains 1 = .ok (.iconst 0, 1) := by decide +kernel
theorem dX12_explains_2 : decode cX12_explains 2 = .ok (.putfield 3, 3) := by decide +kernel
theorem dX12_explains_5 : decode cX12_explains 5 = .ok (.iload_n 1, 1) := by decide +kernel
theorem dX12_explains_6 : decode cX12_explains 6 = .ok (.i2l, 1) := by decide +kernel
theorem dX12_explains_7 : decode cX12_explains 7 = .ok (.lconst 0, 1) := by decide +kernel
theorem dX12_explains_8 : decode cX12_explains 8 = .ok (.ldc2_w 54, 3) := by decide +kernel
theorem dX12_explains_11 : decode cX12_explains 11 = .ok (.invokestatic 29, 3) := by decide +kernel
theorem dX12_explains_14 : decode cX12_explains 14 = .ok (.ifCond .ne 5, 3) := by decide +kernel
theorem dX12_explains_17 : decode cX12_explains 17 = .ok (.iconst (-1), 1) := by decide +kernel
theorem dX12_explains_18 : decode cX12_explains 18 = .ok (.ireturn, 1) := by decide +kernel
theorem dX12_explains_19 : decode cX12_explains 19 = .ok (.aload_n 0, 1) := by decide +kernel
theorem dX12_explains_20 : decode cX12_explains 20 = .ok (.lconst 0, 1) := by decide +kernel
theorem dX12_explains_21 : decode cX12_explains 21 = .ok (.putfield 455, 3) := by decide +kernel
theorem dX12_explains_24 : decode cX12_explains 24 = .ok (.aload_n 0, 1) := by decide +kernel
theorem dX12_explains_25 : decode cX12_explains 25 = .ok (.lconst 1, 1) := by decide +kernel
theorem dX12_explains_26 : decode cX12_explains 26 = .ok (.putfield 451, 3) := by decide +kernel
theorem dX12_explains_29 : decode cX12_explains 29 = .ok (.iconst 0, 1) := by decide +kernel
theorem dX12_explains_30 : decode cX12_explains 30 = .ok (.istore_n 2, 1) := by decide +kernel
theorem dX12_explains_31 : decode cX12_explains 31 = .ok (.iconst 0, 1) := by decide +kernel
theorem dX12_explains_32 : decode cX12_explains 32 = .ok (.istore_n 3, 1) := by decide +kernel
theorem dX12_explains_33 : decode cX12_explains 33 = .ok (.iload_n 3, 1) := by decide +kernel
theorem dX12_explains_34 : decode cX12_explains 34 = .ok (.bipush 10, 2) := by decide +kernel
theorem dX12_explains_36 : decode cX12_explains 36 = .ok (.if_icmp .ge 100, 3) := by decide +kernel
theorem dX12_explains_39 : decode cX12_explains 39 = .ok (.aload_n 0, 1) := by decide +kernel
theorem dX12_explains_40 : decode cX12_explains 40 = .ok (.iload_n 1, 1) := by decide +kernel
theorem dX12_explains_41 : decode cX12_explains 41 = .ok (.iload_n 3, 1) := by decide +kernel
theorem dX12_explains_42 : decode cX12_explains 42 = .ok (.invokevirtual 458, 3) := by decide +kernel
theorem dX12_explains_45 : decode cX12_explains 45 = .ok (.aload_n 0, 1) := by decide +kernel
theorem dX12_explains_46 : decode cX12_explains 46 = .ok (.invokevirtual 287, 3) := by decide +kernel
theorem dX12_explains_49 : decode cX12_explains 49 = .ok (.ifCond .eq 81, 3) := by decide +kernel
theorem dX12_explains_52 : decode cX12_explains 52 = .ok (.aload_n 0, 1) := by decide +kernel
theorem dX12_explains_53 : decode cX12_explains 53 = .ok (.aload_n 0, 1) := by decide +kernel
theorem dX12_explains_54 : decode cX12_explains 54 = .ok (.getfield 266, 3) := by decide +kernel
theorem dX12_explains_57 : decode cX12_explains 57 = .ok (.iconst 0, 1) := by decide +kernel
theorem dX12_explains_58 : decode cX12_explains 58 = .ok (.iaload, 1) := by decide +kernel
theorem dX12_explains_59 : decode cX12_explains 59 = .ok (.aload_n 0, 1) := by decide +kernel
theorem dX12_explains_60 : decode cX12_explains 60 = .ok (.getfield 263, 3) := by decide +kernel
theorem dX12_explains_63 : decode cX12_explains 63 = .ok (.iconst 1, 1) := by decide +kernel
theorem dX12_explains_64 : decode cX12_explains 64 = .ok (.iaload, 1) := by decide +kernel
theorem dX12_explains_65 : decode cX12_explains 65 = .ok (.imul, 1) := by decide +kernel
theorem dX12_explains_66 : decode cX12_explains 66 = .ok (.aload_n 0, 1) := by decide +kernel
theorem dX12_explains_67 : decode cX12_explains 67 = .ok (.getfield 266, 3) := by decide +kernel
theorem dX12_explains_70 : decode cX12_explains 70 = .ok (.iconst 1, 1) := by decide +kernel
theorem dX12_explains_71 : decode cX12_explains 71 = .ok (.iaload, 1) := by decide +kernel
theorem dX12_explains_72 : decode cX12_explains 72 = .ok (.aload_n 0, 1) := by decide +kernel
theorem dX12_explains_73 : decode cX12_explains 73 = .ok (.getfield 263, 3) := by decide +kernel
theorem dX12_explains_76 : decode cX12_explains 76 = .ok (.iconst 0, 1) := by decide +kernel
theorem dX12_explains_77 : decode cX12_explains 77 = .ok (.iaload, 1) := by decide +kernel
theorem dX12_explains_78 : decode cX12_explains 78 = .ok (.imul, 1) := by decide +kernel
theorem dX12_explains_79 : decode cX12_explains 79 = .ok (.isub, 1) := by decide +kernel
theorem dX12_explains_80 : decode cX12_explains 80 = .ok (.i2l, 1) := by decide +kernel
theorem dX12_explains_81 : decode cX12_explains 81 = .ok (.aload_n 0, 1) := by decide +kernel
theorem dX12_explains_82 : decode cX12_explains 82 = .ok (.getfield 263, 3) := by decide +kernel
theorem dX12_explains_85 : decode cX12_explains 85 = .ok (.iconst 0, 1) := by decide +kernel
theorem dX12_explains_86 : decode cX12_explains 86 = .ok (.iaload, 1) := by decide +kernel
theorem dX12_explains_87 : decode cX12_explains 87 = .ok (.aload_n 0, 1) := by decide +kernel
theorem dX12_explains_88 : decode cX12_explains 88 = .ok (.getfield 263, 3) := by decide +kernel
theorem dX12_explains_91 : decode cX12_explains 91 = .ok (.iconst 1, 1) := by decide +kernel
theorem dX12_explains_92 : decode cX12_explains 92 = .ok (.iaload, 1) := by decide +kernel
theorem dX12_explains_93 : decode cX12_explains 93 = .ok (.iadd, 1) := by decide +kernel
theorem dX12_explains_94 : decode cX12_explains 94 = .ok (.i2l, 1) := by decide +kernel
theorem dX12_explains_95 : decode cX12_explains 95 = .ok (.lmul, 1) := by decide +kernel
theorem dX12_explains_96 : decode cX12_explains 96 = .ok (.aload_n 0, 1) := by decide +kernel
theorem dX12_explains_97 : decode cX12_explains 97 = .ok (.getfield 263, 3) := by decide +kernel
theorem dX12_explains_100 : decode cX12_explains 100 = .ok (.iconst 0, 1) := by decide +kernel
theorem dX12_explains_101 : decode cX12_explains 101 = .ok (.iaload, 1) := by decide +kernel
theorem dX12_explains_102 : decode cX12_explains 102 = .ok (.i2l, 1) := by decide +kernel
theorem dX12_explains_103 : decode cX12_explains 103 = .ok (.aload_n 0, 1) := by decide +kernel
theorem dX12_explains_104 : decode cX12_explains 104 = .ok (.getfield 263, 3) := by decide +kernel
theorem dX12_explains_107 : decode cX12_explains 107 = .ok (.iconst 1, 1) := by decide +kernel
theorem dX12_explains_108 : decode cX12_explains 108 = .ok (.iaload, 1) := by decide +kernel
theorem dX12_explains_109 : decode cX12_explains 109 = .ok (.i2l, 1) := by decide +kernel
theorem dX12_explains_110 : decode cX12_explains 110 = .ok (.lmul, 1) := by decide +kernel
theorem dX12_explains_111 : decode cX12_explains 111 = .ok (.invokevirtual 461, 3) := by decide +kernel
theorem dX12_explains_114 : decode cX12_explains 114 = .ok (.iload_n 2, 1) := by decide +kernel
theorem dX12_explains_115 : decode cX12_explains 115 = .ok (.aload_n 0, 1) := by decide +kernel
theorem dX12_explains_116 : decode cX12_explains 116 = .ok (.getfield 263, 3) := by decide +kernel
theorem dX12_explains_119 : decode cX12_explains 119 = .ok (.iconst 0, 1) := by decide +kernel
theorem dX12_explains_120 : decode cX12_explains 120 = .ok (.iaload, 1) := by decide +kernel
theorem dX12_explains_121 : decode cX12_explains 121 = .ok (.aload_n 0, 1) := by decide +kernel
theorem dX12_explains_122 : decode cX12_explains 122 = .ok (.getfield 263, 3) := by decide +kernel
theorem dX12_explains_125 : decode cX12_explains 125 = .ok (.iconst 1, 1) := by decide +kernel
theorem dX12_explains_126 : decode cX12_explains 126 = .ok (.iaload, 1) := by decide +kernel
theorem dX12_explains_127 : decode cX12_explains 127 = .ok (.iadd, 1) := by decide +kernel
theorem dX12_explains_128 : decode cX12_explains 128 = .ok (.iadd, 1) := by decide +kernel
theorem dX12_explains_129 : decode cX12_explains 129 = .ok (.istore_n 2, 1) := by decide +kernel
theorem dX12_explains_130 : decode cX12_explains 130 = .ok (.iinc 3 1, 3) := by decide +kernel
theorem dX12_explains_133 : decode cX12_explains 133 = .ok (.goto (-100), 3) := by decide +kernel
theorem dX12_explains_136 : decode cX12_explains 136 = .ok (.iload_n 2, 1) := by decide +kernel
theorem dX12_explains_137 : decode cX12_explains 137 = .ok (.ifCond .ne 6, 3) := by decide +kernel
theorem dX12_explains_140 : decode cX12_explains 140 = .ok (.bipush (-2), 2) := by decide +kernel
theorem dX12_explains_142 : decode cX12_explains 142 = .ok (.ireturn, 1) := by decide +kernel
theorem dX12_explains_143 : decode cX12_explains 143 = .ok (.aload_n 0, 1) := by decide +kernel
theorem dX12_explains_144 : decode cX12_explains 144 = .ok (.getfield 455, 3) := by decide +kernel
theorem dX12_explains_147 : decode cX12_explains 147 = .ok (.aload_n 0, 1) := by decide +kernel
theorem dX12_explains_148 : decode cX12_explains 148 = .ok (.getfield 451, 3) := by decide +kernel
theorem dX12_explains_151 : decode cX12_explains 151 = .ok (.iload_n 2, 1) := by decide +kernel
theorem dX12_explains_152 : decode cX12_explains 152 = .ok (.i2l, 1) := by decide +kernel
theorem dX12_explains_153 : decode cX12_explains 153 = .ok (.lmul, 1) := by decide +kernel
theorem dX12_explains_154 : decode cX12_explains 154 = .ok (.invokestatic 14, 3) := by decide +kernel
theorem dX12_explains_157 : decode cX12_explains 157 = .ok (.lstore_n 3, 1) := by decide +kernel
theorem dX12_explains_158 : decode cX12_explains 158 = .ok (.aload_n 0, 1) := by decide +kernel
theorem dX12_explains_159 : decode cX12_explains 159 = .ok (.getfield 455, 3) := by decide +kernel
theorem dX12_explains_162 : decode cX12_explains 162 = .ok (.lload_n 3, 1) := by decide +kernel
theorem dX12_explains_163 : decode cX12_explains 163 = .ok (.ldiv, 1) := by decide +kernel
theorem dX12_explains_164 : decode cX12_explains 164 = .ok (.lstore 5, 2) := by decide +kernel
theorem dX12_explains_166 : decode cX12_explains 166 = .ok (.aload_n 0, 1) := by decide +kernel
theorem dX12_explains_167 : decode cX12_explains 167 = .ok (.getfield 451, 3) := by decide +kernel
theorem dX12_explains_170 : decode cX12_explains 170 = .ok (.iload_n 2, 1) := by decide +kernel
theorem dX12_explains_171 : decode cX12_explains 171 = .ok (.i2l, 1) := by decide +kernel
theorem dX12_explains_172 : decode cX12_explains 172 = .ok (.lmul, 1) := by decide +kernel
theorem dX12_explains_173 : decode cX12_explains 173 = .ok (.lload_n 3, 1) := by decide +kernel
theorem dX12_explains_174 : decode cX12_explains 174 = .ok (.ldiv, 1) := by decide +kernel
theorem dX12_explains_175 : decode cX12_explains 175 = .ok (.lstore 7, 2) := by decide +kernel
theorem dX12_explains_177 : decode cX12_explains 177 = .ok (.aload_n 0, 1) := by decide +kernel
theorem dX12_explains_178 : decode cX12_explains 178 = .ok (.iconst (-1), 1) := by decide +kernel
theorem dX12_explains_179 : decode cX12_explains 179 = .ok (.iconst (-1), 1) := by decide +kernel
theorem dX12_explains_180 : decode cX12_explains 180 = .ok (.invokevirtual 279, 3) := by decide +kernel
theorem dX12_explains_183 : decode cX12_explains 183 = .ok (.aload_n 0, 1) := by decide +kernel
theorem dX12_explains_184 : decode cX12_explains 184 = .ok (.aload_n 0, 1) := by decide +kernel
theorem dX12_explains_185 : decode cX12_explains 185 = .ok (.getfield 266, 3) := by decide +kernel
theorem dX12_explains_188 : decode cX12_explains 188 = .ok (.iconst 0, 1) := by decide +kernel
theorem dX12_explains_189 : decode cX12_explains 189 = .ok (.iaload, 1) := by decide +kernel
theorem dX12_explains_190 : decode cX12_explains 190 = .ok (.aload_n 0, 1) := by decide +kernel
theorem dX12_explains_191 : decode cX12_explains 191 = .ok (.getfield 263, 3) := by decide +kernel
theorem dX12_explains_194 : decode cX12_explains 194 = .ok (.iconst 1, 1) := by decide +kernel
theorem dX12_explains_195 : decode cX12_explains 195 = .ok (.iaload, 1) := by decide +kernel
theorem dX12_explains_196 : decode cX12_explains 196 = .ok (.imul, 1) := by decide +kernel
theorem dX12_explains_197 : decode cX12_explains 197 = .ok (.aload_n 0, 1) := by decide +kernel
theorem dX12_explains_198 : decode cX12_explains 198 = .ok (.getfield 266, 3) := by decide +kernel
theorem dX12_explains_201 : decode cX12_explains 201 = .ok (.iconst 1, 1) := by decide +kernel
theorem dX12_explains_202 : decode cX12_explains 202 = .ok (.iaload, 1) := by decide +kernel
theorem dX12_explains_203 : decode cX12_explains 203 = .ok (.aload_n 0, 1) := by decide +kernel
theorem dX12_explains_204 : decode cX12_explains 204 = .ok (.getfield 263, 3) := by decide +kernel
theorem dX12_explains_207 : decode cX12_explains 207 = .ok (.iconst 0, 1) := by decide +kernel
theorem dX12_explains_208 : decode cX12_explains 208 = .ok (.iaload, 1) := by decide +kernel
theorem dX12_explains_209 : decode cX12_explains 209 = .ok (.imul, 1) := by decide +kernel
theorem dX12_explains_210 : decode cX12_explains 210 = .ok (.isub, 1) := by decide +kernel
theorem dX12_explains_211 : decode cX12_explains 211 = .ok (.i2l, 1) := by decide +kernel
theorem dX12_explains_212 : decode cX12_explains 212 = .ok (.putfield 455, 3) := by decide +kernel
theorem dX12_explains_215 : decode cX12_explains 215 = .ok (.aload_n 0, 1) := by decide +kernel
theorem dX12_explains_216 : decode cX12_explains 216 = .ok (.aload_n 0, 1) := by decide +kernel
theorem dX12_explains_217 : decode cX12_explains 217 = .ok (.getfield 263, 3) := by decide +kernel
theorem dX12_explains_220 : decode cX12_explains 220 = .ok (.iconst 0, 1) := by decide +kernel
theorem dX12_explains_221 : decode cX12_explains 221 = .ok (.iaload, 1) := by decide +kernel
theorem dX12_explains_222 : decode cX12_explains 222 = .ok (.i2l, 1) := by decide +kernel
theorem dX12_explains_223 : decode cX12_explains 223 = .ok (.aload_n 0, 1) := by decide +kernel
theorem dX12_explains_224 : decode cX12_explains 224 = .ok (.getfield 263, 3) := by decide +kernel
theorem dX12_explains_227 : decode cX12_explains 227 = .ok (.iconst 1, 1) := by decide +kernel
theorem dX12_explains_228 : decode cX12_explains 228 = .ok (.iaload, 1) := by decide +kernel
theorem dX12_explains_229 : decode cX12_explains 229 = .ok (.i2l, 1) := by decide +kernel
theorem dX12_explains_230 : decode cX12_explains 230 = .ok (.lmul, 1) := by decide +kernel
theorem dX12_explains_231 : decode cX12_explains 231 = .ok (.putfield 451, 3) := by decide +kernel
theorem dX12_explains_234 : decode cX12_explains 234 = .ok (.aload_n 0, 1) := by decide +kernel
theorem dX12_explains_235 : decode cX12_explains 235 = .ok (.lload 5, 2) := by decide +kernel
theorem dX12_explains_237 : decode cX12_explains 237 = .ok (.lneg, 1) := by decide +kernel
theorem dX12_explains_238 : decode cX12_explains 238 = .ok (.lload 7, 2) := by decide +kernel
theorem dX12_explains_240 : decode cX12_explains 240 = .ok (.invokevirtual 461, 3) := by decide +kernel
theorem dX12_explains_243 : decode cX12_explains 243 = .ok (.aload_n 0, 1) := by decide +kernel
theorem dX12_explains_244 : decode cX12_explains 244 = .ok (.iconst 0, 1) := by decide +kernel
theorem dX12_explains_245 : decode cX12_explains 245 = .ok (.putfield 11, 3) := by decide +kernel
theorem dX12_explains_248 : decode cX12_explains 248 = .ok (.aload_n 0, 1) := by decide +kernel
theorem dX12_explains_249 : decode cX12_explains 249 = .ok (.lload 5, 2) := by decide +kernel
theorem dX12_explains_251 : decode cX12_explains 251 = .ok (.invokevirtual 18, 3) := by decide +kernel
theorem dX12_explains_254 : decode cX12_explains 254 = .ok (.aload_n 0, 1) := by decide +kernel
theorem dX12_explains_255 : decode cX12_explains 255 = .ok (.lload 7, 2) := by decide +kernel
theorem dX12_explains_257 : decode cX12_explains 257 = .ok (.invokevirtual 18, 3) := by decide +kernel
theorem dX12_explains_260 : decode cX12_explains 260 = .ok (.aload_n 0, 1) := by decide +kernel
theorem dX12_explains_261 : decode cX12_explains 261 = .ok (.aload_n 0, 1) := by decide +kernel
theorem dX12_explains_262 : decode cX12_explains 262 = .ok (.getfield 455, 3) := by decide +kernel
theorem dX12_explains_265 : decode cX12_explains 265 = .ok (.invokevirtual 18, 3) := by decide +kernel
theorem dX12_explains_268 : decode cX12_explains 268 = .ok (.aload_n 0, 1) := by decide +kernel
theorem dX12_explains_269 : decode cX12_explains 269 = .ok (.aload_n 0, 1) := by decide +kernel
theorem dX12_explains_270 : decode cX12_explains 270 = .ok (.getfield 451, 3) := by decide +kernel
theorem dX12_explains_273 : decode cX12_explains 273 = .ok (.invokevirtual 18, 3) := by decide +kernel
theorem dX12_explains_276 : decode cX12_explains 276 = .ok (.iconst 0, 1) := by decide +kernel
theorem dX12_explains_277 : decode cX12_explains 277 = .ok (.ireturn, 1) := by decide +kernel
theorem dX12_join_0 : decode cX12_join 0 = .ok (.aload_n 0, 1) := by decide +kernel
theorem dX12_join_1 : decode cX12_join 1 = .ok (.iconst 0, 1) := by decide +kernel
theorem dX12_join_2 : decode cX12_join 2 = .ok (.putfield 3, 3) := by decide +kernel
theorem dX12_join_5 : decode cX12_join 5 = .ok (.iload_n 1, 1) := by decide +kernel
theorem dX12_join_6 : decode cX12_join 6 = .ok (.i2l, 1) := by decide +kernel
theorem dX12_join_7 : decode cX12_join 7 = .ok (.lconst 0, 1) := by decide +kernel
theorem dX12_join_8 : decode cX12_join 8 = .ok (.ldc2_w 261, 3) := by decide +kernel
theorem dX12_join_11 : decode cX12_join 11 = .ok (.invokestatic 29, 3) := by decide +kernel
theorem dX12_join_14 : decode cX12_join 14 = .ok (.ifCond .ne 5, 3) := by decide +kernel
theorem dX12_join_17 : decode cX12_join 17 = .ok (.iconst (-1), 1) := by decide +kernel
theorem dX12_join_18 : decode cX12_join 18 = .ok (.ireturn, 1) := by decide +kernel
theorem dX12_join_19 : decode cX12_join 19 = .ok (.iload_n 1, 1) := by decide +kernel
theorem dX12_join_20 : decode cX12_join 20 = .ok (.ifCond .ne 7, 3) := by decide +kernel
theorem dX12_join_23 : decode cX12_join 23 = .ok (.iconst 1, 1) := by decide +kernel
theorem dX12_join_24 : decode cX12_join 24 = .ok (.goto 13, 3) := by decide +kernel
theorem dX12_join_27 : decode cX12_join 27 = .ok (.iload_n 1, 1) := by decide +kernel
theorem dX12_join_28 : decode cX12_join 28 = .ok (.iconst 1, 1) := by decide +kernel
theorem dX12_join_29 : decode cX12_join 29 = .ok (.if_icmp .ne 7, 3) := by decide +kernel
theorem dX12_join_32 : decode cX12_join 32 = .ok (.iconst 2, 1) := by decide +kernel
theorem dX12_join_33 : decode cX12_join 33 = .ok (.goto 4, 3) := by decide +kernel
theorem dX12_join_36 : decode cX12_join 36 = .ok (.iconst 0, 1) := by decide +kernel
theorem dX12_join_37 : decode cX12_join 37 = .ok (.istore_n 2, 1) := by decide +kernel
theorem dX12_join_38 : decode cX12_join 38 = .ok (.aload_n 0, 1) := by decide +kernel
theorem dX12_join_39 : decode cX12_join 39 = .ok (.lconst 0, 1) := by decide +kernel
theorem dX12_join_40 : decode cX12_join 40 = .ok (.putfield 455, 3) := by decide +kernel
theorem dX12_join_43 : decode cX12_join 43 = .ok (.aload_n 0, 1) := by decide +kernel
theorem dX12_join_44 : decode cX12_join 44 = .ok (.lconst 1, 1) := by decide +kernel
theorem dX12_join_45 : decode cX12_join 45 = .ok (.putfield 451, 3) := by decide +kernel
theorem dX12_join_48 : decode cX12_join 48 = .ok (.iconst 0, 1) := by decide +kernel
theorem dX12_join_49 : decode cX12_join 49 = .ok (.istore_n 3, 1) := by decide +kernel
theorem dX12_join_50 : decode cX12_join 50 = .ok (.iload_n 3, 1) := by decide +kernel
theorem dX12_join_51 : decode cX12_join 51 = .ok (.iconst 4, 1) := by decide +kernel
theorem dX12_join_52 : decode cX12_join 52 = .ok (.if_icmp .ge 71, 3) := by decide +kernel
theorem dX12_join_55 : decode cX12_join 55 = .ok (.aload_n 0, 1) := by decide +kernel
theorem dX12_join_56 : decode cX12_join 56 = .ok (.iload_n 2, 1) := by decide +kernel
theorem dX12_join_57 : decode cX12_join 57 = .ok (.iload_n 3, 1) := by decide +kernel
theorem dX12_join_58 : decode cX12_join 58 = .ok (.invokevirtual 458, 3) := by decide +kernel
theorem dX12_join_61 : decode cX12_join 61 = .ok (.aload_n 0, 1) := by decide +kernel
theorem dX12_join_62 : decode cX12_join 62 = .ok (.getfield 263, 3) := by decide +kernel
theorem dX12_join_65 : decode cX12_join 65 = .ok (.iconst 0, 1) := by decide +kernel
theorem dX12_join_66 : decode cX12_join 66 = .ok (.iaload, 1) := by decide +kernel
theorem dX12_join_67 : decode cX12_join 67 = .ok (.aload_n 0, 1) := by decide +kernel
theorem dX12_join_68 : decode cX12_join 68 = .ok (.getfield 263, 3) := by decide +kernel
theorem dX12_join_71 : decode cX12_join 71 = .ok (.iconst 1, 1) := by decide +kernel
theorem dX12_join_72 : decode cX12_join 72 = .ok (.iaload, 1) := by decide +kernel
theorem dX12_join_73 : decode cX12_join 73 = .ok (.iadd, 1) := by decide +kernel
theorem dX12_join_74 : decode cX12_join 74 = .ok (.ifCond .le 43, 3) := by decide +kernel
theorem dX12_join_77 : decode cX12_join 77 = .ok (.aload_n 0, 1) := by decide +kernel
theorem dX12_join_78 : decode cX12_join 78 = .ok (.aload_n 0, 1) := by decide +kernel
theorem dX12_join_79 : decode cX12_join 79 = .ok (.getfield 263, 3) := by decide +kernel
theorem dX12_join_82 : decode cX12_join 82 = .ok (.iconst 0, 1) := by decide +kernel
theorem dX12_join_83 : decode cX12_join 83 = .ok (.iaload, 1) := by decide +kernel
theorem dX12_join_84 : decode cX12_join 84 = .ok (.aload_n 0, 1) := by decide +kernel
theorem dX12_join_85 : decode cX12_join 85 = .ok (.getfield 266, 3) := by decide +kernel
theorem dX12_join_88 : decode cX12_join 88 = .ok (.iconst 0, 1) := by decide +kernel
theorem dX12_join_89 : decode cX12_join 89 = .ok (.iaload, 1) := by decide +kernel
theorem dX12_join_90 : decode cX12_join 90 = .ok (.isub, 1) := by decide +kernel
theorem dX12_join_91 : decode cX12_join 91 = .ok (.i2l, 1) := by decide +kernel
theorem dX12_join_92 : decode cX12_join 92 = .ok (.aload_n 0, 1) := by decide +kernel
theorem dX12_join_93 : decode cX12_join 93 = .ok (.getfield 266, 3) := by decide +kernel
theorem dX12_join_96 : decode cX12_join 96 = .ok (.iconst 1, 1) := by decide +kernel
theorem dX12_join_97 : decode cX12_join 97 = .ok (.iaload, 1) := by decide +kernel
theorem dX12_join_98 : decode cX12_join 98 = .ok (.i2l, 1) := by decide +kernel
theorem dX12_join_99 : decode cX12_join 99 = .ok (.lmul, 1) := by decide +kernel
theorem dX12_join_100 : decode cX12_join 100 = .ok (.aload_n 0, 1) := by decide +kernel
theorem dX12_join_101 : decode cX12_join 101 = .ok (.getfield 263, 3) := by decide +kernel
theorem dX12_join_104 : decode cX12_join 104 = .ok (.iconst 0, 1) := by decide +kernel
theorem dX12_join_105 : decode cX12_join 105 = .ok (.iaload, 1) := by decide +kernel
theorem dX12_join_106 : decode cX12_join 106 = .ok (.aload_n 0, 1) := by decide +kernel
theorem dX12_join_107 : decode cX12_join 107 = .ok (.getfield 263, 3) := by decide +kernel
theorem dX12_join_110 : decode cX12_join 110 = .ok (.iconst 1, 1) := by decide +kernel
theorem dX12_join_111 : decode cX12_join 111 = .ok (.iaload, 1) := by decide +kernel
theorem dX12_join_112 : decode cX12_join 112 = .ok (.iadd, 1) := by decide +kernel
theorem dX12_join_113 : decode cX12_join 113 = .ok (.i2l, 1) := by decide +kernel
theorem dX12_join_114 : decode cX12_join 114 = .ok (.invokevirtual 461, 3) := by decide +kernel
theorem dX12_join_117 : decode cX12_join 117 = .ok (.iinc 3 1, 3) := by decide +kernel
theorem dX12_join_120 : decode cX12_join 120 = .ok (.goto (-70), 3) := by decide +kernel
theorem dX12_join_123 : decode cX12_join 123 = .ok (.aload_n 0, 1) := by decide +kernel
theorem dX12_join_124 : decode cX12_join 124 = .ok (.getfield 455, 3) := by decide +kernel
theorem dX12_join_127 : decode cX12_join 127 = .ok (.lstore_n 3, 1) := by decide +kernel
theorem dX12_join_128 : decode cX12_join 128 = .ok (.aload_n 0, 1) := by decide +kernel
theorem dX12_join_129 : decode cX12_join 129 = .ok (.getfield 451, 3) := by decide +kernel
theorem dX12_join_132 : decode cX12_join 132 = .ok (.lstore 5, 2) := by decide +kernel
theorem dX12_join_134 : decode cX12_join 134 = .ok (.lload_n 3, 1) := by decide +kernel
theorem dX12_join_135 : decode cX12_join 135 = .ok (.lconst 0, 1) := by decide +kernel
theorem dX12_join_136 : decode cX12_join 136 = .ok (.lcmp, 1) := by decide +kernel
theorem dX12_join_137 : decode cX12_join 137 = .ok (.ifCond .ne 6, 3) := by decide +kernel
theorem dX12_join_140 : decode cX12_join 140 = .ok (.bipush (-2), 2) := by decide +kernel
theorem dX12_join_142 : decode cX12_join 142 = .ok (.ireturn, 1) := by decide +kernel
theorem dX12_join_143 : decode cX12_join 143 = .ok (.aload_n 0, 1) := by decide +kernel
theorem dX12_join_144 : decode cX12_join 144 = .ok (.lconst 0, 1) := by decide +kernel
theorem dX12_join_145 : decode cX12_join 145 = .ok (.putfield 455, 3) := by decide +kernel
theorem dX12_join_148 : decode cX12_join 148 = .ok (.aload_n 0, 1) := by decide +kernel
theorem dX12_join_149 : decode cX12_join 149 = .ok (.lconst 1, 1) := by decide +kernel
theorem dX12_join_150 : decode cX12_join 150 = .ok (.putfield 451, 3) := by decide +kernel
theorem dX12_join_153 : decode cX12_join 153 = .ok (.iconst 0, 1) := by decide +kernel
theorem dX12_join_154 : decode cX12_join 154 = .ok (.istore 7, 2) := by decide +kernel
theorem dX12_join_156 : decode cX12_join 156 = .ok (.iload 7, 2) := by decide +kernel
theorem dX12_join_158 : decode cX12_join 158 = .ok (.iconst 4, 1) := by decide +kernel
theorem dX12_join_159 : decode cX12_join 159 = .ok (.if_icmp .ge 72, 3) := by decide +kernel
theorem dX12_join_162 : decode cX12_join 162 = .ok (.aload_n 0, 1) := by decide +kernel
theorem dX12_join_163 : decode cX12_join 163 = .ok (.iload_n 2, 1) := by decide +kernel
theorem dX12_join_164 : decode cX12_join 164 = .ok (.iload 7, 2) := by decide +kernel
theorem dX12_join_166 : decode cX12_join 166 = .ok (.invokevirtual 458, 3) := by decide +kernel
theorem dX12_join_169 : decode cX12_join 169 = .ok (.aload_n 0, 1) := by decide +kernel
theorem dX12_join_170 : decode cX12_join 170 = .ok (.getfield 263, 3) := by decide +kernel
theorem dX12_join_173 : decode cX12_join 173 = .ok (.iconst 0, 1) := by decide +kernel
theorem dX12_join_174 : decode cX12_join 174 = .ok (.iaload, 1) := by decide +kernel
theorem dX12_join_175 : decode cX12_join 175 = .ok (.aload_n 0, 1) := by decide +kernel
theorem dX12_join_176 : decode cX12_join 176 = .ok (.getfield 263, 3) := by decide +kernel
theorem dX12_join_179 : decode cX12_join 179 = .ok (.iconst 1, 1) := by decide +kernel
theorem dX12_join_180 : decode cX12_join 180 = .ok (.iaload, 1) := by decide +kernel
theorem dX12_join_181 : decode cX12_join 181 = .ok (.iadd, 1) := by decide +kernel
theorem dX12_join_182 : decode cX12_join 182 = .ok (.ifCond .le 43, 3) := by decide +kernel
theorem dX12_join_185 : decode cX12_join 185 = .ok (.aload_n 0, 1) := by decide +kernel
theorem dX12_join_186 : decode cX12_join 186 = .ok (.aload_n 0, 1) := by decide +kernel
theorem dX12_join_187 : decode cX12_join 187 = .ok (.getfield 266, 3) := by decide +kernel
theorem dX12_join_190 : decode cX12_join 190 = .ok (.iconst 0, 1) := by decide +kernel
theorem dX12_join_191 : decode cX12_join 191 = .ok (.iaload, 1) := by decide +kernel
theorem dX12_join_192 : decode cX12_join 192 = .ok (.i2l, 1) := by decide +kernel
theorem dX12_join_193 : decode cX12_join 193 = .ok (.aload_n 0, 1) := by decide +kernel
theorem dX12_join_194 : decode cX12_join 194 = .ok (.getfield 263, 3) := by decide +kernel
theorem dX12_join_197 : decode cX12_join 197 = .ok (.iconst 1, 1) := by decide +kernel
theorem dX12_join_198 : decode cX12_join 198 = .ok (.iaload, 1) := by decide +kernel
theorem dX12_join_199 : decode cX12_join 199 = .ok (.aload_n 0, 1) := by decide +kernel
theorem dX12_join_200 : decode cX12_join 200 = .ok (.getfield 266, 3) := by decide +kernel
theorem dX12_join_203 : decode cX12_join 203 = .ok (.iconst 1, 1) := by decide +kernel
theorem dX12_join_204 : decode cX12_join 204 = .ok (.iaload, 1) := by decide +kernel
theorem dX12_join_205 : decode cX12_join 205 = .ok (.isub, 1) := by decide +kernel
theorem dX12_join_206 : decode cX12_join 206 = .ok (.i2l, 1) := by decide +kernel
theorem dX12_join_207 : decode cX12_join 207 = .ok (.lmul, 1) := by decide +kernel
theorem dX12_join_208 : decode cX12_join 208 = .ok (.aload_n 0, 1) := by decide +kernel
theorem dX12_join_209 : decode cX12_join 209 = .ok (.getfield 263, 3) := by decide +kernel
theorem dX12_join_212 : decode cX12_join 212 = .ok (.iconst 0, 1) := by decide +kernel
theorem dX12_join_213 : decode cX12_join 213 = .ok (.iaload, 1) := by decide +kernel
theorem dX12_join_214 : decode cX12_join 214 = .ok (.aload_n 0, 1) := by decide +kernel
theorem dX12_join_215 : decode cX12_join 215 = .ok (.getfield 263, 3) := by decide +kernel
theorem dX12_join_218 : decode cX12_join 218 = .ok (.iconst 1, 1) := by decide +kernel
theorem dX12_join_219 : decode cX12_join 219 = .ok (.iaload, 1) := by decide +kernel
theorem dX12_join_220 : decode cX12_join 220 = .ok (.iadd, 1) := by decide +kernel
theorem dX12_join_221 : decode cX12_join 221 = .ok (.i2l, 1) := by decide +kernel
theorem dX12_join_222 : decode cX12_join 222 = .ok (.invokevirtual 461, 3) := by decide +kernel
theorem dX12_join_225 : decode cX12_join 225 = .ok (.iinc 7 1, 3) := by decide +kernel
theorem dX12_join_228 : decode cX12_join 228 = .ok (.goto (-72), 3) := by decide +kernel
theorem dX12_join_231 : decode cX12_join 231 = .ok (.aload_n 0, 1) := by decide +kernel
theorem dX12_join_232 : decode cX12_join 232 = .ok (.iconst 0, 1) := by decide +kernel
theorem dX12_join_233 : decode cX12_join 233 = .ok (.putfield 11, 3) := by decide +kernel
theorem dX12_join_236 : decode cX12_join 236 = .ok (.aload_n 0, 1) := by decide +kernel
theorem dX12_join_237 : decode cX12_join 237 = .ok (.aload_n 0, 1) := by decide +kernel
theorem dX12_join_238 : decode cX12_join 238 = .ok (.getfield 455, 3) := by decide +kernel
theorem dX12_join_241 : decode cX12_join 241 = .ok (.lload 5, 2) := by decide +kernel
theorem dX12_join_243 : decode cX12_join 243 = .ok (.lmul, 1) := by decide +kernel
theorem dX12_join_244 : decode cX12_join 244 = .ok (.aload_n 0, 1) := by decide +kernel
theorem dX12_join_245 : decode cX12_join 245 = .ok (.getfield 451, 3) := by decide +kernel
theorem dX12_join_248 : decode cX12_join 248 = .ok (.lload_n 3, 1) := by decide +kernel
theorem dX12_join_249 : decode cX12_join 249 = .ok (.lmul, 1) := by decide +kernel
theorem dX12_join_250 : decode cX12_join 250 = .ok (.invokevirtual 283, 3) := by decide +kernel
theorem dX12_join_253 : decode cX12_join 253 = .ok (.iconst 0, 1) := by decide +kernel
theorem dX12_join_254 : decode cX12_join 254 = .ok (.ireturn, 1) := by decide +kernel
theorem dX12_bounds_0 : decode cX12_bounds 0 = .ok (.aload_n 0, 1) := by decide +kernel
theorem dX12_bounds_1 : decode cX12_bounds 1 = .ok (.iconst 0, 1) := by decide +kernel
theorem dX12_bounds_2 : decode cX12_bounds 2 = .ok (.putfield 3, 3) := by decide +kernel
theorem dX12_bounds_5 : decode cX12_bounds 5 = .ok (.iload_n 1, 1) := by decide +kernel
theorem dX12_bounds_6 : decode cX12_bounds 6 = .ok (.i2l, 1) := by decide +kernel
theorem dX12_bounds_7 : decode cX12_bounds 7 = .ok (.lconst 0, 1) := by decide +kernel
theorem dX12_bounds_8 : decode cX12_bounds 8 = .ok (.lconst 1, 1) := by decide +kernel
theorem dX12_bounds_9 : decode cX12_bounds 9 = .ok (.invokestatic 29, 3) := by decide +kernel
theorem dX12_bounds_12 : decode cX12_bounds 12 = .ok (.ifCond .ne 5, 3) := by decide +kernel
theorem dX12_bounds_15 : decode cX12_bounds 15 = .ok (.iconst (-1), 1) := by decide +kernel
theorem dX12_bounds_16 : decode cX12_bounds 16 = .ok (.ireturn, 1) := by decide +kernel
theorem dX12_bounds_17 : decode cX12_bounds 17 = .ok (.iconst 0, 1) := by decide +kernel
theorem dX12_bounds_18 : decode cX12_bounds 18 = .ok (.istore_n 2, 1) := by decide +kernel
theorem dX12_bounds_19 : decode cX12_bounds 19 = .ok (.iconst 0, 1) := by decide +kernel
theorem dX12_bounds_20 : decode cX12_bounds 20 = .ok (.istore_n 3, 1) := by decide +kernel
theorem dX12_bounds_21 : decode cX12_bounds 21 = .ok (.iconst 0, 1) := by decide +kernel
theorem dX12_bounds_22 : decode cX12_bounds 22 = .ok (.istore 4, 2) := by decide +kernel
theorem dX12_bounds_24 : decode cX12_bounds 24 = .ok (.iconst 0, 1) := by decide +kernel
theorem dX12_bounds_25 : decode cX12_bounds 25 = .ok (.istore 5, 2) := by decide +kernel
theorem dX12_bounds_27 : decode cX12_bounds 27 = .ok (.iload 5, 2) := by decide +kernel
theorem dX12_bounds_29 : decode cX12_bounds 29 = .ok (.aload_n 0, 1) := by decide +kernel
theorem dX12_bounds_30 : decode cX12_bounds 30 = .ok (.getfield 36, 3) := by decide +kernel
theorem dX12_bounds_33 : decode cX12_bounds 33 = .ok (.if_icmp .ge 87, 3) := by decide +kernel
theorem dX12_bounds_36 : decode cX12_bounds 36 = .ok (.aload_n 0, 1) := by decide +kernel
theorem dX12_bounds_37 : decode cX12_bounds 37 = .ok (.getfield 89, 3) := by decide +kernel
theorem dX12_bounds_40 : decode cX12_bounds 40 = .ok (.iload 5, 2) := by decide +kernel
theorem dX12_bounds_42 : decode cX12_bounds 42 = .ok (.baload, 1) := by decide +kernel
theorem dX12_bounds_43 : decode cX12_bounds 43 = .ok (.ifCond .eq 71, 3) := by decide +kernel
theorem dX12_bounds_46 : decode cX12_bounds 46 = .ok (.aload_n 0, 1) := by decide +kernel
theorem dX12_bounds_47 : decode cX12_bounds 47 = .ok (.iload 5, 2) := by decide +kernel
theorem dX12_bounds_49 : decode cX12_bounds 49 = .ok (.invokevirtual 273, 3) := by decide +kernel
theorem dX12_bounds_52 : decode cX12_bounds 52 = .ok (.iload_n 1, 1) := by decide +kernel
theorem dX12_bounds_53 : decode cX12_bounds 53 = .ok (.if_icmp .ne 61, 3) := by decide +kernel
theorem dX12_bounds_56 : decode cX12_bounds 56 = .ok (.iinc 2 1, 3) := by decide +kernel
theorem dX12_bounds_59 : decode cX12_bounds 59 = .ok (.iload_n 3, 1) := by decide +kernel
theorem dX12_bounds_60 : decode cX12_bounds 60 = .ok (.aload_n 0, 1) := by decide +kernel
theorem dX12_bounds_61 : decode cX12_bounds 61 = .ok (.getfield 96, 3) := by decide +kernel
theorem dX12_bounds_64 : decode cX12_bounds 64 = .ok (.iload 5, 2) := by decide +kernel
theorem dX12_bounds_66 : decode cX12_bounds 66 = .ok (.iaload, 1) := by decide +kernel
theorem dX12_bounds_67 : decode cX12_bounds 67 = .ok (.iconst 1, 1) := by decide +kernel
theorem dX12_bounds_68 : decode cX12_bounds 68 = .ok (.if_icmp .ne 7, 3) := by decide +kernel
theorem dX12_bounds_71 : decode cX12_bounds 71 = .ok (.iconst 1, 1) := by decide +kernel
theorem dX12_bounds_72 : decode cX12_bounds 72 = .ok (.goto 4, 3) := by decide +kernel
theorem dX12_bounds_75 : decode cX12_bounds 75 = .ok (.iconst 0, 1) := by decide +kernel
theorem dX12_bounds_76 : decode cX12_bounds 76 = .ok (.invokestatic 70, 3) := by decide +kernel
theorem dX12_bounds_79 : decode cX12_bounds 79 = .ok (.iadd, 1) := by decide +kernel
theorem dX12_bounds_80 : decode cX12_bounds 80 = .ok (.istore_n 3, 1) := by decide +kernel
theorem dX12_bounds_81 : decode cX12_bounds 81 = .ok (.iload 4, 2) := by decide +kernel
theorem dX12_bounds_83 : decode cX12_bounds 83 = .ok (.aload_n 0, 1) := by decide +kernel
theorem dX12_bounds_84 : decode cX12_bounds 84 = .ok (.getfield 93, 3) := by decide +kernel
theorem dX12_bounds_87 : decode cX12_bounds 87 = .ok (.iload 5, 2) := by decide +kernel
theorem dX12_bounds_89 : decode cX12_bounds 89 = .ok (.baload, 1) := by decide +kernel
theorem dX12_bounds_90 : decode cX12_bounds 90 = .ok (.ifCond .eq 17, 3) := by decide +kernel
theorem dX12_bounds_93 : decode cX12_bounds 93 = .ok (.aload_n 0, 1) := by decide +kernel
theorem dX12_bounds_94 : decode cX12_bounds 94 = .ok (.getfield 96, 3) := by decide +kernel
theorem dX12_bounds_97 : decode cX12_bounds 97 = .ok (.iload 5, 2) := by decide +kernel
theorem dX12_bounds_99 : decode cX12_bounds 99 = .ok (.iaload, 1) := by decide +kernel
theorem dX12_bounds_100 : decode cX12_bounds 100 = .ok (.ifCond .ne 7, 3) := by decide +kernel
theorem dX12_bounds_103 : decode cX12_bounds 103 = .ok (.iconst 1, 1) := by decide +kernel
theorem dX12_bounds_104 : decode cX12_bounds 104 = .ok (.goto 4, 3) := by decide +kernel
theorem dX12_bounds_107 : decode cX12_bounds 107 = .ok (.iconst 0, 1) := by decide +kernel
theorem dX12_bounds_108 : decode cX12_bounds 108 = .ok (.invokestatic 70, 3) := by decide +kernel
theorem dX12_bounds_111 : decode cX12_bounds 111 = .ok (.iadd, 1) := by decide +kernel
theorem dX12_bounds_112 : decode cX12_bounds 112 = .ok (.istore 4, 2) := by decide +kernel
theorem dX12_bounds_114 : decode cX12_bounds 114 = .ok (.iinc 5 1, 3) := by decide +kernel
theorem dX12_bounds_117 : decode cX12_bounds 117 = .ok (.goto (-90), 3) := by decide +kernel
theorem dX12_bounds_120 : decode cX12_bounds 120 = .ok (.iload_n 2, 1) := by decide +kernel
theorem dX12_bounds_121 : decode cX12_bounds 121 = .ok (.ifCond .ne 6, 3) := by decide +kernel
theorem dX12_bounds_124 : decode cX12_bounds 124 = .ok (.bipush (-2), 2) := by decide +kernel
theorem dX12_bounds_126 : decode cX12_bounds 126 = .ok (.ireturn, 1) := by decide +kernel
theorem dX12_bounds_127 : decode cX12_bounds 127 = .ok (.aload_n 0, 1) := by decide +kernel
theorem dX12_bounds_128 : decode cX12_bounds 128 = .ok (.iconst 0, 1) := by decide +kernel
theorem dX12_bounds_129 : decode cX12_bounds 129 = .ok (.putfield 11, 3) := by decide +kernel
theorem dX12_bounds_132 : decode cX12_bounds 132 = .ok (.aload_n 0, 1) := by decide +kernel
theorem dX12_bounds_133 : decode cX12_bounds 133 = .ok (.iload_n 3, 1) := by decide +kernel
theorem dX12_bounds_134 : decode cX12_bounds 134 = .ok (.i2l, 1) := by decide +kernel
theorem dX12_bounds_135 : decode cX12_bounds 135 = .ok (.iload_n 2, 1) := by decide +kernel
theorem dX12_bounds_136 : decode cX12_bounds 136 = .ok (.i2l, 1) := by decide +kernel
theorem dX12_bounds_137 : decode cX12_bounds 137 = .ok (.invokevirtual 283, 3) := by decide +kernel
theorem dX12_bounds_140 : decode cX12_bounds 140 = .ok (.aload_n 0, 1) := by decide +kernel
theorem dX12_bounds_141 : decode cX12_bounds 141 = .ok (.iload_n 3, 1) := by decide +kernel
theorem dX12_bounds_142 : decode cX12_bounds 142 = .ok (.iload 4, 2) := by decide +kernel
theorem dX12_bounds_144 : decode cX12_bounds 144 = .ok (.iadd, 1) := by decide +kernel
theorem dX12_bounds_145 : decode cX12_bounds 145 = .ok (.i2l, 1) := by decide +kernel
theorem dX12_bounds_146 : decode cX12_bounds 146 = .ok (.iload_n 2, 1) := by decide +kernel
theorem dX12_bounds_147 : decode cX12_bounds 147 = .ok (.i2l, 1) := by decide +kernel
theorem dX12_bounds_148 : decode cX12_bounds 148 = .ok (.invokevirtual 283, 3) := by decide +kernel
theorem dX12_bounds_151 : decode cX12_bounds 151 = .ok (.iload 4, 2) := by decide +kernel
theorem dX12_bounds_153 : decode cX12_bounds 153 = .ok (.ireturn, 1) := by decide +kernel
theorem dX12_countsWorth_0 : decode cX12_countsWorth 0 = .ok (.aload_n 0, 1) := by decide +kernel
theorem dX12_countsWorth_1 : decode cX12_countsWorth 1 = .ok (.getfield 263, 3) := by decide +kernel
theorem dX12_countsWorth_4 : decode cX12_countsWorth 4 = .ok (.iload_n 1, 1) := by decide +kernel
theorem dX12_countsWorth_5 : decode cX12_countsWorth 5 = .ok (.iconst 0, 1) := by decide +kernel
theorem dX12_countsWorth_6 : decode cX12_countsWorth 6 = .ok (.iastore, 1) := by decide +kernel
theorem dX12_countsWorth_7 : decode cX12_countsWorth 7 = .ok (.aload_n 0, 1) := by decide +kernel
theorem dX12_countsWorth_8 : decode cX12_countsWorth 8 = .ok (.getfield 266, 3) := by decide +kernel
theorem dX12_countsWorth_11 : decode cX12_countsWorth 11 = .ok (.iload_n 1, 1) := by decide +kernel
theorem dX12_countsWorth_12 : decode cX12_countsWorth 12 = .ok (.iconst 0, 1) := by decide +kernel
theorem dX12_countsWorth_13 : decode cX12_countsWorth 13 = .ok (.iastore, 1) := by decide +kernel
theorem dX12_countsWorth_14 : decode cX12_countsWorth 14 = .ok (.iconst 0, 1) := by decide +kernel
theorem dX12_countsWorth_15 : decode cX12_countsWorth 15 = .ok (.istore_n 3, 1) := by decide +kernel
theorem dX12_countsWorth_16 : decode cX12_countsWorth 16 = .ok (.iload_n 3, 1) := by decide +kernel
theorem dX12_countsWorth_17 : decode cX12_countsWorth 17 = .ok (.aload_n 0, 1) := by decide +kernel
theorem dX12_countsWorth_18 : decode cX12_countsWorth 18 = .ok (.getfield 36, 3) := by decide +kernel
theorem dX12_countsWorth_21 : decode cX12_countsWorth 21 = .ok (.if_icmp .ge 65, 3) := by decide +kernel
theorem dX12_countsWorth_24 : decode cX12_countsWorth 24 = .ok (.aload_n 0, 1) := by decide +kernel
theorem dX12_countsWorth_25 : decode cX12_countsWorth 25 = .ok (.getfield 89, 3) := by decide +kernel
theorem dX12_countsWorth_28 : decode cX12_countsWorth 28 = .ok (.iload_n 3, 1) := by decide +kernel
theorem dX12_countsWorth_29 : decode cX12_countsWorth 29 = .ok (.baload, 1) := by decide +kernel
theorem dX12_countsWorth_30 : decode cX12_countsWorth 30 = .ok (.ifCond .eq 50, 3) := by decide +kernel
theorem dX12_countsWorth_33 : decode cX12_countsWorth 33 = .ok (.aload_n 0, 1) := by decide +kernel
theorem dX12_countsWorth_34 : decode cX12_countsWorth 34 = .ok (.iload_n 3, 1) := by decide +kernel
theorem dX12_countsWorth_35 : decode cX12_countsWorth 35 = .ok (.invokevirtual 273, 3) := by decide +kernel
theorem dX12_countsWorth_38 : decode cX12_countsWorth 38 = .ok (.iload_n 1, 1) := by decide +kernel
theorem dX12_countsWorth_39 : decode cX12_countsWorth 39 = .ok (.if_icmp .ne 41, 3) := by decide +kernel
theorem dX12_countsWorth_42 : decode cX12_countsWorth 42 = .ok (.aload_n 0, 1) := by decide +kernel
theorem dX12_countsWorth_43 : decode cX12_countsWorth 43 = .ok (.getfield 77, 3) := by decide +kernel
theorem dX12_countsWorth_46 : decode cX12_countsWorth 46 = .ok (.iload_n 3, 1) := by decide +kernel
theorem dX12_countsWorth_47 : decode cX12_countsWorth 47 = .ok (.iaload, 1) := by decide +kernel
theorem dX12_countsWorth_48 : decode cX12_countsWorth 48 = .ok (.iload_n 2, 1) := by decide +kernel
theorem dX12_countsWorth_49 : decode cX12_countsWorth 49 = .ok (.if_icmp .lt 31, 3) := by decide +kernel
theorem dX12_countsWorth_52 : decode cX12_countsWorth 52 = .ok (.aload_n 0, 1) := by decide +kernel
theorem dX12_countsWorth_53 : decode cX12_countsWorth 53 = .ok (.getfield 263, 3) := by decide +kernel
theorem dX12_countsWorth_56 : decode cX12_countsWorth 56 = .ok (.iload_n 1, 1) := by decide +kernel
theorem dX12_countsWorth_57 : decode cX12_countsWorth 57 = .ok (.dup2, 1) := by decide +kernel
theorem dX12_countsWorth_58 : decode cX12_countsWorth 58 = .ok (.iaload, 1) := by decide +kernel
theorem dX12_countsWorth_59 : decode cX12_countsWorth 59 = .ok (.iconst 1, 1) := by decide +kernel
theorem dX12_countsWorth_60 : decode cX12_countsWorth 60 = .ok (.iadd, 1) := by decide +kernel
theorem dX12_countsWorth_61 : decode cX12_countsWorth 61 = .ok (.iastore, 1) := by decide +kernel
theorem dX12_countsWorth_62 : decode cX12_countsWorth 62 = .ok (.aload_n 0, 1) := by decide +kernel
theorem dX12_countsWorth_63 : decode cX12_countsWorth 63 = .ok (.getfield 266, 3) := by decide +kernel
theorem dX12_countsWorth_66 : decode cX12_countsWorth 66 = .ok (.iload_n 1, 1) := by decide +kernel
theorem dX12_countsWorth_67 : decode cX12_countsWorth 67 = .ok (.dup2, 1) := by decide +kernel
theorem dX12_countsWorth_68 : decode cX12_countsWorth 68 = .ok (.iaload, 1) := by decide +kernel
theorem dX12_countsWorth_69 : decode cX12_countsWorth 69 = .ok (.aload_n 0, 1) := by decide +kernel
theorem dX12_countsWorth_70 : decode cX12_countsWorth 70 = .ok (.getfield 93, 3) := by decide +kernel
theorem dX12_countsWorth_73 : decode cX12_countsWorth 73 = .ok (.iload_n 3, 1) := by decide +kernel
theorem dX12_countsWorth_74 : decode cX12_countsWorth 74 = .ok (.baload, 1) := by decide +kernel
theorem dX12_countsWorth_75 : decode cX12_countsWorth 75 = .ok (.invokestatic 70, 3) := by decide +kernel
theorem dX12_countsWorth_78 : decode cX12_countsWorth 78 = .ok (.iadd, 1) := by decide +kernel
theorem dX12_countsWorth_79 : decode cX12_countsWorth 79 = .ok (.iastore, 1) := by decide +kernel
theorem dX12_countsWorth_80 : decode cX12_countsWorth 80 = .ok (.iinc 3 1, 3) := by decide +kernel
theorem dX12_countsWorth_83 : decode cX12_countsWorth 83 = .ok (.goto (-67), 3) := by decide +kernel
theorem dX12_countsWorth_86 : decode cX12_countsWorth 86 = .ok (.return_, 1) := by decide +kernel
theorem dX12_years_0 : decode cX12_years 0 = .ok (.aload_n 0, 1) := by decide +kernel
theorem dX12_years_1 : decode cX12_years 1 = .ok (.iconst 0, 1) := by decide +kernel
theorem dX12_years_2 : decode cX12_years 2 = .ok (.putfield 3, 3) := by decide +kernel
theorem dX12_years_5 : decode cX12_years 5 = .ok (.iload_n 1, 1) := by decide +kernel
theorem dX12_years_6 : decode cX12_years 6 = .ok (.i2l, 1) := by decide +kernel
theorem dX12_years_7 : decode cX12_years 7 = .ok (.lconst 0, 1) := by decide +kernel
theorem dX12_years_8 : decode cX12_years 8 = .ok (.ldc2_w 106, 3) := by decide +kernel
theorem dX12_years_11 : decode cX12_years 11 = .ok (.invokestatic 29, 3) := by decide +kernel
theorem dX12_years_14 : decode cX12_years 14 = .ok (.ifCond .ne 5, 3) := by decide +kernel
theorem dX12_years_17 : decode cX12_years 17 = .ok (.iconst (-1), 1) := by decide +kernel
theorem dX12_years_18 : decode cX12_years 18 = .ok (.ireturn, 1) := by decide +kernel
theorem dX12_years_19 : decode cX12_years 19 = .ok (.aload_n 0, 1) := by decide +kernel
theorem dX12_years_20 : decode cX12_years 20 = .ok (.iconst 0, 1) := by decide +kernel
theorem dX12_years_21 : decode cX12_years 21 = .ok (.iload_n 1, 1) := by decide +kernel
theorem dX12_years_22 : decode cX12_years 22 = .ok (.invokevirtual 464, 3) := by decide +kernel
theorem dX12_years_25 : decode cX12_years 25 = .ok (.iconst 0, 1) := by decide +kernel
theorem dX12_years_26 : decode cX12_years 26 = .ok (.istore_n 2, 1) := by decide +kernel
theorem dX12_years_27 : decode cX12_years 27 = .ok (.iload_n 2, 1) := by decide +kernel
theorem dX12_years_28 : decode cX12_years 28 = .ok (.bipush 99, 2) := by decide +kernel
theorem dX12_years_30 : decode cX12_years 30 = .ok (.if_icmp .gt 78, 3) := by decide +kernel
theorem dX12_years_33 : decode cX12_years 33 = .ok (.aload_n 0, 1) := by decide +kernel
theorem dX12_years_34 : decode cX12_years 34 = .ok (.iconst 1, 1) := by decide +kernel
theorem dX12_years_35 : decode cX12_years 35 = .ok (.iload_n 1, 1) := by decide +kernel
theorem dX12_years_36 : decode cX12_years 36 = .ok (.iload_n 2, 1) := by decide +kernel
theorem dX12_years_37 : decode cX12_years 37 = .ok (.iadd, 1) := by decide +kernel
theorem dX12_years_38 : decode cX12_years 38 = .ok (.invokevirtual 464, 3) := by decide +kernel
theorem dX12_years_41 : decode cX12_years 41 = .ok (.aload_n 0, 1) := by decide +kernel
theorem dX12_years_42 : decode cX12_years 42 = .ok (.invokevirtual 287, 3) := by decide +kernel
theorem dX12_years_45 : decode cX12_years 45 = .ok (.ifCond .eq 57, 3) := by decide +kernel
theorem dX12_years_48 : decode cX12_years 48 = .ok (.aload_n 0, 1) := by decide +kernel
theorem dX12_years_49 : decode cX12_years 49 = .ok (.getfield 266, 3) := by decide +kernel
theorem dX12_years_52 : decode cX12_years 52 = .ok (.iconst 1, 1) := by decide +kernel
theorem dX12_years_53 : decode cX12_years 53 = .ok (.iaload, 1) := by decide +kernel
theorem dX12_years_54 : decode cX12_years 54 = .ok (.aload_n 0, 1) := by decide +kernel
theorem dX12_years_55 : decode cX12_years 55 = .ok (.getfield 263, 3) := by decide +kernel
theorem dX12_years_58 : decode cX12_years 58 = .ok (.iconst 0, 1) := by decide +kernel
theorem dX12_years_59 : decode cX12_years 59 = .ok (.iaload, 1) := by decide +kernel
theorem dX12_years_60 : decode cX12_years 60 = .ok (.imul, 1) := by decide +kernel
theorem dX12_years_61 : decode cX12_years 61 = .ok (.aload_n 0, 1) := by decide +kernel
theorem dX12_years_62 : decode cX12_years 62 = .ok (.getfield 266, 3) := by decide +kernel
theorem dX12_years_65 : decode cX12_years 65 = .ok (.iconst 0, 1) := by decide +kernel
theorem dX12_years_66 : decode cX12_years 66 = .ok (.iaload, 1) := by decide +kernel
theorem dX12_years_67 : decode cX12_years 67 = .ok (.aload_n 0, 1) := by decide +kernel
theorem dX12_years_68 : decode cX12_years 68 = .ok (.getfield 263, 3) := by decide +kernel
theorem dX12_years_71 : decode cX12_years 71 = .ok (.iconst 1, 1) := by decide +kernel
theorem dX12_years_72 : decode cX12_years 72 = .ok (.iaload, 1) := by decide +kernel
theorem dX12_years_73 : decode cX12_years 73 = .ok (.imul, 1) := by decide +kernel
theorem dX12_years_74 : decode cX12_years 74 = .ok (.if_icmp .lt 28, 3) := by decide +kernel
theorem dX12_years_77 : decode cX12_years 77 = .ok (.aload_n 0, 1) := by decide +kernel
theorem dX12_years_78 : decode cX12_years 78 = .ok (.iconst 0, 1) := by decide +kernel
theorem dX12_years_79 : decode cX12_years 79 = .ok (.putfield 11, 3) := by decide +kernel
theorem dX12_years_82 : decode cX12_years 82 = .ok (.aload_n 0, 1) := by decide +kernel
theorem dX12_years_83 : decode cX12_years 83 = .ok (.aload_n 0, 1) := by decide +kernel
theorem dX12_years_84 : decode cX12_years 84 = .ok (.getfield 266, 3) := by decide +kernel
theorem dX12_years_87 : decode cX12_years 87 = .ok (.iconst 1, 1) := by decide +kernel
theorem dX12_years_88 : decode cX12_years 88 = .ok (.iaload, 1) := by decide +kernel
theorem dX12_years_89 : decode cX12_years 89 = .ok (.i2l, 1) := by decide +kernel
theorem dX12_years_90 : decode cX12_years 90 = .ok (.aload_n 0, 1) := by decide +kernel
theorem dX12_years_91 : decode cX12_years 91 = .ok (.getfield 263, 3) := by decide +kernel
theorem dX12_years_94 : decode cX12_years 94 = .ok (.iconst 1, 1) := by decide +kernel
theorem dX12_years_95 : decode cX12_years 95 = .ok (.iaload, 1) := by decide +kernel
theorem dX12_years_96 : decode cX12_years 96 = .ok (.i2l, 1) := by decide +kernel
theorem dX12_years_97 : decode cX12_years 97 = .ok (.invokevirtual 283, 3) := by decide +kernel
theorem dX12_years_100 : decode cX12_years 100 = .ok (.iload_n 2, 1) := by decide +kernel
theorem dX12_years_101 : decode cX12_years 101 = .ok (.ireturn, 1) := by decide +kernel
theorem dX12_years_102 : decode cX12_years 102 = .ok (.iinc 2 1, 3) := by decide +kernel
theorem dX12_years_105 : decode cX12_years 105 = .ok (.goto (-78), 3) := by decide +kernel
theorem dX12_years_108 : decode cX12_years 108 = .ok (.bipush (-2), 2) := by decide +kernel
theorem dX12_years_110 : decode cX12_years 110 = .ok (.ireturn, 1) := by decide +kernel
theorem dX12_mornings_0 : decode cX12_mornings 0 = .ok (.aload_n 0, 1) := by decide +kernel
theorem dX12_mornings_1 : decode cX12_mornings 1 = .ok (.iconst 0, 1) := by decide +kernel
theorem dX12_mornings_2 : decode cX12_mornings 2 = .ok (.putfield 3, 3) := by decide +kernel
theorem dX12_mornings_5 : decode cX12_mornings 5 = .ok (.iload_n 1, 1) := by decide +kernel
theorem dX12_mornings_6 : decode cX12_mornings 6 = .ok (.i2l, 1) := by decide +kernel
theorem dX12_mornings_7 : decode cX12_mornings 7 = .ok (.lconst 0, 1) := by decide +kernel
theorem dX12_mornings_8 : decode cX12_mornings 8 = .ok (.ldc2_w 106, 3) := by decide +kernel
theorem dX12_mornings_11 : decode cX12_mornings 11 = .ok (.invokestatic 29, 3) := by decide +kernel
theorem dX12_mornings_14 : decode cX12_mornings 14 = .ok (.ifCond .eq 27, 3) := by decide +kernel
theorem dX12_mornings_17 : decode cX12_mornings 17 = .ok (.iload_n 2, 1) := by decide +kernel
theorem dX12_mornings_18 : decode cX12_mornings 18 = .ok (.i2l, 1) := by decide +kernel
theorem dX12_mornings_19 : decode cX12_mornings 19 = .ok (.lconst 0, 1) := by decide +kernel
theorem dX12_mornings_20 : decode cX12_mornings 20 = .ok (.ldc2_w 106, 3) := by decide +kernel
theorem dX12_mornings_23 : decode cX12_mornings 23 = .ok (.invokestatic 29, 3) := by decide +kernel
theorem dX12_mornings_26 : decode cX12_mornings 26 = .ok (.ifCond .eq 15, 3) := by decide +kernel
theorem dX12_mornings_29 : decode cX12_mornings 29 = .ok (.iload_n 3, 1) := by decide +kernel
theorem dX12_mornings_30 : decode cX12_mornings 30 = .ok (.i2l, 1) := by decide +kernel
theorem dX12_mornings_31 : decode cX12_mornings 31 = .ok (.lconst 0, 1) := by decide +kernel
theorem dX12_mornings_32 : decode cX12_mornings 32 = .ok (.ldc2_w 467, 3) := by decide +kernel
theorem dX12_mornings_35 : decode cX12_mornings 35 = .ok (.invokestatic 29, 3) := by decide +kernel
theorem dX12_mornings_38 : decode cX12_mornings 38 = .ok (.ifCond .ne 5, 3) := by decide +kernel
theorem dX12_mornings_41 : decode cX12_mornings 41 = .ok (.iconst (-1), 1) := by decide +kernel
theorem dX12_mornings_42 : decode cX12_mornings 42 = .ok (.ireturn, 1) := by decide +kernel
theorem dX12_mornings_43 : decode cX12_mornings 43 = .ok (.iconst 0, 1) := by decide +kernel
theorem dX12_mornings_44 : decode cX12_mornings 44 = .ok (.istore 4, 2) := by decide +kernel
theorem dX12_mornings_46 : decode cX12_mornings 46 = .ok (.iconst (-1), 1) := by decide +kernel
theorem dX12_mornings_47 : decode cX12_mornings 47 = .ok (.istore 5, 2) := by decide +kernel
theorem dX12_mornings_49 : decode cX12_mornings 49 = .ok (.iconst 0, 1) := by decide +kernel
theorem dX12_mornings_50 : decode cX12_mornings 50 = .ok (.istore 6, 2) := by decide +kernel
theorem dX12_mornings_52 : decode cX12_mornings 52 = .ok (.iconst 0, 1) := by decide +kernel
theorem dX12_mornings_53 : decode cX12_mornings 53 = .ok (.istore 7, 2) := by decide +kernel
theorem dX12_mornings_55 : decode cX12_mornings 55 = .ok (.iload 7, 2) := by decide +kernel
theorem dX12_mornings_57 : decode cX12_mornings 57 = .ok (.aload_n 0, 1) := by decide +kernel
theorem dX12_mornings_58 : decode cX12_mornings 58 = .ok (.getfield 33, 3) := by decide +kernel
theorem dX12_mornings_61 : decode cX12_mornings 61 = .ok (.if_icmp .ge 128, 3) := by decide +kernel
theorem dX12_mornings_64 : decode cX12_mornings 64 = .ok (.iconst 0, 1) := by decide +kernel
theorem dX12_mornings_65 : decode cX12_mornings 65 = .ok (.istore 8, 2) := by decide +kernel
theorem dX12_mornings_67 : decode cX12_mornings 67 = .ok (.iconst 0, 1) := by decide +kernel
theorem dX12_mornings_68 : decode cX12_mornings 68 = .ok (.istore 9, 2) := by decide +kernel
theorem dX12_mornings_70 : decode cX12_mornings 70 = .ok (.iload 9, 2) := by decide +kernel
theorem dX12_mornings_72 : decode cX12_mornings 72 = .ok (.aload_n 0, 1) := by decide +kernel
theorem dX12_mornings_73 : decode cX12_mornings 73 = .ok (.getfield 36, 3) := by decide +kernel
theorem dX12_mornings_76 : decode cX12_mornings 76 = .ok (.if_icmp .ge 80, 3) := by decide +kernel
theorem dX12_mornings_79 : decode cX12_mornings 79 = .ok (.aload_n 0, 1) := by decide +kernel
theorem dX12_mornings_80 : decode cX12_mornings 80 = .ok (.getfield 67, 3) := by decide +kernel
theorem dX12_mornings_83 : decode cX12_mornings 83 = .ok (.iload 9, 2) := by decide +kernel
theorem dX12_mornings_85 : decode cX12_mornings 85 = .ok (.iaload, 1) := by decide +kernel
theorem dX12_mornings_86 : decode cX12_mornings 86 = .ok (.iload 7, 2) := by decide +kernel
theorem dX12_mornings_88 : decode cX12_mornings 88 = .ok (.if_icmp .ne 62, 3) := by decide +kernel
theorem dX12_mornings_91 : decode cX12_mornings 91 = .ok (.aload_n 0, 1) := by decide +kernel
theorem dX12_mornings_92 : decode cX12_mornings 92 = .ok (.getfield 89, 3) := by decide +kernel
theorem dX12_mornings_95 : decode cX12_mornings 95 = .ok (.iload 9, 2) := by decide +kernel
theorem dX12_mornings_97 : decode cX12_mornings 97 = .ok (.baload, 1) := by decide +kernel
theorem dX12_mornings_98 : decode cX12_mornings 98 = .ok (.ifCond .eq 52, 3) := by decide +kernel
theorem dX12_mornings_101 : decode cX12_mornings 101 = .ok (.iload 8, 2) := by decide +kernel
theorem dX12_mornings_103 : decode cX12_mornings 103 = .ok (.iload_n 1, 1) := by decide +kernel
theorem dX12_mornings_104 : decode cX12_mornings 104 = .ok (.aload_n 0, 1) := by decide +kernel
theorem dX12_mornings_105 : decode cX12_mornings 105 = .ok (.getfield 93, 3) := by decide +kernel
theorem dX12_mornings_108 : decode cX12_mornings 108 = .ok (.iload 9, 2) := by decide +kernel
theorem dX12_mornings_110 : decode cX12_mornings 110 = .ok (.baload, 1) := by decide +kernel
theorem dX12_mornings_111 : decode cX12_mornings 111 = .ok (.ifCond .eq 7, 3) := by decide +kernel
theorem dX12_mornings_114 : decode cX12_mornings 114 = .ok (.iload_n 2, 1) := by decide +kernel
theorem dX12_mornings_115 : decode cX12_mornings 115 = .ok (.goto 4, 3) := by decide +kernel
theorem dX12_mornings_118 : decode cX12_mornings 118 = .ok (.iconst 0, 1) := by decide +kernel
theorem dX12_mornings_119 : decode cX12_mornings 119 = .ok (.iadd, 1) := by decide +kernel
theorem dX12_mornings_120 : decode cX12_mornings 120 = .ok (.aload_n 0, 1) := by decide +kernel
theorem dX12_mornings_121 : decode cX12_mornings 121 = .ok (.getfield 93, 3) := by decide +kernel
theorem dX12_mornings_124 : decode cX12_mornings 124 = .ok (.iload 9, 2) := by decide +kernel
theorem dX12_mornings_126 : decode cX12_mornings 126 = .ok (.baload, 1) := by decide +kernel
theorem dX12_mornings_127 : decode cX12_mornings 127 = .ok (.ifCond .eq 18, 3) := by decide +kernel
theorem dX12_mornings_130 : decode cX12_mornings 130 = .ok (.aload_n 0, 1) := by decide +kernel
theorem dX12_mornings_131 : decode cX12_mornings 131 = .ok (.getfield 96, 3) := by decide +kernel
theorem dX12_mornings_134 : decode cX12_mornings 134 = .ok (.iload 9, 2) := by decide +kernel
theorem dX12_mornings_136 : decode cX12_mornings 136 = .ok (.iaload, 1) := by decide +kernel
theorem dX12_mornings_137 : decode cX12_mornings 137 = .ok (.iconst 2, 1) := by decide +kernel
theorem dX12_mornings_138 : decode cX12_mornings 138 = .ok (.if_icmp .ne 7, 3) := by decide +kernel
theorem dX12_mornings_141 : decode cX12_mornings 141 = .ok (.iload_n 3, 1) := by decide +kernel
theorem dX12_mornings_142 : decode cX12_mornings 142 = .ok (.goto 4, 3) := by decide +kernel
theorem dX12_mornings_145 : decode cX12_mornings 145 = .ok (.iconst 0, 1) := by decide +kernel
theorem dX12_mornings_146 : decode cX12_mornings 146 = .ok (.iadd, 1) := by decide +kernel
theorem dX12_mornings_147 : decode cX12_mornings 147 = .ok (.iadd, 1) := by decide +kernel
theorem dX12_mornings_148 : decode cX12_mornings 148 = .ok (.istore 8, 2) := by decide +kernel
theorem dX12_mornings_150 : decode cX12_mornings 150 = .ok (.iinc 9 1, 3) := by decide +kernel
theorem dX12_mornings_153 : decode cX12_mornings 153 = .ok (.goto (-83), 3) := by decide +kernel
theorem dX12_mornings_156 : decode cX12_mornings 156 = .ok (.iload 4, 2) := by decide +kernel
theorem dX12_mornings_158 : decode cX12_mornings 158 = .ok (.iload 8, 2) := by decide +kernel
theorem dX12_mornings_160 : decode cX12_mornings 160 = .ok (.iadd, 1) := by decide +kernel
theorem dX12_mornings_161 : decode cX12_mornings 161 = .ok (.istore 4, 2) := by decide +kernel
theorem dX12_mornings_163 : decode cX12_mornings 163 = .ok (.iload 5, 2) := by decide +kernel
theorem dX12_mornings_165 : decode cX12_mornings 165 = .ok (.ifCond .lt 10, 3) := by decide +kernel
theorem dX12_mornings_168 : decode cX12_mornings 168 = .ok (.iload 8, 2) := by decide +kernel
theorem dX12_mornings_170 : decode cX12_mornings 170 = .ok (.iload 6, 2) := by decide +kernel
theorem dX12_mornings_172 : decode cX12_mornings 172 = .ok (.if_icmp .le 11, 3) := by decide +kernel
theorem dX12_mornings_175 : decode cX12_mornings 175 = .ok (.iload 7, 2) := by decide +kernel
theorem dX12_mornings_177 : decode cX12_mornings 177 = .ok (.istore 5, 2) := by decide +kernel
theorem dX12_mornings_179 : decode cX12_mornings 179 = .ok (.iload 8, 2) := by decide +kernel
theorem dX12_mornings_181 : decode cX12_mornings 181 = .ok (.istore 6, 2) := by decide +kernel
theorem dX12_mornings_183 : decode cX12_mornings 183 = .ok (.iinc 7 1, 3) := by decide +kernel
theorem dX12_mornings_186 : decode cX12_mornings 186 = .ok (.goto (-131), 3) := by decide +kernel
theorem dX12_mornings_189 : decode cX12_mornings 189 = .ok (.aload_n 0, 1) := by decide +kernel
theorem dX12_mornings_190 : decode cX12_mornings 190 = .ok (.iconst 0, 1) := by decide +kernel
theorem dX12_mornings_191 : decode cX12_mornings 191 = .ok (.putfield 11, 3) := by decide +kernel
theorem dX12_mornings_194 : decode cX12_mornings 194 = .ok (.aload_n 0, 1) := by decide +kernel
theorem dX12_mornings_195 : decode cX12_mornings 195 = .ok (.iload 5, 2) := by decide +kernel
theorem dX12_mornings_197 : decode cX12_mornings 197 = .ok (.i2l, 1) := by decide +kernel
theorem dX12_mornings_198 : decode cX12_mornings 198 = .ok (.invokevirtual 18, 3) := by decide +kernel
theorem dX12_mornings_201 : decode cX12_mornings 201 = .ok (.aload_n 0, 1) := by decide +kernel
theorem dX12_mornings_202 : decode cX12_mornings 202 = .ok (.iload 6, 2) := by decide +kernel
theorem dX12_mornings_204 : decode cX12_mornings 204 = .ok (.i2l, 1) := by decide +kernel
theorem dX12_mornings_205 : decode cX12_mornings 205 = .ok (.invokevirtual 18, 3) := by decide +kernel
theorem dX12_mornings_208 : decode cX12_mornings 208 = .ok (.iload 4, 2) := by decide +kernel
theorem dX12_mornings_210 : decode cX12_mornings 210 = .ok (.ireturn, 1) := by decide +kernel
theorem dX12_asked_0 : decode cX12_asked 0 = .ok (.aload_n 0, 1) := by decide +kernel
theorem dX12_asked_1 : decode cX12_asked 1 = .ok (.iconst 0, 1) := by decide +kernel
theorem dX12_asked_2 : decode cX12_asked 2 = .ok (.putfield 3, 3) := by decide +kernel
theorem dX12_asked_5 : decode cX12_asked 5 = .ok (.aload_n 0, 1) := by decide +kernel
theorem dX12_asked_6 : decode cX12_asked 6 = .ok (.iload_n 1, 1) := by decide +kernel
theorem dX12_asked_7 : decode cX12_asked 7 = .ok (.invokevirtual 131, 3) := by decide +kernel
theorem dX12_asked_10 : decode cX12_asked 10 = .ok (.ifCond .eq 37, 3) := by decide +kernel
theorem dX12_asked_13 : decode cX12_asked 13 = .ok (.aload_n 0, 1) := by decide +kernel
theorem dX12_asked_14 : decode cX12_asked 14 = .ok (.iload_n 2, 1) := by decide +kernel
theorem dX12_asked_15 : decode cX12_asked 15 = .ok (.invokevirtual 131, 3) := by decide +kernel
theorem dX12_asked_18 : decode cX12_asked 18 = .ok (.ifCond .eq 29, 3) := by decide +kernel
theorem dX12_asked_21 : decode cX12_asked 21 = .ok (.iload_n 1, 1) := by decide +kernel
theorem dX12_asked_22 : decode cX12_asked 22 = .ok (.iload_n 2, 1) := by decide +kernel
theorem dX12_asked_23 : decode cX12_asked 23 = .ok (.if_icmp .eq 24, 3) := by decide +kernel
theorem dX12_asked_26 : decode cX12_asked 26 = .ok (.iload_n 3, 1) := by decide +kernel
theorem dX12_asked_27 : decode cX12_asked 27 = .ok (.i2l, 1) := by decide +kernel
theorem dX12_asked_28 : decode cX12_asked 28 = .ok (.lconst 0, 1) := by decide +kernel
theorem dX12_asked_29 : decode cX12_asked 29 = .ok (.ldc2_w 261, 3) := by decide +kernel
theorem dX12_asked_32 : decode cX12_asked 32 = .ok (.invokestatic 29, 3) := by decide +kernel
theorem dX12_asked_35 : decode cX12_asked 35 = .ok (.ifCond .eq 12, 3) := by decide +kernel
theorem dX12_asked_38 : decode cX12_asked 38 = .ok (.aload_n 0, 1) := by decide +kernel
theorem dX12_asked_39 : decode cX12_asked 39 = .ok (.getfield 469, 3) := by decide +kernel
theorem dX12_asked_42 : decode cX12_asked 42 = .ok (.bipush 40, 2) := by decide +kernel
theorem dX12_asked_44 : decode cX12_asked 44 = .ok (.if_icmp .ne 5, 3) := by decide +kernel
theorem dX12_asked_47 : decode cX12_asked 47 = .ok (.iconst (-1), 1) := by decide +kernel
theorem dX12_asked_48 : decode cX12_asked 48 = .ok (.ireturn, 1) := by decide +kernel
theorem dX12_asked_49 : decode cX12_asked 49 = .ok (.aload_n 0, 1) := by decide +kernel
theorem dX12_asked_50 : decode cX12_asked 50 = .ok (.getfield 472, 3) := by decide +kernel
theorem dX12_asked_53 : decode cX12_asked 53 = .ok (.aload_n 0, 1) := by decide +kernel
theorem dX12_asked_54 : decode cX12_asked 54 = .ok (.getfield 469, 3) := by decide +kernel
theorem dX12_asked_57 : decode cX12_asked 57 = .ok (.iload_n 1, 1) := by decide +kernel
theorem dX12_asked_58 : decode cX12_asked 58 = .ok (.iastore, 1) := by decide +kernel
theorem dX12_asked_59 : decode cX12_asked 59 = .ok (.aload_n 0, 1) := by decide +kernel
theorem dX12_asked_60 : decode cX12_asked 60 = .ok (.getfield 475, 3) := by decide +kernel
theorem dX12_asked_63 : decode cX12_asked 63 = .ok (.aload_n 0, 1) := by decide +kernel
theorem dX12_asked_64 : decode cX12_asked 64 = .ok (.getfield 469, 3) := by decide +kernel
theorem dX12_asked_67 : decode cX12_asked 67 = .ok (.iload_n 2, 1) := by decide +kernel
theorem dX12_asked_68 : decode cX12_asked 68 = .ok (.iastore, 1) := by decide +kernel
theorem dX12_asked_69 : decode cX12_asked 69 = .ok (.aload_n 0, 1) := by decide +kernel
theorem dX12_asked_70 : decode cX12_asked 70 = .ok (.getfield 478, 3) := by decide +kernel
theorem dX12_asked_73 : decode cX12_asked 73 = .ok (.aload_n 0, 1) := by decide +kernel
theorem dX12_asked_74 : decode cX12_asked 74 = .ok (.getfield 469, 3) := by decide +kernel
theorem dX12_asked_77 : decode cX12_asked 77 = .ok (.iload_n 3, 1) := by decide +kernel
theorem dX12_asked_78 : decode cX12_asked 78 = .ok (.iastore, 1) := by decide +kernel
theorem dX12_asked_79 : decode cX12_asked 79 = .ok (.aload_n 0, 1) := by decide +kernel
theorem dX12_asked_80 : decode cX12_asked 80 = .ok (.dup, 1) := by decide +kernel
theorem dX12_asked_81 : decode cX12_asked 81 = .ok (.getfield 469, 3) := by decide +kernel
theorem dX12_asked_84 : decode cX12_asked 84 = .ok (.iconst 1, 1) := by decide +kernel
theorem dX12_asked_85 : decode cX12_asked 85 = .ok (.iadd, 1) := by decide +kernel
theorem dX12_asked_86 : decode cX12_asked 86 = .ok (.putfield 469, 3) := by decide +kernel
theorem dX12_asked_89 : decode cX12_asked 89 = .ok (.aload_n 0, 1) := by decide +kernel
theorem dX12_asked_90 : decode cX12_asked 90 = .ok (.getfield 469, 3) := by decide +kernel
theorem dX12_asked_93 : decode cX12_asked 93 = .ok (.ireturn, 1) := by decide +kernel
theorem dX12_isAgainst_0 : decode cX12_isAgainst 0 = .ok (.aload_n 0, 1) := by decide +kernel
theorem dX12_isAgainst_1 : decode cX12_isAgainst 1 = .ok (.invokevirtual 481, 3) := by decide +kernel
theorem dX12_isAgainst_4 : decode cX12_isAgainst 4 = .ok (.aload_n 0, 1) := by decide +kernel
theorem dX12_isAgainst_5 : decode cX12_isAgainst 5 = .ok (.iload_n 1, 1) := by decide +kernel
theorem dX12_isAgainst_6 : decode cX12_isAgainst 6 = .ok (.iload_n 2, 1) := by decide +kernel
theorem dX12_isAgainst_7 : decode cX12_isAgainst 7 = .ok (.invokevirtual 256, 3) := by decide +kernel
theorem dX12_isAgainst_10 : decode cX12_isAgainst 10 = .ok (.istore 5, 2) := by decide +kernel
theorem dX12_isAgainst_12 : decode cX12_isAgainst 12 = .ok (.aload_n 0, 1) := by decide +kernel
theorem dX12_isAgainst_13 : decode cX12_isAgainst 13 = .ok (.iload_n 1, 1) := by decide +kernel
theorem dX12_isAgainst_14 : decode cX12_isAgainst 14 = .ok (.iload_n 3, 1) := by decide +kernel
theorem dX12_isAgainst_15 : decode cX12_isAgainst 15 = .ok (.invokevirtual 256, 3) := by decide +kernel
theorem dX12_isAgainst_18 : decode cX12_isAgainst 18 = .ok (.istore 6, 2) := by decide +kernel
theorem dX12_isAgainst_20 : decode cX12_isAgainst 20 = .ok (.iload 4, 2) := by decide +kernel
theorem dX12_isAgainst_22 : decode cX12_isAgainst 22 = .ok (.iconst 1, 1) := by decide +kernel
theorem dX12_isAgainst_23 : decode cX12_isAgainst 23 = .ok (.if_icmp .ne 18, 3) := by decide +kernel
theorem dX12_isAgainst_26 : decode cX12_isAgainst 26 = .ok (.iload 5, 2) := by decide +kernel
theorem dX12_isAgainst_28 : decode cX12_isAgainst 28 = .ok (.iload 6, 2) := by decide +kernel
theorem dX12_isAgainst_30 : decode cX12_isAgainst 30 = .ok (.if_icmp .ge 7, 3) := by decide +kernel
theorem dX12_isAgainst_33 : decode cX12_isAgainst 33 = .ok (.iconst 1, 1) := by decide +kernel
theorem dX12_isAgainst_34 : decode cX12_isAgainst 34 = .ok (.goto 40, 3) := by decide +kernel
theorem dX12_isAgainst_37 : decode cX12_isAgainst 37 = .ok (.iconst 0, 1) := by decide +kernel
theorem dX12_isAgainst_38 : decode cX12_isAgainst 38 = .ok (.goto 36, 3) := by decide +kernel
theorem dX12_isAgainst_41 : decode cX12_isAgainst 41 = .ok (.iload 4, 2) := by decide +kernel
theorem dX12_isAgainst_43 : decode cX12_isAgainst 43 = .ok (.iconst 2, 1) := by decide +kernel
theorem dX12_isAgainst_44 : decode cX12_isAgainst 44 = .ok (.if_icmp .ne 18, 3) := by decide +kernel
theorem dX12_isAgainst_47 : decode cX12_isAgainst 47 = .ok (.iload 6, 2) := by decide +kernel
theorem dX12_isAgainst_49 : decode cX12_isAgainst 49 = .ok (.iload 5, 2) := by decide +kernel
theorem dX12_isAgainst_51 : decode cX12_isAgainst 51 = .ok (.if_icmp .ge 7, 3) := by decide +kernel
theorem dX12_isAgainst_54 : decode cX12_isAgainst 54 = .ok (.iconst 1, 1) := by decide +kernel
theorem dX12_isAgainst_55 : decode cX12_isAgainst 55 = .ok (.goto 19, 3) := by decide +kernel
theorem dX12_isAgainst_58 : decode cX12_isAgainst 58 = .ok (.iconst 0, 1) := by decide +kernel
theorem dX12_isAgainst_59 : decode cX12_isAgainst 59 = .ok (.goto 15, 3) := by decide +kernel
theorem dX12_isAgainst_62 : decode cX12_isAgainst 62 = .ok (.iload 5, 2) := by decide +kernel
theorem dX12_isAgainst_64 : decode cX12_isAgainst 64 = .ok (.iload 6, 2) := by decide +kernel
theorem dX12_isAgainst_66 : decode cX12_isAgainst 66 = .ok (.if_icmp .eq 7, 3) := by decide +kernel
theorem dX12_isAgainst_69 : decode cX12_isAgainst 69 = .ok (.iconst 1, 1) := by decide +kernel
theorem dX12_isAgainst_70 : decode cX12_isAgainst 70 = .ok (.goto 4, 3) := by decide +kernel
theorem dX12_isAgainst_73 : decode cX12_isAgainst 73 = .ok (.iconst 0, 1) := by decide +kernel
theorem dX12_isAgainst_74 : decode cX12_isAgainst 74 = .ok (.ireturn, 1) := by decide +kernel
theorem dX12_against_0 : decode cX12_against 0 = .ok (.iconst 0, 1) := by decide +kernel
theorem dX12_against_1 : decode cX12_against 1 = .ok (.istore_n 2, 1) := by decide +kernel
theorem dX12_against_2 : decode cX12_against 2 = .ok (.iconst 0, 1) := by decide +kernel
theorem dX12_against_3 : decode cX12_against 3 = .ok (.istore_n 3, 1) := by decide +kernel
theorem dX12_against_4 : decode cX12_against 4 = .ok (.iload_n 3, 1) := by decide +kernel
theorem dX12_against_5 : decode cX12_against 5 = .ok (.aload_n 0, 1) := by decide +kernel
theorem dX12_against_6 : decode cX12_against 6 = .ok (.getfield 469, 3) := by decide +kernel
theorem dX12_against_9 : decode cX12_against 9 = .ok (.if_icmp .ge 38, 3) := by decide +kernel
theorem dX12_against_12 : decode cX12_against 12 = .ok (.iload_n 2, 1) := by decide +kernel
theorem dX12_against_13 : decode cX12_against 13 = .ok (.aload_n 0, 1) := by decide +kernel
theorem dX12_against_14 : decode cX12_against 14 = .ok (.iload_n 1, 1) := by decide +kernel
theorem dX12_against_15 : decode cX12_against 15 = .ok (.aload_n 0, 1) := by decide +kernel
theorem dX12_against_16 : decode cX12_against 16 = .ok (.getfield 472, 3) := by decide +kernel
theorem dX12_against_19 : decode cX12_against 19 = .ok (.iload_n 3, 1) := by decide +kernel
theorem dX12_against_20 : decode cX12_against 20 = .ok (.iaload, 1) := by decide +kernel
theorem dX12_against_21 : decode cX12_against 21 = .ok (.aload_n 0, 1) := by decide +kernel
theorem dX12_against_22 : decode cX12_against 22 = .ok (.getfield 475, 3) := by decide +kernel
theorem dX12_against_25 : decode cX12_against 25 = .ok (.iload_n 3, 1) := by decide +kernel
theorem dX12_against_26 : decode cX12_against 26 = .ok (.iaload, 1) := by decide +kernel
theorem dX12_against_27 : decode cX12_against 27 = .ok (.aload_n 0, 1) := by decide +kernel
theorem dX12_against_28 : decode cX12_against 28 = .ok (.getfield 478, 3) := by decide +kernel
theorem dX12_against_31 : decode cX12_against 31 = .ok (.iload_n 3, 1) := by decide +kernel
theorem dX12_against_32 : decode cX12_against 32 = .ok (.iaload, 1) := by decide +kernel
theorem dX12_against_33 : decode cX12_against 33 = .ok (.invokevirtual 484, 3) := by decide +kernel
theorem dX12_against_36 : decode cX12_against 36 = .ok (.invokestatic 70, 3) := by decide +kernel
theorem dX12_against_39 : decode cX12_against 39 = .ok (.iadd, 1) := by decide +kernel
theorem dX12_against_40 : decode cX12_against 40 = .ok (.istore_n 2, 1) := by decide +kernel
theorem dX12_against_41 : decode cX12_against 41 = .ok (.iinc 3 1, 3) := by decide +kernel
theorem dX12_against_44 : decode cX12_against 44 = .ok (.goto (-40), 3) := by decide +kernel
theorem dX12_against_47 : decode cX12_against 47 = .ok (.iload_n 2, 1) := by decide +kernel
theorem dX12_against_48 : decode cX12_against 48 = .ok (.ireturn, 1) := by decide +kernel
theorem dX12_couldBe_0 : decode cX12_couldBe 0 = .ok (.iconst 0, 1) := by decide +kernel
theorem dX12_couldBe_1 : decode cX12_couldBe 1 = .ok (.istore_n 2, 1) := by decide +kernel
theorem dX12_couldBe_2 : decode cX12_couldBe 2 = .ok (.iconst 0, 1) := by decide +kernel
theorem dX12_couldBe_3 : decode cX12_couldBe 3 = .ok (.istore_n 3, 1) := by decide +kernel
theorem dX12_couldBe_4 : decode cX12_couldBe 4 = .ok (.iload_n 3, 1) := by decide +kernel
theorem dX12_couldBe_5 : decode cX12_couldBe 5 = .ok (.bipush 6, 2) := by decide +kernel
theorem dX12_couldBe_7 : decode cX12_couldBe 7 = .ok (.if_icmp .ge 37, 3) := by decide +kernel
theorem dX12_couldBe_10 : decode cX12_couldBe 10 = .ok (.iload_n 2, 1) := by decide +kernel
theorem dX12_couldBe_11 : decode cX12_couldBe 11 = .ok (.aload_n 0, 1) := by decide +kernel
theorem dX12_couldBe_12 : decode cX12_couldBe 12 = .ok (.getfield 168, 3) := by decide +kernel
theorem dX12_couldBe_15 : decode cX12_couldBe 15 = .ok (.iload_n 3, 1) := by decide +kernel
theorem dX12_couldBe_16 : decode cX12_couldBe 16 = .ok (.iaload, 1) := by decide +kernel
theorem dX12_couldBe_17 : decode cX12_couldBe 17 = .ok (.ifCond .le 18, 3) := by decide +kernel
theorem dX12_couldBe_20 : decode cX12_couldBe 20 = .ok (.aload_n 0, 1) := by decide +kernel
theorem dX12_couldBe_21 : decode cX12_couldBe 21 = .ok (.iload_n 3, 1) := by decide +kernel
theorem dX12_couldBe_22 : decode cX12_couldBe 22 = .ok (.invokevirtual 488, 3) := by decide +kernel
theorem dX12_couldBe_25 : decode cX12_couldBe 25 = .ok (.iload_n 1, 1) := by decide +kernel
theorem dX12_couldBe_26 : decode cX12_couldBe 26 = .ok (.if_icmp .gt 9, 3) := by decide +kernel
theorem dX12_couldBe_29 : decode cX12_couldBe 29 = .ok (.iconst 1, 1) := by decide +kernel
theorem dX12_couldBe_30 : decode cX12_couldBe 30 = .ok (.iload_n 3, 1) := by decide +kernel
theorem dX12_couldBe_31 : decode cX12_couldBe 31 = .ok (.ishl, 1) := by decide +kernel
theorem dX12_couldBe_32 : decode cX12_couldBe 32 = .ok (.goto 4, 3) := by decide +kernel
theorem dX12_couldBe_35 : decode cX12_couldBe 35 = .ok (.iconst 0, 1) := by decide +kernel
theorem dX12_couldBe_36 : decode cX12_couldBe 36 = .ok (.ior, 1) := by decide +kernel
theorem dX12_couldBe_37 : decode cX12_couldBe 37 = .ok (.istore_n 2, 1) := by decide +kernel
theorem dX12_couldBe_38 : decode cX12_couldBe 38 = .ok (.iinc 3 1, 3) := by decide +kernel
theorem dX12_couldBe_41 : decode cX12_couldBe 41 = .ok (.goto (-37), 3) := by decide +kernel
theorem dX12_couldBe_44 : decode cX12_couldBe 44 = .ok (.iload_n 2, 1) := by decide +kernel
theorem dX12_couldBe_45 : decode cX12_couldBe 45 = .ok (.ireturn, 1) := by decide +kernel
theorem dX12_pairs_0 : decode cX12_pairs 0 = .ok (.aload_n 0, 1) := by decide +kernel
theorem dX12_pairs_1 : decode cX12_pairs 1 = .ok (.iconst 0, 1) := by decide +kernel
theorem dX12_pairs_2 : decode cX12_pairs 2 = .ok (.putfield 3, 3) := by decide +kernel
theorem dX12_pairs_5 : decode cX12_pairs 5 = .ok (.aload_n 0, 1) := by decide +kernel
theorem dX12_pairs_6 : decode cX12_pairs 6 = .ok (.iconst 0, 1) := by decide +kernel
theorem dX12_pairs_7 : decode cX12_pairs 7 = .ok (.putfield 11, 3) := by decide +kernel
theorem dX12_pairs_10 : decode cX12_pairs 10 = .ok (.iconst 0, 1) := by decide +kernel
theorem dX12_pairs_11 : decode cX12_pairs 11 = .ok (.istore_n 1, 1) := by decide +kernel
theorem dX12_pairs_12 : decode cX12_pairs 12 = .ok (.iload_n 1, 1) := by decide +kernel
theorem dX12_pairs_13 : decode cX12_pairs 13 = .ok (.bipush 6, 2) := by decide +kernel
theorem dX12_pairs_15 : decode cX12_pairs 15 = .ok (.if_icmp .ge 34, 3) := by decide +kernel
theorem dX12_pairs_18 : decode cX12_pairs 18 = .ok (.aload_n 0, 1) := by decide +kernel
theorem dX12_pairs_19 : decode cX12_pairs 19 = .ok (.aload_n 0, 1) := by decide +kernel
theorem dX12_pairs_20 : decode cX12_pairs 20 = .ok (.getfield 168, 3) := by decide +kernel
theorem dX12_pairs_23 : decode cX12_pairs 23 = .ok (.iload_n 1, 1) := by decide +kernel
theorem dX12_pairs_24 : decode cX12_pairs 24 = .ok (.iaload, 1) := by decide +kernel
theorem dX12_pairs_25 : decode cX12_pairs 25 = .ok (.ifCond .le 12, 3) := by decide +kernel
theorem dX12_pairs_28 : decode cX12_pairs 28 = .ok (.aload_n 0, 1) := by decide +kernel
theorem dX12_pairs_29 : decode cX12_pairs 29 = .ok (.iload_n 1, 1) := by decide +kernel
theorem dX12_pairs_30 : decode cX12_pairs 30 = .ok (.invokevirtual 488, 3) := by decide +kernel
theorem dX12_pairs_33 : decode cX12_pairs 33 = .ok (.i2l, 1) := by decide +kernel
theorem dX12_pairs_34 : decode cX12_pairs 34 = .ok (.goto 6, 3) := by decide +kernel
theorem dX12_pairs_37 : decode cX12_pairs 37 = .ok (.ldc2_w 428, 3) := by decide +kernel
theorem dX12_pairs_40 : decode cX12_pairs 40 = .ok (.invokevirtual 18, 3) := by decide +kernel
theorem dX12_pairs_43 : decode cX12_pairs 43 = .ok (.iinc 1 1, 3) := by decide +kernel
theorem dX12_pairs_46 : decode cX12_pairs 46 = .ok (.goto (-34), 3) := by decide +kernel
theorem dX12_pairs_49 : decode cX12_pairs 49 = .ok (.aload_n 0, 1) := by decide +kernel
theorem dX12_pairs_50 : decode cX12_pairs 50 = .ok (.iconst 0, 1) := by decide +kernel
theorem dX12_pairs_51 : decode cX12_pairs 51 = .ok (.invokevirtual 491, 3) := by decide +kernel
theorem dX12_pairs_54 : decode cX12_pairs 54 = .ok (.ireturn, 1) := by decide +kernel
theorem dX12_ask_0 : decode cX12_ask 0 = .ok (.aload_n 0, 1) := by decide +kernel
theorem dX12_ask_1 : decode cX12_ask 1 = .ok (.iconst 0, 1) := by decide +kernel
theorem dX12_ask_2 : decode cX12_ask 2 = .ok (.putfield 3, 3) := by decide +kernel
theorem dX12_ask_5 : decode cX12_ask 5 = .ok (.aload_n 0, 1) := by decide +kernel
theorem dX12_ask_6 : decode cX12_ask 6 = .ok (.iconst 0, 1) := by decide +kernel
theorem dX12_ask_7 : decode cX12_ask 7 = .ok (.invokevirtual 491, 3) := by decide +kernel
theorem dX12_ask_10 : decode cX12_ask 10 = .ok (.istore_n 1, 1) := by decide +kernel
theorem dX12_ask_11 : decode cX12_ask 11 = .ok (.iload_n 1, 1) := by decide +kernel
theorem dX12_ask_12 : decode cX12_ask 12 = .ok (.invokestatic 317, 3) := by decide +kernel
theorem dX12_ask_15 : decode cX12_ask 15 = .ok (.iconst 2, 1) := by decide +kernel
theorem dX12_ask_16 : decode cX12_ask 16 = .ok (.if_icmp .lt 11, 3) := by decide +kernel
theorem dX12_ask_19 : decode cX12_ask 19 = .ok (.aload_n 0, 1) := by decide +kernel
theorem dX12_ask_20 : decode cX12_ask 20 = .ok (.getfield 36, 3) := by decide +kernel
theorem dX12_ask_23 : decode cX12_ask 23 = .ok (.iconst 2, 1) := by decide +kernel
theorem dX12_ask_24 : decode cX12_ask 24 = .ok (.if_icmp .ge 6, 3) := by decide +kernel
theorem dX12_ask_27 : decode cX12_ask 27 = .ok (.bipush (-2), 2) := by decide +kernel
theorem dX12_ask_29 : decode cX12_ask 29 = .ok (.ireturn, 1) := by decide +kernel
theorem dX12_ask_30 : decode cX12_ask 30 = .ok (.iconst (-1), 1) := by decide +kernel
theorem dX12_ask_31 : decode cX12_ask 31 = .ok (.istore_n 2, 1) := by decide +kernel
theorem dX12_ask_32 : decode cX12_ask 32 = .ok (.iconst 0, 1) := by decide +kernel
theorem dX12_ask_33 : decode cX12_ask 33 = .ok (.istore_n 3, 1) := by decide +kernel
theorem dX12_ask_34 : decode cX12_ask 34 = .ok (.iconst 0, 1) := by decide +kernel
theorem dX12_ask_35 : decode cX12_ask 35 = .ok (.istore 4, 2) := by decide +kernel
theorem dX12_ask_37 : decode cX12_ask 37 = .ok (.iconst 0, 1) := by decide +kernel
theorem dX12_ask_38 : decode cX12_ask 38 = .ok (.istore 5, 2) := by decide +kernel
theorem dX12_ask_40 : decode cX12_ask 40 = .ok (.iload 5, 2) := by decide +kernel
theorem dX12_ask_42 : decode cX12_ask 42 = .ok (.aload_n 0, 1) := by decide +kernel
theorem dX12_ask_43 : decode cX12_ask 43 = .ok (.getfield 36, 3) := by decide +kernel
theorem dX12_ask_46 : decode cX12_ask 46 = .ok (.if_icmp .ge 133, 3) := by decide +kernel
theorem dX12_ask_49 : decode cX12_ask 49 = .ok (.iload 5, 2) := by decide +kernel
theorem dX12_ask_51 : decode cX12_ask 51 = .ok (.iconst 1, 1) := by decide +kernel
theorem dX12_ask_52 : decode cX12_ask 52 = .ok (.iadd, 1) := by decide +kernel
theorem dX12_ask_53 : decode cX12_ask 53 = .ok (.istore 6, 2) := by decide +kernel
theorem dX12_ask_55 : decode cX12_ask 55 = .ok (.iload 6, 2) := by decide +kernel
theorem dX12_ask_57 : decode cX12_ask 57 = .ok (.aload_n 0, 1) := by decide +kernel
theorem dX12_ask_58 : decode cX12_ask 58 = .ok (.getfield 36, 3) := by decide +kernel
theorem dX12_ask_61 : decode cX12_ask 61 = .ok (.if_icmp .ge 112, 3) := by decide +kernel
theorem dX12_ask_64 : decode cX12_ask 64 = .ok (.iconst 0, 1) := by decide +kernel
theorem dX12_ask_65 : decode cX12_ask 65 = .ok (.istore 7, 2) := by decide +kernel
theorem dX12_ask_67 : decode cX12_ask 67 = .ok (.iconst 0, 1) := by decide +kernel
theorem dX12_ask_68 : decode cX12_ask 68 = .ok (.istore 8, 2) := by decide +kernel
theorem dX12_ask_70 : decode cX12_ask 70 = .ok (.iload 8, 2) := by decide +kernel
theorem dX12_ask_72 : decode cX12_ask 72 = .ok (.iconst 3, 1) := by decide +kernel
theorem dX12_ask_73 : decode cX12_ask 73 = .ok (.if_icmp .ge 74, 3) := by decide +kernel
theorem dX12_ask_76 : decode cX12_ask 76 = .ok (.iconst 0, 1) := by decide +kernel
theorem dX12_ask_77 : decode cX12_ask 77 = .ok (.istore 9, 2) := by decide +kernel
theorem dX12_ask_79 : decode cX12_ask 79 = .ok (.iconst 0, 1) := by decide +kernel
theorem dX12_ask_80 : decode cX12_ask 80 = .ok (.istore 10, 2) := by decide +kernel
theorem dX12_ask_82 : decode cX12_ask 82 = .ok (.iload 10, 2) := by decide +kernel
theorem dX12_ask_84 : decode cX12_ask 84 = .ok (.bipush 6, 2) := by decide +kernel
theorem dX12_ask_86 : decode cX12_ask 86 = .ok (.if_icmp .ge 46, 3) := by decide +kernel
theorem dX12_ask_89 : decode cX12_ask 89 = .ok (.iload 9, 2) := by decide +kernel
theorem dX12_ask_91 : decode cX12_ask 91 = .ok (.iload_n 1, 1) := by decide +kernel
theorem dX12_ask_92 : decode cX12_ask 92 = .ok (.iload 10, 2) := by decide +kernel
theorem dX12_ask_94 : decode cX12_ask 94 = .ok (.invokestatic 322, 3) := by decide +kernel
theorem dX12_ask_97 : decode cX12_ask 97 = .ok (.ifCond .eq 22, 3) := by decide +kernel
theorem dX12_ask_100 : decode cX12_ask 100 = .ok (.aload_n 0, 1) := by decide +kernel
theorem dX12_ask_101 : decode cX12_ask 101 = .ok (.iload 10, 2) := by decide +kernel
theorem dX12_ask_103 : decode cX12_ask 103 = .ok (.iload 5, 2) := by decide +kernel
theorem dX12_ask_105 : decode cX12_ask 105 = .ok (.iload 6, 2) := by decide +kernel
theorem dX12_ask_107 : decode cX12_ask 107 = .ok (.iload 8, 2) := by decide +kernel
theorem dX12_ask_109 : decode cX12_ask 109 = .ok (.invokevirtual 484, 3) := by decide +kernel
theorem dX12_ask_112 : decode cX12_ask 112 = .ok (.ifCond .ne 7, 3) := by decide +kernel
theorem dX12_ask_115 : decode cX12_ask 115 = .ok (.iconst 1, 1) := by decide +kernel
theorem dX12_ask_116 : decode cX12_ask 116 = .ok (.goto 4, 3) := by decide +kernel
theorem dX12_ask_119 : decode cX12_ask 119 = .ok (.iconst 0, 1) := by decide +kernel
theorem dX12_ask_120 : decode cX12_ask 120 = .ok (.invokestatic 70, 3) := by decide +kernel
theorem dX12_ask_123 : decode cX12_ask 123 = .ok (.iadd, 1) := by decide +kernel
theorem dX12_ask_124 : decode cX12_ask 124 = .ok (.istore 9, 2) := by decide +kernel
theorem dX12_ask_126 : decode cX12_ask 126 = .ok (.iinc 10 1, 3) := by decide +kernel
theorem dX12_ask_129 : decode cX12_ask 129 = .ok (.goto (-47), 3) := by decide +kernel
theorem dX12_ask_132 : decode cX12_ask 132 = .ok (.iload 7, 2) := by decide +kernel
theorem dX12_ask_134 : decode cX12_ask 134 = .ok (.iload 9, 2) := by decide +kernel
theorem dX12_ask_136 : decode cX12_ask 136 = .ok (.invokestatic 238, 3) := by decide +kernel
theorem dX12_ask_139 : decode cX12_ask 139 = .ok (.istore 7, 2) := by decide +kernel
theorem dX12_ask_141 : decode cX12_ask 141 = .ok (.iinc 8 1, 3) := by decide +kernel
theorem dX12_ask_144 : decode cX12_ask 144 = .ok (.goto (-74), 3) := by decide +kernel
theorem dX12_ask_147 : decode cX12_ask 147 = .ok (.iload_n 2, 1) := by decide +kernel
theorem dX12_ask_148 : decode cX12_ask 148 = .ok (.ifCond .lt 9, 3) := by decide +kernel
theorem dX12_ask_151 : decode cX12_ask 151 = .ok (.iload 7, 2) := by decide +kernel
theorem dX12_ask_153 : decode cX12_ask 153 = .ok (.iload_n 2, 1) := by decide +kernel
theorem dX12_ask_154 : decode cX12_ask 154 = .ok (.if_icmp .ge 13, 3) := by decide +kernel
theorem dX12_ask_157 : decode cX12_ask 157 = .ok (.iload 7, 2) := by decide +kernel
theorem dX12_ask_159 : decode cX12_ask 159 = .ok (.istore_n 2, 1) := by decide +kernel
theorem dX12_ask_160 : decode cX12_ask 160 = .ok (.iload 5, 2) := by decide +kernel
theorem dX12_ask_162 : decode cX12_ask 162 = .ok (.istore_n 3, 1) := by decide +kernel
theorem dX12_ask_163 : decode cX12_ask 163 = .ok (.iload 6, 2) := by decide +kernel
theorem dX12_ask_165 : decode cX12_ask 165 = .ok (.istore 4, 2) := by decide +kernel
theorem dX12_ask_167 : decode cX12_ask 167 = .ok (.iinc 6 1, 3) := by decide +kernel
theorem dX12_ask_170 : decode cX12_ask 170 = .ok (.goto (-115), 3) := by decide +kernel
theorem dX12_ask_173 : decode cX12_ask 173 = .ok (.iinc 5 1, 3) := by decide +kernel
theorem dX12_ask_176 : decode cX12_ask 176 = .ok (.goto (-136), 3) := by decide +kernel
theorem dX12_ask_179 : decode cX12_ask 179 = .ok (.aload_n 0, 1) := by decide +kernel
theorem dX12_ask_180 : decode cX12_ask 180 = .ok (.iconst 0, 1) := by decide +kernel
theorem dX12_ask_181 : decode cX12_ask 181 = .ok (.putfield 11, 3) := by decide +kernel
theorem dX12_ask_184 : decode cX12_ask 184 = .ok (.aload_n 0, 1) := by decide +kernel
theorem dX12_ask_185 : decode cX12_ask 185 = .ok (.iload_n 3, 1) := by decide +kernel
theorem dX12_ask_186 : decode cX12_ask 186 = .ok (.i2l, 1) := by decide +kernel
theorem dX12_ask_187 : decode cX12_ask 187 = .ok (.invokevirtual 18, 3) := by decide +kernel
theorem dX12_ask_190 : decode cX12_ask 190 = .ok (.aload_n 0, 1) := by decide +kernel
theorem dX12_ask_191 : decode cX12_ask 191 = .ok (.iload 4, 2) := by decide +kernel
theorem dX12_ask_193 : decode cX12_ask 193 = .ok (.i2l, 1) := by decide +kernel
theorem dX12_ask_194 : decode cX12_ask 194 = .ok (.invokevirtual 18, 3) := by decide +kernel
theorem dX12_ask_197 : decode cX12_ask 197 = .ok (.iload_n 2, 1) := by decide +kernel
theorem dX12_ask_198 : decode cX12_ask 198 = .ok (.ireturn, 1) := by decide +kernel
theorem dX12_nearly_0 : decode cX12_nearly 0 = .ok (.aload_n 0, 1) := by decide +kernel
theorem dX12_nearly_1 : decode cX12_nearly 1 = .ok (.iconst 0, 1) := by decide +kernel
theorem dX12_nearly_2 : decode cX12_nearly 2 = .ok (.putfield 3, 3) := by decide +kernel
theorem dX12_nearly_5 : decode cX12_nearly 5 = .ok (.iload_n 1, 1) := by decide +kernel
theorem dX12_nearly_6 : decode cX12_nearly 6 = .ok (.i2l, 1) := by decide +kernel
theorem dX12_nearly_7 : decode cX12_nearly 7 = .ok (.lconst 0, 1) := by decide +kernel
theorem dX12_nearly_8 : decode cX12_nearly 8 = .ok (.ldc2_w 494, 3) := by decide +kernel
theorem dX12_nearly_11 : decode cX12_nearly 11 = .ok (.invokestatic 29, 3) := by decide +kernel
theorem dX12_nearly_14 : decode cX12_nearly 14 = .ok (.ifCond .eq 11, 3) := by decide +kernel
theorem dX12_nearly_17 : decode cX12_nearly 17 = .ok (.aload_n 0, 1) := by decide +kernel
theorem dX12_nearly_18 : decode cX12_nearly 18 = .ok (.iload_n 1, 1) := by decide +kernel
theorem dX12_nearly_19 : decode cX12_nearly 19 = .ok (.invokevirtual 491, 3) := by decide +kernel
theorem dX12_nearly_22 : decode cX12_nearly 22 = .ok (.goto 4, 3) := by decide +kernel
theorem dX12_nearly_25 : decode cX12_nearly 25 = .ok (.iconst (-1), 1) := by decide +kernel
theorem dX12_nearly_26 : decode cX12_nearly 26 = .ok (.ireturn, 1) := by decide +kernel
theorem dX12_laysAt_0 : decode cX12_laysAt 0 = .ok (.iconst 0, 1) := by decide +kernel
theorem dX12_laysAt_1 : decode cX12_laysAt 1 = .ok (.istore_n 3, 1) := by decide +kernel
theorem dX12_laysAt_2 : decode cX12_laysAt 2 = .ok (.iload_n 3, 1) := by decide +kernel
theorem dX12_laysAt_3 : decode cX12_laysAt 3 = .ok (.bipush 80, 2) := by decide +kernel
theorem dX12_laysAt_5 : decode cX12_laysAt 5 = .ok (.if_icmp .ge 34, 3) := by decide +kernel
theorem dX12_laysAt_8 : decode cX12_laysAt 8 = .ok (.aload_n 0, 1) := by decide +kernel
theorem dX12_laysAt_9 : decode cX12_laysAt 9 = .ok (.getfield 496, 3) := by decide +kernel
theorem dX12_laysAt_12 : decode cX12_laysAt 12 = .ok (.bipush 80, 2) := by decide +kernel
theorem dX12_laysAt_14 : decode cX12_laysAt 14 = .ok (.iload_n 1, 1) := by decide +kernel
theorem dX12_laysAt_15 : decode cX12_laysAt 15 = .ok (.imul, 1) := by decide +kernel
theorem dX12_laysAt_16 : decode cX12_laysAt 16 = .ok (.iload_n 3, 1) := by decide +kernel
theorem dX12_laysAt_17 : decode cX12_laysAt 17 = .ok (.iadd, 1) := by decide +kernel
theorem dX12_laysAt_18 : decode cX12_laysAt 18 = .ok (.iload_n 3, 1) := by decide +kernel
theorem dX12_laysAt_19 : decode cX12_laysAt 19 = .ok (.aload_n 2, 1) := by decide +kernel
theorem dX12_laysAt_20 : decode cX12_laysAt 20 = .ok (.iconst 0, 1) := by decide +kernel
theorem dX12_laysAt_21 : decode cX12_laysAt 21 = .ok (.iaload, 1) := by decide +kernel
theorem dX12_laysAt_22 : decode cX12_laysAt 22 = .ok (.if_icmp .gt 9, 3) := by decide +kernel
theorem dX12_laysAt_25 : decode cX12_laysAt 25 = .ok (.aload_n 2, 1) := by decide +kernel
theorem dX12_laysAt_26 : decode cX12_laysAt 26 = .ok (.iload_n 3, 1) := by decide +kernel
theorem dX12_laysAt_27 : decode cX12_laysAt 27 = .ok (.iaload, 1) := by decide +kernel
theorem dX12_laysAt_28 : decode cX12_laysAt 28 = .ok (.goto 4, 3) := by decide +kernel
theorem dX12_laysAt_31 : decode cX12_laysAt 31 = .ok (.iconst 0, 1) := by decide +kernel
theorem dX12_laysAt_32 : decode cX12_laysAt 32 = .ok (.iastore, 1) := by decide +kernel
theorem dX12_laysAt_33 : decode cX12_laysAt 33 = .ok (.iinc 3 1, 3) := by decide +kernel
theorem dX12_laysAt_36 : decode cX12_laysAt 36 = .ok (.goto (-34), 3) := by decide +kernel
theorem dX12_laysAt_39 : decode cX12_laysAt 39 = .ok (.return_, 1) := by decide +kernel
theorem dX12_takesFrom_0 : decode cX12_takesFrom 0 = .ok (.iconst 0, 1) := by decide +kernel
theorem dX12_takesFrom_1 : decode cX12_takesFrom 1 = .ok (.istore_n 3, 1) := by decide +kernel
theorem dX12_takesFrom_2 : decode cX12_takesFrom 2 = .ok (.iload_n 3, 1) := by decide +kernel
theorem dX12_takesFrom_3 : decode cX12_takesFrom 3 = .ok (.bipush 80, 2) := by decide +kernel
theorem dX12_takesFrom_5 : decode cX12_takesFrom 5 = .ok (.if_icmp .ge 23, 3) := by decide +kernel
theorem dX12_takesFrom_8 : decode cX12_takesFrom 8 = .ok (.aload_n 2, 1) := by decide +kernel
theorem dX12_takesFrom_9 : decode cX12_takesFrom 9 = .ok (.iload_n 3, 1) := by decide +kernel
theorem dX12_takesFrom_10 : decode cX12_takesFrom 10 = .ok (.aload_n 0, 1) := by decide +kernel
theorem dX12_takesFrom_11 : decode cX12_takesFrom 11 = .ok (.getfield 496, 3) := by decide +kernel
theorem dX12_takesFrom_14 : decode cX12_takesFrom 14 = .ok (.bipush 80, 2) := by decide +kernel
theorem dX12_takesFrom_16 : decode cX12_takesFrom 16 = .ok (.iload_n 1, 1) := by decide +kernel
theorem dX12_takesFrom_17 : decode cX12_takesFrom 17 = .ok (.imul, 1) := by decide +kernel
theorem dX12_takesFrom_18 : decode cX12_takesFrom 18 = .ok (.iload_n 3, 1) := by decide +kernel
theorem dX12_takesFrom_19 : decode cX12_takesFrom 19 = .ok (.iadd, 1) := by decide +kernel
theorem dX12_takesFrom_20 : decode cX12_takesFrom 20 = .ok (.iaload, 1) := by decide +kernel
theorem dX12_takesFrom_21 : decode cX12_takesFrom 21 = .ok (.iastore, 1) := by decide +kernel
theorem dX12_takesFrom_22 : decode cX12_takesFrom 22 = .ok (.iinc 3 1, 3) := by decide +kernel
theorem dX12_takesFrom_25 : decode cX12_takesFrom 25 = .ok (.goto (-23), 3) := by decide +kernel
theorem dX12_takesFrom_28 : decode cX12_takesFrom 28 = .ok (.return_, 1) := by decide +kernel
theorem dX12_chances_0 : decode cX12_chances 0 = .ok (.iconst 0, 1) := by decide +kernel
theorem dX12_chances_1 : decode cX12_chances 1 = .ok (.istore 4, 2) := by decide +kernel
theorem dX12_chances_3 : decode cX12_chances 3 = .ok (.iload 4, 2) := by decide +kernel
theorem dX12_chances_5 : decode cX12_chances 5 = .ok (.bipush 16, 2) := by decide +kernel
theorem dX12_chances_7 : decode cX12_chances 7 = .ok (.if_icmp .gt 104, 3) := by decide +kernel
theorem dX12_chances_10 : decode cX12_chances 10 = .ok (.aload_n 0, 1) := by decide +kernel
theorem dX12_chances_11 : decode cX12_chances 11 = .ok (.getfield 407, 3) := by decide +kernel
theorem dX12_chances_14 : decode cX12_chances 14 = .ok (.iconst 0, 1) := by decide +kernel
theorem dX12_chances_15 : decode cX12_chances 15 = .ok (.invokestatic 400, 3) := by decide +kernel
theorem dX12_chances_18 : decode cX12_chances 18 = .ok (.iload 4, 2) := by decide +kernel
theorem dX12_chances_20 : decode cX12_chances 20 = .ok (.istore 5, 2) := by decide +kernel
theorem dX12_chances_22 : decode cX12_chances 22 = .ok (.iload 5, 2) := by decide +kernel
theorem dX12_chances_24 : decode cX12_chances 24 = .ok (.iload_n 1, 1) := by decide +kernel
theorem dX12_chances_25 : decode cX12_chances 25 = .ok (.if_icmp .gt 70, 3) := by decide +kernel
theorem dX12_chances_28 : decode cX12_chances 28 = .ok (.aload_n 0, 1) := by decide +kernel
theorem dX12_chances_29 : decode cX12_chances 29 = .ok (.getfield 499, 3) := by decide +kernel
theorem dX12_chances_32 : decode cX12_chances 32 = .ok (.iconst 1, 1) := by decide +kernel
theorem dX12_chances_33 : decode cX12_chances 33 = .ok (.invokestatic 400, 3) := by decide +kernel
theorem dX12_chances_36 : decode cX12_chances 36 = .ok (.aload_n 0, 1) := by decide +kernel
theorem dX12_chances_37 : decode cX12_chances 37 = .ok (.iload_n 2, 1) := by decide +kernel
theorem dX12_chances_38 : decode cX12_chances 38 = .ok (.iload 5, 2) := by decide +kernel
theorem dX12_chances_40 : decode cX12_chances 40 = .ok (.iload_n 1, 1) := by decide +kernel
theorem dX12_chances_41 : decode cX12_chances 41 = .ok (.invokevirtual 502, 3) := by decide +kernel
theorem dX12_chances_44 : decode cX12_chances 44 = .ok (.aload_n 0, 1) := by decide +kernel
theorem dX12_chances_45 : decode cX12_chances 45 = .ok (.iload_n 3, 1) := by decide +kernel
theorem dX12_chances_46 : decode cX12_chances 46 = .ok (.iload 5, 2) := by decide +kernel
theorem dX12_chances_48 : decode cX12_chances 48 = .ok (.iload 4, 2) := by decide +kernel
theorem dX12_chances_50 : decode cX12_chances 50 = .ok (.isub, 1) := by decide +kernel
theorem dX12_chances_51 : decode cX12_chances 51 = .ok (.iload_n 1, 1) := by decide +kernel
theorem dX12_chances_52 : decode cX12_chances 52 = .ok (.invokevirtual 502, 3) := by decide +kernel
theorem dX12_chances_55 : decode cX12_chances 55 = .ok (.aload_n 0, 1) := by decide +kernel
theorem dX12_chances_56 : decode cX12_chances 56 = .ok (.getfield 499, 3) := by decide +kernel
theorem dX12_chances_59 : decode cX12_chances 59 = .ok (.iload_n 1, 1) := by decide +kernel
theorem dX12_chances_60 : decode cX12_chances 60 = .ok (.iload 5, 2) := by decide +kernel
theorem dX12_chances_62 : decode cX12_chances 62 = .ok (.invokestatic 293, 3) := by decide +kernel
theorem dX12_chances_65 : decode cX12_chances 65 = .ok (.iload_n 1, 1) := by decide +kernel
theorem dX12_chances_66 : decode cX12_chances 66 = .ok (.iload 5, 2) := by decide +kernel
theorem dX12_chances_68 : decode cX12_chances 68 = .ok (.iload 4, 2) := by decide +kernel
theorem dX12_chances_70 : decode cX12_chances 70 = .ok (.isub, 1) := by decide +kernel
theorem dX12_chances_71 : decode cX12_chances 71 = .ok (.invokestatic 293, 3) := by decide +kernel
theorem dX12_chances_74 : decode cX12_chances 74 = .ok (.lmul, 1) := by decide +kernel
theorem dX12_chances_75 : decode cX12_chances 75 = .ok (.invokestatic 410, 3) := by decide +kernel
theorem dX12_chances_78 : decode cX12_chances 78 = .ok (.aload_n 0, 1) := by decide +kernel
theorem dX12_chances_79 : decode cX12_chances 79 = .ok (.getfield 407, 3) := by decide +kernel
theorem dX12_chances_82 : decode cX12_chances 82 = .ok (.aload_n 0, 1) := by decide +kernel
theorem dX12_chances_83 : decode cX12_chances 83 = .ok (.getfield 499, 3) := by decide +kernel
theorem dX12_chances_86 : decode cX12_chances 86 = .ok (.invokestatic 506, 3) := by decide +kernel
theorem dX12_chances_89 : decode cX12_chances 89 = .ok (.iinc 5 1, 3) := by decide +kernel
theorem dX12_chances_92 : decode cX12_chances 92 = .ok (.goto (-70), 3) := by decide +kernel
theorem dX12_chances_95 : decode cX12_chances 95 = .ok (.aload_n 0, 1) := by decide +kernel
theorem dX12_chances_96 : decode cX12_chances 96 = .ok (.iload 4, 2) := by decide +kernel
theorem dX12_chances_98 : decode cX12_chances 98 = .ok (.aload_n 0, 1) := by decide +kernel
theorem dX12_chances_99 : decode cX12_chances 99 = .ok (.getfield 407, 3) := by decide +kernel
theorem dX12_chances_102 : decode cX12_chances 102 = .ok (.invokevirtual 509, 3) := by decide +kernel
theorem dX12_chances_105 : decode cX12_chances 105 = .ok (.iinc 4 1, 3) := by decide +kernel
theorem dX12_chances_108 : decode cX12_chances 108 = .ok (.goto (-105), 3) := by decide +kernel
theorem dX12_chances_111 : decode cX12_chances 111 = .ok (.bipush 15, 2) := by decide +kernel
theorem dX12_chances_113 : decode cX12_chances 113 = .ok (.istore 4, 2) := by decide +kernel
theorem dX12_chances_115 : decode cX12_chances 115 = .ok (.iload 4, 2) := by decide +kernel
theorem dX12_chances_117 : decode cX12_chances 117 = .ok (.ifCond .lt 52, 3) := by decide +kernel
theorem dX12_chances_120 : decode cX12_chances 120 = .ok (.aload_n 0, 1) := by decide +kernel
theorem dX12_chances_121 : decode cX12_chances 121 = .ok (.iload 4, 2) := by decide +kernel
theorem dX12_chances_123 : decode cX12_chances 123 = .ok (.aload_n 0, 1) := by decide +kernel
theorem dX12_chances_124 : decode cX12_chances 124 = .ok (.getfield 407, 3) := by decide +kernel
theorem dX12_chances_127 : decode cX12_chances 127 = .ok (.invokevirtual 513, 3) := by decide +kernel
theorem dX12_chances_130 : decode cX12_chances 130 = .ok (.aload_n 0, 1) := by decide +kernel
theorem dX12_chances_131 : decode cX12_chances 131 = .ok (.iload 4, 2) := by decide +kernel
theorem dX12_chances_133 : decode cX12_chances 133 = .ok (.iconst 1, 1) := by decide +kernel
theorem dX12_chances_134 : decode cX12_chances 134 = .ok (.iadd, 1) := by decide +kernel
theorem dX12_chances_135 : decode cX12_chances 135 = .ok (.aload_n 0, 1) := by decide +kernel
theorem dX12_chances_136 : decode cX12_chances 136 = .ok (.getfield 499, 3) := by decide +kernel
theorem dX12_chances_139 : decode cX12_chances 139 = .ok (.invokevirtual 513, 3) := by decide +kernel
theorem dX12_chances_142 : decode cX12_chances 142 = .ok (.aload_n 0, 1) := by decide +kernel
theorem dX12_chances_143 : decode cX12_chances 143 = .ok (.getfield 407, 3) := by decide +kernel
theorem dX12_chances_146 : decode cX12_chances 146 = .ok (.aload_n 0, 1) := by decide +kernel
theorem dX12_chances_147 : decode cX12_chances 147 = .ok (.getfield 499, 3) := by decide +kernel
theorem dX12_chances_150 : decode cX12_chances 150 = .ok (.invokestatic 506, 3) := by decide +kernel
theorem dX12_chances_153 : decode cX12_chances 153 = .ok (.aload_n 0, 1) := by decide +kernel
theorem dX12_chances_154 : decode cX12_chances 154 = .ok (.iload 4, 2) := by decide +kernel
theorem dX12_chances_156 : decode cX12_chances 156 = .ok (.aload_n 0, 1) := by decide +kernel
theorem dX12_chances_157 : decode cX12_chances 157 = .ok (.getfield 407, 3) := by decide +kernel
theorem dX12_chances_160 : decode cX12_chances 160 = .ok (.invokevirtual 509, 3) := by decide +kernel
theorem dX12_chances_163 : decode cX12_chances 163 = .ok (.iinc 4 (-1), 3) := by decide +kernel
theorem dX12_chances_166 : decode cX12_chances 166 = .ok (.goto (-51), 3) := by decide +kernel
theorem dX12_chances_169 : decode cX12_chances 169 = .ok (.return_, 1) := by decide +kernel
theorem dX12_powers_0 : decode cX12_powers 0 = .ok (.iconst 0, 1) := by decide +kernel
theorem dX12_powers_1 : decode cX12_powers 1 = .ok (.istore 4, 2) := by decide +kernel
theorem dX12_powers_3 : decode cX12_powers 3 = .ok (.iload 4, 2) := by decide +kernel
theorem dX12_powers_5 : decode cX12_powers 5 = .ok (.iload_n 3, 1) := by decide +kernel
theorem dX12_powers_6 : decode cX12_powers 6 = .ok (.if_icmp .ge 32, 3) := by decide +kernel
theorem dX12_powers_9 : decode cX12_powers 9 = .ok (.aload_n 0, 1) := by decide +kernel
theorem dX12_powers_10 : decode cX12_powers 10 = .ok (.getfield 499, 3) := by decide +kernel
theorem dX12_powers_13 : decode cX12_powers 13 = .ok (.iload 4, 2) := by decide +kernel
theorem dX12_powers_15 : decode cX12_powers 15 = .ok (.iload_n 2, 1) := by decide +kernel
theorem dX12_powers_16 : decode cX12_powers 16 = .ok (.if_icmp .ge 8, 3) := by decide +kernel
theorem dX12_powers_19 : decode cX12_powers 19 = .ok (.iload_n 1, 1) := by decide +kernel
theorem dX12_powers_20 : decode cX12_powers 20 = .ok (.i2l, 1) := by decide +kernel
theorem dX12_powers_21 : decode cX12_powers 21 = .ok (.goto 8, 3) := by decide +kernel
theorem dX12_powers_24 : decode cX12_powers 24 = .ok (.bipush 100, 2) := by decide +kernel
theorem dX12_powers_26 : decode cX12_powers 26 = .ok (.iload_n 1, 1) := by decide +kernel
theorem dX12_powers_27 : decode cX12_powers 27 = .ok (.isub, 1) := by decide +kernel
theorem dX12_powers_28 : decode cX12_powers 28 = .ok (.i2l, 1) := by decide +kernel
theorem dX12_powers_29 : decode cX12_powers 29 = .ok (.invokestatic 410, 3) := by decide +kernel
theorem dX12_powers_32 : decode cX12_powers 32 = .ok (.iinc 4 1, 3) := by decide +kernel
theorem dX12_powers_35 : decode cX12_powers 35 = .ok (.goto (-32), 3) := by decide +kernel
theorem dX12_powers_38 : decode cX12_powers 38 = .ok (.return_, 1) := by decide +kernel
theorem dX12_chanceOf_0 : decode cX12_chanceOf 0 = .ok (.iload_n 1, 1) := by decide +kernel
theorem dX12_chanceOf_1 : decode cX12_chanceOf 1 = .ok (.bipush 16, 2) := by decide +kernel
theorem dX12_chanceOf_3 : decode cX12_chanceOf 3 = .ok (.if_icmp .le 5, 3) := by decide +kernel
theorem dX12_chanceOf_6 : decode cX12_chanceOf 6 = .ok (.iconst 0, 1) := by decide +kernel
theorem dX12_chanceOf_7 : decode cX12_chanceOf 7 = .ok (.ireturn, 1) := by decide +kernel
theorem dX12_chanceOf_8 : decode cX12_chanceOf 8 = .ok (.aload_n 0, 1) := by decide +kernel
theorem dX12_chanceOf_9 : decode cX12_chanceOf 9 = .ok (.iload_n 1, 1) := by decide +kernel
theorem dX12_chanceOf_10 : decode cX12_chanceOf 10 = .ok (.aload_n 0, 1) := by decide +kernel
theorem dX12_chanceOf_11 : decode cX12_chanceOf 11 = .ok (.getfield 407, 3) := by decide +kernel
theorem dX12_chanceOf_14 : decode cX12_chanceOf 14 = .ok (.invokevirtual 513, 3) := by decide +kernel
theorem dX12_chanceOf_17 : decode cX12_chanceOf 17 = .ok (.aload_n 0, 1) := by decide +kernel
theorem dX12_chanceOf_18 : decode cX12_chanceOf 18 = .ok (.getfield 407, 3) := by decide +kernel
theorem dX12_chanceOf_21 : decode cX12_chanceOf 21 = .ok (.ldc2_w 432, 3) := by decide +kernel
theorem dX12_chanceOf_24 : decode cX12_chanceOf 24 = .ok (.invokestatic 410, 3) := by decide +kernel
theorem dX12_chanceOf_27 : decode cX12_chanceOf 27 = .ok (.lconst 0, 1) := by decide +kernel
theorem dX12_chanceOf_28 : decode cX12_chanceOf 28 = .ok (.lstore_n 3, 1) := by decide +kernel
theorem dX12_chanceOf_29 : decode cX12_chanceOf 29 = .ok (.aload_n 0, 1) := by decide +kernel
theorem dX12_chanceOf_30 : decode cX12_chanceOf 30 = .ok (.getfield 407, 3) := by decide +kernel
theorem dX12_chanceOf_33 : decode cX12_chanceOf 33 = .ok (.iconst 0, 1) := by decide +kernel
theorem dX12_chanceOf_34 : decode cX12_chanceOf 34 = .ok (.iaload, 1) := by decide +kernel
theorem dX12_chanceOf_35 : decode cX12_chanceOf 35 = .ok (.istore 5, 2) := by decide +kernel
theorem dX12_chanceOf_37 : decode cX12_chanceOf 37 = .ok (.iload 5, 2) := by decide +kernel
theorem dX12_chanceOf_39 : decode cX12_chanceOf 39 = .ok (.iload_n 2, 1) := by decide +kernel
theorem dX12_chanceOf_40 : decode cX12_chanceOf 40 = .ok (.if_icmp .le 24, 3) := by decide +kernel
theorem dX12_chanceOf_43 : decode cX12_chanceOf 43 = .ok (.lload_n 3, 1) := by decide +kernel
theorem dX12_chanceOf_44 : decode cX12_chanceOf 44 = .ok (.ldc2_w 392, 3) := by decide +kernel
theorem dX12_chanceOf_47 : decode cX12_chanceOf 47 = .ok (.lmul, 1) := by decide +kernel
theorem dX12_chanceOf_48 : decode cX12_chanceOf 48 = .ok (.aload_n 0, 1) := by decide +kernel
theorem dX12_chanceOf_49 : decode cX12_chanceOf 49 = .ok (.getfield 407, 3) := by decide +kernel
theorem dX12_chanceOf_52 : decode cX12_chanceOf 52 = .ok (.iload 5, 2) := by decide +kernel
theorem dX12_chanceOf_54 : decode cX12_chanceOf 54 = .ok (.iaload, 1) := by decide +kernel
theorem dX12_chanceOf_55 : decode cX12_chanceOf 55 = .ok (.i2l, 1) := by decide +kernel
theorem dX12_chanceOf_56 : decode cX12_chanceOf 56 = .ok (.ladd, 1) := by decide +kernel
theorem dX12_chanceOf_57 : decode cX12_chanceOf 57 = .ok (.lstore_n 3, 1) := by decide +kernel
theorem dX12_chanceOf_58 : decode cX12_chanceOf 58 = .ok (.iinc 5 (-1), 3) := by decide +kernel
theorem dX12_chanceOf_61 : decode cX12_chanceOf 61 = .ok (.goto (-24), 3) := by decide +kernel
theorem dX12_chanceOf_64 : decode cX12_chanceOf 64 = .ok (.lload_n 3, 1) := by decide +kernel
theorem dX12_chanceOf_65 : decode cX12_chanceOf 65 = .ok (.l2i, 1) := by decide +kernel
theorem dX12_chanceOf_66 : decode cX12_chanceOf 66 = .ok (.ireturn, 1) := by decide +kernel
theorem dX12_isPercent_0 : decode cX12_isPercent 0 = .ok (.iload_n 0, 1) := by decide +kernel
theorem dX12_isPercent_1 : decode cX12_isPercent 1 = .ok (.i2l, 1) := by decide +kernel
theorem dX12_isPercent_2 : decode cX12_isPercent 2 = .ok (.lconst 0, 1) := by decide +kernel
theorem dX12_isPercent_3 : decode cX12_isPercent 3 = .ok (.ldc2_w 365, 3) := by decide +kernel
theorem dX12_isPercent_6 : decode cX12_isPercent 6 = .ok (.invokestatic 29, 3) := by decide +kernel
theorem dX12_isPercent_9 : decode cX12_isPercent 9 = .ok (.ireturn, 1) := by decide +kernel
theorem dX12_shows_0 : decode cX12_shows 0 = .ok (.aload_n 0, 1) := by decide +kernel
theorem dX12_shows_1 : decode cX12_shows 1 = .ok (.iconst 0, 1) := by decide +kernel
theorem dX12_shows_2 : decode cX12_shows 2 = .ok (.putfield 3, 3) := by decide +kernel
theorem dX12_shows_5 : decode cX12_shows 5 = .ok (.iload_n 1, 1) := by decide +kernel
theorem dX12_shows_6 : decode cX12_shows 6 = .ok (.i2l, 1) := by decide +kernel
theorem dX12_shows_7 : decode cX12_shows 7 = .ok (.lconst 1, 1) := by decide +kernel
theorem dX12_shows_8 : decode cX12_shows 8 = .ok (.ldc2_w 516, 3) := by decide +kernel
theorem dX12_shows_11 : decode cX12_shows 11 = .ok (.invokestatic 29, 3) := by decide +kernel
theorem dX12_shows_14 : decode cX12_shows 14 = .ok (.ifCond .eq 30, 3) := by decide +kernel
theorem dX12_shows_17 : decode cX12_shows 17 = .ok (.iload_n 2, 1) := by decide +kernel
theorem dX12_shows_18 : decode cX12_shows 18 = .ok (.invokestatic 518, 3) := by decide +kernel
theorem dX12_shows_21 : decode cX12_shows 21 = .ok (.ifCond .eq 23, 3) := by decide +kernel
theorem dX12_shows_24 : decode cX12_shows 24 = .ok (.iload_n 3, 1) := by decide +kernel
theorem dX12_shows_25 : decode cX12_shows 25 = .ok (.invokestatic 518, 3) := by decide +kernel
theorem dX12_shows_28 : decode cX12_shows 28 = .ok (.ifCond .eq 16, 3) := by decide +kernel
theorem dX12_shows_31 : decode cX12_shows 31 = .ok (.iload 4, 2) := by decide +kernel
theorem dX12_shows_33 : decode cX12_shows 33 = .ok (.i2l, 1) := by decide +kernel
theorem dX12_shows_34 : decode cX12_shows 34 = .ok (.lconst 1, 1) := by decide +kernel
theorem dX12_shows_35 : decode cX12_shows 35 = .ok (.ldc2_w 516, 3) := by decide +kernel
theorem dX12_shows_38 : decode cX12_shows 38 = .ok (.invokestatic 29, 3) := by decide +kernel
theorem dX12_shows_41 : decode cX12_shows 41 = .ok (.ifCond .ne 5, 3) := by decide +kernel
theorem dX12_shows_44 : decode cX12_shows 44 = .ok (.iconst (-1), 1) := by decide +kernel
theorem dX12_shows_45 : decode cX12_shows 45 = .ok (.ireturn, 1) := by decide +kernel
theorem dX12_shows_46 : decode cX12_shows 46 = .ok (.aload_n 0, 1) := by decide +kernel
theorem dX12_shows_47 : decode cX12_shows 47 = .ok (.iload_n 1, 1) := by decide +kernel
theorem dX12_shows_48 : decode cX12_shows 48 = .ok (.iload_n 2, 1) := by decide +kernel
theorem dX12_shows_49 : decode cX12_shows 49 = .ok (.iload_n 3, 1) := by decide +kernel
theorem dX12_shows_50 : decode cX12_shows 50 = .ok (.invokevirtual 521, 3) := by decide +kernel
theorem dX12_shows_53 : decode cX12_shows 53 = .ok (.aload_n 0, 1) := by decide +kernel
theorem dX12_shows_54 : decode cX12_shows 54 = .ok (.iload 4, 2) := by decide +kernel
theorem dX12_shows_56 : decode cX12_shows 56 = .ok (.iload_n 1, 1) := by decide +kernel
theorem dX12_shows_57 : decode cX12_shows 57 = .ok (.invokevirtual 524, 3) := by decide +kernel
theorem dX12_shows_60 : decode cX12_shows 60 = .ok (.ireturn, 1) := by decide +kernel
theorem dX12_least_0 : decode cX12_least 0 = .ok (.aload_n 0, 1) := by decide +kernel
theorem dX12_least_1 : decode cX12_least 1 = .ok (.iconst 0, 1) := by decide +kernel
theorem dX12_least_2 : decode cX12_least 2 = .ok (.putfield 3, 3) := by decide +kernel
theorem dX12_least_5 : decode cX12_least 5 = .ok (.iload_n 1, 1) := by decide +kernel
theorem dX12_least_6 : decode cX12_least 6 = .ok (.invokestatic 518, 3) := by decide +kernel
theorem dX12_least_9 : decode cX12_least 9 = .ok (.ifCond .eq 35, 3) := by decide +kernel
theorem dX12_least_12 : decode cX12_least 12 = .ok (.iload_n 2, 1) := by decide +kernel
theorem dX12_least_13 : decode cX12_least 13 = .ok (.invokestatic 518, 3) := by decide +kernel
theorem dX12_least_16 : decode cX12_least 16 = .ok (.ifCond .eq 28, 3) := by decide +kernel
theorem dX12_least_19 : decode cX12_least 19 = .ok (.iload_n 3, 1) := by decide +kernel
theorem dX12_least_20 : decode cX12_least 20 = .ok (.i2l, 1) := by decide +kernel
theorem dX12_least_21 : decode cX12_least 21 = .ok (.lconst 1, 1) := by decide +kernel
theorem dX12_least_22 : decode cX12_least 22 = .ok (.ldc2_w 432, 3) := by decide +kernel
theorem dX12_least_25 : decode cX12_least 25 = .ok (.invokestatic 29, 3) := by decide +kernel
theorem dX12_least_28 : decode cX12_least 28 = .ok (.ifCond .eq 16, 3) := by decide +kernel
theorem dX12_least_31 : decode cX12_least 31 = .ok (.iload 4, 2) := by decide +kernel
theorem dX12_least_33 : decode cX12_least 33 = .ok (.i2l, 1) := by decide +kernel
theorem dX12_least_34 : decode cX12_least 34 = .ok (.lconst 0, 1) := by decide +kernel
theorem dX12_least_35 : decode cX12_least 35 = .ok (.ldc2_w 432, 3) := by decide +kernel
theorem dX12_least_38 : decode cX12_least 38 = .ok (.invokestatic 29, 3) := by decide +kernel
theorem dX12_least_41 : decode cX12_least 41 = .ok (.ifCond .ne 5, 3) := by decide +kernel
theorem dX12_least_44 : decode cX12_least 44 = .ok (.iconst (-1), 1) := by decide +kernel
theorem dX12_least_45 : decode cX12_least 45 = .ok (.ireturn, 1) := by decide +kernel
theorem dX12_least_46 : decode cX12_least 46 = .ok (.iconst 1, 1) := by decide +kernel
theorem dX12_least_47 : decode cX12_least 47 = .ok (.istore 5, 2) := by decide +kernel
theorem dX12_least_49 : decode cX12_least 49 = .ok (.iload 5, 2) := by decide +kernel
theorem dX12_least_51 : decode cX12_least 51 = .ok (.bipush 16, 2) := by decide +kernel
theorem dX12_least_53 : decode cX12_least 53 = .ok (.if_icmp .gt 111, 3) := by decide +kernel
theorem dX12_least_56 : decode cX12_least 56 = .ok (.aload_n 0, 1) := by decide +kernel
theorem dX12_least_57 : decode cX12_least 57 = .ok (.iload 5, 2) := by decide +kernel
theorem dX12_least_59 : decode cX12_least 59 = .ok (.iload_n 1, 1) := by decide +kernel
theorem dX12_least_60 : decode cX12_least 60 = .ok (.iload_n 2, 1) := by decide +kernel
theorem dX12_least_61 : decode cX12_least 61 = .ok (.invokevirtual 521, 3) := by decide +kernel
theorem dX12_least_64 : decode cX12_least 64 = .ok (.iconst 1, 1) := by decide +kernel
theorem dX12_least_65 : decode cX12_least 65 = .ok (.istore 6, 2) := by decide +kernel
theorem dX12_least_67 : decode cX12_least 67 = .ok (.iload 6, 2) := by decide +kernel
theorem dX12_least_69 : decode cX12_least 69 = .ok (.bipush 16, 2) := by decide +kernel
theorem dX12_least_71 : decode cX12_least 71 = .ok (.if_icmp .gt 24, 3) := by decide +kernel
theorem dX12_least_74 : decode cX12_least 74 = .ok (.aload_n 0, 1) := by decide +kernel
theorem dX12_least_75 : decode cX12_least 75 = .ok (.getfield 527, 3) := by decide +kernel
theorem dX12_least_78 : decode cX12_least 78 = .ok (.iload 6, 2) := by decide +kernel
theorem dX12_least_80 : decode cX12_least 80 = .ok (.aload_n 0, 1) := by decide +kernel
theorem dX12_least_81 : decode cX12_least 81 = .ok (.iload 6, 2) := by decide +kernel
theorem dX12_least_83 : decode cX12_least 83 = .ok (.iload 5, 2) := by decide +kernel
theorem dX12_least_85 : decode cX12_least 85 = .ok (.invokevirtual 524, 3) := by decide +kernel
theorem dX12_least_88 : decode cX12_least 88 = .ok (.iastore, 1) := by decide +kernel
theorem dX12_least_89 : decode cX12_least 89 = .ok (.iinc 6 1, 3) := by decide +kernel
theorem dX12_least_92 : decode cX12_least 92 = .ok (.goto (-25), 3) := by decide +kernel
theorem dX12_least_95 : decode cX12_least 95 = .ok (.aload_n 0, 1) := by decide +kernel
theorem dX12_least_96 : decode cX12_least 96 = .ok (.iload 5, 2) := by decide +kernel
theorem dX12_least_98 : decode cX12_least 98 = .ok (.iload_n 2, 1) := by decide +kernel
theorem dX12_least_99 : decode cX12_least 99 = .ok (.iload_n 2, 1) := by decide +kernel
theorem dX12_least_100 : decode cX12_least 100 = .ok (.invokevirtual 521, 3) := by decide +kernel
theorem dX12_least_103 : decode cX12_least 103 = .ok (.iconst 1, 1) := by decide +kernel
theorem dX12_least_104 : decode cX12_least 104 = .ok (.istore 6, 2) := by decide +kernel
theorem dX12_least_106 : decode cX12_least 106 = .ok (.iload 6, 2) := by decide +kernel
theorem dX12_least_108 : decode cX12_least 108 = .ok (.bipush 16, 2) := by decide +kernel
theorem dX12_least_110 : decode cX12_least 110 = .ok (.if_icmp .gt 48, 3) := by decide +kernel
theorem dX12_least_113 : decode cX12_least 113 = .ok (.aload_n 0, 1) := by decide +kernel
theorem dX12_least_114 : decode cX12_least 114 = .ok (.getfield 527, 3) := by decide +kernel
theorem dX12_least_117 : decode cX12_least 117 = .ok (.iload 6, 2) := by decide +kernel
theorem dX12_least_119 : decode cX12_least 119 = .ok (.iaload, 1) := by decide +kernel
theorem dX12_least_120 : decode cX12_least 120 = .ok (.iload_n 3, 1) := by decide +kernel
theorem dX12_least_121 : decode cX12_least 121 = .ok (.if_icmp .lt 31, 3) := by decide +kernel
theorem dX12_least_124 : decode cX12_least 124 = .ok (.aload_n 0, 1) := by decide +kernel
theorem dX12_least_125 : decode cX12_least 125 = .ok (.iload 6, 2) := by decide +kernel
theorem dX12_least_127 : decode cX12_least 127 = .ok (.iload 5, 2) := by decide +kernel
theorem dX12_least_129 : decode cX12_least 129 = .ok (.invokevirtual 524, 3) := by decide +kernel
theorem dX12_least_132 : decode cX12_least 132 = .ok (.iload 4, 2) := by decide +kernel
theorem dX12_least_134 : decode cX12_least 134 = .ok (.if_icmp .gt 18, 3) := by decide +kernel
theorem dX12_least_137 : decode cX12_least 137 = .ok (.aload_n 0, 1) := by decide +kernel
theorem dX12_least_138 : decode cX12_least 138 = .ok (.iconst 0, 1) := by decide +kernel
theorem dX12_least_139 : decode cX12_least 139 = .ok (.putfield 11, 3) := by decide +kernel
theorem dX12_least_142 : decode cX12_least 142 = .ok (.aload_n 0, 1) := by decide +kernel
theorem dX12_least_143 : decode cX12_least 143 = .ok (.iload 6, 2) := by decide +kernel
theorem dX12_least_145 : decode cX12_least 145 = .ok (.i2l, 1) := by decide +kernel
theorem dX12_least_146 : decode cX12_least 146 = .ok (.invokevirtual 18, 3) := by decide +kernel
theorem dX12_least_149 : decode cX12_least 149 = .ok (.iload 5, 2) := by decide +kernel
theorem dX12_least_151 : decode cX12_least 151 = .ok (.ireturn, 1) := by decide +kernel
theorem dX12_least_152 : decode cX12_least 152 = .ok (.iinc 6 1, 3) := by decide +kernel
theorem dX12_least_155 : decode cX12_least 155 = .ok (.goto (-49), 3) := by decide +kernel
theorem dX12_least_158 : decode cX12_least 158 = .ok (.iinc 5 1, 3) := by decide +kernel
theorem dX12_least_161 : decode cX12_least 161 = .ok (.goto (-112), 3) := by decide +kernel
theorem dX12_least_164 : decode cX12_least 164 = .ok (.bipush (-2), 2) := by decide +kernel
theorem dX12_least_166 : decode cX12_least 166 = .ok (.ireturn, 1) := by decide +kernel
theorem dX12_keep_0 : decode cX12_keep 0 = .ok (.aload_n 0, 1) := by decide +kernel
theorem dX12_keep_1 : decode cX12_keep 1 = .ok (.iconst 0, 1) := by decide +kernel
theorem dX12_keep_2 : decode cX12_keep 2 = .ok (.putfield 3, 3) := by decide +kernel
theorem dX12_keep_5 : decode cX12_keep 5 = .ok (.iload_n 1, 1) := by decide +kernel
theorem dX12_keep_6 : decode cX12_keep 6 = .ok (.i2l, 1) := by decide +kernel
theorem dX12_keep_7 : decode cX12_keep 7 = .ok (.lconst 0, 1) := by decide +kernel
theorem dX12_keep_8 : decode cX12_keep 8 = .ok (.ldc2_w 261, 3) := by decide +kernel
theorem dX12_keep_11 : decode cX12_keep 11 = .ok (.invokestatic 29, 3) := by decide +kernel
theorem dX12_keep_14 : decode cX12_keep 14 = .ok (.ifCond .ne 5, 3) := by decide +kernel
theorem dX12_keep_17 : decode cX12_keep 17 = .ok (.iconst 0, 1) := by decide +kernel
theorem dX12_keep_18 : decode cX12_keep 18 = .ok (.ireturn, 1) := by decide +kernel
theorem dX12_keep_19 : decode cX12_keep 19 = .ok (.aload_n 0, 1) := by decide +kernel
theorem dX12_keep_20 : decode cX12_keep 20 = .ok (.getfield 530, 3) := by decide +kernel
theorem dX12_keep_23 : decode cX12_keep 23 = .ok (.iload_n 1, 1) := by decide +kernel
theorem dX12_keep_24 : decode cX12_keep 24 = .ok (.aload_n 0, 1) := by decide +kernel
theorem dX12_keep_25 : decode cX12_keep 25 = .ok (.getfield 36, 3) := by decide +kernel
theorem dX12_keep_28 : decode cX12_keep 28 = .ok (.iastore, 1) := by decide +kernel
theorem dX12_keep_29 : decode cX12_keep 29 = .ok (.aload_n 0, 1) := by decide +kernel
theorem dX12_keep_30 : decode cX12_keep 30 = .ok (.getfield 533, 3) := by decide +kernel
theorem dX12_keep_33 : decode cX12_keep 33 = .ok (.iload_n 1, 1) := by decide +kernel
theorem dX12_keep_34 : decode cX12_keep 34 = .ok (.aload_n 0, 1) := by decide +kernel
theorem dX12_keep_35 : decode cX12_keep 35 = .ok (.getfield 22, 3) := by decide +kernel
theorem dX12_keep_38 : decode cX12_keep 38 = .ok (.iastore, 1) := by decide +kernel
theorem dX12_keep_39 : decode cX12_keep 39 = .ok (.iconst 0, 1) := by decide +kernel
theorem dX12_keep_40 : decode cX12_keep 40 = .ok (.istore_n 2, 1) := by decide +kernel
theorem dX12_keep_41 : decode cX12_keep 41 = .ok (.iload_n 2, 1) := by decide +kernel
theorem dX12_keep_42 : decode cX12_keep 42 = .ok (.aload_n 0, 1) := by decide +kernel
theorem dX12_keep_43 : decode cX12_keep 43 = .ok (.getfield 36, 3) := by decide +kernel
theorem dX12_keep_46 : decode cX12_keep 46 = .ok (.if_icmp .ge 50, 3) := by decide +kernel
theorem dX12_keep_49 : decode cX12_keep 49 = .ok (.aload_n 0, 1) := by decide +kernel
theorem dX12_keep_50 : decode cX12_keep 50 = .ok (.getfield 536, 3) := by decide +kernel
theorem dX12_keep_53 : decode cX12_keep 53 = .ok (.bipush 96, 2) := by decide +kernel
theorem dX12_keep_55 : decode cX12_keep 55 = .ok (.iload_n 1, 1) := by decide +kernel
theorem dX12_keep_56 : decode cX12_keep 56 = .ok (.imul, 1) := by decide +kernel
theorem dX12_keep_57 : decode cX12_keep 57 = .ok (.iload_n 2, 1) := by decide +kernel
theorem dX12_keep_58 : decode cX12_keep 58 = .ok (.iadd, 1) := by decide +kernel
theorem dX12_keep_59 : decode cX12_keep 59 = .ok (.aload_n 0, 1) := by decide +kernel
theorem dX12_keep_60 : decode cX12_keep 60 = .ok (.getfield 89, 3) := by decide +kernel
theorem dX12_keep_63 : decode cX12_keep 63 = .ok (.iload_n 2, 1) := by decide +kernel
theorem dX12_keep_64 : decode cX12_keep 64 = .ok (.baload, 1) := by decide +kernel
theorem dX12_keep_65 : decode cX12_keep 65 = .ok (.invokestatic 70, 3) := by decide +kernel
theorem dX12_keep_68 : decode cX12_keep 68 = .ok (.iconst 2, 1) := by decide +kernel
theorem dX12_keep_69 : decode cX12_keep 69 = .ok (.aload_n 0, 1) := by decide +kernel
theorem dX12_keep_70 : decode cX12_keep 70 = .ok (.getfield 93, 3) := by decide +kernel
theorem dX12_keep_73 : decode cX12_keep 73 = .ok (.iload_n 2, 1) := by decide +kernel
theorem dX12_keep_74 : decode cX12_keep 74 = .ok (.baload, 1) := by decide +kernel
theorem dX12_keep_75 : decode cX12_keep 75 = .ok (.invokestatic 70, 3) := by decide +kernel
theorem dX12_keep_78 : decode cX12_keep 78 = .ok (.imul, 1) := by decide +kernel
theorem dX12_keep_79 : decode cX12_keep 79 = .ok (.iadd, 1) := by decide +kernel
theorem dX12_keep_80 : decode cX12_keep 80 = .ok (.iconst 4, 1) := by decide +kernel
theorem dX12_keep_81 : decode cX12_keep 81 = .ok (.aload_n 0, 1) := by decide +kernel
theorem dX12_keep_82 : decode cX12_keep 82 = .ok (.getfield 96, 3) := by decide +kernel
theorem dX12_keep_85 : decode cX12_keep 85 = .ok (.iload_n 2, 1) := by decide +kernel
theorem dX12_keep_86 : decode cX12_keep 86 = .ok (.iaload, 1) := by decide +kernel
theorem dX12_keep_87 : decode cX12_keep 87 = .ok (.imul, 1) := by decide +kernel
theorem dX12_keep_88 : decode cX12_keep 88 = .ok (.iadd, 1) := by decide +kernel
theorem dX12_keep_89 : decode cX12_keep 89 = .ok (.iastore, 1) := by decide +kernel
theorem dX12_keep_90 : decode cX12_keep 90 = .ok (.iinc 2 1, 3) := by decide +kernel
theorem dX12_keep_93 : decode cX12_keep 93 = .ok (.goto (-52), 3) := by decide +kernel
theorem dX12_keep_96 : decode cX12_keep 96 = .ok (.iconst 1, 1) := by decide +kernel
theorem dX12_keep_97 : decode cX12_keep 97 = .ok (.ireturn, 1) := by decide +kernel
theorem dX12_again_0 : decode cX12_again 0 = .ok (.aload_n 0, 1) := by decide +kernel
theorem dX12_again_1 : decode cX12_again 1 = .ok (.iconst 0, 1) := by decide +kernel
theorem dX12_again_2 : decode cX12_again 2 = .ok (.putfield 3, 3) := by decide +kernel
theorem dX12_again_5 : decode cX12_again 5 = .ok (.iload_n 1, 1) := by decide +kernel
theorem dX12_again_6 : decode cX12_again 6 = .ok (.i2l, 1) := by decide +kernel
theorem dX12_again_7 : decode cX12_again 7 = .ok (.lconst 0, 1) := by decide +kernel
theorem dX12_again_8 : decode cX12_again 8 = .ok (.ldc2_w 261, 3) := by decide +kernel
theorem dX12_again_11 : decode cX12_again 11 = .ok (.invokestatic 29, 3) := by decide +kernel
theorem dX12_again_14 : decode cX12_again 14 = .ok (.ifCond .eq 25, 3) := by decide +kernel
theorem dX12_again_17 : decode cX12_again 17 = .ok (.aload_n 0, 1) := by decide +kernel
theorem dX12_again_18 : decode cX12_again 18 = .ok (.getfield 530, 3) := by decide +kernel
theorem dX12_again_21 : decode cX12_again 21 = .ok (.iload_n 1, 1) := by decide +kernel
theorem dX12_again_22 : decode cX12_again 22 = .ok (.iaload, 1) := by decide +kernel
theorem dX12_again_23 : decode cX12_again 23 = .ok (.ifCond .lt 16, 3) := by decide +kernel
theorem dX12_again_26 : decode cX12_again 26 = .ok (.aload_n 0, 1) := by decide +kernel
theorem dX12_again_27 : decode cX12_again 27 = .ok (.getfield 530, 3) := by decide +kernel
theorem dX12_again_30 : decode cX12_again 30 = .ok (.iload_n 1, 1) := by decide +kernel
theorem dX12_again_31 : decode cX12_again 31 = .ok (.iaload, 1) := by decide +kernel
theorem dX12_again_32 : decode cX12_again 32 = .ok (.aload_n 0, 1) := by decide +kernel
theorem dX12_again_33 : decode cX12_again 33 = .ok (.getfield 36, 3) := by decide +kernel
theorem dX12_again_36 : decode cX12_again 36 = .ok (.if_icmp .le 5, 3) := by decide +kernel
theorem dX12_again_39 : decode cX12_again 39 = .ok (.iconst 0, 1) := by decide +kernel
theorem dX12_again_40 : decode cX12_again 40 = .ok (.ireturn, 1) := by decide +kernel
theorem dX12_again_41 : decode cX12_again 41 = .ok (.aload_n 0, 1) := by decide +kernel
theorem dX12_again_42 : decode cX12_again 42 = .ok (.aload_n 0, 1) := by decide +kernel
theorem dX12_again_43 : decode cX12_again 43 = .ok (.getfield 530, 3) := by decide +kernel
theorem dX12_again_46 : decode cX12_again 46 = .ok (.iload_n 1, 1) := by decide +kernel
theorem dX12_again_47 : decode cX12_again 47 = .ok (.iaload, 1) := by decide +kernel
theorem dX12_again_48 : decode cX12_again 48 = .ok (.putfield 36, 3) := by decide +kernel
theorem dX12_again_51 : decode cX12_again 51 = .ok (.aload_n 0, 1) := by decide +kernel
theorem dX12_again_52 : decode cX12_again 52 = .ok (.aload_n 0, 1) := by decide +kernel
theorem dX12_again_53 : decode cX12_again 53 = .ok (.getfield 533, 3) := by decide +kernel
theorem dX12_again_56 : decode cX12_again 56 = .ok (.iload_n 1, 1) := by decide +kernel
theorem dX12_again_57 : decode cX12_again 57 = .ok (.iaload, 1) := by decide +kernel
theorem dX12_again_58 : decode cX12_again 58 = .ok (.putfield 22, 3) := by decide +kernel
theorem dX12_again_61 : decode cX12_again 61 = .ok (.aload_n 0, 1) := by decide +kernel
theorem dX12_again_62 : decode cX12_again 62 = .ok (.iconst 0, 1) := by decide +kernel
theorem dX12_again_63 : decode cX12_again 63 = .ok (.putfield 469, 3) := by decide +kernel
theorem dX12_again_66 : decode cX12_again 66 = .ok (.iconst 0, 1) := by decide +kernel
theorem dX12_again_67 : decode cX12_again 67 = .ok (.istore_n 2, 1) := by decide +kernel
theorem dX12_again_68 : decode cX12_again 68 = .ok (.iload_n 2, 1) := by decide +kernel
theorem dX12_again_69 : decode cX12_again 69 = .ok (.aload_n 0, 1) := by decide +kernel
theorem dX12_again_70 : decode cX12_again 70 = .ok (.getfield 36, 3) := by decide +kernel
theorem dX12_again_73 : decode cX12_again 73 = .ok (.if_icmp .ge 52, 3) := by decide +kernel
theorem dX12_again_76 : decode cX12_again 76 = .ok (.aload_n 0, 1) := by decide +kernel
theorem dX12_again_77 : decode cX12_again 77 = .ok (.getfield 536, 3) := by decide +kernel
theorem dX12_again_80 : decode cX12_again 80 = .ok (.bipush 96, 2) := by decide +kernel
theorem dX12_again_82 : decode cX12_again 82 = .ok (.iload_n 1, 1) := by decide +kernel
theorem dX12_again_83 : decode cX12_again 83 = .ok (.imul, 1) := by decide +kernel
theorem dX12_again_84 : decode cX12_again 84 = .ok (.iload_n 2, 1) := by decide +kernel
theorem dX12_again_85 : decode cX12_again 85 = .ok (.iadd, 1) := by decide +kernel
theorem dX12_again_86 : decode cX12_again 86 = .ok (.iaload, 1) := by decide +kernel
theorem dX12_again_87 : decode cX12_again 87 = .ok (.istore_n 3, 1) := by decide +kernel
theorem dX12_again_88 : decode cX12_again 88 = .ok (.aload_n 0, 1) := by decide +kernel
theorem dX12_again_89 : decode cX12_again 89 = .ok (.getfield 89, 3) := by decide +kernel
theorem dX12_again_92 : decode cX12_again 92 = .ok (.iload_n 2, 1) := by decide +kernel
theorem dX12_again_93 : decode cX12_again 93 = .ok (.iload_n 3, 1) := by decide +kernel
theorem dX12_again_94 : decode cX12_again 94 = .ok (.iconst 0, 1) := by decide +kernel
theorem dX12_again_95 : decode cX12_again 95 = .ok (.invokestatic 322, 3) := by decide +kernel
theorem dX12_again_98 : decode cX12_again 98 = .ok (.bastore, 1) := by decide +kernel
theorem dX12_again_99 : decode cX12_again 99 = .ok (.aload_n 0, 1) := by decide +kernel
theorem dX12_again_100 : decode cX12_again 100 = .ok (.getfield 93, 3) := by decide +kernel
theorem dX12_again_103 : decode cX12_again 103 = .ok (.iload_n 2, 1) := by decide +kernel
theorem dX12_again_104 : decode cX12_again 104 = .ok (.iload_n 3, 1) := by decide +kernel
theorem dX12_again_105 : decode cX12_again 105 = .ok (.iconst 1, 1) := by decide +kernel
theorem dX12_again_106 : decode cX12_again 106 = .ok (.invokestatic 322, 3) := by decide +kernel
theorem dX12_again_109 : decode cX12_again 109 = .ok (.bastore, 1) := by decide +kernel
theorem dX12_again_110 : decode cX12_again 110 = .ok (.aload_n 0, 1) := by decide +kernel
theorem dX12_again_111 : decode cX12_again 111 = .ok (.getfield 96, 3) := by decide +kernel
theorem dX12_again_114 : decode cX12_again 114 = .ok (.iload_n 2, 1) := by decide +kernel
theorem dX12_again_115 : decode cX12_again 115 = .ok (.iload_n 3, 1) := by decide +kernel
theorem dX12_again_116 : decode cX12_again 116 = .ok (.iconst 2, 1) := by decide +kernel
theorem dX12_again_117 : decode cX12_again 117 = .ok (.ishr, 1) := by decide +kernel
theorem dX12_again_118 : decode cX12_again 118 = .ok (.iastore, 1) := by decide +kernel
theorem dX12_again_119 : decode cX12_again 119 = .ok (.iinc 2 1, 3) := by decide +kernel
theorem dX12_again_122 : decode cX12_again 122 = .ok (.goto (-54), 3) := by decide +kernel
theorem dX12_again_125 : decode cX12_again 125 = .ok (.iconst 1, 1) := by decide +kernel
theorem dX12_again_126 : decode cX12_again 126 = .ok (.ireturn, 1) := by decide +kernel
theorem dX12_toldBits_0 : decode cX12_toldBits 0 = .ok (.iconst 0, 1) := by decide +kernel
theorem dX12_toldBits_1 : decode cX12_toldBits 1 = .ok (.istore_n 2, 1) := by decide +kernel
theorem dX12_toldBits_2 : decode cX12_toldBits 2 = .ok (.iconst 0, 1) := by decide +kernel
theorem dX12_toldBits_3 : decode cX12_toldBits 3 = .ok (.istore_n 3, 1) := by decide +kernel
theorem dX12_toldBits_4 : decode cX12_toldBits 4 = .ok (.iload_n 3, 1) := by decide +kernel
theorem dX12_toldBits_5 : decode cX12_toldBits 5 = .ok (.bipush 6, 2) := by decide +kernel
theorem dX12_toldBits_7 : decode cX12_toldBits 7 = .ok (.if_icmp .ge 30, 3) := by decide +kernel
theorem dX12_toldBits_10 : decode cX12_toldBits 10 = .ok (.iload_n 2, 1) := by decide +kernel
theorem dX12_toldBits_11 : decode cX12_toldBits 11 = .ok (.aload_n 0, 1) := by decide +kernel
theorem dX12_toldBits_12 : decode cX12_toldBits 12 = .ok (.getfield 168, 3) := by decide +kernel
theorem dX12_toldBits_15 : decode cX12_toldBits 15 = .ok (.iload_n 1, 1) := by decide +kernel
theorem dX12_toldBits_16 : decode cX12_toldBits 16 = .ok (.iload_n 3, 1) := by decide +kernel
theorem dX12_toldBits_17 : decode cX12_toldBits 17 = .ok (.iadd, 1) := by decide +kernel
theorem dX12_toldBits_18 : decode cX12_toldBits 18 = .ok (.iaload, 1) := by decide +kernel
theorem dX12_toldBits_19 : decode cX12_toldBits 19 = .ok (.ifCond .le 9, 3) := by decide +kernel
theorem dX12_toldBits_22 : decode cX12_toldBits 22 = .ok (.iconst 1, 1) := by decide +kernel
theorem dX12_toldBits_23 : decode cX12_toldBits 23 = .ok (.iload_n 3, 1) := by decide +kernel
theorem dX12_toldBits_24 : decode cX12_toldBits 24 = .ok (.ishl, 1) := by decide +kernel
theorem dX12_toldBits_25 : decode cX12_toldBits 25 = .ok (.goto 4, 3) := by decide +kernel
theorem dX12_toldBits_28 : decode cX12_toldBits 28 = .ok (.iconst 0, 1) := by decide +kernel
theorem dX12_toldBits_29 : decode cX12_toldBits 29 = .ok (.ior, 1) := by decide +kernel
theorem dX12_toldBits_30 : decode cX12_toldBits 30 = .ok (.istore_n 2, 1) := by decide +kernel
theorem dX12_toldBits_31 : decode cX12_toldBits 31 = .ok (.iinc 3 1, 3) := by decide +kernel
theorem dX12_toldBits_34 : decode cX12_toldBits 34 = .ok (.goto (-30), 3) := by decide +kernel
theorem dX12_toldBits_37 : decode cX12_toldBits 37 = .ok (.iload_n 2, 1) := by decide +kernel
theorem dX12_toldBits_38 : decode cX12_toldBits 38 = .ok (.ireturn, 1) := by decide +kernel
theorem dX12_rungMany_0 : decode cX12_rungMany 0 = .ok (.iconst 0, 1) := by decide +kernel
theorem dX12_rungMany_1 : decode cX12_rungMany 1 = .ok (.istore_n 1, 1) := by decide +kernel
theorem dX12_rungMany_2 : decode cX12_rungMany 2 = .ok (.iconst 0, 1) := by decide +kernel
theorem dX12_rungMany_3 : decode cX12_rungMany 3 = .ok (.istore_n 2, 1) := by decide +kernel
theorem dX12_rungMany_4 : decode cX12_rungMany 4 = .ok (.iload_n 2, 1) := by decide +kernel
theorem dX12_rungMany_5 : decode cX12_rungMany 5 = .ok (.aload_n 0, 1) := by decide +kernel
theorem dX12_rungMany_6 : decode cX12_rungMany 6 = .ok (.getfield 36, 3) := by decide +kernel
theorem dX12_rungMany_9 : decode cX12_rungMany 9 = .ok (.if_icmp .ge 38, 3) := by decide +kernel
theorem dX12_rungMany_12 : decode cX12_rungMany 12 = .ok (.iload_n 1, 1) := by decide +kernel
theorem dX12_rungMany_13 : decode cX12_rungMany 13 = .ok (.aload_n 0, 1) := by decide +kernel
theorem dX12_rungMany_14 : decode cX12_rungMany 14 = .ok (.getfield 89, 3) := by decide +kernel
theorem dX12_rungMany_17 : decode cX12_rungMany 17 = .ok (.iload_n 2, 1) := by decide +kernel
theorem dX12_rungMany_18 : decode cX12_rungMany 18 = .ok (.baload, 1) := by decide +kernel
theorem dX12_rungMany_19 : decode cX12_rungMany 19 = .ok (.ifCond .eq 16, 3) := by decide +kernel
theorem dX12_rungMany_22 : decode cX12_rungMany 22 = .ok (.aload_n 0, 1) := by decide +kernel
theorem dX12_rungMany_23 : decode cX12_rungMany 23 = .ok (.getfield 93, 3) := by decide +kernel
theorem dX12_rungMany_26 : decode cX12_rungMany 26 = .ok (.iload_n 2, 1) := by decide +kernel
theorem dX12_rungMany_27 : decode cX12_rungMany 27 = .ok (.baload, 1) := by decide +kernel
theorem dX12_rungMany_28 : decode cX12_rungMany 28 = .ok (.ifCond .eq 7, 3) := by decide +kernel
theorem dX12_rungMany_31 : decode cX12_rungMany 31 = .ok (.iconst 1, 1) := by decide +kernel
theorem dX12_rungMany_32 : decode cX12_rungMany 32 = .ok (.goto 4, 3) := by decide +kernel
theorem dX12_rungMany_35 : decode cX12_rungMany 35 = .ok (.iconst 0, 1) := by decide +kernel
theorem dX12_rungMany_36 : decode cX12_rungMany 36 = .ok (.invokestatic 70, 3) := by decide +kernel
theorem dX12_rungMany_39 : decode cX12_rungMany 39 = .ok (.iadd, 1) := by decide +kernel
theorem dX12_rungMany_40 : decode cX12_rungMany 40 = .ok (.istore_n 1, 1) := by decide +kernel
theorem dX12_rungMany_41 : decode cX12_rungMany 41 = .ok (.iinc 2 1, 3) := by decide +kernel
theorem dX12_rungMany_44 : decode cX12_rungMany 44 = .ok (.goto (-40), 3) := by decide +kernel
theorem dX12_rungMany_47 : decode cX12_rungMany 47 = .ok (.iload_n 1, 1) := by decide +kernel
theorem dX12_rungMany_48 : decode cX12_rungMany 48 = .ok (.ireturn, 1) := by decide +kernel
theorem dX12_count_0 : decode cX12_count 0 = .ok (.aload_n 0, 1) := by decide +kernel
theorem dX12_count_1 : decode cX12_count 1 = .ok (.iconst 0, 1) := by decide +kernel
theorem dX12_count_2 : decode cX12_count 2 = .ok (.putfield 3, 3) := by decide +kernel
theorem dX12_count_5 : decode cX12_count 5 = .ok (.iload_n 1, 1) := by decide +kernel
theorem dX12_count_6 : decode cX12_count 6 = .ok (.tableswitch 107 0 9 #[54, 59, 64, 69, 74, 79, 85, 92, 97, 102], 54) := by decide +kernel
theorem dX12_count_60 : decode cX12_count 60 = .ok (.aload_n 0, 1) := by decide +kernel
theorem dX12_count_61 : decode cX12_count 61 = .ok (.getfield 26, 3) := by decide +kernel
theorem dX12_count_64 : decode cX12_count 64 = .ok (.ireturn, 1) := by decide +kernel
theorem dX12_count_65 : decode cX12_count 65 = .ok (.aload_n 0, 1) := by decide +kernel
theorem dX12_count_66 : decode cX12_count 66 = .ok (.getfield 33, 3) := by decide +kernel
theorem dX12_count_69 : decode cX12_count 69 = .ok (.ireturn, 1) := by decide +kernel
theorem dX12_count_70 : decode cX12_count 70 = .ok (.aload_n 0, 1) := by decide +kernel
theorem dX12_count_71 : decode cX12_count 71 = .ok (.getfield 36, 3) := by decide +kernel
theorem dX12_count_74 : decode cX12_count 74 = .ok (.ireturn, 1) := by decide +kernel
theorem dX12_count_75 : decode cX12_count 75 = .ok (.aload_n 0, 1) := by decide +kernel
theorem dX12_count_76 : decode cX12_count 76 = .ok (.invokevirtual 300, 3) := by decide +kernel
theorem dX12_count_79 : decode cX12_count 79 = .ok (.ireturn, 1) := by decide +kernel
theorem dX12_count_80 : decode cX12_count 80 = .ok (.aload_n 0, 1) := by decide +kernel
theorem dX12_count_81 : decode cX12_count 81 = .ok (.invokevirtual 539, 3) := by decide +kernel
theorem dX12_count_84 : decode cX12_count 84 = .ok (.ireturn, 1) := by decide +kernel
theorem dX12_count_85 : decode cX12_count 85 = .ok (.aload_n 0, 1) := by decide +kernel
theorem dX12_count_86 : decode cX12_count 86 = .ok (.iconst 0, 1) := by decide +kernel
theorem dX12_count_87 : decode cX12_count 87 = .ok (.invokevirtual 542, 3) := by decide +kernel
theorem dX12_count_90 : decode cX12_count 90 = .ok (.ireturn, 1) := by decide +kernel
theorem dX12_count_91 : decode cX12_count 91 = .ok (.aload_n 0, 1) := by decide +kernel
theorem dX12_count_92 : decode cX12_count 92 = .ok (.bipush 6, 2) := by decide +kernel
theorem dX12_count_94 : decode cX12_count 94 = .ok (.invokevirtual 542, 3) := by decide +kernel
theorem dX12_count_97 : decode cX12_count 97 = .ok (.ireturn, 1) := by decide +kernel
theorem dX12_count_98 : decode cX12_count 98 = .ok (.aload_n 0, 1) := by decide +kernel
theorem dX12_count_99 : decode cX12_count 99 = .ok (.getfield 469, 3) := by decide +kernel
theorem dX12_count_102 : decode cX12_count 102 = .ok (.ireturn, 1) := by decide +kernel
theorem dX12_count_103 : decode cX12_count 103 = .ok (.aload_n 0, 1) := by decide +kernel
theorem dX12_count_104 : decode cX12_count 104 = .ok (.getfield 11, 3) := by decide +kernel
theorem dX12_count_107 : decode cX12_count 107 = .ok (.ireturn, 1) := by decide +kernel
theorem dX12_count_108 : decode cX12_count 108 = .ok (.aload_n 0, 1) := by decide +kernel
theorem dX12_count_109 : decode cX12_count 109 = .ok (.getfield 140, 3) := by decide +kernel
theorem dX12_count_112 : decode cX12_count 112 = .ok (.ireturn, 1) := by decide +kernel
theorem dX12_count_113 : decode cX12_count 113 = .ok (.iconst (-1), 1) := by decide +kernel
theorem dX12_count_114 : decode cX12_count 114 = .ok (.ireturn, 1) := by decide +kernel
theorem dX12_init_0 : decode cX12_init 0 = .ok (.aload_n 0, 1) := by decide +kernel
theorem dX12_init_1 : decode cX12_init 1 = .ok (.invokespecial 545, 3) := by decide +kernel
theorem dX12_init_4 : decode cX12_init 4 = .ok (.aload_n 0, 1) := by decide +kernel
theorem dX12_init_5 : decode cX12_init 5 = .ok (.bipush 32, 2) := by decide +kernel
theorem dX12_init_7 : decode cX12_init 7 = .ok (.newarray .long, 2) := by decide +kernel
theorem dX12_init_9 : decode cX12_init 9 = .ok (.putfield 7, 3) := by decide +kernel
theorem dX12_init_12 : decode cX12_init 12 = .ok (.aload_n 0, 1) := by decide +kernel
theorem dX12_init_13 : decode cX12_init 13 = .ok (.bipush 12, 2) := by decide +kernel
theorem dX12_init_15 : decode cX12_init 15 = .ok (.newarray .int, 2) := by decide +kernel
theorem dX12_init_17 : decode cX12_init 17 = .ok (.putfield 41, 3) := by decide +kernel
theorem dX12_init_20 : decode cX12_init 20 = .ok (.aload_n 0, 1) := by decide +kernel
theorem dX12_init_21 : decode cX12_init 21 = .ok (.bipush 12, 2) := by decide +kernel
theorem dX12_init_23 : decode cX12_init 23 = .ok (.newarray .int, 2) := by decide +kernel
theorem dX12_init_25 : decode cX12_init 25 = .ok (.putfield 45, 3) := by decide +kernel
theorem dX12_init_28 : decode cX12_init 28 = .ok (.aload_n 0, 1) := by decide +kernel
theorem dX12_init_29 : decode cX12_init 29 = .ok (.bipush 12, 2) := by decide +kernel
theorem dX12_init_31 : decode cX12_init 31 = .ok (.newarray .int, 2) := by decide +kernel
theorem dX12_init_33 : decode cX12_init 33 = .ok (.putfield 48, 3) := by decide +kernel
theorem dX12_init_36 : decode cX12_init 36 = .ok (.aload_n 0, 1) := by decide +kernel
theorem dX12_init_37 : decode cX12_init 37 = .ok (.bipush 12, 2) := by decide +kernel
theorem dX12_init_39 : decode cX12_init 39 = .ok (.newarray .int, 2) := by decide +kernel
theorem dX12_init_41 : decode cX12_init 41 = .ok (.putfield 51, 3) := by decide +kernel
theorem dX12_init_44 : decode cX12_init 44 = .ok (.aload_n 0, 1) := by decide +kernel
theorem dX12_init_45 : decode cX12_init 45 = .ok (.bipush 24, 2) := by decide +kernel
theorem dX12_init_47 : decode cX12_init 47 = .ok (.newarray .int, 2) := by decide +kernel
theorem dX12_init_49 : decode cX12_init 49 = .ok (.putfield 58, 3) := by decide +kernel
theorem dX12_init_52 : decode cX12_init 52 = .ok (.aload_n 0, 1) := by decide +kernel
theorem dX12_init_53 : decode cX12_init 53 = .ok (.bipush 24, 2) := by decide +kernel
theorem dX12_init_55 : decode cX12_init 55 = .ok (.newarray .int, 2) := by decide +kernel
theorem dX12_init_57 : decode cX12_init 57 = .ok (.putfield 61, 3) := by decide +kernel
theorem dX12_init_60 : decode cX12_init 60 = .ok (.aload_n 0, 1) := by decide +kernel
theorem dX12_init_61 : decode cX12_init 61 = .ok (.bipush 24, 2) := by decide +kernel
theorem dX12_init_63 : decode cX12_init 63 = .ok (.newarray .int, 2) := by decide +kernel
theorem dX12_init_65 : decode cX12_init 65 = .ok (.putfield 64, 3) := by decide +kernel
theorem dX12_init_68 : decode cX12_init 68 = .ok (.aload_n 0, 1) := by decide +kernel
theorem dX12_init_69 : decode cX12_init 69 = .ok (.bipush 96, 2) := by decide +kernel
theorem dX12_init_71 : decode cX12_init 71 = .ok (.newarray .int, 2) := by decide +kernel
theorem dX12_init_73 : decode cX12_init 73 = .ok (.putfield 67, 3) := by decide +kernel
theorem dX12_init_76 : decode cX12_init 76 = .ok (.aload_n 0, 1) := by decide +kernel
theorem dX12_init_77 : decode cX12_init 77 = .ok (.bipush 96, 2) := by decide +kernel
theorem dX12_init_79 : decode cX12_init 79 = .ok (.newarray .int, 2) := by decide +kernel
theorem dX12_init_81 : decode cX12_init 81 = .ok (.putfield 74, 3) := by decide +kernel
theorem dX12_init_84 : decode cX12_init 84 = .ok (.aload_n 0, 1) := by decide +kernel
theorem dX12_init_85 : decode cX12_init 85 = .ok (.bipush 96, 2) := by decide +kernel
theorem dX12_init_87 : decode cX12_init 87 = .ok (.newarray .int, 2) := by decide +kernel
theorem dX12_init_89 : decode cX12_init 89 = .ok (.putfield 77, 3) := by decide +kernel
theorem dX12_init_92 : decode cX12_init 92 = .ok (.aload_n 0, 1) := by decide +kernel
theorem dX12_init_93 : decode cX12_init 93 = .ok (.bipush 96, 2) := by decide +kernel
theorem dX12_init_95 : decode cX12_init 95 = .ok (.newarray .int, 2) := by decide +kernel
theorem dX12_init_97 : decode cX12_init 97 = .ok (.putfield 80, 3) := by decide +kernel
theorem dX12_init_100 : decode cX12_init 100 = .ok (.aload_n 0, 1) := by decide +kernel
theorem dX12_init_101 : decode cX12_init 101 = .ok (.bipush 96, 2) := by decide +kernel
theorem dX12_init_103 : decode cX12_init 103 = .ok (.newarray .int, 2) := by decide +kernel
theorem dX12_init_105 : decode cX12_init 105 = .ok (.putfield 83, 3) := by decide +kernel
theorem dX12_init_108 : decode cX12_init 108 = .ok (.aload_n 0, 1) := by decide +kernel
theorem dX12_init_109 : decode cX12_init 109 = .ok (.bipush 96, 2) := by decide +kernel
theorem dX12_init_111 : decode cX12_init 111 = .ok (.newarray .int, 2) := by decide +kernel
theorem dX12_init_113 : decode cX12_init 113 = .ok (.putfield 86, 3) := by decide +kernel
theorem dX12_init_116 : decode cX12_init 116 = .ok (.aload_n 0, 1) := by decide +kernel
theorem dX12_init_117 : decode cX12_init 117 = .ok (.bipush 96, 2) := by decide +kernel
theorem dX12_init_119 : decode cX12_init 119 = .ok (.newarray .boolean, 2) := by decide +kernel
theorem dX12_init_121 : decode cX12_init 121 = .ok (.putfield 89, 3) := by decide +kernel
theorem dX12_init_124 : decode cX12_init 124 = .ok (.aload_n 0, 1) := by decide +kernel
theorem dX12_init_125 : decode cX12_init 125 = .ok (.bipush 96, 2) := by decide +kernel
theorem dX12_init_127 : decode cX12_init 127 = .ok (.newarray .boolean, 2) := by decide +kernel
theorem dX12_init_129 : decode cX12_init 129 = .ok (.putfield 93, 3) := by decide +kernel
theorem dX12_init_132 : decode cX12_init 132 = .ok (.aload_n 0, 1) := by decide +kernel
theorem dX12_init_133 : decode cX12_init 133 = .ok (.bipush 96, 2) := by decide +kernel
theorem dX12_init_135 : decode cX12_init 135 = .ok (.newarray .int, 2) := by decide +kernel
theorem dX12_init_137 : decode cX12_init 137 = .ok (.putfield 96, 3) := by decide +kernel
theorem dX12_init_140 : decode cX12_init 140 = .ok (.aload_n 0, 1) := by decide +kernel
theorem dX12_init_141 : decode cX12_init 141 = .ok (.iconst 1, 1) := by decide +kernel
theorem dX12_init_142 : decode cX12_init 142 = .ok (.putfield 22, 3) := by decide +kernel
theorem dX12_init_145 : decode cX12_init 145 = .ok (.aload_n 0, 1) := by decide +kernel
theorem dX12_init_146 : decode cX12_init 146 = .ok (.iconst 2, 1) := by decide +kernel
theorem dX12_init_147 : decode cX12_init 147 = .ok (.newarray .int, 2) := by decide +kernel
theorem dX12_init_149 : decode cX12_init 149 = .ok (.putfield 124, 3) := by decide +kernel
theorem dX12_init_152 : decode cX12_init 152 = .ok (.aload_n 0, 1) := by decide +kernel
theorem dX12_init_153 : decode cX12_init 153 = .ok (.sipush 624, 3) := by decide +kernel
theorem dX12_init_156 : decode cX12_init 156 = .ok (.newarray .int, 2) := by decide +kernel
theorem dX12_init_158 : decode cX12_init 158 = .ok (.putfield 165, 3) := by decide +kernel
theorem dX12_init_161 : decode cX12_init 161 = .ok (.aload_n 0, 1) := by decide +kernel
theorem dX12_init_162 : decode cX12_init 162 = .ok (.bipush 13, 2) := by decide +kernel
theorem dX12_init_164 : decode cX12_init 164 = .ok (.newarray .int, 2) := by decide +kernel
theorem dX12_init_166 : decode cX12_init 166 = .ok (.putfield 168, 3) := by decide +kernel
theorem dX12_init_169 : decode cX12_init 169 = .ok (.aload_n 0, 1) := by decide +kernel
theorem dX12_init_170 : decode cX12_init 170 = .ok (.bipush 48, 2) := by decide +kernel
theorem dX12_init_172 : decode cX12_init 172 = .ok (.newarray .int, 2) := by decide +kernel
theorem dX12_init_174 : decode cX12_init 174 = .ok (.putfield 241, 3) := by decide +kernel
theorem dX12_init_177 : decode cX12_init 177 = .ok (.aload_n 0, 1) := by decide +kernel
theorem dX12_init_178 : decode cX12_init 178 = .ok (.bipush 60, 2) := by decide +kernel
theorem dX12_init_180 : decode cX12_init 180 = .ok (.newarray .int, 2) := by decide +kernel
theorem dX12_init_182 : decode cX12_init 182 = .ok (.putfield 143, 3) := by decide +kernel
theorem dX12_init_185 : decode cX12_init 185 = .ok (.aload_n 0, 1) := by decide +kernel
theorem dX12_init_186 : decode cX12_init 186 = .ok (.iconst 2, 1) := by decide +kernel
theorem dX12_init_187 : decode cX12_init 187 = .ok (.newarray .int, 2) := by decide +kernel
theorem dX12_init_189 : decode cX12_init 189 = .ok (.putfield 263, 3) := by decide +kernel
theorem dX12_init_192 : decode cX12_init 192 = .ok (.aload_n 0, 1) := by decide +kernel
theorem dX12_init_193 : decode cX12_init 193 = .ok (.iconst 2, 1) := by decide +kernel
theorem dX12_init_194 : decode cX12_init 194 = .ok (.newarray .int, 2) := by decide +kernel
theorem dX12_init_196 : decode cX12_init 196 = .ok (.putfield 266, 3) := by decide +kernel
theorem dX12_init_199 : decode cX12_init 199 = .ok (.aload_n 0, 1) := by decide +kernel
theorem dX12_init_200 : decode cX12_init 200 = .ok (.sipush 192, 3) := by decide +kernel
theorem dX12_init_203 : decode cX12_init 203 = .ok (.newarray .long, 2) := by decide +kernel
theorem dX12_init_205 : decode cX12_init 205 = .ok (.putfield 290, 3) := by decide +kernel
theorem dX12_init_208 : decode cX12_init 208 = .ok (.aload_n 0, 1) := by decide +kernel
theorem dX12_init_209 : decode cX12_init 209 = .ok (.sipush 192, 3) := by decide +kernel
theorem dX12_init_212 : decode cX12_init 212 = .ok (.newarray .long, 2) := by decide +kernel
theorem dX12_init_214 : decode cX12_init 214 = .ok (.putfield 297, 3) := by decide +kernel
theorem dX12_init_217 : decode cX12_init 217 = .ok (.aload_n 0, 1) := by decide +kernel
theorem dX12_init_218 : decode cX12_init 218 = .ok (.bipush 12, 2) := by decide +kernel
theorem dX12_init_220 : decode cX12_init 220 = .ok (.newarray .int, 2) := by decide +kernel
theorem dX12_init_222 : decode cX12_init 222 = .ok (.putfield 307, 3) := by decide +kernel
theorem dX12_init_225 : decode cX12_init 225 = .ok (.aload_n 0, 1) := by decide +kernel
theorem dX12_init_226 : decode cX12_init 226 = .ok (.bipush 12, 2) := by decide +kernel
theorem dX12_init_228 : decode cX12_init 228 = .ok (.newarray .int, 2) := by decide +kernel
theorem dX12_init_230 : decode cX12_init 230 = .ok (.putfield 310, 3) := by decide +kernel
theorem dX12_init_233 : decode cX12_init 233 = .ok (.aload_n 0, 1) := by decide +kernel
theorem dX12_init_234 : decode cX12_init 234 = .ok (.iconst 4, 1) := by decide +kernel
theorem dX12_init_235 : decode cX12_init 235 = .ok (.newarray .int, 2) := by decide +kernel
theorem dX12_init_237 : decode cX12_init 237 = .ok (.dup, 1) := by decide +kernel
theorem dX12_init_238 : decode cX12_init 238 = .ok (.iconst 0, 1) := by decide +kernel
theorem dX12_init_239 : decode cX12_init 239 = .ok (.bipush 30, 2) := by decide +kernel
theorem dX12_init_241 : decode cX12_init 241 = .ok (.iastore, 1) := by decide +kernel
theorem dX12_init_242 : decode cX12_init 242 = .ok (.dup, 1) := by decide +kernel
theorem dX12_init_243 : decode cX12_init 243 = .ok (.iconst 1, 1) := by decide +kernel
theorem dX12_init_244 : decode cX12_init 244 = .ok (.bipush 30, 2) := by decide +kernel
theorem dX12_init_246 : decode cX12_init 246 = .ok (.iastore, 1) := by decide +kernel
theorem dX12_init_247 : decode cX12_init 247 = .ok (.dup, 1) := by decide +kernel
theorem dX12_init_248 : decode cX12_init 248 = .ok (.iconst 2, 1) := by decide +kernel
theorem dX12_init_249 : decode cX12_init 249 = .ok (.bipush 30, 2) := by decide +kernel
theorem dX12_init_251 : decode cX12_init 251 = .ok (.iastore, 1) := by decide +kernel
theorem dX12_init_252 : decode cX12_init 252 = .ok (.dup, 1) := by decide +kernel
theorem dX12_init_253 : decode cX12_init 253 = .ok (.iconst 3, 1) := by decide +kernel
theorem dX12_init_254 : decode cX12_init 254 = .ok (.iconst 0, 1) := by decide +kernel
theorem dX12_init_255 : decode cX12_init 255 = .ok (.iastore, 1) := by decide +kernel
theorem dX12_init_256 : decode cX12_init 256 = .ok (.putfield 367, 3) := by decide +kernel
theorem dX12_init_259 : decode cX12_init 259 = .ok (.aload_n 0, 1) := by decide +kernel
theorem dX12_init_260 : decode cX12_init 260 = .ok (.iconst 4, 1) := by decide +kernel
theorem dX12_init_261 : decode cX12_init 261 = .ok (.newarray .int, 2) := by decide +kernel
theorem dX12_init_263 : decode cX12_init 263 = .ok (.dup, 1) := by decide +kernel
theorem dX12_init_264 : decode cX12_init 264 = .ok (.iconst 0, 1) := by decide +kernel
theorem dX12_init_265 : decode cX12_init 265 = .ok (.bipush 30, 2) := by decide +kernel
theorem dX12_init_267 : decode cX12_init 267 = .ok (.iastore, 1) := by decide +kernel
theorem dX12_init_268 : decode cX12_init 268 = .ok (.dup, 1) := by decide +kernel
theorem dX12_init_269 : decode cX12_init 269 = .ok (.iconst 1, 1) := by decide +kernel
theorem dX12_init_270 : decode cX12_init 270 = .ok (.bipush 15, 2) := by decide +kernel
theorem dX12_init_272 : decode cX12_init 272 = .ok (.iastore, 1) := by decide +kernel
theorem dX12_init_273 : decode cX12_init 273 = .ok (.dup, 1) := by decide +kernel
theorem dX12_init_274 : decode cX12_init 274 = .ok (.iconst 2, 1) := by decide +kernel
theorem dX12_init_275 : decode cX12_init 275 = .ok (.iconst 0, 1) := by decide +kernel
theorem dX12_init_276 : decode cX12_init 276 = .ok (.iastore, 1) := by decide +kernel
theorem dX12_init_277 : decode cX12_init 277 = .ok (.dup, 1) := by decide +kernel
theorem dX12_init_278 : decode cX12_init 278 = .ok (.iconst 3, 1) := by decide +kernel
theorem dX12_init_279 : decode cX12_init 279 = .ok (.iconst 0, 1) := by decide +kernel
theorem dX12_init_280 : decode cX12_init 280 = .ok (.iastore, 1) := by decide +kernel
theorem dX12_init_281 : decode cX12_init 281 = .ok (.putfield 370, 3) := by decide +kernel
theorem dX12_init_284 : decode cX12_init 284 = .ok (.aload_n 0, 1) := by decide +kernel
theorem dX12_init_285 : decode cX12_init 285 = .ok (.iconst 4, 1) := by decide +kernel
theorem dX12_init_286 : decode cX12_init 286 = .ok (.newarray .int, 2) := by decide +kernel
theorem dX12_init_288 : decode cX12_init 288 = .ok (.dup, 1) := by decide +kernel
theorem dX12_init_289 : decode cX12_init 289 = .ok (.iconst 0, 1) := by decide +kernel
theorem dX12_init_290 : decode cX12_init 290 = .ok (.iconst 1, 1) := by decide +kernel
theorem dX12_init_291 : decode cX12_init 291 = .ok (.iastore, 1) := by decide +kernel
theorem dX12_init_292 : decode cX12_init 292 = .ok (.dup, 1) := by decide +kernel
theorem dX12_init_293 : decode cX12_init 293 = .ok (.iconst 1, 1) := by decide +kernel
theorem dX12_init_294 : decode cX12_init 294 = .ok (.iconst 1, 1) := by decide +kernel
theorem dX12_init_295 : decode cX12_init 295 = .ok (.iastore, 1) := by decide +kernel
theorem dX12_init_296 : decode cX12_init 296 = .ok (.dup, 1) := by decide +kernel
theorem dX12_init_297 : decode cX12_init 297 = .ok (.iconst 2, 1) := by decide +kernel
theorem dX12_init_298 : decode cX12_init 298 = .ok (.iconst 1, 1) := by decide +kernel
theorem dX12_init_299 : decode cX12_init 299 = .ok (.iastore, 1) := by decide +kernel
theorem dX12_init_300 : decode cX12_init 300 = .ok (.dup, 1) := by decide +kernel
theorem dX12_init_301 : decode cX12_init 301 = .ok (.iconst 3, 1) := by decide +kernel
theorem dX12_init_302 : decode cX12_init 302 = .ok (.iconst 1, 1) := by decide +kernel
theorem dX12_init_303 : decode cX12_init 303 = .ok (.iastore, 1) := by decide +kernel
theorem dX12_init_304 : decode cX12_init 304 = .ok (.putfield 373, 3) := by decide +kernel
theorem dX12_init_307 : decode cX12_init 307 = .ok (.aload_n 0, 1) := by decide +kernel
theorem dX12_init_308 : decode cX12_init 308 = .ok (.iconst 2, 1) := by decide +kernel
theorem dX12_init_309 : decode cX12_init 309 = .ok (.newarray .int, 2) := by decide +kernel
theorem dX12_init_311 : decode cX12_init 311 = .ok (.putfield 351, 3) := by decide +kernel
theorem dX12_init_314 : decode cX12_init 314 = .ok (.aload_n 0, 1) := by decide +kernel
theorem dX12_init_315 : decode cX12_init 315 = .ok (.iconst 2, 1) := by decide +kernel
theorem dX12_init_316 : decode cX12_init 316 = .ok (.newarray .int, 2) := by decide +kernel
theorem dX12_init_318 : decode cX12_init 318 = .ok (.putfield 354, 3) := by decide +kernel
theorem dX12_init_321 : decode cX12_init 321 = .ok (.aload_n 0, 1) := by decide +kernel
theorem dX12_init_322 : decode cX12_init 322 = .ok (.bipush 80, 2) := by decide +kernel
theorem dX12_init_324 : decode cX12_init 324 = .ok (.newarray .int, 2) := by decide +kernel
theorem dX12_init_326 : decode cX12_init 326 = .ok (.putfield 407, 3) := by decide +kernel
theorem dX12_init_329 : decode cX12_init 329 = .ok (.aload_n 0, 1) := by decide +kernel
theorem dX12_init_330 : decode cX12_init 330 = .ok (.bipush 80, 2) := by decide +kernel
theorem dX12_init_332 : decode cX12_init 332 = .ok (.newarray .int, 2) := by decide +kernel
theorem dX12_init_334 : decode cX12_init 334 = .ok (.putfield 397, 3) := by decide +kernel
theorem dX12_init_337 : decode cX12_init 337 = .ok (.aload_n 0, 1) := by decide +kernel
theorem dX12_init_338 : decode cX12_init 338 = .ok (.bipush 96, 2) := by decide +kernel
theorem dX12_init_340 : decode cX12_init 340 = .ok (.newarray .long, 2) := by decide +kernel
theorem dX12_init_342 : decode cX12_init 342 = .ok (.putfield 394, 3) := by decide +kernel
theorem dX12_init_345 : decode cX12_init 345 = .ok (.aload_n 0, 1) := by decide +kernel
theorem dX12_init_346 : decode cX12_init 346 = .ok (.iconst 4, 1) := by decide +kernel
theorem dX12_init_347 : decode cX12_init 347 = .ok (.newarray .int, 2) := by decide +kernel
theorem dX12_init_349 : decode cX12_init 349 = .ok (.putfield 404, 3) := by decide +kernel
theorem dX12_init_352 : decode cX12_init 352 = .ok (.aload_n 0, 1) := by decide +kernel
theorem dX12_init_353 : decode cX12_init 353 = .ok (.iconst 4, 1) := by decide +kernel
theorem dX12_init_354 : decode cX12_init 354 = .ok (.newarray .int, 2) := by decide +kernel
theorem dX12_init_356 : decode cX12_init 356 = .ok (.putfield 422, 3) := by decide +kernel
theorem dX12_init_359 : decode cX12_init 359 = .ok (.aload_n 0, 1) := by decide +kernel
theorem dX12_init_360 : decode cX12_init 360 = .ok (.bipush 24, 2) := by decide +kernel
theorem dX12_init_362 : decode cX12_init 362 = .ok (.newarray .long, 2) := by decide +kernel
theorem dX12_init_364 : decode cX12_init 364 = .ok (.putfield 425, 3) := by decide +kernel
theorem dX12_init_367 : decode cX12_init 367 = .ok (.aload_n 0, 1) := by decide +kernel
theorem dX12_init_368 : decode cX12_init 368 = .ok (.bipush 24, 2) := by decide +kernel
theorem dX12_init_370 : decode cX12_init 370 = .ok (.newarray .int, 2) := by decide +kernel
theorem dX12_init_372 : decode cX12_init 372 = .ok (.putfield 439, 3) := by decide +kernel
theorem dX12_init_375 : decode cX12_init 375 = .ok (.aload_n 0, 1) := by decide +kernel
theorem dX12_init_376 : decode cX12_init 376 = .ok (.iconst 4, 1) := by decide +kernel
theorem dX12_init_377 : decode cX12_init 377 = .ok (.newarray .int, 2) := by decide +kernel
theorem dX12_init_379 : decode cX12_init 379 = .ok (.putfield 442, 3) := by decide +kernel
theorem dX12_init_382 : decode cX12_init 382 = .ok (.aload_n 0, 1) := by decide +kernel
theorem dX12_init_383 : decode cX12_init 383 = .ok (.iconst 4, 1) := by decide +kernel
theorem dX12_init_384 : decode cX12_init 384 = .ok (.newarray .int, 2) := by decide +kernel
theorem dX12_init_386 : decode cX12_init 386 = .ok (.putfield 445, 3) := by decide +kernel
theorem dX12_init_389 : decode cX12_init 389 = .ok (.aload_n 0, 1) := by decide +kernel
theorem dX12_init_390 : decode cX12_init 390 = .ok (.bipush 40, 2) := by decide +kernel
theorem dX12_init_392 : decode cX12_init 392 = .ok (.newarray .int, 2) := by decide +kernel
theorem dX12_init_394 : decode cX12_init 394 = .ok (.putfield 472, 3) := by decide +kernel
theorem dX12_init_397 : decode cX12_init 397 = .ok (.aload_n 0, 1) := by decide +kernel
theorem dX12_init_398 : decode cX12_init 398 = .ok (.bipush 40, 2) := by decide +kernel
theorem dX12_init_400 : decode cX12_init 400 = .ok (.newarray .int, 2) := by decide +kernel
theorem dX12_init_402 : decode cX12_init 402 = .ok (.putfield 475, 3) := by decide +kernel
theorem dX12_init_405 : decode cX12_init 405 = .ok (.aload_n 0, 1) := by decide +kernel
theorem dX12_init_406 : decode cX12_init 406 = .ok (.bipush 40, 2) := by decide +kernel
theorem dX12_init_408 : decode cX12_init 408 = .ok (.newarray .int, 2) := by decide +kernel
theorem dX12_init_410 : decode cX12_init 410 = .ok (.putfield 478, 3) := by decide +kernel
theorem dX12_init_413 : decode cX12_init 413 = .ok (.aload_n 0, 1) := by decide +kernel
theorem dX12_init_414 : decode cX12_init 414 = .ok (.sipush 1360, 3) := by decide +kernel
theorem dX12_init_417 : decode cX12_init 417 = .ok (.newarray .int, 2) := by decide +kernel
theorem dX12_init_419 : decode cX12_init 419 = .ok (.putfield 496, 3) := by decide +kernel
theorem dX12_init_422 : decode cX12_init 422 = .ok (.aload_n 0, 1) := by decide +kernel
theorem dX12_init_423 : decode cX12_init 423 = .ok (.bipush 80, 2) := by decide +kernel
theorem dX12_init_425 : decode cX12_init 425 = .ok (.newarray .int, 2) := by decide +kernel
theorem dX12_init_427 : decode cX12_init 427 = .ok (.putfield 499, 3) := by decide +kernel
theorem dX12_init_430 : decode cX12_init 430 = .ok (.aload_n 0, 1) := by decide +kernel
theorem dX12_init_431 : decode cX12_init 431 = .ok (.bipush 17, 2) := by decide +kernel
theorem dX12_init_433 : decode cX12_init 433 = .ok (.newarray .int, 2) := by decide +kernel
theorem dX12_init_435 : decode cX12_init 435 = .ok (.putfield 527, 3) := by decide +kernel
theorem dX12_init_438 : decode cX12_init 438 = .ok (.aload_n 0, 1) := by decide +kernel
theorem dX12_init_439 : decode cX12_init 439 = .ok (.iconst 3, 1) := by decide +kernel
theorem dX12_init_440 : decode cX12_init 440 = .ok (.newarray .int, 2) := by decide +kernel
theorem dX12_init_442 : decode cX12_init 442 = .ok (.dup, 1) := by decide +kernel
theorem dX12_init_443 : decode cX12_init 443 = .ok (.iconst 0, 1) := by decide +kernel
theorem dX12_init_444 : decode cX12_init 444 = .ok (.iconst (-1), 1) := by decide +kernel
theorem dX12_init_445 : decode cX12_init 445 = .ok (.iastore, 1) := by decide +kernel
theorem dX12_init_446 : decode cX12_init 446 = .ok (.dup, 1) := by decide +kernel
theorem dX12_init_447 : decode cX12_init 447 = .ok (.iconst 1, 1) := by decide +kernel
theorem dX12_init_448 : decode cX12_init 448 = .ok (.iconst (-1), 1) := by decide +kernel
theorem dX12_init_449 : decode cX12_init 449 = .ok (.iastore, 1) := by decide +kernel
theorem dX12_init_450 : decode cX12_init 450 = .ok (.dup, 1) := by decide +kernel
theorem dX12_init_451 : decode cX12_init 451 = .ok (.iconst 2, 1) := by decide +kernel
theorem dX12_init_452 : decode cX12_init 452 = .ok (.iconst (-1), 1) := by decide +kernel
theorem dX12_init_453 : decode cX12_init 453 = .ok (.iastore, 1) := by decide +kernel
theorem dX12_init_454 : decode cX12_init 454 = .ok (.putfield 530, 3) := by decide +kernel
theorem dX12_init_457 : decode cX12_init 457 = .ok (.aload_n 0, 1) := by decide +kernel
theorem dX12_init_458 : decode cX12_init 458 = .ok (.iconst 3, 1) := by decide +kernel
theorem dX12_init_459 : decode cX12_init 459 = .ok (.newarray .int, 2) := by decide +kernel
theorem dX12_init_461 : decode cX12_init 461 = .ok (.putfield 533, 3) := by decide +kernel
theorem dX12_init_464 : decode cX12_init 464 = .ok (.aload_n 0, 1) := by decide +kernel
theorem dX12_init_465 : decode cX12_init 465 = .ok (.sipush 288, 3) := by decide +kernel
theorem dX12_init_468 : decode cX12_init 468 = .ok (.newarray .int, 2) := by decide +kernel
theorem dX12_init_470 : decode cX12_init 470 = .ok (.putfield 536, 3) := by decide +kernel
theorem dX12_init_473 : decode cX12_init 473 = .ok (.return_, 1) := by decide +kernel
theorem dX12_row_0 : decode cX12_row 0 = .ok (.aload_n 0, 1) := by decide +kernel
theorem dX12_row_1 : decode cX12_row 1 = .ok (.iconst 0, 1) := by decide +kernel
theorem dX12_row_2 : decode cX12_row 2 = .ok (.putfield 3, 3) := by decide +kernel
theorem dX12_row_5 : decode cX12_row 5 = .ok (.iload_n 1, 1) := by decide +kernel
theorem dX12_row_6 : decode cX12_row 6 = .ok (.i2l, 1) := by decide +kernel
theorem dX12_row_7 : decode cX12_row 7 = .ok (.lconst 0, 1) := by decide +kernel
theorem dX12_row_8 : decode cX12_row 8 = .ok (.aload_n 0, 1) := by decide +kernel
theorem dX12_row_9 : decode cX12_row 9 = .ok (.getfield 11, 3) := by decide +kernel
theorem dX12_row_12 : decode cX12_row 12 = .ok (.iconst 1, 1) := by decide +kernel
theorem dX12_row_13 : decode cX12_row 13 = .ok (.isub, 1) := by decide +kernel
theorem dX12_row_14 : decode cX12_row 14 = .ok (.i2l, 1) := by decide +kernel
theorem dX12_row_15 : decode cX12_row 15 = .ok (.invokestatic 29, 3) := by decide +kernel
theorem dX12_row_18 : decode cX12_row 18 = .ok (.ifCond .ne 10, 3) := by decide +kernel
theorem dX12_row_21 : decode cX12_row 21 = .ok (.aload_n 0, 1) := by decide +kernel
theorem dX12_row_22 : decode cX12_row 22 = .ok (.iconst 1, 1) := by decide +kernel
theorem dX12_row_23 : decode cX12_row 23 = .ok (.putfield 3, 3) := by decide +kernel
theorem dX12_row_26 : decode cX12_row 26 = .ok (.lconst 0, 1) := by decide +kernel
theorem dX12_row_27 : decode cX12_row 27 = .ok (.lreturn, 1) := by decide +kernel
theorem dX12_row_28 : decode cX12_row 28 = .ok (.aload_n 0, 1) := by decide +kernel
theorem dX12_row_29 : decode cX12_row 29 = .ok (.getfield 7, 3) := by decide +kernel
theorem dX12_row_32 : decode cX12_row 32 = .ok (.iload_n 1, 1) := by decide +kernel
theorem dX12_row_33 : decode cX12_row 33 = .ok (.laload, 1) := by decide +kernel
theorem dX12_row_34 : decode cX12_row 34 = .ok (.lreturn, 1) := by decide +kernel
